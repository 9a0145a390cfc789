/-! MATHEMATICS, 12: makes of the reference -/
/-- what makes may change -/
def FK (μ μ' : Mem) : Prop := ∀ c i k, ¬ (c = 73 ∨ c = 74 ∨ (c = 11 ∧ 51 ≤ k ∧ k ≤ 63)) → μ' c i k = μ c i k
theorem FK.trans {μ μ' μ'' : Mem} (h : FK μ μ') (h2 : FK μ' μ'') : FK μ μ'' := fun a b e z => (h2 a b e z).trans (h a b e z)
theorem FMp.k {p q : Nat} {μ μ' : Mem} (h : FMp p q μ μ') (hp : 51 ≤ p) (hq : q ≤ 63) : FK μ μ' := fun c i k z => h c i k (by omega)
def FB (j : Nat) (μ μ' : Mem) : Prop := ∀ c i k, ¬ ((c = 73 ∨ c = 74) ∧ k = j) → μ' c i k = μ c i k
theorem FB.k {j : Nat} {μ μ' : Mem} (h : FB j μ μ') : FK μ μ' := fun c i k z => h c i k (by omega)
theorem FB.beg {i j : Nat} {μ μ' : Mem} {u l : Int} (h : FB j μ μ') (b : Beg μ i u l) (hij : i ≠ j) : Beg μ' i u l := by
  unfold Beg
  rw [h 73 0 i (by omega), h 74 0 i (by omega)]
  exact b
theorem FB.c {j c : Nat} {μ μ' : Mem} (h : FB j μ μ') (h1 : c ≠ 73) (h2 : c ≠ 74) : μ' c = μ c := by
  funext i k
  exact h _ _ _ (by omega)
theorem FK.c {c : Nat} {μ μ' : Mem} (h : FK μ μ') (h1 : c ≠ 73) (h2 : c ≠ 74) (h3 : c ≠ 11) : μ' c = μ c := by
  funext i k
  exact h _ _ _ (by omega)
theorem FK.f {k : Nat} {μ μ' : Mem} (h : FK μ μ') (hk : k < 51 ∨ 63 < k) : μ' 11 0 k = μ 11 0 k := h _ _ _ (by omega)
theorem FK.g {μ μ' : Mem} (h : FK μ μ') : gM μ' = gM μ := by
  funext w k
  unfold gM
  rw [h.f (k := 18) (by omega), h.c (c := 48) (by decide) (by decide) (by decide), h.c (c := 54) (by decide) (by decide) (by decide)]
  by_cases hk : k = 5
  · rw [if_pos hk, if_pos hk]
  · rw [if_neg hk, if_neg hk]
    by_cases h5 : k < 5
    · rw [if_pos h5, if_pos h5, h _ _ _ (by omega)]
    · rw [if_neg h5, if_neg h5]
theorem FK.mok {μ μ' : Mem} (h : FK μ μ') (hM : MOK μ) : MOK μ' := by
  unfold MOK liv
  rw [h.g, h.f (k := 18) (by omega), h.c (c := 48) (by decide) (by decide) (by decide), h.c (c := 54) (by decide) (by decide) (by decide)]
  exact hM
theorem FK.w1 {k : Nat} {μ : Mem} {v : Int} (h : 51 ≤ k ∧ k ≤ 63) : FK μ (wr μ 11 0 k v) := fun _ _ _ z => if_neg fun y => z (Or.inr (Or.inr ⟨y.1, by have := y.2.2; omega⟩))
theorem sp_begins {sc : Scr} {d t : Nat} {μ : Mem} {Q : Mem → Prop} {i : Nat} {u l : Int} (hi : i < 4) (h : ∀ μ', FB i μ μ' → Beg μ' i u l → Q μ') : RMv sc (d + 1) 11041 [rfc 11 0, .inl (i : Int), .inl u, .inl l] (t, 0, 0) μ Q := by
  refine m_11041 ⟨by omega, by omega, h _ (fun c j k z => ?_) ⟨?_, ?_⟩⟩
  · rw [Int.toNat_natCast]
    have q1 : wr (wr μ 73 0 i u) 74 0 i l c j k = wr μ 73 0 i u c j k := if_neg fun y => z ⟨Or.inr y.1, y.2.2⟩
    rw [q1]
    exact if_neg fun y => z ⟨Or.inl y.1, y.2.2⟩
  · rw [Int.toNat_natCast, wr_c (by decide), wr_same]
  · rw [Int.toNat_natCast, wr_same]
theorem sp_img0 {sc : Scr} {d t : Nat} {μ : Mem} {Q : Mem → Prop} (h : Q μ) : RMv sc (d + 1) 11040 [rfc 11 0, .inl (-1)] (t, 0, 0) μ Q := m_11040 ⟨fun c => absurd rfl c, fun _ => h⟩
theorem sp_img {sc : Scr} {d t : Nat} {μ : Mem} {Q : Mem → Prop} {a : Nat} {x y : Int} (hl : liv μ) (ha : a < 9) (hg : gok (gM μ) a) (ex : μ 11 0 51 = x) (ey : μ 11 0 52 = y) (bx : -300 ≤ x ∧ x ≤ 300) (by' : -300 ≤ y ∧ y ≤ 300)
    (h : ∀ μ', FMp 51 52 μ μ' → μ' 11 0 51 = lyX (gM μ) a x → μ' 11 0 52 = lyY (gM μ) a y → Q μ') : RMv sc (d + 1) 11040 [rfc 11 0, .inl (a : Int)] (t, 0, 0) μ Q := by
  have g0 := hg.1
  have g1 := hg.2.1
  have k0 : gM μ a 0 = μ 49 0 ((9 * (μ 11 0 18)) + (a : Int)).toNat := gM_k _ _ (by decide)
  have k1 : gM μ a 1 = μ 50 0 ((9 * (μ 11 0 18)) + (a : Int)).toNat := gM_k _ _ (by decide)
  unfold liv at hl
  rw [k1] at g1
  refine m_11040 ⟨fun _ => ⟨by omega, by omega, by omega, fun c => ?_, fun c => ?_⟩, fun c => absurd (by omega) c⟩
  · refine ⟨by omega, by omega, by omega, h _ (FMp.w1 (by decide)) ?_ ?_⟩
    · unfold lyX
      rw [k0, k1, if_pos c, wr_same, ex]
    · unfold lyY
      rw [k0, if_pos c, wr_k (by decide), ey]
  · refine ⟨by omega, by omega, by omega, h _ (FMp.w1 (by decide)) ?_ ?_⟩
    · unfold lyX
      rw [k0, if_neg c, wr_k (by decide), ex]
    · unfold lyY
      rw [k0, k1, if_neg c, wr_same, ey]
