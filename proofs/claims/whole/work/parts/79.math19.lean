/-! MATHEMATICS, 19: the order of returns -/
abbrev E4 : Type := Int × Int × Int × Int
abbrev behE (x e : E4) : Prop := (x.2.1 ≠ e.2.1 ∧ e.2.1 < x.2.1) ∨ (x.2.1 = e.2.1 ∧ ((x.2.2.1 ≠ e.2.2.1 ∧ x.2.2.1 < e.2.2.1) ∨ (x.2.2.1 = e.2.2.1 ∧ e.1 < x.1)))
def xE (μ : Mem) (i : Nat) : E4 := ⟨μ 31 0 i, μ 32 0 i, μ 33 0 i, μ 34 0 i⟩
def mE (μ : Mem) (i : Nat) : E4 := ⟨μ 75 0 i, μ 76 0 i, μ 77 0 i, μ 78 0 i⟩
theorem sp_behind {sc : Scr} {d t : Nat} {μ : Mem} {Q : Int → Mem → Prop} {i : Nat} {n tm l len : Int} (hi : i < 82) (h1 : behE (xE μ i) (n, tm, l, len) → Q 1 μ) (h0 : ¬ behE (xE μ i) (n, tm, l, len) → Q 0 μ) : RMi sc (d + 1) 5002 [rfc 5 0, .inl (i : Int), .inl n, .inl tm, .inl l] (t, 0, 0) μ Q := by
  unfold behE xE at h1 h0
  simp only [] at h1 h0
  refine m_5002 ?_
  rw [Int.toNat_natCast]
  refine ⟨by omega, fun c => ⟨by omega, fun c2 => ⟨by omega, fun c3 => h0 (by omega), fun c3 => h1 (by omega)⟩, fun c2 => ⟨by omega, fun c3 => h0 (by omega), fun c3 => h1 (by omega)⟩⟩, fun c => ⟨by omega, fun c3 => h0 (by omega), fun c3 => h1 (by omega)⟩⟩
theorem sp_ahead {sc : Scr} {d t : Nat} {μ : Mem} {Q : Int → Mem → Prop} {i : Nat} {n tm l len : Int} (hi : i < 90) (hne : μ 75 0 i ≠ n) (h1 : behE (mE μ i) (n, tm, l, len) → Q 0 μ) (h0 : ¬ behE (mE μ i) (n, tm, l, len) → Q 1 μ) : RMi sc (d + 1) 11056 [rfc 11 0, .inl (i : Int), .inl tm, .inl l, .inl n] (t, 0, 0) μ Q := by
  unfold behE mE at h1 h0
  simp only [] at h1 h0
  refine m_11056 ?_
  rw [Int.toNat_natCast]
  refine ⟨by omega, fun c => ⟨by omega, fun c2 => ⟨by omega, fun c3 => h1 (by omega), fun c3 => h0 (by omega)⟩, fun c2 => ⟨by omega, fun c3 => h1 (by omega), fun c3 => h0 (by omega)⟩⟩, fun c => ⟨by omega, fun c3 => h1 (by omega), fun c3 => h0 (by omega)⟩⟩
/-- where a return comes to lie -/
def posE (f : Nat → E4) (e : E4) : Nat → Nat
  | 0 => 0
  | n + 1 => if behE (f n) e then posE f e n else n + 1
def insE (f : Nat → E4) (e : E4) (n i : Nat) : E4 := if i < posE f e n then f i else if i = posE f e n then e else f (i - 1)
theorem posE_le (f : Nat → E4) (e : E4) : ∀ n, posE f e n ≤ n
  | 0 => Nat.le_refl _
  | n + 1 => by
    unfold posE
    split
    · exact Nat.le_succ_of_le (posE_le f e n)
    · exact Nat.le_refl _
/-- changed: only the kinds 31..34 and fields of 5 -/
def FR (μ μ' : Mem) : Prop := ∀ c, ¬ (31 ≤ c ∧ c ≤ 34) → c ≠ 5 → μ' c = μ c
theorem xE_wr {μ : Mem} {i k : Nat} {a b c e : Int} : xE (wr (wr (wr (wr μ 31 0 i a) 32 0 i b) 33 0 i c) 34 0 i e) k = if k = i then (a, b, c, e) else xE μ k := by
  unfold xE
  by_cases h : k = i
  · subst h
    rw [if_pos rfl]
    simp [wr]
  · rw [if_neg h]
    simp [wr, h]
theorem FR.w {μ : Mem} {c i k : Nat} {v : Int} (h : (31 ≤ c ∧ c ≤ 34) ∨ c = 5) : FR μ (wr μ c i k v) := fun c' h1 h2 => wr_c (by omega)
theorem FR.trans {μ μ' μ'' : Mem} (h : FR μ μ') (h2 : FR μ' μ'') : FR μ μ'' := fun c a b => (h2 c a b).trans (h c a b)
theorem L5001 {sc : Scr} {d t : Nat} {μ : Mem} {P : Option AV → AS → Prop} {n tm l len : Int} {N : Nat} {f : Nat → E4} (hN : N < 82)
    (h : ∀ μ', FR μ μ' → (∀ i, i ≤ N → xE μ' i = insE f (n, tm, l, len) N i) → μ' 5 0 4 = (N : Int) + 1 → P none (fs (t, 0, 0) μ')) :
    ∀ (k : Nat) (μ' : Mem), k ≤ N → FR μ μ' → μ' 5 0 4 = (N : Int) → (∀ i, i < k → xE μ' i = f i) → (∀ i, k < i → i ≤ N → xE μ' i = f (i - 1)) → posE f (n, tm, l, len) N = posE f (n, tm, l, len) k →
    R_5001 sc (d + 1) P t 16 [rfc 5 0, .inl n, .inl tm, .inl l, .inl len, .inl (k : Int)] [] μ' := by
  have fin : ∀ (k : Nat) (μ' : Mem), k ≤ N → FR μ μ' → μ' 5 0 4 = (N : Int) → (∀ i, i < k → xE μ' i = f i) → (∀ i, k < i → i ≤ N → xE μ' i = f (i - 1)) → posE f (n, tm, l, len) N = k →
      P none (fs (t, 0, 0) (wr (wr (wr (wr (wr μ' 31 0 k n) 32 0 k tm) 33 0 k l) 34 0 k len) 5 0 4 ((wr (wr (wr (wr μ' 31 0 k n) 32 0 k tm) 33 0 k l) 34 0 k len) 5 0 4 + 1))) := by
    intro k μ' hk hF h4 hlo hhi hpos
    refine h _ (hF.trans (FR.trans (FR.trans (FR.trans (FR.trans (FR.w (by decide)) (FR.w (by decide))) (FR.w (by decide))) (FR.w (by decide))) (FR.w (by decide)))) (fun i hi => ?_) ?_
    · have e : xE (wr (wr (wr (wr (wr μ' 31 0 k n) 32 0 k tm) 33 0 k l) 34 0 k len) 5 0 4 ((wr (wr (wr (wr μ' 31 0 k n) 32 0 k tm) 33 0 k l) 34 0 k len) 5 0 4 + 1)) i = xE (wr (wr (wr (wr μ' 31 0 k n) 32 0 k tm) 33 0 k l) 34 0 k len) i := by
        unfold xE
        rw [wr_c (c := 5) (c' := 31) (by decide), wr_c (c := 5) (c' := 32) (by decide), wr_c (c := 5) (c' := 33) (by decide), wr_c (c := 5) (c' := 34) (by decide)]
      rw [e, xE_wr]
      unfold insE
      rw [hpos]
      by_cases q : i < k
      · rw [if_pos q, if_neg (by omega), hlo i q]
      · rw [if_neg q]
        by_cases q2 : i = k
        · rw [if_pos q2, if_pos q2]
        · rw [if_neg q2, if_neg q2, hhi i (by omega) hi]
    · rw [wr_same, wr_c (by decide), wr_c (by decide), wr_c (by decide), wr_c (by decide), h4]
  intro k
  induction k with
  | zero =>
    intro μ' hk hF h4 hlo hhi hpos
    refine m_5001_16 ⟨fun _ => ⟨by omega, by omega, by omega, by omega, ?_, ?_⟩, fun c => absurd (by omega) c⟩
    · rw [wr_c (by decide), wr_c (by decide), wr_c (by decide), wr_c (by decide), h4]; omega
    · exact fin 0 μ' hk hF h4 hlo hhi hpos
  | succ k ih =>
    intro μ' hk hF h4 hlo hhi hpos
    have e1 : ((k + 1 : Nat) : Int) - 1 = (k : Int) := by omega
    have e2 : ((k + 1 : Nat) : Int) + (-1) = (k : Int) := by omega
    refine m_5001_16 ⟨fun c => absurd c (by omega), fun _ => ?_⟩
    rw [e1, e2]
    have hk0 := hlo k (Nat.lt_succ_self k)
    refine ⟨by omega, sp_behind (len := len) (by omega) (fun hb => ⟨fun c => absurd c (by decide), fun _ => ?_⟩) (fun hb => ⟨fun _ => ⟨by omega, by omega, by omega, by omega, ?_, ?_⟩, fun c => absurd rfl c⟩)⟩
    · rw [Int.toNat_natCast, Int.toNat_natCast]
      refine ⟨by omega, by omega, by omega, by omega, by omega, by omega, by omega, by omega, by omega, by omega, by omega, by omega, by omega, ?_⟩
      rw [hk0] at hb
      rw [wr_c (c := 31) (c' := 32) (by decide), wr_c (c := 32) (c' := 33) (by decide), wr_c (c := 31) (c' := 33) (by decide), wr_c (c := 33) (c' := 34) (by decide), wr_c (c := 32) (c' := 34) (by decide), wr_c (c := 31) (c' := 34) (by decide)]
      refine ih _ (by omega) (hF.trans (FR.trans (FR.trans (FR.trans (FR.w (by decide)) (FR.w (by decide))) (FR.w (by decide))) (FR.w (by decide)))) ?_ (fun i hi => ?_) (fun i hi hi2 => ?_) ?_
      · rw [wr_c (by decide), wr_c (by decide), wr_c (by decide), wr_c (by decide), h4]
      · rw [xE_wr, if_neg (by omega), hlo i (by omega)]
      · rw [xE_wr]
        by_cases q : i = k + 1
        · rw [if_pos q, q]
          exact hk0
        · rw [if_neg q, hhi i (by omega) hi2]
      · rw [hpos]
        unfold posE
        rw [if_pos hb]
        cases k <;> rfl
    · rw [wr_c (by decide), wr_c (by decide), wr_c (by decide), wr_c (by decide), h4]; omega
    · rw [hk0] at hb
      refine fin (k + 1) μ' hk hF h4 hlo hhi ?_
      rw [hpos]
      unfold posE
      rw [if_neg hb]
/-- a return comes to the class's list -/
theorem sp_insert {sc : Scr} {d t : Nat} {μ : Mem} {Q : Mem → Prop} {n tm l len : Int} {N : Nat} (hN : N < 82) (h4 : μ 5 0 4 = (N : Int))
    (h : ∀ μ', FR μ μ' → (∀ i, i ≤ N → xE μ' i = insE (xE μ) (n, tm, l, len) N i) → μ' 5 0 4 = (N : Int) + 1 → Q μ') : RMv sc (d + 2) 5001 [rfc 5 0, .inl n, .inl tm, .inl l, .inl len] (t, 0, 0) μ Q := by
  refine m_5001 ⟨fun _ => ?_, fun c => absurd (by omega) c⟩
  rw [h4]
  exact L5001 (f := xE μ) hN (fun μ' a b c => PV_mk (h μ' a b c)) N μ (Nat.le_refl _) (fun _ _ _ => rfl) h4 (fun _ _ => rfl) (fun i a b => absurd a (by omega)) rfl
