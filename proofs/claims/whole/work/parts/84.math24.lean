/-! MATHEMATICS, 24: the reference's list -/
def LMl (μ : Mem) (L : Lst) : Prop := μ 11 0 64 = (L.2 : Int) ∧ ∀ i, i < L.2 → mE μ i = L.1 i
/-- changed: only rows of ways and returns, and fields p..64 -/
def Fm (p : Nat) (μ μ' : Mem) : Prop := ∀ c i k, ¬ (73 ≤ c ∧ c ≤ 78) → ¬ (c = 11 ∧ p ≤ k ∧ k ≤ 64) → μ' c i k = μ c i k
theorem Fm.rfl {p : Nat} {μ : Mem} : Fm p μ μ := fun _ _ _ _ _ => Eq.refl _
theorem Fm.trans {p : Nat} {μ μ' μ'' : Mem} (h : Fm p μ μ') (h2 : Fm p μ' μ'') : Fm p μ μ'' := fun c i k a b => (h2 c i k a b).trans (h c i k a b)
theorem Fm.mono {p q : Nat} {μ μ' : Mem} (h : Fm p μ μ') (hq : q ≤ p) : Fm q μ μ' := fun c i k a b => h c i k a (by omega)
theorem FK.fm {μ μ' : Mem} (h : FK μ μ') : Fm 51 μ μ' := fun c i k a b => h c i k (by omega)
theorem FRm.fm {μ μ' : Mem} (h : FRm μ μ') : Fm 51 μ μ' := fun c i k a b => h c i k (by omega) (by omega)
theorem Fm.f {p k : Nat} {μ μ' : Mem} (h : Fm p μ μ') (hk : k < p ∨ 64 < k) : μ' 11 0 k = μ 11 0 k := h _ _ _ (by omega) (by omega)
theorem Fm.c {p c : Nat} {μ μ' : Mem} (h : Fm p μ μ') (hc : ¬ (73 ≤ c ∧ c ≤ 78)) (h11 : c ≠ 11) : μ' c = μ c := by
  funext i k
  exact h _ _ _ hc (by omega)
theorem Fm.g {p : Nat} {μ μ' : Mem} (h : Fm p μ μ') (hp : 18 < p) : gM μ' = gM μ := by
  funext w k
  unfold gM
  rw [h.f (k := 18) (by omega), h.c (c := 48) (by decide) (by decide), h.c (c := 54) (by decide) (by decide)]
  by_cases hk : k = 5
  · rw [if_pos hk, if_pos hk]
  · rw [if_neg hk, if_neg hk]
    by_cases h5 : k < 5
    · rw [if_pos h5, if_pos h5, h _ _ _ (by omega) (by omega)]
    · rw [if_neg h5, if_neg h5]
def fallM (μ : Mem) : Int := μ 69 0 (μ 11 0 18).toNat
def MO (μ : Mem) : Prop := MOK μ ∧ (∀ w, w < 9 → gM μ w 5 ≠ 0 → 0 ≤ gM μ w 4 ∧ gM μ w 4 ≤ 99) ∧ (1 ≤ μ 11 0 48 ∧ μ 11 0 48 ≤ 99) ∧ (1 ≤ fallM μ ∧ fallM μ ≤ 99)
theorem Fm.fall {p : Nat} {μ μ' : Mem} (h : Fm p μ μ') (hp : 48 < p) : fallM μ' = fallM μ := by
  unfold fallM
  rw [h.f (k := 18) (by omega), h.c (c := 69) (by decide) (by decide)]
theorem MO.fm {p : Nat} {μ μ' : Mem} (h : Fm p μ μ') (hp : 48 < p) (hM : MO μ) : MO μ' := by
  unfold MO MOK liv at *
  rw [h.g (by omega), h.fall hp, h.f (k := 18) (by omega), h.f (k := 48) (by omega), h.c (c := 48) (by decide) (by decide), h.c (c := 54) (by decide) (by decide)]
  exact hM
theorem LMl.fk {μ μ' : Mem} {L : Lst} (h : FK μ μ') (hL : LMl μ L) : LMl μ' L := by
  unfold LMl mE at *
  rw [h.f (k := 64) (by omega)]
  refine ⟨hL.1, fun i hi => ?_⟩
  rw [h.c (c := 75) (by decide) (by decide) (by decide), h.c (c := 76) (by decide) (by decide) (by decide), h.c (c := 77) (by decide) (by decide) (by decide), h.c (c := 78) (by decide) (by decide) (by decide)]
  exact hL.2 i hi
theorem ic_a {α : Type} {p q : Prop} {a b : α} (h : p) : ic (p ∧ q) a b = ic q a b := ic_c ⟨fun z => z.2, fun z => ⟨h, z⟩⟩
theorem sp_addL {sc : Scr} {d t : Nat} {μ : Mem} {Q : Mem → Prop} {w : Wy} {n s soft : Int} {L : Lst} (hM : MO μ) (hW : Way μ w) (hw : Wbd w) (hL : LMl μ L) (hN : L.2 < 90) (hd : ∀ i, i < L.2 → (L.1 i).1 ≠ n) (bs : 0 ≤ s ∧ s ≤ 99)
    (hx : -1 ≤ μ 11 0 56 ∧ μ 11 0 56 < 9) (hy : -1 ≤ μ 11 0 57 ∧ μ 11 0 57 < 9) (bx : 0 ≤ sfO (gM μ) (μ 11 0 56) ∧ sfO (gM μ) (μ 11 0 56) ≤ 99) (by' : 0 ≤ sfO (gM μ) (μ 11 0 57) ∧ sfO (gM μ) (μ 11 0 57) ≤ 99) (es : sfO (gM μ) (μ 11 0 56) + sfO (gM μ) (μ 11 0 57) = soft)
    (h : ∀ μ', FRm μ μ' → LMl μ' (ic (1 ≤ lvl (fallM μ) s (sqw w) soft) (addE L (en (μ 11 0 48) (fallM μ) s (sqw w) soft n)) L) → Q μ') : RMv sc (d + 3) 11050 [rfc 11 0, .inl n, .inl s] (t, 0, 0) μ Q := by
  have hf := hM.2.2.2
  refine sp_adds hW hw hN hL.1 (fun i hi => by rw [hL.2 i hi]; exact hd i hi) hM.1.1 (by unfold fallM at hf; omega) hM.2.2.1 bs hx hy bx by' (fun c μ' F hi h4 => h μ' F ?_) (fun c => h μ (fun _ _ _ _ _ => rfl) ?_)
  · rw [es] at hi c
    unfold fallM
    rw [ic_t c]
    refine ⟨by rw [h4]; unfold addE; simp, fun i hi' => ?_⟩
    have hi2 : i ≤ L.2 := by
      unfold addE at hi'
      simp only [] at hi'
      omega
    rw [hi i hi2]
    unfold addE en
    simp only []
    exact insE_c hL.2 hi2
  · rw [es] at c
    unfold fallM
    rw [ic_f c]
    exact hL
theorem inL_s {g : Gf} {pace fall s px py qx qy : Int} {a b : Nat} {L : Lst} : inL g pace fall s px py qx qy a (b + 1) L = if b = a ∨ g b 5 = 0 then inL g pace fall s px py qx qy a b L else st2 g pace fall s px py qx qy a b (inL g pace fall s px py qx qy a b L) := rfl
theorem ouL_s {g : Gf} {pace fall s px py qx qy : Int} {a : Nat} : ouL g pace fall s px py qx qy (a + 1) = if g a 5 = 0 then ouL g pace fall s px py qx qy a else inL g pace fall s px py qx qy a 9 (st1 g pace fall s px py qx qy a (ouL g pace fall s px py qx qy a)) := rfl
theorem inL_stop {g : Gf} {pace fall s px py qx qy : Int} {a : Nat} {L : Lst} : ∀ (n b : Nat), (∀ w, w < b + n → b ≤ w → g w 5 = 0) → inL g pace fall s px py qx qy a (b + n) L = inL g pace fall s px py qx qy a b L
  | 0, b, _ => rfl
  | n + 1, b, h => by
    show inL g pace fall s px py qx qy a ((b + n) + 1) L = _
    rw [inL_s, if_pos (Or.inr (h (b + n) (by omega) (by omega)))]
    exact inL_stop n b fun w h1 h2 => h w (by omega) h2
theorem ouL_stop {g : Gf} {pace fall s px py qx qy : Int} : ∀ (n a : Nat), (∀ w, w < a + n → a ≤ w → g w 5 = 0) → ouL g pace fall s px py qx qy (a + n) = ouL g pace fall s px py qx qy a
  | 0, a, _ => rfl
  | n + 1, a, h => by
    show ouL g pace fall s px py qx qy ((a + n) + 1) = _
    rw [ouL_s, if_pos (h (a + n) (by omega) (by omega))]
    exact ouL_stop n a fun w h1 h2 => h w (by omega) h2
theorem sfO_n (g : Gf) : sfO g (-1) = 0 := if_pos rfl
theorem sfO_w (g : Gf) (a : Nat) : sfO g (a : Int) = g a 4 := by
  unfold sfO
  rw [if_neg (by omega), Int.toNat_natCast]
theorem L11038i {sc : Scr} {d t : Nat} {μ : Mem} {P : Option AV → AS → Prop} {L : Lst} {px py qx qy s : Int} {a : Nat} (ha : a < 9) (ta : gM μ a 5 ≠ 0) (hM : MO μ) (hp : Pl px py) (hq : Pl qx qy) (ex : μ 11 0 49 = px) (ey : μ 11 0 50 = py) (bs : 0 ≤ s ∧ s ≤ 99)
    (hN : ∀ b, (inL (gM μ) (μ 11 0 48) (fallM μ) s px py qx qy a b L).2 ≤ 2 + 9 * a + b) (hI : ∀ b : Nat, Nin (11 + (a : Int)) (100 + 10 * (a : Int) + (b : Int)) (inL (gM μ) (μ 11 0 48) (fallM μ) s px py qx qy a b L))
    (h : ∀ μ' q7, Fm 51 μ μ' → LMl μ' (inL (gM μ) (μ 11 0 48) (fallM μ) s px py qx qy a 9 L) → R_11038 sc (d + 4) P t 37 [rfc 11 0, .inl px, .inl py, .inl qx, .inl qy, .inl s, .inl ((a + 1 : Nat) : Int), q7] [] μ') :
    ∀ (n b : Nat) (μ' : Mem), n + b = 9 → Fm 51 μ μ' → LMl μ' (inL (gM μ) (μ 11 0 48) (fallM μ) s px py qx qy a b L) → R_11038 sc (d + 4) P t 85 [rfc 11 0, .inl px, .inl py, .inl qx, .inl qy, .inl s, .inl (a : Int), .inl (b : Int)] [] μ' := by
  intro n
  induction n with
  | zero =>
    intro b μ' hb hF hL
    have : b = 9 := by omega
    subst this
    refine m_11038_85 (sp_wallMost (hM.fm hF (by decide)).1 fun v v0 v9 hv => ⟨fun c => ⟨by omega, h μ' _ hF hL⟩, fun c => absurd v9 c⟩)
  | succ n ih =>
    intro b μ' hb hF hL
    have M' := hM.fm hF (by decide)
    have eg : gM μ' = gM μ := hF.g (by decide)
    refine m_11038_85 (sp_wallMost M'.1 fun v v0 v9 hv => ⟨fun c => ⟨by omega, h μ' _ hF ?_⟩, fun c => ⟨fun c2 => ⟨by omega, ih (b + 1) μ' (by omega) hF ?_⟩, fun c2 => sp_isWall M'.1 (by omega) (fun t5 => ⟨fun z => absurd z (by decide), fun _ => ?_⟩) (fun t5 => ⟨fun _ => ⟨by omega, ih (b + 1) μ' (by omega) hF ?_⟩, fun z => absurd rfl z⟩)⟩⟩)
    · have e := inL_stop (g := gM μ) (pace := μ 11 0 48) (fall := fallM μ) (s := s) (px := px) (py := py) (qx := qx) (qy := qy) (a := a) (L := L) (9 - b) b (fun w h1 h2 => by have := hv w (by omega) (by omega); rw [eg] at this; exact this)
      rw [show b + (9 - b) = 9 by omega] at e
      rw [e]
      exact hL
    · unfold inL
      rw [if_pos (Or.inl (by omega))]
      exact hL
    · have ta' : gM μ' a 5 ≠ 0 := by rw [eg]; exact ta
      have wb := wy2_bd (g := gM μ') (M'.1.2.2.2 a ha ta') (M'.1.2.2.2 b (by omega) t5) hp hq
      have b1 := M'.2.1 a ha ta'
      have b2 := M'.2.1 b (by omega) t5
      have hN' := hN b
      have hI' := hI b
      have est : inL (gM μ) (μ 11 0 48) (fallM μ) s px py qx qy a (b + 1) L = st2 (gM μ) (μ 11 0 48) (fallM μ) s px py qx qy a b (inL (gM μ) (μ 11 0 48) (fallM μ) s px py qx qy a b L) := by
        rw [inL, if_neg]
        rw [← eg]
        omega
      refine sp_makes2 (w := wy2 (gM μ') px py qx qy a b) rfl M'.1 ha ta' (by omega) t5 hp hq (by rw [hF.f (by omega), ex]) (by rw [hF.f (by omega), ey]) (fun o μ2 F2 W2 e56 e57 _ _ => ⟨fun z => absurd z (by decide), fun _ => ⟨by omega, by omega, by omega, ?_⟩⟩) (fun o μ2 F2 => ⟨fun _ => ⟨by omega, ih (b + 1) μ2 (by omega) (hF.trans F2.fm) ?_⟩, fun z => absurd rfl z⟩)
      · have eg2 : gM μ2 = gM μ' := F2.g
        refine sp_addL (soft := gM μ' a 4 + gM μ' b 4) (M'.fm F2.fm (by decide)) W2 wb (hL.fk F2) (by omega) (fun i hi => ?_) bs (by omega) (by omega) (by rw [e56, sfO_w, eg2]; exact b1) (by rw [e57, sfO_w, eg2]; exact b2) (by rw [e56, e57, sfO_w, sfO_w, eg2]) fun μ3 F3 hL3 => ⟨by omega, ih (b + 1) μ3 (by omega) ((hF.trans F2.fm).trans F3.fm) ?_⟩
        · have := hI' i hi
          omega
        · rw [est]
          unfold st2
          rw [eg] at o hL3
          rw [ic_a o]
          rw [F2.fm.fall (by decide), hF.fall (by decide), F2.f (k := 48) (by omega), hF.f (k := 48) (by omega)] at hL3
          exact hL3
      · rw [est]
        unfold st2
        rw [eg] at o
        rw [ic_f fun z => o z.1]
        exact hL.fk F2
    · unfold inL
      rw [if_pos (Or.inr (by rw [← eg]; exact t5))]
      exact hL
