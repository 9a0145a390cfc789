/-! MATHEMATICS, 63: hush alike -/
noncomputable def hrL (q : Nat → Prop) (st : Nat) : Nat → Int
  | 0 => -1
  | v + 1 => ic (Nat.land v (255 - st) = 0 ∧ (hrL q st v < 0 ∨ pcN v < pcN (hrL q st v).toNat) ∧ q v) (v : Int) (hrL q st v)
theorem hrL_s (q : Nat → Prop) (st v : Nat) : hrL q st (v + 1) = ic (Nat.land v (255 - st) = 0 ∧ (hrL q st v < 0 ∨ pcN v < pcN (hrL q st v).toNat) ∧ q v) (v : Int) (hrL q st v) := rfl
theorem hr_b (q : Nat → Prop) (st : Nat) : ∀ v : Nat, -1 ≤ hrL q st v ∧ hrL q st v < (v : Int) + 1 ∧ (hrL q st v < (v : Int) ∨ hrL q st v = -1)
  | 0 => by unfold hrL; decide
  | v + 1 => by
    have := hr_b q st v
    rw [hrL_s]
    by_cases c : (Nat.land v (255 - st) = 0 ∧ (hrL q st v < 0 ∨ pcN v < pcN (hrL q st v).toNat) ∧ q v)
    · rw [ic_t c]; omega
    · rw [ic_f c]; omega
theorem hr_hc {q : Nat → Prop} {st : Nat} (h256 : st < 256) : ∀ v, v ≤ st → (hrL q st v = -1 ∧ hcL q st v = st) ∨ (hrL q st v = ((hcL q st v : Nat) : Int) ∧ hcL q st v < st ∧ Nat.land (hcL q st v) (255 - st) = 0)
  | 0, _ => Or.inl ⟨rfl, rfl⟩
  | v + 1, h => by
    have ih := hr_hc (q := q) h256 v (by omega)
    rw [hrL_s, hcL_s]
    by_cases s : Nat.land v (255 - st) = 0
    · have pc := (tb_pc v (by omega) st h256 s (by omega)).2
      rcases ih with ⟨h1, h2⟩ | ⟨h1, h2, h3⟩
      · by_cases c : q v
        · rw [ic_t ⟨s, Or.inl (by omega), c⟩, ic_t ⟨s, by rw [h2]; exact pc, c⟩]
          exact Or.inr ⟨rfl, by omega, s⟩
        · rw [ic_f fun z => c z.2.2, ic_f fun z => c z.2.2]
          exact Or.inl ⟨h1, h2⟩
      · have e : (hrL q st v).toNat = hcL q st v := by rw [h1]; rfl
        by_cases c : pcN v < pcN (hcL q st v) ∧ q v
        · rw [ic_t ⟨s, Or.inr (by rw [e]; exact c.1), c.2⟩, ic_t ⟨s, c⟩]
          exact Or.inr ⟨rfl, by omega, s⟩
        · rw [ic_f fun z => c ⟨by
            rcases z.2.1 with y | y
            · omega
            · rw [e] at y; exact y, z.2.2⟩, ic_f fun z => c z.2]
          exact Or.inr ⟨h1, h2, h3⟩
    · rw [ic_f fun z => s z.1, ic_f fun z => s z.1]
      exact ih
theorem hr_st {q : Nat → Prop} {st : Nat} (h256 : st < 256) (hq : q st) : ∀ n, hrL q st (st + 1 + n) = ((hcL q st st : Nat) : Int) ∨ 256 < st + 1 + n
  | 0 => by
    left
    show hrL q st (st + 1) = _
    rw [hrL_s]
    rcases hr_hc (q := q) h256 st (Nat.le_refl _) with ⟨h1, h2⟩ | ⟨h1, h2, h3⟩
    · rw [ic_t ⟨tb_ss st h256, Or.inl (by omega), hq⟩, h2]
    · have pc := (tb_pc _ (by omega) st h256 h3 (by omega)).2
      rw [ic_f]
      · exact h1
      · intro z
        rcases z.2.1 with y | y
        · omega
        · rw [h1, Int.toNat_natCast] at y
          omega
  | n + 1 => by
    by_cases b : 256 < st + 1 + (n + 1)
    · exact Or.inr b
    · left
      have ih := (hr_st h256 hq n).resolve_right (by omega)
      show hrL q st (st + 1 + n + 1) = _
      rw [hrL_s, ic_f]
      · exact ih
      · intro z
        have := (tb_pc (st + 1 + n) (by omega) st h256 z.1 (by omega)).1
        omega
theorem echG_q {f : Nat → E4} : ∀ (n i : Nat), (∀ j, i ≤ j → j < i + n → 0 ≤ (f j).2.1) → (echG f n i < 0 ↔ ∀ j, i ≤ j → j < i + n → (f j).1 = 0)
  | 0, i, _ => ⟨fun _ j h1 h2 => absurd h2 (by omega), fun _ => by unfold echG; decide⟩
  | n + 1, i, h => by
    have ih := echG_q (f := f) n (i + 1) fun j h1 h2 => h j (by omega) (by omega)
    unfold echG
    by_cases c : (f i).1 ≠ 0
    · rw [if_pos c]
      have := h i (Nat.le_refl _) (by omega)
      exact ⟨fun z => by omega, fun z => absurd (z i (Nat.le_refl _) (by omega)) c⟩
    · rw [if_neg c, ih]
      refine ⟨fun z j h1 h2 => ?_, fun z j h1 h2 => z j (by omega) (by omega)⟩
      by_cases q : j = i
      · rw [q]; exact Decidable.not_not.mp c
      · exact z j (by omega) (by omega)
theorem ech_q {L : Lst} (hT : Tb L) : ech L < 0 ↔ ∀ j, j < L.2 → (L.1 j).1 = 0 := by
  have e := echG_q (f := L.1) L.2 0 fun j _ h2 => (hT.2 j (by omega)).1
  unfold ech
  rw [e]
  exact ⟨fun z j h => z j (Nat.zero_le _) (by omega), fun z j _ h => z j (by omega)⟩
theorem hs_gok {μ : Mem} (hS : Sim μ) (v : Nat) : ∀ u, u < 9 → hsG (μ 9) (Cn μ) v u 5 ≠ 0 → gok (hsG (μ 9) (Cn μ) v) u := by
  intro u hu t
  have cn := hS.cn
  have e : ∀ k, k < 5 → μ 9 u k = hsG (μ 9) (Cn μ) v u k := fun k hk => by
    unfold hsG
    rw [if_neg (by omega)]
  refine gok_c (g := μ 9) e ?_
  by_cases q : u < Cn μ
  · exact (hS.1.2.2.2.1 u (by omega)).2.2.1
  · unfold hsG at t
    rw [if_neg (fun z => q z.1)] at t
    exact (hS.co.1 u hu t).1
theorem quiet_st {μ : Mem} (hS : Sim μ) {m e : Int} : quiet μ m e 0 := by
  have cn := hS.cn
  have z : ∀ u, u < 9 → hsG (μ 9) (Cn μ) 0 u 5 = 0 := by
    intro u hu
    unfold hsG
    by_cases q : u < Cn μ
    · rw [if_pos ⟨q, rfl⟩, Nat.zero_div]
      rfl
    · rw [if_neg (fun y => q y.1)]
      exact hS.1.2.2.2.2.1 u hu (by omega)
  unfold quiet
  refine (tns_q (B := -1) hS.co.2.1.1 (Bst_e fun x hx => ?_)).mp (by decide)
  rcases hx with ⟨a, ha, ta, _⟩ | ⟨a, ha, ta, _⟩
  · exact ta (z a ha)
  · exact ta (z a ha)
theorem Gq.hs {μ : Mem} (hS : Sim μ) (v : Nat) : Gq (hsG (gM μ) (Cn μ) v) (hsG (μ 9) (Cn μ) v) := by
  intro u hu
  have cn := hS.cn
  have g := hS.gq u hu
  unfold hsG
  by_cases q : u < Cn μ
  · refine ⟨by rw [if_pos ⟨q, rfl⟩, if_pos ⟨q, rfl⟩], fun _ k hk => ?_⟩
    rw [if_neg (by omega), if_neg (by omega)]
    exact ((hS.1.2.2.2.1 u (by omega)).1 k hk).symm
  · rw [if_neg (fun y => q y.1), if_neg (fun y => q y.1)]
    refine ⟨g.1.symm, fun t k hk => ?_⟩
    rw [if_neg (by omega), if_neg (by omega)]
    exact (g.2 (by rw [g.1]; exact t) k hk).symm
abbrev bN (μ : Mem) : Nat := (9 * (μ 11 0 18)).toNat
def FHm (μ0 μ : Mem) : Prop := ∀ c i k, ¬ (c = 54 ∧ i = 0 ∧ bN μ0 ≤ k ∧ k < bN μ0 + Cn μ0) → ¬ (73 ≤ c ∧ c ≤ 78) → ¬ (c = 11 ∧ 49 ≤ k ∧ k ≤ 64) → μ c i k = μ0 c i k
theorem FHm.c {μ0 μ : Mem} (h : FHm μ0 μ) {c : Nat} (h1 : c ≠ 54) (h2 : ¬ (73 ≤ c ∧ c ≤ 78)) (h3 : c ≠ 11) : μ c = μ0 c := by
  funext i k
  exact h c i k (by omega) h2 (by omega)
theorem FHm.f {μ0 μ : Mem} (h : FHm μ0 μ) {k : Nat} (h1 : ¬ (49 ≤ k ∧ k ≤ 64)) : μ 11 0 k = μ0 11 0 k := h 11 0 k (by omega) (by decide) (by omega)
theorem FHm.fm {μ0 μ μ' : Mem} (h : FHm μ0 μ) (h2 : Fm 49 μ μ') : FHm μ0 μ' := fun c i k a b e => (h2 c i k b e).trans (h c i k a b e)
theorem FHm.gs {μ0 μ : Mem} {v : Nat} (hS : Sim μ0) (h : FHm μ0 μ) (hv : ∀ w, w < Cn μ0 → μ 54 0 (bN μ0 + w) = ((v / 2 ^ w % 2 : Nat) : Int)) : ∀ u k, u < 9 → k < 6 → gM μ u k = hsG (gM μ0) (Cn μ0) v u k := by
  intro u k hu hk
  have l := hS.1.1
  unfold liv at l
  have cn := hS.cn
  have e48 : μ 48 = μ0 48 := h.c (by decide) (by decide) (by decide)
  have e18 : μ 11 0 18 = μ0 11 0 18 := h.f (by decide)
  have n48 : μ0 48 0 (lvM μ0) = μ0 1 0 1 := hS.1.2.1
  unfold lvM at n48
  unfold hsG
  by_cases q : u < Cn μ0 ∧ k = 5
  · rw [if_pos q, q.2, ← hv u q.1]
    unfold gM
    rw [if_pos rfl, e18, e48, if_pos (Or.inl (by omega))]
    congr 1
    unfold bN
    omega
  · rw [if_neg q]
    unfold gM
    rw [e18, e48]
    by_cases k5 : k = 5
    · rw [if_pos k5, if_pos k5, n48]
      by_cases q2 : (u : Int) < μ0 1 0 1 ∨ u = 8
      · rw [if_pos q2, if_pos q2]
        exact h 54 0 _ (by unfold bN; omega) (by decide) (by omega)
      · rw [if_neg q2, if_neg q2]
    · rw [if_neg k5, if_neg k5, if_pos (by omega), if_pos (by omega)]
      exact h (49 + k) 0 _ (by omega) (by omega) (by omega)
theorem FHm.mo {μ0 μ : Mem} {v : Nat} (hS : Sim μ0) (h : FHm μ0 μ) (hv : ∀ w, w < Cn μ0 → μ 54 0 (bN μ0 + w) = ((v / 2 ^ w % 2 : Nat) : Int)) : MO μ := by
  have gs := h.gs hS hv
  have hM := hS.mo
  have l := hS.1.1
  have l' := l
  unfold liv at l'
  have cn := hS.cn
  have e18 : μ 11 0 18 = μ0 11 0 18 := h.f (by decide)
  have gq := Gq.hs hS v
  have at' : ∀ u, u < 9 → gM μ u 5 ≠ 0 → hsG (μ0 9) (Cn μ0) v u 5 ≠ 0 := fun u hu t => by
    rw [gs u 5 hu (by decide), (gq u hu).1] at t
    exact t
  have eq' : ∀ u, u < 9 → gM μ u 5 ≠ 0 → ∀ k, k < 5 → hsG (μ0 9) (Cn μ0) v u k = gM μ u k := fun u hu t k hk => by
    rw [gs u k hu (by omega)]
    rw [gs u 5 hu (by decide)] at t
    exact ((gq u hu).2 t k hk).symm
  refine ⟨⟨by unfold liv; rw [e18]; exact l, by rw [e18, h.c (c := 48) (by decide) (by decide) (by decide)]; exact hM.1.2.1, fun w hw => ?_, fun u hu t => gok_c (eq' u hu t) (hs_gok hS v u hu (at' u hu t))⟩, fun u hu t => ?_, by rw [h.f (k := 48) (by decide)]; exact hM.2.2.1, by unfold fallM; rw [e18, h.c (c := 69) (by decide) (by decide) (by decide)]; exact hM.2.2.2⟩
  · rw [e18]
    by_cases q : w < Cn μ0
    · have := hv w q
      rw [show ((9 * (μ0 11 0 18)) + (w : Int)).toNat = bN μ0 + w by unfold bN; omega, this]
      omega
    · rw [h 54 0 _ (by unfold bN; omega) (by decide) (by omega)]
      exact hS.1.2.2.2.2.2.2 _ (by omega)
  · rw [← eq' u hu t 4 (by decide)]
    have e : hsG (μ0 9) (Cn μ0) v u 4 = μ0 9 u 4 := by unfold hsG; rw [if_neg (by omega)]
    rw [e]
    have t' := at' u hu t
    by_cases q : u < Cn μ0
    · exact (hS.1.2.2.2.1 u (by omega)).2.2.2
    · unfold hsG at t'
      rw [if_neg (fun z => q z.1)] at t'
      exact (hS.co.1 u hu t').2
theorem FHm.rt {μ0 μ : Mem} {v : Nat} (hS : Sim μ0) (h : FHm μ0 μ) (hv : ∀ w, w < Cn μ0 → μ 54 0 (bN μ0 + w) = ((v / 2 ^ w % 2 : Nat) : Int)) (s x y p q : Int) : rets (gM μ) (μ 11 0 48) (fallM μ) s x y p q = rets (hsG (μ0 9) (Cn μ0) v) (μ0 1 0 7) (μ0 1 0 8) s x y p q := by
  have gs := h.gs hS hv
  have e18 : μ 11 0 18 = μ0 11 0 18 := h.f (by decide)
  have e48 : μ 11 0 48 = μ0 1 0 7 := (h.f (k := 48) (by decide)).trans hS.2.1.1.1
  have ef : fallM μ = μ0 1 0 8 := by
    unfold fallM
    rw [e18, h.c (c := 69) (by decide) (by decide) (by decide)]
    exact hS.2.1.2.1.1
  rw [e48, ef]
  have g1 : Gq (gM μ) (hsG (gM μ0) (Cn μ0) v) := fun w hw => ⟨gs w 5 hw (by decide), fun _ k hk => gs w k hw (by omega)⟩
  rw [g1.rets]
  exact (Gq.hs hS v).rets _ _ _ _ _ _ _
theorem FHm.w {μ0 μ : Mem} {w : Nat} {x : Int} (hw : w < Cn μ0) (h : FHm μ0 μ) : FHm μ0 (wr μ 54 0 (bN μ0 + w) x) := fun c i k a b e => by
  unfold wr
  rw [if_neg fun z => a ⟨z.1, z.2.1, by omega, by omega⟩]
  exact h c i k a b e
