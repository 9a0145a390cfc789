/-! MATHEMATICS, 78: the reference's way through a text -/
theorem rK_i {a c : Int} (ha : 0 ≤ a ∧ a ≤ 14) (hc : 0 ≤ c ∧ c ≤ 14) : rK a = rK c ↔ a = c := by
  constructor
  · intro h
    have t : ∀ x : Int, 0 ≤ x ∧ x ≤ 14 → (x = 0 ∧ rK x = 3) ∨ (x = 1 ∧ rK x = 0) ∨ (x = 2 ∧ rK x = 1) ∨ (x = 3 ∧ rK x = 2) ∨ (x = 4 ∧ rK x = 4) ∨ (x = 5 ∧ rK x = 21) ∨ (x = 6 ∧ rK x = 22) ∨ (x = 7 ∧ rK x = 20) ∨ (8 ≤ x ∧ rK x = x + 15) := by
      intro x hx
      unfold rK
      repeat' split
      all_goals omega
    have ta := t a ha
    have tc := t c hc
    omega
  · intro h
    rw [h]
theorem ok_n1 {b : Nat → Int} {n u : Nat} (h : OKp b n u) : ∀ j, j < u → tK b n j ≠ 1 := by
  intro j hj e
  obtain ⟨h1, h2, h3⟩ := h j hj
  have g := Classical.not_not.mp h2
  by_cases z : (aut b n j).2 = 0
  · exact h1 ⟨e, z⟩
  · unfold wNow at g
    rw [if_neg z, e] at g
    unfold gO at g
    omega
theorem psn_m {b : Nat → Int} {n u : Nat} : ∀ m : Nat, psn b n u ≤ psn b n (u + m)
  | 0 => Nat.le_refl _
  | m + 1 => by
    have := psn_m (b := b) (n := n) (u := u) m
    rw [show u + (m + 1) = (u + m) + 1 by omega, psn_s]
    have : psn b n (u + m) ≤ stt b n (u + m) := Nat.le_add_right _ _
    omega
theorem stt_lt {b : Nat → Int} {n u v : Nat} (h : tK b n u ≠ 1) (huv : u < v) : stt b n u < stt b n v := by
  have h1 : psn b n (u + 1) ≤ psn b n v := by
    have := psn_m (b := b) (n := n) (u := u + 1) (v - (u + 1))
    rw [show u + 1 + (v - (u + 1)) = v by omega] at this
    exact this
  have h2 : psn b n v ≤ stt b n v := Nat.le_add_right _ _
  have h3 : 1 ≤ tkL b n (stt b n u) := by
    have hk : ¬ n ≤ stt b n u := fun z => h (by show tkK b n (stt b n u) = 1; unfold tkK; rw [if_pos z])
    unfold tkL
    rw [if_neg hk]
    split
    · rename_i y
      rw [run_y (by omega) y]
      omega
    · split
      · rename_i y
        rw [run_y (by omega) y]
        omega
      · omega
  rw [psn_s] at h1
  omega
/-- names, places so far -/
def nC (b : Nat → Int) (n : Nat) : Nat → Nat
  | 0 => 0
  | t + 1 => nC b n t + (if tK b n t = 2 then 1 else 0)
theorem nC_s (b : Nat → Int) (n t : Nat) : nC b n (t + 1) = nC b n t + (if tK b n t = 2 then 1 else 0) := rfl
theorem nC_m {b : Nat → Int} {n u : Nat} : ∀ m : Nat, nC b n u ≤ nC b n (u + m)
  | 0 => Nat.le_refl _
  | m + 1 => by
    have := nC_m (b := b) (n := n) (u := u) m
    rw [show u + (m + 1) = (u + m) + 1 by omega, nC_s]
    omega
theorem nC_e {b : Nat → Int} {n : Nat} : ∀ {t : Nat}, OKp b n t → ∀ w S, Pth b n t w S → ((nC b n t : Nat) : Int) + (if S = 1 ∧ w ≤ 10 then 1 else 0) = cntW b n 7 t + cntW b n 8 t + cntW b n 9 t + cntW b n 10 t
  | 0, _, w, S, hp => by
    have : S = 0 := by
      have := hp.2
      omega
    rw [if_neg (by omega)]
    rfl
  | t + 1, h, w', S', hp' => by
    obtain ⟨w, S, hp⟩ := path (h.le (Nat.le_succ t))
    have r := nC_e (h.le (Nat.le_succ t)) w S hp
    obtain ⟨h1, h2, h3⟩ := h t (by omega)
    have g := Classical.not_not.mp h2
    obtain ⟨e, hq⟩ := hp
    have e' := hp'.1
    unfold wNow at g
    rw [aut_s, e] at e'
    rw [e] at g
    rw [nC_s, cntW_s, cntW_s, cntW_s, cntW_s, e]
    simp only [] at g e' ⊢
    rw [Prod.mk.injEq] at e'
    obtain ⟨e1, e2⟩ := e'
    have kb : 0 ≤ tK b n t ∧ tK b n t ≤ 14 := tkK_b _ _ _
    by_cases z : S = 0
    · subst z
      unfold gO at g
      rw [if_pos (by rfl : ((0 : Nat) : Int) = 0)] at g e1
      rw [if_neg (by omega)] at e2
      rw [if_neg (by omega)] at r
      have s1 : S' = 1 := by omega
      subst s1 e1
      rw [if_neg (by omega : ¬ tK b n t = 2)]
      by_cases c7 : tK b n t = 7
      · rw [if_pos (by omega), if_pos (by omega), if_neg (by omega), if_neg (by omega), if_neg (by omega)]; omega
      · by_cases c8 : tK b n t = 8
        · rw [if_pos (by omega), if_neg (by omega), if_pos (by omega), if_neg (by omega), if_neg (by omega)]; omega
        · by_cases c9 : tK b n t = 9
          · rw [if_pos (by omega), if_neg (by omega), if_neg (by omega), if_pos (by omega), if_neg (by omega)]; omega
          · by_cases c10 : tK b n t = 10
            · rw [if_pos (by omega), if_neg (by omega), if_neg (by omega), if_neg (by omega), if_pos (by omega)]; omega
            · rw [if_neg (by omega), if_neg (by omega), if_neg (by omega), if_neg (by omega), if_neg (by omega)]; omega
    · obtain ⟨w7, sm, st, -⟩ := hq.resolve_left z
      rw [if_neg (by omega)] at g e1
      subst e1
      rw [if_neg (by omega : ¬ ((S : Int) = 0 ∧ tK b n t = 7)), if_neg (by omega : ¬ ((S : Int) = 0 ∧ tK b n t = 8)), if_neg (by omega : ¬ ((S : Int) = 0 ∧ tK b n t = 9)), if_neg (by omega : ¬ ((S : Int) = 0 ∧ tK b n t = 10))]
      have g' := g
      unfold gO nmd at g'
      have nb := nmd_b w
      have sb := sid_b w
      have ib := its_b w7
      have S1 : ¬ (S' = 1 ∧ w ≤ 10) := by
        by_cases k4 : tK b n t = 4
        · rw [if_pos k4] at e2; omega
        · rw [if_neg k4] at e2; omega
      rw [if_neg S1]
      by_cases k2 : tK b n t = 2
      · rw [if_pos k2]
        by_cases w10 : w ≤ 10
        · rw [if_pos w10] at g'
          rw [if_pos (by omega)] at r
          omega
        · rw [if_neg w10] at g'
          omega
      · rw [if_neg k2]
        by_cases w10 : w ≤ 10
        · rw [if_pos w10] at g'
          rw [if_neg (by omega)] at r
          omega
        · rw [if_neg (by omega)] at r
          omega
theorem nC_b {b : Nat → Int} {n t : Nat} (h : OKp b n t) : nC b n t ≤ 26 := by
  obtain ⟨w, S, hp⟩ := path h
  have r := nC_e h w S hp
  have m7 := cnt_mst (w := 7) (by decide) h
  have m8 := cnt_mst (w := 8) (by decide) h
  have m9 := cnt_mst (w := 9) (by decide) h
  have m10 := cnt_mst (w := 10) (by decide) h
  have a7 : mst 7 = 8 := rfl
  have a8 : mst 8 = 6 := rfl
  have a9 : mst 9 = 6 := rfl
  have a10 : mst 10 = 6 := rfl
  split at r <;> omega
noncomputable def plC (b : Nat → Int) (n : Nat) : Nat → Nat
  | 0 => 0
  | t + 1 => plC b n t + ic (isP b n t) 1 0
theorem plC_s (b : Nat → Int) (n t : Nat) : plC b n (t + 1) = plC b n t + ic (isP b n t) 1 0 := rfl
theorem plC_m {b : Nat → Int} {n u : Nat} : ∀ m : Nat, plC b n u ≤ plC b n (u + m)
  | 0 => Nat.le_refl _
  | m + 1 => by
    have := plC_m (b := b) (n := n) (u := u) m
    rw [show u + (m + 1) = (u + m) + 1 by omega, plC_s]
    omega
/-- places: two for each that stands somewhere -/
theorem plC_e {b : Nat → Int} {n : Nat} : ∀ {t : Nat}, OKp b n t → ∀ w S, Pth b n t w S → (plC b n t : Int) + (if S ≠ 0 ∧ (8 ≤ w ∧ w ≤ 10) then (if S ≤ 2 then 2 else if S = 3 then 1 else 0) else 0) = 2 * (cntW b n 8 t + cntW b n 9 t + cntW b n 10 t)
  | 0, _, w, S, hp => by
    have : S = 0 := by
      have := hp.2
      omega
    rw [if_neg (by omega)]
    rfl
  | t + 1, h, w', S', hp' => by
    obtain ⟨w, S, hp⟩ := path (h.le (Nat.le_succ t))
    have r := plC_e (h.le (Nat.le_succ t)) w S hp
    obtain ⟨h1, h2, h3⟩ := h t (by omega)
    have g := Classical.not_not.mp h2
    obtain ⟨e, hq⟩ := hp
    have e' := hp'.1
    unfold wNow at g
    rw [aut_s, e] at e'
    rw [e] at g
    rw [plC_s, cntW_s, cntW_s, cntW_s, e]
    simp only [] at g e' ⊢
    rw [Prod.mk.injEq] at e'
    obtain ⟨e1, e2⟩ := e'
    have kb : 0 ≤ tK b n t ∧ tK b n t ≤ 14 := tkK_b _ _ _
    by_cases z : S = 0
    · subst z
      unfold gO at g
      rw [if_pos (by rfl : ((0 : Nat) : Int) = 0)] at g e1
      rw [if_neg (by omega)] at e2
      rw [if_neg (by omega)] at r
      have s1 : S' = 1 := by omega
      subst s1 e1
      rw [ic_f fun y => absurd y.1 (by omega)]
      by_cases c8 : tK b n t = 8
      · rw [if_pos (by omega), if_pos (by omega), if_pos (by omega), if_neg (by omega), if_neg (by omega)]; omega
      · by_cases c9 : tK b n t = 9
        · rw [if_pos (by omega), if_pos (by omega), if_neg (by omega), if_pos (by omega), if_neg (by omega)]; omega
        · by_cases c10 : tK b n t = 10
          · rw [if_pos (by omega), if_pos (by omega), if_neg (by omega), if_neg (by omega), if_pos (by omega)]; omega
          · rw [if_neg (by omega), if_neg (by omega), if_neg (by omega), if_neg (by omega)]; omega
    · obtain ⟨w7, sm, st, wi, wi0, wi1, -⟩ := hq.resolve_left z
      rw [if_neg (by omega)] at g e1
      subst e1
      rw [if_neg (by omega : ¬ ((S : Int) = 0 ∧ tK b n t = 8)), if_neg (by omega : ¬ ((S : Int) = 0 ∧ tK b n t = 9)), if_neg (by omega : ¬ ((S : Int) = 0 ∧ tK b n t = 10))]
      by_cases w8 : 8 ≤ w ∧ w ≤ 10
      · rw [if_pos ⟨z, w8⟩] at r
        have i2 : 2 ≤ its w := by
          have t3 : w = 8 ∨ w = 9 ∨ w = 10 := by omega
          rcases t3 with t3 | t3 | t3 <;> rw [t3] <;> decide
        have g' := g
        unfold gO nmd sid at g'
        rw [if_pos (by omega), if_neg (by omega)] at g'
        have wi0' := wi0
        have wi1' := wi1
        unfold nmd sid at wi0' wi1'
        rw [if_pos (by omega), if_neg (by omega)] at wi0' wi1'
        by_cases k3 : tK b n t = 3
        · rw [if_neg (by omega)] at e2
          by_cases s4 : S ≤ 3
          · rw [ic_t ⟨k3, by omega, by rw [wi1' (by omega)]; omega⟩, if_pos (by omega)]
            by_cases s2 : S = 2
            · rw [if_pos (by omega)] at r
              rw [if_neg (by omega), if_pos (by omega)]
              omega
            · rw [if_neg (by omega), if_pos (by omega)] at r
              rw [if_neg (by omega), if_neg (by omega)]
              omega
          · rw [ic_f fun y => absurd y.2.2 (by rw [wi1' (by omega)]; omega), if_pos (by omega)]
            rw [if_neg (by omega), if_neg (by omega)] at r
            rw [if_neg (by omega), if_neg (by omega)]
            omega
        · rw [ic_f fun y => k3 y.1]
          by_cases k4 : tK b n t = 4
          · rw [if_pos k4] at e2
            rw [if_neg (by omega), if_neg (by omega)] at r
            rw [if_neg (by omega)]
            omega
          · rw [if_neg k4] at e2
            have : S = 1 := by omega
            rw [if_pos (by omega)] at r
            rw [if_pos (by omega), if_pos (by omega)]
            omega
      · rw [if_neg fun y => w8 y.2] at r
        rw [ic_f fun y => w8 (by have := y.2.1; omega), if_neg fun y => w8 y.2]
        omega
theorem plC_b {b : Nat → Int} {n t : Nat} (h : OKp b n t) : plC b n t ≤ 36 := by
  obtain ⟨w, S, hp⟩ := path h
  have r := plC_e h w S hp
  have m8 := cnt_mst (w := 8) (by decide) h
  have m9 := cnt_mst (w := 9) (by decide) h
  have m10 := cnt_mst (w := 10) (by decide) h
  have a8 : mst 8 = 6 := rfl
  have a9 : mst 9 = 6 := rfl
  have a10 : mst 10 = 6 := rfl
  repeat' split at r
  all_goals omega
