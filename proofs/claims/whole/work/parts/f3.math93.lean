/-! MAKERS, 4: what stands when all is made -/
theorem lw_cnt : ∀ c, c < 100 → cntL lwGx c = cF c := by decide +kernel
theorem lw_bi : lwGx.all (fun e => match e with | .inl u => Nat.blt u 100 | .inr _ => true) = true := by decide +kernel
def rwsR : List (Nat × Nat) := [(0, 0), (1, 0), (2, 0), (2, 1), (3, 0), (3, 1), (3, 2), (3, 3), (3, 4), (4, 0), (5, 0), (6, 0), (6, 1), (6, 2), (8, 0), (10, 0), (11, 0), (26, 0), (37, 0)]
theorem lw_st : lwGx.all (fun e => match e with | .inr (.inl q) => decide ((q.1, q.2.1) ∈ rwsR ∧ q.2.2.1 < 100) | _ => true) = true := by decide +kernel
theorem lw_rf : rwsR.all (fun r => (List.range 100).all (fun k => decide (rfL lwGx r.1 r.2 k = rF r.1 r.2 k))) = true := by decide +kernel
theorem lw_mu : (muL lwGx 11 0 18 = 0 ∧ muL lwGx 48 0 0 = 0 ∧ muL lwGx 1 0 1 = 0 ∧ muL lwGx 54 0 8 = 0 ∧ muL lwGx 11 0 48 = 10 ∧ muL lwGx 1 0 7 = 10 ∧ muL lwGx 69 0 0 = 10 ∧ muL lwGx 1 0 8 = 10 ∧ muL lwGx 70 0 0 = 100 ∧ muL lwGx 1 0 9 = 100 ∧ muL lwGx 66 0 0 = 20 ∧ muL lwGx 1 0 5 = 20 ∧ muL lwGx 67 0 0 = 20 ∧ muL lwGx 1 0 6 = 20) ∧ (muL lwGx 55 0 0 = 0 ∧ muL lwGx 3 0 4 = 0 ∧ muL lwGx 59 0 0 = 0 ∧ muL lwGx 3 1 4 = 0 ∧ muL lwGx 62 0 0 = 0 ∧ muL lwGx 3 2 4 = 0 ∧ muL lwGx 11 0 71 = 0 ∧ muL lwGx 3 3 4 = 0 ∧ muL lwGx 11 0 80 = 0 ∧ muL lwGx 3 4 4 = 0 ∧ muL lwGx 0 0 11 = -1 ∧ muL lwGx 11 0 17 = -1 ∧ muL lwGx 8 0 1 = 0 ∧ muL lwGx 11 0 2 = 0) := by decide +kernel
theorem lw_ml : (∀ w, w < 9 → muL lwGx 9 w 5 = 0) ∧ (∀ j, j < 18 → muL lwGx 54 0 j = 0) ∧ (∀ s, s < 3 → muL lwGx 6 s 3 = 0 ∧ muL lwGx 90 0 s = 0) ∧ (∀ j, j < 24 → muL lwGx 92 0 j = 0) ∧ (∀ k, k < 10 → muL lwGx 46 0 k = kwd k) := by decide +kernel
theorem rF_big {c i k : Nat} (h : 100 ≤ k) : rF c i k = none := by
  unfold rF
  repeat' split
  all_goals first | rfl | omega
