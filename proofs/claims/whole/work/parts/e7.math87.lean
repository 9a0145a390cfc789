/-! MATHEMATICS, 87: what a text without a fault tells lies within its bounds -/
theorem aut_bk {b : Nat → Int} {n t m : Nat} {w : Int} (hm : 1 ≤ m) : ∀ r : Nat, aut b n (t + r) = (w, ((m + r : Nat) : Int)) → aut b n t = (w, (m : Int))
  | 0, h => h
  | r + 1, h => by
    have e : aut b n (t + r) = (w, ((m + r : Nat) : Int)) := by
      rw [show t + (r + 1) = (t + r) + 1 by omega, aut_s, Prod.mk.injEq] at h
      obtain ⟨h1, h2⟩ := h
      by_cases k4 : tK b n (t + r) = 4
      · rw [if_pos k4] at h2
        omega
      · rw [if_neg k4] at h2
        rw [if_neg (by omega)] at h1
        exact Prod.ext h1 (by show (aut b n (t + r)).2 = _; omega)
    exact aut_bk hm r e
theorem ws_0 {b : Nat → Int} {n : Nat} : ∀ {u : Nat}, (wsT b n u).1 = 0 → ∀ v, v < u → ¬ (tK b n v = 3 ∧ wrg b n (wiT b n v).1 (wiT b n v).2 v)
  | 0, _, v, hv => absurd hv (by omega)
  | u + 1, h, v, hv => by
    rw [wsT_s] at h
    by_cases a : (wsT b n u).1 ≠ 0
    · rw [ic_t a] at h
      exact absurd h a
    · rw [ic_f a] at h
      by_cases q : v = u
      · subst q
        intro z
        rw [ic_f (fun y => absurd (y.1.symm.trans z.1) (by decide)), ic_t z] at h
        exact absurd h (by show (5 : Int) ≠ 0; decide)
      · exact ws_0 (Decidable.not_not.mp a) v (by omega)
theorem ou_0 {b : Nat → Int} {n : Nat} {W H : Int} : ∀ {u : Nat}, (ouT b n W H u).1 = 0 → ∀ v, v < u → isP b n v → ¬ edg W H (wiT b n v).2 ≤ tV b n v
  | 0, _, v, hv => absurd hv (by omega)
  | u + 1, h, v, hv => by
    rw [ouT_s] at h
    by_cases a : (ouT b n W H u).1 ≠ 0
    · rw [ic_t a] at h
      exact absurd h a
    · rw [ic_f a] at h
      by_cases q : v = u
      · subst q
        intro p z
        rw [ic_t ⟨p, z⟩] at h
        exact absurd h (by show (6 : Int) ≠ 0; decide)
      · exact ou_0 (Decidable.not_not.mp a) v (by omega)
/-- the numbers of what is told whole -/
theorem st_n {b : Nat → Int} {n u p : Nat} {w : Int} (hO : OKp b n u) (hp : p < u) (k4 : tK b n p = 4) (ew : (aut b n p).1 = w) : (7 ≤ w ∧ w ≤ 14) ∧ (its w + 1 ≤ (p : Int)) ∧ ∀ i j : Nat, (i : Int) + (j : Int) = its w → 1 ≤ j → tK b n (p - j) = 3 ∧ wiT b n (p - j) = (w, (i : Int)) := by
  obtain ⟨w', S, hP, hw, eS⟩ := at_semi (hO.le (by omega : p + 1 ≤ u)) k4
  have e1 := hP.1
  have : w' = w := by rw [e1] at ew; exact ew
  subst this
  obtain ⟨w7, sm, st, wi, wi0, wi1, kw, kg⟩ := hP.2.resolve_left (by have := nmd_b w'; have := sid_b w'; have := its_b hw; omega)
  have nb := nmd_b w'
  have sb := sid_b w'
  have ib := its_b hw
  refine ⟨hw, by omega, fun i j hij hj => ?_⟩
  have hjS : j < S := by omega
  have g := kg (S - j) (by omega) (by omega)
  rw [show p - S + (S - j) = p - j by omega] at g
  have k3 : tK b n (p - j) = 3 := by
    unfold gO at g
    omega
  refine ⟨k3, ?_⟩
  obtain ⟨w2, S2, hP2, -, v1, v2, -, -⟩ := at_int (hO.le (by omega : p - j + 1 ≤ u)) k3
  have a := aut_bk (b := b) (n := n) (t := p - j) (m := S - j) (w := w') (by omega) j (by rw [show p - j + j = p by omega, show S - j + j = S by omega]; exact e1)
  rw [hP2.1, Prod.mk.injEq] at a
  obtain ⟨a1, a2⟩ := a
  subst a1
  exact Prod.ext v1 (by rw [v2]; show _ = (i : Int); omega)
theorem st_b {b : Nat → Int} {n u p : Nat} {w : Int} (hO : OKp b n u) (h0 : (wsT b n u).1 = 0) (hp : p < u) (k4 : tK b n p = 4) (ew : (aut b n p).1 = w) (i j : Nat) (hij : (i : Int) + (j : Int) = its w) (hj : 1 ≤ j) : lst w (i : Int) ≤ tV b n (p - j) ∧ tV b n (p - j) ≤ gst w (i : Int) := by
  obtain ⟨hw, hb, h⟩ := st_n hO hp k4 ew
  obtain ⟨k3, e⟩ := h i j hij hj
  have no : ¬ wrg b n w (i : Int) (p - j) := fun z => ws_0 h0 (p - j) (by omega) ⟨k3, by rw [e]; exact z⟩
  unfold wrg at no
  rw [not_or, not_or, not_or] at no
  omega
/-- a place -/
theorem st_p {b : Nat → Int} {n u p : Nat} {w W H : Int} (hO : OKp b n u) (h0 : (ouT b n W H u).1 = 0) (hp : p < u) (k4 : tK b n p = 4) (ew : (aut b n p).1 = w) (hw : 8 ≤ w ∧ w ≤ 10) : (∀ j : Nat, (j : Int) = its w → tV b n (p - j) < W) ∧ ∀ j : Nat, (j : Int) + 1 = its w → 1 ≤ j → tV b n (p - j) < H := by
  obtain ⟨-, hb, h⟩ := st_n hO hp k4 ew
  have ib := its_b (w := w) (by omega)
  refine ⟨fun j hj => ?_, fun j hj j1 => ?_⟩
  · obtain ⟨k3, e⟩ := h 0 j (by omega) (by omega)
    have r := ou_0 h0 (p - j) (by omega) ⟨k3, by rw [e]; exact hw, by rw [e]; show ((0 : Nat) : Int) < 2; decide⟩
    rw [e] at r
    unfold edg at r
    rw [if_pos (by rfl)] at r
    omega
  · obtain ⟨k3, e⟩ := h 1 j (by omega) (by omega)
    have r := ou_0 h0 (p - j) (by omega) ⟨k3, by rw [e]; exact hw, by rw [e]; show ((1 : Nat) : Int) < 2; decide⟩
    rw [e] at r
    unfold edg at r
    rw [if_neg (by show ¬ ((1 : Nat) : Int) = 0; decide)] at r
    omega
/-- a number of the valley -/
theorem nS_b {b : Nat → Int} {n u a i : Nat} {w d lo hi : Int} (hO : OKp b n u) (h0 : (wsT b n u).1 = 0) (hia : (i : Int) + (a : Int) = its w) (ha : 1 ≤ a) (el : lst w (i : Int) = lo) (eg : gst w (i : Int) = hi) (hd : lo ≤ d ∧ d ≤ hi) : lo ≤ nS b n w a d u ∧ nS b n w a d u ≤ hi := by
  rcases nS_p (b := b) (n := n) (w := w) (a := a) (d := d) u with e | ⟨p, hp, k4, ew, e⟩
  · rw [e]; exact hd
  · rw [e, ← el, ← eg]
    exact st_b hO h0 hp k4 ew i a hia ha
