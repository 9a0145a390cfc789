/-! MAKERS, 5: all is made, and alike -/
theorem cntL_0 {c : Nat} (hc : 100 ≤ c) : ∀ L : List Ev, L.all (fun e => match e with | .inl u => Nat.blt u 100 | .inr _ => true) = true → cntL L c = 0
  | [], _ => rfl
  | .inl u :: L, h => by
    have h1 : Nat.blt u 100 = true := and_l h
    have h2 := cntL_0 hc L (and_r h)
    show inc (cntL L) u c = 0
    unfold inc
    rw [if_neg (by have := blt_lt h1; omega), h2]
  | .inr _ :: L, h => cntL_0 hc L (and_r h)
theorem lw_cF : cntL lwGx = cF := by
  funext c
  by_cases h : c < 100
  · exact lw_cnt c h
  · rw [cntL_0 (by omega) lwGx lw_bi]
    unfold cF cfT
    rw [List.getD_eq_getElem?_getD, List.getElem?_eq_none (by show 94 ≤ c; omega)]
    rfl
/-- no reference is written there -/
def nSt (L : List Ev) (c i k : Nat) : Prop := ∀ q, Sum.inr (Sum.inl q) ∈ L → ¬ (q.1 = c ∧ q.2.1 = i ∧ q.2.2.1 = k)
theorem rfL_n {c i k : Nat} (h0 : rF c i k = none) : ∀ L : List Ev, nSt L c i k → rfL L c i k = none
  | [], _ => h0
  | .inl u :: L, h => by
    have r := rfL_n h0 L fun q hq => h q (List.mem_cons_of_mem _ hq)
    show zrR (rfL L) u (cntL L u) c i k = none
    unfold zrR
    split
    · rfl
    · exact r
  | .inr (.inl q) :: L, h => by
    have r := rfL_n h0 L fun q hq => h q (List.mem_cons_of_mem _ hq)
    show wrR (rfL L) q.1 q.2.1 q.2.2.1 q.2.2.2 c i k = none
    unfold wrR
    rw [if_neg fun z => h q List.mem_cons_self ⟨z.1.symm, z.2.1.symm, z.2.2.symm⟩]
    exact r
  | .inr (.inr _) :: L, h => rfL_n h0 L fun q hq => h q (List.mem_cons_of_mem _ hq)
theorem rfL_u {c i k : Nat} : ∀ L : List Ev, nSt L c i k → cntL L c ≤ i → rfL L c i k = rF c i k
  | [], _, _ => rfl
  | .inl u :: L, h, hc => by
    have hc' : inc (cntL L) u c ≤ i := hc
    unfold inc at hc'
    have r := rfL_u L (fun q hq => h q (List.mem_cons_of_mem _ hq)) (by split at hc' <;> omega)
    show zrR (rfL L) u (cntL L u) c i k = _
    unfold zrR
    rw [if_neg fun z => by
      obtain ⟨rfl, rfl⟩ := z
      rw [if_pos rfl] at hc'
      omega]
    exact r
  | .inr (.inl q) :: L, h, hc => by
    have r := rfL_u L (fun q hq => h q (List.mem_cons_of_mem _ hq)) hc
    show wrR (rfL L) q.1 q.2.1 q.2.2.1 q.2.2.2 c i k = _
    unfold wrR
    rw [if_neg fun z => h q List.mem_cons_self ⟨z.1.symm, z.2.1.symm, z.2.2.symm⟩]
    exact r
  | .inr (.inr _) :: L, h, hc => rfL_u L (fun q hq => h q (List.mem_cons_of_mem _ hq)) hc
abbrev clsR : List Nat := [0, 1, 2, 3, 4, 5, 6, 8, 10, 11, 26, 37]
theorem rF_cls {c i k : Nat} (h : ¬ c ∈ clsR) : rF c i k = none := by
  have h' : c ≠ 0 ∧ c ≠ 1 ∧ c ≠ 2 ∧ c ≠ 3 ∧ c ≠ 4 ∧ c ≠ 5 ∧ c ≠ 6 ∧ c ≠ 8 ∧ c ≠ 10 ∧ c ≠ 11 ∧ c ≠ 26 ∧ c ≠ 37 := by
    refine ⟨?_, ?_, ?_, ?_, ?_, ?_, ?_, ?_, ?_, ?_, ?_, ?_⟩ <;> exact fun z => h (by rw [z]; decide)
  unfold rF
  split <;> first | rfl | omega
theorem rws_all : ∀ c ∈ clsR, ∀ i, i < cF c → (c, i) ∈ rwsR := by decide +kernel
theorem lw_rF : rfL lwGx = rF := by
  have st : ∀ q, Sum.inr (Sum.inl q) ∈ lwGx → (q.1, q.2.1) ∈ rwsR ∧ q.2.2.1 < 100 := fun q hq => of_decide_eq_true (List.all_eq_true.mp lw_st _ hq)
  funext c i k
  by_cases hk : k < 100
  · by_cases hr : (c, i) ∈ rwsR
    · exact of_decide_eq_true (List.all_eq_true.mp (List.all_eq_true.mp lw_rf _ hr) k (List.mem_range.mpr hk))
    · have n : nSt lwGx c i k := fun q hq z => by
        have s := (st q hq).1
        rw [z.1, z.2.1] at s
        exact hr s
      by_cases hc : c ∈ clsR
      · refine rfL_u _ n ?_
        rw [lw_cF]
        exact Nat.le_of_not_lt fun z => hr (rws_all c hc i z)
      · rw [rF_cls hc]
        exact rfL_n (rF_cls hc) _ n
  · have h0 : rF c i k = none := rF_big (by omega)
    rw [h0]
    refine rfL_n h0 _ fun q hq z => ?_
    have s := (st q hq).2
    omega
abbrev μ00 : Mem := muL lwGx
theorem lw_rl : rl (lwAc, lwGx) = fs lwAc μ00 := by
  show (lwAc, cntL lwGx, rfL lwGx, muL lwGx) = (lwAc, cF, rF, muL lwGx)
  rw [lw_cF, lw_rF]
theorem sim_of {μ : Mem} (h1 : (μ 11 0 18 = 0 ∧ μ 48 0 0 = 0 ∧ μ 1 0 1 = 0 ∧ μ 54 0 8 = 0 ∧ μ 11 0 48 = 10 ∧ μ 1 0 7 = 10 ∧ μ 69 0 0 = 10 ∧ μ 1 0 8 = 10 ∧ μ 70 0 0 = 100 ∧ μ 1 0 9 = 100 ∧ μ 66 0 0 = 20 ∧ μ 1 0 5 = 20 ∧ μ 67 0 0 = 20 ∧ μ 1 0 6 = 20) ∧ (μ 55 0 0 = 0 ∧ μ 3 0 4 = 0 ∧ μ 59 0 0 = 0 ∧ μ 3 1 4 = 0 ∧ μ 62 0 0 = 0 ∧ μ 3 2 4 = 0 ∧ μ 11 0 71 = 0 ∧ μ 3 3 4 = 0 ∧ μ 11 0 80 = 0 ∧ μ 3 4 4 = 0 ∧ μ 0 0 11 = -1 ∧ μ 11 0 17 = -1 ∧ μ 8 0 1 = 0 ∧ μ 11 0 2 = 0)) (h2 : (∀ w, w < 9 → μ 9 w 5 = 0) ∧ (∀ j, j < 18 → μ 54 0 j = 0) ∧ (∀ s, s < 3 → μ 6 s 3 = 0 ∧ μ 90 0 s = 0) ∧ (∀ j, j < 24 → μ 92 0 j = 0) ∧ (∀ k, k < 10 → μ 46 0 k = kwd k)) : Sim μ := by
  obtain ⟨⟨a1, a2, a3, a4, a5, a6, a7, a8, a9, a10, a11, a12, a13, a14⟩, ⟨b1, b2, b3, b4, b5, b6, b7, b8, b9, b10, b11, b12, b13, b14⟩⟩ := h1
  obtain ⟨c1, c2, c3, c4, c5⟩ := h2
  have z0 : (0 : Int).toNat = 0 := rfl
  refine ⟨⟨Or.inl a1, ?_, ?_, fun w hw => ?_, fun w hw _ => c1 w hw, ?_, fun j hj => Or.inl (c2 j hj)⟩, ⟨⟨?_, ?_⟩, ⟨?_, ?_⟩, ⟨?_, ?_⟩, ⟨?_, ?_⟩, ⟨?_, ?_⟩⟩, ⟨⟨?_, ?_, fun i hi => ?_⟩, ⟨?_, ?_, fun i hi => ?_⟩, ⟨?_, ?_, fun i hi => ?_⟩, fun i hi => ?_, fun i hi => ?_⟩, ⟨⟨?_, ?_, fun i hi => ?_⟩, ⟨?_, ?_, fun i hi => ?_⟩, fun i hi => ?_, fun i hi => ?_⟩, ⟨fun s hs => ?_, fun j hj => Or.inl (c4 j hj)⟩, ⟨?_, ?_, ?_, fun i hi => ?_, c5⟩⟩
  · unfold lvM
    rw [a1, z0, a2, a3]
  · rw [a3]; decide
  · rw [a3] at hw; omega
  · show μ 54 0 ((9 * (μ 11 0 18)) + ((8 : Nat) : Int)).toNat = 0
    rw [a1]; exact a4
  · rw [a5, a6]
  · rw [a6]; decide
  · unfold lvM
    rw [a1, z0, a7, a8]
  · rw [a8]; decide
  · unfold lvM
    rw [a1, z0, a9, a10]
  · rw [a10]; decide
  · unfold lvM
    rw [a1, z0, a11, a12]
  · rw [a12]; decide
  · unfold lvM
    rw [a1, z0, a13, a14]
  · rw [a14]; decide
  · unfold lvM
    rw [a1, z0, b1, b2]
  · rw [b2]; decide
  · rw [b2] at hi; omega
  · unfold lvM
    rw [a1, z0, b3, b4]
  · rw [b4]; decide
  · rw [b4] at hi; omega
  · unfold lvM
    rw [a1, z0, b5, b6]
  · rw [b6]; decide
  · rw [b6] at hi; omega
  · rw [b2] at hi; omega
  · rw [b6] at hi; omega
  · rw [b7, b8]
  · rw [b8]; decide
  · rw [b8] at hi; omega
  · rw [b9, b10]
  · rw [b10]; decide
  · rw [b10] at hi; omega
  · rw [b8] at hi; omega
  · rw [b10] at hi; omega
  · obtain ⟨s1, s2⟩ := c3 s hs
    rw [s1, s2]
    exact ⟨rfl, Or.inl rfl, fun z => absurd rfl z⟩
  · rw [b11, b12]
  · rw [b13, b14]
  · rw [b13]; decide
  · rw [b13] at hi; omega
theorem lw_sim : Sim μ00 := sim_of lw_mu lw_ml
theorem lw_made {sc : Scr} {P : Option AV → AS → Prop} (h : Rp (stepE sc (look kd_120000) 1 (600000, 7302250)) (RM sc 13) P (18, lwL4, [], fs lwAc μ00)) : Rp (stepE sc (look kd_120000) 1 (600000, 7302250)) (RM sc 13) P (0, entL 4 [.inr (.inr (.inl (some (103, 0))))], [], rl ((0, 0, 0), [])) := by
  refine stpN_ok (fun j as S r S' h P hP => evS_ok 13 j as S r S' h P hP) 10 lwX0 _ (ckE_e lw_ck) ?_
  show Rp _ _ _ (18, lwL4, [], rl (lwAc, lwGx))
  rw [lw_rl]
  exact h
