/-! MATHEMATICS, 70: the class checks the form -/
theorem kwC_b (v : Int) : 2 ≤ kwC v ∧ kwC v ≤ 14 := by
  unfold kwC
  repeat' split
  all_goals omega
theorem tkK_b (b : Nat → Int) (n s : Nat) : 0 ≤ tkK b n s ∧ tkK b n s ≤ 14 := by
  have := kwC_b (nmN b s (rnL isLe b n s))
  unfold tkK
  repeat' split
  all_goals omega
def aut (b : Nat → Int) (n : Nat) : Nat → Int × Int
  | 0 => (1, 0)
  | t + 1 => (if (aut b n t).2 = 0 then tK b n t else (aut b n t).1, if tK b n t = 4 then 0 else (aut b n t).2 + 1)
theorem aut_s (b : Nat → Int) (n t : Nat) : aut b n (t + 1) = (if (aut b n t).2 = 0 then tK b n t else (aut b n t).1, if tK b n t = 4 then 0 else (aut b n t).2 + 1) := rfl
def wNow (b : Nat → Int) (n t : Nat) : Int := if (aut b n t).2 = 0 then tK b n t else (aut b n t).1
def cntW (b : Nat → Int) (n : Nat) (w : Int) : Nat → Int
  | 0 => 0
  | t + 1 => cntW b n w t + (if (aut b n t).2 = 0 ∧ tK b n t = w then 1 else 0)
theorem cntW_s (b : Nat → Int) (n : Nat) (w : Int) (t : Nat) : cntW b n w (t + 1) = cntW b n w t + (if (aut b n t).2 = 0 ∧ tK b n t = w then 1 else 0) := rfl
theorem cntW_b (b : Nat → Int) (n : Nat) (w : Int) : ∀ t : Nat, 0 ≤ cntW b n w t ∧ cntW b n w t ≤ (t : Int)
  | 0 => by unfold cntW; decide
  | t + 1 => by
    have := cntW_b b n w t
    rw [cntW_s]
    split <;> omega
def isAcc (b : Nat → Int) (n t : Nat) : Prop := tK b n t = 1 ∧ (aut b n t).2 = 0
def isE1 (b : Nat → Int) (n t : Nat) : Prop := ¬ gO (tK b n t) (wNow b n t) (aut b n t).2
def isE2 (b : Nat → Int) (n t : Nat) : Prop := t = 400 ∨ ((aut b n t).2 = 0 ∧ mst (tK b n t) < cntW b n (tK b n t) t + 1)
noncomputable def foR (b : Nat → Int) (n : Nat) : Nat → Nat → Int × Nat
  | 0, t => (2, t)
  | m + 1, t => ic (isAcc b n t) (0, t) (ic (isE1 b n t) (1, t) (ic (isE2 b n t) (2, t) (foR b n m (t + 1))))
theorem foR_s (b : Nat → Int) (n m t : Nat) : foR b n (m + 1) t = ic (isAcc b n t) (0, t) (ic (isE1 b n t) (1, t) (ic (isE2 b n t) (2, t) (foR b n m (t + 1)))) := rfl
noncomputable def form (b : Nat → Int) (n : Nat) : Int × Nat := foR b n 401 0
/-- changed: only what the reader holds -/
def Fz (μ μ' : Mem) : Prop := ∀ c i k, ¬ (c = 4 ∧ i = 0 ∧ 6 ≤ k ∧ k ≤ 12) → ¬ (21 ≤ c ∧ c ≤ 25) → μ' c i k = μ c i k
theorem Fz.trans {μ μ' μ'' : Mem} (h : Fz μ μ') (h2 : Fz μ' μ'') : Fz μ μ'' := fun c i k a b => (h2 c i k a b).trans (h c i k a b)
theorem Fz.w {μ : Mem} {c i k : Nat} {v : Int} (h : (c = 4 ∧ i = 0 ∧ 6 ≤ k ∧ k ≤ 12) ∨ (21 ≤ c ∧ c ≤ 25)) : Fz μ (wr μ c i k v) := fun c' i' k' a b => if_neg fun z => by
  obtain ⟨rfl, rfl, rfl⟩ := z
  omega
theorem F4.z {μ μ' : Mem} (h : F4 μ μ') : Fz μ μ' := fun c i k a _ => h c i k (by omega)
theorem Fz.c {μ μ' : Mem} {c : Nat} (h : Fz μ μ') (h1 : c ≠ 4) (h2 : ¬ (21 ≤ c ∧ c ≤ 25)) : μ' c = μ c := by
  funext i k
  exact h c i k (by omega) h2
theorem Fz.to {μ μ' : Mem} {n : Nat} (h : Fz μ μ') (hT : TO μ n) : TO μ' n := by
  unfold TO
  rw [h.c (c := 8) (by decide) (by decide), h.c (c := 20) (by decide) (by decide)]
  exact hT
theorem Fz.by' {μ μ' : Mem} (h : Fz μ μ') : byC μ' = byC μ := by
  funext i
  unfold byC
  rw [h.c (c := 20) (by decide) (by decide)]
/-- the tokens that are kept -/
def Kept (μ : Mem) (b : Nat → Int) (n T : Nat) : Prop := μ 4 0 6 = (T : Int) ∧ ∀ i, i < T → μ 21 0 i = tK b n i ∧ μ 22 0 i = ((stt b n i : Nat) : Int) ∧ μ 23 0 i = tV b n i
theorem sp_keepTok {sc : Scr} {d t : Nat} {μ : Mem} {Q : Mem → Prop} {N : Nat} (h6 : μ 4 0 6 = (N : Int)) (hN : N < 400) (h : Q (wr (wr (wr (wr μ 21 0 N (μ 4 0 10)) 22 0 N (μ 4 0 11)) 23 0 N (μ 4 0 12)) 4 0 6 ((N : Int) + 1))) : RMv sc (d + 1) 4014 [rfc 4 0] (t, 0, 0) μ Q := by
  have r1 : ∀ (m : Mem) (i k : Nat) (v : Int), wr m 21 i k v 4 = m 4 := fun _ _ _ _ => wr_c (by decide)
  have r2 : ∀ (m : Mem) (i k : Nat) (v : Int), wr m 22 i k v 4 = m 4 := fun _ _ _ _ => wr_c (by decide)
  have r3 : ∀ (m : Mem) (i k : Nat) (v : Int), wr m 23 i k v 4 = m 4 := fun _ _ _ _ => wr_c (by decide)
  refine m_4014 ?_
  simp only [r1, r2, r3, h6, Int.toNat_natCast]
  exact ⟨fun z => absurd z (by omega), fun _ => ⟨by omega, by omega, by omega, by omega, h⟩⟩
theorem keep_o {m : Mem} {N i : Nat} {a b c e : Int} (q : i ≠ N) : (wr (wr (wr (wr m 21 0 N a) 22 0 N b) 23 0 N c) 4 0 6 e) 21 0 i = m 21 0 i ∧ (wr (wr (wr (wr m 21 0 N a) 22 0 N b) 23 0 N c) 4 0 6 e) 22 0 i = m 22 0 i ∧ (wr (wr (wr (wr m 21 0 N a) 22 0 N b) 23 0 N c) 4 0 6 e) 23 0 i = m 23 0 i := by
  refine ⟨?_, ?_, ?_⟩
  · rw [wr_c (by decide), wr_c (by decide), wr_c (by decide), wr_k q]
  · rw [wr_c (by decide), wr_c (by decide), wr_k q, wr_c (by decide)]
  · rw [wr_c (by decide), wr_k q, wr_c (by decide), wr_c (by decide)]
theorem keep_s {m : Mem} {N : Nat} {a b c e : Int} : (wr (wr (wr (wr m 21 0 N a) 22 0 N b) 23 0 N c) 4 0 6 e) 21 0 N = a ∧ (wr (wr (wr (wr m 21 0 N a) 22 0 N b) 23 0 N c) 4 0 6 e) 22 0 N = b ∧ (wr (wr (wr (wr m 21 0 N a) 22 0 N b) 23 0 N c) 4 0 6 e) 23 0 N = c := by
  refine ⟨?_, ?_, ?_⟩
  · rw [wr_c (by decide), wr_c (by decide), wr_c (by decide), wr_same]
  · rw [wr_c (by decide), wr_c (by decide), wr_same]
  · rw [wr_c (by decide), wr_same]
def Told (μ : Mem) (b : Nat → Int) (n t : Nat) : Prop := ∀ w : Nat, w < 8 → μ 24 0 w = cntW b n ((w : Int) + 7) t
theorem sp_fill0 {sc : Scr} {d t : Nat} {μ : Mem} {Q : Mem → Prop} (h : ∀ μ', (∀ c i k, c ≠ 24 → μ' c i k = μ c i k) → (∀ w, w < 8 → μ' 24 0 w = 0) → Q μ') : RMv sc (d + 1) 100008 [rfc 24 0, .inl 0] (t, 0, 0) μ Q := by
  have lp : ∀ (m j : Nat) (μ' : Mem), m + j = 8 → (∀ c i k, c ≠ 24 → μ' c i k = μ c i k) → (∀ w, w < j → μ' 24 0 w = 0) → R_100008 sc d (PV t Q) t 5 [rfc 24 0, .inl 0, .inl (j : Int), .inl 8] [] μ' := by
    intro m
    induction m with
    | zero =>
      intro j μ' hj hF hw
      have : j = 8 := by omega
      subst this
      exact m_100008_5 ⟨fun _ => PV_mk (h μ' hF hw), fun z => absurd (by decide) z⟩
    | succ m ih =>
      intro j μ' hj hF hw
      refine m_100008_5 ⟨fun z => absurd z (by omega), fun _ => ⟨by omega, by omega, ih (j + 1) _ (by omega) (fun c i k hc => by rw [wr_c hc]; exact hF c i k hc) (fun w hw2 => ?_)⟩⟩
      rw [Int.toNat_natCast]
      by_cases q : w = j
      · rw [q, wr_same]
      · rw [wr_k q]
        exact hw w (by omega)
  exact m_100008 (lp 8 0 μ rfl (fun _ _ _ _ => rfl) fun w hw => absurd hw (by omega))
/-- what checkForm leaves -/
def FormOut (μ0 μ : Mem) (n : Nat) : Prop := Fz μ0 μ ∧ μ 4 0 7 = (form (byC μ0) n).1 ∧ ((form (byC μ0) n).1 ≠ 0 → μ 4 0 8 = ((stt (byC μ0) n (form (byC μ0) n).2 : Nat) : Int)) ∧ ((form (byC μ0) n).1 = 0 → μ 4 0 8 = μ0 4 0 8 ∧ Kept μ (byC μ0) n (form (byC μ0) n).2 ∧ (form (byC μ0) n).2 ≤ 400)
theorem sp_checkForm {sc : Scr} {d t : Nat} {μ : Mem} {Q : Mem → Prop} {n : Nat} (hT : TO μ n) (h7 : μ 4 0 7 = 0) (h : ∀ μ', FormOut μ μ' n → Q μ') : RMv sc (d + 9) 4002 [rfc 4 0] (t, 0, 0) μ Q := by
  have lp : ∀ (m u : Nat) (μ' : Mem), m + u = 401 → foR (byC μ) n m u = form (byC μ) n → Fz μ μ' → μ' 4 0 7 = 0 → μ' 4 0 8 = μ 4 0 8 → μ' 4 0 9 = ((psn (byC μ) n u : Nat) : Int) → Kept μ' (byC μ) n u → Told μ' (byC μ) n u → ((aut (byC μ) n u).2 = 0 ∨ (7 ≤ (aut (byC μ) n u).1 ∧ (aut (byC μ) n u).1 ≤ 14)) → (0 ≤ (aut (byC μ) n u).2 ∧ (aut (byC μ) n u).2 ≤ (u : Int)) → u ≤ 400 → R_4002 sc (d + 8) (PV t Q) t 24 [rfc 4 0, .inl (aut (byC μ) n u).1, .inl (aut (byC μ) n u).2, .inl (u : Int)] [] μ' := by
    intro m
    induction m with
    | zero => intro u μ' hu _ _ _ _ _ _ _ _ _ hu4; omega
    | succ m ih =>
      intro u μ' hu hfo hF h7' h8' h9' hK hTo haw hab hu4
      have hT' := hF.to hT
      have eb := hF.by'
      have pl := psn_le (byC μ) n u
      refine m_4002_24 ⟨fun z => absurd z (by omega), fun _ => ⟨fun z => absurd h7' z, fun _ => sp_scan (n := n) (i := psn (byC μ) n u) hT' pl h9' fun μ2 F2 T2 => ?_⟩⟩
      rw [eb] at T2
      obtain ⟨t9, t10, t11, t12⟩ := T2
      have e10 : μ2 4 0 10 = tK (byC μ) n u := t10
      have e11 : μ2 4 0 11 = ((stt (byC μ) n u : Nat) : Int) := t11
      have e12 : μ2 4 0 12 = tV (byC μ) n u := t12
      have e9 : μ2 4 0 9 = ((psn (byC μ) n (u + 1) : Nat) : Int) := t9
      have FF := hF.trans F2.z
      have kb : 0 ≤ tK (byC μ) n u ∧ tK (byC μ) n u ≤ 14 := tkK_b _ _ _
      have o7 : μ2 4 0 7 = 0 := by rw [F2 4 0 7 (by omega)]; exact h7'
      have o8 : μ2 4 0 8 = μ 4 0 8 := by rw [F2 4 0 8 (by omega)]; exact h8'
      have K2 : Kept μ2 (byC μ) n u := by
        refine ⟨by rw [F2 4 0 6 (by omega)]; exact hK.1, fun i hi => ?_⟩
        rw [F2.c (c := 21) (by decide), F2.c (c := 22) (by decide), F2.c (c := 23) (by decide)]
        exact hK.2 i hi
      have To2 : Told μ2 (byC μ) n u := fun w hw => by rw [F2.c (c := 24) (by decide)]; exact hTo w hw
      have hfo' := hfo
      rw [foR_s] at hfo
      -- behind a fault
      have bad : ∀ (k : Int) (μ3 : Mem), k ≠ 0 → Fz μ μ3 → μ3 4 0 7 = k → μ3 4 0 8 = ((stt (byC μ) n u : Nat) : Int) → form (byC μ) n = (k, u) → ∀ w s, (0 ≤ s ∧ s ≤ 401) → R_4002 sc (d + 8) (PV t Q) t 120 [rfc 4 0, .inl w, .inl s, .inl (u : Int)] [] μ3 := by
        intro k μ3 hk F3 h7 h8 ef w s hs
        have out : PV t Q none (fs (t, 0, 0) μ3) := PV_mk (h μ3 ⟨F3, by rw [h7, ef], fun _ => by rw [h8, ef], fun z => absurd z (by rw [ef]; exact hk)⟩)
        have e24 : ∀ s', R_4002 sc (d + 8) (PV t Q) t 24 [rfc 4 0, .inl w, .inl s', .inl ((u : Int) + 1)] [] μ3 := fun s' => m_4002_24 ⟨fun _ => out, fun _ => ⟨fun _ => out, fun z => absurd (by rw [h7]; exact hk) z⟩⟩
        exact m_4002_120 ⟨fun _ => ⟨by omega, by omega, e24 _⟩, fun _ => ⟨by omega, e24 _⟩⟩
      -- behind a token that is kept
      have good : ∀ (μ3 : Mem), Fz μ μ3 → μ3 4 0 7 = 0 → μ3 4 0 8 = μ 4 0 8 → μ3 4 0 9 = ((psn (byC μ) n (u + 1) : Nat) : Int) → μ3 4 0 10 = tK (byC μ) n u → Kept μ3 (byC μ) n (u + 1) → Told μ3 (byC μ) n (u + 1) → u < 400 → (7 ≤ wNow (byC μ) n u ∧ wNow (byC μ) n u ≤ 14) → foR (byC μ) n m (u + 1) = form (byC μ) n → R_4002 sc (d + 8) (PV t Q) t 120 [rfc 4 0, .inl (wNow (byC μ) n u), .inl (aut (byC μ) n u).2, .inl (u : Int)] [] μ3 := by
        intro μ3 F3 h7 h8 h9 h10 K3 T3 hlt hw ef
        have r := ih (u + 1) μ3 (by omega) ef F3 h7 h8 h9 K3 T3 (Or.inr hw) (by rw [aut_s]; simp only []; split <;> omega) (by omega)
        rw [aut_s] at r
        simp only [] at r
        refine m_4002_120 ⟨fun z => ⟨by omega, by omega, ?_⟩, fun z => ⟨by omega, ?_⟩⟩
        · rw [h10] at z
          rw [if_neg z] at r
          exact r
        · rw [h10] at z
          rw [if_pos (Decidable.not_not.mp z)] at r
          exact r
      -- a token that is no end
      have tok : ¬ isAcc (byC μ) n u → R_4002 sc (d + 8) (PV t Q) t 64 [rfc 4 0, .inl (wNow (byC μ) n u), .inl (aut (byC μ) n u).2, .inl (u : Int)] [] μ2 := by
        intro na
        rw [ic_f na] at hfo
        refine m_4002_64 (sp_goesOn e10 (by omega) ?_ (fun g => ⟨fun _ => ?_, fun z => absurd (by decide) z⟩) (fun g => ⟨fun z => absurd rfl z, fun _ => ?_⟩))
        · rcases haw with z | z
          · exact Or.inl z
          · by_cases z0 : (aut (byC μ) n u).2 = 0
            · exact Or.inl z0
            · unfold wNow
              rw [if_neg z0]
              exact Or.inr z
        · have ng : ¬ isE1 (byC μ) n u := fun z => z g
          rw [ic_f ng] at hfo
          have hw : 7 ≤ wNow (byC μ) n u ∧ wNow (byC μ) n u ≤ 14 := by
            unfold wNow
            by_cases z0 : (aut (byC μ) n u).2 = 0
            · rw [if_pos z0]
              unfold gO at g
              omega
            · rw [if_neg z0]
              exact haw.resolve_left z0
          have blm : isE2 (byC μ) n u → ∀ μ3, Fz μ μ3 → μ3 4 0 11 = ((stt (byC μ) n u : Nat) : Int) → RMv sc (d + 8) 4012 [rfc 4 0, .inl 2, .inl (μ3 4 0 11)] (t, 0, 0) μ3 (fun μ4 => R_4002 sc (d + 8) (PV t Q) t 120 [rfc 4 0, .inl (wNow (byC μ) n u), .inl (aut (byC μ) n u).2, .inl (u : Int)] [] μ4) := by
            intro e2 μ3 F3 h11
            rw [ic_t e2] at hfo
            refine m_4012 (bad 2 _ (by decide) ((F3.trans (Fz.w (by omega))).trans (Fz.w (by omega))) ?_ ?_ hfo.symm _ _ (by omega))
            · rw [wr_k (by decide), wr_same]
            · rw [wr_same]; exact h11
          refine ⟨fun z => blm (Or.inl (by omega)) μ2 FF e11, fun z => ⟨fun z0 => ?_, fun z0 => ?_⟩⟩
          · have ne2 : ¬ isE2 (byC μ) n u := fun y => y.elim (fun w => z (by omega)) (fun w => z0 w.1)
            rw [ic_f ne2] at hfo
            refine sp_keepTok K2.1 (by omega) (good _ (FF.trans (((((Fz.w (by omega)).trans (Fz.w (by omega))).trans (Fz.w (by omega)))).trans (Fz.w (by omega)))) ?_ ?_ ?_ ?_ ⟨?_, fun i hi => ?_⟩ (fun w hw2 => ?_) (by omega) hw hfo)
            · rw [wr_k (by decide), wr_c (by decide), wr_c (by decide), wr_c (by decide)]; exact o7
            · rw [wr_k (by decide), wr_c (by decide), wr_c (by decide), wr_c (by decide)]; exact o8
            · rw [wr_k (by decide), wr_c (by decide), wr_c (by decide), wr_c (by decide)]; exact e9
            · rw [wr_k (by decide), wr_c (by decide), wr_c (by decide), wr_c (by decide)]; exact e10
            · rw [wr_same]; omega
            · by_cases q : i = u
              · subst q
                obtain ⟨k1, k2, k3⟩ := keep_s (m := μ2) (N := i) (a := μ2 4 0 10) (b := μ2 4 0 11) (c := μ2 4 0 12) (e := (i : Int) + 1)
                rw [k1, k2, k3]
                exact ⟨e10, e11, e12⟩
              · obtain ⟨k1, k2, k3⟩ := keep_o (m := μ2) (N := u) (a := μ2 4 0 10) (b := μ2 4 0 11) (c := μ2 4 0 12) (e := (u : Int) + 1) q
                rw [k1, k2, k3]
                exact K2.2 i (by omega)
            · rw [wr_c (by decide), wr_c (by decide), wr_c (by decide), wr_c (by decide), cntW_s, if_neg (fun y => z0 y.1), Int.add_zero]
              exact To2 w hw2
          · have s0 := Decidable.not_not.mp z0
            have ewn : wNow (byC μ) n u = tK (byC μ) n u := by unfold wNow; rw [if_pos s0]
            have ej : (wNow (byC μ) n u - 7).toNat < 8 := by omega
            have et := To2 _ ej
            rw [show ((wNow (byC μ) n u - 7).toNat : Int) + 7 = tK (byC μ) n u by omega] at et
            have cb := cntW_b (byC μ) n (tK (byC μ) n u) u
            have em : rom 102 1 (wNow (byC μ) n u - 7).toNat = mst (tK (byC μ) n u) := by rw [ewn]; rfl
            have F24 : Fz μ2 (wr μ2 24 0 (wNow (byC μ) n u - 7).toNat (cntW (byC μ) n (tK (byC μ) n u) u + 1)) := Fz.w (by omega)
            have w4 : (wr μ2 24 0 (wNow (byC μ) n u - 7).toNat (cntW (byC μ) n (tK (byC μ) n u) u + 1)) 4 = μ2 4 := wr_c (by decide)
            have ToN : Told (wr μ2 24 0 (wNow (byC μ) n u - 7).toNat (cntW (byC μ) n (tK (byC μ) n u) u + 1)) (byC μ) n (u + 1) := by
              intro w hw2
              rw [cntW_s]
              by_cases q : w = (wNow (byC μ) n u - 7).toNat
              · rw [q, wr_same, if_pos ⟨s0, by omega⟩]
                rw [show ((wNow (byC μ) n u - 7).toNat : Int) + 7 = tK (byC μ) n u by omega]
              · rw [wr_k q, if_neg (by omega), Int.add_zero]
                exact To2 w hw2
            refine m_4013 ⟨by omega, fun y => absurd y (by omega), fun _ => ⟨fun y => ⟨by omega, by omega, by omega, by omega, by omega, ?_⟩, fun y => absurd (by omega) y⟩⟩
            rw [et, wr_same, em]
            refine ⟨fun y => ⟨fun _ => ?_, fun w => absurd rfl w⟩, fun y => ⟨fun w => absurd w (by decide), fun _ => blm (Or.inr ⟨s0, by omega⟩) _ (FF.trans F24) (by rw [w4]; exact e11)⟩⟩
            have ne2 : ¬ isE2 (byC μ) n u := fun y2 => y2.elim (fun w => z (by omega)) (fun w => by have := w.2; omega)
            rw [ic_f ne2] at hfo
            refine sp_keepTok (by rw [w4]; exact K2.1) (by omega) ?_
            rw [w4]
            refine good _ ((FF.trans F24).trans (((((Fz.w (by omega)).trans (Fz.w (by omega))).trans (Fz.w (by omega)))).trans (Fz.w (by omega)))) ?_ ?_ ?_ ?_ ⟨?_, fun i hi => ?_⟩ (fun w hw2 => ?_) (by omega) hw hfo
            · rw [wr_k (by decide), wr_c (by decide), wr_c (by decide), wr_c (by decide), w4]; exact o7
            · rw [wr_k (by decide), wr_c (by decide), wr_c (by decide), wr_c (by decide), w4]; exact o8
            · rw [wr_k (by decide), wr_c (by decide), wr_c (by decide), wr_c (by decide), w4]; exact e9
            · rw [wr_k (by decide), wr_c (by decide), wr_c (by decide), wr_c (by decide), w4]; exact e10
            · rw [wr_same]; omega
            · by_cases q : i = u
              · subst q
                obtain ⟨k1, k2, k3⟩ := keep_s (m := wr μ2 24 0 (wNow (byC μ) n i - 7).toNat (cntW (byC μ) n (tK (byC μ) n i) i + 1)) (N := i) (a := μ2 4 0 10) (b := μ2 4 0 11) (c := μ2 4 0 12) (e := (i : Int) + 1)
                rw [k1, k2, k3]
                exact ⟨e10, e11, e12⟩
              · obtain ⟨k1, k2, k3⟩ := keep_o (m := wr μ2 24 0 (wNow (byC μ) n u - 7).toNat (cntW (byC μ) n (tK (byC μ) n u) u + 1)) (N := u) (a := μ2 4 0 10) (b := μ2 4 0 11) (c := μ2 4 0 12) (e := (u : Int) + 1) q
                rw [k1, k2, k3, wr_c (by decide), wr_c (by decide), wr_c (by decide)]
                exact K2.2 i (by omega)
            · rw [wr_c (by decide), wr_c (by decide), wr_c (by decide), wr_c (by decide)]
              exact ToN w hw2
        · rw [ic_t (show isE1 (byC μ) n u from g)] at hfo
          refine m_4012 (bad 1 _ (by decide) ((FF.trans (Fz.w (by omega))).trans (Fz.w (by omega))) ?_ ?_ hfo.symm _ _ (by omega))
          · rw [wr_k (by decide), wr_same]
          · rw [wr_same]; exact e11
      rw [e10]
      have r64 : ¬ isAcc (byC μ) n u → (¬ (aut (byC μ) n u).2 = 0 → R_4002 sc (d + 8) (PV t Q) t 64 [rfc 4 0, .inl (aut (byC μ) n u).1, .inl (aut (byC μ) n u).2, .inl (u : Int)] [] μ2) ∧ (¬ (¬ (aut (byC μ) n u).2 = 0) → R_4002 sc (d + 8) (PV t Q) t 64 [rfc 4 0, .inl (tK (byC μ) n u), .inl (aut (byC μ) n u).2, .inl (u : Int)] [] μ2) := by
        intro na
        have r := tok na
        unfold wNow at r
        refine ⟨fun z => ?_, fun z => ?_⟩
        · rw [if_neg z] at r
          exact r
        · rw [if_pos (Decidable.not_not.mp z)] at r
          exact r
      refine ⟨fun z => r64 fun y => z y.1, fun z => ⟨fun z0 => r64 fun y => z0 y.2, fun z0 => ?_⟩⟩
      have ac : isAcc (byC μ) n u := ⟨Decidable.not_not.mp z, Decidable.not_not.mp z0⟩
      rw [ic_t ac] at hfo
      refine PV_mk (h μ2 ⟨FF, by rw [o7, ← hfo], fun y => absurd (by rw [← hfo]) y, fun _ => ⟨o8, ?_, ?_⟩⟩)
      · rw [← hfo]
        exact K2
      · rw [← hfo]
        exact hu4
  refine m_4002 (sp_fill0 fun μ1 f1 z1 => ?_)
  have Fw : Fz μ μ1 := fun c i k a b => by
    rw [f1 c i k (by omega)]
    unfold wr
    rw [if_neg fun z => a ⟨z.1, z.2.1, by omega, by omega⟩, if_neg fun z => a ⟨z.1, z.2.1, by omega, by omega⟩]
  refine lp 401 0 μ1 rfl rfl Fw ?_ ?_ ?_ ⟨?_, fun i hi => absurd hi (by omega)⟩ (fun w hw => z1 w hw) (Or.inl rfl) ⟨Int.le_refl 0, Int.le_refl 0⟩ (by decide)
  · rw [f1 4 0 7 (by decide), wr_k (by decide), wr_k (by decide)]; exact h7
  · rw [f1 4 0 8 (by decide), wr_k (by decide), wr_k (by decide)]
  · rw [f1 4 0 9 (by decide), wr_k (by decide), wr_same]; rfl
  · rw [f1 4 0 6 (by decide), wr_same]; rfl
