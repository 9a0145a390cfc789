/-! MATHEMATICS, 48: fitting -/
def fitJ (μ : Mem) (x y : Int) (j : Nat) : Prop := Pm μ (x + μ 27 4 j) (y + μ 28 4 j) ∧ ech (RT μ (μ 29 4 j) (x + μ 27 4 j) (y + μ 28 4 j) (x + μ 27 4 j) (y + μ 28 4 j)) = μ 30 4 j
def PdF (μ : Mem) (k : Int) (x y : Nat) : Prop := ∀ j : Nat, (j : Int) < k → fitJ μ (x : Int) (y : Int) j
theorem FW.fj {μ μ' : Mem} (h : FW μ μ') (hS : Sim μ) (x y : Int) (j : Nat) : fitJ μ' x y j ↔ fitJ μ x y j := by
  unfold fitJ Pm
  rw [h.rt hS, h.e1, h.1 27 (by unfold Kp; omega), h.1 28 (by unfold Kp; omega), h.1 29 (by unfold Kp; omega), h.1 30 (by unfold Kp; omega)]
theorem scx_s {Pd : Nat → Nat → Prop} {y x : Nat} {S : Sq} : scx Pd y (x + 1) S = ic (Pd x y) (snoc (scx Pd y x S) ((100 * (y : Int)) + (x : Int))) (scx Pd y x S) := rfl
def SMf (μ : Mem) (S : Sq) : Prop := μ 11 0 86 = (S.2 : Int) ∧ ∀ i, i < S.2 → μ 89 0 i = S.1 i
theorem SMf.fm {μ μ' : Mem} {S : Sq} (h : Fm 49 μ μ') (hS : SMf μ S) : SMf μ' S := by
  unfold SMf
  rw [h.f (k := 86) (by decide), h.c (c := 89) (by decide) (by decide)]
  exact hS
theorem ST.at4 {μ : Mem} (h : ST μ) {j : Nat} (hj : (j : Int) < μ 3 4 4) : (-40 ≤ μ 27 4 j ∧ μ 27 4 j ≤ 40) ∧ (-40 ≤ μ 28 4 j ∧ μ 28 4 j ≤ 40) ∧ Ld (μ 29 4 j) ∧ (μ 85 0 j = μ 27 4 j ∧ μ 86 0 j = μ 28 4 j ∧ μ 87 0 j = μ 29 4 j ∧ μ 88 0 j = μ 30 4 j) := by
  obtain ⟨⟨a, b, c, d⟩, e⟩ := h.2.1.2.2 j hj
  have f := h.2.2.2 j hj
  exact ⟨f.1, f.2, e, a.symm, b.symm, c.symm, d.symm⟩
theorem L56i {sc : Scr} {t : Nat} {μ : Mem} {P : Option AV → AS → Prop} {k : Int} {y : Nat} (hS : Sim μ) (hk : 0 ≤ k ∧ k ≤ μ 3 4 4) (hy : y < Hg μ)
    (h : ∀ μ' q0 q1 q2 q3 q4, FW μ μ' → SC μ' (scy (PdF μ k) (Wd μ) (y + 1)) → R_56 sc 11 P t 10 [rfc 0 0, .inl k, .inl ((y + 1 : Nat) : Int), q0, q1, q2, q3, q4] [] μ') :
    ∀ (nn x : Nat) (μ' : Mem) (q1 q2 q3 q4 : AV), nn + x = Wd μ → FW μ μ' → SC μ' (scx (PdF μ k) y x (scy (PdF μ k) (Wd μ) y)) → R_56 sc 11 P t 23 [rfc 0 0, .inl k, .inl (y : Int), .inl (x : Int), q1, q2, q3, q4] [] μ' := by
  obtain ⟨w1, w2, w3, w4⟩ := hS.wh
  intro nn
  induction nn with
  | zero =>
    intro x μ' q1 q2 q3 q4 hx hF hC
    have : x = Wd μ := by omega
    subst this
    have e1 := hF.e1
    exact m_56_23 ⟨fun _ => ⟨by omega, h μ' _ _ _ _ _ hF hC⟩, fun c => absurd (by rw [e1]; omega) c⟩
  | succ nn ih =>
    intro x μ' q1 q2 q3 q4 hx hF hC
    have S' := hS.fw hF
    have e1 := hF.e1
    have hp : Pm μ' (x : Int) (y : Int) := by unfold Pm; rw [e1]; omega
    have nb : (scx (PdF μ k) y x (scy (PdF μ k) (Wd μ) y)).2 < 1600 := by
      have b1 := scx_le (PdF μ k) y (scy (PdF μ k) (Wd μ) y) x
      have b2 := scy_le (PdF μ k) w3 y
      omega
    have xs : x < 40 := by omega
    have ys : y < 40 := by omega
    have go : ∀ μ2 q1 q2 q3 q4, FW μ' μ2 → SC μ2 (scx (PdF μ k) y (x + 1) (scy (PdF μ k) (Wd μ) y)) → R_56 sc 11 P t 23 [rfc 0 0, .inl k, .inl (y : Int), .inl ((x : Int) + 1), q1, q2, q3, q4] [] μ2 := fun μ2 q1 q2 q3 q4 F2 C2 => ih (x + 1) μ2 q1 q2 q3 q4 (by omega) (hF.trans F2) C2
    refine m_56_23 ⟨fun c => absurd c (by rw [e1]; omega), fun _ => ?_⟩
    have e3 : ∀ {m : Mem}, FW μ' m → m 3 4 4 = μ 3 4 4 := fun F => by rw [F.1 3 (by unfold Kp; omega), hF.1 3 (by unfold Kp; omega)]
    have h20 := S'.2.2.2.1.2.1.2.1.2
    have out : ∀ (v : Int) (j : Nat) (μ2 : Mem) (q6 q7 : AV), FW μ' μ2 → SC μ2 (scx (PdF μ k) y x (scy (PdF μ k) (Wd μ) y)) → (v = 0 → ¬ PdF μ k x y) → (v ≠ 0 → PdF μ k x y) → R_56 sc 11 P t 133 [rfc 0 0, .inl k, .inl (y : Int), .inl (x : Int), .inl v, .inl (j : Int), q6, q7] [] μ2 := by
      intro v j μ2 q6 q7 F2 C2 h0 h1
      refine m_56_133 ⟨fun c => ⟨by omega, go μ2 _ _ _ _ F2 ?_⟩, fun c => sp_code xs ys (sp_add C2 nb fun μ3 F3 C3 => ⟨by omega, go μ3 _ _ _ _ (F2.trans F3) ?_⟩)⟩
      · unfold scx
        rw [ic_f (h0 c)]
        exact C2
      · unfold scx
        rw [ic_t (h1 c)]
        exact C3
    have lp : ∀ (n j : Nat) (v : Int) (μ2 : Mem) (q6 q7 : AV), n + j = k.toNat → FW μ' μ2 → SC μ2 (scx (PdF μ k) y x (scy (PdF μ k) (Wd μ) y)) → (v = 0 → ¬ PdF μ k x y) → (v ≠ 0 → ∀ i, i < j → fitJ μ (x : Int) (y : Int) i) → R_56 sc 11 P t 40 [rfc 0 0, .inl k, .inl (y : Int), .inl (x : Int), .inl v, .inl (j : Int), q6, q7] [] μ2 := by
      intro n
      induction n with
      | zero =>
        intro j v μ2 q6 q7 hj F2 C2 h0 h1
        exact m_56_40 ⟨fun _ => out v j μ2 q6 q7 F2 C2 h0 fun z i hi => h1 z i (by omega), fun c => absurd (by omega) c⟩
      | succ n ihn =>
        intro j v μ2 q6 q7 hj F2 C2 h0 h1
        have S2 := S'.fw F2
        have FF := hF.trans F2
        have hj4 : Nm μ2 4 (j : Int) := by unfold Nm; rw [e3 F2]; omega
        have N20 : μ2 3 4 4 ≤ ((20 : Nat) : Int) := by rw [e3 F2]; rw [← e3 FW.rfl]; omega
        obtain ⟨x4, y4, l4, -⟩ := S2.2.2.2.1.at4 hj4.2
        refine m_56_40 ⟨fun c => absurd c (by omega), fun _ => ⟨fun c => out v j μ2 q6 q7 F2 C2 h0 fun z => absurd c z, fun c => sp_xAt (N := 20) rfl N20 hj4 ⟨?_, sp_yAt (N := 20) rfl rfl N20 hj4 ⟨?_, ?_⟩⟩⟩⟩
        · rw [Int.toNat_natCast]; omega
        · rw [Int.toNat_natCast]; omega
        · rw [Int.toNat_natCast]
          refine sp_holds (fun p => ⟨fun z => absurd z (by decide), fun _ => sp_lAt (N := 20) rfl rfl N20 hj4 ?_⟩) (fun p => ⟨fun _ => ⟨by omega, ihn (j + 1) 0 μ2 _ _ (by omega) F2 C2 (fun _ z => p ((FF.fj hS _ _ _).mpr (z j (by omega))).1) (fun z => absurd rfl z)⟩, fun z => absurd rfl z⟩)
          rw [Int.toNat_natCast]
          refine sp_echoTime S2.co (S2.pl p) l4.b fun μ3 F3 => ?_
          have F23 := F2.trans F3.fw
          refine sp_tAt (N := 20) rfl rfl (by rw [F3.c (c := 3) (by decide)]; exact N20) (by rw [F3.c (c := 3) (by decide)]; exact hj4) ?_
          rw [Int.toNat_natCast, F3.c (c := 30) (by decide)]
          have C3 := C2.f8 F3
          refine ⟨fun z => ⟨by omega, ihn (j + 1) 0 μ3 _ _ (by omega) F23 C3 (fun _ w => z ((FF.fj hS _ _ _).mpr (w j (by omega))).2) (fun z => absurd rfl z)⟩, fun z => ⟨by omega, ihn (j + 1) 1 μ3 _ _ (by omega) F23 C3 (fun z => absurd z (by decide)) (fun _ i hi => ?_)⟩⟩
          by_cases q : i = j
          · subst q
            exact (FF.fj hS _ _ _).mp ⟨p, Decidable.not_not.mp z⟩
          · exact h1 c i (by omega)
    exact lp k.toNat 0 1 μ' _ _ rfl FW.rfl hC (fun z => absurd z (by decide)) (fun _ i hi => absurd hi (by omega))
theorem L56 {sc : Scr} {t : Nat} {μ : Mem} {P : Option AV → AS → Prop} {k : Int} (hS : Sim μ) (hk : 0 ≤ k ∧ k ≤ μ 3 4 4)
    (h : ∀ μ', FW μ μ' → SC μ' (scy (PdF μ k) (Wd μ) (Hg μ)) → P none (fs (t, 0, 0) μ')) :
    ∀ (nn y : Nat) (μ' : Mem) (q0 q1 q2 q3 q4 : AV), nn + y = Hg μ → FW μ μ' → SC μ' (scy (PdF μ k) (Wd μ) y) → R_56 sc 11 P t 10 [rfc 0 0, .inl k, .inl (y : Int), q0, q1, q2, q3, q4] [] μ' := by
  obtain ⟨w1, w2, w3, w4⟩ := hS.wh
  intro nn
  induction nn with
  | zero =>
    intro y μ' q0 q1 q2 q3 q4 hy hF hC
    have : y = Hg μ := by omega
    subst this
    have e1 := hF.e1
    have b2 := scy_le (PdF μ k) w3 (Hg μ)
    exact m_56_10 ⟨fun _ => h μ' hF hC, fun c => absurd (by rw [e1]; omega) c⟩
  | succ nn ih =>
    intro y μ' q0 q1 q2 q3 q4 hy hF hC
    have e1 := hF.e1
    exact m_56_10 ⟨fun c => absurd c (by rw [e1]; omega), fun _ => L56i hS hk (by omega) (fun μ2 q0 q1 q2 q3 q4 F2 C2 => ih (y + 1) μ2 q0 q1 q2 q3 q4 (by omega) F2 C2) (Wd μ) 0 μ' _ _ _ _ rfl hF hC⟩
theorem sp_isFit {sc : Scr} {d t : Nat} {μ : Mem} {Q : Int → Mem → Prop} {x y : Nat} {k : Int} (hx : x < 40) (hy : y < 40) (hS : Sim μ) (hk : 0 ≤ k ∧ k ≤ μ 3 4 4) (h1 : PdF μ k x y → ∀ μ', Fm 49 μ μ' → Q 1 μ') (h0 : ¬ PdF μ k x y → ∀ μ', Fm 49 μ μ' → Q 0 μ') : RMi sc (d + 7) 11101 [rfc 11 0, .inl (x : Int), .inl (y : Int), .inl k] (t, 0, 0) μ Q := by
  have h20 := hS.2.2.2.1.2.1.2.1.2
  have lp : ∀ (n j : Nat) (μ' : Mem) (q5 q6 : AV), n + j = k.toNat → Fm 49 μ μ' → (∀ i, i < j → fitJ μ (x : Int) (y : Int) i) → R_11101 sc (d + 6) (PI t Q) t 3 [rfc 11 0, .inl (x : Int), .inl (y : Int), .inl k, .inl (j : Int), q5, q6] [] μ' := by
    intro n
    induction n with
    | zero =>
      intro j μ' q5 q6 hj hF ha
      exact m_11101_3 ⟨fun _ => PI_mk (h1 (fun i hi => ha i (by omega)) μ' hF), fun c => absurd (by omega) c⟩
    | succ n ih =>
      intro j μ' q5 q6 hj hF ha
      have S' := hS.fw hF.fw
      have e3 : μ' 3 4 4 = μ 3 4 4 := by rw [hF.fw.1 3 (by unfold Kp; omega)]
      obtain ⟨x4, y4, l4, a1, a2, a3, a4⟩ := S'.2.2.2.1.at4 (j := j) (by rw [e3]; omega)
      refine m_11101_3 ⟨fun c => absurd c (by omega), fun _ => ?_⟩
      rw [Int.toNat_natCast, a1, a2]
      refine ⟨by omega, by omega, by omega, by omega, sp_isPlace S'.1.1 S'.2.1 (fun p => ⟨fun z => absurd z (by decide), fun _ => ⟨by omega, ?_⟩⟩) (fun p => ⟨fun _ => PI_mk (h0 (fun z => p ((hF.fw.fj hS _ _ _).mpr (z j (by omega))).1) μ' hF), fun z => absurd rfl z⟩)⟩
      rw [a3]
      refine sp_echo S'.mo (S'.pl p) l4.b fun μ2 F2 => ⟨by omega, ?_⟩
      have F' := hF.trans F2
      rw [S'.rets, F2.c (c := 88) (by decide) (by decide), a4]
      refine ⟨fun z => ⟨by omega, ih (j + 1) μ2 _ _ (by omega) F' fun i hi => ?_⟩, fun z => PI_mk (h0 (fun w => z ((hF.fw.fj hS _ _ _).mpr (w j (by omega))).2) μ2 F')⟩
      by_cases q : i = j
      · subst q
        exact (hF.fw.fj hS _ _ _).mp ⟨p, z⟩
      · exact ha i (by omega)
  exact m_11101 (lp k.toNat 0 μ _ _ rfl Fm.rfl fun i hi => absurd hi (by omega))
theorem FW.pdF {μ μ' : Mem} (h : FW μ μ') (hS : Sim μ) (k : Int) (x y : Nat) : PdF μ' k x y ↔ PdF μ k x y := by
  unfold PdF
  exact forall_congr' fun j => imp_congr_right fun _ => h.fj hS _ _ _
theorem L99fi {sc : Scr} {t : Nat} {μ : Mem} {P : Option AV → AS → Prop} {k : Int} {y : Nat} (hS : Sim μ) (hk : 0 ≤ k ∧ k ≤ μ 3 4 4) (hy : y < Hg μ)
    (h : ∀ μ' q0, FW μ μ' → SMf μ' (scy (PdF μ k) (Wd μ) (y + 1)) → R_11100 sc 11 P t 7 [rfc 11 0, .inl k, .inl ((y + 1 : Nat) : Int), q0] [] μ') :
    ∀ (nn x : Nat) (μ' : Mem), nn + x = Wd μ → FW μ μ' → SMf μ' (scx (PdF μ k) y x (scy (PdF μ k) (Wd μ) y)) → R_11100 sc 11 P t 22 [rfc 11 0, .inl k, .inl (y : Int), .inl (x : Int)] [] μ' := by
  obtain ⟨w1, w2, w3, w4⟩ := hS.wh
  intro nn
  induction nn with
  | zero =>
    intro x μ'  hx hF hC
    have : x = Wd μ := by omega
    subst this
    have e1 := hF.e1
    have S' := hS.fw hF
    have l := S'.1.1
    have ew := S'.2.1.2.2.2.1.1
    unfold liv at l
    unfold lvM at ew
    exact m_11100_22 ⟨by omega, fun _ => ⟨by omega, h μ' _ hF hC⟩, fun c => absurd (by rw [ew, e1]; omega) c⟩
  | succ nn ih =>
    intro x μ'  hx hF hC
    have S' := hS.fw hF
    have e1 := hF.e1
    have S' := hS.fw hF
    have l := S'.1.1
    have ew := S'.2.1.2.2.2.1.1
    unfold liv at l
    unfold lvM at ew
    have hp : Pm μ' (x : Int) (y : Int) := by unfold Pm; rw [e1]; omega
    have nb : (scx (PdF μ k) y x (scy (PdF μ k) (Wd μ) y)).2 < 1600 := by
      have b1 := scx_le (PdF μ k) y (scy (PdF μ k) (Wd μ) y) x
      have b2 := scy_le (PdF μ k) w3 y
      omega
    have xs : x < 40 := by omega
    have ys : y < 40 := by omega
    have go : ∀ μ2 , FW μ' μ2 → SMf μ2 (scx (PdF μ k) y (x + 1) (scy (PdF μ k) (Wd μ) y)) → R_11100 sc 11 P t 22 [rfc 11 0, .inl k, .inl (y : Int), .inl ((x : Int) + 1)] [] μ2 := fun μ2  F2 C2 => ih (x + 1) μ2  (by omega) (hF.trans F2) C2
    refine m_11100_22 ⟨by omega, fun c => absurd c (by rw [ew, e1]; omega), fun _ => ?_⟩
    have e3 : μ' 3 4 4 = μ 3 4 4 := by rw [hF.1 3 (by unfold Kp; omega)]
    refine sp_isFit xs ys S' (by rw [e3]; exact hk) (fun f μ2 F2 => ⟨fun _ => ?_, fun z => absurd (by decide) z⟩) (fun f μ2 F2 => ⟨fun z => absurd rfl z, fun _ => ⟨by omega, go μ2 F2.fw ?_⟩⟩)
    · have C2 := hC.fm F2
      have k1 := C2.1
      refine ⟨by omega, by omega, by omega, ?_, by omega, ?_⟩
      · rw [wr_c (by decide), k1]; omega
      · rw [k1, Int.toNat_natCast]
        refine go _ (F2.fw.trans ((FW.w (by unfold Kp; omega)).trans (FW.w11 (by decide)))) ?_
        rw [scx_s, ic_t ((hF.pdF hS _ _ _).mp f)]
        refine ⟨?_, fun i hi => ?_⟩
        · rw [wr_same, wr_c (by decide), k1]
          unfold snoc
          simp
        · rw [wr_c (by decide)]
          unfold snoc at hi ⊢
          simp only [] at hi ⊢
          by_cases q : i = (scx (PdF μ k) y x (scy (PdF μ k) (Wd μ) y)).2
          · rw [if_pos q, q, wr_same]
          · rw [if_neg q, wr_k q]
            exact C2.2 i (by omega)
    · unfold scx
      rw [ic_f fun z => f ((hF.pdF hS _ _ _).mpr z)]
      exact hC.fm F2
theorem L99f {sc : Scr} {t : Nat} {μ : Mem} {P : Option AV → AS → Prop} {k : Int} (hS : Sim μ) (hk : 0 ≤ k ∧ k ≤ μ 3 4 4)
    (h : ∀ μ', FW μ μ' → SMf μ' (scy (PdF μ k) (Wd μ) (Hg μ)) → P none (fs (t, 0, 0) μ')) :
    ∀ (nn y : Nat) (μ' : Mem) (q0 : AV), nn + y = Hg μ → FW μ μ' → SMf μ' (scy (PdF μ k) (Wd μ) y) → R_11100 sc 11 P t 7 [rfc 11 0, .inl k, .inl (y : Int), q0] [] μ' := by
  obtain ⟨w1, w2, w3, w4⟩ := hS.wh
  intro nn
  induction nn with
  | zero =>
    intro y μ' q0 hy hF hC
    have : y = Hg μ := by omega
    subst this
    have e1 := hF.e1
    have b2 := scy_le (PdF μ k) w3 (Hg μ)
    have S' := hS.fw hF
    have l := S'.1.1
    have ew := S'.2.1.2.2.2.2.1
    unfold liv at l
    unfold lvM at ew
    exact m_11100_7 ⟨by omega, fun _ => h μ' hF hC, fun c => absurd (by rw [ew, e1]; omega) c⟩
  | succ nn ih =>
    intro y μ' q0 hy hF hC
    have e1 := hF.e1
    have S' := hS.fw hF
    have l := S'.1.1
    have ew := S'.2.1.2.2.2.2.1
    unfold liv at l
    unfold lvM at ew
    exact m_11100_7 ⟨by omega, fun c => absurd c (by rw [ew, e1]; omega), fun _ => L99fi hS hk (by omega) (fun μ2 q0 F2 C2 => ih (y + 1) μ2 q0 (by omega) F2 C2) (Wd μ) 0 μ'  rfl hF hC⟩
theorem sp_findFit {sc : Scr} {t : Nat} {μ : Mem} {Q : Mem → Prop} {k : Int} (hS : Sim μ) (hk : 0 ≤ k ∧ k ≤ μ 3 4 4) (h : ∀ μ', FW μ μ' → SC μ' (scy (PdF μ k) (Wd μ) (Hg μ)) → Q μ') : RMv sc 12 56 [rfc 0 0, .inl k] (t, 0, 0) μ Q :=
  m_56 (L56 hS hk (fun μ' F C => PV_mk (h μ' F C)) (Hg μ) 0 _ _ _ _ _ _ rfl (FW.w (by unfold Kp; omega)) ⟨wr_same _ _ _ _ _, fun i hi => absurd hi (by unfold scy; simp)⟩)
theorem sp_fillFits {sc : Scr} {t : Nat} {μ : Mem} {Q : Mem → Prop} {k : Int} (hS : Sim μ) (hk : 0 ≤ k ∧ k ≤ μ 3 4 4) (h : ∀ μ', FW μ μ' → SMf μ' (scy (PdF μ k) (Wd μ) (Hg μ)) → Q μ') : RMv sc 12 11100 [rfc 11 0, .inl k] (t, 0, 0) μ Q :=
  m_11100 (L99f hS hk (fun μ' F C => PV_mk (h μ' F C)) (Hg μ) 0 _ _ rfl (FW.w11 (by decide)) ⟨wr_same _ _ _ _ _, fun i hi => absurd hi (by unfold scy; simp)⟩)
noncomputable def fitS (μ : Mem) (k : Int) : Sq := scy (PdF μ k) (Wd μ) (Hg μ)
theorem fitS_le {μ : Mem} (hS : Sim μ) (k : Int) : (fitS μ k).2 ≤ 1600 := by
  have w := hS.wh
  have := scy_le (PdF μ k) w.2.2.1 (Hg μ)
  unfold fitS
  omega
theorem FW.fit {μ μ' : Mem} (h : FW μ μ') (hS : Sim μ) (k : Int) : fitS μ' k = fitS μ k := by
  unfold fitS Wd Hg
  rw [h.e1]
  exact scy_c fun x y _ _ => h.pdF hS k x y
