/-! MATHEMATICS, 37: whose, first, along, nearest -/
noncomputable def woF (μ : Mem) (e tm : Int) : Nat → Int
  | 0 => 0
  | k + 1 => if 0 ≤ FT μ 0 (k : Int) (μ 27 1 e.toNat) (μ 28 1 e.toNat) ∧ FT μ 0 (k : Int) (μ 27 1 e.toNat) (μ 28 1 e.toNat) = tm then orv (woF μ e tm k) (shlv 1 (k : Int)) else woF μ e tm k
noncomputable def F_whose (e tm : Int) (μ : Mem) : Int := ic (Nm μ 1 e) (woF μ e tm (μ 3 0 4).toNat) (-1)
theorem FW.wo {μ μ' : Mem} (h : FW μ μ') (hS : Sim μ) (e tm : Int) : ∀ k, woF μ' e tm k = woF μ e tm k
  | 0 => Eq.refl _
  | k + 1 => by
    unfold woF
    rw [FW.wo h hS e tm k, h.ft hS, h.1 27 (by unfold Kp; omega), h.1 28 (by unfold Kp; omega)]
theorem p_whose {sc : Scr} {t : Nat} {μ : Mem} {e tm : Int} (hS : Sim μ) : PR sc t μ 41 11080 [.inl e, .inl tm] := by
  refine PR_of (F_whose e tm) hS (fun μ1 F1 => ?_) (fun μ Q hS h => ?_) (fun μ Q hS h => ?_)
  · unfold F_whose Nm
    rw [F1.1 3 (by unfold Kp; omega), F1.wo hS]
  · unfold F_whose at h
    refine m_41 (sp_has (N := 6) rfl hS.2.2.1.2.1.c6 (fun he => ⟨fun _ => ?_, fun z => absurd (by decide) z⟩) (fun he => ⟨fun z => absurd rfl z, fun _ => ?_⟩))
    · rw [ic_t he] at h
      have c6 := hS.2.2.1.1.2.1
      have lp : ∀ (n k : Nat) (μ' : Mem) (q5 : AV), n + k = (μ 3 0 4).toNat → FW μ μ' → R_41 sc 12 (PI t Q) t 21 [rfc 0 0, .inl e, .inl tm, .inl (woF μ e tm k), .inl (k : Int), q5] [] μ' := by
        intro n
        induction n with
        | zero =>
          intro k μ' q5 hk hF
          have e3 : μ' 3 = μ 3 := hF.1 3 (by unfold Kp; omega)
          have : k = (μ 3 0 4).toNat := by omega
          subst this
          exact m_41_21 ⟨fun _ => PI_mk (h μ' hF), fun c => absurd (by rw [e3]; omega) c⟩
        | succ n ih =>
          intro k μ' q5 hk hF
          have e3 : μ' 3 = μ 3 := hF.1 3 (by unfold Kp; omega)
          have S' := hS.fw hF
          have he' := (hF.nm 1 e).mpr he
          have hk' : Nm μ' 0 (k : Int) := by unfold Nm; rw [e3]; omega
          refine m_41_21 ⟨fun c => absurd c (by rw [e3]; omega), fun _ => sp_xAt (N := 6) rfl S'.2.2.1.2.1.c6 he' (sp_yAt (N := 6) rfl rfl S'.2.2.1.2.1.c6 he' (sp_manS S'.ga hk' (S'.pl (S'.2.2.1.2.1.at he').2.2) fun μ2 F2 => ?_))⟩
          rw [hF.ft hS, hF.1 27 (by unfold Kp; omega), hF.1 28 (by unfold Kp; omega)]
          have F' := hF.trans F2.fw
          refine ⟨fun c => ⟨by omega, ?_⟩, fun c => ⟨fun c2 => ⟨by omega, ?_⟩, fun c2 => ⟨by omega, ?_⟩⟩⟩
          · have r := ih (k + 1) μ2 (.inl (FT μ 0 (k : Int) (μ 27 1 e.toNat) (μ 28 1 e.toNat))) (by omega) F'
            unfold woF at r
            rw [if_neg (by omega)] at r
            exact r
          · have r := ih (k + 1) μ2 (.inl (FT μ 0 (k : Int) (μ 27 1 e.toNat) (μ 28 1 e.toNat))) (by omega) F'
            unfold woF at r
            rw [if_neg (by omega)] at r
            exact r
          · have r := ih (k + 1) μ2 (.inl (FT μ 0 (k : Int) (μ 27 1 e.toNat) (μ 28 1 e.toNat))) (by omega) F'
            unfold woF at r
            rw [if_pos (by omega)] at r
            exact r
      exact lp _ 0 μ _ rfl FW.rfl
    · rw [ic_f he] at h
      exact h _ FW.rfl
  · unfold F_whose at h
    refine m_11080 (sp_isEar hS.1.1 hS.2.2.1 (fun he => ⟨fun _ => ?_, fun z => absurd (by decide) z⟩) (fun he => ⟨fun z => absurd rfl z, fun _ => ?_⟩))
    · rw [ic_t he] at h
      have c6 := hS.2.2.1.1.2.1
      have lp : ∀ (n k : Nat) (μ' : Mem), n + k = (μ 3 0 4).toNat → FW μ μ' → R_11080 sc 12 (PI t Q) t 15 [rfc 11 0, .inl e, .inl tm, .inl (woF μ e tm k), .inl (k : Int)] [] μ' := by
        intro n
        induction n with
        | zero =>
          intro k μ' hk hF
          have e3 : μ' 3 = μ 3 := hF.1 3 (by unfold Kp; omega)
          have S' := hS.fw hF
          have l := S'.1.1
          have ew := S'.2.2.1.1.1
          unfold liv at l
          unfold lvM at ew
          have : k = (μ 3 0 4).toNat := by omega
          subst this
          exact m_11080_15 ⟨by omega, fun _ => PI_mk (h μ' hF), fun c => absurd (by rw [ew, e3]; omega) c⟩
        | succ n ih =>
          intro k μ' hk hF
          have e3 : μ' 3 = μ 3 := hF.1 3 (by unfold Kp; omega)
          have S' := hS.fw hF
          have l := S'.1.1
          have ew := S'.2.2.1.1.1
          unfold liv at l
          unfold lvM at ew
          have he' := (hF.nm 1 e).mpr he
          have hk' : Nm μ' 0 (k : Int) := by unfold Nm; rw [e3]; omega
          have tb := S'.ga.tb hk' he'
          refine m_11080_15 ⟨by omega, fun c => absurd c (by rw [ew, e3]; omega), fun _ => sp_fillHeard S'.gm hk' he' fun μ2 F2 L2 => ?_⟩
          have F' := hF.trans F2.fw
          have r := ih (k + 1) μ2 (by omega) F'
          unfold woF at r
          have ef : fstT (HL μ' (k : Int) e) = FT μ 0 (k : Int) (μ 27 1 e.toNat) (μ 28 1 e.toNat) := by
            rw [← hF.ft hS, ← hF.1 27 (by unfold Kp; omega), ← hF.1 28 (by unfold Kp; omega)]
            rfl
          have z := fstT_b tb
          rw [ef] at z
          have e64 := L2.1
          refine ⟨fun c => ⟨by omega, ?_⟩, fun c => ?_⟩
          · rw [if_neg (by omega)] at r
            exact r
          · rcases z with z | ⟨z0, z1, z2⟩
            · exact absurd (by omega) c
            · rw [(L2.e (i := 0) (by omega)).2.1, ← z1]
              refine ⟨fun c2 => ⟨by omega, ?_⟩, fun c2 => ⟨by omega, ?_⟩⟩
              · rw [if_neg (by omega)] at r
                exact r
              · rw [if_pos (by omega)] at r
                exact r
      exact lp _ 0 μ rfl FW.rfl
    · rw [ic_f he] at h
      exact h _ FW.rfl
/-- the first bell -/
noncomputable def fbF (μ : Mem) (x y : Int) : Nat → Int × Int
  | 0 => (-2, -2)
  | k + 1 => if 0 ≤ bt' μ (k : Int) x y ∧ ((fbF μ x y k).1 < 0 ∨ bt' μ (k : Int) x y < (fbF μ x y k).2) then ((k : Int), bt' μ (k : Int) x y) else fbF μ x y k
theorem FW.fb {μ μ' : Mem} (h : FW μ μ') (hS : Sim μ) (x y : Int) : ∀ k, fbF μ' x y k = fbF μ x y k
  | 0 => Eq.refl _
  | k + 1 => by
    unfold fbF
    rw [FW.fb h hS x y k, h.bt hS]
theorem fbF_n (μ : Mem) (x y : Int) : ∀ k, (fbF μ x y k).1 < 0 → fbF μ x y k = (-2, -2)
  | 0, _ => rfl
  | k + 1, h => by
    unfold fbF at h ⊢
    split at h
    · simp only [] at h
      omega
    · rename_i c
      rw [if_neg c]
      exact fbF_n μ x y k h
noncomputable def F_first (x y what : Int) (μ : Mem) : Int := ic (Pm μ x y ∧ (0 ≤ what ∧ what ≤ 1)) (if what = 0 then (fbF μ x y (μ 3 2 4).toNat).1 else (fbF μ x y (μ 3 2 4).toNat).2) (-1)
theorem p_first {sc : Scr} {t : Nat} {μ : Mem} {x y what : Int} (hS : Sim μ) : PR sc t μ 42 11084 [.inl x, .inl y, .inl what] := by
  refine PR_of (F_first x y what) hS (fun μ1 F1 => ?_) (fun μ Q hS h => ?_) (fun μ Q hS h => ?_)
  · unfold F_first Pm
    rw [F1.1 3 (by unfold Kp; omega), F1.fb hS, F1.e1]
  · unfold F_first at h
    refine m_42 (sp_holds (fun p => ⟨fun z => absurd z (by decide), fun _ => sp_is01 (fun c2 => ⟨fun _ => ?_, fun z => absurd (by decide) z⟩) (fun c2 => ⟨fun z => absurd rfl z, fun _ => ?_⟩)⟩) (fun p => ⟨fun _ => ?_, fun z => absurd rfl z⟩))
    · rw [ic_t ⟨p, c2⟩] at h
      have c6 := hS.2.2.1.2.2.1.2.1
      have lp : ∀ (n k : Nat) (μ' : Mem) (q5 : AV), n + k = (μ 3 2 4).toNat → FW μ μ' → R_42 sc 12 (PI t Q) t 32 [rfc 0 0, .inl x, .inl y, .inl what, .inl (fbF μ x y k).1, .inl (fbF μ x y k).2, .inl (k : Int), q5] [] μ' := by
        intro n
        induction n with
        | zero =>
          intro k μ' q5 hk hF
          have e3 : μ' 3 = μ 3 := hF.1 3 (by unfold Kp; omega)
          have : k = (μ 3 2 4).toNat := by omega
          subst this
          have r := h μ' hF
          refine m_42_32 ⟨fun _ => ⟨fun c => ?_, fun c => ?_⟩, fun c => absurd (by rw [e3]; omega) c⟩
          · rw [if_neg c] at r
            exact PI_mk r
          · rw [if_pos (by omega)] at r
            exact PI_mk r
        | succ n ih =>
          intro k μ' q5 hk hF
          have e3 : μ' 3 = μ 3 := hF.1 3 (by unfold Kp; omega)
          have S' := hS.fw hF
          have hk' : Nm μ' 2 (k : Int) := by unfold Nm; rw [e3]; omega
          refine m_42_32 ⟨fun c => absurd c (by rw [e3]; omega), fun _ => sp_bellTime S'.ga hk' (S'.pl ((hF.pm _ _).mpr p)) fun μ2 F2 => ?_⟩
          rw [hF.bt hS]
          have r := ih (k + 1) μ2 (.inl (bt' μ (k : Int) x y)) (by omega) (hF.trans F2.fw)
          unfold fbF at r
          refine ⟨fun c => ⟨by omega, ?_⟩, fun c => ⟨fun c2 => ⟨by omega, ?_⟩, fun c2 => ⟨fun c3 => ⟨by omega, ?_⟩, fun c3 => ⟨by omega, ?_⟩⟩⟩⟩
          · rw [if_neg (by omega)] at r
            exact r
          · rw [if_pos (by omega)] at r
            exact r
          · rw [if_neg (by omega)] at r
            exact r
          · rw [if_pos (by omega)] at r
            exact r
      exact lp _ 0 μ _ rfl FW.rfl
    · rw [ic_f fun z => c2 z.2] at h
      exact h _ FW.rfl
    · rw [ic_f fun z => p z.1] at h
      exact h _ FW.rfl
  · unfold F_first at h
    refine m_11084 (sp_isPlace hS.1.1 hS.2.1 (fun p => ⟨fun z => absurd z (by decide), fun _ => sp_in (fun c2 => ⟨fun _ => ?_, fun z => absurd (by decide) z⟩) (fun c2 => ⟨fun z => absurd rfl z, fun _ => ?_⟩)⟩) (fun p => ⟨fun _ => ?_, fun z => absurd rfl z⟩))
    · rw [ic_t ⟨p, c2⟩] at h
      have c6 := hS.2.2.1.2.2.1.2.1
      have lp : ∀ (n k : Nat) (μ' : Mem) (q5 : AV) (v : Int), n + k = (μ 3 2 4).toNat → (0 ≤ (fbF μ x y k).1 → v = (fbF μ x y k).2) → FW μ μ' → R_11084 sc 12 (PI t Q) t 30 [rfc 11 0, .inl x, .inl y, .inl what, .inl (fbF μ x y k).1, .inl v, .inl (k : Int), q5] [] μ' := by
        intro n
        induction n with
        | zero =>
          intro k μ' q5 v hk hv hF
          have e3 : μ' 3 = μ 3 := hF.1 3 (by unfold Kp; omega)
          have S' := hS.fw hF
          have l := S'.1.1
          have ew := S'.2.2.1.2.2.1.1
          unfold liv at l
          unfold lvM at ew
          have : k = (μ 3 2 4).toNat := by omega
          subst this
          have r := h μ' hF
          refine m_11084_30 ⟨by omega, fun _ => ⟨fun c0 => ⟨fun c => ?_, fun c => ?_⟩, fun c0 => ?_⟩, fun c => absurd (by rw [ew, e3]; omega) c⟩
          · rw [if_neg c, ← hv c0] at r
            exact PI_mk r
          · rw [if_pos (by omega)] at r
            exact PI_mk r
          · rw [fbF_n μ x y _ (by omega)] at r
            simp only [ite_self] at r
            exact PI_mk r
        | succ n ih =>
          intro k μ' q5 v hk hv hF
          have e3 : μ' 3 = μ 3 := hF.1 3 (by unfold Kp; omega)
          have S' := hS.fw hF
          have l := S'.1.1
          have ew := S'.2.2.1.2.2.1.1
          unfold liv at l
          unfold lvM at ew
          have hk' : Nm μ' 2 (k : Int) := by unfold Nm; rw [e3]; omega
          refine m_11084_30 ⟨by omega, fun c => absurd c (by rw [ew, e3]; omega), fun _ => sp_ringsAt S'.co S'.gm hk' (S'.pl ((hF.pm _ _).mpr p)) fun μ2 F2 => ?_⟩
          rw [hF.bt hS]
          have r := ih (k + 1) μ2 (.inl (bt' μ (k : Int) x y))
          unfold fbF at r
          refine ⟨fun c => ⟨by omega, ?_⟩, fun c => ⟨fun c2 => ⟨by omega, ?_⟩, fun c2 => ⟨fun c3 => ⟨by omega, ?_⟩, fun c3 => ⟨by omega, ?_⟩⟩⟩⟩
          · rw [if_neg (by omega)] at r
            exact r v (by omega) hv (hF.trans F2.fw)
          · rw [if_pos (by omega)] at r
            exact r _ (by omega) (fun _ => rfl) (hF.trans F2.fw)
          · have := hv (by omega)
            rw [if_pos (by omega)] at r
            exact r _ (by omega) (fun _ => rfl) (hF.trans F2.fw)
          · have := hv (by omega)
            rw [if_neg (by omega)] at r
            exact r v (by omega) hv (hF.trans F2.fw)
      exact lp _ 0 μ _ 0 rfl (fun z => absurd z (by unfold fbF; decide)) FW.rfl
    · rw [ic_f fun z => c2 z.2] at h
      exact h _ FW.rfl
    · rw [ic_f fun z => p z.1] at h
      exact h _ FW.rfl
