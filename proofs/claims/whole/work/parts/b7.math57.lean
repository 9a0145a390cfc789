/-! MATHEMATICS, 57: put alike -/
theorem MO.gp {μ0 μ : Mem} {w : Nat} {c : Int} (hS : Sim μ0) (hw : (w : Int) < μ0 1 0 1) (hc : 0 ≤ c ∧ c ≤ 39) (gg : ∀ u k, u < 9 → k < 6 → gM μ u k = gpG (gM μ0) w c u k) (e18 : μ 11 0 18 = μ0 11 0 18) (e48 : μ 48 = μ0 48) (eP : μ 11 0 48 = μ0 11 0 48) (e69 : μ 69 = μ0 69) (fl : ∀ u : Nat, u < 9 → μ 54 0 ((9 * (μ 11 0 18)) + (u : Int)).toNat = 0 ∨ μ 54 0 ((9 * (μ 11 0 18)) + (u : Int)).toNat = 1) : MO μ := by
  have hM := hS.mo
  have w8 : w < 9 := by have := hS.1.2.2.1; omega
  have k0 := hS.1.2.2.2.1 w hw
  have gw : ∀ k, k < 5 → gM μ0 w k = μ0 9 w k := fun k hk => (k0.1 k hk).symm
  have kk := k0.2.2
  unfold Wok at kk
  refine ⟨⟨by have := hM.1.1; unfold liv at *; rw [e18]; exact this, by rw [e18, e48]; exact hM.1.2.1, fl, fun u hu t => ?_⟩, fun u hu t => ?_, by rw [eP]; exact hM.2.2.1, ?_⟩
  · rw [gg u 5 hu (by decide)] at t
    refine gok_c (g := gpG (gM μ0) w c) (fun k hk => (gg u k hu (by omega)).symm) ?_
    by_cases q : u = w
    · subst q
      unfold gok
      rw [gpG_1, gpG_o (k := 0) (by omega), gpG_o (k := 2) (by omega), gpG_o (k := 3) (by omega), gw 0 (by decide), gw 2 (by decide), gw 3 (by decide)]
      exact ⟨kk.1.1, by omega, kk.1.2.2⟩
    · rw [gpG_o (by omega)] at t
      refine gok_c (g := gM μ0) (fun k hk => ?_) (hM.1.2.2.2 u hu t)
      rw [gpG_o (by omega)]
  · rw [gg u 5 hu (by decide)] at t
    rw [gg u 4 hu (by decide)]
    rw [gpG_o (k := 4) (by omega)]
    by_cases q : u = w
    · subst q
      rw [gw 4 (by decide)]
      exact kk.2
    · rw [gpG_o (by omega)] at t
      exact hM.2.1 u hu t
  · have := hM.2.2.2
    unfold fallM at *
    rw [e18, e69]
    exact this
theorem r_put {sc : Scr} {t : Nat} {w m e what : Int} (μ : Mem) (Q : Int → Mem → Prop) (hS : Sim μ) (h : ∀ μ', FW μ μ' → Q (F_put w m e what μ) μ') : RMi sc 13 11077 [rfc 11 0, .inl w, .inl m, .inl e, .inl what] (t, 0, 0) μ Q := by
  unfold F_put at h
  have no : ¬ (Nw μ w ∧ Nm μ 0 m ∧ Nm μ 1 e ∧ (0 ≤ what ∧ what ≤ 1)) → Q (-1) μ := by
    intro z
    rw [ic_f z] at h
    exact h _ FW.rfl
  have hF := hS.2.2.1
  have W := hS.1
  refine m_11077 (sp_isNumber W.1 W.2.1 W.2.2.1 (fun hw => ⟨fun z => absurd z (by decide), fun _ => sp_isMan W.1 hF (fun hm => ⟨fun z => absurd z (by decide), fun _ => sp_isEar W.1 hF (fun he => ⟨fun z => absurd z (by decide), fun _ => sp_in (fun c2 => ⟨fun _ => ?_, fun z => absurd (by decide) z⟩) (fun c2 => ⟨fun z => absurd rfl z, fun _ => no fun z => c2 z.2.2.2⟩)⟩) (fun he => ⟨fun _ => no fun z => he z.2.2.1, fun z => absurd rfl z⟩)⟩) (fun hm => ⟨fun _ => no fun z => hm z.2.1, fun z => absurd rfl z⟩)⟩) (fun hw => ⟨fun _ => no fun z => hw z.1, fun z => absurd rfl z⟩))
  rw [ic_t ⟨hw, hm, he, c2⟩] at h
  obtain ⟨u, rfl⟩ := Int.eq_ofNat_of_zero_le hw.1
  rw [Int.toNat_natCast] at h
  have u8 : u < 8 := by have := hS.1.2.2.1; omega
  have l := W.1
  unfold liv at l
  have f5 := W.2.2.2.2.2.2 (ix9 μ u) (by unfold ix9; omega)
  have k0 := W.2.2.2.1 u hw.2
  have e1' := k0.1 1 (by decide)
  rw [gM_k _ _ (by decide)] at e1'
  have hwc : (u : Int) < μ 48 0 (lvM μ) := by rw [W.2.1]; exact hw.2
  have lp : ∀ (n c : Nat) (μ' : Mem) (q10 : AV), n + c = 40 → FPm u μ μ' → μ' 54 0 (ix9 μ u) = 1 → R_11077 sc 12 (PI t Q) t 83 [rfc 11 0, .inl (u : Int), .inl m, .inl e, .inl what, .inl (μ 50 0 (ix9 μ u)), .inl (μ 54 0 (ix9 μ u)), .inl (ptL (ptV μ u m e) c).1, .inl (ptL (ptV μ u m e) c).2, .inl (c : Int), q10] [] μ' := by
    intro n
    induction n with
    | zero =>
      intro c μ' q10 hc hP h5
      have : c = 40 := by omega
      subst this
      have e18 : μ' 11 0 18 = μ 11 0 18 := hP.f (by decide)
      have F : FW μ (wr (wr μ' 50 0 (ix9 μ u) (μ 50 0 (ix9 μ u))) 54 0 (ix9 μ u) (μ 54 0 (ix9 μ u))) := by
        have all : ∀ c i k, ¬ (73 ≤ c ∧ c ≤ 78) → ¬ (c = 11 ∧ 49 ≤ k ∧ k ≤ 64) → (wr (wr μ' 50 0 (ix9 μ u) (μ 50 0 (ix9 μ u))) 54 0 (ix9 μ u) (μ 54 0 (ix9 μ u))) c i k = μ c i k := by
          intro c i k h1 h2
          by_cases q : (c = 50 ∨ c = 54) ∧ i = 0 ∧ k = ix9 μ u
          · obtain ⟨rfl | rfl, rfl, rfl⟩ := q
            · rw [wr_c (by decide), wr_same]
            · rw [wr_same]
          · unfold wr
            rw [if_neg fun z => q ⟨Or.inr z.1, z.2.1, z.2.2⟩, if_neg fun z => q ⟨Or.inl z.1, z.2.1, z.2.2⟩]
            exact hP c i k q h1 h2
        refine ⟨fun c k => ?_, fun k _ => all 11 0 k (by decide) (by omega), fun w _ => ?_, all 9 8 5 (by decide) (by decide), fun c i j a _ _ => all c i j (by omega) (by omega)⟩
        · unfold Kp at k
          funext i j
          exact all c i j (by omega) (by omega)
        · funext k
          exact all 9 w k (by decide) (by omega)
      have r := h _ F
      refine m_11077_83 ⟨fun _ => ?_, fun z => absurd (by decide) z⟩
      rw [wr_c (c := 50) (c' := 11) (by decide), e18]
      refine ⟨by omega, by omega, by omega, by omega, by omega, ⟨by omega, f5⟩, fun z => PI_mk ?_, fun z => PI_mk ?_⟩
      · rw [if_neg z] at r
        exact r
      · rw [if_pos (by omega)] at r
        exact r
    | succ n ih =>
      intro c μ' q10 hc hP h5
      have e18 : μ' 11 0 18 = μ 11 0 18 := hP.f (by decide)
      have gg := hP.gw (c := (c : Int)) W.1 (by omega) hwc h5
      have ck : ∀ k, k ≠ 50 → k ≠ 54 → ¬ (73 ≤ k ∧ k ≤ 78) → k ≠ 11 → (wr μ' 50 0 (ix9 μ u) (c : Int)) k = μ k := fun k a b f g => by rw [wr_c a]; exact hP.c a b f g
      have cf : ∀ k, ¬ (49 ≤ k ∧ k ≤ 64) → (wr μ' 50 0 (ix9 μ u) (c : Int)) 11 0 k = μ 11 0 k := fun k a => by rw [wr_c (by decide)]; exact hP.f a
      have hM : MO (wr μ' 50 0 (ix9 μ u) (c : Int)) := by
        refine MO.gp hS hw.2 (by omega) gg (cf 18 (by decide)) (ck 48 (by decide) (by decide) (by decide) (by decide)) (cf 48 (by decide)) (ck 69 (by decide) (by decide) (by decide) (by decide)) fun v hv => ?_
        rw [cf 18 (by decide), wr_c (by decide)]
        by_cases q : v = u
        · subst q
          exact Or.inr h5
        · rw [hP 54 0 _ (by unfold ix9; omega) (by decide) (by omega)]
          exact W.2.2.2.2.2.2 _ (by omega)
      have SF' : SF (wr μ' 50 0 (ix9 μ u) (c : Int)) := hF.x (cf 18 (by decide)) (by rw [ck 1 (by decide) (by decide) (by decide) (by decide)]) (by rw [ck 1 (by decide) (by decide) (by decide) (by decide)]) (fun o _ => by rw [ck 3 (by decide) (by decide) (by decide) (by decide)]) (fun k o a _ => by rw [ck k (by omega) (by omega) (by omega) (by omega)]) (fun k a => ck k (by omega) (by omega) (by omega) (by omega))
      have nm : ∀ o i, Nm (wr μ' 50 0 (ix9 μ u) (c : Int)) o i ↔ Nm μ o i := fun o i => by unfold Nm; rw [ck 3 (by decide) (by decide) (by decide) (by decide)]
      refine m_11077_83 ⟨fun z => absurd z (by omega), fun _ => ?_⟩
      rw [e18]
      refine ⟨by omega, by omega, by omega, ?_⟩
      refine sp_fillHeard2 hM SF' (by rw [ck 1 (by decide) (by decide) (by decide) (by decide)]; exact hS.ga.2.2) ((nm 0 m).mpr hm) ((nm 1 e).mpr he) fun μ2 F2 L2 => ?_
      have eH : rets (gM (wr μ' 50 0 (ix9 μ u) (c : Int))) ((wr μ' 50 0 (ix9 μ u) (c : Int)) 11 0 48) (fallM (wr μ' 50 0 (ix9 μ u) (c : Int))) ((wr μ' 50 0 (ix9 μ u) (c : Int)) 29 0 m.toNat) ((wr μ' 50 0 (ix9 μ u) (c : Int)) 27 0 m.toNat) ((wr μ' 50 0 (ix9 μ u) (c : Int)) 28 0 m.toNat) ((wr μ' 50 0 (ix9 μ u) (c : Int)) 27 1 e.toNat) ((wr μ' 50 0 (ix9 μ u) (c : Int)) 28 1 e.toNat) = HLp μ u (c : Int) m e := by
        unfold HLp fallM
        rw [cf 18 (by decide), cf 48 (by decide), ck 69 (by decide) (by decide) (by decide) (by decide), ck 27 (by decide) (by decide) (by decide) (by decide), ck 28 (by decide) (by decide) (by decide) (by decide), ck 29 (by decide) (by decide) (by decide) (by decide), hS.2.1.1.1]
        have e69 : μ 69 0 (μ 11 0 18).toNat = μ 1 0 8 := hS.2.1.2.1.1
        rw [e69]
        have g1 : Gq (gM (wr μ' 50 0 (ix9 μ u) (c : Int))) (gpG (gM μ) u (c : Int)) := fun v hv => ⟨gg v 5 hv (by decide), fun _ k hk => gg v k hv (by omega)⟩
        rw [g1.rets]
        exact ((hS.gq.gp fun k hk => k0.1 k hk).rets _ _ _ _ _ _ _).symm
      rw [eH] at L2
      have hT : Tb (HLp μ u (c : Int) m e) := by
        have pm := hS.pl (hF.1.at hm).2.2
        have pe := hS.pl (hF.2.1.at he).2.2
        refine rets_t (fun v hv t => ?_) pm pe hS.co.2.1.1
        by_cases q : v = u
        · subst q
          have kk := k0.2.2
          unfold Wok at kk
          unfold gok
          rw [gpG_1, gpG_o (k := 0) (by omega), gpG_o (k := 2) (by omega), gpG_o (k := 3) (by omega)]
          exact ⟨kk.1.1, by omega, kk.1.2.2⟩
        · rw [gpG_o (by omega)] at t
          refine gok_c (g := μ 9) (fun k hk => ?_) (hS.co.1 v hv t).1
          rw [gpG_o (by omega)]
      refine sp_heardNow (gap := μ 1 0 9) (hM.fm F2 (by decide)).1.1 ?_ L2 hT ?_
      · rw [F2.c (c := 70) (by decide) (by decide), F2.f (k := 18) (by decide), cf 18 (by decide), ck 70 (by decide) (by decide) (by decide) (by decide)]
        exact hS.gap
      · have P2 : FPm u μ μ2 := fun c' i k a b f => by
          rw [F2 c' i k b f]
          unfold wr
          rw [if_neg fun z => a ⟨Or.inl z.1, z.2.1, z.2.2⟩]
          exact hP c' i k a b f
        have z5 : μ2 54 0 (ix9 μ u) = 1 := by
          rw [F2.c (c := 54) (by decide) (by decide), wr_c (by decide)]
          exact h5
        have r := ih (c + 1) μ2 (.inl (ptV μ u m e c)) (by omega) P2 z5
        rw [ptL_s] at r
        refine ⟨fun z => ⟨by omega, ?_⟩, fun z => ⟨by omega, ?_⟩⟩
        · have z' : (ptL (ptV μ u m e) c).2 < ptV μ u m e c := z
          rw [if_pos z'] at r
          exact r
        · have z' : ¬ (ptL (ptV μ u m e) c).2 < ptV μ u m e c := z
          rw [if_neg z'] at r
          exact r
  refine ⟨by omega, by omega, by omega, m_11048 ⟨by omega, by omega, by omega, f5, by omega, by omega, ⟨by omega, Or.inr rfl⟩, ?_⟩⟩
  exact lp 40 0 (wr μ 54 0 (ix9 μ u) 1) vx rfl (fun c i k a _ _ => by unfold wr; rw [if_neg fun z => a ⟨Or.inr z.1, z.2.1, z.2.2⟩]) (wr_same _ _ _ _ _)
theorem p_put {sc : Scr} {t : Nat} {μ : Mem} {w m e what : Int} (hS : Sim μ) : PR sc t μ 39 11077 [.inl w, .inl m, .inl e, .inl what] := by
  refine PR_of (F_put w m e what) hS (fun μ1 F1 => ?_) c_put r_put
  by_cases hw : Nw μ w
  · have u8 : w.toNat < 8 := by have := hS.1.2.2.1; omega
    have ev : ptL (ptV μ1 w.toNat m e) 40 = ptL (ptV μ w.toNat m e) 40 := by
      refine ptL_c fun c _ => ?_
      unfold ptV HLp
      rw [F1.e1, F1.1 27 (by unfold Kp; omega), F1.1 28 (by unfold Kp; omega), F1.1 29 (by unfold Kp; omega)]
      have g : Gq (gpG (μ1 9) w.toNat (c : Int)) (gpG (μ 9) w.toNat (c : Int)) := by
        refine Gq.gp (fun v hv => ?_) fun k hk => by rw [F1.2.2.1 _ u8]
        by_cases q : v = 8
        · subst q
          refine ⟨F1.2.2.2.1, fun t => absurd ?_ t⟩
          rw [F1.2.2.2.1]
          exact hS.z8
        · rw [F1.2.2.1 v (by omega)]
          exact ⟨Eq.refl _, fun _ _ _ => Eq.refl _⟩
      rw [g.rets]
    unfold F_put Nw Nm
    rw [ev, F1.e1, F1.1 3 (by unfold Kp; omega)]
  · have hw1 : ¬ Nw μ1 w := by
      unfold Nw at *
      rw [F1.e1]
      exact hw
    unfold F_put
    rw [ic_f (fun z => hw1 z.1), ic_f (fun z => hw z.1)]
