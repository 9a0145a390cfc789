/-! MATHEMATICS, 64: hush alike, whole -/
theorem r_hush {sc : Scr} {t : Nat} {m e : Int} (μ : Mem) (Q : Int → Mem → Prop) (hS : Sim μ) (h : ∀ μ', FW μ μ' → Q (F_hush m e μ) μ') : RMi sc 13 11078 [rfc 11 0, .inl m, .inl e] (t, 0, 0) μ Q := by
  unfold F_hush at h
  have no : ¬ (Nm μ 0 m ∧ Nm μ 1 e) → Q (-1) μ := by
    intro z
    rw [ic_f z] at h
    exact h _ FW.rfl
  have hF := hS.2.2.1
  have W := hS.1
  have l := W.1
  have l' := l
  unfold liv at l'
  have cn := hS.cn
  have n48 : μ 48 0 (μ 11 0 18).toNat = μ 1 0 1 := W.2.1
  have st256 : stN μ < 256 := sbN_256 _ cn.2
  refine m_11078 (sp_isMan l hF (fun hm => ⟨fun z => absurd z (by decide), fun _ => sp_isEar l hF (fun he => ⟨fun _ => ?_, fun z => absurd (by decide) z⟩) (fun he => ⟨fun z => absurd rfl z, fun _ => no fun z => he z.2⟩)⟩) (fun hm => ⟨fun _ => no fun z => hm z.1, fun z => absurd rfl z⟩))
  rw [ic_t ⟨hm, he⟩] at h
  have ll := (hF.ml hm).2
  have pm := hS.pl (hF.1.at hm).2.2
  have pe := hS.pl (hF.2.1.at he).2.2
  have qst : quiet μ m e (mskN (stN μ) (stN μ)) := by
    have : mskN (stN μ) (stN μ) = 0 := tb_ss _ st256
    rw [this]
    exact quiet_st hS
  -- the walls that stand
  have fl5 : ∀ w, w < Cn μ → μ 54 0 (bN μ + w) = μ 9 w 5 ∧ (μ 9 w 5 = 0 ∨ μ 9 w 5 = 1) := by
    intro w hw
    have f := W.2.2.2.2.2.2 (bN μ + w) (by unfold bN; omega)
    have g := (W.2.2.2.1 w (by omega)).2.1
    rw [show ix9 μ w = bN μ + w by unfold ix9 bN; omega] at g
    rw [← g] at f
    exact ⟨g.symm, f⟩
  -- back to how it was
  have L228 : ∀ (best : Int) (q6 q7 : AV), best = ((hcL (fun v => quiet μ m e (mskN (stN μ) v)) (stN μ) (stN μ) : Nat) : Int) → ∀ (n w : Nat) (μ' : Mem), n + w = Cn μ → FHm μ μ' → (∀ u, u < w → μ' 54 0 (bN μ + u) = μ 54 0 (bN μ + u)) → R_11078 sc 12 (PI t Q) t 228 [rfc 11 0, .inl m, .inl e, .inl ((stN μ : Nat) : Int), .inl best, .inl (w : Int), q6, q7] [] μ' := by
    intro best q6 q7 hb n
    induction n with
    | zero =>
      intro w μ' hw hH hu
      have : w = Cn μ := by omega
      subst this
      have e18 : μ' 11 0 18 = μ 11 0 18 := hH.f (by decide)
      have e48 : μ' 48 = μ 48 := hH.c (by decide) (by decide) (by decide)
      refine m_11078_228 ⟨by omega, fun _ => PI_mk ?_, fun z => absurd (by rw [e18, e48, n48]; omega) z⟩
      rw [hb]
      refine h μ' ?_
      have all : ∀ c i k, ¬ (73 ≤ c ∧ c ≤ 78) → ¬ (c = 11 ∧ 49 ≤ k ∧ k ≤ 64) → μ' c i k = μ c i k := by
        intro c i k h1 h2
        by_cases q : c = 54 ∧ i = 0 ∧ bN μ ≤ k ∧ k < bN μ + Cn μ
        · obtain ⟨rfl, rfl, q1, q2⟩ := q
          have := hu (k - bN μ) (by omega)
          rw [show bN μ + (k - bN μ) = k by omega] at this
          exact this
        · exact hH c i k q h1 h2
      refine ⟨fun c k => ?_, fun k _ => all 11 0 k (by decide) (by omega), fun w _ => ?_, all 9 8 5 (by decide) (by decide), fun c i j a _ _ => all c i j (by omega) (by omega)⟩
      · unfold Kp at k
        funext i j
        exact all c i j (by omega) (by omega)
      · funext k
        exact all 9 w k (by decide) (by omega)
    | succ n ih =>
      intro w μ' hw hH hu
      have e18 : μ' 11 0 18 = μ 11 0 18 := hH.f (by decide)
      have e48 : μ' 48 = μ 48 := hH.c (by decide) (by decide) (by decide)
      obtain ⟨g1, g2⟩ := fl5 w (by omega)
      have dg := sbN_d (fun w => μ 9 w 5) (Cn μ) cn.2 w (by omega)
      have nx : ∀ x : Int, x = μ 9 w 5 → R_11078 sc 12 (PI t Q) t 228 [rfc 11 0, .inl m, .inl e, .inl ((stN μ : Nat) : Int), .inl best, .inl ((w : Int) + 1), q6, q7] [] (wr μ' 54 0 (bN μ + w) x) := by
        intro x hx
        refine ih (w + 1) _ (by omega) (hH.w (by omega)) (fun u hu2 => ?_)
        by_cases q : u = w
        · subst q
          rw [wr_same, g1]
          exact hx
        · rw [wr_k (by omega)]
          exact hu u (by omega)
      refine m_11078_228 ⟨by omega, fun z => absurd z (by rw [e18, e48, n48]; omega), fun _ => ?_⟩
      rw [e18, tb_sh w (by omega) _ st256, show ((9 * (μ 11 0 18)) + (w : Int)).toNat = bN μ + w by unfold bN; omega]
      refine ⟨by omega, by omega, fun z => ⟨⟨by omega, Or.inl rfl⟩, by omega, nx 0 ?_⟩, fun z => ⟨⟨by omega, Or.inr rfl⟩, by omega, nx 1 ?_⟩⟩
      · by_cases c : μ 9 w 5 = 0
        · exact c.symm
        · rw [if_neg c] at dg
          rw [dg] at z
          exact absurd rfl z
      · by_cases c : μ 9 w 5 = 0
        · rw [if_pos c] at dg
          rw [dg] at z
          exact absurd (by decide) z
        · omega
  -- one set of walls taken away
  have one : ∀ (v : Nat), v < 256 → ∀ (b : Int) (P : Option AV → AS → Prop), (∀ μ' q6 q7, FHm μ μ' → (quiet μ m e (mskN (stN μ) v) → R_11078 sc 12 P t 65 [rfc 11 0, .inl m, .inl e, .inl ((stN μ : Nat) : Int), .inl (v : Int), .inl ((v : Int) + 1), q6, q7] [] μ') ∧ (¬ quiet μ m e (mskN (stN μ) v) → R_11078 sc 12 P t 65 [rfc 11 0, .inl m, .inl e, .inl ((stN μ : Nat) : Int), .inl b, .inl ((v : Int) + 1), q6, q7] [] μ')) → ∀ (n w : Nat) (μ' : Mem) (q7 : AV), n + w = Cn μ → FHm μ μ' → (∀ u, u < w → μ' 54 0 (bN μ + u) = ((mskN (stN μ) v / 2 ^ u % 2 : Nat) : Int)) → R_11078 sc 12 P t 106 [rfc 11 0, .inl m, .inl e, .inl ((stN μ : Nat) : Int), .inl b, .inl (v : Int), .inl (w : Int), q7] [] μ' := by
    intro v hv b P hh n
    induction n with
    | zero =>
      intro w μ' q7 hw hH hu
      have : w = Cn μ := by omega
      subst this
      have e18 : μ' 11 0 18 = μ 11 0 18 := hH.f (by decide)
      have ck : ∀ k, k ≠ 54 → ¬ (73 ≤ k ∧ k ≤ 78) → k ≠ 11 → μ' k = μ k := fun k a b c => hH.c a b c
      have MO' := hH.mo hS hu
      have SF' : SF μ' := hF.x e18 (by rw [ck 1 (by decide) (by decide) (by decide)]) (by rw [ck 1 (by decide) (by decide) (by decide)]) (fun o _ => by rw [ck 3 (by decide) (by decide) (by decide)]) (fun k o a _ => by rw [ck k (by omega) (by omega) (by omega)]) (fun k a => ck k (by omega) (by omega) (by omega))
      have nm : ∀ o i, Nm μ' o i ↔ Nm μ o i := fun o i => by unfold Nm; rw [ck 3 (by decide) (by decide) (by decide)]
      refine m_11078_106 ⟨by omega, fun _ => sp_fillHeard2 MO' SF' (by rw [ck 1 (by decide) (by decide) (by decide)]; exact hS.ga.2.2) ((nm 0 m).mpr hm) ((nm 1 e).mpr he) fun μ2 F2 L2 => ?_, fun z => absurd (by rw [e18, ck 48 (by decide) (by decide) (by decide), n48]; omega) z⟩
      rw [hH.rt hS hu, ck 27 (by decide) (by decide) (by decide), ck 28 (by decide) (by decide) (by decide), ck 29 (by decide) (by decide) (by decide)] at L2
      have H2 := hH.fm F2
      have r := fun q6 q7 => hh μ2 q6 q7 H2
      have hT := rets_t (fall := μ 1 0 8) (s := μ 29 0 m.toNat) (hs_gok hS (mskN (stN μ) v)) pm pe hS.co.2.1.1
      have qd : quiet μ m e (mskN (stN μ) v) ↔ _ := ech_q hT
      generalize hL : rets (hsG (μ 9) (Cn μ) (mskN (stN μ) v)) (μ 1 0 7) (μ 1 0 8) (μ 29 0 m.toNat) (μ 27 0 m.toNat) (μ 28 0 m.toNat) (μ 27 1 e.toNat) (μ 28 1 e.toNat) = L at L2 hT qd
      have h82 := hT.1
      have e64 := L2.1
      have li : ∀ (n i : Nat) (x : Int), n + i = L.2 → ((x ≠ 0 ∧ ∀ j, j < i → (L.1 j).1 = 0) ∨ (x = 0 ∧ ∃ j, j < L.2 ∧ (L.1 j).1 ≠ 0)) → R_11078 sc 12 P t 173 [rfc 11 0, .inl m, .inl e, .inl ((stN μ : Nat) : Int), .inl b, .inl (v : Int), .inl x, .inl (i : Int)] [] μ2 := by
        intro n
        induction n with
        | zero =>
          intro i x hi hx
          refine m_11078_173 ⟨fun _ => ⟨fun z => ⟨by omega, (r _ _).2 fun y => ?_⟩, fun z => ⟨by omega, (r _ _).1 (qd.mpr ?_)⟩⟩, fun z => absurd (by omega) z⟩
          · rcases hx with hx | ⟨_, j, hj, hx⟩
            · exact hx.1 z
            · exact hx (qd.mp y j hj)
          · rcases hx with hx | hx
            · exact fun j hj => hx.2 j (by omega)
            · exact absurd hx.1 z
        | succ n ih =>
          intro i x hi hx
          obtain ⟨a0, -⟩ := L2.e (i := i) (by omega)
          refine m_11078_173 ⟨fun z => absurd z (by omega), fun _ => ⟨fun z => ⟨by omega, ih (i + 1) 0 (by omega) (Or.inr ⟨rfl, ?_⟩)⟩, fun z => ?_⟩⟩
          · rcases hx with hx | hx
            · exact absurd z hx.1
            · exact hx.2
          · rw [Int.toNat_natCast, a0]
            refine ⟨by omega, fun y => ⟨by omega, ih (i + 1) 0 (by omega) (Or.inr ⟨rfl, i, by omega, y⟩)⟩, fun y => ⟨by omega, ih (i + 1) 1 (by omega) (Or.inl ⟨by decide, fun j hj => ?_⟩)⟩⟩
            rcases hx with hx | hx
            · by_cases q : j = i
              · rw [q]; exact Decidable.not_not.mp y
              · exact hx.2 j (by omega)
            · exact absurd hx.1 z
      exact li L.2 0 1 rfl (Or.inl ⟨by decide, fun j hj => absurd hj (by omega)⟩)
    | succ n ih =>
      intro w μ' q7 hw hH hu
      have e18 : μ' 11 0 18 = μ 11 0 18 := hH.f (by decide)
      have e48 : μ' 48 = μ 48 := hH.c (by decide) (by decide) (by decide)
      have nx : ∀ x : Int, x = ((mskN (stN μ) v / 2 ^ w % 2 : Nat) : Int) → R_11078 sc 12 P t 106 [rfc 11 0, .inl m, .inl e, .inl ((stN μ : Nat) : Int), .inl b, .inl (v : Int), .inl ((w : Int) + 1), q7] [] (wr μ' 54 0 (bN μ + w) x) := by
        intro x hx
        refine ih (w + 1) _ _ (by omega) (hH.w (by omega)) (fun u hu2 => ?_)
        by_cases q : u = w
        · subst q
          rw [wr_same]
          exact hx
        · rw [wr_k (by omega)]
          exact hu u (by omega)
      refine m_11078_106 ⟨by omega, fun z => absurd z (by rw [e18, e48, n48]; omega), fun _ => ?_⟩
      have mb : mskN (stN μ) v < 256 := tb_lt _ st256 v hv
      rw [e18, tb_an _ st256 v hv]
      have t1 := tb_sh w (by omega) _ mb
      have t1' : andv (shrv ((Nat.land (stN μ) (255 - v) : Nat) : Int) ((w : Nat) : Int)) 1 = ((mskN (stN μ) v / 2 ^ w % 2 : Nat) : Int) := t1
      rw [t1', show ((9 * (μ 11 0 18)) + (w : Int)).toNat = bN μ + w by unfold bN; omega]
      refine ⟨by omega, by omega, fun z => ⟨⟨by omega, Or.inl rfl⟩, by omega, nx 0 (by omega)⟩, fun z => ⟨⟨by omega, Or.inr rfl⟩, by omega, nx 1 (by omega)⟩⟩
  -- all sets
  have L65 : ∀ (n v : Nat) (μ' : Mem) (q6 q7 : AV), n + v = 256 → FHm μ μ' → R_11078 sc 12 (PI t Q) t 65 [rfc 11 0, .inl m, .inl e, .inl ((stN μ : Nat) : Int), .inl (hrL (fun v => quiet μ m e (mskN (stN μ) v)) (stN μ) v), .inl (v : Int), q6, q7] [] μ' := by
    intro n
    induction n with
    | zero =>
      intro v μ' q6 q7 hv hH
      have : v = 256 := by omega
      subst this
      refine m_11078_65 ⟨fun _ => ?_, fun z => absurd (by decide) z⟩
      refine L228 _ _ _ ?_ (Cn μ) 0 μ' rfl hH (fun u hu => absurd hu (by omega))
      have e := (hr_st (q := fun v => quiet μ m e (mskN (stN μ) v)) st256 qst (256 - (stN μ + 1))).resolve_right (by omega)
      rw [show stN μ + 1 + (256 - (stN μ + 1)) = 256 by omega] at e
      exact e
    | succ n ih =>
      intro v μ' q6 q7 hv hH
      have hb := hr_b (fun v => quiet μ m e (mskN (stN μ) v)) (stN μ) v
      have nx : ∀ (μ2 : Mem) (b : Int) (q6 q7 : AV), FHm μ μ2 → hrL (fun v => quiet μ m e (mskN (stN μ) v)) (stN μ) (v + 1) = b → R_11078 sc 12 (PI t Q) t 65 [rfc 11 0, .inl m, .inl e, .inl ((stN μ : Nat) : Int), .inl b, .inl ((v : Int) + 1), q6, q7] [] μ2 := by
        intro μ2 b q6 q7 H2 e
        rw [← e]
        exact ih (v + 1) μ2 _ _ (by omega) H2
      refine m_11078_65 ⟨fun z => absurd z (by omega), fun _ => ?_⟩
      rw [tb_an v (by omega) _ st256]
      refine ⟨fun z => ⟨by omega, nx μ' _ _ _ hH ?_⟩, fun z => ⟨fun z2 => one v (by omega) _ _ (fun μ2 q6 q7 H2 => ⟨fun y => nx μ2 _ _ _ H2 ?_, fun y => nx μ2 _ _ _ H2 ?_⟩) (Cn μ) 0 μ' _ rfl hH (fun u hu => absurd hu (by omega)), fun z2 => ?_⟩⟩
      · rw [hrL_s, ic_f fun y => z (by rw [y.1]; rfl)]
      · rw [hrL_s, ic_t ⟨by omega, Or.inl z2, y⟩]
      · rw [hrL_s, ic_f fun y' => y y'.2.2]
      · obtain ⟨b, hb'⟩ := Int.eq_ofNat_of_zero_le (by omega : 0 ≤ hrL (fun v => quiet μ m e (mskN (stN μ) v)) (stN μ) v)
        have r : R_11078 sc 12 (PI t Q) t 106 [rfc 11 0, .inl m, .inl e, .inl ((stN μ : Nat) : Int), .inl (b : Int), .inl (v : Int), .inl 0, q7] [] μ' ∨ True := Or.inr trivial
        rw [hb']
        refine sp_bitsM (by omega) (sp_bitsM (by omega) ⟨fun z3 => one v (by omega) _ _ (fun μ2 q6 q7 H2 => ⟨fun y => nx μ2 _ _ _ H2 ?_, fun y => nx μ2 _ _ _ H2 ?_⟩) (Cn μ) 0 μ' _ rfl hH (fun u hu => absurd hu (by omega)), fun z3 => ⟨by omega, nx μ' _ _ _ hH ?_⟩⟩)
        · rw [hrL_s, ic_t ⟨by omega, Or.inr (by rw [hb', Int.toNat_natCast]; omega), y⟩]
        · rw [hrL_s, ic_f fun y' => y y'.2.2]
          exact hb'
        · rw [hrL_s, ic_f]
          · exact hb'
          · intro y
            rcases y.2.1 with w | w
            · exact z2 w
            · rw [hb', Int.toNat_natCast] at w
              omega
  -- what stands, by bits
  have L23 : ∀ (n w : Nat), n + w = Cn μ → R_11078 sc 12 (PI t Q) t 23 [rfc 11 0, .inl m, .inl e, .inl ((sbN (fun w => μ 9 w 5) w : Nat) : Int), .inl (w : Int), vx, vx, vx] [] μ := by
    intro n
    induction n with
    | zero =>
      intro w hw
      have : w = Cn μ := by omega
      subst this
      exact m_11078_23 ⟨by omega, fun _ => L65 256 0 μ _ _ rfl (fun _ _ _ _ _ _ => rfl), fun z => absurd (by rw [n48]; omega) z⟩
    | succ n ih =>
      intro w hw
      obtain ⟨g1, g2⟩ := fl5 w (by omega)
      have r := ih (w + 1) (by omega)
      unfold sbN at r
      refine m_11078_23 ⟨by omega, fun z => absurd z (by rw [n48]; omega), fun _ => m_11048 ?_⟩
      rw [show ((9 * (μ 11 0 18)) + (w : Int)).toNat = bN μ + w by unfold bN; omega, g1]
      refine ⟨by omega, by omega, by omega, g2, fun z => ⟨by omega, ?_⟩, fun z => ⟨by omega, ?_⟩⟩
      · rw [if_pos z] at r
        exact r
      · rw [if_neg z] at r
        rw [tb_or w (by omega) _ (sbN_lt _ w)]
        exact r
  exact L23 (Cn μ) 0 rfl
theorem p_hush {sc : Scr} {t : Nat} {μ : Mem} {m e : Int} (hS : Sim μ) : PR sc t μ 40 11078 [.inl m, .inl e] := by
  refine PR_of (F_hush m e) hS (fun μ1 F1 => ?_) c_hush r_hush
  have e1 : μ1 1 = μ 1 := F1.e1
  have ec : Cn μ1 = Cn μ := by unfold Cn; rw [e1]
  have cn := hS.cn
  have es : stN μ1 = stN μ := by
    unfold stN
    rw [ec]
    have : ∀ k, k ≤ 8 → sbN (fun w => μ1 9 w 5) k = sbN (fun w => μ 9 w 5) k := by
      intro k
      induction k with
      | zero => exact fun _ => rfl
      | succ k ih =>
        intro hk
        unfold sbN
        rw [ih (by omega), F1.2.2.1 k (by omega)]
    exact this _ cn.2
  have eq' : ∀ v, quiet μ1 m e v ↔ quiet μ m e v := by
    intro v
    unfold quiet
    rw [ec, e1, F1.1 27 (by unfold Kp; omega), F1.1 28 (by unfold Kp; omega), F1.1 29 (by unfold Kp; omega)]
    have g : Gq (hsG (μ1 9) (Cn μ) v) (hsG (μ 9) (Cn μ) v) := by
      intro u hu
      have gq := F1.gq hS u hu
      unfold hsG
      by_cases q : u < Cn μ
      · refine ⟨by rw [if_pos ⟨q, rfl⟩, if_pos ⟨q, rfl⟩], fun _ k hk => ?_⟩
        rw [if_neg (by omega), if_neg (by omega), F1.2.2.1 u (by omega)]
      · rw [if_neg (fun y => q y.1), if_neg (fun y => q y.1)]
        refine ⟨gq.1, fun t k hk => ?_⟩
        rw [if_neg (by omega), if_neg (by omega)]
        exact gq.2 t k hk
    rw [g.rets]
  have eh : ∀ v, hcL (fun v => quiet μ1 m e (mskN (stN μ) v)) (stN μ) v = hcL (fun v => quiet μ m e (mskN (stN μ) v)) (stN μ) v := by
    intro v
    induction v with
    | zero => rfl
    | succ v ih =>
      rw [hcL_s, hcL_s, ih]
      exact ic_c ⟨fun z => ⟨z.1, z.2.1, (eq' _).mp z.2.2⟩, fun z => ⟨z.1, z.2.1, (eq' _).mpr z.2.2⟩⟩
  unfold F_hush Nm
  rw [es, eh, F1.1 3 (by unfold Kp; omega)]
