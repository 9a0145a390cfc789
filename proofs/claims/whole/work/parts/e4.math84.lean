/-! MATHEMATICS, 84: the reference reads on, statement by statement -/
theorem room_lt {μ : Mem} {b : Nat → Int} {n u : Nat} {k : Int} (hA : AtV μ b n k 1 (u + 1) (u + 1)) (hk : tK b n u = k) (k7 : 7 ≤ k ∧ k ≤ 14) : ((cS b n k u : Nat) : Int) + 1 ≤ mst k := by
  obtain ⟨_, _, hO, hp, _⟩ := hA
  have e := cS_lt hO k7 (by rw [hp.1]; show ((1 : Nat) : Int) ≠ 0; decide) (by rw [hp.1])
  rw [cS_s, if_neg (fun z => absurd z.1 (by omega))] at e
  exact e
theorem sp_num1 {sc : Scr} {d t : Nat} {μ : Mem} {Q : Mem → Prop} {b : Nat → Int} {n u c : Nat} {w sd k lo hi : Int} (hT : TksM μ b n) (hA : AtV μ b n w 0 u u) (h19 : μ 11 0 19 = sd) (hs : sd = 0 ∨ sd = 1) (hL : LMa μ b n sd u) (hk : tK b n u = k) (hc : (k = 12 ∧ c = 68) ∨ (k = 13 ∧ c = 69) ∨ (k = 14 ∧ c = 70)) (el : lst k 0 = lo) (eg : gst k 0 = hi) (h : ∀ μ', Fte sd μ μ' → RE μ' b n sd (u + 3) → Q μ') : RMv sc (d + 4) 11018 [rfc 11 0] (t, 0, 0) μ (fun μ1 => RMi sc (d + 4) 11023 [rfc 11 0, .inl lo, .inl hi] (t, 0, 0) μ1 (fun v2 μ2 => ((0 : Int) ≤ μ1 11 0 19 ∧ μ1 11 0 19 < 2) ∧ RMv sc (d + 4) 11021 [rfc 11 0, .inl 4] (t, 0, 0) (wr μ2 c 0 (μ1 11 0 19).toNat v2) (fun μ3 => Q μ3))) := by
  have n0 : nmd k = 0 := if_neg (by omega)
  have s0 : sid k = 0 := if_neg (by omega)
  have i1 : its k = 1 := by rcases hc with ⟨rfl, _⟩ | ⟨rfl, _⟩ | ⟨rfl, _⟩ <;> decide
  have m4 : mst k = 400 := by rcases hc with ⟨rfl, _⟩ | ⟨rfl, _⟩ | ⟨rfl, _⟩ <;> decide
  have insc : insd sd c sd.toNat := by unfold insd; omega
  have um := OKp.m hA.2.2.1
  have cb := (cntW_b b n k u).2
  refine sp_word (d := d + 2) hT hA hk (by omega) (fun z => by omega) fun μ1 F1 R1 => ?_
  have e19 : μ1 11 0 19 = sd := (F1 11 0 19 (by decide) (by decide)).trans h19
  rw [e19]
  refine sp_number (d := d + 1) R1 (by decide) (g3 (by decide) (by omega) (by omega)) (fun _ hp _ => wrg_e hp (by decide) (by omega) (i := 0) (by omega) (by omega) el eg (by omega)) (fun hp ip => absurd ip.2.1 (by rw [(hp.i (by decide) (by omega)).1]; omega)) fun v2 μ2 F2 R2 E2 => ⟨by omega, sp_semi (d := d + 1) (R2.w (by omega)) (by decide) (g4 (by decide) (by omega) (by omega)) fun μ3 F3 R3 E3 => ?_⟩
  have FF : Fte sd μ μ3 := ((F1.te.trans F2.te).trans (Fte.w insc (fun z => absurd z (by omega)))).trans F3.te
  refine h _ FF ?_
  by_cases z : μ3 11 0 13 = 0
  · refine ⟨R3.1, Or.inr ⟨⟨k, R3.atv z⟩, ?_⟩⟩
    obtain ⟨o3, k4, z2⟩ := E3 z
    rw [wr_c (by omega)] at z2
    obtain ⟨v2e, -, -, -⟩ := E2 z2
    have p2 := (R2.atv z2).2.2.2.1
    obtain ⟨⟨y1, y2, y3, y4⟩, yo⟩ := st_end (u := u) (L := 2) p2 (by decide) (by omega) k4
    obtain ⟨t7, t8, t9, t10⟩ := hL.t (μ' := wr μ c 0 sd.toNat v2) yo
    have oc : ∀ c', c' ≠ c → (wr μ c 0 sd.toNat v2) c' = μ c' := fun c' h' => wr_c h'
    have e5 : EL μ3 (wr μ c 0 sd.toNat v2) := (((EL.p (M := μ) (fun _ _ _ => rfl) F1).p F2).w).p F3
    refine LMa.x ⟨t7 (by omega) (fun c' h' => oc c' (by omega)), t8 (by omega) (fun c' h' => oc c' (by omega)), t9 (by omega) (fun c' h' => oc c' (by omega)), t10 (by omega) (fun c' h' => oc c' (by omega)), ?_⟩ e5
    have m := hL.2.2.2.2
    unfold MN at m
    obtain ⟨m1, m2, m3, m4', m5⟩ := m
    show (wr μ c 0 sd.toNat v2) 66 0 sd.toNat = nS b n 11 2 20 (u + 2 + 1) ∧ (wr μ c 0 sd.toNat v2) 67 0 sd.toNat = nS b n 11 1 20 (u + 2 + 1) ∧ (wr μ c 0 sd.toNat v2) 68 0 sd.toNat = nS b n 12 1 10 (u + 2 + 1) ∧ (wr μ c 0 sd.toNat v2) 69 0 sd.toNat = nS b n 13 1 10 (u + 2 + 1) ∧ (wr μ c 0 sd.toNat v2) 70 0 sd.toNat = nS b n 14 1 100 (u + 2 + 1)
    rcases hc with ⟨rfl, rfl⟩ | ⟨rfl, rfl⟩ | ⟨rfl, rfl⟩
    · rw [(yo 11 (by decide)).2.2, (yo 11 (by decide)).2.2, (yo 13 (by decide)).2.2, (yo 14 (by decide)).2.2, y4, oc 66 (by decide), oc 67 (by decide), oc 69 (by decide), oc 70 (by decide), wr_same]
      exact ⟨m1, m2, v2e, m4', m5⟩
    · rw [(yo 11 (by decide)).2.2, (yo 11 (by decide)).2.2, (yo 12 (by decide)).2.2, (yo 14 (by decide)).2.2, y4, oc 66 (by decide), oc 67 (by decide), oc 68 (by decide), oc 70 (by decide), wr_same]
      exact ⟨m1, m2, m3, v2e, m5⟩
    · rw [(yo 11 (by decide)).2.2, (yo 11 (by decide)).2.2, (yo 12 (by decide)).2.2, (yo 13 (by decide)).2.2, y4, oc 66 (by decide), oc 67 (by decide), oc 68 (by decide), oc 69 (by decide), wr_same]
      exact ⟨m1, m2, m3, m4', v2e⟩
  · exact R3.flt z
theorem sp_num2 {sc : Scr} {d t : Nat} {μ : Mem} {Q : Mem → Prop} {b : Nat → Int} {n u : Nat} {w sd : Int} (hT : TksM μ b n) (hA : AtV μ b n w 0 u u) (h19 : μ 11 0 19 = sd) (hs : sd = 0 ∨ sd = 1) (hL : LMa μ b n sd u) (hk : tK b n u = 11) (h : ∀ μ', Fte sd μ μ' → RE μ' b n sd (u + 4) → Q μ') : RMv sc (d + 4) 11018 [rfc 11 0] (t, 0, 0) μ (fun μ1 => RMi sc (d + 4) 11023 [rfc 11 0, .inl 1, .inl 40] (t, 0, 0) μ1 (fun v2 μ2 => ((0 : Int) ≤ μ1 11 0 19 ∧ μ1 11 0 19 < 2) ∧ RMi sc (d + 4) 11023 [rfc 11 0, .inl 1, .inl 40] (t, 0, 0) (wr μ2 66 0 (μ1 11 0 19).toNat v2) (fun v3 μ3 => ((0 : Int) ≤ (wr μ2 66 0 (μ1 11 0 19).toNat v2) 11 0 19 ∧ (wr μ2 66 0 (μ1 11 0 19).toNat v2) 11 0 19 < 2) ∧ RMv sc (d + 4) 11021 [rfc 11 0, .inl 4] (t, 0, 0) (wr μ3 67 0 ((wr μ2 66 0 (μ1 11 0 19).toNat v2) 11 0 19).toNat v3) (fun μ4 => Q μ4)))) := by
  have ins66 : insd sd 66 sd.toNat := by unfold insd; omega
  have ins67 : insd sd 67 sd.toNat := by unfold insd; omega
  have um := OKp.m hA.2.2.1
  have cb := (cntW_b b n 11 u).2
  have m4 : mst 11 = 400 := by decide
  refine sp_word (d := d + 2) hT hA hk (by decide) (fun z => by omega) fun μ1 F1 R1 => ?_
  have e19 : μ1 11 0 19 = sd := (F1 11 0 19 (by decide) (by decide)).trans h19
  rw [e19]
  refine sp_number (d := d + 1) R1 (by decide) (g3 (by decide) (by decide) (by decide)) (fun _ hp _ => wrg_e hp (by decide) (by decide) (i := 0) (by decide) (by decide) (by decide) (by decide) (by decide)) (fun hp ip => absurd ip.2.1 (by rw [(hp.i (by decide) (by decide)).1]; decide)) fun v2 μ2 F2 R2 E2 => ⟨by omega, ?_⟩
  have e19' : (wr μ2 66 0 sd.toNat v2) 11 0 19 = sd := by
    rw [wr_c (by decide)]
    exact (F2 11 0 19 (by decide) (by decide)).trans e19
  rw [e19']
  refine sp_number (d := d + 1) (R2.w (by decide)) (by decide) (g3 (by decide) (by decide) (by decide)) (fun _ hp _ => wrg_e hp (by decide) (by decide) (i := 1) (by decide) (by decide) (by decide) (by decide) (by decide)) (fun hp ip => absurd ip.2.1 (by rw [(hp.i (by decide) (by decide)).1]; decide)) fun v3 μ3 F3 R3 E3 => ⟨by omega, sp_semi (d := d + 1) (R3.w (by decide)) (by decide) (g4 (by decide) (by decide) (by decide)) fun μ4 F4 R4 E4 => ?_⟩
  have FF : Fte sd μ μ4 := ((((F1.te.trans F2.te).trans (Fte.w ins66)).trans F3.te).trans (Fte.w ins67)).trans F4.te
  refine h _ FF ?_
  by_cases z : μ4 11 0 13 = 0
  · refine ⟨R4.1, Or.inr ⟨⟨11, R4.atv z⟩, ?_⟩⟩
    obtain ⟨o3, k4, z3⟩ := E4 z
    rw [wr_c (by decide)] at z3
    obtain ⟨v3e, -, -, z2⟩ := E3 z3
    rw [wr_c (by decide)] at z2
    obtain ⟨v2e, -, -, -⟩ := E2 z2
    have p2 := (R3.atv z3).2.2.2.1
    obtain ⟨⟨y1, y2, y3, y4⟩, yo⟩ := st_end (u := u) (L := 3) p2 (by decide) (by decide) k4
    obtain ⟨t7, t8, t9, t10⟩ := hL.t (μ' := wr (wr μ 66 0 sd.toNat v2) 67 0 sd.toNat v3) yo
    have oc : ∀ c', c' ≠ 66 → c' ≠ 67 → (wr (wr μ 66 0 sd.toNat v2) 67 0 sd.toNat v3) c' = μ c' := fun c' h1 h2 => by rw [wr_c h2, wr_c h1]
    have e5 : EL μ4 (wr (wr μ 66 0 sd.toNat v2) 67 0 sd.toNat v3) := (((((EL.p (M := μ) (fun _ _ _ => rfl) F1).p F2).w).p F3).w).p F4
    refine LMa.x ⟨t7 (by decide) (fun c' h' => oc c' (by omega) (by omega)), t8 (by decide) (fun c' h' => oc c' (by omega) (by omega)), t9 (by decide) (fun c' h' => oc c' (by omega) (by omega)), t10 (by decide) (fun c' h' => oc c' (by omega) (by omega)), ?_⟩ e5
    have m := hL.2.2.2.2
    unfold MN at m
    obtain ⟨m1, m2, m3, m4', m5⟩ := m
    show (wr (wr μ 66 0 sd.toNat v2) 67 0 sd.toNat v3) 66 0 sd.toNat = nS b n 11 2 20 (u + 3 + 1) ∧ (wr (wr μ 66 0 sd.toNat v2) 67 0 sd.toNat v3) 67 0 sd.toNat = nS b n 11 1 20 (u + 3 + 1) ∧ (wr (wr μ 66 0 sd.toNat v2) 67 0 sd.toNat v3) 68 0 sd.toNat = nS b n 12 1 10 (u + 3 + 1) ∧ (wr (wr μ 66 0 sd.toNat v2) 67 0 sd.toNat v3) 69 0 sd.toNat = nS b n 13 1 10 (u + 3 + 1) ∧ (wr (wr μ 66 0 sd.toNat v2) 67 0 sd.toNat v3) 70 0 sd.toNat = nS b n 14 1 100 (u + 3 + 1)
    rw [(yo 12 (by decide)).2.2, (yo 13 (by decide)).2.2, (yo 14 (by decide)).2.2, y4, y4, oc 68 (by decide) (by decide), oc 69 (by decide) (by decide), oc 70 (by decide) (by decide), wr_same, wr_c (by decide), wr_same]
    exact ⟨v2e, v3e, m3, m4', m5⟩
  · exact R4.flt z
theorem sp_tellS {sc : Scr} {d t : Nat} {μ : Mem} {Q : Mem → Prop} {b : Nat → Int} {n u : Nat} {w sd : Int} (hT : TksM μ b n) (hA : AtV μ b n w 0 u u) (h19 : μ 11 0 19 = sd) (hs : sd = 0 ∨ sd = 1) (hL : LMa μ b n sd u) (hne : tK b n u ≠ 1) (h : ∀ μ', Fte sd μ μ' → ∀ u', u < u' → RE μ' b n sd u' → Q μ') : RMv sc (d + 6) 11015 [rfc 11 0] (t, 0, 0) μ Q := by
  have kb : 0 ≤ tK b n u ∧ tK b n u ≤ 14 := tkK_b _ _ _
  have hA' := hA
  obtain ⟨h13, h11, hO, hp, hw, hn, hpl⟩ := hA'
  have um := OKp.m hO
  have t1 := (hT.at hO (Nat.le_refl u)).1
  have kk : ∀ (k x : Int), 0 ≤ k ∧ k ≤ 14 → x = rK k → rK (tK b n u) = x → tK b n u = k := fun k x hk hx e => (rK_i kb hk).mp (e.trans hx)
  have bad : ¬ 7 ≤ tK b n u → RMv sc (d + 5) 11017 [rfc 11 0, .inl 1] (t, 0, 0) μ (fun μ1 => Q μ1) := fun k => sp_fail hT h13 h11 hO (by decide) (form_e1 hO (fun z => hne z.1) (hp.g.mpr k)) fun μ' F' f' => h μ' F'.te (u + 1) (by omega) ⟨hT.p F', Or.inl f'⟩
  have rm : ∀ {k x1 x2 : Int} {j : Nat} {P : Mem → Prop}, tK b n u = k → 7 ≤ k → x1 = ((cS b n k u : Nat) : Int) → x2 = mst k → (∀ μ', Fpm μ μ' → RS μ' b n k 1 (u + 1) → μ' 11 0 19 = sd → LMa μ' b n sd u → (μ' 11 0 13 ≠ 0 → P μ') ∧ (μ' 11 0 13 = 0 → ((cS b n k u : Nat) : Int) + 1 ≤ mst k → P μ')) → RMv sc (d + 5) 11016 [rfc 11 0, .inl x1, .inl x2] (t, 0, 0) μ P := by
    intro k x1 x2 j P hk k7 e1 e2 hP
    refine sp_room (d := d + 2) hT hA hk k7 e1 e2 fun μ' F' R' => ?_
    obtain ⟨p1, p2⟩ := hP μ' F' R' ((F' 11 0 19 (by decide) (by decide)).trans h19) (hL.x (EL.p (fun _ _ _ => rfl) F'))
    by_cases z : μ' 11 0 13 = 0
    · exact p2 z (room_lt (R'.atv z) hk (by omega))
    · exact p1 z
  refine m_11015 ?_
  rw [h11, Int.toNat_natCast, t1, h19]
  refine ⟨by omega, fun z => ?_, fun z => ?_, fun z => ?_, fun z => ?_, fun z => ?_, fun z => ?_, fun z => ?_, fun z => ?_, fun z => ?_, fun z => ?_, fun z => ?_⟩
  · have k := kk 7 20 (by decide) (by decide) z
    refine m_11015_64 ?_
    rw [h19]
    refine ⟨by omega, rm (j := 0) k (by decide) hL.1.1 (by decide) fun μ' F' R' e19 L' => ⟨fun y => ⟨fun _ => PV_mk (h μ' F'.te (u + 1) (by omega) (R'.flt y)), fun y2 => absurd y y2⟩, fun y m => ⟨fun y2 => absurd y y2, fun _ => sp_wallM R' e19 hs L' ?_ fun μ2 F2 R2 => PV_mk (h μ2 (F'.te.trans F2) (u + 8) (by omega) R2)⟩⟩⟩
    have m8 : mst 7 = 8 := by decide
    omega
  · have k := kk 5 21 (by decide) (by decide) z
    exact bad (by omega)
  · have k := kk 6 22 (by decide) (by decide) z
    exact bad (by omega)
  · have k := kk 8 23 (by decide) (by decide) z
    refine m_11015_93 ?_
    rw [h19]
    refine ⟨by omega, rm (j := 0) k (by decide) hL.2.1.1 (by decide) fun μ' F' R' e19 L' => ⟨fun y => ⟨fun _ => PV_mk (h μ' F'.te (u + 1) (by omega) (R'.flt y)), fun y2 => absurd y y2⟩, fun y m => ⟨fun y2 => absurd y y2, fun _ => sp_man R' e19 hs L' ?_ fun μ2 F2 R2 => PV_mk (h μ2 (F'.te.trans F2) (u + 6) (by omega) R2)⟩⟩⟩
    have m8 : mst 8 = 6 := by decide
    omega
  · have k := kk 9 24 (by decide) (by decide) z
    refine ⟨by omega, rm (j := 0) k (by decide) hL.2.2.1.1 (by decide) fun μ' F' R' e19 L' => ⟨fun y => ⟨fun _ => h μ' F'.te (u + 1) (by omega) (R'.flt y), fun y2 => absurd y y2⟩, fun y m => ⟨fun y2 => absurd y y2, fun _ => sp_ear R' e19 hs L' ?_ fun μ2 F2 R2 => h μ2 (F'.te.trans F2) (u + 5) (by omega) R2⟩⟩⟩
    have m8 : mst 9 = 6 := by decide
    omega
  · have k := kk 10 25 (by decide) (by decide) z
    refine ⟨by omega, rm (j := 0) k (by decide) hL.2.2.2.1.1 (by decide) fun μ' F' R' e19 L' => ⟨fun y => ⟨fun _ => h μ' F'.te (u + 1) (by omega) (R'.flt y), fun y2 => absurd y y2⟩, fun y m => ⟨fun y2 => absurd y y2, fun _ => sp_bell R' e19 hs L' ?_ fun μ2 F2 R2 => h μ2 (F'.te.trans F2) (u + 6) (by omega) R2⟩⟩⟩
    have m8 : mst 10 = 6 := by decide
    omega
  · have k := kk 11 26 (by decide) (by decide) z
    exact sp_num2 (d := d + 1) hT hA h19 hs hL k fun μ' F' R' => h μ' F' (u + 4) (by omega) R'
  · have k := kk 12 27 (by decide) (by decide) z
    exact sp_num1 (d := d + 1) hT hA h19 hs hL k (by decide) (by decide) (by decide) fun μ' F' R' => h μ' F' (u + 3) (by omega) R'
  · have k := kk 13 28 (by decide) (by decide) z
    exact sp_num1 (d := d + 1) hT hA h19 hs hL k (by decide) (by decide) (by decide) fun μ' F' R' => h μ' F' (u + 3) (by omega) R'
  · have k := kk 14 29 (by decide) (by decide) z
    exact sp_num1 (d := d + 1) hT hA h19 hs hL k (by decide) (by decide) (by decide) fun μ' F' R' => h μ' F' (u + 3) (by omega) R'
  · refine bad fun k7 => ?_
    unfold rK at z
    rw [if_neg (by omega), if_neg (by omega), if_neg (by omega), if_neg (by omega), if_neg (by omega), if_neg (by omega), if_neg (by omega)] at z
    by_cases q : tK b n u = 7
    · rw [if_pos q] at z
      omega
    · rw [if_neg q] at z
      omega
