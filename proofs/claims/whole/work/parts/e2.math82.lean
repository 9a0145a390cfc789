/-! MATHEMATICS, 82: the reference reads an ear, a bell -/
theorem MP.add2 {μ : Mem} {sd : Int} {c cx cy N : Nat} {x y x' y' : Nat → Int} {X Y : Int} (h : MP μ sd c cx cy cy N x y y) (hs : sd = 0 ∨ sd = 1) (hd : cx ≠ cy ∧ cx ≠ c ∧ cy ≠ c) (ex : ∀ k, k < N → x' k = x k) (ey : ∀ k, k < N → y' k = y k) (eX : x' N = X) (eY : y' N = Y) : MP (wr (wr (wr μ cx 0 (i6 sd N) X) cy 0 (i6 sd N) Y) c 0 sd.toNat ((N : Int) + 1)) sd c cx cy cy (N + 1) x' y' y' := by
  obtain ⟨d1, d2, d3⟩ := hd
  unfold MP at *
  refine ⟨by rw [wr_same]; omega, fun k hk => ?_⟩
  rw [wr_c d2, wr_c d3, wr_c d1]
  by_cases q : k = N
  · subst q
    rw [wr_same, wr_same, eX, eY]
    exact ⟨rfl, rfl, rfl⟩
  · have qi : i6 sd k ≠ i6 sd N := by unfold i6; omega
    rw [ex k (by omega), ey k (by omega)]
    obtain ⟨r1, r2, r3⟩ := h.2 k (by omega)
    refine ⟨?_, ?_, ?_⟩
    · rw [wr_k qi]; exact r1
    · rw [wr_k qi, wr_c (Ne.symm d1)]; exact r2
    · rw [wr_k qi, wr_c (Ne.symm d1)]; exact r3
theorem sp_bell {sc : Scr} {d t : Nat} {μ : Mem} {Q : Mem → Prop} {b : Nat → Int} {n u : Nat} {sd : Int} (hR : RS μ b n 10 1 (u + 1)) (h19 : μ 11 0 19 = sd) (hs : sd = 0 ∨ sd = 1) (hL : LMa μ b n sd u) (hN : cS b n 10 u < 6) (h : ∀ μ', Fte sd μ μ' → RE μ' b n sd (u + 6) → Q μ') : RMv sc (d + 5) 11027 [rfc 11 0] (t, 0, 0) μ Q := by
  have e62 : μ 62 0 sd.toNat = ((cS b n 10 u : Nat) : Int) := hL.2.2.2.1.1
  have i6e : (i6 sd (cS b n 10 u) : Int) = 6 * sd + ((cS b n 10 u : Nat) : Int) := by unfold i6; omega
  have ins : ∀ c, 63 ≤ c ∧ c ≤ 65 → insd sd c (i6 sd (cS b n 10 u)) := fun c hc => by unfold insd; omega
  have insc : insd sd 62 sd.toNat := by unfold insd; omega
  refine m_11027 ?_
  rw [h19, e62]
  refine ⟨by omega, by omega, by omega, sp_named hR (by decide) (g2 (by decide) (by decide) (by decide)) fun μ1 F1 R1 => sp_onMap (d := d) R1 (by decide) (g3 (by decide) (by decide) (by decide)) (fun _ hp _ => wrg_e hp (by decide) (by decide) (i := 0) (by decide) (by decide) (by decide) (by decide) (by decide)) (fun hp k3 => ?_) (Or.inl rfl) (fun hp => ?_) fun v2 μ2 F2 R2 E2 => ⟨by omega, sp_onMap (d := d) (R2.w (by decide)) (by decide) (g3 (by decide) (by decide) (by decide)) (fun _ hp _ => wrg_e hp (by decide) (by decide) (i := 1) (by decide) (by decide) (by decide) (by decide) (by decide)) (fun hp k3 => ?_) (Or.inr rfl) (fun hp => ?_) fun v3 μ3 F3 R3 E3 => ⟨by omega, sp_number (d := d + 1) (R3.w (by decide)) (by decide) (g3 (by decide) (by decide) (by decide)) (fun _ hp _ => wrg_e hp (by decide) (by decide) (i := 2) (by decide) (by decide) (by decide) (by decide) (by decide)) (fun hp ip => ?_) fun v4 μ4 F4 R4 E4 => ⟨by omega, sp_semi (d := d + 1) (R4.w (by decide)) (by decide) (g4 (by decide) (by decide) (by decide)) fun μ5 F5 R5 E5 => ?_⟩⟩⟩⟩
  · exact ⟨k3, by rw [(hp.i (by decide) (by decide)).1]; decide, by rw [(hp.i (by decide) (by decide)).2]; decide⟩
  · rw [(hp.i (by decide) (by decide)).2, if_pos (by decide)]
  · exact ⟨k3, by rw [(hp.i (by decide) (by decide)).1]; decide, by rw [(hp.i (by decide) (by decide)).2]; decide⟩
  · rw [(hp.i (by decide) (by decide)).2, if_neg (by decide)]
  · exact absurd ip.2.2 (by rw [(hp.i (by decide) (by decide)).2]; decide)
  · have FF : Fte sd μ μ5 := ((((((F1.te.trans F2.te).trans (Fte.w (ins 63 (by decide)))).trans F3.te).trans (Fte.w (ins 64 (by decide)))).trans F4.te).trans (Fte.w (ins 65 (by decide)))).trans F5.te
    have e5 : EL μ5 (wr (wr (wr μ 63 0 (i6 sd (cS b n 10 u)) v2) 64 0 (i6 sd (cS b n 10 u)) v3) 65 0 (i6 sd (cS b n 10 u)) v4) := (((((((EL.p (M := μ) (fun _ _ _ => rfl) F1).p F2).w).p F3).w).p F4).w).p F5
    have e19 : μ5 11 0 19 = sd := by rw [FF.fld (by decide)]; exact h19
    have c62 : μ5 62 0 sd.toNat = ((cS b n 10 u : Nat) : Int) := by
      rw [e5 62 (by decide) (by decide), wr_c (by decide), wr_c (by decide), wr_c (by decide)]
      exact e62
    rw [e19, c62]
    refine ⟨fun z => h μ5 FF (R5.flt z), fun z => ⟨by omega, by omega, by omega, h _ (FF.trans (Fte.w insc)) ⟨(R5.w (c := 62) (by decide)).1, Or.inr ?_⟩⟩⟩
    have z' := Decidable.not_not.mp z
    obtain ⟨o5, k5, z4⟩ := E5 z'
    rw [wr_c (by decide)] at z4
    obtain ⟨v4e, p4, -, z3⟩ := E4 z4
    rw [wr_c (by decide)] at z3
    obtain ⟨v3e, p3, -, z2⟩ := E3 z3
    rw [wr_c (by decide)] at z2
    obtain ⟨v2e, p2, -, z1⟩ := E2 z2
    have p5 := ((R4.atv z4).2.2.2.1)
    obtain ⟨⟨y1, y2, y3, -⟩, yo⟩ := st_end (u := u) (L := 5) p5 (by decide) (by decide) k5
    obtain ⟨t7, t8, t9, t10⟩ := hL.t (μ' := wr (wr (wr (wr μ 63 0 (i6 sd (cS b n 10 u)) v2) 64 0 (i6 sd (cS b n 10 u)) v3) 65 0 (i6 sd (cS b n 10 u)) v4) 62 0 sd.toNat (((cS b n 10 u : Nat) : Int) + 1)) yo
    have oc : ∀ c, ¬ (62 ≤ c ∧ c ≤ 65) → (wr (wr (wr (wr μ 63 0 (i6 sd (cS b n 10 u)) v2) 64 0 (i6 sd (cS b n 10 u)) v3) 65 0 (i6 sd (cS b n 10 u)) v4) 62 0 sd.toNat (((cS b n 10 u : Nat) : Int) + 1)) c = μ c := fun c hc => by rw [wr_c (by omega), wr_c (by omega), wr_c (by omega), wr_c (by omega)]
    refine ⟨⟨10, (R5.w (c := 62) (by decide)).atv (by rw [wr_c (by decide)]; exact z')⟩, LMa.x ⟨t7 (by decide) (fun c hc => oc c (by omega)), t8 (by decide) (fun c hc => oc c (by omega)), t9 (by decide) (fun c hc => oc c (by omega)), ?_, ?_⟩ e5.w⟩
    · show MP _ sd 62 63 64 65 (cS b n 10 (u + 5 + 1)) _ _ _
      rw [y1]
      refine hL.2.2.2.1.add hs (by decide) (fun k hk => by rw [y3 k hk]) (fun k hk => by rw [y3 k hk]) (fun k hk => by rw [y3 k hk]) ?_ ?_ ?_
      · rw [y2, v2e]; rfl
      · rw [y2, v3e]; rfl
      · rw [y2, v4e]; rfl
    · have m := hL.2.2.2.2
      unfold MN at m ⊢
      rw [oc 66 (by decide), oc 67 (by decide), oc 68 (by decide), oc 69 (by decide), oc 70 (by decide)]
      show μ 66 0 sd.toNat = nS b n 11 2 20 (u + 5 + 1) ∧ μ 67 0 sd.toNat = nS b n 11 1 20 (u + 5 + 1) ∧ μ 68 0 sd.toNat = nS b n 12 1 10 (u + 5 + 1) ∧ μ 69 0 sd.toNat = nS b n 13 1 10 (u + 5 + 1) ∧ μ 70 0 sd.toNat = nS b n 14 1 100 (u + 5 + 1)
      rw [(yo 11 (by decide)).2.2, (yo 11 (by decide)).2.2, (yo 12 (by decide)).2.2, (yo 13 (by decide)).2.2, (yo 14 (by decide)).2.2]
      exact m
theorem sp_ear {sc : Scr} {d t : Nat} {μ : Mem} {Q : Mem → Prop} {b : Nat → Int} {n u : Nat} {sd : Int} (hR : RS μ b n 9 1 (u + 1)) (h19 : μ 11 0 19 = sd) (hs : sd = 0 ∨ sd = 1) (hL : LMa μ b n sd u) (hN : cS b n 9 u < 6) (h : ∀ μ', Fte sd μ μ' → RE μ' b n sd (u + 5) → Q μ') : RMv sc (d + 5) 11026 [rfc 11 0] (t, 0, 0) μ Q := by
  have e59 : μ 59 0 sd.toNat = ((cS b n 9 u : Nat) : Int) := hL.2.2.1.1
  have i6e : (i6 sd (cS b n 9 u) : Int) = 6 * sd + ((cS b n 9 u : Nat) : Int) := by unfold i6; omega
  have ins : ∀ c, 60 ≤ c ∧ c ≤ 61 → insd sd c (i6 sd (cS b n 9 u)) := fun c hc => by unfold insd; omega
  have insc : insd sd 59 sd.toNat := by unfold insd; omega
  refine m_11026 ?_
  rw [h19, e59]
  refine ⟨by omega, by omega, by omega, sp_named hR (by decide) (g2 (by decide) (by decide) (by decide)) fun μ1 F1 R1 => sp_onMap (d := d) R1 (by decide) (g3 (by decide) (by decide) (by decide)) (fun _ hp _ => wrg_e hp (by decide) (by decide) (i := 0) (by decide) (by decide) (by decide) (by decide) (by decide)) (fun hp k3 => ?_) (Or.inl rfl) (fun hp => ?_) fun v2 μ2 F2 R2 E2 => ⟨by omega, sp_onMap (d := d) (R2.w (by decide)) (by decide) (g3 (by decide) (by decide) (by decide)) (fun _ hp _ => wrg_e hp (by decide) (by decide) (i := 1) (by decide) (by decide) (by decide) (by decide) (by decide)) (fun hp k3 => ?_) (Or.inr rfl) (fun hp => ?_) fun v3 μ3 F3 R3 E3 => ⟨by omega, sp_semi (d := d + 1) (R3.w (by decide)) (by decide) (g4 (by decide) (by decide) (by decide)) fun μ5 F5 R5 E5 => ?_⟩⟩⟩
  · exact ⟨k3, by rw [(hp.i (by decide) (by decide)).1]; decide, by rw [(hp.i (by decide) (by decide)).2]; decide⟩
  · rw [(hp.i (by decide) (by decide)).2, if_pos (by decide)]
  · exact ⟨k3, by rw [(hp.i (by decide) (by decide)).1]; decide, by rw [(hp.i (by decide) (by decide)).2]; decide⟩
  · rw [(hp.i (by decide) (by decide)).2, if_neg (by decide)]
  · have FF : Fte sd μ μ5 := ((((F1.te.trans F2.te).trans (Fte.w (ins 60 (by decide)))).trans F3.te).trans (Fte.w (ins 61 (by decide)))).trans F5.te
    have e5 : EL μ5 (wr (wr μ 60 0 (i6 sd (cS b n 9 u)) v2) 61 0 (i6 sd (cS b n 9 u)) v3) := (((((EL.p (M := μ) (fun _ _ _ => rfl) F1).p F2).w).p F3).w).p F5
    have e19 : μ5 11 0 19 = sd := by rw [FF.fld (by decide)]; exact h19
    have c59 : μ5 59 0 sd.toNat = ((cS b n 9 u : Nat) : Int) := by
      rw [e5 59 (by decide) (by decide), wr_c (by decide), wr_c (by decide)]
      exact e59
    rw [e19, c59]
    refine ⟨fun z => h μ5 FF (R5.flt z), fun z => ⟨by omega, by omega, by omega, h _ (FF.trans (Fte.w insc)) ⟨(R5.w (c := 59) (by decide)).1, Or.inr ?_⟩⟩⟩
    have z' := Decidable.not_not.mp z
    obtain ⟨o5, k5, z3⟩ := E5 z'
    rw [wr_c (by decide)] at z3
    obtain ⟨v3e, p3, -, z2⟩ := E3 z3
    rw [wr_c (by decide)] at z2
    obtain ⟨v2e, p2, -, z1⟩ := E2 z2
    have p5 := ((R3.atv z3).2.2.2.1)
    obtain ⟨⟨y1, y2, y3, -⟩, yo⟩ := st_end (u := u) (L := 4) p5 (by decide) (by decide) k5
    obtain ⟨t7, t8, t9, t10⟩ := hL.t (μ' := wr (wr (wr μ 60 0 (i6 sd (cS b n 9 u)) v2) 61 0 (i6 sd (cS b n 9 u)) v3) 59 0 sd.toNat (((cS b n 9 u : Nat) : Int) + 1)) yo
    have oc : ∀ c, ¬ (59 ≤ c ∧ c ≤ 61) → (wr (wr (wr μ 60 0 (i6 sd (cS b n 9 u)) v2) 61 0 (i6 sd (cS b n 9 u)) v3) 59 0 sd.toNat (((cS b n 9 u : Nat) : Int) + 1)) c = μ c := fun c hc => by rw [wr_c (by omega), wr_c (by omega), wr_c (by omega)]
    refine ⟨⟨9, (R5.w (c := 59) (by decide)).atv (by rw [wr_c (by decide)]; exact z')⟩, LMa.x ⟨t7 (by decide) (fun c hc => oc c (by omega)), t8 (by decide) (fun c hc => oc c (by omega)), ?_, t10 (by decide) (fun c hc => oc c (by omega)), ?_⟩ e5.w⟩
    · show MP _ sd 59 60 61 61 (cS b n 9 (u + 4 + 1)) _ _ _
      rw [y1]
      refine hL.2.2.1.add2 hs (by decide) (fun k hk => by rw [y3 k hk]) (fun k hk => by rw [y3 k hk]) ?_ ?_
      · rw [y2, v2e]; rfl
      · rw [y2, v3e]; rfl
    · have m := hL.2.2.2.2
      unfold MN at m ⊢
      rw [oc 66 (by decide), oc 67 (by decide), oc 68 (by decide), oc 69 (by decide), oc 70 (by decide)]
      show μ 66 0 sd.toNat = nS b n 11 2 20 (u + 4 + 1) ∧ μ 67 0 sd.toNat = nS b n 11 1 20 (u + 4 + 1) ∧ μ 68 0 sd.toNat = nS b n 12 1 10 (u + 4 + 1) ∧ μ 69 0 sd.toNat = nS b n 13 1 10 (u + 4 + 1) ∧ μ 70 0 sd.toNat = nS b n 14 1 100 (u + 4 + 1)
      rw [(yo 11 (by decide)).2.2, (yo 11 (by decide)).2.2, (yo 12 (by decide)).2.2, (yo 13 (by decide)).2.2, (yo 14 (by decide)).2.2]
      exact m
