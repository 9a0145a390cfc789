/-! MATHEMATICS, 36: deaf, cross -/
/-- the first sound from a post -/
noncomputable def FT (μ : Mem) (o : Nat) (i x y : Int) : Int := fstT (RT μ (μ 29 o i.toNat) (μ 27 o i.toNat) (μ 28 o i.toNat) x y)
theorem sp_sound {sc : Scr} {d t : Nat} {μ : Mem} {Q : Int → Mem → Prop} {o : Nat} {i x y : Int} (e27 : slen 27 o = 6) (e28 : slen 28 o = 6) (e29 : slen 29 o = 6) (hC : CO μ) (hN : μ 3 o 4 ≤ ((6 : Nat) : Int)) (hi : Nm μ o i) (hp : Pl (μ 27 o i.toNat) (μ 28 o i.toNat)) (hl : 0 ≤ μ 29 o i.toNat ∧ μ 29 o i.toNat ≤ 99) (hq : Pl x y)
    (h : ∀ μ', F8 μ μ' → Q (FT μ o i x y) μ') : RMi sc (d + 6) 32 [rfc 0 0, rfc 3 o, .inl i, .inl x, .inl y] (t, 0, 0) μ Q := by
  refine m_32 (sp_xAt e27 hN hi (sp_yAt e27 e28 hN hi (sp_span fun μ1 F1 s1 => sp_lAt e27 e29 ?_ ?_ ?_)))
  · rw [F1.c (c := 3) (by decide)]; exact hN
  · rw [F1.c (c := 3) (by decide)]; exact hi
  · rw [F1.c (c := 29) (by decide)]
    refine sp_first8 (hC.f8 F1) hp hq hl s1 fun μ2 F2 => ?_
    rw [F1.c (c := 9) (by decide), F1.c (c := 1) (by decide)]
    exact h μ2 (F1.trans F2)
theorem FW.ft {μ μ' : Mem} (h : FW μ μ') (hS : Sim μ) (o : Nat) (i x y : Int) : FT μ' o i x y = FT μ o i x y := by
  unfold FT
  rw [h.rt hS, h.1 27 (by unfold Kp; omega), h.1 28 (by unfold Kp; omega), h.1 29 (by unfold Kp; omega)]
/-- from a man, from a bell -/
theorem sp_manS {sc : Scr} {d t : Nat} {μ : Mem} {Q : Int → Mem → Prop} {i x y : Int} (hG : GA μ) (hi : Nm μ 0 i) (hq : Pl x y) (h : ∀ μ', F8 μ μ' → Q (FT μ 0 i x y) μ') : RMi sc (d + 6) 32 [rfc 0 0, rfc 3 0, .inl i, .inl x, .inl y] (t, 0, 0) μ Q :=
  sp_sound rfl rfl rfl hG.1 hG.2.1.1.c6 hi (hG.pl (hG.2.1.1.at hi).2.2) (hG.2.1.ml hi).2.b hq h
noncomputable def bt' (μ : Mem) (b x y : Int) : Int := if 0 ≤ FT μ 2 b x y then μ 30 2 b.toNat + FT μ 2 b x y else -2
theorem FW.bt {μ μ' : Mem} (h : FW μ μ') (hS : Sim μ) (b x y : Int) : bt' μ' b x y = bt' μ b x y := by
  unfold bt'
  rw [h.ft hS, h.1 30 (by unfold Kp; omega)]
theorem fstT_b {L : Lst} (h : Tb L) : (L.2 = 0 ∧ fstT L = -2) ∨ (L.2 ≠ 0 ∧ fstT L = (L.1 0).2.1 ∧ (0 ≤ fstT L ∧ fstT L ≤ 2000000)) := by
  unfold fstT
  by_cases c : L.2 = 0
  · rw [if_pos c]; exact Or.inl ⟨c, rfl⟩
  · rw [if_neg c]; exact Or.inr ⟨c, rfl, h.2 0 (by omega)⟩
theorem FT_b {μ : Mem} {o : Nat} {i x y : Int} (tb : Tb (RT μ (μ 29 o i.toNat) (μ 27 o i.toNat) (μ 28 o i.toNat) x y)) : -2 ≤ FT μ o i x y ∧ FT μ o i x y ≤ 2000000 := by
  have z := fstT_b tb
  unfold FT
  omega
theorem FT_c {μ : Mem} {o : Nat} {i x y : Int} (tb : Tb (RT μ (μ 29 o i.toNat) (μ 27 o i.toNat) (μ 28 o i.toNat) x y)) : ((RT μ (μ 29 o i.toNat) (μ 27 o i.toNat) (μ 28 o i.toNat) x y).2 = 0 ∧ FT μ o i x y < 0) ∨ ((RT μ (μ 29 o i.toNat) (μ 27 o i.toNat) (μ 28 o i.toNat) x y).2 ≠ 0 ∧ 0 ≤ FT μ o i x y) := by
  have z := fstT_b tb
  unfold FT
  omega
theorem bt_b {μ : Mem} (hG : GA μ) {b x y : Int} (hi : Nm μ 2 b) (hq : Pl x y) : -2 ≤ bt' μ b x y ∧ bt' μ b x y ≤ 3000000 := by
  have k := (hG.2.1.bl hi).2.2
  have z := FT_b (o := 2) (i := b) (hG.1.tb (hG.pl (hG.2.1.2.2.1.at hi).2.2) hq)
  unfold bt'
  split <;> omega
theorem sp_bellTime {sc : Scr} {d t : Nat} {μ : Mem} {Q : Int → Mem → Prop} {b x y : Int} (hG : GA μ) (hi : Nm μ 2 b) (hq : Pl x y) (h : ∀ μ', F8 μ μ' → Q (bt' μ b x y) μ') : RMi sc (d + 7) 43 [rfc 0 0, .inl b, .inl x, .inl y] (t, 0, 0) μ Q := by
  obtain ⟨k1, k2, k3⟩ := hG.2.1.bl hi
  have z := FT_b (o := 2) (i := b) (hG.1.tb (hG.pl (hG.2.1.2.2.1.at hi).2.2) hq)
  unfold bt' at h
  refine m_43 (sp_sound rfl rfl rfl hG.1 hG.2.1.2.2.1.c6 hi (hG.pl (hG.2.1.2.2.1.at hi).2.2) (by omega) hq fun μ1 F1 => ⟨fun c => sp_tAt (N := 6) rfl rfl (by rw [F1.c (c := 3) (by decide)]; exact hG.2.1.2.2.1.c6) (by rw [F1.c (c := 3) (by decide)]; exact hi) ?_, fun c => ?_⟩)
  · rw [F1.c (c := 30) (by decide)]
    have r := h μ1 F1
    rw [if_pos c] at r
    exact ⟨by omega, r⟩
  · have r := h μ1 F1
    rw [if_neg c] at r
    exact r
theorem sp_fillFrom {sc : Scr} {d t : Nat} {μ : Mem} {Q : Mem → Prop} {m x y : Int} (hG : GM μ) (hm : Nm μ 0 m) (hq : Pl x y) (h : ∀ μ', Fm 49 μ μ' → LMl μ' (RT μ (μ 29 0 m.toNat) (μ 27 0 m.toNat) (μ 28 0 m.toNat) x y) → Q μ') : RMv sc (d + 6) 11074 [rfc 11 0, .inl m, .inl x, .inl y] (t, 0, 0) μ Q := by
  have hF := hG.2.1
  have w := hG.2.2.1
  have l := hG.1.1.1
  unfold liv at l
  have c1 := hF.1.2.1
  obtain ⟨a1, a2, a3⟩ := hF.1.at hm
  obtain ⟨d1, d2⟩ := hF.ml hm
  refine m_11074 ?_
  rw [a1, a2, d1]
  refine ⟨by omega, by omega, by omega, by omega, by omega, by omega, by omega, by omega, by omega, ?_⟩
  refine sp_fills hG.1 (by omega) hq d2.b fun μ1 F1 L1 => h μ1 F1 ?_
  rw [hG.2.2.2] at L1
  exact L1
theorem sp_ringsAt {sc : Scr} {d t : Nat} {μ : Mem} {Q : Int → Mem → Prop} {b x y : Int} (hA : CO μ) (hG : GM μ) (hi : Nm μ 2 b) (hq : Pl x y) (h : ∀ μ', Fm 49 μ μ' → Q (bt' μ b x y) μ') : RMi sc (d + 6) 11085 [rfc 11 0, .inl b, .inl x, .inl y] (t, 0, 0) μ Q := by
  have hF := hG.2.1
  have w := hG.2.2.1
  have l := hG.1.1.1
  unfold liv at l
  have c1 := hF.2.2.1.2.1
  obtain ⟨a1, a2, a3⟩ := hF.2.2.1.at hi
  obtain ⟨k1, k2, k3⟩ := hF.bl hi
  have tb := hA.tb (s := μ 29 2 b.toNat) (x := μ 27 2 b.toNat) (y := μ 28 2 b.toNat) (u := x) (v := y) (by omega) hq
  have z := fstT_b tb
  unfold bt' FT at h
  refine m_11085 ?_
  rw [a1, a2]
  refine ⟨by omega, by omega, by omega, by omega, by omega, by omega, ?_⟩
  refine sp_fills hG.1 (by omega) hq (by decide) fun μ1 F1 L1 => ?_
  rw [hG.2.2.2, ← k1] at L1
  have r := h μ1 F1
  rw [F1.c (c := 65) (by decide) (by decide), F1.f (k := 18) (by decide), k2, L1.1]
  refine ⟨fun c => ?_, fun c => ?_⟩
  · have c' : (RT μ (μ 29 2 b.toNat) (μ 27 2 b.toNat) (μ 28 2 b.toNat) x y).2 ≠ 0 := by omega
    rcases z with z | ⟨_, z1, z2⟩
    · exact absurd z.1 c'
    · rw [(L1.e (i := 0) (by omega)).2.1, ← z1]
      rw [if_pos z2.1] at r
      exact ⟨by omega, by omega, by omega, by omega, r⟩
  · rcases z with z | ⟨z0, _⟩
    · rw [if_neg (by omega)] at r
      exact r
    · exact absurd (by omega) z0
/-- deaf -/
def PdD (μ : Mem) (m : Int) (x y : Nat) : Prop := FT μ 0 m (x : Int) (y : Int) < 0
theorem FW.ftt {μ μ' : Mem} (h : FW μ μ') (hS : Sim μ) (o : Nat) (i x y : Int) : fstT (rets (μ' 9) (μ' 1 0 7) (μ' 1 0 8) (μ' 29 o i.toNat) (μ' 27 o i.toNat) (μ' 28 o i.toNat) x y) = FT μ o i x y := h.ft hS o i x y
theorem L31i {sc : Scr} {t : Nat} {μ : Mem} {P : Option AV → AS → Prop} {m what : Int} {y : Nat} (hS : Sim μ) (hm : Nm μ 0 m) (hy : y < Hg μ)
    (h : ∀ μ' q0, FW μ μ' → SC μ' (scy (PdD μ m) (Wd μ) (y + 1)) → R_31 sc 12 P t 33 [rfc 0 0, .inl m, .inl what, .inl ((y + 1 : Nat) : Int), q0] [] μ') :
    ∀ (nn x : Nat) (μ' : Mem), nn + x = Wd μ → FW μ μ' → SC μ' (scx (PdD μ m) y x (scy (PdD μ m) (Wd μ) y)) → R_31 sc 12 P t 47 [rfc 0 0, .inl m, .inl what, .inl (y : Int), .inl (x : Int)] [] μ' := by
  obtain ⟨w1, w2, w3, w4⟩ := hS.wh
  intro nn
  induction nn with
  | zero =>
    intro x μ'  hx hF hC
    have : x = Wd μ := by omega
    subst this
    have e1 := hF.e1
    exact m_31_47 ⟨fun _ => ⟨by omega, h μ' _ hF hC⟩, fun c => absurd (by rw [e1]; omega) c⟩
  | succ nn ih =>
    intro x μ'  hx hF hC
    have S' := hS.fw hF
    have e1 := hF.e1
    have hp : Pm μ' (x : Int) (y : Int) := by unfold Pm; rw [e1]; omega
    have nb : (scx (PdD μ m) y x (scy (PdD μ m) (Wd μ) y)).2 < 1600 := by
      have b1 := scx_le (PdD μ m) y (scy (PdD μ m) (Wd μ) y) x
      have b2 := scy_le (PdD μ m) w3 y
      omega
    have xs : x < 40 := by omega
    have ys : y < 40 := by omega
    have go : ∀ μ2 , FW μ' μ2 → SC μ2 (scx (PdD μ m) y (x + 1) (scy (PdD μ m) (Wd μ) y)) → R_31 sc 12 P t 47 [rfc 0 0, .inl m, .inl what, .inl (y : Int), .inl ((x : Int) + 1)] [] μ2 := fun μ2  F2 C2 => ih (x + 1) μ2  (by omega) (hF.trans F2) C2
    refine m_31_47 ⟨fun c => absurd c (by rw [e1]; omega), fun _ => ?_⟩
    have S' := hS.fw hF
    refine sp_manS S'.ga ((hF.nm _ _).mpr hm) (S'.pl hp) fun μ2 F2 => ?_
    have C2 := hC.f8 F2
    rw [hF.ft hS]
    refine ⟨fun c => ⟨by omega, go μ2 F2.fw ?_⟩, fun c => sp_code xs ys (sp_add C2 nb fun μ3 F3 C3 => ⟨by omega, go μ3 (F2.fw.trans F3) ?_⟩)⟩
    · unfold scx
      rw [ic_f fun z => by unfold PdD at z; omega]
      exact C2
    · unfold scx
      rw [ic_t (by unfold PdD; omega)]
      exact C3
theorem L31 {sc : Scr} {t : Nat} {μ : Mem} {P : Option AV → AS → Prop} {m what : Int} (hS : Sim μ) (hm : Nm μ 0 m)
    (h : ∀ μ', FW μ μ' → P (some (.inl (tldF (scy (PdD μ m) (Wd μ) (Hg μ)) what))) (fs (t, 0, 0) μ')) :
    ∀ (nn y : Nat) (μ' : Mem) (q0 : AV), nn + y = Hg μ → FW μ μ' → SC μ' (scy (PdD μ m) (Wd μ) y) → R_31 sc 12 P t 33 [rfc 0 0, .inl m, .inl what, .inl (y : Int), q0] [] μ' := by
  obtain ⟨w1, w2, w3, w4⟩ := hS.wh
  intro nn
  induction nn with
  | zero =>
    intro y μ' q0 hy hF hC
    have : y = Hg μ := by omega
    subst this
    have e1 := hF.e1
    have b2 := scy_le (PdD μ m) w3 (Hg μ)
    exact m_31_33 ⟨fun _ => sp_manyOrFirst hC (by omega) (h μ' hF), fun c => absurd (by rw [e1]; omega) c⟩
  | succ nn ih =>
    intro y μ' q0 hy hF hC
    have e1 := hF.e1
    exact m_31_33 ⟨fun c => absurd c (by rw [e1]; omega), fun _ => L31i hS hm (by omega) (fun μ2 q0 F2 C2 => ih (y + 1) μ2 q0 (by omega) F2 C2) (Wd μ) 0 μ'  rfl hF hC⟩
theorem L73i {sc : Scr} {t : Nat} {μ : Mem} {P : Option AV → AS → Prop} {m what : Int} {y : Nat} (hS : Sim μ) (hm : Nm μ 0 m) (hy : y < Hg μ)
    (h : ∀ μ' q0, FW μ μ' → SMc μ' (scy (PdD μ m) (Wd μ) (y + 1)) → R_11073 sc 12 P t 26 [rfc 11 0, .inl m, .inl what, .inl ((y + 1 : Nat) : Int), q0] [] μ') :
    ∀ (nn x : Nat) (μ' : Mem), nn + x = Wd μ → FW μ μ' → SMc μ' (scx (PdD μ m) y x (scy (PdD μ m) (Wd μ) y)) → R_11073 sc 12 P t 42 [rfc 11 0, .inl m, .inl what, .inl (y : Int), .inl (x : Int)] [] μ' := by
  obtain ⟨w1, w2, w3, w4⟩ := hS.wh
  intro nn
  induction nn with
  | zero =>
    intro x μ'  hx hF hC
    have : x = Wd μ := by omega
    subst this
    have e1 := hF.e1
    have S' := hS.fw hF
    have l := S'.1.1
    have ew := S'.2.1.2.2.2.1.1
    unfold liv at l
    unfold lvM at ew
    exact m_11073_42 ⟨by omega, fun _ => ⟨by omega, h μ' _ hF hC⟩, fun c => absurd (by rw [ew, e1]; omega) c⟩
  | succ nn ih =>
    intro x μ'  hx hF hC
    have S' := hS.fw hF
    have e1 := hF.e1
    have S' := hS.fw hF
    have l := S'.1.1
    have ew := S'.2.1.2.2.2.1.1
    unfold liv at l
    unfold lvM at ew
    have hp : Pm μ' (x : Int) (y : Int) := by unfold Pm; rw [e1]; omega
    have nb : (scx (PdD μ m) y x (scy (PdD μ m) (Wd μ) y)).2 < 1600 := by
      have b1 := scx_le (PdD μ m) y (scy (PdD μ m) (Wd μ) y) x
      have b2 := scy_le (PdD μ m) w3 y
      omega
    have xs : x < 40 := by omega
    have ys : y < 40 := by omega
    have go : ∀ μ2 , FW μ' μ2 → SMc μ2 (scx (PdD μ m) y (x + 1) (scy (PdD μ m) (Wd μ) y)) → R_11073 sc 12 P t 42 [rfc 11 0, .inl m, .inl what, .inl (y : Int), .inl ((x : Int) + 1)] [] μ2 := fun μ2  F2 C2 => ih (x + 1) μ2  (by omega) (hF.trans F2) C2
    refine m_11073_42 ⟨by omega, fun c => absurd c (by rw [ew, e1]; omega), fun _ => ?_⟩
    have hm' := (hF.nm _ _).mpr hm
    have tb := S'.co.tb (s := μ' 29 0 m.toNat) (S'.pl (S'.2.2.1.1.at hm').2.2) (S'.pl hp)
    refine sp_fillFrom S'.gm hm' (S'.pl hp) fun μ2 F2 L2 => ?_
    have C2 := hC.fm F2
    have ef := hF.ft hS 0 m (x : Int) (y : Int)
    have z := FT_c tb
    rw [ef] at z
    have e64 := L2.1
    refine ⟨fun c => ⟨by omega, go μ2 F2.fw ?_⟩, fun c => sp_counts xs ys C2 nb fun μ3 F3 C3 => ⟨by omega, go μ3 (F2.fw.trans F3) ?_⟩⟩
    · unfold scx
      rw [ic_f fun z' => by unfold PdD at z'; omega]
      exact C2
    · unfold scx
      rw [ic_t (by unfold PdD; omega)]
      exact C3
theorem L73 {sc : Scr} {t : Nat} {μ : Mem} {P : Option AV → AS → Prop} {m what : Int} (hS : Sim μ) (hm : Nm μ 0 m)
    (h : ∀ μ', FW μ μ' → P (some (.inl (tldF (scy (PdD μ m) (Wd μ) (Hg μ)) what))) (fs (t, 0, 0) μ')) :
    ∀ (nn y : Nat) (μ' : Mem) (q0 : AV), nn + y = Hg μ → FW μ μ' → SMc μ' (scy (PdD μ m) (Wd μ) y) → R_11073 sc 12 P t 26 [rfc 11 0, .inl m, .inl what, .inl (y : Int), q0] [] μ' := by
  obtain ⟨w1, w2, w3, w4⟩ := hS.wh
  intro nn
  induction nn with
  | zero =>
    intro y μ' q0 hy hF hC
    have : y = Hg μ := by omega
    subst this
    have e1 := hF.e1
    have b2 := scy_le (PdD μ m) w3 (Hg μ)
    have S' := hS.fw hF
    have l := S'.1.1
    have ew := S'.2.1.2.2.2.2.1
    unfold liv at l
    unfold lvM at ew
    exact m_11073_26 ⟨by omega, fun _ => sp_told hC (h μ' hF), fun c => absurd (by rw [ew, e1]; omega) c⟩
  | succ nn ih =>
    intro y μ' q0 hy hF hC
    have e1 := hF.e1
    have S' := hS.fw hF
    have l := S'.1.1
    have ew := S'.2.1.2.2.2.2.1
    unfold liv at l
    unfold lvM at ew
    exact m_11073_26 ⟨by omega, fun c => absurd c (by rw [ew, e1]; omega), fun _ => L73i hS hm (by omega) (fun μ2 q0 F2 C2 => ih (y + 1) μ2 q0 (by omega) F2 C2) (Wd μ) 0 μ'  rfl hF hC⟩
noncomputable def F_deaf (m what : Int) (μ : Mem) : Int := ic (Nm μ 0 m ∧ (0 ≤ what ∧ what ≤ 1)) (tldF (scy (PdD μ m) (Wd μ) (Hg μ)) what) (-1)
theorem p_deaf {sc : Scr} {t : Nat} {μ : Mem} {m what : Int} (hS : Sim μ) : PR sc t μ 31 11073 [.inl m, .inl what] := by
  refine PR_of (F_deaf m what) hS (fun μ1 F1 => ?_) (fun μ Q hS h => ?_) (fun μ Q hS h => ?_)
  · unfold F_deaf Wd Hg Nm
    rw [F1.e1, F1.1 3 (by unfold Kp; omega)]
    congr 2
    refine scy_c fun x y _ _ => ?_
    unfold PdD
    rw [F1.ft hS]
  · unfold F_deaf at h
    refine m_31 (sp_has (N := 6) rfl hS.2.2.1.1.c6 (fun hm => ⟨fun z => absurd z (by decide), fun _ => sp_is01 (fun c2 => ⟨fun _ => ?_, fun z => absurd (by decide) z⟩) (fun c2 => ⟨fun z => absurd rfl z, fun _ => ?_⟩)⟩) (fun hm => ⟨fun _ => ?_, fun z => absurd rfl z⟩))
    · rw [ic_t ⟨hm, c2⟩] at h
      exact L31 hS hm (fun μ' F => PI_mk (h μ' F)) (Hg μ) 0 _ _ rfl (FW.w (by unfold Kp; omega)) ⟨wr_same _ _ _ _ _, fun i hi => absurd hi (by unfold scy; simp)⟩
    · rw [ic_f fun z => c2 z.2] at h
      exact h _ FW.rfl
    · rw [ic_f fun z => hm z.1] at h
      exact h _ FW.rfl
  · unfold F_deaf at h
    refine m_11073 (sp_isMan hS.1.1 hS.2.2.1 (fun hm => ⟨fun z => absurd z (by decide), fun _ => sp_in (fun c2 => ⟨fun _ => ?_, fun z => absurd (by decide) z⟩) (fun c2 => ⟨fun z => absurd rfl z, fun _ => ?_⟩)⟩) (fun hm => ⟨fun _ => ?_, fun z => absurd rfl z⟩))
    · rw [ic_t ⟨hm, c2⟩] at h
      exact L73 hS hm (fun μ' F => PI_mk (h μ' F)) (Hg μ) 0 _ _ rfl (FW.w11 (by decide)) ⟨wr_same _ _ _ _ _, fun z => absurd rfl z⟩
    · rw [ic_f fun z => c2 z.2] at h
      exact h _ FW.rfl
    · rw [ic_f fun z => hm z.1] at h
      exact h _ FW.rfl
/-- cross -/
def PdC (μ : Mem) (b o g : Int) (x y : Nat) : Prop := 0 ≤ bt' μ b (x : Int) (y : Int) ∧ 0 ≤ bt' μ o (x : Int) (y : Int) ∧ bt' μ b (x : Int) (y : Int) - bt' μ o (x : Int) (y : Int) ≤ g ∧ bt' μ o (x : Int) (y : Int) - bt' μ b (x : Int) (y : Int) ≤ g
theorem L44i {sc : Scr} {t : Nat} {μ : Mem} {P : Option AV → AS → Prop} {b o g what : Int} {y : Nat} (hS : Sim μ) (hb : Nm μ 2 b) (ho : Nm μ 2 o) (hy : y < Hg μ)
    (h : ∀ μ' q0 q1 q2, FW μ μ' → SC μ' (scy (PdC μ b o g) (Wd μ) (y + 1)) → R_44 sc 12 P t 58 [rfc 0 0, .inl b, .inl o, .inl g, .inl what, .inl ((y + 1 : Nat) : Int), q0, q1, q2] [] μ') :
    ∀ (nn x : Nat) (μ' : Mem) (q1 q2 : AV), nn + x = Wd μ → FW μ μ' → SC μ' (scx (PdC μ b o g) y x (scy (PdC μ b o g) (Wd μ) y)) → R_44 sc 12 P t 73 [rfc 0 0, .inl b, .inl o, .inl g, .inl what, .inl (y : Int), .inl (x : Int), q1, q2] [] μ' := by
  obtain ⟨w1, w2, w3, w4⟩ := hS.wh
  intro nn
  induction nn with
  | zero =>
    intro x μ' q1 q2 hx hF hC
    have : x = Wd μ := by omega
    subst this
    have e1 := hF.e1
    exact m_44_73 ⟨fun _ => ⟨by omega, h μ' _ _ _ hF hC⟩, fun c => absurd (by rw [e1]; omega) c⟩
  | succ nn ih =>
    intro x μ' q1 q2 hx hF hC
    have S' := hS.fw hF
    have e1 := hF.e1
    have hp : Pm μ' (x : Int) (y : Int) := by unfold Pm; rw [e1]; omega
    have nb : (scx (PdC μ b o g) y x (scy (PdC μ b o g) (Wd μ) y)).2 < 1600 := by
      have b1 := scx_le (PdC μ b o g) y (scy (PdC μ b o g) (Wd μ) y) x
      have b2 := scy_le (PdC μ b o g) w3 y
      omega
    have xs : x < 40 := by omega
    have ys : y < 40 := by omega
    have go : ∀ μ2 q1 q2, FW μ' μ2 → SC μ2 (scx (PdC μ b o g) y (x + 1) (scy (PdC μ b o g) (Wd μ) y)) → R_44 sc 12 P t 73 [rfc 0 0, .inl b, .inl o, .inl g, .inl what, .inl (y : Int), .inl ((x : Int) + 1), q1, q2] [] μ2 := fun μ2 q1 q2 F2 C2 => ih (x + 1) μ2 q1 q2 (by omega) (hF.trans F2) C2
    refine m_44_73 ⟨fun c => absurd c (by rw [e1]; omega), fun _ => ?_⟩
    have hb' := (hF.nm _ _).mpr hb
    have ho' := (hF.nm _ _).mpr ho
    refine sp_bellTime S'.ga hb' (S'.pl hp) fun μ2 F2 => sp_bellTime (S'.fw F2.fw).ga ((F2.fw.nm _ _).mpr ho') (S'.pl hp) fun μ3 F3 => ?_
    have C3 := (hC.f8 F2).f8 F3
    have F23 := F2.fw.trans F3.fw
    have b1 := bt_b S'.ga hb' (S'.pl hp)
    have b2 := bt_b S'.ga ho' (S'.pl hp)
    rw [F2.fw.bt S', hF.bt hS, hF.bt hS]
    rw [hF.bt hS] at b1 b2
    have no : ¬ PdC μ b o g x y → R_44 sc 12 P t 73 [rfc 0 0, .inl b, .inl o, .inl g, .inl what, .inl (y : Int), .inl ((x : Int) + 1), .inl (bt' μ b (x : Int) (y : Int)), .inl (bt' μ o (x : Int) (y : Int))] [] μ3 := by
      intro z
      refine go μ3 _ _ F23 ?_
      unfold scx
      rw [ic_f z]
      exact C3
    refine ⟨fun c => ⟨by omega, no fun z => by unfold PdC at z; omega⟩, fun c => ⟨fun c2 => ⟨by omega, no fun z => by unfold PdC at z; omega⟩, fun c2 => ⟨by omega, m_100010 ?_⟩⟩⟩
    have yes : PdC μ b o g x y → RMi sc 12 29 [.inl (x : Int), .inl (y : Int)] (t, 0, 0) μ3 (fun v8 μ8 => RMv sc 12 2001 [rfc 2 0, .inl v8] (t, 0, 0) μ8 (fun μ9 => (InI ((x : Int) + 1)) ∧ (R_44 sc 12 P t 73 [rfc 0 0, .inl b, .inl o, .inl g, .inl what, .inl (y : Int), .inl ((x : Int) + 1), .inl (bt' μ b (x : Int) (y : Int)), .inl (bt' μ o (x : Int) (y : Int))] [] μ9))) := by
      intro z
      refine sp_code xs ys (sp_add C3 nb fun μ4 F4 C4 => ⟨by omega, go μ4 _ _ (F23.trans F4) ?_⟩)
      unfold scx
      rw [ic_t z]
      exact C4
    refine ⟨fun c3 => ⟨fun c4 => ⟨by omega, no fun z => by unfold PdC at z; omega⟩, fun c4 => yes (by unfold PdC; omega)⟩, fun c3 => ⟨by omega, fun c4 => ⟨by omega, no fun z => by unfold PdC at z; omega⟩, fun c4 => yes (by unfold PdC; omega)⟩⟩
theorem L44 {sc : Scr} {t : Nat} {μ : Mem} {P : Option AV → AS → Prop} {b o g what : Int} (hS : Sim μ) (hb : Nm μ 2 b) (ho : Nm μ 2 o)
    (h : ∀ μ', FW μ μ' → P (some (.inl (tldF (scy (PdC μ b o g) (Wd μ) (Hg μ)) what))) (fs (t, 0, 0) μ')) :
    ∀ (nn y : Nat) (μ' : Mem) (q0 q1 q2 : AV), nn + y = Hg μ → FW μ μ' → SC μ' (scy (PdC μ b o g) (Wd μ) y) → R_44 sc 12 P t 58 [rfc 0 0, .inl b, .inl o, .inl g, .inl what, .inl (y : Int), q0, q1, q2] [] μ' := by
  obtain ⟨w1, w2, w3, w4⟩ := hS.wh
  intro nn
  induction nn with
  | zero =>
    intro y μ' q0 q1 q2 hy hF hC
    have : y = Hg μ := by omega
    subst this
    have e1 := hF.e1
    have b2 := scy_le (PdC μ b o g) w3 (Hg μ)
    exact m_44_58 ⟨fun _ => sp_manyOrFirst hC (by omega) (h μ' hF), fun c => absurd (by rw [e1]; omega) c⟩
  | succ nn ih =>
    intro y μ' q0 q1 q2 hy hF hC
    have e1 := hF.e1
    exact m_44_58 ⟨fun c => absurd c (by rw [e1]; omega), fun _ => L44i hS hb ho (by omega) (fun μ2 q0 q1 q2 F2 C2 => ih (y + 1) μ2 q0 q1 q2 (by omega) F2 C2) (Wd μ) 0 μ' _ _ rfl hF hC⟩
theorem L86i {sc : Scr} {t : Nat} {μ : Mem} {P : Option AV → AS → Prop} {b o g what : Int} {y : Nat} (hS : Sim μ) (hb : Nm μ 2 b) (ho : Nm μ 2 o) (hy : y < Hg μ)
    (h : ∀ μ' q0 q1 q2, FW μ μ' → SMc μ' (scy (PdC μ b o g) (Wd μ) (y + 1)) → R_11086 sc 12 P t 67 [rfc 11 0, .inl b, .inl o, .inl g, .inl what, .inl ((y + 1 : Nat) : Int), q0, q1, q2] [] μ') :
    ∀ (nn x : Nat) (μ' : Mem) (q1 q2 : AV), nn + x = Wd μ → FW μ μ' → SMc μ' (scx (PdC μ b o g) y x (scy (PdC μ b o g) (Wd μ) y)) → R_11086 sc 12 P t 84 [rfc 11 0, .inl b, .inl o, .inl g, .inl what, .inl (y : Int), .inl (x : Int), q1, q2] [] μ' := by
  obtain ⟨w1, w2, w3, w4⟩ := hS.wh
  intro nn
  induction nn with
  | zero =>
    intro x μ' q1 q2 hx hF hC
    have : x = Wd μ := by omega
    subst this
    have e1 := hF.e1
    have S' := hS.fw hF
    have l := S'.1.1
    have ew := S'.2.1.2.2.2.1.1
    unfold liv at l
    unfold lvM at ew
    exact m_11086_84 ⟨by omega, fun _ => ⟨by omega, h μ' _ _ _ hF hC⟩, fun c => absurd (by rw [ew, e1]; omega) c⟩
  | succ nn ih =>
    intro x μ' q1 q2 hx hF hC
    have S' := hS.fw hF
    have e1 := hF.e1
    have S' := hS.fw hF
    have l := S'.1.1
    have ew := S'.2.1.2.2.2.1.1
    unfold liv at l
    unfold lvM at ew
    have hp : Pm μ' (x : Int) (y : Int) := by unfold Pm; rw [e1]; omega
    have nb : (scx (PdC μ b o g) y x (scy (PdC μ b o g) (Wd μ) y)).2 < 1600 := by
      have b1 := scx_le (PdC μ b o g) y (scy (PdC μ b o g) (Wd μ) y) x
      have b2 := scy_le (PdC μ b o g) w3 y
      omega
    have xs : x < 40 := by omega
    have ys : y < 40 := by omega
    have go : ∀ μ2 q1 q2, FW μ' μ2 → SMc μ2 (scx (PdC μ b o g) y (x + 1) (scy (PdC μ b o g) (Wd μ) y)) → R_11086 sc 12 P t 84 [rfc 11 0, .inl b, .inl o, .inl g, .inl what, .inl (y : Int), .inl ((x : Int) + 1), q1, q2] [] μ2 := fun μ2 q1 q2 F2 C2 => ih (x + 1) μ2 q1 q2 (by omega) (hF.trans F2) C2
    refine m_11086_84 ⟨by omega, fun c => absurd c (by rw [ew, e1]; omega), fun _ => ?_⟩
    have hb' := (hF.nm _ _).mpr hb
    have ho' := (hF.nm _ _).mpr ho
    refine sp_ringsAt S'.co S'.gm hb' (S'.pl hp) fun μ2 F2 => sp_ringsAt (S'.fw F2.fw).co (S'.fw F2.fw).gm ((F2.fw.nm _ _).mpr ho') (S'.pl hp) fun μ3 F3 => ?_
    have C3 := (hC.fm F2).fm F3
    have F23 := F2.fw.trans F3.fw
    have b1 := bt_b S'.ga hb' (S'.pl hp)
    have b2 := bt_b S'.ga ho' (S'.pl hp)
    rw [F2.fw.bt S', hF.bt hS, hF.bt hS]
    rw [hF.bt hS] at b1 b2
    have no : ¬ PdC μ b o g x y → R_11086 sc 12 P t 84 [rfc 11 0, .inl b, .inl o, .inl g, .inl what, .inl (y : Int), .inl ((x : Int) + 1), .inl (bt' μ b (x : Int) (y : Int)), .inl (bt' μ o (x : Int) (y : Int))] [] μ3 := by
      intro z
      refine go μ3 _ _ F23 ?_
      unfold scx
      rw [ic_f z]
      exact C3
    have yes : PdC μ b o g x y → RMv sc 12 11071 [rfc 11 0, .inl (x : Int), .inl (y : Int)] (t, 0, 0) μ3 (fun μ9 => (InI ((x : Int) + 1)) ∧ (R_11086 sc 12 P t 84 [rfc 11 0, .inl b, .inl o, .inl g, .inl what, .inl (y : Int), .inl ((x : Int) + 1), .inl (bt' μ b (x : Int) (y : Int)), .inl (bt' μ o (x : Int) (y : Int))] [] μ9)) := by
      intro z
      refine sp_counts xs ys C3 nb fun μ4 F4 C4 => ⟨by omega, go μ4 _ _ (F23.trans F4) ?_⟩
      unfold scx
      rw [ic_t z]
      exact C4
    refine ⟨fun c => ⟨by omega, no fun z => by unfold PdC at z; omega⟩, fun c => ⟨fun c2 => ⟨by omega, no fun z => by unfold PdC at z; omega⟩, fun c2 => ⟨fun c3 => ⟨by omega, fun c4 => ⟨by omega, no fun z => by unfold PdC at z; omega⟩, fun c4 => yes (by unfold PdC; omega)⟩, fun c3 => ⟨by omega, fun c4 => ⟨by omega, no fun z => by unfold PdC at z; omega⟩, fun c4 => yes (by unfold PdC; omega)⟩⟩⟩⟩
theorem L86 {sc : Scr} {t : Nat} {μ : Mem} {P : Option AV → AS → Prop} {b o g what : Int} (hS : Sim μ) (hb : Nm μ 2 b) (ho : Nm μ 2 o)
    (h : ∀ μ', FW μ μ' → P (some (.inl (tldF (scy (PdC μ b o g) (Wd μ) (Hg μ)) what))) (fs (t, 0, 0) μ')) :
    ∀ (nn y : Nat) (μ' : Mem) (q0 q1 q2 : AV), nn + y = Hg μ → FW μ μ' → SMc μ' (scy (PdC μ b o g) (Wd μ) y) → R_11086 sc 12 P t 67 [rfc 11 0, .inl b, .inl o, .inl g, .inl what, .inl (y : Int), q0, q1, q2] [] μ' := by
  obtain ⟨w1, w2, w3, w4⟩ := hS.wh
  intro nn
  induction nn with
  | zero =>
    intro y μ' q0 q1 q2 hy hF hC
    have : y = Hg μ := by omega
    subst this
    have e1 := hF.e1
    have b2 := scy_le (PdC μ b o g) w3 (Hg μ)
    have S' := hS.fw hF
    have l := S'.1.1
    have ew := S'.2.1.2.2.2.2.1
    unfold liv at l
    unfold lvM at ew
    exact m_11086_67 ⟨by omega, fun _ => sp_told hC (h μ' hF), fun c => absurd (by rw [ew, e1]; omega) c⟩
  | succ nn ih =>
    intro y μ' q0 q1 q2 hy hF hC
    have e1 := hF.e1
    have S' := hS.fw hF
    have l := S'.1.1
    have ew := S'.2.1.2.2.2.2.1
    unfold liv at l
    unfold lvM at ew
    exact m_11086_67 ⟨by omega, fun c => absurd c (by rw [ew, e1]; omega), fun _ => L86i hS hb ho (by omega) (fun μ2 q0 q1 q2 F2 C2 => ih (y + 1) μ2 q0 q1 q2 (by omega) F2 C2) (Wd μ) 0 μ' _ _ rfl hF hC⟩
noncomputable def F_cross (b o g what : Int) (μ : Mem) : Int := ic (Nm μ 2 b ∧ Nm μ 2 o ∧ b ≠ o ∧ 0 ≤ g ∧ (0 ≤ what ∧ what ≤ 1)) (tldF (scy (PdC μ b o g) (Wd μ) (Hg μ)) what) (-1)
theorem p_cross {sc : Scr} {t : Nat} {μ : Mem} {b o g what : Int} (hS : Sim μ) : PR sc t μ 44 11086 [.inl b, .inl o, .inl g, .inl what] := by
  refine PR_of (F_cross b o g what) hS (fun μ1 F1 => ?_) (fun μ Q hS h => ?_) (fun μ Q hS h => ?_)
  · unfold F_cross Wd Hg Nm
    rw [F1.e1, F1.1 3 (by unfold Kp; omega)]
    congr 2
    refine scy_c fun x y _ _ => ?_
    unfold PdC
    rw [F1.bt hS, F1.bt hS]
  · unfold F_cross at h
    have no : ¬ (Nm μ 2 b ∧ Nm μ 2 o ∧ b ≠ o ∧ 0 ≤ g ∧ (0 ≤ what ∧ what ≤ 1)) → Q (-1) μ := by
      intro z
      rw [ic_f z] at h
      exact h _ FW.rfl
    refine m_44 (sp_has (N := 6) rfl hS.2.2.1.2.2.1.c6 (fun hb => ⟨fun z => absurd z (by decide), fun _ => sp_has (N := 6) rfl hS.2.2.1.2.2.1.c6 (fun ho => ⟨fun z => absurd z (by decide), fun _ => ⟨fun c => no fun z => z.2.2.1 c, fun c => ⟨fun c3 => no fun z => by have := z.2.2.2.1; omega, fun c3 => sp_is01 (fun c2 => ⟨fun _ => ?_, fun z => absurd (by decide) z⟩) (fun c2 => ⟨fun z => absurd rfl z, fun _ => no fun z => c2 z.2.2.2.2⟩)⟩⟩⟩) (fun ho => ⟨fun _ => no fun z => ho z.2.1, fun z => absurd rfl z⟩)⟩) (fun hb => ⟨fun _ => no fun z => hb z.1, fun z => absurd rfl z⟩))
    rw [ic_t ⟨hb, ho, c, by omega, c2⟩] at h
    exact L44 hS hb ho (fun μ' F => PI_mk (h μ' F)) (Hg μ) 0 _ _ _ _ rfl (FW.w (by unfold Kp; omega)) ⟨wr_same _ _ _ _ _, fun i hi => absurd hi (by unfold scy; simp)⟩
  · unfold F_cross at h
    have no : ¬ (Nm μ 2 b ∧ Nm μ 2 o ∧ b ≠ o ∧ 0 ≤ g ∧ (0 ≤ what ∧ what ≤ 1)) → Q (-1) μ := by
      intro z
      rw [ic_f z] at h
      exact h _ FW.rfl
    have l := hS.1.1
    have k1 := hS.2.2.1.2.2.1.1
    have k2 := hS.2.2.1.2.2.1.2.1
    unfold liv at l
    unfold lvM at k1
    refine m_11086 ⟨by omega, by omega, ?_⟩
    rw [k1]
    refine sp_in (fun hb => ⟨fun z => absurd z (by decide), fun _ => ⟨by omega, by omega, sp_in (fun ho => ⟨fun z => absurd z (by decide), fun _ => ⟨fun c => no fun z => z.2.2.1 c, fun c => ⟨fun c3 => no fun z => by have := z.2.2.2.1; omega, fun c3 => sp_in (fun c2 => ⟨fun _ => ?_, fun z => absurd (by decide) z⟩) (fun c2 => ⟨fun z => absurd rfl z, fun _ => no fun z => c2 z.2.2.2.2⟩)⟩⟩⟩) (fun ho => ⟨fun _ => no fun z => ho (by have := z.2.1; omega), fun z => absurd rfl z⟩)⟩⟩) (fun hb => ⟨fun _ => no fun z => hb (by have := z.1; omega), fun z => absurd rfl z⟩)
    rw [ic_t ⟨by omega, by omega, c, by omega, c2⟩] at h
    exact L86 hS (by omega) (by omega) (fun μ' F => PI_mk (h μ' F)) (Hg μ) 0 _ _ _ _ rfl (FW.w11 (by decide)) ⟨wr_same _ _ _ _ _, fun z => absurd rfl z⟩
