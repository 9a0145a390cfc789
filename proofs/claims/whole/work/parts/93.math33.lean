/-! MATHEMATICS, 33: heard, drowned -/
theorem PR_of {sc : Scr} {t : Nat} {μ : Mem} {j jm : Nat} {as : List AV} (F : Mem → Int) (hS : Sim μ) (hF : ∀ μ1, FW μ μ1 → F μ1 = F μ) (hc : ∀ (μ : Mem) (Q : Int → Mem → Prop), Sim μ → (∀ μ', FW μ μ' → Q (F μ) μ') → RMi sc 13 j (rfc 0 0 :: as) (t, 0, 0) μ Q) (hm : ∀ (μ : Mem) (Q : Int → Mem → Prop), Sim μ → (∀ μ', FW μ μ' → Q (F μ) μ') → RMi sc 13 jm (rfc 11 0 :: as) (t, 0, 0) μ Q) : PR sc t μ j jm as :=
  hc μ _ hS fun μ1 F1 => hm μ1 _ (hS.fw F1) fun μ2 F2 => ⟨(hF μ1 F1).symm, (hS.fw F1).fw F2⟩
theorem sp_has {sc : Scr} {d t : Nat} {μ : Mem} {Q : Int → Mem → Prop} {i : Int} {o N : Nat} (e : slen 27 o = N) (hN : μ 3 o 4 ≤ (N : Int)) (h1 : 0 ≤ i ∧ i < μ 3 o 4 → Q 1 μ) (h0 : ¬ (0 ≤ i ∧ i < μ 3 o 4) → Q 0 μ) : RMi sc (d + 1) 3002 [rfc 3 o, .inl i] (t, 0, 0) μ Q :=
  m_3002 ⟨fun c => h0 (by omega), fun c => ⟨fun c2 => h0 (by omega), fun c2 => ⟨fun c3 => h0 (by omega), fun c3 => h1 (by omega)⟩⟩⟩
theorem sp_xAt {sc : Scr} {d t : Nat} {μ : Mem} {Q : Int → Mem → Prop} {i : Int} {o N : Nat} (e : slen 27 o = N) (hN : μ 3 o 4 ≤ (N : Int)) (hi : 0 ≤ i ∧ i < μ 3 o 4) (h : Q (μ 27 o i.toNat) μ) : RMi sc (d + 2) 3003 [rfc 3 o, .inl i] (t, 0, 0) μ Q :=
  m_3003 (sp_has e hN (fun _ => ⟨fun z => absurd z (by decide), fun _ => ⟨by omega, h⟩⟩) (fun c => absurd hi c))
theorem sp_yAt {sc : Scr} {d t : Nat} {μ : Mem} {Q : Int → Mem → Prop} {i : Int} {o N : Nat} (e : slen 27 o = N) (e2 : slen 28 o = N) (hN : μ 3 o 4 ≤ (N : Int)) (hi : 0 ≤ i ∧ i < μ 3 o 4) (h : Q (μ 28 o i.toNat) μ) : RMi sc (d + 2) 3004 [rfc 3 o, .inl i] (t, 0, 0) μ Q :=
  m_3004 (sp_has e hN (fun _ => ⟨fun z => absurd z (by decide), fun _ => ⟨by omega, h⟩⟩) (fun c => absurd hi c))
theorem sp_lAt {sc : Scr} {d t : Nat} {μ : Mem} {Q : Int → Mem → Prop} {i : Int} {o N : Nat} (e : slen 27 o = N) (e2 : slen 29 o = N) (hN : μ 3 o 4 ≤ (N : Int)) (hi : 0 ≤ i ∧ i < μ 3 o 4) (h : Q (μ 29 o i.toNat) μ) : RMi sc (d + 2) 3005 [rfc 3 o, .inl i] (t, 0, 0) μ Q :=
  m_3005 (sp_has e hN (fun _ => ⟨fun z => absurd z (by decide), fun _ => ⟨by omega, h⟩⟩) (fun c => absurd hi c))
theorem sp_tAt {sc : Scr} {d t : Nat} {μ : Mem} {Q : Int → Mem → Prop} {i : Int} {o N : Nat} (e : slen 27 o = N) (e2 : slen 30 o = N) (hN : μ 3 o 4 ≤ (N : Int)) (hi : 0 ≤ i ∧ i < μ 3 o 4) (h : Q (μ 30 o i.toNat) μ) : RMi sc (d + 2) 3006 [rfc 3 o, .inl i] (t, 0, 0) μ Q :=
  m_3006 (sp_has e hN (fun _ => ⟨fun z => absurd z (by decide), fun _ => ⟨by omega, h⟩⟩) (fun c => absurd hi c))
abbrev Nm (μ : Mem) (o : Nat) (i : Int) : Prop := 0 ≤ i ∧ i < μ 3 o 4
theorem sp_isMan {sc : Scr} {d t : Nat} {μ : Mem} {Q : Int → Mem → Prop} {i : Int} (hl : liv μ) (hF : SF μ) (h1 : Nm μ 0 i → Q 1 μ) (h0 : ¬ Nm μ 0 i → Q 0 μ) : RMi sc (d + 2) 11061 [rfc 11 0, .inl i] (t, 0, 0) μ Q := by
  have a := hF.1.1
  have b := hF.1.2.1
  unfold liv at hl
  unfold lvM at a
  exact m_11061 ⟨by omega, by omega, sp_in (fun c => ⟨Or.inr rfl, h1 (by omega)⟩) (fun c => ⟨Or.inl rfl, h0 (by omega)⟩)⟩
theorem sp_isEar {sc : Scr} {d t : Nat} {μ : Mem} {Q : Int → Mem → Prop} {i : Int} (hl : liv μ) (hF : SF μ) (h1 : Nm μ 1 i → Q 1 μ) (h0 : ¬ Nm μ 1 i → Q 0 μ) : RMi sc (d + 2) 11062 [rfc 11 0, .inl i] (t, 0, 0) μ Q := by
  have a := hF.2.1.1
  have b := hF.2.1.2.1
  unfold liv at hl
  unfold lvM at a
  exact m_11062 ⟨by omega, by omega, sp_in (fun c => ⟨Or.inr rfl, h1 (by omega)⟩) (fun c => ⟨Or.inl rfl, h0 (by omega)⟩)⟩
theorem Fk.at {μ : Mem} {o cm cx cy : Nat} (h : Fk μ o cm cx cy) {i : Int} (hi : Nm μ o i) : μ cx 0 ((6 * (μ 11 0 18)) + i).toNat = μ 27 o i.toNat ∧ μ cy 0 ((6 * (μ 11 0 18)) + i).toNat = μ 28 o i.toNat ∧ Pm μ (μ 27 o i.toNat) (μ 28 o i.toNat) := by
  obtain ⟨n, rfl⟩ := Int.eq_ofNat_of_zero_le hi.1
  obtain ⟨⟨a, b⟩, c, d⟩ := h.2.2 n hi.2
  rw [Int.toNat_natCast]
  exact ⟨a.symm, b.symm, c, d⟩
theorem SF.ml {μ : Mem} (h : SF μ) {i : Int} (hi : Nm μ 0 i) : μ 58 0 ((6 * (μ 11 0 18)) + i).toNat = μ 29 0 i.toNat ∧ Ld (μ 29 0 i.toNat) := by
  obtain ⟨n, rfl⟩ := Int.eq_ofNat_of_zero_le hi.1
  obtain ⟨a, b⟩ := h.2.2.2.1 n hi.2
  rw [Int.toNat_natCast]
  exact ⟨a.symm, b⟩
theorem SF.bl {μ : Mem} (h : SF μ) {i : Int} (hi : Nm μ 2 i) : μ 29 2 i.toNat = 99 ∧ μ 65 0 ((6 * (μ 11 0 18)) + i).toNat = μ 30 2 i.toNat ∧ (0 ≤ μ 30 2 i.toNat ∧ μ 30 2 i.toNat ≤ 9999) := by
  obtain ⟨n, rfl⟩ := Int.eq_ofNat_of_zero_le hi.1
  obtain ⟨a, b, c⟩ := h.2.2.2.2 n hi.2
  rw [Int.toNat_natCast]
  exact ⟨a, b.symm, c⟩
theorem Fk.c6 {μ : Mem} {o cm cx cy : Nat} (h : Fk μ o cm cx cy) : μ 3 o 4 ≤ ((6 : Nat) : Int) := by
  have := h.2.1
  omega
noncomputable abbrev HL (μ : Mem) (m e : Int) : Lst := RT μ (μ 29 0 m.toNat) (μ 27 0 m.toNat) (μ 28 0 m.toNat) (μ 27 1 e.toNat) (μ 28 1 e.toNat)
theorem sp_spanFrom {sc : Scr} {d t : Nat} {μ : Mem} {Q : Mem → Prop} {m e : Int} (hF : SF μ) (hm : Nm μ 0 m) (he : Nm μ 1 e) (h : ∀ μ', F8 μ μ' → Spn μ' (μ 27 0 m.toNat) (μ 28 0 m.toNat) (μ 27 1 e.toNat) (μ 28 1 e.toNat) → Q μ') : RMv sc (d + 3) 22 [rfc 0 0, .inl m, .inl e] (t, 0, 0) μ Q :=
  m_22 (sp_xAt (N := 6) rfl hF.1.c6 hm (sp_yAt (N := 6) rfl rfl hF.1.c6 hm (sp_xAt (N := 6) rfl hF.2.1.c6 he (sp_yAt (N := 6) rfl rfl hF.2.1.c6 he (sp_span h)))))
/-- folk and land for lists: what gathering from a man to an ear wants -/
def GA (μ : Mem) : Prop := CO μ ∧ SF μ ∧ (μ 1 0 5 ≤ 40 ∧ μ 1 0 6 ≤ 40)
theorem Sim.ga {μ : Mem} (h : Sim μ) : GA μ := ⟨h.co, h.2.2.1, h.2.1.2.2.2.1.2.2, h.2.1.2.2.2.2.2.2⟩
theorem GA.pl {μ : Mem} (h : GA μ) {x y : Int} (p : Pm μ x y) : Pl x y := by
  have := h.2.2
  omega
theorem sp_gatherFrom {sc : Scr} {d t : Nat} {μ : Mem} {Q : Mem → Prop} {m e : Int} (hG : GA μ) (hm : Nm μ 0 m) (he : Nm μ 1 e) (h : ∀ μ', FW μ μ' → F8 μ μ' ∨ Fc μ μ' ∨ True → LCl μ' (HL μ m e) → (∀ c, c ≠ 7 → c ≠ 5 → ¬ (31 ≤ c ∧ c ≤ 34) → μ' c = μ c) → Q μ') : RMv sc (d + 5) 21 [rfc 0 0, .inl m, .inl e] (t, 0, 0) μ Q := by
  have hF := hG.2.1
  refine m_21 (sp_spanFrom hF hm he fun μ1 F1 s1 => ?_)
  have e3 : μ1 3 = μ 3 := F1.c (by decide)
  have e9 : μ1 9 = μ 9 := F1.c (by decide)
  have e1 : μ1 1 = μ 1 := F1.c (by decide)
  have e29 : μ1 29 = μ 29 := F1.c (by decide)
  refine sp_lAt (N := 6) rfl rfl (by rw [e3]; exact hF.1.c6) (by rw [e3]; exact hm) (sp_gather (hG.1.f8 F1) (hG.pl (hF.1.at hm).2.2) (hG.pl (hF.2.1.at he).2.2) s1 (by rw [e29]; exact (hF.ml hm).2.b) fun μ2 F2 L2 => ?_)
  rw [e9, e1, e29] at L2
  refine h μ2 (F1.fw.trans F2.fw) (Or.inr (Or.inr trivial)) L2 fun c h7 h5 h3 => ?_
  rw [F2.c h7 h5 h3, F1.c h7]
theorem GA.tb {μ : Mem} (hG : GA μ) {m e : Int} (hm : Nm μ 0 m) (he : Nm μ 1 e) : Tb (HL μ m e) := hG.1.tb (hG.pl (hG.2.1.1.at hm).2.2) (hG.pl (hG.2.1.2.1.at he).2.2)
theorem sp_heardApart {sc : Scr} {d t : Nat} {μ : Mem} {Q : Int → Mem → Prop} {m e : Int} (hG : GA μ) (hm : Nm μ 0 m) (he : Nm μ 1 e) (h : ∀ μ', FW μ μ' → (∀ c, c ≠ 7 → c ≠ 5 → ¬ (31 ≤ c ∧ c ≤ 34) → μ' c = μ c) → Q (apart (HL μ m e) (μ 1 0 9)) μ') : RMi sc (d + 6) 20 [rfc 0 0, .inl m, .inl e] (t, 0, 0) μ Q := by
  refine m_20 (sp_gatherFrom hG hm he fun μ1 F1 _ L1 K1 => sp_apart L1 (hG.tb hm he) ?_)
  rw [K1 1 (by decide) (by decide) (by decide)]
  exact h μ1 F1 K1
/-- the same in the reference -/
def GM (μ : Mem) : Prop := MO μ ∧ SF μ ∧ (μ 1 0 5 ≤ 40 ∧ μ 1 0 6 ≤ 40) ∧ ∀ s x y u v, rets (gM μ) (μ 11 0 48) (fallM μ) s x y u v = RT μ s x y u v
theorem Sim.gm {μ : Mem} (h : Sim μ) : GM μ := ⟨h.mo, h.2.2.1, h.ga.2.2, h.rets⟩
theorem sp_fillHeard {sc : Scr} {d t : Nat} {μ : Mem} {Q : Mem → Prop} {m e : Int} (hG : GM μ) (hm : Nm μ 0 m) (he : Nm μ 1 e) (h : ∀ μ', Fm 49 μ μ' → LMl μ' (HL μ m e) → Q μ') : RMv sc (d + 6) 11063 [rfc 11 0, .inl m, .inl e] (t, 0, 0) μ Q := by
  have hF := hG.2.1
  have w := hG.2.2.1
  have l := hG.1.1.1
  unfold liv at l
  have c1 := hF.1.2.1
  have c2 := hF.2.1.2.1
  obtain ⟨a1, a2, a3⟩ := hF.1.at hm
  obtain ⟨b1, b2, b3⟩ := hF.2.1.at he
  obtain ⟨d1, d2⟩ := hF.ml hm
  refine m_11063 ?_
  rw [a1, a2, b1, b2, d1]
  refine ⟨by omega, by omega, by omega, by omega, by omega, by omega, by omega, by omega, by omega, by omega, by omega, by omega, by omega, by omega, by omega, ?_⟩
  refine sp_fills hG.1 (by omega) (by omega) d2.b fun μ1 F1 L1 => h μ1 F1 ?_
  rw [hG.2.2.2] at L1
  exact L1
theorem Sim.gap {μ : Mem} (h : Sim μ) : μ 70 0 (μ 11 0 18).toNat = μ 1 0 9 := h.2.1.2.2.1.1
noncomputable def F_heard (m e : Int) (μ : Mem) : Int := ic (Nm μ 0 m ∧ Nm μ 1 e) (apart (HL μ m e) (μ 1 0 9)) (-1)
noncomputable def F_drown (m e : Int) (μ : Mem) : Int := ic (Nm μ 0 m ∧ Nm μ 1 e) (drc (HL μ m e) (μ 1 0 9)) (-1)
theorem FW.hl {μ μ' : Mem} (h : FW μ μ') (hS : Sim μ) (m e : Int) : HL μ' m e = HL μ m e := by
  unfold HL
  rw [h.rt hS, h.1 27 (by unfold Kp; omega), h.1 28 (by unfold Kp; omega), h.1 29 (by unfold Kp; omega)]
theorem FW.nm {μ μ' : Mem} (h : FW μ μ') (o : Nat) (i : Int) : Nm μ' o i ↔ Nm μ o i := by
  unfold Nm
  rw [h.1 3 (by unfold Kp; omega)]
theorem p_heard {sc : Scr} {t : Nat} {μ : Mem} {m e : Int} (hS : Sim μ) : PR sc t μ 19 11060 [.inl m, .inl e] := by
  refine PR_of (F_heard m e) hS (fun μ1 F1 => ?_) (fun μ Q hS h => ?_) (fun μ Q hS h => ?_)
  · unfold F_heard Nm
    rw [F1.hl hS, F1.1 1 (by unfold Kp; omega), F1.1 3 (by unfold Kp; omega)]
  · unfold F_heard at h
    have hF := hS.2.2.1
    refine m_19 (sp_has (N := 6) rfl hF.1.c6 (fun hm => ⟨fun z => absurd z (by decide), fun _ => sp_has (N := 6) rfl hF.2.1.c6 (fun he => ⟨fun _ => sp_heardApart hS.ga hm he fun μ1 F1 _ => ?_, fun z => absurd (by decide) z⟩) (fun he => ⟨fun z => absurd rfl z, fun _ => ?_⟩)⟩) (fun hm => ⟨fun _ => ?_, fun z => absurd rfl z⟩))
    · rw [ic_t ⟨hm, he⟩] at h
      exact h μ1 F1
    · rw [ic_f fun z => he z.2] at h
      exact h _ FW.rfl
    · rw [ic_f fun z => hm z.1] at h
      exact h _ FW.rfl
  · unfold F_heard at h
    have hF := hS.2.2.1
    refine m_11060 (sp_isMan hS.1.1 hF (fun hm => ⟨fun z => absurd z (by decide), fun _ => sp_isEar hS.1.1 hF (fun he => ⟨fun _ => sp_fillHeard hS.gm hm he fun μ1 F1 L1 => sp_heardNow (gap := μ 1 0 9) ?_ ?_ L1 (hS.ga.tb hm he) ?_, fun z => absurd (by decide) z⟩) (fun he => ⟨fun z => absurd rfl z, fun _ => ?_⟩)⟩) (fun hm => ⟨fun _ => ?_, fun z => absurd rfl z⟩))
    · exact (hS.mo.fm F1 (by decide)).1.1
    · rw [F1.c (c := 70) (by decide) (by decide), F1.f (k := 18) (by decide)]
      exact hS.gap
    · rw [ic_t ⟨hm, he⟩] at h
      exact h μ1 F1.fw
    · rw [ic_f fun z => he z.2] at h
      exact h _ FW.rfl
    · rw [ic_f fun z => hm z.1] at h
      exact h _ FW.rfl
theorem p_drowned {sc : Scr} {t : Nat} {μ : Mem} {m e : Int} (hS : Sim μ) : PR sc t μ 23 11066 [.inl m, .inl e] := by
  refine PR_of (F_drown m e) hS (fun μ1 F1 => ?_) (fun μ Q hS h => ?_) (fun μ Q hS h => ?_)
  · unfold F_drown Nm
    rw [F1.hl hS, F1.1 1 (by unfold Kp; omega), F1.1 3 (by unfold Kp; omega)]
  · unfold F_drown at h
    have hF := hS.2.2.1
    refine m_23 (sp_has (N := 6) rfl hF.1.c6 (fun hm => ⟨fun z => absurd z (by decide), fun _ => sp_has (N := 6) rfl hF.2.1.c6 (fun he => ⟨fun _ => sp_gatherFrom hS.ga hm he fun μ1 F1 _ L1 K1 => sp_drc L1 (hS.ga.tb hm he) ?_, fun z => absurd (by decide) z⟩) (fun he => ⟨fun z => absurd rfl z, fun _ => ?_⟩)⟩) (fun hm => ⟨fun _ => ?_, fun z => absurd rfl z⟩))
    · rw [ic_t ⟨hm, he⟩] at h
      rw [K1 1 (by decide) (by decide) (by decide)]
      exact h μ1 F1
    · rw [ic_f fun z => he z.2] at h
      exact h _ FW.rfl
    · rw [ic_f fun z => hm z.1] at h
      exact h _ FW.rfl
  · unfold F_drown at h
    have hF := hS.2.2.1
    refine m_11066 (sp_isMan hS.1.1 hF (fun hm => ⟨fun z => absurd z (by decide), fun _ => sp_isEar hS.1.1 hF (fun he => ⟨fun _ => sp_fillHeard hS.gm hm he fun μ1 F1 L1 => L11066 (gap := μ 1 0 9) ?_ ?_ L1 (hS.ga.tb hm he) ?_ _ 0 0 rfl (by omega) rfl, fun z => absurd (by decide) z⟩) (fun he => ⟨fun z => absurd rfl z, fun _ => ?_⟩)⟩) (fun hm => ⟨fun _ => ?_, fun z => absurd rfl z⟩))
    · exact (hS.mo.fm F1 (by decide)).1.1
    · rw [F1.c (c := 70) (by decide) (by decide), F1.f (k := 18) (by decide)]
      exact hS.gap
    · rw [ic_t ⟨hm, he⟩] at h
      exact PI_mk (h μ1 F1.fw)
    · rw [ic_f fun z => he z.2] at h
      exact h _ FW.rfl
    · rw [ic_f fun z => hm z.1] at h
      exact h _ FW.rfl
