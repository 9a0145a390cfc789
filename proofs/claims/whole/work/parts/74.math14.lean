/-! MATHEMATICS, 14: makes of the reference, by one wall -/
theorem Lmk {sc : Scr} {d t : Nat} {μ : Mem} {P : Option AV → AS → Prop} {w : Wy} {a p : Nat} {x1 x2 x4 : Int} (hp : p = 2 ∨ p = 3) (hM : MOK μ) (hW : Way μ w) (hw : Wbd w) (ha : a < 9) (ga : gok (gM μ) a) (e56 : μ 11 0 56 = (a : Int)) (e57 : μ 11 0 57 = x4)
    (h0 : ¬ Hit (wl (gM μ) a) w 0 1 1 1 → ∀ μ', FK μ μ' → P (some (.inl 0)) (fs (t, 0, 0) μ'))
    (h1 : Hit (wl (gM μ) a) w 0 1 1 1 → ∀ μ', FK μ μ' → Way μ' w → μ' 11 0 55 = (p : Int) → μ' 11 0 56 = (a : Int) → μ' 11 0 57 = x4 → Beg μ' 0 0 1 → Beg μ' p 1 1 → Beg μ' 1 (cUp (wl (gM μ) a) w) (cLow (wl (gM μ) a) w) → R_11039 sc (d + 2) P t 117 [rfc 11 0, .inl x1, .inl x2, .inl (a : Int), .inl x4, vx, vx] [] μ') :
    R_11039 sc (d + 2) P t 53 [rfc 11 0, .inl x1, .inl x2, .inl (a : Int), .inl x4, vx, vx] [.inl (p : Int), rfc 11 0] μ := by
  have FA : FMp 55 55 μ (wr μ 11 0 55 (p : Int)) := FMp.w1 (by decide)
  refine m_11039_53 (sp_begins (i := 0) (by decide) fun μ1 F1 B0 => ?_)
  have e55 : μ1 11 0 55 = (p : Int) := by rw [F1.f, wr_same]
  rw [e55]
  refine sp_begins (i := p) (by omega) fun μ2 F2 Bp => ⟨fun c => absurd c (by omega), fun _ => ?_⟩
  have B0' : Beg μ2 0 0 1 := F2.beg B0 (by omega)
  have F : FK μ μ2 := ((FA.k (by decide) (by decide)).trans F1.k).trans F2.k
  have eg := F.g
  have hM2 := F.mok hM
  have hW2 : Way μ2 w := Way.fb (Way.fb (hW.fr FA (by decide)) F1) F2
  have e55' : μ2 11 0 55 = (p : Int) := by rw [F2.f, e55]
  have e56' : μ2 11 0 56 = (a : Int) := by rw [F2.f, F1.f, wr_k (by decide), e56]
  have e57' : μ2 11 0 57 = x4 := by rw [F2.f, F1.f, wr_k (by decide), e57]
  refine sp_takes hM2.1 ha (by rw [eg]; exact ga) fun μ3 F3 hL => ?_
  rw [eg] at hL
  have lb : Lbd (wl (gM μ) a) := (Lb_wl ga).to (by decide)
  refine sp_crosses hL lb (hW2.fr F3 (by decide)) hw (fun on μ4 F4 eu el => ⟨fun c => absurd c (by decide), fun _ => ?_⟩) (fun on μ4 F4 => ⟨fun _ => h0 (fun z => on z.1) μ4 ((F.trans (F3.k (by decide) (by decide))).trans (F4.k (by decide) (by decide))), fun c => absurd rfl c⟩)
  have F34 := (F3.mono (by decide) (by decide)).trans F4
  have f34 := F.trans (F34.k (by decide) (by decide))
  rw [F34.f (k := 55) (by decide), e55']
  refine sp_within (i := 0) (j := p) (by decide) (by omega) eu el lb hw on.1 (F34.beg B0') (F34.beg Bp) (by decide) (by decide) (fun inn => ⟨fun _ => ?_, fun c => absurd (by decide) c⟩) (fun inn => ⟨fun c => absurd rfl c, fun _ => h0 (fun z => inn z.2) μ4 f34⟩)
  rw [eu, el]
  refine sp_begins (i := 1) (by decide) fun μ5 F5 B1 => ?_
  refine h1 ⟨on, inn⟩ μ5 (f34.trans F5.k) (Way.fb (hW2.fr F34 (by decide)) F5) ?_ ?_ ?_ (F5.beg (F34.beg B0') (by decide)) (F5.beg (F34.beg Bp) (by omega)) B1
  · rw [F5.f, F34.f (by decide), e55']
  · rw [F5.f, F34.f (by decide), e56']
  · rw [F5.f, F34.f (by decide), e57']
/-- the way by a wall -/
def wy1 (g : Nat → Nat → Int) (px py qx qy : Int) (a : Nat) : Wy := ⟨px, py, lyX g a qx, lyY g a qy⟩
abbrev Pl (x y : Int) : Prop := (0 ≤ x ∧ x ≤ 39) ∧ (0 ≤ y ∧ y ≤ 39)
theorem ly_bd1 {g : Nat → Nat → Int} {a : Nat} {x y : Int} (ga : gok g a) (h : -39 ≤ x ∧ x ≤ 237) (h' : -39 ≤ y ∧ y ≤ 237) : (-435 ≤ lyX g a x ∧ lyX g a x ≤ 435) ∧ (-435 ≤ lyY g a y ∧ lyY g a y ≤ 435) := by
  have := ga.2.1
  unfold lyX lyY
  split <;> omega
theorem ly_bd0 {g : Nat → Nat → Int} {a : Nat} {x y : Int} (ga : gok g a) (h : Pl x y) : (-39 ≤ lyX g a x ∧ lyX g a x ≤ 237) ∧ (-39 ≤ lyY g a y ∧ lyY g a y ≤ 237) := by
  have := ga.2.1
  unfold lyX lyY
  split <;> omega
theorem wy1_bd {g : Nat → Nat → Int} {px py qx qy : Int} {a : Nat} (ga : gok g a) (hp : Pl px py) (hq : Pl qx qy) : Wbd (wy1 g px py qx qy a) := by
  have q1 := hq.1
  have q2 := hq.2
  have := ly_bd1 (x := qx) (y := qy) ga (by omega) (by omega)
  exact ⟨hp.1, hp.2, this.1, this.2⟩
theorem cross_pos {L : Ln} {w : Wy} (hb : Lbd L) (hw : Wbd w) (h : cOn L w) : Ubd (cUp L w) (cLow L w) := ⟨cUp_bd hb hw, cLow_pos h.1, cLow_bd hw⟩
theorem sp_makes1 {sc : Scr} {d t : Nat} {μ : Mem} {Q : Int → Mem → Prop} {px py qx qy : Int} {a : Nat} (hM : MOK μ) (ha : a < 9) (ta : gM μ a 5 ≠ 0) (hp : Pl px py) (hq : Pl qx qy) (ex : μ 11 0 49 = px) (ey : μ 11 0 50 = py)
    (h1 : Op1 (gM μ) (wy1 (gM μ) px py qx qy a) a → ∀ μ', FK μ μ' → Way μ' (wy1 (gM μ) px py qx qy a) → μ' 11 0 56 = (a : Int) → μ' 11 0 57 = -1 → Beg μ' 1 (cUp (wl (gM μ) a) (wy1 (gM μ) px py qx qy a)) (cLow (wl (gM μ) a) (wy1 (gM μ) px py qx qy a)) → Q 1 μ') (h0 : ¬ Op1 (gM μ) (wy1 (gM μ) px py qx qy a) a → ∀ μ', FK μ μ' → Q 0 μ') :
    RMi sc (d + 3) 11039 [rfc 11 0, .inl qx, .inl qy, .inl (a : Int), .inl (-1)] (t, 0, 0) μ Q := by
  have ga := hM.2.2.2 a ha ta
  have FW : FMp 51 52 μ (wr (wr μ 11 0 51 qx) 11 0 52 qy) := FMp.trans (FMp.w1 (by decide)) (FMp.w1 (by decide))
  have hM1 := FW.mok (by decide) hM
  have eg1 := FW.g (by decide)
  have hq1 := hq.1
  have hq2 := hq.2
  refine m_11039 (sp_img0 (sp_img (x := qx) (y := qy) hM1.1 ha (by rw [eg1]; exact ga) (by rw [wr_k (by decide), wr_same]) (wr_same _ _ _ _ _) (by omega) (by omega) fun μ2 F2 i1 i2 => ⟨fun _ => ⟨fun c => absurd rfl c, fun _ => ?_⟩, fun c => absurd (by omega) c⟩))
  rw [eg1] at i1 i2
  have F2' := FW.trans F2
  have F3 : FMp 56 57 μ2 (wr (wr μ2 11 0 56 (a : Int)) 11 0 57 (-1)) := FMp.trans (FMp.w1 (by decide)) (FMp.w1 (by decide))
  have F : FK μ (wr (wr μ2 11 0 56 (a : Int)) 11 0 57 (-1)) := (F2'.k (by decide) (by decide)).trans (F3.k (by decide) (by decide))
  have eg := F.g
  have hw := wy1_bd (g := gM μ) ga hp hq
  have hW : Way (wr (wr μ2 11 0 56 (a : Int)) 11 0 57 (-1)) (wy1 (gM μ) px py qx qy a) := by
    unfold Way
    rw [F3.f (by decide), F3.f (by decide), F3.f (by decide), F3.f (by decide), F2'.f (k := 49) (by decide), F2'.f (k := 50) (by decide)]
    exact ⟨ex, ey, i1, i2⟩
  refine Lmk (p := 2) (w := wy1 (gM μ) px py qx qy a) (Or.inl rfl) (F.mok hM) hW hw ha (by rw [eg]; exact ga) (by rw [wr_k (by decide), wr_same]) (wr_same _ _ _ _ _) ?_ ?_
  · rw [eg]
    exact fun hn μ' hF => PI_mk (h0 (fun z => hn z.1) μ' (F.trans hF))
  rw [eg]
  intro hit μ4 F4 W4 e55 e56 e57 B0 B2 B1
  have F' := F.trans F4
  have eg4 := F'.g
  have hM4 := F'.mok hM
  have ub := cross_pos (L := wl (gM μ) a) ((Lb_wl ga).to (by decide)) hw hit.1
  refine m_11039_117 ⟨fun _ => ?_, fun c => absurd rfl c⟩
  refine m_11039_171 ⟨fun c => absurd c (by omega), fun _ => ?_⟩
  refine L11039_183 (k := 0) (H := fun k => Hit (wl (gM μ) k) (wy1 (gM μ) px py qx qy a) 0 1 (cUp (wl (gM μ) a) (wy1 (gM μ) px py qx qy a)) (cLow (wl (gM μ) a) (wy1 (gM μ) px py qx qy a))) hM4 (by decide) (fun k μ' Q' hk h5 hF q1 q0 => ?_) (fun hex μ' hF => PI_mk (h0 (fun z => ?_) μ' (F'.trans (hF.k (by decide) (by decide))))) (fun hall μ5 q6 F5 => ?_) 9 0 μ4 rfl FMp.rfl (fun k hk => absurd hk (Nat.not_lt_zero _))
  · have hg := (hF.mok (by decide) hM4).2.2.2 k hk (by rw [hF.g (by decide)]; exact h5)
    have eg2 : gM μ' = gM μ := (hF.g (by decide)).trans eg4
    refine sp_blocked0 (hF.mok (by decide) hM4).1 hk hg (W4.fr hF (by decide)) hw (hF.beg B0) (hF.beg B1) (by decide) ub ?_ ?_
    · rw [eg2]; exact q1
    · rw [eg2]; exact q0
  · obtain ⟨k, hk, h5, hh⟩ := hex
    rw [eg4] at h5
    exact (z.2 k hk h5).1 hh
  have F6 := F'.trans (F5.k (by decide) (by decide))
  have eg6 := F6.g
  have hM6 := F6.mok hM
  refine m_11039_171 ⟨fun c => absurd c (by rw [F5.f (by decide), e55]; decide), fun _ => ?_⟩
  refine L11039_183 (k := 1) (H := fun k => Hit (ly (gM μ) a (wl (gM μ) k)) (wy1 (gM μ) px py qx qy a) (cUp (wl (gM μ) a) (wy1 (gM μ) px py qx qy a)) (cLow (wl (gM μ) a) (wy1 (gM μ) px py qx qy a)) 1 1) hM6 (by decide) (fun k μ' Q' hk h5 hF q1 q0 => ?_) (fun hex μ' hF => PI_mk (h0 (fun z => ?_) μ' (F6.trans (hF.k (by decide) (by decide))))) (fun hall2 μ' q6 hF => ?_) 9 0 μ5 rfl FMp.rfl (fun k hk => absurd hk (Nat.not_lt_zero _))
  · have hg := (hF.mok (by decide) hM6).2.2.2 k hk (by rw [hF.g (by decide)]; exact h5)
    have eg2 : gM μ' = gM μ := (hF.g (by decide)).trans eg6
    refine sp_blocked1 (a := a) (hF.mok (by decide) hM6).1 hk hg ha (by rw [eg2]; exact ga) ?_ ((W4.fr F5 (by decide)).fr hF (by decide)) hw (hF.beg (F5.beg B1)) (hF.beg (F5.beg B2)) ub (by decide) ?_ ?_
    · rw [hF.f (by decide), F5.f (by decide), e56]
    · rw [eg2]; exact q1
    · rw [eg2]; exact q0
  · obtain ⟨k, hk, h5, hh⟩ := hex
    rw [eg6] at h5
    exact (z.2 k hk h5).2 hh
  · refine m_11039_171 ⟨fun _ => PI_mk (h1 ⟨hit, fun k hk h5 => ⟨hall k hk (by rw [eg4]; exact h5), hall2 k hk (by rw [eg6]; exact h5)⟩⟩ μ' (F6.trans (hF.k (by decide) (by decide))) ((W4.fr F5 (by decide)).fr hF (by decide)) ?_ ?_ (hF.beg (F5.beg B1))), fun c => absurd ?_ c⟩
    · rw [hF.f (by decide), F5.f (by decide), e56]
    · rw [hF.f (by decide), F5.f (by decide), e57]
    · rw [hF.f (by decide), F5.f (by decide), e55]; decide
