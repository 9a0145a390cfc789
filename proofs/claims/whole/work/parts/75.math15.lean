/-! MATHEMATICS, 15: makes of the reference, by two walls -/
/-- the way by two walls -/
def wy2 (g : Nat → Nat → Int) (px py qx qy : Int) (a b : Nat) : Wy := ⟨px, py, lyX g a (lyX g b qx), lyY g a (lyY g b qy)⟩
theorem wy2_bd {g : Nat → Nat → Int} {px py qx qy : Int} {a b : Nat} (ga : gok g a) (gb : gok g b) (hp : Pl px py) (hq : Pl qx qy) : Wbd (wy2 g px py qx qy a b) := by
  have q := ly_bd0 gb hq
  have := ly_bd1 (x := lyX g b qx) (y := lyY g b qy) ga q.1 q.2
  exact ⟨hp.1, hp.2, this.1, this.2⟩
theorem sp_makes2 {sc : Scr} {d t : Nat} {μ : Mem} {Q : Int → Mem → Prop} {px py qx qy : Int} {a b : Nat} {w : Wy} (ew : w = wy2 (gM μ) px py qx qy a b) (hM : MOK μ) (ha : a < 9) (ta : gM μ a 5 ≠ 0) (hb : b < 9) (tb : gM μ b 5 ≠ 0) (hp : Pl px py) (hq : Pl qx qy) (ex : μ 11 0 49 = px) (ey : μ 11 0 50 = py)
    (h1 : Op2 (gM μ) w a b → ∀ μ', FK μ μ' → Way μ' w → μ' 11 0 56 = (a : Int) → μ' 11 0 57 = (b : Int) → Beg μ' 1 (cUp (wl (gM μ) a) w) (cLow (wl (gM μ) a) w) → Beg μ' 2 (cUp (ly (gM μ) a (wl (gM μ) b)) w) (cLow (ly (gM μ) a (wl (gM μ) b)) w) → Q 1 μ') (h0 : ¬ Op2 (gM μ) w a b → ∀ μ', FK μ μ' → Q 0 μ') :
    RMi sc (d + 3) 11039 [rfc 11 0, .inl qx, .inl qy, .inl (a : Int), .inl (b : Int)] (t, 0, 0) μ Q := by
  have ga := hM.2.2.2 a ha ta
  have gb := hM.2.2.2 b hb tb
  have FW : FMp 51 52 μ (wr (wr μ 11 0 51 qx) 11 0 52 qy) := FMp.trans (FMp.w1 (by decide)) (FMp.w1 (by decide))
  have hM1 := FW.mok (by decide) hM
  have eg1 := FW.g (by decide)
  have hq1 := hq.1
  have hq2 := hq.2
  have qb := ly_bd0 gb hq
  refine m_11039 (sp_img (x := qx) (y := qy) hM1.1 hb (by rw [eg1]; exact gb) (by rw [wr_k (by decide), wr_same]) (wr_same _ _ _ _ _) (by omega) (by omega) fun μ1 F1 j1 j2 => ?_)
  rw [eg1] at j1 j2
  have F1' := FW.trans F1
  have eg1' := F1'.g (by decide)
  refine sp_img (F1'.mok (by decide) hM).1 ha (by rw [eg1']; exact ga) j1 j2 (by omega) (by omega) fun μ2 F2 i1 i2 => ⟨fun _ => ⟨fun _ => ?_, fun c => absurd (by omega) c⟩, fun c => absurd (by omega) c⟩
  rw [eg1'] at i1 i2
  have F2' := F1'.trans F2
  have F3 : FMp 56 57 μ2 (wr (wr μ2 11 0 56 (a : Int)) 11 0 57 (b : Int)) := FMp.trans (FMp.w1 (by decide)) (FMp.w1 (by decide))
  have F : FK μ (wr (wr μ2 11 0 56 (a : Int)) 11 0 57 (b : Int)) := (F2'.k (by decide) (by decide)).trans (F3.k (by decide) (by decide))
  have eg := F.g
  have hw : Wbd w := by rw [ew]; exact wy2_bd (g := gM μ) ga gb hp hq
  have hW : Way (wr (wr μ2 11 0 56 (a : Int)) 11 0 57 (b : Int)) w := by
    unfold Way
    rw [F3.f (by decide), F3.f (by decide), F3.f (by decide), F3.f (by decide), F2'.f (k := 49) (by decide), F2'.f (k := 50) (by decide), ew]
    exact ⟨ex, ey, i1, i2⟩
  refine Lmk (p := 3) (w := w) (Or.inr rfl) (F.mok hM) hW hw ha (by rw [eg]; exact ga) (by rw [wr_k (by decide), wr_same]) (wr_same _ _ _ _ _) ?_ ?_
  · rw [eg]
    exact fun hn μ' hF => PI_mk (h0 (fun z => hn z.1) μ' (F.trans hF))
  rw [eg]
  intro hit μ3 F3b W3 e55 e56 e57 B0 B3 B1
  have Fx := F.trans F3b
  have egx := Fx.g
  have hMx := Fx.mok hM
  have lb1 : Lbd (wl (gM μ) a) := (Lb_wl ga).to (by decide)
  have lb2 : Lbd (ly (gM μ) a (wl (gM μ) b)) := (Lb_ly ga (Lb_wl gb)).to (by decide)
  have ub := cross_pos (L := wl (gM μ) a) lb1 hw hit.1
  refine m_11039_117 ⟨fun c => absurd c (by omega), fun _ => ?_⟩
  refine sp_takes hMx.1 hb (by rw [egx]; exact gb) fun μ4 F4 hL4 => ?_
  have hM4 := F4.mok (by decide) hMx
  have eg4 : gM μ4 = gM μ := (F4.g (by decide)).trans egx
  rw [egx] at hL4
  refine sp_lays hM4.1 ha (by rw [eg4]; exact ga) hL4 ((Lb_wl gb).to (by decide)) fun μ5 F5 hL5 => ?_
  rw [eg4] at hL5
  have F45 := (F4.trans F5).mono (p' := 58) (q' := 63) (by decide) (by decide)
  refine sp_crosses hL5 lb2 (W3.fr F45 (by decide)) hw (fun on μ6 F6 eu el => ⟨fun c => absurd c (by decide), fun _ => ?_⟩) (fun on μ6 F6 => ⟨fun _ => PI_mk (h0 (fun z => on z.2.1.1) μ6 (Fx.trans ((F45.trans F6).k (by decide) (by decide)))), fun c => absurd rfl c⟩)
  have F46 := F45.trans F6
  have fx6 := Fx.trans (F46.k (by decide) (by decide))
  rw [F46.f (k := 55) (by decide), e55]
  refine sp_within (i := 1) (j := 3) (by decide) (by decide) eu el lb2 hw on.1 (F46.beg B1) (F46.beg B3) ub (by decide) (fun inn => ⟨fun _ => ?_, fun c => absurd (by decide) c⟩) (fun inn => ⟨fun c => absurd rfl c, fun _ => PI_mk (h0 (fun z => inn z.2.1.2) μ6 fx6)⟩)
  rw [eu, el]
  have hit2 : Hit (ly (gM μ) a (wl (gM μ) b)) w (cUp (wl (gM μ) a) w) (cLow (wl (gM μ) a) w) 1 1 := ⟨on, inn⟩
  have ub2 := cross_pos lb2 hw on
  refine sp_begins (i := 2) (by decide) fun μ7 F7 B2 => ?_
  have C0 := F7.beg (F46.beg B0) (by decide)
  have C1 := F7.beg (F46.beg B1) (by decide)
  have C3 := F7.beg (F46.beg B3) (by decide)
  have W7 := (W3.fr F46 (by decide)).fb F7
  have G7 := fx6.trans F7.k
  have eg7 := G7.g
  have hM7 := G7.mok hM
  have d55 : μ7 11 0 55 = 3 := by rw [F7.f, F46.f (by decide), e55]; rfl
  have d56 : μ7 11 0 56 = (a : Int) := by rw [F7.f, F46.f (by decide), e56]
  have d57 : μ7 11 0 57 = (b : Int) := by rw [F7.f, F46.f (by decide), e57]
  refine m_11039_171 ⟨fun c => absurd c (by omega), fun _ => ?_⟩
  refine L11039_183 (k := 0) (H := fun k => Hit (wl (gM μ) k) w 0 1 (cUp (wl (gM μ) a) w) (cLow (wl (gM μ) a) w)) hM7 (by decide) (fun k μ' Q' hk h5 hF q1 q0 => ?_) (fun hex μ' hF => PI_mk (h0 (fun z => ?_) μ' (G7.trans (hF.k (by decide) (by decide))))) (fun hall μ8 q6 F8 => ?_) 9 0 μ7 rfl FMp.rfl (fun k hk => absurd hk (Nat.not_lt_zero _))
  · have hg := (hF.mok (by decide) hM7).2.2.2 k hk (by rw [hF.g (by decide)]; exact h5)
    have eg2 : gM μ' = gM μ := (hF.g (by decide)).trans eg7
    refine sp_blocked0 (hF.mok (by decide) hM7).1 hk hg (W7.fr hF (by decide)) hw (hF.beg C0) (hF.beg C1) (by decide) ub ?_ ?_
    · rw [eg2]; exact q1
    · rw [eg2]; exact q0
  · obtain ⟨k, hk, h5, hh⟩ := hex
    rw [eg7] at h5
    exact (z.2.2 k hk h5).1 hh
  have G8 := G7.trans (F8.k (by decide) (by decide))
  have eg8 := G8.g
  have hM8 := G8.mok hM
  refine m_11039_171 ⟨fun c => absurd c (by rw [F8.f (by decide), d55]; decide), fun _ => ?_⟩
  refine L11039_183 (k := 1) (H := fun k => Hit (ly (gM μ) a (wl (gM μ) k)) w (cUp (wl (gM μ) a) w) (cLow (wl (gM μ) a) w) (cUp (ly (gM μ) a (wl (gM μ) b)) w) (cLow (ly (gM μ) a (wl (gM μ) b)) w)) hM8 (by decide) (fun k μ' Q' hk h5 hF q1 q0 => ?_) (fun hex μ' hF => PI_mk (h0 (fun z => ?_) μ' (G8.trans (hF.k (by decide) (by decide))))) (fun hall2 μ9 q6 F9 => ?_) 9 0 μ8 rfl FMp.rfl (fun k hk => absurd hk (Nat.not_lt_zero _))
  · have hg := (hF.mok (by decide) hM8).2.2.2 k hk (by rw [hF.g (by decide)]; exact h5)
    have eg2 : gM μ' = gM μ := (hF.g (by decide)).trans eg8
    refine sp_blocked1 (a := a) (hF.mok (by decide) hM8).1 hk hg ha (by rw [eg2]; exact ga) ?_ ((W7.fr F8 (by decide)).fr hF (by decide)) hw (hF.beg (F8.beg C1)) (hF.beg (F8.beg B2)) ub ub2 ?_ ?_
    · rw [hF.f (by decide), F8.f (by decide), d56]
    · rw [eg2]; exact q1
    · rw [eg2]; exact q0
  · obtain ⟨k, hk, h5, hh⟩ := hex
    rw [eg8] at h5
    exact (z.2.2 k hk h5).2.1 hh
  have G9 := G8.trans (F9.k (by decide) (by decide))
  have eg9 := G9.g
  have hM9 := G9.mok hM
  have F89 := F8.trans F9
  refine m_11039_171 ⟨fun c => absurd c (by rw [F89.f (by decide), d55]; decide), fun _ => ?_⟩
  refine L11039_183 (k := 2) (H := fun k => Hit (ly (gM μ) a (ly (gM μ) b (wl (gM μ) k))) w (cUp (ly (gM μ) a (wl (gM μ) b)) w) (cLow (ly (gM μ) a (wl (gM μ) b)) w) 1 1) hM9 (by decide) (fun k μ' Q' hk h5 hF q1 q0 => ?_) (fun hex μ' hF => PI_mk (h0 (fun z => ?_) μ' (G9.trans (hF.k (by decide) (by decide))))) (fun hall3 μ' q6 hF => ?_) 9 0 μ9 rfl FMp.rfl (fun k hk => absurd hk (Nat.not_lt_zero _))
  · have hg := (hF.mok (by decide) hM9).2.2.2 k hk (by rw [hF.g (by decide)]; exact h5)
    have eg2 : gM μ' = gM μ := (hF.g (by decide)).trans eg9
    refine sp_blocked2 (a := a) (b := b) (hF.mok (by decide) hM9).1 hk hg ha (by rw [eg2]; exact ga) ?_ hb (by rw [eg2]; exact gb) ?_ ((W7.fr F89 (by decide)).fr hF (by decide)) hw (hF.beg (F89.beg B2)) (hF.beg (F89.beg C3)) ub2 (by decide) ?_ ?_
    · rw [hF.f (by decide), F89.f (by decide), d56]
    · rw [hF.f (by decide), F89.f (by decide), d57]
    · rw [eg2]; exact q1
    · rw [eg2]; exact q0
  · obtain ⟨k, hk, h5, hh⟩ := hex
    rw [eg9] at h5
    exact (z.2.2 k hk h5).2.2 hh
  · refine m_11039_171 ⟨fun _ => PI_mk (h1 ⟨hit, hit2, fun k hk h5 => ⟨hall k hk (by rw [eg7]; exact h5), hall2 k hk (by rw [eg8]; exact h5), hall3 k hk (by rw [eg9]; exact h5)⟩⟩ μ' (G9.trans (hF.k (by decide) (by decide))) ((W7.fr F89 (by decide)).fr hF (by decide)) ?_ ?_ (hF.beg (F89.beg C1)) (hF.beg (F89.beg B2))), fun c => absurd ?_ c⟩
    · rw [hF.f (by decide), F89.f (by decide), d56]
    · rw [hF.f (by decide), F89.f (by decide), d57]
    · rw [hF.f (by decide), F89.f (by decide), d55]; decide
