/-! MATHEMATICS, 13: makes of the reference, straight -/
theorem FB.f {j k : Nat} {μ μ' : Mem} (h : FB j μ μ') : μ' 11 0 k = μ 11 0 k := h _ _ _ (by omega)
theorem Way.fb {j : Nat} {μ μ' : Mem} {w : Wy} (h : Way μ w) (hF : FB j μ μ') : Way μ' w := by
  unfold Way
  rw [hF.f, hF.f, hF.f, hF.f]
  exact h
theorem sp_makes0 {sc : Scr} {d t : Nat} {μ : Mem} {Q : Int → Mem → Prop} {w : Wy} (hM : MOK μ) (hw : Wbd w) (ex : μ 11 0 49 = w.1) (ey : μ 11 0 50 = w.2.1)
    (h1 : Op0 (gM μ) w → ∀ μ', FK μ μ' → Way μ' w → μ' 11 0 56 = -1 → μ' 11 0 57 = -1 → Q 1 μ') (h0 : ¬ Op0 (gM μ) w → ∀ μ', FK μ μ' → Q 0 μ') : RMi sc (d + 3) 11039 [rfc 11 0, .inl w.2.2.1, .inl w.2.2.2, .inl (-1), .inl (-1)] (t, 0, 0) μ Q := by
  refine m_11039 (sp_img0 (sp_img0 ⟨fun c => absurd rfl c, fun _ => ?_⟩))
  have FA : FK μ (wr (wr (wr (wr (wr μ 11 0 51 w.2.2.1) 11 0 52 w.2.2.2) 11 0 56 (-1)) 11 0 57 (-1)) 11 0 55 1) := ((((FK.w1 (by decide)).trans (FK.w1 (by decide))).trans (FK.w1 (by decide))).trans (FK.w1 (by decide))).trans (FK.w1 (by decide))
  refine m_11039_53 (sp_begins (i := 0) (by decide) fun μ1 F1 B0 => ?_)
  have e55 : μ1 11 0 55 = ((1 : Nat) : Int) := by rw [F1.f, wr_same]; rfl
  rw [e55]
  refine sp_begins (i := 1) (by decide) fun μ2 F2 B1 => ⟨fun _ => m_11039_117 ⟨fun _ => ?_, fun c => absurd rfl c⟩, fun c => absurd rfl c⟩
  have B0' : Beg μ2 0 0 1 := F2.beg B0 (by decide)
  have F : FK μ μ2 := (FA.trans F1.k).trans F2.k
  have eg := F.g
  have hM2 := F.mok hM
  have hW : Way μ2 w := by
    refine Way.fb (Way.fb ?_ F1) F2
    unfold Way
    refine ⟨?_, ?_, ?_, ?_⟩
    · rw [wr_k (by decide), wr_k (by decide), wr_k (by decide), wr_k (by decide), wr_k (by decide), ex]
    · rw [wr_k (by decide), wr_k (by decide), wr_k (by decide), wr_k (by decide), wr_k (by decide), ey]
    · rw [wr_k (by decide), wr_k (by decide), wr_k (by decide), wr_k (by decide), wr_same]
    · rw [wr_k (by decide), wr_k (by decide), wr_k (by decide), wr_same]
  have e55' : μ2 11 0 55 = 1 := by rw [F2.f, e55]; rfl
  have e56 : μ2 11 0 56 = -1 := by rw [F2.f, F1.f, wr_k (by decide), wr_k (by decide), wr_same]
  have e57 : μ2 11 0 57 = -1 := by rw [F2.f, F1.f, wr_k (by decide), wr_same]
  refine m_11039_171 ⟨fun c => absurd c (by omega), fun _ => ?_⟩
  refine L11039_183 (k := 0) (H := fun k => Hit (wl (gM μ) k) w 0 1 1 1) hM2 (by decide) (fun k μ' Q' hk h5 hF q1 q0 => ?_) (fun hex μ' hF => PI_mk (h0 (fun z => ?_) μ' (F.trans (hF.k (by decide) (by decide))))) (fun hall μ' q6 hF => ?_) 9 0 μ2 rfl FMp.rfl (fun k hk => absurd hk (Nat.not_lt_zero _))
  · have hg := (hF.mok (by decide) hM2).2.2.2 k hk (by rw [hF.g (by decide)]; exact h5)
    have eg2 : gM μ' = gM μ := (hF.g (by decide)).trans eg
    refine sp_blocked0 (hF.mok (by decide) hM2).1 hk hg (hW.fr hF (by decide)) hw (hF.beg B0') (hF.beg B1) (by decide) (by decide) ?_ ?_
    · rw [eg2]; exact q1
    · rw [eg2]; exact q0
  · obtain ⟨k, hk, h5, hh⟩ := hex
    rw [eg] at h5
    exact z k hk h5 hh
  · refine m_11039_171 ⟨fun _ => PI_mk (h1 (fun k hk h5 => hall k hk (by rw [eg]; exact h5)) μ' (F.trans (hF.k (by decide) (by decide))) (hW.fr hF (by decide)) ?_ ?_), fun c => absurd ?_ c⟩
    · rw [hF.f (by decide), e56]
    · rw [hF.f (by decide), e57]
    · rw [hF.f (by decide), e55']; decide
