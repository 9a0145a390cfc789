/-! MATHEMATICS, 35: stand -/
def PdS (μ : Mem) (n s b : Int) (x y : Nat) : Prop := 0 ≤ ech (RT μ s (x : Int) (y : Int) (x : Int) (y : Int)) ∧ n ≤ ech (RT μ s (x : Int) (y : Int) (x : Int) (y : Int)) / b
abbrev Wd (μ : Mem) : Nat := (μ 1 0 5).toNat
abbrev Hg (μ : Mem) : Nat := (μ 1 0 6).toNat
theorem Sim.wh {μ : Mem} (h : Sim μ) : ((Wd μ : Nat) : Int) = μ 1 0 5 ∧ ((Hg μ : Nat) : Int) = μ 1 0 6 ∧ Wd μ ≤ 40 ∧ Hg μ ≤ 40 := by
  have a := h.2.1.2.2.2.1.2
  have b := h.2.1.2.2.2.2.2
  unfold Wd Hg
  omega
theorem FW.e1 {μ μ' : Mem} (h : FW μ μ') : μ' 1 = μ 1 := h.1 1 (by unfold Kp; omega)
theorem FW.rr {μ μ' : Mem} (h : FW μ μ') (hS : Sim μ) (s x y u v : Int) : rets (μ' 9) (μ' 1 0 7) (μ' 1 0 8) s x y u v = RT μ s x y u v := h.rt hS s x y u v
theorem sp_code {sc : Scr} {d t : Nat} {μ : Mem} {Q : Int → Mem → Prop} {x y : Nat} (hx : x < 40) (hy : y < 40) (h : Q ((100 * (y : Int)) + (x : Int)) μ) : RMi sc (d + 1) 29 [.inl (x : Int), .inl (y : Int)] (t, 0, 0) μ Q := m_29 ⟨by omega, by omega, h⟩
theorem L27i {sc : Scr} {t : Nat} {μ : Mem} {P : Option AV → AS → Prop} {n s b what : Int} {y : Nat} (hS : Sim μ) (ls : Ld s) (lb : 1 ≤ b ∧ b ≤ 9999) (hy : y < Hg μ)
    (h : ∀ μ' q6 q7, FW μ μ' → SC μ' (scy (PdS μ n s b) (Wd μ) (y + 1)) → R_27 sc 12 P t 39 [rfc 0 0, .inl n, .inl s, .inl b, .inl what, .inl ((y + 1 : Nat) : Int), q6, q7] [] μ') :
    ∀ (m x : Nat) (μ' : Mem) (q7 : AV), m + x = Wd μ → FW μ μ' → SC μ' (scx (PdS μ n s b) y x (scy (PdS μ n s b) (Wd μ) y)) → R_27 sc 12 P t 54 [rfc 0 0, .inl n, .inl s, .inl b, .inl what, .inl (y : Int), .inl (x : Int), q7] [] μ' := by
  obtain ⟨w1, w2, w3, w4⟩ := hS.wh
  intro m
  induction m with
  | zero =>
    intro x μ' q7 hx hF hC
    have : x = Wd μ := by omega
    subst this
    have e1 := hF.e1
    exact m_27_54 ⟨fun _ => ⟨by omega, h μ' _ _ hF hC⟩, fun c => absurd (by rw [e1]; omega) c⟩
  | succ m ih =>
    intro x μ' q7 hx hF hC
    have S' := hS.fw hF
    have e1 := hF.e1
    have hp : Pm μ' (x : Int) (y : Int) := by unfold Pm; rw [e1]; omega
    have nb : (scx (PdS μ n s b) y x (scy (PdS μ n s b) (Wd μ) y)).2 < 1600 := by
      have b1 := scx_le (PdS μ n s b) y (scy (PdS μ n s b) (Wd μ) y) x
      have b2 := scy_le (PdS μ n s b) w3 y
      omega
    refine m_27_54 ⟨fun c => absurd c (by rw [e1]; omega), fun _ => sp_echoTime S'.co (S'.pl hp) ls.b fun μ2 F2 => ?_⟩
    have S2 := S'.fw F2.fw
    have F' := hF.trans F2.fw
    have C2 := hC.f8 F2
    rw [hF.rr hS]
    refine ⟨fun c => ⟨by omega, ih (x + 1) μ2 _ (by omega) F' ?_⟩, fun c => ⟨by omega, fun c2 => ⟨by omega, ih (x + 1) μ2 _ (by omega) F' ?_⟩, fun c2 => sp_code (by omega) (by omega) (sp_add C2 nb fun μ3 F3 C3 => ⟨by omega, ih (x + 1) μ3 _ (by omega) (F'.trans F3) ?_⟩)⟩⟩
    · unfold scx
      rw [ic_f fun z => by have := z.1; omega]
      exact C2
    · unfold scx
      rw [ic_f fun z => by have := z.2; omega]
      exact C2
    · unfold scx
      rw [ic_t ⟨by omega, by omega⟩]
      exact C3
theorem L27 {sc : Scr} {t : Nat} {μ : Mem} {P : Option AV → AS → Prop} {n s b what : Int} (hS : Sim μ) (ls : Ld s) (lb : 1 ≤ b ∧ b ≤ 9999)
    (h : ∀ μ', FW μ μ' → P (some (.inl (tldF (scy (PdS μ n s b) (Wd μ) (Hg μ)) what))) (fs (t, 0, 0) μ')) :
    ∀ (m y : Nat) (μ' : Mem) (q6 q7 : AV), m + y = Hg μ → FW μ μ' → SC μ' (scy (PdS μ n s b) (Wd μ) y) → R_27 sc 12 P t 39 [rfc 0 0, .inl n, .inl s, .inl b, .inl what, .inl (y : Int), q6, q7] [] μ' := by
  obtain ⟨w1, w2, w3, w4⟩ := hS.wh
  intro m
  induction m with
  | zero =>
    intro y μ' q6 q7 hy hF hC
    have : y = Hg μ := by omega
    subst this
    have e1 := hF.e1
    have b2 := scy_le (PdS μ n s b) w3 (Hg μ)
    exact m_27_39 ⟨fun _ => sp_manyOrFirst hC (by omega) (h μ' hF), fun c => absurd (by rw [e1]; omega) c⟩
  | succ m ih =>
    intro y μ' q6 q7 hy hF hC
    have e1 := hF.e1
    exact m_27_39 ⟨fun c => absurd c (by rw [e1]; omega), fun _ => L27i hS ls lb (by omega) (fun μ2 q6 q7 F2 C2 => ih (y + 1) μ2 q6 q7 (by omega) F2 C2) (Wd μ) 0 μ' q7 rfl hF hC⟩
noncomputable def F_stand (n s b what : Int) (μ : Mem) : Int := ic (0 ≤ n ∧ Ld s ∧ (1 ≤ b ∧ b ≤ 9999) ∧ (0 ≤ what ∧ what ≤ 1)) (tldF (scy (PdS μ n s b) (Wd μ) (Hg μ)) what) (-1)
theorem c_stand {sc : Scr} {t : Nat} {n s b what : Int} (μ : Mem) (Q : Int → Mem → Prop) (hS : Sim μ) (h : ∀ μ', FW μ μ' → Q (F_stand n s b what μ) μ') : RMi sc 13 27 [rfc 0 0, .inl n, .inl s, .inl b, .inl what] (t, 0, 0) μ Q := by
  unfold F_stand at h
  refine m_27 ⟨fun c => ?_, fun c => sp_isLoud (fun l => ⟨fun z => absurd z (by decide), fun _ => sp_isBeat (fun lb => ⟨fun z => absurd z (by decide), fun _ => sp_is01 (fun c2 => ⟨fun _ => ?_, fun z => absurd (by decide) z⟩) (fun c2 => ⟨fun z => absurd rfl z, fun _ => ?_⟩)⟩) (fun lb => ⟨fun _ => ?_, fun z => absurd rfl z⟩)⟩) (fun l => ⟨fun _ => ?_, fun z => absurd rfl z⟩)⟩
  · rw [ic_f fun z => by have := z.1; omega] at h
    exact h _ FW.rfl
  · rw [ic_t ⟨by omega, l, lb, c2⟩] at h
    exact L27 hS l lb (fun μ' F => PI_mk (h μ' F)) (Hg μ) 0 _ _ _ rfl (FW.w (by unfold Kp; omega)) ⟨wr_same _ _ _ _ _, fun i hi => absurd hi (by unfold scy; simp)⟩
  · rw [ic_f fun z => c2 z.2.2.2] at h
    exact h _ FW.rfl
  · rw [ic_f fun z => lb z.2.2.1] at h
    exact h _ FW.rfl
  · rw [ic_f fun z => l z.2.1] at h
    exact h _ FW.rfl
theorem L70i {sc : Scr} {t : Nat} {μ : Mem} {P : Option AV → AS → Prop} {n s b what : Int} {y : Nat} (hS : Sim μ) (ls : Ld s) (lb : 1 ≤ b ∧ b ≤ 9999) (hy : y < Hg μ)
    (h : ∀ μ' q6 q7, FW μ μ' → SMc μ' (scy (PdS μ n s b) (Wd μ) (y + 1)) → R_11070 sc 12 P t 38 [rfc 11 0, .inl n, .inl s, .inl b, .inl what, .inl ((y + 1 : Nat) : Int), q6, q7] [] μ') :
    ∀ (m x : Nat) (μ' : Mem) (q7 : AV), m + x = Wd μ → FW μ μ' → SMc μ' (scx (PdS μ n s b) y x (scy (PdS μ n s b) (Wd μ) y)) → R_11070 sc 12 P t 55 [rfc 11 0, .inl n, .inl s, .inl b, .inl what, .inl (y : Int), .inl (x : Int), q7] [] μ' := by
  obtain ⟨w1, w2, w3, w4⟩ := hS.wh
  intro m
  induction m with
  | zero =>
    intro x μ' q7 hx hF hC
    have : x = Wd μ := by omega
    subst this
    have e1 := hF.e1
    have S' := hS.fw hF
    have l := S'.1.1
    have ew := S'.2.1.2.2.2.1.1
    unfold liv at l
    unfold lvM at ew
    exact m_11070_55 ⟨by omega, fun _ => ⟨by omega, h μ' _ _ hF hC⟩, fun c => absurd (by rw [ew, e1]; omega) c⟩
  | succ m ih =>
    intro x μ' q7 hx hF hC
    have S' := hS.fw hF
    have e1 := hF.e1
    have l := S'.1.1
    have ew := S'.2.1.2.2.2.1.1
    unfold liv at l
    unfold lvM at ew
    have hp : Pm μ' (x : Int) (y : Int) := by unfold Pm; rw [e1]; omega
    have nb : (scx (PdS μ n s b) y x (scy (PdS μ n s b) (Wd μ) y)).2 < 1600 := by
      have b1 := scx_le (PdS μ n s b) y (scy (PdS μ n s b) (Wd μ) y) x
      have b2 := scy_le (PdS μ n s b) w3 y
      omega
    refine m_11070_55 ⟨by omega, fun c => absurd c (by rw [ew, e1]; omega), fun _ => sp_echo S'.mo (S'.pl hp) ls.b fun μ2 F2 => ?_⟩
    have F' := hF.trans F2.fw
    have C2 := hC.fm F2
    rw [S'.rets, hF.rt hS]
    refine ⟨fun c => ⟨by omega, ih (x + 1) μ2 _ (by omega) F' ?_⟩, fun c => ⟨by omega, fun c2 => ⟨by omega, ih (x + 1) μ2 _ (by omega) F' ?_⟩, fun c2 => sp_counts (by omega) (by omega) C2 nb fun μ3 F3 C3 => ⟨by omega, ih (x + 1) μ3 _ (by omega) (F'.trans F3) ?_⟩⟩⟩
    · unfold scx
      rw [ic_f fun z => by have := z.1; omega]
      exact C2
    · unfold scx
      rw [ic_f fun z => by have := z.2; omega]
      exact C2
    · unfold scx
      rw [ic_t ⟨by omega, by omega⟩]
      exact C3
theorem L70 {sc : Scr} {t : Nat} {μ : Mem} {P : Option AV → AS → Prop} {n s b what : Int} (hS : Sim μ) (ls : Ld s) (lb : 1 ≤ b ∧ b ≤ 9999)
    (h : ∀ μ', FW μ μ' → P (some (.inl (tldF (scy (PdS μ n s b) (Wd μ) (Hg μ)) what))) (fs (t, 0, 0) μ')) :
    ∀ (m y : Nat) (μ' : Mem) (q6 q7 : AV), m + y = Hg μ → FW μ μ' → SMc μ' (scy (PdS μ n s b) (Wd μ) y) → R_11070 sc 12 P t 38 [rfc 11 0, .inl n, .inl s, .inl b, .inl what, .inl (y : Int), q6, q7] [] μ' := by
  obtain ⟨w1, w2, w3, w4⟩ := hS.wh
  intro m
  induction m with
  | zero =>
    intro y μ' q6 q7 hy hF hC
    have : y = Hg μ := by omega
    subst this
    have e1 := hF.e1
    have S' := hS.fw hF
    have l := S'.1.1
    have ew := S'.2.1.2.2.2.2.1
    unfold liv at l
    unfold lvM at ew
    exact m_11070_38 ⟨by omega, fun _ => sp_told hC (h μ' hF), fun c => absurd (by rw [ew, e1]; omega) c⟩
  | succ m ih =>
    intro y μ' q6 q7 hy hF hC
    have e1 := hF.e1
    have S' := hS.fw hF
    have l := S'.1.1
    have ew := S'.2.1.2.2.2.2.1
    unfold liv at l
    unfold lvM at ew
    exact m_11070_38 ⟨by omega, fun c => absurd c (by rw [ew, e1]; omega), fun _ => L70i hS ls lb (by omega) (fun μ2 q6 q7 F2 C2 => ih (y + 1) μ2 q6 q7 (by omega) F2 C2) (Wd μ) 0 μ' q7 rfl hF hC⟩
theorem r_stand {sc : Scr} {t : Nat} {n s b what : Int} (μ : Mem) (Q : Int → Mem → Prop) (hS : Sim μ) (h : ∀ μ', FW μ μ' → Q (F_stand n s b what μ) μ') : RMi sc 13 11070 [rfc 11 0, .inl n, .inl s, .inl b, .inl what] (t, 0, 0) μ Q := by
  unfold F_stand at h
  refine m_11070 ⟨fun c => ?_, fun c => sp_isLoudM (fun l => ⟨fun z => absurd z (by decide), fun _ => sp_isBeatM (fun lb => ⟨fun z => absurd z (by decide), fun _ => sp_in (fun c2 => ⟨fun _ => ?_, fun z => absurd (by decide) z⟩) (fun c2 => ⟨fun z => absurd rfl z, fun _ => ?_⟩)⟩) (fun lb => ⟨fun _ => ?_, fun z => absurd rfl z⟩)⟩) (fun l => ⟨fun _ => ?_, fun z => absurd rfl z⟩)⟩
  · rw [ic_f fun z => by have := z.1; omega] at h
    exact h _ FW.rfl
  · rw [ic_t ⟨by omega, l, lb, c2⟩] at h
    exact L70 hS l lb (fun μ' F => PI_mk (h μ' F)) (Hg μ) 0 _ _ _ rfl (FW.w11 (by decide)) ⟨wr_same _ _ _ _ _, fun z => absurd rfl z⟩
  · rw [ic_f fun z => c2 z.2.2.2] at h
    exact h _ FW.rfl
  · rw [ic_f fun z => lb z.2.2.1] at h
    exact h _ FW.rfl
  · rw [ic_f fun z => l z.2.1] at h
    exact h _ FW.rfl
theorem p_stand {sc : Scr} {t : Nat} {μ : Mem} {n s b what : Int} (hS : Sim μ) : PR sc t μ 27 11070 [.inl n, .inl s, .inl b, .inl what] := by
  refine PR_of (F_stand n s b what) hS (fun μ1 F1 => ?_) c_stand r_stand
  unfold F_stand Wd Hg
  rw [F1.e1]
  congr 2
  refine scy_c fun x y _ _ => ?_
  unfold PdS
  rw [F1.rt hS]
