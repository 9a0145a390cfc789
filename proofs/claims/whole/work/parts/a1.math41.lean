/-! MATHEMATICS, 41: stands, move, pace, place, back, forget -/
theorem Sim.st {μ : Mem} (h : Sim μ) {w v : Int} (hw : Nw μ w) (hv : v = 0 ∨ v = 1) : Sim (wr (wr μ 9 w.toNat 5 v) 54 0 ((9 * (μ 11 0 18)) + w).toNat v) := by
  obtain ⟨a, b, c, d, e, f⟩ := h
  refine ⟨a.st hw hv, b.x ?_ ?_ (fun k _ => ?_) (fun c hc => ?_), c.x ?_ ?_ ?_ (fun o _ => ?_) (fun c o hc _ => ?_) (fun c hc => ?_), d.x ?_ ?_ ?_ ?_ (fun o _ => ?_) (fun c o hc _ => ?_) (fun c hc => ?_), e.x ?_ (fun c hc => ?_), f.x ?_ ?_ ?_ ?_ (fun c hc => ?_)⟩ <;> rw [wr_c (by omega), wr_c (by omega)]
theorem SW.mv {μ : Mem} (h : SW μ) {w v : Int} (hw : Nw μ w) (hv : 0 ≤ v ∧ v ≤ 99) : SW (wr (wr μ 9 w.toNat 1 v) 50 0 ((9 * (μ 11 0 18)) + w).toNat v) := by
  obtain ⟨a, b, c, d, e⟩ := h.at hw
  obtain ⟨l, n, n8, wl', wn, g8, fl⟩ := h
  have l' := l
  unfold liv at l'
  unfold SW liv lvM ix9 Wok
  rw [c]
  simp only [wr_c (show (11 : Nat) ≠ 50 by decide), wr_c (show (11 : Nat) ≠ 9 by decide), wr_c (show (1 : Nat) ≠ 50 by decide), wr_c (show (1 : Nat) ≠ 9 by decide), wr_c (show (48 : Nat) ≠ 50 by decide), wr_c (show (48 : Nat) ≠ 9 by decide), wr_c (show (54 : Nat) ≠ 50 by decide), wr_c (show (54 : Nat) ≠ 9 by decide), wr_c (show (9 : Nat) ≠ 50 by decide)]
  refine ⟨l, n, n8, fun u hu => ?_, fun u hu hu2 => ?_, g8, fl⟩
  · obtain ⟨a', b', c', d'⟩ := wl' u hu
    unfold Wok at c'
    refine ⟨fun k hk => ?_, ?_, ?_⟩
    · rw [gM_k _ _ hk, wr_c (c := 50) (c' := 11) (by decide), wr_c (c := 9) (c' := 11) (by decide)]
      have ak := a' k hk
      rw [gM_k _ _ hk] at ak
      by_cases q : k = 1
      · subst q
        by_cases q2 : u = w.toNat
        · subst q2
          rw [wr_same, wr_same]
        · rw [wr_i q2, wr_k (by unfold ix9; omega), wr_c (by decide)]
          exact ak
      · rw [wr_k q, wr_c (by omega), wr_c (by omega)]
        exact ak
    · rw [wr_k (by decide)]
      exact b'
    · rw [wr_k (k' := 0) (by decide), wr_k (k' := 2) (by decide), wr_k (k' := 3) (by decide), wr_k (k' := 4) (by decide)]
      by_cases q2 : u = w.toNat
      · subst q2
        rw [wr_same]
        exact ⟨⟨c'.1, hv, c'.2.2⟩, d'⟩
      · rw [wr_i q2]
        exact ⟨c', d'⟩
  · rw [wr_k (by decide)]
    exact wn u hu hu2
theorem Sim.mv {μ : Mem} (h : Sim μ) {w v : Int} (hw : Nw μ w) (hv : 0 ≤ v ∧ v ≤ 99) : Sim (wr (wr μ 9 w.toNat 1 v) 50 0 ((9 * (μ 11 0 18)) + w).toNat v) := by
  obtain ⟨a, b, c, d, e, f⟩ := h
  refine ⟨a.mv hw hv, b.x ?_ ?_ (fun k _ => ?_) (fun c hc => ?_), c.x ?_ ?_ ?_ (fun o _ => ?_) (fun c o hc _ => ?_) (fun c hc => ?_), d.x ?_ ?_ ?_ ?_ (fun o _ => ?_) (fun c o hc _ => ?_) (fun c hc => ?_), e.x ?_ (fun c hc => ?_), f.x ?_ ?_ ?_ ?_ (fun c hc => ?_)⟩ <;> rw [wr_c (by omega), wr_c (by omega)]
theorem Sim.pc {μ : Mem} (h : Sim μ) {v : Int} (hv : 1 ≤ v ∧ v ≤ 99) : Sim (wr (wr μ 1 0 7 v) 11 0 48 v) := by
  obtain ⟨a, b, c, d, e, f⟩ := h
  refine ⟨a.x ?_ ?_ ?_ (fun c hc => ?_), ?_, c.x ?_ ?_ ?_ (fun o _ => ?_) (fun c o hc _ => ?_) (fun c hc => ?_), d.x ?_ ?_ ?_ ?_ (fun o _ => ?_) (fun c o hc _ => ?_) (fun c hc => ?_), e.x ?_ (fun c hc => ?_), f.x ?_ ?_ ?_ ?_ (fun c hc => ?_)⟩
  case refine_5 =>
    unfold SN lvM at *
    rw [wr_same, wr_k (k' := 18) (by decide), wr_c (c := 11) (c' := 1) (by decide), wr_c (c := 1) (c' := 11) (by decide), wr_same, wr_k (k' := 8) (by decide), wr_k (k' := 9) (by decide), wr_k (k' := 5) (by decide), wr_k (k' := 6) (by decide), wr_c (c' := 69) (by decide), wr_c (c' := 69) (by decide), wr_c (c' := 70) (by decide), wr_c (c' := 70) (by decide), wr_c (c' := 66) (by decide), wr_c (c' := 66) (by decide), wr_c (c' := 67) (by decide), wr_c (c' := 67) (by decide)]
    exact ⟨⟨rfl, hv⟩, b.2⟩
  all_goals first | rw [wr_c (by omega), wr_c (by omega)] | rw [wr_k (by decide), wr_c (by decide)] | rw [wr_c (by decide), wr_k (by decide)]
theorem p_stands {sc : Scr} {t : Nat} {μ : Mem} {w v : Int} (hv : v = 0 ∨ v = 1) (hS : Sim μ) : PR sc t μ 6 11032 [.inl w, .inl v] := by
  have W := hS.1
  by_cases hw : Nw μ w
  · obtain ⟨a, b, c, d, e⟩ := W.at hw
    have S2 := hS.st hw hv
    have l := W.1
    have n := W.2.1
    unfold liv at l
    unfold lvM at n
    refine m_6 (sp_toldW W.2.2.1.2 (fun _ => ⟨fun _ => m_6_15 ⟨hv, PI_mk ?_⟩, fun z => absurd (by simp) z⟩) (fun z => absurd hw z))
    refine m_11032 (sp_isNumber ?_ ?_ ?_ (fun _ => ⟨fun _ => ?_, fun z => absurd (by decide) z⟩) (fun z => absurd ?_ z))
    · unfold liv; rw [wr_c (by decide)]; exact l
    · unfold lvM; rw [wr_c (by decide), wr_c (by decide), wr_c (by decide)]; exact n
    · rw [wr_c (by decide)]; exact W.2.2.1
    · rw [wr_c (by decide)]
      exact ⟨by omega, by omega, ⟨d, hv⟩, rfl, S2⟩
    · unfold Nw; rw [wr_c (by decide)]; exact hw
  · exact PR_id (v := 0) hS (fun Q q => m_6 (sp_toldW W.2.2.1.2 (fun z => absurd z hw) (fun _ => ⟨fun z => absurd rfl z, fun _ => q⟩))) (fun Q q => m_11032 (sp_isNumber W.1 W.2.1 W.2.2.1 (fun z => absurd z hw) (fun _ => ⟨fun z => absurd rfl z, fun _ => q⟩)))
theorem p_move {sc : Scr} {t : Nat} {μ : Mem} {w v : Int} (hS : Sim μ) : PR sc t μ 7 11033 [.inl w, .inl v] := by
  have W := hS.1
  by_cases hw : Nw μ w
  · by_cases hv : 0 ≤ v ∧ v ≤ 99
    · obtain ⟨a, b, c, d, e⟩ := W.at hw
      have S2 := hS.mv hw hv
      have l := W.1
      have n := W.2.1
      unfold liv at l
      unfold lvM at n
      refine m_7 (sp_toldW W.2.2.1.2 (fun _ => ⟨fun z => absurd z (by simp), fun _ => ⟨fun z => absurd z (by omega), fun _ => ⟨fun _ => m_7_25 (PI_mk ?_), fun z => absurd hv.2 z⟩⟩⟩) (fun z => absurd hw z))
      refine m_11033 (sp_isNumber ?_ ?_ ?_ (fun _ => ⟨fun z => absurd z (by decide), fun _ => sp_in (fun _ => ⟨fun _ => ?_, fun z => absurd (by decide) z⟩) (fun z => absurd hv z)⟩) (fun z => absurd ?_ z))
      · unfold liv; rw [wr_c (by decide)]; exact l
      · unfold lvM; rw [wr_c (by decide), wr_c (by decide), wr_c (by decide)]; exact n
      · rw [wr_c (by decide)]; exact W.2.2.1
      · rw [wr_c (by decide)]
        exact ⟨by omega, by omega, d, rfl, S2⟩
      · unfold Nw; rw [wr_c (by decide)]; exact hw
    · exact PR_id (v := 0) hS (fun Q q => m_7 (sp_toldW W.2.2.1.2 (fun _ => ⟨fun z => absurd z (by simp), fun _ => ⟨fun _ => q, fun z1 => ⟨fun z2 => absurd ⟨by omega, z2⟩ hv, fun _ => q⟩⟩⟩) (fun z => absurd hw z))) (fun Q q => m_11033 (sp_isNumber W.1 W.2.1 W.2.2.1 (fun _ => ⟨fun z => absurd z (by decide), fun _ => sp_in (fun z => absurd z hv) (fun _ => ⟨fun z => absurd rfl z, fun _ => q⟩)⟩) (fun z => absurd hw z)))
  · exact PR_id (v := 0) hS (fun Q q => m_7 (sp_toldW W.2.2.1.2 (fun z => absurd z hw) (fun _ => ⟨fun _ => q, fun z => absurd rfl z⟩))) (fun Q q => m_11033 (sp_isNumber W.1 W.2.1 W.2.2.1 (fun z => absurd z hw) (fun _ => ⟨fun _ => q, fun z => absurd rfl z⟩)))
theorem p_pace {sc : Scr} {t : Nat} {μ : Mem} {v : Int} (hS : Sim μ) : PR sc t μ 8 11034 [.inl v] := by
  refine m_8 ⟨fun c => m_11034 (sp_in (fun z => absurd z (by omega)) (fun _ => ⟨fun z => absurd rfl z, fun _ => ⟨rfl, hS⟩⟩)), fun c => ⟨fun c2 => m_11034 (sp_in (fun z => ⟨fun _ => ⟨?_, hS.pc z⟩, fun z => absurd (by decide) z⟩) (fun z => absurd ⟨by omega, c2⟩ z)), fun c2 => m_11034 (sp_in (fun z => absurd z.2 c2) (fun _ => ⟨fun z => absurd rfl z, fun _ => ⟨rfl, hS⟩⟩))⟩⟩
  rw [wr_c (by decide)]
  exact hS.2.1.1.1.symm
theorem p_place {sc : Scr} {t : Nat} {μ : Mem} (hS : Sim μ) : PR sc t μ 4 11028 [] := m_4 (m_11028 ⟨hS.2.2.2.2.2.1, hS⟩)
theorem p_back {sc : Scr} {t : Nat} {μ : Mem} {n : Int} (hS : Sim μ) : PR sc t μ 2 11006 [.inl n] := by
  obtain ⟨a, b, c, d, e, f⟩ := hS
  have f' := f
  obtain ⟨f1, f2, f3, f4, f5⟩ := f'
  have hS : Sim μ := ⟨a, b, c, d, e, f⟩
  refine m_2 ⟨fun z => m_11006 ⟨fun _ => ⟨rfl, hS⟩, fun z2 => absurd z z2⟩, fun z => ⟨fun z2 => ⟨by omega, m_11006 ⟨fun z3 => absurd z3 z, fun _ => ?_⟩⟩, fun z2 => m_11006 ⟨fun z3 => absurd z3 z, fun _ => ⟨fun z3 => absurd (by omega) z2, fun _ => ⟨rfl, hS⟩⟩⟩⟩⟩
  rw [wr_same, wr_c (by decide)]
  refine ⟨fun _ => ⟨by omega, ?_, ?_⟩, fun z3 => absurd (by omega) z3⟩
  · rw [wr_same]; omega
  · refine ⟨a.x ?_ ?_ ?_ (fun c hc => ?_), b.x ?_ ?_ (fun k _ => ?_) (fun c hc => ?_), c.x ?_ ?_ ?_ (fun o _ => ?_) (fun c o hc _ => ?_) (fun c hc => ?_), d.x ?_ ?_ ?_ ?_ (fun o _ => ?_) (fun c o hc _ => ?_) (fun c hc => ?_), e.x ?_ (fun c hc => ?_), ?_⟩
    case refine_2.refine_24 =>
      unfold SP
      rw [wr_c (c' := 0) (by decide), wr_c (c' := 0) (by decide), wr_k (k' := 17) (by decide), wr_c (c := 8) (c' := 11) (by decide), wr_same, wr_c (c := 11) (c' := 8) (by decide), wr_same, wr_c (c' := 20) (by decide), wr_c (c' := 20) (by decide), wr_c (c' := 40) (by decide), wr_c (c' := 40) (by decide), wr_c (c' := 46) (by decide), wr_c (c' := 46) (by decide)]
      exact ⟨f1, by omega, by omega, fun i hi => f4 i (by omega), f5⟩
    all_goals first | rw [wr_c (by omega), wr_c (by omega)] | rw [wr_k (by decide), wr_c (by decide)] | rw [wr_c (by decide), wr_k (by decide)]
theorem p_forget {sc : Scr} {t : Nat} {μ : Mem} (hS : Sim μ) : PR sc t μ 49 11090 [] := by
  obtain ⟨a, b, c, d, e, f⟩ := hS
  have h71 := d.1.1
  refine m_49 (m_11090 ⟨?_, ?_⟩)
  · rw [wr_c (by decide), wr_c (by decide)]
    exact h71.symm
  · refine ⟨a.x ?_ ?_ ?_ (fun c hc => ?_), b.x ?_ ?_ (fun k _ => ?_) (fun c hc => ?_), c.x ?_ ?_ ?_ (fun o ho => ?_) (fun c o hc _ => ?_) (fun c hc => ?_), ?_, e.x ?_ (fun c hc => ?_), f.x ?_ ?_ ?_ ?_ (fun c hc => ?_)⟩
    case refine_15 =>
      have k3 : (wr (wr (wr (wr μ 3 3 4 0) 3 4 4 0) 11 0 71 0) 11 0 80 0) 3 3 4 = 0 := by rw [wr_c (by decide), wr_c (by decide), wr_i (by decide), wr_same]
      have k4 : (wr (wr (wr (wr μ 3 3 4 0) 3 4 4 0) 11 0 71 0) 11 0 80 0) 3 4 4 = 0 := by rw [wr_c (by decide), wr_c (by decide), wr_same]
      have k71 : (wr (wr (wr (wr μ 3 3 4 0) 3 4 4 0) 11 0 71 0) 11 0 80 0) 11 0 71 = 0 := by rw [wr_k (by decide), wr_same]
      have k80 : (wr (wr (wr (wr μ 3 3 4 0) 3 4 4 0) 11 0 71 0) 11 0 80 0) 11 0 80 = 0 := wr_same _ _ _ _ _
      generalize (wr (wr (wr (wr μ 3 3 4 0) 3 4 4 0) 11 0 71 0) 11 0 80 0) = ν at *
      refine ⟨⟨by omega, by omega, fun i hi => absurd hi (by omega)⟩, ⟨by omega, by omega, fun i hi => absurd hi (by omega)⟩, fun i hi => absurd hi (by omega), fun i hi => absurd hi (by omega)⟩
    all_goals first | rw [wr_c (by omega), wr_c (by omega), wr_c (by omega), wr_c (by omega)] | rw [wr_k (by decide), wr_k (by decide), wr_c (by decide), wr_c (by decide)] | rw [wr_c (by omega), wr_c (by omega), wr_i (by omega), wr_i (by omega)]
