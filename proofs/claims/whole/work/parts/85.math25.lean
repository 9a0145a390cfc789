/-! MATHEMATICS, 25: the reference fills its list -/
theorem L11038 {sc : Scr} {d t : Nat} {μ : Mem} {P : Option AV → AS → Prop} {px py qx qy s : Int} (hM : MO μ) (hp : Pl px py) (hq : Pl qx qy) (ex : μ 11 0 49 = px) (ey : μ 11 0 50 = py) (bs : 0 ≤ s ∧ s ≤ 99)
    (h : ∀ μ', Fm 51 μ μ' → LMl μ' (rets (gM μ) (μ 11 0 48) (fallM μ) s px py qx qy) → P none (fs (t, 0, 0) μ')) :
    ∀ (n a : Nat) (μ' : Mem) (q7 : AV), n + a = 9 → Fm 51 μ μ' → LMl μ' (ouL (gM μ) (μ 11 0 48) (fallM μ) s px py qx qy a) → R_11038 sc (d + 4) P t 37 [rfc 11 0, .inl px, .inl py, .inl qx, .inl qy, .inl s, .inl (a : Int), q7] [] μ' := by
  intro n
  induction n with
  | zero =>
    intro a μ' q7 ha hF hL
    have : a = 9 := by omega
    subst this
    exact m_11038_37 (sp_wallMost (hM.fm hF (by decide)).1 fun v v0 v9 hv => ⟨fun c => h μ' hF hL, fun c => absurd v9 c⟩)
  | succ n ih =>
    intro a μ' q7 ha hF hL
    have M' := hM.fm hF (by decide)
    have eg : gM μ' = gM μ := hF.g (by decide)
    obtain ⟨o1, o2, o3⟩ := ouL_n (g := gM μ) (pace := μ 11 0 48) (fall := fallM μ) (s := s) (px := px) (py := py) (qx := qx) (qy := qy) a (by omega)
    refine m_11038_37 (sp_wallMost M'.1 fun v v0 v9 hv => ⟨fun c => h μ' hF ?_, fun c => sp_isWall M'.1 (by omega) (fun t5 => ⟨fun _ => ?_, fun z => absurd (by decide) z⟩) (fun t5 => ⟨fun z => absurd rfl z, fun _ => ⟨by omega, ih (a + 1) μ' _ (by omega) hF ?_⟩⟩)⟩)
    · have e := ouL_stop (g := gM μ) (pace := μ 11 0 48) (fall := fallM μ) (s := s) (px := px) (py := py) (qx := qx) (qy := qy) (9 - a) a (fun w h1 h2 => by have := hv w (by omega) (by omega); rw [eg] at this; exact this)
      rw [show a + (9 - a) = 9 by omega] at e
      unfold rets
      rw [e]
      exact hL
    · have ta : gM μ a 5 ≠ 0 := by rw [← eg]; exact t5
      have wb := wy1_bd (g := gM μ') (M'.1.2.2.2 a (by omega) t5) hp hq
      have b1 := M'.2.1 a (by omega) t5
      have m := o1.mono (p' := 10 + ((a + 1 : Nat) : Int)) (q' := 100 + 10 * (a : Int)) (by omega) (by omega)
      obtain ⟨n1, n2⟩ := st1_n (g := gM μ) (pace := μ 11 0 48) (fall := fallM μ) (s := s) (px := px) (py := py) (qx := qx) (qy := qy) (a := a) m (by omega)
      have s1 := st1_s (g := gM μ) (pace := μ 11 0 48) (fall := fallM μ) (s := s) (px := px) (py := py) (qx := qx) (qy := qy) o1 (a := a) (by omega) (by omega) o2
      have rest : ∀ μ2, Fm 51 μ μ2 → LMl μ2 (st1 (gM μ) (μ 11 0 48) (fallM μ) s px py qx qy a (ouL (gM μ) (μ 11 0 48) (fallM μ) s px py qx qy a)) → R_11038 sc (d + 4) P t 85 [rfc 11 0, .inl px, .inl py, .inl qx, .inl qy, .inl s, .inl (a : Int), .inl 0] [] μ2 := by
        intro μ2 F2 hL2
        have iN := fun b => inL_n (g := gM μ) (pace := μ 11 0 48) (fall := fallM μ) (s := s) (px := px) (py := py) (qx := qx) (qy := qy) n1 (by omega) s1 b
        refine L11038i (μ := μ) (a := a) (L := st1 (gM μ) (μ 11 0 48) (fallM μ) s px py qx qy a (ouL (gM μ) (μ 11 0 48) (fallM μ) s px py qx qy a)) (by omega) ta hM hp hq ex ey bs (fun b => ?_) (fun b => ((iN b).1).mono (by omega) (by omega)) (fun μ3 q7 F3 hL3 => ih (a + 1) μ3 _ (by omega) F3 ?_) 9 0 μ2 rfl F2 hL2
        · have := (iN b).2.2
          split at this <;> omega
        · rw [ouL_s, if_neg ta]
          exact hL3
      refine sp_makes1 M'.1 (by omega) t5 hp hq (by rw [hF.f (by omega), ex]) (by rw [hF.f (by omega), ey]) (fun o μ2 F2 W2 e56 e57 _ => ⟨fun z => absurd z (by decide), fun _ => ⟨by omega, ?_⟩⟩) (fun o μ2 F2 => ⟨fun _ => rest μ2 (hF.trans F2.fm) ?_, fun z => absurd rfl z⟩)
      · have eg2 : gM μ2 = gM μ' := F2.g
        refine sp_addL (soft := gM μ' a 4) (M'.fm F2.fm (by decide)) W2 wb (hL.fk F2) (by omega) (fun i hi => ?_) bs (by omega) (by omega) (by rw [e56, sfO_w, eg2]; exact b1) (by rw [e57, sfO_n]; omega) (by rw [e56, e57, sfO_w, sfO_n, eg2]; omega) fun μ3 F3 hL3 => rest μ3 ((hF.trans F2.fm).trans F3.fm) ?_
        · have := o1 i hi
          omega
        · unfold st1
          rw [eg] at o hL3
          rw [ic_a o]
          rw [F2.fm.fall (by decide), hF.fall (by decide), F2.f (k := 48) (by omega), hF.f (k := 48) (by omega)] at hL3
          exact hL3
      · unfold st1
        rw [eg] at o
        rw [ic_f fun z => o z.1]
        exact hL.fk F2
    · rw [ouL_s, if_pos (by rw [← eg]; exact t5)]
      exact hL
/-- the reference's list of returns -/
theorem sp_fills {sc : Scr} {d t : Nat} {μ : Mem} {Q : Mem → Prop} {px py qx qy s : Int} (hM : MO μ) (hp : Pl px py) (hq : Pl qx qy) (bs : 0 ≤ s ∧ s ≤ 99)
    (h : ∀ μ', Fm 49 μ μ' → LMl μ' (rets (gM μ) (μ 11 0 48) (fallM μ) s px py qx qy) → Q μ') : RMv sc (d + 5) 11038 [rfc 11 0, .inl px, .inl py, .inl qx, .inl qy, .inl s] (t, 0, 0) μ Q := by
  have w0 : ∀ (m : Mem) (k : Nat) (v : Int), 49 ≤ k ∧ k ≤ 64 → Fm 49 m (wr m 11 0 k v) := fun m k v hk c' i' k' _ z => if_neg fun y => z ⟨y.1, by have := y.2.2; omega⟩
  have F0 : Fm 49 μ (wr (wr (wr μ 11 0 49 px) 11 0 50 py) 11 0 64 0) := ((w0 _ _ _ (by decide)).trans (w0 _ _ _ (by decide))).trans (w0 _ _ _ (by decide))
  have ex : (wr (wr (wr μ 11 0 49 px) 11 0 50 py) 11 0 64 0) 11 0 49 = px := by rw [wr_k (by decide), wr_k (by decide), wr_same]
  have ey : (wr (wr (wr μ 11 0 49 px) 11 0 50 py) 11 0 64 0) 11 0 50 = py := by rw [wr_k (by decide), wr_same]
  have ez : (wr (wr (wr μ 11 0 49 px) 11 0 50 py) 11 0 64 0) 11 0 64 = 0 := wr_same _ _ _ _ _
  refine m_11038 ?_
  generalize (wr (wr (wr μ 11 0 49 px) 11 0 50 py) 11 0 64 0) = ν at *
  have M' := hM.fm F0 (by decide)
  have eg : gM ν = gM μ := F0.g (by decide)
  have hL0 : LMl ν (fun _ => (0, 0, 0, 0), 0) := ⟨ez, fun i hi => absurd hi (by simp)⟩
  have rest : ∀ μ2, Fm 51 ν μ2 → LMl μ2 (st0 (gM ν) (ν 11 0 48) (fallM ν) s px py qx qy (fun _ => (0, 0, 0, 0), 0)) → R_11038 sc (d + 4) (PV t Q) t 37 [rfc 11 0, .inl px, .inl py, .inl qx, .inl qy, .inl s, .inl 0, vx] [] μ2 := by
    intro μ2 F2 hL2
    refine L11038 (μ := ν) M' hp hq ex ey bs (fun μ' F L => PV_mk (h μ' (F0.trans (F.mono (by decide))) ?_)) 9 0 μ2 _ rfl F2 hL2
    rw [eg, F0.fall (by decide), F0.f (k := 48) (by omega)] at L
    exact L
  have wb := wy0_bd hp hq
  refine sp_makes0 (w := wy0 px py qx qy) M'.1 wb ex ey (fun o μ2 F2 W2 e56 e57 => ⟨fun z => absurd z (by decide), fun _ => ?_⟩) (fun o μ2 F2 => ⟨fun _ => rest μ2 F2.fm ?_, fun z => absurd rfl z⟩)
  · refine sp_addL (soft := 0) (M'.fm F2.fm (by decide)) W2 wb (hL0.fk F2) (by decide) (fun i hi => absurd hi (by simp)) bs (by omega) (by omega) (by rw [e56, sfO_n]; omega) (by rw [e57, sfO_n]; omega) (by rw [e56, e57, sfO_n]; rfl) fun μ3 F3 hL3 => rest μ3 (F2.fm.trans F3.fm) ?_
    unfold st0
    rw [ic_a o]
    rw [F2.fm.fall (by decide), F2.f (k := 48) (by omega)] at hL3
    exact hL3
  · unfold st0
    rw [ic_f fun z => o z.1]
    exact hL0.fk F2
