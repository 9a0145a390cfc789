/-! MATHEMATICS, 40: wall, stands, move, pace, place, back, forget -/
theorem SW.x {μ μ' : Mem} (e18 : μ' 11 0 18 = μ 11 0 18) (e1 : μ' 1 0 1 = μ 1 0 1) (h9 : μ' 9 = μ 9) (h : ∀ c, 48 ≤ c ∧ c ≤ 54 → μ' c = μ c) (hS : SW μ) : SW μ' := by
  have eg : gM μ' = gM μ := by
    funext w k
    unfold gM
    rw [e18, h 48 (by decide), h 54 (by decide)]
    by_cases hk : k = 5
    · rw [if_pos hk, if_pos hk]
    · rw [if_neg hk, if_neg hk]
      by_cases h5 : k < 5
      · rw [if_pos h5, if_pos h5, h (49 + k) (by omega)]
      · rw [if_neg h5, if_neg h5]
  unfold SW liv lvM ix9 Wok at *
  rw [e18, e1, h9, eg, h 48 (by decide), h 54 (by decide)]
  exact hS
theorem SN.x {μ μ' : Mem} (e18 : μ' 11 0 18 = μ 11 0 18) (e48 : μ' 11 0 48 = μ 11 0 48) (h1 : ∀ k, 5 ≤ k ∧ k ≤ 9 → μ' 1 0 k = μ 1 0 k) (h : ∀ c, c = 66 ∨ c = 67 ∨ c = 69 ∨ c = 70 → μ' c = μ c) (hS : SN μ) : SN μ' := by
  unfold SN lvM at *
  rw [e18, e48, h1 5 (by decide), h1 6 (by decide), h1 7 (by decide), h1 8 (by decide), h1 9 (by decide), h 66 (by decide), h 67 (by decide), h 69 (by decide), h 70 (by decide)]
  exact hS
theorem Fk.x {μ μ' : Mem} {o cm cx cy : Nat} (e18 : μ' 11 0 18 = μ 11 0 18) (e5 : μ' 1 0 5 = μ 1 0 5) (e6 : μ' 1 0 6 = μ 1 0 6) (h3 : μ' 3 o 4 = μ 3 o 4) (h27 : μ' 27 o = μ 27 o) (h28 : μ' 28 o = μ 28 o) (a : μ' cm = μ cm) (b : μ' cx = μ cx) (c : μ' cy = μ cy) (hS : Fk μ o cm cx cy) : Fk μ' o cm cx cy := by
  unfold Fk lvM ix6 at *
  rw [e18, e5, e6, h3, h27, h28, a, b, c]
  exact hS
theorem SF.x {μ μ' : Mem} (e18 : μ' 11 0 18 = μ 11 0 18) (e5 : μ' 1 0 5 = μ 1 0 5) (e6 : μ' 1 0 6 = μ 1 0 6) (h3 : ∀ o, o < 3 → μ' 3 o 4 = μ 3 o 4) (hp : ∀ c o, 27 ≤ c ∧ c ≤ 30 → o < 3 → μ' c o = μ c o) (h : ∀ c, 55 ≤ c ∧ c ≤ 65 → μ' c = μ c) (hS : SF μ) : SF μ' := by
  obtain ⟨a, b, c, d, e⟩ := hS
  refine ⟨a.x e18 e5 e6 (h3 0 (by decide)) (hp 27 0 (by decide) (by decide)) (hp 28 0 (by decide) (by decide)) (h 55 (by decide)) (h 56 (by decide)) (h 57 (by decide)), b.x e18 e5 e6 (h3 1 (by decide)) (hp 27 1 (by decide) (by decide)) (hp 28 1 (by decide) (by decide)) (h 59 (by decide)) (h 60 (by decide)) (h 61 (by decide)), c.x e18 e5 e6 (h3 2 (by decide)) (hp 27 2 (by decide) (by decide)) (hp 28 2 (by decide) (by decide)) (h 62 (by decide)) (h 63 (by decide)) (h 64 (by decide)), ?_, ?_⟩
  · unfold ix6 at *
    rw [e18, h3 0 (by decide), hp 29 0 (by decide) (by decide), h 58 (by decide)]
    exact d
  · unfold ix6 at *
    rw [e18, h3 2 (by decide), hp 29 2 (by decide) (by decide), hp 30 2 (by decide) (by decide), h 65 (by decide)]
    exact e
theorem Tk.x {μ μ' : Mem} {o f cx cy cl ct : Nat} (ef : μ' 11 0 f = μ 11 0 f) (h3 : μ' 3 o 4 = μ 3 o 4) (hp : ∀ c, 27 ≤ c ∧ c ≤ 30 → μ' c o = μ c o) (a : μ' cx = μ cx) (b : μ' cy = μ cy) (c : μ' cl = μ cl) (d : μ' ct = μ ct) (hS : Tk μ o f cx cy cl ct) : Tk μ' o f cx cy cl ct := by
  unfold Tk at *
  rw [ef, h3, hp 27 (by decide), hp 28 (by decide), hp 29 (by decide), hp 30 (by decide), a, b, c, d]
  exact hS
theorem ST.x {μ μ' : Mem} (e71 : μ' 11 0 71 = μ 11 0 71) (e80 : μ' 11 0 80 = μ 11 0 80) (e5 : μ' 1 0 5 = μ 1 0 5) (e6 : μ' 1 0 6 = μ 1 0 6) (h3 : ∀ o, o = 3 ∨ o = 4 → μ' 3 o 4 = μ 3 o 4) (hp : ∀ c o, 27 ≤ c ∧ c ≤ 30 → o = 3 ∨ o = 4 → μ' c o = μ c o) (h : ∀ c, (79 ≤ c ∧ c ≤ 82) ∨ (85 ≤ c ∧ c ≤ 88) → μ' c = μ c) (hS : ST μ) : ST μ' := by
  obtain ⟨a, b, c, d⟩ := hS
  refine ⟨a.x e71 (h3 3 (by decide)) (fun c hc => hp c 3 hc (by decide)) (h 79 (by decide)) (h 80 (by decide)) (h 81 (by decide)) (h 82 (by decide)), b.x e80 (h3 4 (by decide)) (fun c hc => hp c 4 hc (by decide)) (h 85 (by decide)) (h 86 (by decide)) (h 87 (by decide)) (h 88 (by decide)), ?_, ?_⟩
  · rw [h3 3 (by decide), hp 27 3 (by decide) (by decide), hp 28 3 (by decide) (by decide), e5, e6]
    exact c
  · rw [h3 4 (by decide), hp 27 4 (by decide) (by decide), hp 28 4 (by decide) (by decide)]
    exact d
theorem SH.x {μ μ' : Mem} (e1 : μ' 1 0 1 = μ 1 0 1) (h : ∀ c, c = 6 ∨ c = 35 ∨ (90 ≤ c ∧ c ≤ 93) → μ' c = μ c) (hS : SH μ) : SH μ' := by
  unfold SH at *
  rw [e1, h 6 (by decide), h 35 (by decide), h 90 (by decide), h 91 (by decide), h 92 (by decide), h 93 (by decide)]
  exact hS
theorem SP.x {μ μ' : Mem} (e11 : μ' 0 0 11 = μ 0 0 11) (e17 : μ' 11 0 17 = μ 11 0 17) (e2 : μ' 11 0 2 = μ 11 0 2) (e8 : μ' 8 0 1 = μ 8 0 1) (h : ∀ c, c = 20 ∨ c = 40 ∨ c = 46 → μ' c = μ c) (hS : SP μ) : SP μ' := by
  unfold SP at *
  rw [e11, e17, e2, e8, h 20 (by decide), h 40 (by decide), h 46 (by decide)]
  exact hS
abbrev Nw (μ : Mem) (w : Int) : Prop := 0 ≤ w ∧ w < μ 1 0 1
theorem sp_toldW {sc : Scr} {d t : Nat} {μ : Mem} {Q : AR → Mem → Prop} {w : Int} (h8 : μ 1 0 1 ≤ 8) (h1 : Nw μ w → Q (some (9, w.toNat)) μ) (h0 : ¬ Nw μ w → Q none μ) : RMr sc (d + 1) 1003 [rfc 1 0, .inl w] (t, 0, 0) μ Q := by
  refine m_1003 ⟨fun c => h0 (by omega), fun c => ⟨fun c2 => h0 (by omega), fun c2 => ⟨fun c3 => absurd c3 (by omega), fun c3 => ⟨by omega, ?_⟩⟩⟩⟩
  rw [rF_wall (by omega)]
  exact h1 (by omega)
theorem sp_isNumber {sc : Scr} {d t : Nat} {μ : Mem} {Q : Int → Mem → Prop} {w : Int} (hl : liv μ) (e : μ 48 0 (lvM μ) = μ 1 0 1) (h8 : 0 ≤ μ 1 0 1 ∧ μ 1 0 1 ≤ 8) (h1 : Nw μ w → Q 1 μ) (h0 : ¬ Nw μ w → Q 0 μ) : RMi sc (d + 2) 11030 [rfc 11 0, .inl w] (t, 0, 0) μ Q := by
  unfold liv at hl
  unfold lvM at e
  exact m_11030 ⟨by omega, by omega, sp_in (fun c => ⟨Or.inr rfl, h1 (by omega)⟩) (fun c => ⟨Or.inl rfl, h0 (by omega)⟩)⟩
theorem SW.at {μ : Mem} (h : SW μ) {w : Int} (hw : Nw μ w) : (∀ k, k < 5 → μ (49 + k) 0 ((9 * (μ 11 0 18)) + w).toNat = μ 9 w.toNat k) ∧ μ 54 0 ((9 * (μ 11 0 18)) + w).toNat = μ 9 w.toNat 5 ∧ ((9 * (μ 11 0 18)) + w).toNat = ix9 μ w.toNat ∧ (0 ≤ (9 * (μ 11 0 18)) + w ∧ (9 * (μ 11 0 18)) + w < 18) ∧ w.toNat < 8 := by
  obtain ⟨l, n, n8, wl', wn, g8, fl⟩ := h
  obtain ⟨m, rfl⟩ := Int.eq_ofNat_of_zero_le hw.1
  unfold liv at l
  obtain ⟨a, b, c, d⟩ := wl' m hw.2
  rw [Int.toNat_natCast]
  refine ⟨fun k hk => ?_, b.symm, rfl, by omega, by omega⟩
  rw [a k hk, gM_k _ _ hk]
theorem PR_id {sc : Scr} {t : Nat} {μ : Mem} {j jm : Nat} {as : List AV} {v : Int} (hS : Sim μ) (hc : ∀ Q : Int → Mem → Prop, Q v μ → RMi sc 13 j (rfc 0 0 :: as) (t, 0, 0) μ Q) (hm : ∀ Q : Int → Mem → Prop, Q v μ → RMi sc 13 jm (rfc 11 0 :: as) (t, 0, 0) μ Q) : PR sc t μ j jm as := hc _ (hm _ ⟨rfl, hS⟩)
theorem p_wall {sc : Scr} {t : Nat} {μ : Mem} {w k : Int} (hS : Sim μ) : PR sc t μ 5 11029 [.inl w, .inl k] := by
  have W := hS.1
  by_cases hw : Nw μ w
  · obtain ⟨a, b, c, d, e⟩ := W.at hw
    have l := W.1
    have f0 := (W.2.2.2.1 w.toNat (by omega)).2.2.1.1
    have f5 := W.2.2.2.2.2.2 ((9 * (μ 11 0 18)) + w).toNat (by omega)
    rw [b] at f5
    have a0 := a 0 (by decide)
    have a1 := a 1 (by decide)
    have a2 := a 2 (by decide)
    have a3 := a 3 (by decide)
    have a4 := a 4 (by decide)
    unfold liv at l
    simp only [Nat.reduceAdd] at a0 a1 a2 a3 a4
    have M : ∀ (Q : Int → Mem → Prop), (k = 0 → Q (μ 9 w.toNat 0) μ) → (k = 1 → Q (μ 9 w.toNat 1) μ) → (k = 2 → Q (μ 9 w.toNat 2) μ) → (k = 3 → Q (μ 9 w.toNat 3) μ) → (k = 4 → Q (μ 9 w.toNat 4) μ) → (k = 5 → Q (μ 9 w.toNat 5) μ) → (k < 0 ∨ 6 ≤ k → Q (-1) μ) → RMi sc 13 11029 [rfc 11 0, .inl w, .inl k] (t, 0, 0) μ Q := by
      intro Q q0 q1 q2 q3 q4 q5 q6
      refine m_11029 (sp_isNumber W.1 W.2.1 W.2.2.1 (fun _ => ⟨fun _ => ?_, fun z => absurd (by decide) z⟩) (fun z => absurd hw z))
      rw [a0, a1, a2, a3, a4, b]
      refine ⟨by omega, by omega, fun z => ⟨d, fun y => ?_, fun y => ?_⟩, fun z => ⟨d, q1 z⟩, fun z => ⟨d, q2 z⟩, fun z => ⟨d, q3 z⟩, fun z => ⟨d, q4 z⟩, fun z => ⟨d, fun y => ?_, fun y => ?_⟩, q6⟩
      · have := q0 z
        rw [y] at this
        exact this
      · have := q0 z
        rw [show μ 9 w.toNat 0 = 1 by omega] at this
        exact this
      · have := q5 z
        rw [y] at this
        exact this
      · have := q5 z
        rw [show μ 9 w.toNat 5 = 1 by omega] at this
        exact this
    refine m_5 (sp_toldW W.2.2.1.2 (fun _ => ⟨fun _ => ⟨fun z => m_5_56 ⟨fun y => PI_mk ?_, fun y => PI_mk ?_⟩, fun z => m_5_69 (PI_mk ?_), fun z => m_5_74 (PI_mk ?_), fun z => m_5_79 (PI_mk ?_), fun z => m_5_84 (PI_mk ?_), fun z => m_5_89 ⟨fun y => PI_mk ?_, fun y => PI_mk ?_⟩, fun z => ?_⟩, fun z => absurd (by simp) z⟩) (fun z => absurd hw z))
    · refine M _ (fun _ => ⟨y.symm, hS⟩) (fun _ => ?_) (fun _ => ?_) (fun _ => ?_) (fun _ => ?_) (fun _ => ?_) (fun _ => ?_) <;> omega
    · refine M _ (fun _ => ⟨by omega, hS⟩) (fun _ => ?_) (fun _ => ?_) (fun _ => ?_) (fun _ => ?_) (fun _ => ?_) (fun _ => ?_) <;> omega
    · refine M _ (fun _ => ?_) (fun _ => ⟨rfl, hS⟩) (fun _ => ?_) (fun _ => ?_) (fun _ => ?_) (fun _ => ?_) (fun _ => ?_) <;> omega
    · refine M _ (fun _ => ?_) (fun _ => ?_) (fun _ => ⟨rfl, hS⟩) (fun _ => ?_) (fun _ => ?_) (fun _ => ?_) (fun _ => ?_) <;> omega
    · refine M _ (fun _ => ?_) (fun _ => ?_) (fun _ => ?_) (fun _ => ⟨rfl, hS⟩) (fun _ => ?_) (fun _ => ?_) (fun _ => ?_) <;> omega
    · refine M _ (fun _ => ?_) (fun _ => ?_) (fun _ => ?_) (fun _ => ?_) (fun _ => ⟨rfl, hS⟩) (fun _ => ?_) (fun _ => ?_) <;> omega
    · refine M _ (fun _ => ?_) (fun _ => ?_) (fun _ => ?_) (fun _ => ?_) (fun _ => ?_) (fun _ => ⟨y.symm, hS⟩) (fun _ => ?_) <;> omega
    · refine M _ (fun _ => ?_) (fun _ => ?_) (fun _ => ?_) (fun _ => ?_) (fun _ => ?_) (fun _ => ⟨by omega, hS⟩) (fun _ => ?_) <;> omega
    · refine M _ (fun _ => ?_) (fun _ => ?_) (fun _ => ?_) (fun _ => ?_) (fun _ => ?_) (fun _ => ?_) (fun _ => ⟨rfl, hS⟩) <;> omega
  · exact PR_id (v := -1) hS (fun Q q => m_5 (sp_toldW W.2.2.1.2 (fun z => absurd z hw) (fun _ => ⟨fun z => absurd rfl z, fun _ => q⟩))) (fun Q q => m_11029 (sp_isNumber W.1 W.2.1 W.2.2.1 (fun z => absurd z hw) (fun _ => ⟨fun z => absurd rfl z, fun _ => q⟩)))
theorem gM_54 {μ : Mem} {j : Nat} {v : Int} (w : Nat) {k : Nat} (hk : k < 5) : gM (wr μ 54 0 j v) w k = gM μ w k := by
  rw [gM_k _ _ hk, gM_k _ _ hk, wr_c (by omega), wr_c (by decide)]
/-- a wall's place and whether it stands, changed in both -/
theorem SW.st {μ : Mem} (h : SW μ) {w v : Int} (hw : Nw μ w) (hv : v = 0 ∨ v = 1) : SW (wr (wr μ 9 w.toNat 5 v) 54 0 ((9 * (μ 11 0 18)) + w).toNat v) := by
  obtain ⟨a, b, c, d, e⟩ := h.at hw
  obtain ⟨l, n, n8, wl', wn, g8, fl⟩ := h
  have l' := l
  unfold liv at l'
  unfold SW liv lvM ix9 Wok
  rw [c]
  simp only [wr_c (show (11 : Nat) ≠ 54 by decide), wr_c (show (11 : Nat) ≠ 9 by decide), wr_c (show (1 : Nat) ≠ 54 by decide), wr_c (show (1 : Nat) ≠ 9 by decide), wr_c (show (48 : Nat) ≠ 54 by decide), wr_c (show (48 : Nat) ≠ 9 by decide), wr_c (show (9 : Nat) ≠ 54 by decide)]
  refine ⟨l, n, n8, fun u hu => ?_, fun u hu hu2 => ?_, ?_, fun j hj => ?_⟩
  · obtain ⟨a', b', c', d'⟩ := wl' u hu
    unfold Wok at c'
    refine ⟨fun k hk => ?_, ?_, ?_⟩
    · rw [gM_54 _ hk, wr_k (by omega), a' k hk, gM_k _ _ hk, gM_k _ _ hk, wr_c (by omega), wr_c (by decide)]
    · by_cases q : u = w.toNat
      · subst q
        rw [wr_same, wr_same]
      · rw [wr_i (by omega), wr_k (by unfold ix9; omega), wr_c (by decide)]
        exact b'
    · rw [wr_k (by decide), wr_k (by decide), wr_k (by decide), wr_k (by decide), wr_k (by decide)]
      exact ⟨c', d'⟩
  · have hne : u ≠ w.toNat := by
      have := hw.2
      omega
    rw [wr_i hne]
    exact wn u hu hu2
  · rw [wr_k (by unfold ix9; omega), wr_c (by decide)]
    exact g8
  · by_cases q : j = ix9 μ w.toNat
    · rw [q, wr_same]
      exact hv
    · rw [wr_k q, wr_c (by decide)]
      exact fl j hj
