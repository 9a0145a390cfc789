/-! MATHEMATICS, 46: hold -/
theorem sp_keep {sc : Scr} {d t : Nat} {μ : Mem} {Q : Mem → Prop} {s : Nat} (hs : s < 3) (e35 : slen 35 s = 8) (h8 : 0 ≤ μ 1 0 1 ∧ μ 1 0 1 ≤ 8) (h : ∀ μ', (∀ c i k, ¬ (c = 35 ∧ i = s) → ¬ (c = 6 ∧ i = s) → μ' c i k = μ c i k) → (∀ w, w < 8 → μ' 35 s w = μ 9 w 1) → μ' 6 s 1 = ((sbN (fun w => μ 9 w 5) (Cn μ) : Nat) : Int) → μ' 6 s 2 = μ 1 0 7 → μ' 6 s 3 = 1 → Q μ') : RMv sc (d + 2) 6001 [rfc 6 s, rfc 1 0] (t, 0, 0) μ Q := by
  have lp : ∀ (n k : Nat) (μ' : Mem), n + k = 8 → (∀ c i k, ¬ (c = 35 ∧ i = s) → μ' c i k = μ c i k) → (∀ w, w < k → μ' 35 s w = μ 9 w 1) → R_6001 sc (d + 1) (PV t Q) t 2 [rfc 6 s, rfc 1 0, .inl (k : Int)] [] μ' := by
    intro n
    induction n with
    | zero =>
      intro k μ' hk hF hw
      have : k = 8 := by omega
      subst this
      have e1 : μ' 1 = μ 1 := by
        funext i j
        exact hF 1 i j (by omega)
      have e9 : μ' 9 = μ 9 := by
        funext i j
        exact hF 9 i j (by omega)
      refine m_6001_2 ⟨fun _ => sp_standing (by rw [e1]; exact h8) ?_, fun c => absurd (by rw [e35]; decide) c⟩
      have ec : Cn μ' = Cn μ := by unfold Cn; rw [e1]
      rw [e9, ec]
      refine PV_mk (h _ (fun c i j h1 h2 => ?_) (fun w hw2 => ?_) ?_ ?_ ?_)
      · rw [← hF c i j h1]
        unfold wr
        rw [if_neg fun z => h2 ⟨z.1, z.2.1⟩, if_neg fun z => h2 ⟨z.1, z.2.1⟩, if_neg fun z => h2 ⟨z.1, z.2.1⟩]
      · rw [wr_c (by decide), wr_c (by decide), wr_c (by decide)]
        exact hw w hw2
      · rw [wr_k (by decide), wr_k (by decide), wr_same]
      · rw [wr_k (by decide), wr_same, wr_c (by decide), e1]
      · rw [wr_same]
    | succ n ih =>
      intro k μ' hk hF hw
      refine m_6001_2 ⟨fun c => absurd c (by rw [e35]; omega), fun _ => ⟨by omega, ?_⟩⟩
      rw [Int.toNat_natCast, rF_wall (by omega)]
      refine m_6001_22 ⟨by rw [e35]; omega, by omega, ih (k + 1) _ (by omega) (fun c i j hc => ?_) (fun w hw2 => ?_)⟩
      · rw [← hF c i j hc, Int.toNat_natCast]
        unfold wr
        rw [if_neg fun z => hc ⟨z.1, z.2.1⟩]
      · rw [Int.toNat_natCast]
        by_cases q : w = k
        · subst q
          rw [wr_same]
          exact hF 9 w 1 (by omega)
        · rw [wr_k q]
          exact hw w (by omega)
  exact m_6001 (lp 8 0 μ rfl (fun _ _ _ _ => rfl) fun w hw => absurd hw (by omega))
/-- what the reference holds -/
def FH (s : Nat) (μ μ' : Mem) : Prop := (∀ c i k, c ≠ 90 → c ≠ 91 → c ≠ 92 → c ≠ 93 → μ' c i k = μ c i k) ∧ (∀ k, k ≠ s → μ' 90 0 k = μ 90 0 k ∧ μ' 93 0 k = μ 93 0 k) ∧ μ' 90 0 s = 1 ∧ μ' 93 0 s = μ 11 0 48 ∧ (∀ k, ¬ (8 * s ≤ k ∧ k < 8 * s + 8) → μ' 91 0 k = μ 91 0 k ∧ μ' 92 0 k = μ 92 0 k)
theorem sp_holdM {sc : Scr} {d t : Nat} {μ : Mem} {Q : Int → Mem → Prop} {s : Nat} (hs : s < 3) (hl : liv μ) (fl : ∀ j, j < 18 → μ 54 0 j = 0 ∨ μ 54 0 j = 1) (h : ∀ μ', FH s μ μ' → (∀ w, w < 8 → μ' 91 0 (8 * s + w) = μ 50 0 (ix9 μ w) ∧ μ' 92 0 (8 * s + w) = μ 54 0 (ix9 μ w)) → Q 1 μ') : RMi sc (d + 2) 11103 [rfc 11 0, .inl (s : Int)] (t, 0, 0) μ Q := by
  unfold liv at hl
  have lp : ∀ (n k : Nat) (μ' : Mem), n + k = 8 → FH s μ μ' → (∀ w, w < k → μ' 91 0 (8 * s + w) = μ 50 0 (ix9 μ w) ∧ μ' 92 0 (8 * s + w) = μ 54 0 (ix9 μ w)) → R_11103 sc (d + 1) (PI t Q) t 30 [rfc 11 0, .inl (s : Int), .inl (k : Int)] [] μ' := by
    intro n
    induction n with
    | zero =>
      intro k μ' hk hF hw
      have : k = 8 := by omega
      subst this
      exact m_11103_30 ⟨fun _ => PI_mk (h μ' hF hw), fun c => absurd (by decide) c⟩
    | succ n ih =>
      intro k μ' hk hF hw
      have e18 : μ' 11 0 18 = μ 11 0 18 := hF.1 11 0 18 (by decide) (by decide) (by decide) (by decide)
      have e50 : μ' 50 = μ 50 := by
        funext i j
        exact hF.1 50 i j (by decide) (by decide) (by decide) (by decide)
      have e54 : μ' 54 = μ 54 := by
        funext i j
        exact hF.1 54 i j (by decide) (by decide) (by decide) (by decide)
      have ej : ((8 * (s : Int)) + (k : Int)).toNat = 8 * s + k := by omega
      have fk := fl (((9 * (μ 11 0 18)) + (k : Int)).toNat) (by omega)
      refine m_11103_30 ⟨fun c => absurd c (by omega), fun _ => ?_⟩
      rw [ej]
      rw [wr_c (c := 91) (c' := 11) (by decide), wr_c (c := 91) (c' := 54) (by decide), e18, e50, e54]
      refine ⟨by omega, by omega, by omega, by omega, by omega, by omega, by omega, by omega, by omega, by omega, by omega, ⟨by omega, fk⟩, by omega, ih (k + 1) _ (by omega) ⟨fun c i j a1 a2 a3 a4 => ?_, fun j hj => ⟨?_, ?_⟩, ?_, ?_, fun j hj => ⟨?_, ?_⟩⟩ (fun w hw2 => ⟨?_, ?_⟩)⟩
      · rw [wr_c a3, wr_c a2]
        exact hF.1 c i j a1 a2 a3 a4
      · rw [wr_c (by decide), wr_c (by decide)]
        exact (hF.2.1 j hj).1
      · rw [wr_c (by decide), wr_c (by decide)]
        exact (hF.2.1 j hj).2
      · rw [wr_c (by decide), wr_c (by decide)]
        exact hF.2.2.1
      · rw [wr_c (by decide), wr_c (by decide)]
        exact hF.2.2.2.1
      · rw [wr_c (by decide), wr_k (by omega)]
        exact (hF.2.2.2.2 j hj).1
      · rw [wr_k (by omega), wr_c (by decide)]
        exact (hF.2.2.2.2 j hj).2
      · rw [wr_c (by decide)]
        by_cases q : w = k
        · subst q
          rw [wr_same]
        · rw [wr_k (by omega)]
          exact (hw w (by omega)).1
      · by_cases q : w = k
        · subst q
          rw [wr_same]
        · rw [wr_k (by omega), wr_c (by decide)]
          exact (hw w (by omega)).2
  refine m_11103 (sp_in (fun _ => ⟨fun _ => ⟨⟨by omega, Or.inr rfl⟩, by omega, ?_⟩, fun z => absurd (by decide) z⟩) (fun c => absurd ⟨by omega, by omega⟩ c))
  rw [Int.toNat_natCast]
  refine lp 8 0 _ rfl ⟨fun c i j a1 a2 a3 a4 => ?_, fun j hj => ⟨?_, ?_⟩, ?_, ?_, fun j hj => ⟨?_, ?_⟩⟩ (fun w hw => absurd hw (by omega))
  · rw [wr_c a4, wr_c a1]
  · rw [wr_c (by decide), wr_k hj]
  · rw [wr_k hj, wr_c (by decide)]
  · rw [wr_c (by decide), wr_same]
  · rw [wr_same, wr_c (by decide)]
  · rw [wr_c (by decide), wr_c (by decide)]
  · rw [wr_c (by decide), wr_c (by decide)]
theorem p_hold {sc : Scr} {t : Nat} {μ : Mem} {s : Int} (hS : Sim μ) : PR sc t μ 9 11103 [.inl s] := by
  by_cases c : 0 ≤ s ∧ s ≤ 2
  · obtain ⟨m, rfl⟩ := Int.eq_ofNat_of_zero_le c.1
    have hm : m < 3 := by omega
    have e35 : slen 35 m = 8 := by
      have : m = 0 ∨ m = 1 ∨ m = 2 := by omega
      rcases this with rfl | rfl | rfl <;> rfl
    obtain ⟨sw, sn, sf, st, sh, sp⟩ := hS
    refine m_9 ⟨fun z => absurd z (by omega), fun _ => ⟨fun _ => ⟨by omega, ?_⟩, fun z => absurd (by omega) z⟩⟩
    rw [Int.toNat_natCast, rF_slot hm]
    refine m_9_21 (sp_keep hm e35 sw.2.2.1 fun μ1 F1 k1 k2 k3 k4 => PI_mk ?_)
    have g : ∀ c, c ≠ 35 → c ≠ 6 → μ1 c = μ c := fun c h1 h2 => by
      funext i k
      exact F1 c i k (by omega) (by omega)
    have l := sw.1
    unfold liv at l
    refine sp_holdM hm (by unfold liv; rw [g 11 (by decide) (by decide)]; exact l) (by rw [g 54 (by decide) (by decide)]; exact sw.2.2.2.2.2.2) fun μ2 F2 k5 => ⟨rfl, ?_⟩
    have g2 : ∀ c, c ≠ 35 → c ≠ 6 → ¬ (90 ≤ c ∧ c ≤ 93) → μ2 c = μ c := fun c h1 h2 h3 => by
      rw [← g c h1 h2]
      funext i k
      exact F2.1 c i k (by omega) (by omega) (by omega) (by omega)
    have o2 : ∀ c, c = 6 ∨ c = 35 → μ2 c = μ1 c := fun c hc => by
      funext i k
      exact F2.1 c i k (by omega) (by omega) (by omega) (by omega)
    have a1 := g2 1 (by decide) (by decide) (by decide)
    have a11 := g2 11 (by decide) (by decide) (by decide)
    refine ⟨sw.x (by rw [a11]) (by rw [a1]) (g2 9 (by decide) (by decide) (by decide)) (fun c hc => g2 c (by omega) (by omega) (by omega)), sn.x (by rw [a11]) (by rw [a11]) (fun k _ => by rw [a1]) (fun c hc => g2 c (by omega) (by omega) (by omega)), sf.x (by rw [a11]) (by rw [a1]) (by rw [a1]) (fun o _ => by rw [g2 3 (by decide) (by decide) (by decide)]) (fun c o hc _ => by rw [g2 c (by omega) (by omega) (by omega)]) (fun c hc => g2 c (by omega) (by omega) (by omega)), st.x (by rw [a11]) (by rw [a11]) (by rw [a1]) (by rw [a1]) (fun o _ => by rw [g2 3 (by decide) (by decide) (by decide)]) (fun c o hc _ => by rw [g2 c (by omega) (by omega) (by omega)]) (fun c hc => g2 c (by omega) (by omega) (by omega)), ⟨fun s hs => ?_, fun j hj => ?_⟩, sp.x (by rw [g2 0 (by decide) (by decide) (by decide)]) (by rw [a11]) (by rw [a11]) (by rw [g2 8 (by decide) (by decide) (by decide)]) (fun c hc => g2 c (by omega) (by omega) (by omega))⟩
    · by_cases q : s = m
      · subst q
        rw [o2 6 (by decide), o2 35 (by decide), F2.2.2.1, F2.2.2.2.1, g 11 (by decide) (by decide), k2, k3, k4, a1]
        refine ⟨rfl, Or.inr rfl, fun _ => ⟨sn.1.1.symm, sn.1.2, ⟨by omega, ?_⟩, fun w hw => ?_⟩⟩
        · have := sbN_256 (fun w => μ 9 w 5) (k := Cn μ) (by have := sw.2.2.1; unfold Cn; omega)
          omega
        · have w8 : w < 8 := by have := sw.2.2.1; omega
          obtain ⟨w1, w2, w3, w4⟩ := sw.2.2.2.1 w hw
          have b1 := w1 1 (by decide)
          rw [gM_k _ _ (by decide)] at b1
          have ei : ix9 μ1 w = ix9 μ w := by unfold ix9; rw [g 11 (by decide) (by decide)]
          have f5 := sw.2.2.2.2.2.2 (ix9 μ w) (by unfold ix9; omega)
          rw [(k5 w w8).1, (k5 w w8).2, k1 w w8, ei, g 50 (by decide) (by decide), g 54 (by decide) (by decide)]
          refine ⟨b1, w3.2.1, ?_⟩
          rw [tb_sh w w8 _ (sbN_256 _ (by have := sw.2.2.1; unfold Cn; omega)), sbN_d _ _ (by have := sw.2.2.1; unfold Cn; omega) w (by unfold Cn; omega), w2]
          by_cases z : μ 54 0 (ix9 μ w) = 0
          · rw [if_pos z, z]
            decide
          · rw [if_neg z]
            have : μ 54 0 (ix9 μ w) = 1 := by omega
            rw [this]
            decide
      · obtain ⟨h1, h2, h3⟩ := sh.1 s hs
        have e6 : μ2 6 s = μ 6 s := by
          rw [o2 6 (by decide)]
          funext k
          exact F1 6 s k (by omega) (by omega)
        have e35' : μ2 35 s = μ 35 s := by
          rw [o2 35 (by decide)]
          funext k
          exact F1 35 s k (by omega) (by omega)
        rw [e6, e35', (F2.2.1 s q).1, (F2.2.1 s q).2, g 90 (by decide) (by decide), g 93 (by decide) (by decide), a1]
        refine ⟨h1, h2, fun z => ?_⟩
        obtain ⟨h4, h5, h6, h7⟩ := h3 z
        refine ⟨h4, h5, h6, fun w hw => ?_⟩
        have w8 : w < 8 := by have := sw.2.2.1; omega
        rw [(F2.2.2.2.2 (8 * s + w) (by omega)).1, (F2.2.2.2.2 (8 * s + w) (by omega)).2, g 91 (by decide) (by decide), g 92 (by decide) (by decide)]
        exact h7 w hw
    · by_cases q : 8 * m ≤ j ∧ j < 8 * m + 8
      · have := (k5 (j - 8 * m) (by omega)).2
        rw [show 8 * m + (j - 8 * m) = j by omega] at this
        rw [this, g 54 (by decide) (by decide)]
        refine sw.2.2.2.2.2.2 _ ?_
        unfold ix9
        rw [g 11 (by decide) (by decide)]
        omega
      · rw [(F2.2.2.2.2 j q).2, g 92 (by decide) (by decide)]
        exact sh.2 j hj
  · refine PR_id (v := 0) hS (fun Q q => m_9 ⟨fun _ => q, fun _ => ⟨fun _ => absurd ⟨by omega, by omega⟩ c, fun _ => q⟩⟩) (fun Q q => m_11103 (sp_in (fun z => absurd z c) (fun _ => ⟨fun z => absurd rfl z, fun _ => q⟩)))
