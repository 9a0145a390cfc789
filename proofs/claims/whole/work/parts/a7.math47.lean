/-! MATHEMATICS, 47: restore -/
theorem sp_giveBack {sc : Scr} {d t : Nat} {μ : Mem} {Q : Mem → Prop} {s v : Nat} (e35 : slen 35 s = 8) (h8 : 0 ≤ μ 1 0 1 ∧ μ 1 0 1 ≤ 8) (ev : μ 6 s 1 = (v : Int)) (hv : v < 256) (h : ∀ μ', (∀ c i k, ¬ (c = 9 ∧ i < 8 ∧ (k = 1 ∨ k = 5)) → ¬ (c = 1 ∧ i = 0 ∧ k = 7) → μ' c i k = μ c i k) → (∀ w, w < 8 → μ' 9 w 1 = μ 35 s w) → (∀ w, w < Cn μ → μ' 9 w 5 = ((v / 2 ^ w % 2 : Nat) : Int)) → (∀ w, Cn μ ≤ w → μ' 9 w 5 = μ 9 w 5) → μ' 1 0 7 = μ 6 s 2 → Q μ') : RMv sc (d + 2) 6002 [rfc 6 s, rfc 1 0] (t, 0, 0) μ Q := by
  have lp : ∀ (n k : Nat) (μ' : Mem), n + k = 8 → (∀ c i j, ¬ (c = 9 ∧ i < 8 ∧ j = 1) → μ' c i j = μ c i j) → (∀ w, w < k → μ' 9 w 1 = μ 35 s w) → R_6002 sc (d + 1) (PV t Q) t 2 [rfc 6 s, rfc 1 0, .inl (k : Int)] [] μ' := by
    intro n
    induction n with
    | zero =>
      intro k μ' hk hF hw
      have : k = 8 := by omega
      subst this
      have e1 : μ' 1 = μ 1 := by
        funext i j
        exact hF 1 i j (by omega)
      have e6 : μ' 6 = μ 6 := by
        funext i j
        exact hF 6 i j (by omega)
      have ec : Cn μ' = Cn μ := by unfold Cn; rw [e1]
      refine m_6002_2 ⟨fun _ => ?_, fun c => absurd (by rw [e35]; decide) c⟩
      rw [e6, ev]
      refine sp_setStanding hv (by rw [e1]; exact h8) fun μ2 F2 k2 => PV_mk (h _ (fun c i j h1 h2 => ?_) (fun w hw2 => ?_) (fun w hw2 => ?_) (fun w hw2 => ?_) ?_)
      · rw [ec] at F2
        have : (wr μ2 1 0 7 (μ2 6 s 2)) c i j = μ2 c i j := by
          unfold wr
          rw [if_neg h2]
        have c8 : Cn μ ≤ 8 := by unfold Cn; omega
        rw [this, F2 c i j (by omega), hF c i j (by omega)]
      · rw [wr_c (by decide), F2 9 w 1 (by omega)]
        exact hw w hw2
      · rw [wr_c (by decide)]
        exact k2 w (by rw [ec]; exact hw2)
      · rw [wr_c (by decide), F2 9 w 5 (by rw [ec]; omega), hF 9 w 5 (by omega)]
      · rw [wr_same, F2 6 s 2 (by omega), e6]
    | succ n ih =>
      intro k μ' hk hF hw
      refine m_6002_2 ⟨fun c => absurd c (by rw [e35]; omega), fun _ => ⟨by omega, ?_⟩⟩
      rw [Int.toNat_natCast, rF_wall (by omega)]
      refine m_6002_17 ⟨by rw [e35]; omega, by omega, ih (k + 1) _ (by omega) (fun c i j hc => ?_) (fun w hw2 => ?_)⟩
      · rw [← hF c i j hc]
        unfold wr
        rw [if_neg fun z => hc ⟨z.1, by rw [z.2.1]; omega, z.2.2⟩]
      · rw [Int.toNat_natCast]
        by_cases q : w = k
        · subst q
          rw [wr_same]
          exact hF 35 s w (by omega)
        · rw [wr_i q]
          exact hw w (by omega)
  exact m_6002 (lp 8 0 μ rfl (fun _ _ _ _ => rfl) fun w hw => absurd hw (by omega))
def FRs (μ μ' : Mem) : Prop := (∀ c i k, ¬ (c = 11 ∧ i = 0 ∧ k = 48) → c ≠ 50 → c ≠ 54 → μ' c i k = μ c i k) ∧ ∀ c k, c = 50 ∨ c = 54 → (∀ w, w < 8 → k ≠ ix9 μ w) → μ' c 0 k = μ c 0 k
theorem sp_restoreM {sc : Scr} {d t : Nat} {μ : Mem} {Q : Int → Mem → Prop} {s : Nat} (hs : s < 3) (hl : liv μ) (fl : ∀ j, j < 24 → μ 92 0 j = 0 ∨ μ 92 0 j = 1) (hf : μ 90 0 s ≠ 0) (h : ∀ μ', FRs μ μ' → μ' 11 0 48 = μ 93 0 s → (∀ w, w < 8 → μ' 50 0 (ix9 μ w) = μ 91 0 (8 * s + w) ∧ μ' 54 0 (ix9 μ w) = μ 92 0 (8 * s + w)) → Q 1 μ') : RMi sc (d + 2) 11104 [rfc 11 0, .inl (s : Int)] (t, 0, 0) μ Q := by
  unfold liv at hl
  have lp : ∀ (n k : Nat) (μ' : Mem), n + k = 8 → FRs μ μ' → μ' 11 0 48 = μ 93 0 s → (∀ w, w < k → μ' 50 0 (ix9 μ w) = μ 91 0 (8 * s + w) ∧ μ' 54 0 (ix9 μ w) = μ 92 0 (8 * s + w)) → R_11104 sc (d + 1) (PI t Q) t 32 [rfc 11 0, .inl (s : Int), .inl (k : Int)] [] μ' := by
    intro n
    induction n with
    | zero =>
      intro k μ' hk hF h48 hw
      have : k = 8 := by omega
      subst this
      exact m_11104_32 ⟨fun _ => PI_mk (h μ' hF h48 hw), fun c => absurd (by decide) c⟩
    | succ n ih =>
      intro k μ' hk hF h48 hw
      have e18 : μ' 11 0 18 = μ 11 0 18 := hF.1 11 0 18 (by decide) (by decide) (by decide)
      have e91 : μ' 91 = μ 91 := by
        funext i j
        exact hF.1 91 i j (by omega) (by decide) (by decide)
      have e92 : μ' 92 = μ 92 := by
        funext i j
        exact hF.1 92 i j (by omega) (by decide) (by decide)
      have ej : ((8 * (s : Int)) + (k : Int)).toNat = 8 * s + k := by omega
      have fk := fl (8 * s + k) (by omega)
      refine m_11104_32 ⟨fun c => absurd c (by omega), fun _ => ?_⟩
      rw [ej]
      rw [wr_c (c := 50) (c' := 11) (by decide), wr_c (c := 50) (c' := 92) (by decide), e18, e91, e92]
      refine ⟨by omega, by omega, by omega, by omega, by omega, by omega, by omega, by omega, by omega, by omega, by omega, ⟨by omega, fk⟩, by omega, ih (k + 1) _ (by omega) ⟨fun c i j a1 a2 a3 => ?_, fun c j hc hj => ?_⟩ ?_ (fun w hw2 => ⟨?_, ?_⟩)⟩
      · rw [wr_c a3, wr_c a2]
        exact hF.1 c i j a1 a2 a3
      · have jk := hj k (by omega)
        unfold ix9 at jk
        rw [wr_k jk, wr_k jk]
        exact hF.2 c j hc hj
      · rw [wr_c (by decide), wr_c (by decide)]
        exact h48
      · rw [wr_c (by decide)]
        by_cases q : w = k
        · subst q
          rw [wr_same]
        · rw [wr_k (by unfold ix9; omega)]
          exact (hw w (by omega)).1
      · by_cases q : w = k
        · subst q
          rw [wr_same]
        · rw [wr_k (by unfold ix9; omega), wr_c (by decide)]
          exact (hw w (by omega)).2
  refine m_11104 (sp_in (fun _ => ⟨fun z => absurd z (by decide), fun _ => ⟨by omega, ?_⟩⟩) (fun c => absurd ⟨by omega, by omega⟩ c))
  rw [Int.toNat_natCast]
  refine ⟨fun _ => ⟨by omega, lp 8 0 _ rfl ⟨fun c i j a1 a2 a3 => ?_, fun c j hc hj => ?_⟩ (wr_same _ _ _ _ _) (fun w hw => absurd hw (by omega))⟩, fun z => absurd hf z⟩
  · unfold wr
    rw [if_neg a1]
  · rw [wr_c (by omega)]
theorem p_restore {sc : Scr} {t : Nat} {μ : Mem} {s : Int} (hS : Sim μ) : PR sc t μ 10 11104 [.inl s] := by
  by_cases c : 0 ≤ s ∧ s ≤ 2
  · obtain ⟨m, rfl⟩ := Int.eq_ofNat_of_zero_le c.1
    have hm : m < 3 := by omega
    have e35 : slen 35 m = 8 := by
      have : m = 0 ∨ m = 1 ∨ m = 2 := by omega
      rcases this with rfl | rfl | rfl <;> rfl
    by_cases hf : μ 90 0 m = 0
    · have z6 : μ 6 m 3 = 0 := by rw [(hS.2.2.2.2.1.1 m hm).1, hf]
      refine PR_id (v := 0) hS (fun Q q => m_10 ⟨fun z => absurd z (by omega), fun _ => ⟨fun z => absurd z (by omega), fun _ => ⟨by omega, ?_⟩⟩⟩) (fun Q q => m_11104 (sp_in (fun _ => ⟨fun z => absurd z (by decide), fun _ => ⟨by omega, fun z => absurd ?_ z, fun _ => q⟩⟩) (fun z => absurd c z)))
      · rw [Int.toNat_natCast, rF_slot hm]
        exact m_10_19 ⟨fun z => absurd z6 z, fun _ => PI_mk q⟩
      · rw [Int.toNat_natCast]
        exact hf
    · obtain ⟨sw, sn, sf, st, sh, sp⟩ := hS
      obtain ⟨h1, h2, h3⟩ := sh.1 m hm
      obtain ⟨h4, h5, h6, h7⟩ := h3 hf
      obtain ⟨v, hv⟩ := Int.eq_ofNat_of_zero_le h6.1
      refine m_10 ⟨fun z => absurd z (by omega), fun _ => ⟨fun z => absurd z (by omega), fun _ => ⟨by omega, ?_⟩⟩⟩
      rw [Int.toNat_natCast, rF_slot hm]
      refine m_10_19 ⟨fun _ => ⟨by omega, ?_⟩, fun z => absurd (by rw [h1]; exact hf) z⟩
      rw [Int.toNat_natCast, rF_slot hm]
      refine m_10_33 (sp_giveBack (v := v) e35 sw.2.2.1 hv (by omega) fun μ1 F1 k1 k2 k3 k4 => PI_mk ?_)
      have g : ∀ c, c ≠ 9 → c ≠ 1 → μ1 c = μ c := fun c h1 h2 => by
        funext i k
        exact F1 c i k (by omega) (by omega)
      have l := sw.1
      unfold liv at l
      refine sp_restoreM hm (by unfold liv; rw [g 11 (by decide) (by decide)]; exact l) (by rw [g 92 (by decide) (by decide)]; exact sh.2) (by rw [g 90 (by decide) (by decide)]; exact hf) fun μ2 F2 k5 k6 => ⟨rfl, ?_⟩
      have g2 : ∀ c, c ≠ 9 → c ≠ 1 → c ≠ 50 → c ≠ 54 → c ≠ 11 → μ2 c = μ c := fun c h1 h2 h3 h4 h5 => by
        rw [← g c h1 h2]
        funext i k
        exact F2.1 c i k (by omega) h3 h4
      have g11 : ∀ k, k ≠ 48 → μ2 11 0 k = μ 11 0 k := fun k hk => by
        rw [← g 11 (by decide) (by decide)]
        exact F2.1 11 0 k (by omega) (by decide) (by decide)
      have o9 : μ2 9 = μ1 9 := by
        funext i k
        exact F2.1 9 i k (by omega) (by decide) (by decide)
      have o1 : ∀ k, k ≠ 7 → μ2 1 0 k = μ 1 0 k := fun k hk => by
        rw [F2.1 1 0 k (by omega) (by decide) (by decide)]
        exact F1 1 0 k (by omega) (by omega)
      have o17 : μ2 1 0 7 = μ 6 m 2 := by
        rw [F2.1 1 0 7 (by omega) (by decide) (by decide)]
        exact k4
      have ei : ∀ w, ix9 μ1 w = ix9 μ w := fun w => by unfold ix9; rw [g 11 (by decide) (by decide)]
      have ei2 : ∀ w, ix9 μ2 w = ix9 μ w := fun w => by unfold ix9; rw [g11 18 (by decide)]
      have c8 := sw.2.2.1
      refine ⟨⟨?_, ?_, ?_, fun w hw => ?_, fun w hw hw2 => ?_, ?_, fun j hj => ?_⟩, ?_, sf.x (g11 18 (by decide)) (o1 5 (by decide)) (o1 6 (by decide)) (fun o _ => by rw [g2 3 (by decide) (by decide) (by decide) (by decide) (by decide)]) (fun c o hc _ => by rw [g2 c (by omega) (by omega) (by omega) (by omega) (by omega)]) (fun c hc => g2 c (by omega) (by omega) (by omega) (by omega) (by omega)), st.x (g11 71 (by decide)) (g11 80 (by decide)) (o1 5 (by decide)) (o1 6 (by decide)) (fun o _ => by rw [g2 3 (by decide) (by decide) (by decide) (by decide) (by decide)]) (fun c o hc _ => by rw [g2 c (by omega) (by omega) (by omega) (by omega) (by omega)]) (fun c hc => g2 c (by omega) (by omega) (by omega) (by omega) (by omega)), sh.x (o1 1 (by decide)) (fun c hc => g2 c (by omega) (by omega) (by omega) (by omega) (by omega)), sp.x (by rw [g2 0 (by decide) (by decide) (by decide) (by decide) (by decide)]) (g11 17 (by decide)) (g11 2 (by decide)) (by rw [g2 8 (by decide) (by decide) (by decide) (by decide) (by decide)]) (fun c hc => g2 c (by omega) (by omega) (by omega) (by omega) (by omega))⟩
      · unfold liv; rw [g11 18 (by decide)]; exact l
      · unfold lvM; rw [g11 18 (by decide), g2 48 (by decide) (by decide) (by decide) (by decide) (by decide), o1 1 (by decide)]; exact sw.2.1
      · rw [o1 1 (by decide)]; exact c8
      · rw [o1 1 (by decide)] at hw
        have w8 : w < 8 := by omega
        obtain ⟨w1, w2, w3, w4⟩ := sw.2.2.2.1 w hw
        have p := h7 w hw
        have n9 : ∀ k, k ≠ 1 → k ≠ 5 → μ2 9 w k = μ 9 w k := fun k h1 h5 => by rw [o9]; exact F1 9 w k (by omega) (by omega)
        have w91 : μ2 9 w 1 = μ 35 m w := by rw [o9]; exact k1 w w8
        have w95 : μ2 9 w 5 = ((v / 2 ^ w % 2 : Nat) : Int) := by rw [o9]; exact k2 w (by unfold Cn; omega)
        have r50 : μ2 50 0 (ix9 μ w) = μ 91 0 (8 * m + w) := by have := (k6 w w8).1; rw [ei, g 91 (by decide) (by decide)] at this; exact this
        have r54 : μ2 54 0 (ix9 μ w) = μ 92 0 (8 * m + w) := by have := (k6 w w8).2; rw [ei, g 92 (by decide) (by decide)] at this; exact this
        unfold Wok at w3 ⊢
        rw [n9 0 (by decide) (by decide), n9 2 (by decide) (by decide), n9 3 (by decide) (by decide), n9 4 (by decide) (by decide), w91, w95, ei2, r54]
        refine ⟨fun k hk => ?_, ?_, ⟨w3.1, p.2.1, w3.2.2⟩, w4⟩
        · rw [gM_k _ _ hk]
          by_cases q : k = 1
          · subst q
            rw [w91, p.1, ← r50]
            exact congrArg _ (ei2 w).symm
          · rw [n9 k q (by omega), w1 k hk, gM_k _ _ hk, g11 18 (by decide), g2 (49 + k) (by omega) (by omega) (by omega) (by omega) (by omega)]
        · have t := tb_sh w w8 v (by omega)
          have q := p.2.2
          rw [hv, t] at q
          have f := sh.2 (8 * m + w) (by omega)
          have b : v / 2 ^ w % 2 < 2 := Nat.mod_lt _ (by decide)
          generalize v / 2 ^ w % 2 = z at *
          rcases f with f | f
          · have : ¬ ((z : Nat) : Int) = 1 := fun y => by have := q.mp y; omega
            omega
          · have := q.mpr f
            omega
      · rw [o1 1 (by decide)] at hw2
        rw [o9]
        rw [k3 w (by unfold Cn; omega)]
        exact sw.2.2.2.2.1 w hw hw2
      · rw [ei2]
        have : μ2 54 0 (ix9 μ 8) = μ1 54 0 (ix9 μ 8) := F2.2 54 _ (Or.inr rfl) fun w hw => by rw [ei]; unfold ix9; omega
        rw [this, g 54 (by decide) (by decide)]
        exact sw.2.2.2.2.2.1
      · by_cases q : ∃ w, w < 8 ∧ j = ix9 μ1 w
        · obtain ⟨w, hw, rfl⟩ := q
          rw [(k6 w hw).2, g 92 (by decide) (by decide)]
          exact sh.2 _ (by omega)
        · have : μ2 54 0 j = μ1 54 0 j := F2.2 54 _ (Or.inr rfl) fun w hw z => q ⟨w, hw, z⟩
          rw [this, g 54 (by decide) (by decide)]
          exact sw.2.2.2.2.2.2 j hj
      · unfold SN lvM at *
        rw [k5, g 93 (by decide) (by decide), o17, ← h4, g11 18 (by decide), o1 8 (by decide), o1 9 (by decide), o1 5 (by decide), o1 6 (by decide), g2 69 (by decide) (by decide) (by decide) (by decide) (by decide), g2 70 (by decide) (by decide) (by decide) (by decide) (by decide), g2 66 (by decide) (by decide) (by decide) (by decide) (by decide), g2 67 (by decide) (by decide) (by decide) (by decide) (by decide)]
        exact ⟨⟨rfl, h5⟩, sn.2⟩
  · refine PR_id (v := 0) hS (fun Q q => m_10 ⟨fun _ => q, fun _ => ⟨fun _ => q, fun _ => absurd ⟨by omega, by omega⟩ c⟩⟩) (fun Q q => m_11104 (sp_in (fun z => absurd z c) (fun _ => ⟨fun _ => q, fun z => absurd rfl z⟩)))
