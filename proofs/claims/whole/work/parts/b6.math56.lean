/-! MATHEMATICS, 56: put -/
def gpG (g : Gf) (w : Nat) (c : Int) : Gf := fun u k => if u = w then (if k = 1 then c else if k = 5 then 1 else g u k) else g u k
theorem gpG_o {g : Gf} {w u k : Nat} {c : Int} (h : u ≠ w ∨ (k ≠ 1 ∧ k ≠ 5)) : gpG g w c u k = g u k := by
  unfold gpG
  by_cases q : u = w
  · rw [if_pos q, if_neg (by omega), if_neg (by omega)]
  · rw [if_neg q]
theorem gpG_1 {g : Gf} {w : Nat} {c : Int} : gpG g w c w 1 = c := by
  unfold gpG
  rw [if_pos rfl, if_pos rfl]
theorem gpG_5 {g : Gf} {w : Nat} {c : Int} : gpG g w c w 5 = 1 := by
  unfold gpG
  rw [if_pos rfl, if_neg (by decide), if_pos rfl]
noncomputable def HLp (μ : Mem) (w : Nat) (c m e : Int) : Lst := rets (gpG (μ 9) w c) (μ 1 0 7) (μ 1 0 8) (μ 29 0 m.toNat) (μ 27 0 m.toNat) (μ 28 0 m.toNat) (μ 27 1 e.toNat) (μ 28 1 e.toNat)
def ptL (v : Nat → Int) : Nat → Int × Int
  | 0 => (0, -1)
  | c + 1 => if (ptL v c).2 < v c then ((c : Int), v c) else ptL v c
theorem ptL_s (v : Nat → Int) (c : Nat) : ptL v (c + 1) = if (ptL v c).2 < v c then ((c : Int), v c) else ptL v c := rfl
theorem ptL_c {v v' : Nat → Int} : ∀ {n : Nat}, (∀ c, c < n → v c = v' c) → ptL v n = ptL v' n
  | 0, _ => rfl
  | n + 1, h => by rw [ptL_s, ptL_s, ptL_c fun c hc => h c (by omega), h n (by omega)]
noncomputable def ptV (μ : Mem) (w : Nat) (m e : Int) (c : Nat) : Int := apart (HLp μ w (c : Int) m e) (μ 1 0 9)
noncomputable def F_put (w m e what : Int) (μ : Mem) : Int := ic (Nw μ w ∧ Nm μ 0 m ∧ Nm μ 1 e ∧ (0 ≤ what ∧ what ≤ 1)) (if what = 0 then (ptL (ptV μ w.toNat m e) 40).1 else (ptL (ptV μ w.toNat m e) 40).2) (-1)
def FPc (w : Nat) (μ0 μ : Mem) : Prop := ∀ c i k, ¬ (c = 9 ∧ i = w ∧ (k = 1 ∨ k = 5)) → c ≠ 7 → c ≠ 5 → ¬ (31 ≤ c ∧ c ≤ 34) → μ c i k = μ0 c i k
theorem FPc.c {w : Nat} {μ0 μ : Mem} (h : FPc w μ0 μ) {c : Nat} (h1 : c ≠ 9) (h2 : c ≠ 7) (h3 : c ≠ 5) (h4 : ¬ (31 ≤ c ∧ c ≤ 34)) : μ c = μ0 c := by
  funext i k
  exact h c i k (by omega) h2 h3 h4
theorem FPc.gw {w : Nat} {μ0 μ : Mem} {c : Int} (h : FPc w μ0 μ) (h5 : μ 9 w 5 = 1) : (wr μ 9 w 1 c) 9 = gpG (μ0 9) w c := by
  funext u k
  by_cases q : u = w
  · subst q
    by_cases k1 : k = 1
    · subst k1
      rw [wr_same, gpG_1]
    · rw [wr_k k1]
      by_cases k5 : k = 5
      · subst k5
        rw [h5, gpG_5]
      · rw [gpG_o (by omega)]
        exact h 9 u k (by omega) (by decide) (by decide) (by decide)
  · rw [wr_i q, gpG_o (by omega)]
    exact h 9 u k (by omega) (by decide) (by decide) (by decide)
theorem CO.gp {μ0 μ : Mem} {w : Nat} {c : Int} (hS : Sim μ0) (hw : (w : Int) < μ0 1 0 1) (hc : 0 ≤ c ∧ c ≤ 39) (e9 : μ 9 = gpG (μ0 9) w c) (e1 : μ 1 = μ0 1) : CO μ := by
  have h := hS.co
  have k := (hS.1.2.2.2.1 w hw).2.2
  refine ⟨fun u hu t => ?_, by rw [e1]; exact h.2.1, by rw [e1]; exact h.2.2⟩
  unfold Wok at *
  rw [e9] at t ⊢
  by_cases q : u = w
  · subst q
    rw [gpG_1, gpG_o (k := 0) (by omega), gpG_o (k := 2) (by omega), gpG_o (k := 3) (by omega), gpG_o (k := 4) (by omega)]
    exact ⟨⟨k.1.1, by omega, k.1.2.2⟩, k.2⟩
  · rw [gpG_o (by omega)] at t
    rw [gpG_o (by omega), gpG_o (by omega), gpG_o (by omega), gpG_o (by omega), gpG_o (by omega)]
    exact h.1 u hu t
theorem c_put {sc : Scr} {t : Nat} {w m e what : Int} (μ : Mem) (Q : Int → Mem → Prop) (hS : Sim μ) (h : ∀ μ', FW μ μ' → Q (F_put w m e what μ) μ') : RMi sc 13 39 [rfc 0 0, .inl w, .inl m, .inl e, .inl what] (t, 0, 0) μ Q := by
  unfold F_put at h
  have no : ¬ (Nw μ w ∧ Nm μ 0 m ∧ Nm μ 1 e ∧ (0 ≤ what ∧ what ≤ 1)) → Q (-1) μ := by
    intro z
    rw [ic_f z] at h
    exact h _ FW.rfl
  have hF := hS.2.2.1
  refine m_39 (sp_toldW hS.1.2.2.1.2 (fun hw => ⟨fun z => absurd z (by simp), fun _ => sp_has (N := 6) rfl hF.1.c6 (fun hm => ⟨fun z => absurd z (by decide), fun _ => sp_has (N := 6) rfl hF.2.1.c6 (fun he => ⟨fun z => absurd z (by decide), fun _ => sp_is01 (fun c2 => ⟨fun _ => m_39_53 ?_, fun z => absurd (by decide) z⟩) (fun c2 => ⟨fun z => absurd rfl z, fun _ => no fun z => c2 z.2.2.2⟩)⟩) (fun he => ⟨fun _ => no fun z => he z.2.2.1, fun z => absurd rfl z⟩)⟩) (fun hm => ⟨fun _ => no fun z => hm z.2.1, fun z => absurd rfl z⟩)⟩) (fun hw => ⟨fun _ => no fun z => hw z.1, fun z => absurd rfl z⟩))
  rw [ic_t ⟨hw, hm, he, c2⟩] at h
  obtain ⟨u, rfl⟩ := Int.eq_ofNat_of_zero_le hw.1
  rw [Int.toNat_natCast] at h ⊢
  have u8 : u < 8 := by have := hS.1.2.2.1; omega
  have f5 := hS.1.2.2.2.2.2.2 (ix9 μ u) (by have l := hS.1.1; unfold liv at l; unfold ix9; omega)
  have e5 := (hS.1.2.2.2.1 u hw.2).2.1
  have lp : ∀ (n c : Nat) (μ' : Mem) (q11 : AV), n + c = 40 → FPc u μ μ' → μ' 9 u 5 = 1 → R_39 sc 12 (PI t Q) t 82 [rfc 0 0, .inl (u : Int), .inl m, .inl e, .inl what, rfc 9 u, .inl (μ 9 u 1), .inl (μ 9 u 5), .inl (ptL (ptV μ u m e) c).1, .inl (ptL (ptV μ u m e) c).2, .inl (c : Int), q11] [] μ' := by
    intro n
    induction n with
    | zero =>
      intro c μ' q11 hc hP h5
      have : c = 40 := by omega
      subst this
      have F : FW μ (wr (wr μ' 9 u 1 (μ 9 u 1)) 9 u 5 (μ 9 u 5)) := by
        have all : ∀ c i k, c ≠ 7 → c ≠ 5 → ¬ (31 ≤ c ∧ c ≤ 34) → (wr (wr μ' 9 u 1 (μ 9 u 1)) 9 u 5 (μ 9 u 5)) c i k = μ c i k := by
          intro c i k h1 h2 h3
          by_cases q : c = 9 ∧ i = u ∧ (k = 1 ∨ k = 5)
          · obtain ⟨rfl, rfl, rfl | rfl⟩ := q
            · rw [wr_k (by decide), wr_same]
            · rw [wr_same]
          · unfold wr
            rw [if_neg fun z => q ⟨z.1, z.2.1, Or.inr z.2.2⟩, if_neg fun z => q ⟨z.1, z.2.1, Or.inl z.2.2⟩]
            exact hP c i k q h1 h2 h3
        refine ⟨fun c k => ?_, fun k _ => all 11 0 k (by decide) (by decide) (by decide), fun w _ => ?_, all 9 8 5 (by decide) (by decide) (by decide), fun c i j a _ _ => all c i j (by omega) (by omega) (by omega)⟩
        · unfold Kp at k
          funext i j
          exact all c i j (by omega) (by omega) (by omega)
        · funext k
          exact all 9 w k (by decide) (by decide) (by decide)
      have r := h _ F
      refine m_39_82 ⟨fun _ => ⟨by omega, fun z => PI_mk ?_, fun z => PI_mk ?_⟩, fun z => absurd (by decide) z⟩
      · rw [if_neg z] at r
        exact r
      · rw [if_pos (by omega)] at r
        exact r
    | succ n ih =>
      intro c μ' q11 hc hP h5
      have e9 := hP.gw (c := (c : Int)) h5
      have e1 : (wr μ' 9 u 1 (c : Int)) 1 = μ 1 := by rw [wr_c (by decide)]; exact hP.c (by decide) (by decide) (by decide) (by decide)
      have ck : ∀ k, k ≠ 9 → k ≠ 7 → k ≠ 5 → ¬ (31 ≤ k ∧ k ≤ 34) → (wr μ' 9 u 1 (c : Int)) k = μ k := fun k a b f g => by rw [wr_c a]; exact hP.c a b f g
      have hC : CO (wr μ' 9 u 1 (c : Int)) := CO.gp hS hw.2 (by omega) e9 e1
      have SF' : SF (wr μ' 9 u 1 (c : Int)) := hF.x (by rw [ck 11 (by decide) (by decide) (by decide) (by decide)]) (by rw [e1]) (by rw [e1]) (fun o _ => by rw [ck 3 (by decide) (by decide) (by decide) (by decide)]) (fun k o a _ => by rw [ck k (by omega) (by omega) (by omega) (by omega)]) (fun k a => ck k (by omega) (by omega) (by omega) (by omega))
      have G : GA (wr μ' 9 u 1 (c : Int)) := ⟨hC, SF', by rw [e1]; exact hS.ga.2.2⟩
      have nm : ∀ o i, Nm (wr μ' 9 u 1 (c : Int)) o i ↔ Nm μ o i := fun o i => by unfold Nm; rw [ck 3 (by decide) (by decide) (by decide) (by decide)]
      refine m_39_82 ⟨fun z => absurd z (by omega), fun _ => sp_heardApart G ((nm 0 m).mpr hm) ((nm 1 e).mpr he) fun μ2 F2 K2 => ?_⟩
      have ev : apart (HL (wr μ' 9 u 1 (c : Int)) m e) ((wr μ' 9 u 1 (c : Int)) 1 0 9) = ptV μ u m e c := by
        unfold HL RT ptV HLp
        rw [e9, e1, ck 27 (by decide) (by decide) (by decide) (by decide), ck 28 (by decide) (by decide) (by decide) (by decide), ck 29 (by decide) (by decide) (by decide) (by decide)]
      rw [ev]
      have P2 : FPc u μ μ2 := fun c' i k a b f g => by
        rw [K2 c' b f g]
        unfold wr
        rw [if_neg fun z => a ⟨z.1, z.2.1, Or.inl z.2.2⟩]
        exact hP c' i k a b f g
      have z5 : μ2 9 u 5 = 1 := by
        rw [K2 9 (by decide) (by decide) (by decide), wr_k (by decide)]
        exact h5
      have r := ih (c + 1) μ2 (.inl (ptV μ u m e c)) (by omega) P2 z5
      rw [ptL_s] at r
      refine ⟨fun z => ⟨by omega, ?_⟩, fun z => ⟨by omega, ?_⟩⟩
      · rw [if_neg (by omega)] at r
        exact r
      · rw [if_pos (by omega)] at r
        exact r
  refine lp 40 0 _ _ rfl (fun c i k a _ _ _ => ?_) (wr_same _ _ _ _ _)
  unfold wr
  rw [if_neg fun z => a ⟨z.1, z.2.1, Or.inr z.2.2⟩]
theorem sp_fillHeard2 {sc : Scr} {d t : Nat} {μ : Mem} {Q : Mem → Prop} {m e : Int} (hM : MO μ) (hF : SF μ) (w : μ 1 0 5 ≤ 40 ∧ μ 1 0 6 ≤ 40) (hm : Nm μ 0 m) (he : Nm μ 1 e) (h : ∀ μ', Fm 49 μ μ' → LMl μ' (rets (gM μ) (μ 11 0 48) (fallM μ) (μ 29 0 m.toNat) (μ 27 0 m.toNat) (μ 28 0 m.toNat) (μ 27 1 e.toNat) (μ 28 1 e.toNat)) → Q μ') : RMv sc (d + 6) 11063 [rfc 11 0, .inl m, .inl e] (t, 0, 0) μ Q := by
  have l := hM.1.1
  unfold liv at l
  have c1 := hF.1.2.1
  have c2 := hF.2.1.2.1
  obtain ⟨a1, a2, a3⟩ := hF.1.at hm
  obtain ⟨b1, b2, b3⟩ := hF.2.1.at he
  obtain ⟨d1, d2⟩ := hF.ml hm
  refine m_11063 ?_
  rw [a1, a2, b1, b2, d1]
  refine ⟨by omega, by omega, by omega, by omega, by omega, by omega, by omega, by omega, by omega, by omega, by omega, by omega, by omega, by omega, by omega, ?_⟩
  exact sp_fills hM (by omega) (by omega) d2.b h
def FPm (w : Nat) (μ0 μ : Mem) : Prop := ∀ c i k, ¬ ((c = 50 ∨ c = 54) ∧ i = 0 ∧ k = ix9 μ0 w) → ¬ (73 ≤ c ∧ c ≤ 78) → ¬ (c = 11 ∧ 49 ≤ k ∧ k ≤ 64) → μ c i k = μ0 c i k
theorem FPm.c {w : Nat} {μ0 μ : Mem} (h : FPm w μ0 μ) {c : Nat} (h1 : c ≠ 50) (h2 : c ≠ 54) (h3 : ¬ (73 ≤ c ∧ c ≤ 78)) (h4 : c ≠ 11) : μ c = μ0 c := by
  funext i k
  exact h c i k (by omega) h3 (by omega)
theorem FPm.f {w : Nat} {μ0 μ : Mem} (h : FPm w μ0 μ) {k : Nat} (h1 : ¬ (49 ≤ k ∧ k ≤ 64)) : μ 11 0 k = μ0 11 0 k := h 11 0 k (by omega) (by decide) (by omega)
theorem FPm.gw {w : Nat} {μ0 μ : Mem} {c : Int} (hl : liv μ0) (hw : w < 9) (hwc : (w : Int) < μ0 48 0 (lvM μ0)) (h : FPm w μ0 μ) (h5 : μ 54 0 (ix9 μ0 w) = 1) : ∀ u k, u < 9 → k < 6 → gM (wr μ 50 0 (ix9 μ0 w) c) u k = gpG (gM μ0) w c u k := by
  intro u k hu hk
  unfold liv at hl
  have e18 : (wr μ 50 0 (ix9 μ0 w) c) 11 0 18 = μ0 11 0 18 := by rw [wr_c (by decide)]; exact h.f (by decide)
  have e48 : (wr μ 50 0 (ix9 μ0 w) c) 48 = μ0 48 := by rw [wr_c (by decide)]; exact h.c (by decide) (by decide) (by decide) (by decide)
  unfold gM
  rw [e18, e48, wr_c (c := 50) (c' := 54) (by decide)]
  by_cases k5 : k = 5
  · subst k5
    by_cases q : u = w
    · subst q
      rw [gpG_5, if_pos rfl, if_pos (Or.inl hwc)]
      exact h5
    · rw [gpG_o (by omega), if_pos rfl, if_pos rfl]
      have ne : ((9 * (μ0 11 0 18)) + (u : Int)).toNat ≠ ix9 μ0 w := by unfold ix9; omega
      rw [h 54 0 _ (by omega) (by decide) (by omega)]
  · rw [if_neg k5, if_pos (by omega)]
    by_cases q : u = w
    · subst q
      by_cases k1 : k = 1
      · subst k1
        rw [gpG_1, wr_same]
      · rw [gpG_o (by omega), if_neg k5, if_pos (by omega), wr_c (by omega), h (49 + k) 0 _ (by omega) (by omega) (by omega)]
    · rw [gpG_o (by omega), if_neg k5, if_pos (by omega)]
      have ne : ((9 * (μ0 11 0 18)) + (u : Int)).toNat ≠ ix9 μ0 w := by unfold ix9; omega
      rw [wr_k ne, h (49 + k) 0 _ (by omega) (by omega) (by omega)]
theorem Gq.gp {g g' : Gf} (h : Gq g g') {w : Nat} {c : Int} (hw : ∀ k, k < 5 → g w k = g' w k) : Gq (gpG g w c) (gpG g' w c) := by
  intro u hu
  by_cases q : u = w
  · subst q
    refine ⟨by rw [gpG_5, gpG_5], fun _ k hk => ?_⟩
    by_cases k1 : k = 1
    · subst k1
      rw [gpG_1, gpG_1]
    · rw [gpG_o (by omega), gpG_o (by omega)]
      exact hw k hk
  · rw [gpG_o (by omega), gpG_o (by omega)]
    refine ⟨(h u hu).1, fun t k hk => ?_⟩
    rw [gpG_o (by omega), gpG_o (by omega)]
    exact (h u hu).2 t k hk
