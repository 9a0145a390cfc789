/-! MATHEMATICS, 54: hidden walls, reference -/
def FGm (μ0 μ : Mem) : Prop := ∀ c i k, ¬ ((49 ≤ c ∧ c ≤ 54) ∧ i = 0 ∧ k = ix9 μ0 8) → ¬ (73 ≤ c ∧ c ≤ 78) → c ≠ 83 → c ≠ 84 → ¬ (c = 11 ∧ ((49 ≤ k ∧ k ≤ 64) ∨ k = 77 ∨ k = 79)) → μ c i k = μ0 c i k
def W8m (μ0 μ : Mem) (c : Nat) : Prop := ∀ k, k < 6 → μ (49 + k) 0 (ix9 μ0 8) = w8v c k
theorem FGm.c {μ0 μ : Mem} (h : FGm μ0 μ) {c : Nat} (h1 : ¬ (49 ≤ c ∧ c ≤ 54)) (h2 : ¬ (73 ≤ c ∧ c ≤ 78)) (h3 : c ≠ 83) (h4 : c ≠ 84) (h5 : c ≠ 11) : μ c = μ0 c := by
  funext i k
  exact h c i k (by omega) h2 h3 h4 (by omega)
theorem FGm.f {μ0 μ : Mem} (h : FGm μ0 μ) {k : Nat} (h1 : ¬ (49 ≤ k ∧ k ≤ 64)) (h2 : k ≠ 77) (h3 : k ≠ 79) : μ 11 0 k = μ0 11 0 k := h 11 0 k (by omega) (by omega) (by decide) (by decide) (by omega)
theorem FGm.fm {μ0 μ μ' : Mem} (h : FGm μ0 μ) (h2 : Fm 49 μ μ') : FGm μ0 μ' := fun c i k a b e f g => (h2 c i k b (by omega)).trans (h c i k a b e f g)
theorem W8m.fm {μ0 μ μ' : Mem} {c : Nat} (h : W8m μ0 μ c) (h2 : Fm 49 μ μ') : W8m μ0 μ' c := fun k hk => (h2 (49 + k) 0 _ (by omega) (by omega)).trans (h k hk)
theorem FGm.gs {μ0 μ : Mem} {c : Nat} (h : FGm μ0 μ) (w8 : W8m μ0 μ c) (hl : liv μ0) : ∀ w k, w < 9 → k < 6 → gM μ w k = gsG (gM μ0) c w k := by
  intro w k hw hk
  unfold liv at hl
  have e18 : μ 11 0 18 = μ0 11 0 18 := h.f (by decide) (by decide) (by decide)
  have e48 : μ 48 = μ0 48 := h.c (by decide) (by decide) (by decide) (by decide) (by decide)
  unfold gsG
  by_cases q : w = 8
  · subst q
    rw [if_pos rfl]
    unfold gM
    by_cases k5 : k = 5
    · rw [if_pos k5, if_pos (Or.inr rfl), e18]
      have := w8 5 (by decide)
      rw [k5]
      exact this
    · rw [if_neg k5, if_pos (by omega), e18]
      exact w8 k hk
  · rw [if_neg q]
    have ne : ((9 * (μ0 11 0 18)) + (w : Int)).toNat ≠ ix9 μ0 8 := by unfold ix9; omega
    unfold gM
    by_cases k5 : k = 5
    · rw [if_pos k5, if_pos k5, e18, e48, h 54 0 _ (by omega) (by decide) (by decide) (by decide) (by omega)]
    · rw [if_neg k5, if_neg k5, if_pos (by omega), if_pos (by omega), e18, h (49 + k) 0 _ (by omega) (by omega) (by omega) (by omega) (by omega)]
theorem FGm.mo {μ0 μ : Mem} {c : Nat} (h : FGm μ0 μ) (w8 : W8m μ0 μ c) (hM : MO μ0) (fl : ∀ j, j < 18 → μ0 54 0 j = 0 ∨ μ0 54 0 j = 1) : MO μ := by
  have l := hM.1.1
  have gs := h.gs w8 l
  have ok := w8_ok c
  have e18 : μ 11 0 18 = μ0 11 0 18 := h.f (by decide) (by decide) (by decide)
  have e5 : w8v c 5 = 1 := rfl
  have l' := l
  unfold liv at l'
  refine ⟨⟨by unfold liv; rw [e18]; exact l, ?_, fun w hw => ?_, fun w hw t => ?_⟩, fun w hw t => ?_, ?_, ?_⟩
  · rw [e18, h.c (c := 48) (by decide) (by decide) (by decide) (by decide) (by decide)]
    exact hM.1.2.1
  · rw [e18]
    by_cases q : w = 8
    · subst q
      have := w8 5 (by decide)
      right
      exact this.trans e5
    · rw [h 54 0 _ (by unfold ix9; omega) (by decide) (by decide) (by decide) (by omega)]
      exact fl _ (by omega)
  · rw [gs w 5 hw (by decide)] at t
    refine gok_c (g := gsG (gM μ0) c) (fun k hk => (gs w k hw (by omega)).symm) ?_
    unfold gsG at t
    by_cases q : w = 8
    · subst q
      have : gok (gsG (gM μ0) c) 8 := ⟨ok.1, ok.2.1, ok.2.2.1, ok.2.2.2.1⟩
      exact this
    · rw [if_neg q] at t
      refine gok_c (g := gM μ0) (fun k _ => ?_) (hM.1.2.2.2 w hw t)
      unfold gsG
      rw [if_neg q]
  · rw [gs w 5 hw (by decide)] at t
    rw [gs w 4 hw (by decide)]
    unfold gsG at t ⊢
    by_cases q : w = 8
    · subst q
      simp only [if_pos]
      exact ok.2.2.2.2
    · simp only [if_neg q] at t ⊢
      exact hM.2.1 w hw t
  · rw [h.f (k := 48) (by decide) (by decide) (by decide)]
    exact hM.2.2.1
  · unfold fallM
    rw [e18, h.c (c := 69) (by decide) (by decide) (by decide) (by decide) (by decide)]
    exact hM.2.2.2
theorem FGm.rg {μ0 μ : Mem} {c : Nat} (h : FGm μ0 μ) (w8 : W8m μ0 μ c) (hS : Sim μ0) (s x y u v : Int) : rets (gM μ) (μ 11 0 48) (fallM μ) s x y u v = RG μ0 c s x y u v := by
  have gs := h.gs w8 hS.1.1
  have e18 : μ 11 0 18 = μ0 11 0 18 := h.f (by decide) (by decide) (by decide)
  have e48 : μ 11 0 48 = μ0 1 0 7 := (h.f (k := 48) (by decide) (by decide) (by decide)).trans hS.2.1.1.1
  have ef : fallM μ = μ0 1 0 8 := by
    unfold fallM
    rw [e18, h.c (c := 69) (by decide) (by decide) (by decide) (by decide) (by decide)]
    exact hS.2.1.2.1.1
  rw [e48, ef]
  have g1 : Gq (gM μ) (gsG (gM μ0) c) := fun w hw => ⟨gs w 5 hw (by decide), fun _ k hk => gs w k hw (by omega)⟩
  rw [g1.rets]
  exact ((hS.gq.gs c).rets _ _ _ _ _ _ _).symm
theorem sp_thinks {sc : Scr} {d t : Nat} {μ0 μ : Mem} {Q : Mem → Prop} {c : Nat} (hl : liv μ0) (hc : c < 80) (hF : FGm μ0 μ) (h : ∀ μ', (∀ c i k, ¬ ((49 ≤ c ∧ c ≤ 54) ∧ i = 0 ∧ k = ix9 μ0 8) → μ' c i k = μ c i k) → FGm μ0 μ' → W8m μ0 μ' c → Q μ') : RMv sc (d + 1) 11093 [rfc 11 0, .inl (c : Int)] (t, 0, 0) μ Q := by
  have e18 : μ 11 0 18 = μ0 11 0 18 := hF.f (by decide) (by decide) (by decide)
  have l := hl
  unfold liv at l
  have ei : ((9 * (μ 11 0 18)) + 8).toNat = ix9 μ0 8 := by unfold ix9; rw [e18]; omega
  have fin : ∀ fl : Int, fl = w8v c 0 → Q (wr (wr (wr (wr (wr (wr μ 54 0 (ix9 μ0 8) 1) 49 0 (ix9 μ0 8) fl) 50 0 (ix9 μ0 8) ((c : Int) % 40)) 51 0 (ix9 μ0 8) 0) 52 0 (ix9 μ0 8) 99) 53 0 (ix9 μ0 8) 0) := by
    intro fl hfl
    have FF : ∀ c' i k, ¬ ((49 ≤ c' ∧ c' ≤ 54) ∧ i = 0 ∧ k = ix9 μ0 8) → (wr (wr (wr (wr (wr (wr μ 54 0 (ix9 μ0 8) 1) 49 0 (ix9 μ0 8) fl) 50 0 (ix9 μ0 8) ((c : Int) % 40)) 51 0 (ix9 μ0 8) 0) 52 0 (ix9 μ0 8) 99) 53 0 (ix9 μ0 8) 0) c' i k = μ c' i k := by
      intro c' i k hc'
      unfold wr
      rw [if_neg fun z => hc' ⟨by omega, z.2⟩, if_neg fun z => hc' ⟨by omega, z.2⟩, if_neg fun z => hc' ⟨by omega, z.2⟩, if_neg fun z => hc' ⟨by omega, z.2⟩, if_neg fun z => hc' ⟨by omega, z.2⟩, if_neg fun z => hc' ⟨by omega, z.2⟩]
    refine h _ FF (fun c i k a b e f g => (FF c i k a).trans (hF c i k a b e f g)) (fun k hk => ?_)
    have hk6 : k = 0 ∨ k = 1 ∨ k = 2 ∨ k = 3 ∨ k = 4 ∨ k = 5 := by omega
    rcases hk6 with rfl | rfl | rfl | rfl | rfl | rfl
    · rw [wr_c (by decide), wr_c (by decide), wr_c (by decide), wr_c (by decide), wr_same]
      exact hfl
    · rw [wr_c (by decide), wr_c (by decide), wr_c (by decide), wr_same]
      show ((c : Int) % 40) = ((c % 40 : Nat) : Int)
      omega
    · rw [wr_c (by decide), wr_c (by decide), wr_same]
      rfl
    · rw [wr_c (by decide), wr_same]
      rfl
    · rw [wr_same]
      rfl
    · rw [wr_c (by decide), wr_c (by decide), wr_c (by decide), wr_c (by decide), wr_c (by decide), wr_same]
      rfl
  have e0 : w8v c 0 = if c < 40 then 0 else 1 := rfl
  refine m_11093 ?_
  rw [ei]
  refine ⟨by omega, by omega, ⟨by omega, Or.inr rfl⟩, fun z => ⟨⟨by omega, Or.inl rfl⟩, ⟨by omega, by decide⟩, by omega, by omega, by omega, by omega, fin 0 (by rw [e0, if_pos (by omega)])⟩, fun z => ⟨⟨by omega, Or.inr rfl⟩, ⟨by omega, by decide⟩, by omega, by omega, by omega, by omega, fin 1 (by rw [e0, if_neg (by omega)])⟩⟩
theorem sp_thinksNone {sc : Scr} {d t : Nat} {μ0 μ : Mem} {Q : Mem → Prop} (hl : liv μ0) (hF : FGm μ0 μ) (h : Q (wr μ 54 0 (ix9 μ0 8) 0)) : RMv sc (d + 1) 11094 [rfc 11 0] (t, 0, 0) μ Q := by
  have e18 : μ 11 0 18 = μ0 11 0 18 := hF.f (by decide) (by decide) (by decide)
  have l := hl
  unfold liv at l
  have ei : ((9 * (μ 11 0 18)) + 8).toNat = ix9 μ0 8 := by unfold ix9; rw [e18]; omega
  refine m_11094 ?_
  rw [ei]
  exact ⟨by omega, by omega, ⟨by omega, Or.inl rfl⟩, h⟩
theorem FGm.end' {μ0 μ : Mem} (hF : FGm μ0 μ) : FGm μ0 (wr μ 54 0 (ix9 μ0 8) 0) := fun c i k a b e f g => by
  unfold wr
  rw [if_neg fun z => a ⟨by omega, z.2⟩]
  exact hF c i k a b e f g
theorem SMh.fm {μ μ' : Mem} {S : Nq} (h : Fm 49 μ μ') (hS : SMh μ S) : SMh μ' S := by
  unfold SMh
  rw [h.f (k := 77) (by decide), h.c (c := 83) (by decide) (by decide)]
  exact hS
theorem sp_fillHid {sc : Scr} {d t : Nat} {μ0 μ : Mem} {Q : Mem → Prop} {k : Int} (hS : Sim μ0) (hk : 0 ≤ k ∧ k ≤ μ0 3 3 4) (hF0 : FGm μ0 μ) (h : ∀ μ', FGm μ0 μ' → μ' 54 0 (ix9 μ0 8) = 0 → SMh μ' (hidS μ0 k) → Q μ') : RMv sc (d + 8) 11092 [rfc 11 0, .inl k] (t, 0, 0) μ Q := by
  have h20 := hS.2.2.2.1.1.2.1.2
  have fl := hS.1.2.2.2.2.2.2
  have lp : ∀ (m c : Nat) (μ' : Mem) (q3 q4 : AV), m + c = 80 → FGm μ0 μ' → SMh μ' (hsN (PdH μ0 k) c) → R_11092 sc (d + 7) (PV t Q) t 7 [rfc 11 0, .inl k, .inl (c : Int), q3, q4] [] μ' := by
    intro m
    induction m with
    | zero =>
      intro c μ' q3 q4 hc hF hC
      have : c = 80 := by omega
      subst this
      refine m_11092_7 ⟨fun _ => sp_thinksNone hS.1.1 hF (PV_mk (h _ hF.end' (wr_same _ _ _ _ _) ?_)), fun z => absurd (by decide) z⟩
      unfold SMh
      rw [wr_c (by decide), wr_c (by decide)]
      exact hC
    | succ m ih =>
      intro c μ' q3 q4 hc hF hC
      obtain ⟨n1, n2⟩ := hsN_le (PdH μ0 k) c
      refine m_11092_7 ⟨fun z => absurd z (by omega), fun _ => sp_thinks (c := c) hS.1.1 (by omega) hF fun μ2 f2 F2 w2 => ?_⟩
      have C2 : SMh μ2 (hsN (PdH μ0 k) c) := by
        unfold SMh
        rw [f2 11 0 77 (by omega)]
        exact ⟨hC.1, fun i hi => by rw [f2 83 0 i (by omega)]; exact hC.2 i hi⟩
      have out : ∀ (v : Int) (j : Nat) (μ3 : Mem), FGm μ0 μ3 → SMh μ3 (hsN (PdH μ0 k) c) → (v = 0 → ¬ PdH μ0 k c) → (v ≠ 0 → PdH μ0 k c) → R_11092 sc (d + 7) (PV t Q) t 80 [rfc 11 0, .inl k, .inl (c : Int), .inl v, .inl (j : Int)] [] μ3 := by
        intro v j μ3 F3 C3 h0 h1
        have k1 := C3.1
        refine m_11092_80 ⟨fun z => ⟨by omega, ?_, by omega, ?_⟩, fun z => ⟨by omega, ih (c + 1) μ3 _ _ (by omega) F3 ?_⟩⟩
        · rw [wr_c (by decide), k1]; omega
        · rw [k1, Int.toNat_natCast]
          refine ih (c + 1) _ _ _ (by omega) (fun c' i k' a b e f g => ?_) ?_
          · unfold wr
            rw [if_neg fun z => g ⟨z.1, Or.inr (Or.inl z.2.2)⟩, if_neg fun z => e z.1]
            exact F3 c' i k' a b e f g
          · rw [hsN_s, ic_t (h1 z)]
            refine ⟨?_, fun i hi => ?_⟩
            · rw [wr_same, wr_c (by decide), k1]
              unfold snN
              simp
            · rw [wr_c (by decide)]
              unfold snN at hi ⊢
              simp only [] at hi ⊢
              by_cases q : i = (hsN (PdH μ0 k) c).2
              · rw [if_pos q, q, wr_same]
              · rw [if_neg q, wr_k q]
                exact C3.2 i (by omega)
        · rw [hsN_s, ic_f (h0 (Decidable.not_not.mp z))]
          exact C3
      have lj : ∀ (n j : Nat) (v : Int) (μ3 : Mem), n + j = k.toNat → FGm μ0 μ3 → W8m μ0 μ3 c → SMh μ3 (hsN (PdH μ0 k) c) → ((v = 0 ∧ ¬ PdH μ0 k c) ∨ (v ≠ 0 ∧ ∀ i, i < j → hidJ μ0 c i)) → R_11092 sc (d + 7) (PV t Q) t 23 [rfc 11 0, .inl k, .inl (c : Int), .inl v, .inl (j : Int)] [] μ3 := by
        intro n
        induction n with
        | zero =>
          intro j v μ3 hj F3 w3 C3 hv
          refine m_11092_23 ⟨fun _ => out v j μ3 F3 C3 (fun z => ?_) (fun z => ?_), fun z => absurd (by omega) z⟩
          · rcases hv with hv | hv
            · exact hv.2
            · exact absurd z hv.1
          · rcases hv with hv | hv
            · exact absurd hv.1 z
            · exact fun i hi => hv.2 i (by omega)
        | succ n ihn =>
          intro j v μ3 hj F3 w3 C3 hv
          obtain ⟨pl, ll, a1, a2, a3, a4⟩ := hS.at3 (j := j) (by omega)
          refine m_11092_23 ⟨fun z => absurd z (by omega), fun _ => ⟨fun z => out v j μ3 F3 C3 (fun _ => ?_) (fun y => absurd z y), fun z => ?_⟩⟩
          · rcases hv with hv | hv
            · exact hv.2
            · exact absurd z hv.1
          · have hv2 : ∀ i, i < j → hidJ μ0 c i := by
              rcases hv with hv | hv
              · exact absurd hv.1 z
              · exact hv.2
            rw [Int.toNat_natCast, F3.c (c := 79) (by decide) (by decide) (by decide) (by decide) (by decide), F3.c (c := 80) (by decide) (by decide) (by decide) (by decide) (by decide), F3.c (c := 81) (by decide) (by decide) (by decide) (by decide) (by decide), a1, a2, a3]
            refine ⟨by omega, by omega, by omega, sp_echo (F3.mo w3 hS.mo fl) pl ll.b fun μ4 F4 => ⟨by omega, ?_⟩⟩
            rw [F3.rg w3 hS, F4.c (c := 82) (by decide) (by decide), F3.c (c := 82) (by decide) (by decide) (by decide) (by decide) (by decide), a4]
            have F4' := F3.fm F4
            refine ⟨fun y => ⟨by omega, ihn (j + 1) 0 μ4 (by omega) F4' (w3.fm F4) (C3.fm F4) (Or.inl ⟨rfl, fun w => y (w j (by omega))⟩)⟩, fun y => ⟨by omega, ihn (j + 1) 1 μ4 (by omega) F4' (w3.fm F4) (C3.fm F4) (Or.inr ⟨by decide, fun i hi => ?_⟩)⟩⟩
            by_cases q : i = j
            · subst q
              have y2 := Decidable.not_not.mp y
              exact y2
            · exact hv2 i (by omega)
      exact lj k.toNat 0 1 μ2 (by omega) F2 w2 C2 (Or.inr ⟨by decide, fun i hi => absurd hi (by omega)⟩)
  refine m_11092 (lp 80 0 _ _ _ rfl (fun c' i k' a b e f g => ?_) ⟨wr_same _ _ _ _ _, fun i hi => absurd hi (by unfold hsN; simp)⟩)
  unfold wr
  rw [if_neg fun z => g ⟨z.1, Or.inr (Or.inl z.2.2)⟩]
  exact hF0 c' i k' a b e f g
theorem FG.fw {μ0 μ : Mem} (h : FG μ0 μ) (h5 : μ 9 8 5 = 0) (h50 : μ0 9 8 5 = 0) : FW μ0 μ := by
  refine ⟨fun c k => ?_, fun k _ => h 11 0 k (by omega) (by decide) (by decide) (by decide), fun w hw => ?_, by rw [h5, h50], fun c i j a _ _ => h c i j (by omega) (by omega) (by omega) (by omega)⟩
  · unfold Kp at k
    exact h.c (by omega) (by omega) (by omega) (by omega)
  · funext k
    exact h 9 w k (by omega) (by decide) (by decide) (by decide)
theorem FGm.fw {μ0 μ : Mem} (h : FGm μ0 μ) (hl : liv μ0) (h5 : μ 54 0 (ix9 μ0 8) = 0) (h50 : μ0 54 0 (ix9 μ0 8) = 0) : FW μ0 μ := by
  unfold liv at hl
  refine ⟨fun c k => ?_, fun k _ => h 11 0 k (by omega) (by decide) (by decide) (by decide) (by omega), fun w hw => ?_, h 9 8 5 (by omega) (by decide) (by decide) (by decide) (by omega), fun c i j a h8 h17 => h c i j (by unfold ix9; omega) (by omega) (by omega) (by omega) (by omega)⟩
  · unfold Kp at k
    by_cases q : c = 54
    · subst q
      funext i j
      by_cases z : i = 0 ∧ j = ix9 μ0 8
      · rw [z.1, z.2, h5, h50]
      · exact h 54 i j (by omega) (by decide) (by decide) (by decide) (by omega)
    · exact h.c (by omega) (by omega) (by omega) (by omega) (by omega)
  · funext k
    exact h 9 w k (by omega) (by decide) (by decide) (by decide) (by omega)
theorem Sim.z8 {μ : Mem} (h : Sim μ) : μ 9 8 5 = 0 := h.1.2.2.2.2.1 8 (by decide) h.1.2.2.1.2
theorem FW.rg {μ μ' : Mem} (h : FW μ μ') (c : Nat) (s x y u v : Int) : RG μ' c s x y u v = RG μ c s x y u v := by
  unfold RG
  rw [h.e1]
  refine Gq.rets (fun w hw => ?_) _ _ _ _ _ _ _
  by_cases q : w = 8
  · subst q
    exact ⟨Eq.refl _, fun _ _ _ => Eq.refl _⟩
  · have e : μ' 9 w = μ 9 w := h.2.2.1 w (by omega)
    refine ⟨?_, fun _ k _ => ?_⟩
    · show (if w = 8 then w8v c 5 else μ' 9 w 5) = (if w = 8 then w8v c 5 else μ 9 w 5)
      rw [e]
    · show (if w = 8 then w8v c k else μ' 9 w k) = (if w = 8 then w8v c k else μ 9 w k)
      rw [e]
theorem FW.hid {μ μ' : Mem} (h : FW μ μ') (k : Int) : hidS μ' k = hidS μ k := by
  unfold hidS
  refine hsN_c fun c _ => ?_
  unfold PdH
  refine forall_congr' fun j => imp_congr_right fun _ => ?_
  unfold hidJ
  rw [h.rg, h.1 27 (by unfold Kp; omega), h.1 28 (by unfold Kp; omega), h.1 29 (by unfold Kp; omega), h.1 30 (by unfold Kp; omega)]
noncomputable def F_hid (k i : Int) (μ : Mem) : Int := ic ((0 ≤ k ∧ k ≤ μ 3 3 4) ∧ -1 ≤ i) (ic (i = -1) ((hidS μ k).2 : Int) (ic (0 ≤ i ∧ i < ((hidS μ k).2 : Int)) (cdH ((hidS μ k).1 i.toNat)) (-1))) (-1)
theorem p_hidden {sc : Scr} {t : Nat} {μ : Mem} {k i : Int} (hS : Sim μ) : PR sc t μ 50 11091 [.inl k, .inl i] := by
  refine PR_of (F_hid k i) hS (fun μ1 F1 => ?_) (fun μ Q hS h => ?_) (fun μ Q hS h => ?_)
  · unfold F_hid
    rw [F1.hid, F1.1 3 (by unfold Kp; omega)]
  · unfold F_hid at h
    have no : ¬ ((0 ≤ k ∧ k ≤ μ 3 3 4) ∧ -1 ≤ i) → Q (-1) μ := by
      intro z
      rw [ic_f z] at h
      exact h _ FW.rfl
    have l80 := (hsN_le (PdH μ k) 80).1
    refine m_50 ⟨fun c => no fun z => by omega, fun c => ⟨fun c1 => no fun z => by omega, fun c1 => ⟨fun c2 => sp_findHid hS (by omega) fun μ1 F1 z1 C1 => ?_, fun c2 => no fun z => c2 z.2⟩⟩⟩
    rw [ic_t ⟨by omega, c2⟩] at h
    have r := h μ1 (F1.fw z1 hS.z8)
    have e36 : slen 36 0 = 1600 := rfl
    have k1 := C1.1
    have l80' : (hidS μ k).2 ≤ 80 := l80
    refine ⟨fun c3 => m_2002 ⟨fun c4 => absurd c4 (by omega), fun c4 => ⟨fun c5 => ?_, fun c5 => ⟨fun c6 => absurd c6 (by omega), fun c6 => ⟨by omega, ?_⟩⟩⟩⟩, fun c3 => ?_⟩
    · rw [ic_f c3, ic_f (by omega)] at r
      exact r
    · rw [ic_f c3, ic_t ⟨by omega, by omega⟩] at r
      rw [C1.2 i.toNat (by omega)]
      exact r
    · rw [ic_t (by omega)] at r
      rw [k1]
      exact r
  · unfold F_hid at h
    have no : ¬ ((0 ≤ k ∧ k ≤ μ 3 3 4) ∧ -1 ≤ i) → Q (-1) μ := by
      intro z
      rw [ic_f z] at h
      exact h _ FW.rfl
    have e71 : μ 11 0 71 = μ 3 3 4 := hS.2.2.2.1.1.1
    have l80 : (hidS μ k).2 ≤ 80 := (hsN_le (PdH μ k) 80).1
    refine m_11091 ?_
    rw [e71]
    refine sp_in (fun c => ⟨fun z => absurd z (by decide), fun _ => ⟨fun c2 => sp_fillHid hS c (fun _ _ _ _ _ _ _ _ => rfl) fun μ1 F1 z1 C1 => ?_, fun c2 => no fun z => c2 z.2⟩⟩) (fun c => ⟨fun _ => no fun z => c z.1, fun z => absurd rfl z⟩)
    rw [ic_t ⟨c, c2⟩] at h
    have r := h μ1 (F1.fw hS.1.1 z1 hS.1.2.2.2.2.2.1)
    rw [C1.1]
    refine ⟨fun c3 => ⟨fun c4 => ⟨by omega, ?_⟩, fun c4 => ?_⟩, fun c3 => ?_⟩
    · rw [ic_f c3, ic_t ⟨by omega, by omega⟩] at r
      rw [C1.2 i.toNat (by omega)]
      unfold cdH at r
      have b80 := (hsN_le (PdH μ k) 80).2 i.toNat (by show i.toNat < (hidS μ k).2; omega)
      have b80' : (hidS μ k).1 i.toNat < 80 := b80
      refine ⟨fun c5 => ⟨by omega, ?_⟩, fun c5 => ⟨by omega, by omega, ?_⟩⟩
      · rw [if_pos (by omega)] at r
        exact r
      · rw [if_neg (by omega)] at r
        exact r
    · rw [ic_f c3, ic_f (by omega)] at r
      exact r
    · rw [ic_t (by omega)] at r
      exact r
