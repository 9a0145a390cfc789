/-! MATHEMATICS, 85: the reference reads a text, up to its end -/
theorem L11007w {sc : Scr} {d t : Nat} {P : Option AV → AS → Prop} {b : Nat → Int} {n : Nat} {sd x1 : Int} (hs : sd = 0 ∨ sd = 1) : ∀ (m u : Nat) (μ : Mem), 401 ≤ u + m → μ 11 0 19 = sd → RE μ b n sd u → (∀ μ', Fte sd μ μ' → TksM μ' b n → (Flt μ' b n ∨ ∃ w u, AtV μ' b n w 0 u u ∧ LMa μ' b n sd u ∧ isAcc b n u) → R_11007 sc (d + 6) P t 115 [rfc 11 0, .inl x1, vx] [] μ') → R_11007 sc (d + 6) P t 93 [rfc 11 0, .inl x1, vx] [] μ := by
  intro m
  induction m with
  | zero =>
    intro u μ hm h19 hR h
    obtain ⟨hT, f | ⟨⟨w, hA⟩, hL⟩⟩ := hR
    · have f1 := f.1
      exact m_11007_93 ⟨fun _ => h μ Fte.rfl' hT (Or.inl f), fun z => absurd z (by omega)⟩
    · exact absurd (OKp.m hA.2.2.1) (by omega)
  | succ m ih =>
    intro u μ hm h19 hR h
    obtain ⟨hT, f | ⟨⟨w, hA⟩, hL⟩⟩ := hR
    · have f1 := f.1
      exact m_11007_93 ⟨fun _ => h μ Fte.rfl' hT (Or.inl f), fun z => absurd z (by omega)⟩
    · have hA' := hA
      obtain ⟨h13, h11, hO, hp, -⟩ := hA'
      exact m_11007_93 ⟨fun z => absurd h13 z, fun _ => sp_is (d := d + 5) hT h13 h11 hO (k := 1) (by decide) (by decide) (fun k1 => ⟨fun _ => h μ Fte.rfl' hT (Or.inr ⟨w, u, hA, hL, k1, by rw [hp.1]; rfl⟩), fun y => absurd (by decide) y⟩) (fun k1 => ⟨fun y => absurd rfl y, fun _ => sp_tellS (d := d) hT hA h19 hs hL k1 fun μ' F' u' hu R' => ih u' μ' (by omega) ((F'.fld (by decide)).trans h19) R' fun μ'' F'' => h μ'' (F'.trans F'')⟩)⟩
/-- what reading may change, reference -/
def FrM (sd : Int) (μ μ' : Mem) : Prop := (∀ c i k, ¬ (c = 11 ∧ i = 0 ∧ (k = 2 ∨ k = 4 ∨ (10 ≤ k ∧ k ≤ 17) ∨ k = 19 ∨ k = 20 ∨ k = 45)) → ¬ ((41 ≤ c ∧ c ≤ 45) ∨ c = 47 ∨ c = 71 ∨ c = 72) → ¬ (i = 0 ∧ insd sd c k) → μ' c i k = μ c i k) ∧ ∀ k, μ' 54 0 k = μ 54 0 k ∨ μ' 54 0 k = 0 ∨ μ' 54 0 k = 1
theorem FrM.rfl' {sd : Int} {μ : Mem} : FrM sd μ μ := ⟨fun _ _ _ _ _ _ => rfl, fun _ => Or.inl rfl⟩
theorem FrM.trans {sd : Int} {μ μ' μ'' : Mem} (h : FrM sd μ μ') (h2 : FrM sd μ' μ'') : FrM sd μ μ'' := ⟨fun c i k a b e => (h2.1 c i k a b e).trans (h.1 c i k a b e), fun k => (h2.2 k).elim (fun z => by rw [z]; exact h.2 k) Or.inr⟩
theorem Fte.m {sd : Int} {μ μ' : Mem} (h : Fte sd μ μ') : FrM sd μ μ' := ⟨fun c i k a b e => h.1 c i k (by omega) (by omega) e, h.2⟩
theorem FrM.w {sd : Int} {μ : Mem} {c k : Nat} {v : Int} (h : (c = 11 ∧ (k = 2 ∨ k = 4 ∨ (10 ≤ k ∧ k ≤ 17) ∨ k = 19 ∨ k = 20 ∨ k = 45)) ∨ ((41 ≤ c ∧ c ≤ 45) ∨ c = 47 ∨ c = 71 ∨ c = 72) ∨ insd sd c k) (hv : c = 54 → v = 0 ∨ v = 1 := by first | exact fun z => absurd z (by decide) | exact fun _ => Or.inr rfl | exact fun _ => Or.inl rfl) : FrM sd μ (wr μ c 0 k v) := by
  refine ⟨fun c' i' k' a b e => if_neg fun z => ?_, fun k' => ?_⟩
  · obtain ⟨rfl, rfl, rfl⟩ := z
    rcases h with h | h | h
    · exact a ⟨h.1, rfl, h.2⟩
    · exact b h
    · exact e ⟨rfl, h⟩
  · by_cases z : 54 = c ∧ 0 = 0 ∧ k' = k
    · have e : wr μ c 0 k v 54 0 k' = v := if_pos z
      rw [e]
      exact Or.inr (hv z.1.symm)
    · exact Or.inl (if_neg z)
theorem Fcu.m {sd : Int} {μ μ' : Mem} (h : Fcu μ μ') : FrM sd μ μ' := ⟨fun c i k a b _ => h c i k (by omega) (by omega), fun k => Or.inl (h 54 0 k (by omega) (by decide))⟩
theorem TksM.x {μ μ' : Mem} {b : Nat → Int} {n : Nat} (h : TksM μ b n) (e : ∀ c, 42 ≤ c ∧ c ≤ 45 → μ' c = μ c) : TksM μ' b n := by
  intro i hi hj
  have r := h i hi hj
  unfold TkM at *
  rw [e 42 (by decide), e 43 (by decide), e 44 (by decide), e 45 (by decide)]
  exact r
/-- the reference's beginning -/
def rd7 (μ : Mem) (sd : Int) : Mem := wr (wr (wr (wr (wr (wr (wr μ 11 0 11 0) 11 0 12 0) 11 0 13 0) 11 0 15 0) 11 0 19 sd) 11 0 20 0) 11 0 45 0
def pl10 (μ : Mem) (x : Int) : Mem := wr (wr (wr (wr (wr (wr (wr (wr (wr (wr μ 48 0 x.toNat 0) 55 0 x.toNat 0) 59 0 x.toNat 0) 62 0 x.toNat 0) 66 0 x.toNat 20) 67 0 x.toNat 20) 68 0 x.toNat 10) 69 0 x.toNat 10) 70 0 x.toNat 100) 54 0 ((9 * x) + 8).toNat 0
theorem pl10_c {μ : Mem} {x : Int} {c : Nat} (h : ¬ (c = 48 ∨ c = 54 ∨ c = 55 ∨ c = 59 ∨ c = 62 ∨ (66 ≤ c ∧ c ≤ 70))) : pl10 μ x c = μ c := by
  unfold pl10
  rw [wr_c (by omega), wr_c (by omega), wr_c (by omega), wr_c (by omega), wr_c (by omega), wr_c (by omega), wr_c (by omega), wr_c (by omega), wr_c (by omega), wr_c (by omega)]
theorem sp_plain {sc : Scr} {d t : Nat} {μ : Mem} {Q : Mem → Prop} {x : Int} (hx : x = 0 ∨ x = 1) (h : Q (pl10 μ x)) : RMv sc (d + 1) 11001 [rfc 11 0, .inl x] (t, 0, 0) μ Q :=
  m_11001 ⟨by omega, by omega, by omega, ⟨by omega, by omega, by omega, ⟨by omega, by omega, by omega, ⟨by omega, by omega, ⟨by omega, Or.inl rfl⟩, h⟩⟩⟩⟩
theorem rd7_m {μ : Mem} {sd : Int} : FrM sd μ (rd7 μ sd) := ((((((FrM.w (by omega)).trans (FrM.w (by omega))).trans (FrM.w (by omega))).trans (FrM.w (by omega))).trans (FrM.w (by omega))).trans (FrM.w (by omega))).trans (FrM.w (by omega))
theorem pl10_m {μ : Mem} {sd : Int} (hs : sd = 0 ∨ sd = 1) : FrM sd μ (pl10 μ sd) := by
  have i1 : ∀ c, (c = 48 ∨ c = 55 ∨ c = 59 ∨ c = 62 ∨ (66 ≤ c ∧ c ≤ 70)) → insd sd c sd.toNat := fun c hc => by unfold insd; omega
  have i2 : insd sd 54 ((9 * sd) + 8).toNat := by unfold insd; omega
  exact (((((((((FrM.w (Or.inr (Or.inr (i1 48 (by decide))))).trans (FrM.w (Or.inr (Or.inr (i1 55 (by decide)))))).trans (FrM.w (Or.inr (Or.inr (i1 59 (by decide)))))).trans (FrM.w (Or.inr (Or.inr (i1 62 (by decide)))))).trans (FrM.w (Or.inr (Or.inr (i1 66 (by decide)))))).trans (FrM.w (Or.inr (Or.inr (i1 67 (by decide)))))).trans (FrM.w (Or.inr (Or.inr (i1 68 (by decide)))))).trans (FrM.w (Or.inr (Or.inr (i1 69 (by decide)))))).trans (FrM.w (Or.inr (Or.inr (i1 70 (by decide)))))).trans (FrM.w (Or.inr (Or.inr i2)))
theorem pl10_L {μ : Mem} {b : Nat → Int} {n : Nat} {sd : Int} (h54 : ∀ j, j < 18 → μ 54 0 j = 0 ∨ μ 54 0 j = 1) : LMa (pl10 μ sd) b n sd 0 := by
  refine ⟨⟨?_, fun k hk => absurd hk (by unfold cS; omega), ?_, fun j hj => ?_⟩, ⟨?_, fun k hk => absurd hk (by unfold cS; omega)⟩, ⟨?_, fun k hk => absurd hk (by unfold cS; omega)⟩, ⟨?_, fun k hk => absurd hk (by unfold cS; omega)⟩, ?_, ?_, ?_, ?_, ?_⟩
  · unfold pl10 cS
    rw [wr_c (by decide), wr_c (by decide), wr_c (by decide), wr_c (by decide), wr_c (by decide), wr_c (by decide), wr_c (by decide), wr_c (by decide), wr_c (by decide), wr_same]
    rfl
  · exact wr_same _ _ _ _ _
  · unfold pl10
    by_cases q : j = ((9 * sd) + 8).toNat
    · rw [q, wr_same]; exact Or.inl rfl
    · rw [wr_k q, wr_c (by decide), wr_c (by decide), wr_c (by decide), wr_c (by decide), wr_c (by decide), wr_c (by decide), wr_c (by decide), wr_c (by decide), wr_c (by decide)]
      exact h54 j hj
  · unfold pl10 cS
    rw [wr_c (by decide), wr_c (by decide), wr_c (by decide), wr_c (by decide), wr_c (by decide), wr_c (by decide), wr_c (by decide), wr_c (by decide), wr_same]
    rfl
  · unfold pl10 cS
    rw [wr_c (by decide), wr_c (by decide), wr_c (by decide), wr_c (by decide), wr_c (by decide), wr_c (by decide), wr_c (by decide), wr_same]
    rfl
  · unfold pl10 cS
    rw [wr_c (by decide), wr_c (by decide), wr_c (by decide), wr_c (by decide), wr_c (by decide), wr_c (by decide), wr_same]
    rfl
  · unfold pl10 nS
    rw [wr_c (by decide), wr_c (by decide), wr_c (by decide), wr_c (by decide), wr_c (by decide), wr_same]
  · unfold pl10 nS
    rw [wr_c (by decide), wr_c (by decide), wr_c (by decide), wr_c (by decide), wr_same]
  · unfold pl10 nS
    rw [wr_c (by decide), wr_c (by decide), wr_c (by decide), wr_same]
  · unfold pl10 nS
    rw [wr_c (by decide), wr_c (by decide), wr_same]
  · unfold pl10 nS
    rw [wr_c (by decide), wr_same]
theorem sp_readB {sc : Scr} {d t : Nat} {μ : Mem} {Q : Int → Mem → Prop} {b : Nat → Int} {n : Nat} {sd : Int} (h2 : μ 11 0 2 = (n : Int)) (hn : n ≤ 2000) (hb : ∀ i, i < n → (-128 ≤ μ 40 0 i ∧ μ 40 0 i ≤ 127) ∧ andv (μ 40 0 i) 255 = b i) (h46 : ∀ k, k < 10 → μ 46 0 k = kwd k) (h18 : μ 11 0 18 = 1 - sd) (hs : sd = 0 ∨ sd = 1) (h54 : ∀ j, j < 18 → μ 54 0 j = 0 ∨ μ 54 0 j = 1) (h : ∀ μ' x1, FrM sd μ μ' → μ' 11 0 2 = 0 → μ' 11 0 19 = sd → RE μ' b n sd 0 → R_11007 sc (d + 6) (PI t Q) t 93 [rfc 11 0, .inl x1, vx] [] μ') : RMi sc (d + 7) 11007 [rfc 11 0] (t, 0, 0) μ Q := by
  have loop : ∀ (m i : Nat), m + i = n → ∀ μ', (∀ c a k, c ≠ 41 → μ' c a k = (wr μ 11 0 4 (μ 11 0 2)) c a k) → (∀ j, j < i → μ' 41 0 j = μ 40 0 j) → FrM sd μ μ' → R_11007 sc (d + 6) (PI t Q) t 10 [rfc 11 0, .inl (i : Int), vx] [] μ' := by
    intro m
    induction m with
    | zero =>
      intro i hi μ' F C FF
      have hin : i = n := by omega
      subst hin
      have e4 : μ' 11 0 4 = (i : Int) := by rw [F 11 0 4 (by decide), wr_same]; exact h2
      have e46 : ∀ k, k < 10 → (wr μ' 11 0 2 0) 46 0 k = kwd k := fun k hk => by
        rw [wr_c (by decide), F 46 0 k (by decide), wr_c (by decide)]
        exact h46 k hk
      refine m_11007_10 ?_
      rw [e4]
      refine ⟨fun _ => sp_cut (d := d + 3) (b := b) (n := i) ⟨by rw [wr_k (by decide)]; exact e4, hn, fun j hj => ?_, e46⟩ fun μ1 C1 => ?_, fun z => absurd (by omega) z⟩
      · rw [wr_c (by decide), C j hj, (hb j hj).2]
        have := by_b (hb j hj).1
        rw [(hb j hj).2] at this
        exact ⟨rfl, this⟩
      · have e18 : (wr (wr (wr (wr μ1 11 0 11 0) 11 0 12 0) 11 0 13 0) 11 0 15 0) 11 0 18 = 1 - sd := by
          rw [wr_k (by decide), wr_k (by decide), wr_k (by decide), wr_k (by decide), C1.1 11 0 18 (by decide) (by decide), wr_k (by decide), F 11 0 18 (by decide), wr_k (by decide)]
          exact h18
        rw [e18, show (1 : Int) - (1 - sd) = sd by omega]
        have e19 : (wr (wr (wr (wr (wr (wr (wr μ1 11 0 11 0) 11 0 12 0) 11 0 13 0) 11 0 15 0) 11 0 19 sd) 11 0 20 0) 11 0 45 0) 11 0 19 = sd := by
          rw [wr_k (by decide), wr_k (by decide), wr_same]
        rw [e19]
        refine ⟨by omega, sp_plain (d := d + 5) hs ?_⟩
        have Fc := pl10_m (μ := rd7 μ1 sd) hs
        have e11 : ∀ k, pl10 (rd7 μ1 sd) sd 11 0 k = rd7 μ1 sd 11 0 k := fun k => by rw [pl10_c (by decide)]
        refine h (pl10 (rd7 μ1 sd) sd) _ ((((FF.trans (FrM.w (by omega))).trans C1.1.m).trans rd7_m).trans Fc) ?_ ?_ ⟨?_, Or.inr ⟨⟨1, ?_⟩, pl10_L fun j hj => ?_⟩⟩
        · rw [e11]
          unfold rd7
          rw [wr_k (by decide), wr_k (by decide), wr_k (by decide), wr_k (by decide), wr_k (by decide), wr_k (by decide), wr_k (by decide), C1.1 11 0 2 (by decide) (by decide), wr_same]
        · rw [e11]
          unfold rd7
          rw [wr_k (by decide), wr_k (by decide), wr_same]
        · refine TksM.x (μ := μ1) C1.2 fun c hc => ?_
          rw [pl10_c (by omega)]
          unfold rd7
          rw [wr_c (by omega), wr_c (by omega), wr_c (by omega), wr_c (by omega), wr_c (by omega), wr_c (by omega), wr_c (by omega)]
        · refine ⟨?_, ?_, fun u hu => absurd hu (by omega), ⟨rfl, Or.inl rfl⟩, ⟨?_, fun z => absurd rfl z⟩, ⟨?_, fun v hv => absurd hv (by omega)⟩, ⟨?_, fun v hv => absurd hv (by omega)⟩⟩
          · rw [e11]
            unfold rd7
            rw [wr_k (by decide), wr_k (by decide), wr_k (by decide), wr_k (by decide), wr_same]
          · rw [e11]
            unfold rd7
            rw [wr_k (by decide), wr_k (by decide), wr_k (by decide), wr_k (by decide), wr_k (by decide), wr_k (by decide), wr_same]
            rfl
          · rw [e11]
            unfold rd7
            rw [wr_k (by decide), wr_k (by decide), wr_k (by decide), wr_same]
            rfl
          · rw [e11]
            unfold rd7
            rw [wr_k (by decide), wr_same]
            rfl
          · rw [e11]
            unfold rd7
            rw [wr_same]
            rfl
        · unfold rd7
          rw [wr_c (by decide), wr_c (by decide), wr_c (by decide), wr_c (by decide), wr_c (by decide), wr_c (by decide), wr_c (by decide), C1.1 54 0 j (by omega) (by decide), wr_c (by decide), F 54 0 j (by decide), wr_c (by decide)]
          exact h54 j hj
    | succ m ih =>
      intro i hi μ' F C FF
      have e4 : μ' 11 0 4 = (n : Int) := by rw [F 11 0 4 (by decide), wr_same]; exact h2
      have e40 : μ' 40 0 i = μ 40 0 i := by rw [F 40 0 i (by decide), wr_c (by decide)]
      have bi := (hb i (by omega)).1
      refine m_11007_10 ?_
      rw [e4, Int.toNat_natCast, e40]
      refine ⟨fun z => absurd z (by omega), fun _ => ⟨by omega, ⟨by omega, bi⟩, by omega, ?_⟩⟩
      refine ih (i + 1) (by omega) _ (fun c a k hc => ?_) (fun j hj => ?_) (FF.trans (FrM.w (by omega)))
      · rw [wr_c hc]
        exact F c a k hc
      · by_cases q : j = i
        · subst q
          exact wr_same _ _ _ _ _
        · rw [wr_k q]
          exact C j (by omega)
  exact m_11007 (loop n 0 (by omega) _ (fun _ _ _ _ => rfl) (fun j hj => absurd hj (by omega)) (FrM.w (by omega)))
