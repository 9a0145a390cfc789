/-! MATHEMATICS, 9: the reference's lines -/
def gM (μ : Mem) (w k : Nat) : Int := if k = 5 then (if (w : Int) < μ 48 0 (μ 11 0 18).toNat ∨ w = 8 then μ 54 0 ((9 * (μ 11 0 18)) + (w : Int)).toNat else 0) else if k < 5 then μ (49 + k) 0 ((9 * (μ 11 0 18)) + (w : Int)).toNat else 0
theorem gM_k (μ : Mem) (w : Nat) {k : Nat} (h : k < 5) : gM μ w k = μ (49 + k) 0 ((9 * (μ 11 0 18)) + (w : Int)).toNat := by
  unfold gM
  rw [if_neg (by omega), if_pos h]
/-- changed: only fields of the model from p to q -/
def FMp (p q : Nat) (μ μ' : Mem) : Prop := ∀ c i k, ¬ (c = 11 ∧ p ≤ k ∧ k ≤ q) → μ' c i k = μ c i k
theorem FMp.rfl {p q : Nat} {μ : Mem} : FMp p q μ μ := fun _ _ _ _ => Eq.refl _
theorem FMp.trans {p q : Nat} {μ μ' μ'' : Mem} (h : FMp p q μ μ') (h2 : FMp p q μ' μ'') : FMp p q μ μ'' := fun a b e z => (h2 a b e z).trans (h a b e z)
theorem FMp.mono {p q p' q' : Nat} {μ μ' : Mem} (h : FMp p q μ μ') (h1 : p' ≤ p) (h2 : q ≤ q') : FMp p' q' μ μ' := fun a b e z => h a b e (by omega)
theorem FMp.w1 {p q k : Nat} {μ : Mem} {v : Int} (h : p ≤ k ∧ k ≤ q) : FMp p q μ (wr μ 11 0 k v) := fun _ _ _ z => if_neg fun y => z ⟨y.1, by have := y.2.2; omega⟩
theorem FMp.f {p q k : Nat} {μ μ' : Mem} (h : FMp p q μ μ') (hk : k < p ∨ q < k) : μ' 11 0 k = μ 11 0 k := h _ _ _ (by omega)
theorem FMp.c {p q c : Nat} {μ μ' : Mem} (h : FMp p q μ μ') (hc : c ≠ 11) : μ' c = μ c := by
  funext i k
  exact h _ _ _ (by omega)
theorem FMp.g {p q : Nat} {μ μ' : Mem} (h : FMp p q μ μ') (hp : 18 < p) : gM μ' = gM μ := by
  funext w k
  unfold gM
  rw [h.f (k := 18) (by omega), h.c (c := 48) (by decide), h.c (c := 54) (by decide)]
  by_cases hk : k = 5
  · rw [if_pos hk, if_pos hk]
  · rw [if_neg hk, if_neg hk]
    by_cases h5 : k < 5
    · rw [if_pos h5, if_pos h5, h _ _ _ (by omega)]
    · rw [if_neg h5, if_neg h5]
def Lin (μ : Mem) (L : Ln) : Prop := μ 11 0 58 = L.1 ∧ μ 11 0 59 = L.2.1 ∧ μ 11 0 60 = L.2.2.1 ∧ μ 11 0 61 = L.2.2.2
def Way (μ : Mem) (w : Wy) : Prop := μ 11 0 49 = w.1 ∧ μ 11 0 50 = w.2.1 ∧ μ 11 0 51 = w.2.2.1 ∧ μ 11 0 52 = w.2.2.2
theorem Way.fr {p q : Nat} {μ μ' : Mem} {w : Wy} (h : Way μ w) (hF : FMp p q μ μ') (hp : 53 ≤ p) : Way μ' w := by
  unfold Way
  rw [hF.f (by omega), hF.f (by omega), hF.f (by omega), hF.f (by omega)]
  exact h
abbrev Lbd (L : Ln) : Prop := (L.1 = 0 ∨ L.1 = 1) ∧ (-1000 ≤ L.2.1 ∧ L.2.1 ≤ 1000) ∧ (-1000 ≤ L.2.2.1 ∧ L.2.2.1 ≤ 1000) ∧ (-1000 ≤ L.2.2.2 ∧ L.2.2.2 ≤ 1000)
abbrev liv (μ : Mem) : Prop := μ 11 0 18 = 0 ∨ μ 11 0 18 = 1
theorem sp_takes {sc : Scr} {d t : Nat} {μ : Mem} {Q : Mem → Prop} {w : Nat} (hl : liv μ) (hw : w < 9) (hg : gok (gM μ) w) (h : ∀ μ', FMp 58 61 μ μ' → Lin μ' (wl (gM μ) w) → Q μ') : RMv sc (d + 1) 11042 [rfc 11 0, .inl (w : Int)] (t, 0, 0) μ Q := by
  have f := hg.1
  rw [gM_k _ _ (by decide)] at f
  unfold liv at hl
  refine m_11042 ⟨by omega, by omega, by omega, f, by omega, ⟨by omega, by omega, h _ ?_ ?_⟩⟩
  · exact FMp.trans (FMp.trans (FMp.trans (FMp.w1 (by decide)) (FMp.w1 (by decide))) (FMp.w1 (by decide))) (FMp.w1 (by decide))
  · unfold Lin wl
    rw [gM_k _ _ (by decide), gM_k _ _ (by decide), gM_k _ _ (by decide), gM_k _ _ (by decide)]
    refine ⟨?_, ?_, ?_, ?_⟩
    · rw [wr_k (by decide), wr_k (by decide), wr_k (by decide), wr_same]
    · rw [wr_k (by decide), wr_k (by decide), wr_same, wr_c (by decide)]
    · rw [wr_k (by decide), wr_same, wr_c (by decide), wr_c (by decide)]
    · rw [wr_same, wr_c (by decide), wr_c (by decide), wr_c (by decide)]
theorem sp_lays {sc : Scr} {d t : Nat} {μ : Mem} {Q : Mem → Prop} {a : Nat} {L : Ln} (hl : liv μ) (ha : a < 9) (hg : gok (gM μ) a) (hL : Lin μ L) (hb : Lbd L) (h : ∀ μ', FMp 58 61 μ μ' → Lin μ' (ly (gM μ) a L) → Q μ') : RMv sc (d + 1) 11045 [rfc 11 0, .inl (a : Int)] (t, 0, 0) μ Q := by
  obtain ⟨e1, e2, e3, e4⟩ := hL
  have g0 := hg.1
  have g1 := hg.2.1
  have k0 : gM μ a 0 = μ 49 0 ((9 * (μ 11 0 18)) + (a : Int)).toNat := gM_k _ _ (by decide)
  have k1 : gM μ a 1 = μ 50 0 ((9 * (μ 11 0 18)) + (a : Int)).toNat := gM_k _ _ (by decide)
  unfold liv at hl
  obtain ⟨lf, la, ll, lh⟩ := L
  simp only [] at e1 e2 e3 e4
  have hb1 : -1000 ≤ la ∧ la ≤ 1000 := hb.2.1
  have hb2 : -1000 ≤ ll ∧ ll ≤ 1000 := hb.2.2.1
  have hb3 : -1000 ≤ lh ∧ lh ≤ 1000 := hb.2.2.2
  rw [k0] at g0
  rw [k1] at g1
  refine m_11045 ⟨fun _ => ⟨by omega, by omega, by omega, fun c => ?_, fun c => ?_⟩, fun c => absurd (by omega) c⟩
  · have hn : ¬ gM μ a 0 = lf := by rw [k0, ← e1]; exact c
    rw [wr_c (by decide)]
    rw [e3, e4]
    refine ⟨by omega, by omega, by omega, by omega, by omega, by omega, h _ ?_ ?_⟩
    · exact FMp.trans (FMp.w1 (by decide)) (FMp.w1 (by decide))
    · unfold Lin ly Ln.lay
      simp only [hn, ↓reduceIte, k1]
      refine ⟨?_, ?_, ?_, ?_⟩
      · rw [wr_k (by decide), wr_k (by decide)]; exact e1
      · rw [wr_k (by decide), wr_k (by decide)]; exact e2
      · rw [wr_k (by decide), wr_same]
      · rw [wr_same]
  · have hn : gM μ a 0 = lf := by rw [k0, ← e1]; omega
    rw [e2]
    refine ⟨by omega, by omega, by omega, h _ (FMp.w1 (by decide)) ?_⟩
    unfold Lin ly Ln.lay
    simp only [hn, ↓reduceIte, k1]
    refine ⟨?_, ?_, ?_, ?_⟩
    · rw [wr_k (by decide)]; exact e1
    · rw [wr_same]
    · rw [wr_k (by decide)]; exact e3
    · rw [wr_k (by decide)]; exact e4
abbrev fM (μ : Mem) : Int := μ 11 0 62
theorem sp_crosses {sc : Scr} {d t : Nat} {μ : Mem} {Q : Int → Mem → Prop} {L : Ln} {w : Wy} (hL : Lin μ L) (hb : Lbd L) (hW : Way μ w) (hw : Wbd w)
    (h1 : cOn L w → ∀ μ', FMp 58 63 μ μ' → μ' 11 0 62 = cUp L w → μ' 11 0 63 = cLow L w → Q 1 μ') (h0 : ¬ cOn L w → ∀ μ', FMp 58 63 μ μ' → Q 0 μ') : RMi sc (d + 1) 11043 [rfc 11 0] (t, 0, 0) μ Q := by
  obtain ⟨e1, e2, e3, e4⟩ := hL
  obtain ⟨f1, f2, f3, f4⟩ := hW
  obtain ⟨lf, la, ll, lh⟩ := L
  obtain ⟨px, py, ix, iy⟩ := w
  simp only [] at e1 e2 e3 e4 f1 f2 f3 f4
  have hb0 : lf = 0 ∨ lf = 1 := hb.1
  have hb1 : -1000 ≤ la ∧ la ≤ 1000 := hb.2.1
  have hb2 : -1000 ≤ ll ∧ ll ≤ 1000 := hb.2.2.1
  have hb3 : -1000 ≤ lh ∧ lh ≤ 1000 := hb.2.2.2
  have w1 : 0 ≤ px ∧ px ≤ 39 := hw.1
  have w2 : 0 ≤ py ∧ py ≤ 39 := hw.2.1
  have w3 : -435 ≤ ix ∧ ix ≤ 435 := hw.2.2.1
  have w4 : -435 ≤ iy ∧ iy ≤ 435 := hw.2.2.2
  have L121 : ∀ (p q D e up lo : Int), (-39 ≤ q ∧ q ≤ 39) → (-474 ≤ e ∧ e ≤ 474) → (0 < lo ∧ lo ≤ 474) → (-1039 ≤ up ∧ up ≤ 1039) → cUp (lf, la, ll, lh) (px, py, ix, iy) = up → cLow (lf, la, ll, lh) (px, py, ix, iy) = lo → cD (lf, la, ll, lh) (px, py, ix, iy) ≠ 0 → xt lf px py = q → cE (lf, la, ll, lh) (px, py, ix, iy) = e →
      R_11043 sc d (PI t Q) t 121 [rfc 11 0, .inl p, .inl D, .inl q, .inl e, vx] [.inl lo, rfc 11 0] (wr μ 11 0 62 up) := by
    intro p q D e up lo hq he hlo hup eu el hD eq ee
    have p1 := mul_bd (A := 39) (B := 474) (a := q) (b := lo) (by omega) (by omega)
    have p2 := mul_bd (A := 474) (B := 1039) (a := e) (b := up) (by omega) (by omega)
    have p3 := mul_bd (A := 1000) (B := 474) (a := ll) (b := lo) (by omega) (by omega)
    have p4 := mul_bd (A := 1000) (B := 474) (a := lh) (b := lo) (by omega) (by omega)
    have v62 : wr (wr μ 11 0 62 up) 11 0 63 lo 11 0 62 = up := by rw [wr_k (by decide), wr_same]
    have v63 : wr (wr μ 11 0 62 up) 11 0 63 lo 11 0 63 = lo := wr_same _ _ _ _ _
    have v60 : wr (wr μ 11 0 62 up) 11 0 63 lo 11 0 60 = ll := by rw [wr_k (by decide), wr_k (by decide)]; exact e3
    have v61 : wr (wr μ 11 0 62 up) 11 0 63 lo 11 0 61 = lh := by rw [wr_k (by decide), wr_k (by decide)]; exact e4
    have fr : FMp 58 63 μ (wr (wr μ 11 0 62 up) 11 0 63 lo) := FMp.trans (FMp.w1 (by decide)) (FMp.w1 (by decide))
    have on : cOn (lf, la, ll, lh) (px, py, ix, iy) ↔ (ll * lo ≤ q * lo + e * up ∧ q * lo + e * up ≤ lh * lo) := by
      unfold cOn cO
      rw [eu, el, ee]
      show _ ∧ ll * lo ≤ xt lf px py * lo + e * up ∧ xt lf px py * lo + e * up ≤ lh * lo ↔ _
      rw [eq]
      exact ⟨fun z => z.2, fun z => ⟨hD, z⟩⟩
    refine m_11043_121 ?_
    rw [v62, v63, v60, v61]
    refine ⟨by omega, by omega, by omega, by omega, fun c => ?_, fun c => ⟨by omega, fun c2 => ?_, fun c2 => ?_⟩⟩
    · exact PI_mk (h0 (fun z => by have := on.mp z; omega) _ fr)
    · exact PI_mk (h0 (fun z => by have := on.mp z; omega) _ fr)
    · exact PI_mk (h1 (on.mpr (by omega)) _ fr (v62.trans eu.symm) (v63.trans el.symm))
  have L37 : ∀ (p q i j : Int), xn lf px py = p → xn lf ix iy = i → xt lf px py = q → xt lf ix iy = j → (0 ≤ p ∧ p ≤ 39) → (0 ≤ q ∧ q ≤ 39) → (-435 ≤ i ∧ i ≤ 435) → (-435 ≤ j ∧ j ≤ 435) →
      R_11043 sc d (PI t Q) t 77 [rfc 11 0, .inl p, .inl (i - p), .inl q, vx, vx] [.inl j] μ := by
    intro p q i j ep ei eq ej bp bq bi bj
    have eD : cD (lf, la, ll, lh) (px, py, ix, iy) = i - p := by
      unfold cD
      show xn lf ix iy - xn lf px py = _
      rw [ep, ei]
    have eE : cE (lf, la, ll, lh) (px, py, ix, iy) = j - q := by
      unfold cE
      show xt lf ix iy - xt lf px py = _
      rw [eq, ej]
    have eU : cUp (lf, la, ll, lh) (px, py, ix, iy) = if 0 < i - p then la - p else p - la := by
      unfold cUp
      rw [eD]
      show (if _ then la - xn lf px py else xn lf px py - la) = _
      rw [ep]
    have eL : cLow (lf, la, ll, lh) (px, py, ix, iy) = if 0 < i - p then i - p else -(i - p) := by
      unfold cLow
      rw [eD]
    refine m_11043_77 ⟨by omega, fun c => ⟨fun c2 => ?_, fun c2 => ?_⟩, fun c => ?_⟩
    · rw [if_neg (by omega)] at eU eL
      rw [e2]
      exact ⟨by omega, fun c3 => ⟨by omega, L121 _ _ _ _ _ _ (by omega) (by omega) (by omega) (by omega) eU eL (by omega) eq eE⟩, fun c3 => absurd c2 c3⟩
    · rw [if_pos (by omega)] at eU eL
      rw [e2]
      exact ⟨by omega, fun c3 => absurd c3 c2, fun c3 => L121 _ _ _ _ _ _ (by omega) (by omega) (by omega) (by omega) eU eL (by omega) eq eE⟩
    · exact PI_mk (h0 (fun z => z.1 (by omega)) _ FMp.rfl)
  rw [← f1] at w1
  refine m_11043 ?_
  rw [f1, f2, f3, f4, e1]
  rw [f1] at w1
  rcases hb0 with z | z
  · subst z
    refine ⟨fun _ => ⟨fun _ => ?_, fun c => absurd rfl c⟩, fun c => absurd rfl c⟩
    refine m_11043_37 ?_
    rw [e1, f2, f4]
    exact ⟨by omega, fun _ => ⟨fun _ => L37 px py ix iy rfl rfl rfl rfl w1 w2 w3 w4, fun c => absurd rfl c⟩, fun c => absurd rfl c⟩
  · subst z
    refine ⟨fun c => absurd c (by decide), fun _ => ⟨fun c => absurd c (by decide), fun _ => ?_⟩⟩
    refine m_11043_37 ?_
    rw [e1, f1, f3]
    exact ⟨by omega, fun c => absurd c (by decide), fun _ => ⟨fun c => absurd c (by decide), fun _ => L37 py px iy ix rfl rfl rfl rfl w2 w1 w4 w3⟩⟩
