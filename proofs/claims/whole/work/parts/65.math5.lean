/-! MATHEMATICS, 5: open ways unfolded -/
def wl (g : Nat → Nat → Int) (w : Nat) : Ln := ⟨g w 0, g w 1, g w 2, g w 3⟩
def ly (g : Nat → Nat → Int) (a : Nat) (L : Ln) : Ln := L.lay (g a 0) (g a 1)
abbrev Hit (L : Ln) (w : Wy) (u1 l1 u2 l2 : Int) : Prop := cOn L w ∧ cIn L w u1 l1 u2 l2
/-- straight, by one wall, by two -/
def Op0 (g : Nat → Nat → Int) (w : Wy) : Prop := ∀ k, k < 9 → g k 5 ≠ 0 → ¬ Hit (wl g k) w 0 1 1 1
def Op1 (g : Nat → Nat → Int) (w : Wy) (a : Nat) : Prop := Hit (wl g a) w 0 1 1 1 ∧ ∀ k, k < 9 → g k 5 ≠ 0 → ¬ Hit (wl g k) w 0 1 (cUp (wl g a) w) (cLow (wl g a) w) ∧ ¬ Hit (ly g a (wl g k)) w (cUp (wl g a) w) (cLow (wl g a) w) 1 1
def Op2 (g : Nat → Nat → Int) (w : Wy) (a b : Nat) : Prop := Hit (wl g a) w 0 1 1 1 ∧ Hit (ly g a (wl g b)) w (cUp (wl g a) w) (cLow (wl g a) w) 1 1 ∧ ∀ k, k < 9 → g k 5 ≠ 0 → ¬ Hit (wl g k) w 0 1 (cUp (wl g a) w) (cLow (wl g a) w) ∧ ¬ Hit (ly g a (wl g k)) w (cUp (wl g a) w) (cLow (wl g a) w) (cUp (ly g a (wl g b)) w) (cLow (ly g a (wl g b)) w) ∧ ¬ Hit (ly g a (ly g b (wl g k))) w (cUp (ly g a (wl g b)) w) (cLow (ly g a (wl g b)) w) 1 1
def mp1 (g : Nat → Nat → Int) (a : Nat) : Mp := Mp.one.rf (g a 0) (g a 1)
def mp2 (g : Nat → Nat → Int) (a b : Nat) : Mp := (mp1 g a).rf (g b 0) (g b 1)
theorem ok0 : Mp.one.ok := ⟨Or.inl rfl, Or.inl rfl⟩
theorem LnR0 (L : Ln) : LnR Mp.one L L := by
  unfold LnR mk ms mk' ms' Mp.one xn xt
  split <;> simp
theorem LnR_ly {g : Nat → Nat → Int} {m : Mp} {L R : Ln} {a : Nat} (h1 : L.1 = 0 ∨ L.1 = 1) (h2 : g a 0 = 0 ∨ g a 0 = 1) (hm : m.ok) (h : LnR m L R) (m1 : Mp) (e : m1 = if g a 0 = 0 then ⟨m.1 + m.2.1 * (2 * g a 1), -m.2.1, m.2.2.1, m.2.2.2⟩ else ⟨m.1, m.2.1, m.2.2.1 + m.2.2.2 * (2 * g a 1), -m.2.2.2⟩) : LnR m1 (ly g a L) R := by
  obtain ⟨k1, s1, k2, s2⟩ := m
  obtain ⟨lf, la, ll, lh⟩ := L
  obtain ⟨rf, ra, rl, rh⟩ := R
  obtain ⟨e1, e2, e3, e4⟩ := h
  obtain ⟨o1, o2⟩ := hm
  simp only [] at h1 e1 e2 e3 e4 o1 o2 e
  subst e
  unfold mk ms xn at e2
  unfold mk' ms' xt at e3 e4
  simp only [] at e2 e3 e4
  unfold LnR ly Ln.lay mk ms mk' ms' xn xt
  rcases h2 with h2 | h2 <;> rcases h1 with h1 | h1 <;> subst h1 <;> rw [h2] <;> simp only [Int.reduceEq, ↓reduceIte] at e2 e3 e4 ⊢ <;> rcases o1 with o1 | o1 <;> rcases o2 with o2 | o2 <;> subst o1 <;> subst o2 <;> refine ⟨by omega, by omega, fun z => ?_, fun z => ?_⟩ <;> first | (have := e3 (by omega); omega) | (have := e4 (by omega); omega) | omega
theorem LnR1 {g : Nat → Nat → Int} {a k : Nat} (ha : g a 0 = 0 ∨ g a 0 = 1) (hk : g k 0 = 0 ∨ g k 0 = 1) : LnR (mp1 g a) (ly g a (wl g k)) (wl g k) := by
  refine LnR_ly (m := Mp.one) hk ha ok0 (LnR0 _) _ ?_
  unfold mp1 Mp.one Mp.rf
  split
  · simp
  · simp
theorem ly_f {g : Nat → Nat → Int} {a : Nat} {L : Ln} : (ly g a L).1 = L.1 := by
  unfold ly Ln.lay
  split <;> rfl
theorem LnR2 {g : Nat → Nat → Int} {a b k : Nat} (ha : g a 0 = 0 ∨ g a 0 = 1) (hb : g b 0 = 0 ∨ g b 0 = 1) (hk : g k 0 = 0 ∨ g k 0 = 1) : LnR (mp2 g a b) (ly g a (ly g b (wl g k))) (wl g k) := by
  refine LnR_ly (m := mp1 g b) (L := ly g b (wl g k)) (by rw [ly_f]; exact hk) ha (Mp.ok_rf ok0 _ _) (LnR1 hb hk) _ ?_
  unfold mp2 mp1 Mp.one Mp.rf
  rcases ha with h | h <;> rcases hb with h2 | h2 <;> rw [h, h2] <;> simp only [Int.reduceEq, ↓reduceIte] <;> simp <;> omega
theorem nrm (L : Ln) (w : Wy) : xn L.1 w.1 w.2.1 * cLow L w + cD L w * cUp L w = L.2.1 * cLow L w := by
  unfold cLow cUp
  split <;> unfold cD <;> grind
/-- the place of a crossing -/
theorem pt {m : Mp} {w : Wy} {L R : Ln} {uA lA cA uB lB cB : Int} (hm : m.ok) (hL : LnR m L R) (hlA : 0 < lA) (hlB : 0 < lB) (hcA : 0 < cA) (hcB : 0 < cB) (hAB : uA * lB < uB * lA) (hit : Hit L w uA lA uB lB) :
    xX R.1 R.2.1 (cA * rX m w uA lA) (cA * rY m w uA lA) (cA * lA) (cB * rX m w uB lB) (cB * rY m w uB lB) (cB * lB) = cA * cB * (uB * lA - uA * lB) * rX m w (cUp L w) (cLow L w)
    ∧ xY R.1 R.2.1 (cA * rX m w uA lA) (cA * rY m w uA lA) (cA * lA) (cB * rX m w uB lB) (cB * rY m w uB lB) (cB * lB) = cA * cB * (uB * lA - uA * lB) * rY m w (cUp L w) (cLow L w)
    ∧ xD R.1 R.2.1 (cA * rX m w uA lA) (cA * rY m w uA lA) (cA * lA) (cB * rX m w uB lB) (cB * rY m w uB lB) (cB * lB) = cA * cB * (uB * lA - uA * lB) * cLow L w := by
  obtain ⟨e1, e2⟩ := (cross_iff hm hL hlA hlB hcA hcB hAB).2 hit
  have n := nrm L w
  have a1 := hL.1
  have a2 := hL.2.1
  generalize cA * cB * (uB * lA - uA * lB) = K at *
  unfold xX xY
  rw [e1, e2]
  refine ⟨?_, ?_, rfl⟩
  · rw [a1, a2]
    by_cases h : L.1 = 0
    · rw [if_pos h]
      unfold mk ms
      unfold cD at n
      unfold rX
      unfold xn at n ⊢
      simp only [h, ↓reduceIte] at n ⊢
      generalize cLow L w = lo at *
      generalize cUp L w = up at *
      grind
    · rw [if_neg h]
      unfold cO cE mk' ms' rX xt
      simp only [h, ↓reduceIte]
  · rw [a1, a2]
    by_cases h : L.1 = 0
    · rw [if_pos h]
      unfold cO cE mk' ms' rY xt
      simp only [h, ↓reduceIte]
    · rw [if_neg h]
      unfold mk ms
      unfold cD at n
      unfold rY
      unfold xn at n ⊢
      simp only [h, ↓reduceIte] at n ⊢
      generalize cLow L w = lo at *
      generalize cUp L w = up at *
      grind
/-- it lies on the wall: laid over it, it stays -/
theorem pt_rf {m : Mp} {w : Wy} {L R : Ln} (hL : LnR m L R) : rX (m.rf R.1 R.2.1) w (cUp L w) (cLow L w) = rX m w (cUp L w) (cLow L w) ∧ rY (m.rf R.1 R.2.1) w (cUp L w) (cLow L w) = rY m w (cUp L w) (cLow L w) := by
  have n := nrm L w
  have a1 := hL.1
  have a2 := hL.2.1
  unfold Mp.rf
  rw [a1, a2]
  by_cases h : L.1 = 0
  · rw [if_pos h]
    unfold mk ms
    unfold cD at n
    unfold rX rY
    unfold xn at n ⊢
    simp only [h, ↓reduceIte] at n ⊢
    generalize cLow L w = lo at *
    generalize cUp L w = up at *
    refine ⟨?_, trivial⟩
    grind
  · rw [if_neg h]
    unfold mk ms
    unfold cD at n
    unfold rX rY
    unfold xn at n ⊢
    simp only [h, ↓reduceIte] at n ⊢
    generalize cLow L w = lo at *
    generalize cUp L w = up at *
    refine ⟨trivial, ?_⟩
    grind
abbrev Wbd (w : Wy) : Prop := (0 ≤ w.1 ∧ w.1 ≤ 39) ∧ (0 ≤ w.2.1 ∧ w.2.1 ≤ 39) ∧ (-435 ≤ w.2.2.1 ∧ w.2.2.1 ≤ 435) ∧ (-435 ≤ w.2.2.2 ∧ w.2.2.2 ≤ 435)
theorem cLow_bd {L : Ln} {w : Wy} (h : Wbd w) : cLow L w ≤ 474 := by
  obtain ⟨h1, h2, h3, h4⟩ := h
  unfold cLow cD xn
  split <;> split at * <;> omega
abbrev Mbd (m : Mp) : Prop := m.ok ∧ (-396 ≤ m.1 ∧ m.1 ≤ 396) ∧ (-396 ≤ m.2.2.1 ∧ m.2.2.1 ≤ 396)
theorem rX_bd {m : Mp} {w : Wy} {u l : Int} (hm : Mbd m) (hw : Wbd w) (hu : 0 ≤ u) (hul : u ≤ l) (hl : l ≤ 474) : (-500000 ≤ rX m w u l ∧ rX m w u l ≤ 500000) ∧ (-500000 ≤ rY m w u l ∧ rY m w u l ≤ 500000) := by
  obtain ⟨⟨o1, o2⟩, k1, k2⟩ := hm
  obtain ⟨h1, h2, h3, h4⟩ := hw
  have b1 := mul_bd (A := 396) (B := 474) (a := m.1) (b := l) (by omega) (by omega)
  have b2 := mul_bd (A := 396) (B := 474) (a := m.2.2.1) (b := l) (by omega) (by omega)
  have b3 := mul_bd (A := 39) (B := 474) (a := w.1) (b := l) (by omega) (by omega)
  have b4 := mul_bd (A := 39) (B := 474) (a := w.2.1) (b := l) (by omega) (by omega)
  have b5 := mul_bd (A := 474) (B := 474) (a := w.2.2.1 - w.1) (b := u) (by omega) (by omega)
  have b6 := mul_bd (A := 474) (B := 474) (a := w.2.2.2 - w.2.1) (b := u) (by omega) (by omega)
  unfold rX rY
  rcases o1 with o1 | o1 <;> rcases o2 with o2 | o2 <;> rw [o1, o2] <;> omega
