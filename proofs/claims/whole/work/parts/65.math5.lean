/-! MATHEMATICS, 5: open ways unfolded -/
def wl (g : Nat → Nat → Int) (w : Nat) : Ln := ⟨g w 0, g w 1, g w 2, g w 3⟩
def ly (g : Nat → Nat → Int) (a : Nat) (L : Ln) : Ln := L.lay (g a 0) (g a 1)
abbrev Hit (L : Ln) (w : Wy) (u1 l1 u2 l2 : Int) : Prop := cOn L w ∧ cIn L w u1 l1 u2 l2
/-- straight, by one wall, by two -/
def Op0 (g : Nat → Nat → Int) (w : Wy) : Prop := ∀ k, k < 9 → g k 5 ≠ 0 → ¬ Hit (wl g k) w 0 1 1 1
def Op1 (g : Nat → Nat → Int) (w : Wy) (a : Nat) : Prop := Hit (wl g a) w 0 1 1 1 ∧ ∀ k, k < 9 → g k 5 ≠ 0 → ¬ Hit (wl g k) w 0 1 (cUp (wl g a) w) (cLow (wl g a) w) ∧ ¬ Hit (ly g a (wl g k)) w (cUp (wl g a) w) (cLow (wl g a) w) 1 1
def Op2 (g : Nat → Nat → Int) (w : Wy) (a b : Nat) : Prop := Hit (wl g a) w 0 1 1 1 ∧ Hit (ly g a (wl g b)) w (cUp (wl g a) w) (cLow (wl g a) w) 1 1 ∧ ∀ k, k < 9 → g k 5 ≠ 0 → ¬ Hit (wl g k) w 0 1 (cUp (wl g a) w) (cLow (wl g a) w) ∧ ¬ Hit (ly g a (wl g k)) w (cUp (wl g a) w) (cLow (wl g a) w) (cUp (ly g a (wl g b)) w) (cLow (ly g a (wl g b)) w) ∧ ¬ Hit (ly g a (ly g b (wl g k))) w (cUp (ly g a (wl g b)) w) (cLow (ly g a (wl g b)) w) 1 1
def mp1 (g : Nat → Nat → Int) (a : Nat) : Mp := Mp.one.rf (g a 0) (g a 1)
def mp2 (g : Nat → Nat → Int) (a b : Nat) : Mp := (mp1 g a).rf (g b 0) (g b 1)
theorem ok0 : Mp.one.ok := ⟨Or.inl rfl, Or.inl rfl⟩
theorem LnR0 (L : Ln) : LnR Mp.one L L := by
  unfold LnR mk ms mk' ms' Mp.one xn xt
  split <;> simp
theorem LnR_ly {g : Nat → Nat → Int} {m : Mp} {L R : Ln} {a : Nat} (h1 : L.1 = 0 ∨ L.1 = 1) (h2 : g a 0 = 0 ∨ g a 0 = 1) (hm : m.ok) (h : LnR m L R) (m1 : Mp) (e : m1 = if g a 0 = 0 then ⟨m.1 + m.2.1 * (2 * g a 1), -m.2.1, m.2.2.1, m.2.2.2⟩ else ⟨m.1, m.2.1, m.2.2.1 + m.2.2.2 * (2 * g a 1), -m.2.2.2⟩) : LnR m1 (ly g a L) R := by
  obtain ⟨k1, s1, k2, s2⟩ := m
  obtain ⟨lf, la, ll, lh⟩ := L
  obtain ⟨rf, ra, rl, rh⟩ := R
  obtain ⟨e1, e2, e3, e4⟩ := h
  obtain ⟨o1, o2⟩ := hm
  simp only [] at h1 e1 e2 e3 e4 o1 o2 e
  subst e
  unfold mk ms xn at e2
  unfold mk' ms' xt at e3 e4
  simp only [] at e2 e3 e4
  unfold LnR ly Ln.lay mk ms mk' ms' xn xt
  rcases h2 with h2 | h2 <;> rcases h1 with h1 | h1 <;> subst h1 <;> rw [h2] <;> simp only [Int.reduceEq, ↓reduceIte] at e2 e3 e4 ⊢ <;> rcases o1 with o1 | o1 <;> rcases o2 with o2 | o2 <;> subst o1 <;> subst o2 <;> refine ⟨by omega, by omega, fun z => ?_, fun z => ?_⟩ <;> first | (have := e3 (by omega); omega) | (have := e4 (by omega); omega) | omega
