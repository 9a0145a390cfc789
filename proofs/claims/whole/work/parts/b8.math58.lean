/-! MATHEMATICS, 58: where a way touches -/
theorem tch {m : Mp} {w : Wy} {L R : Ln} (hm : m.ok) (hL : LnR m L R) (hO : cOn L w) : xn R.1 (rX m w (cUp L w) (cLow L w)) (rY m w (cUp L w) (cLow L w)) = R.2.1 * cLow L w ∧ R.2.2.1 * cLow L w ≤ xt R.1 (rX m w (cUp L w) (cLow L w)) (rY m w (cUp L w) (cLow L w)) ∧ xt R.1 (rX m w (cUp L w) (cLow L w)) (rY m w (cUp L w) (cLow L w)) ≤ R.2.2.2 * cLow L w ∧ xt R.1 (rX m w (cUp L w) (cLow L w)) (rY m w (cUp L w) (cLow L w)) = mk' m L.1 * cLow L w + ms' m L.1 * cO L w := by
  have a := xn_r m w R.1 (cUp L w) (cLow L w) 1
  have b := xt_r m w R.1 (cUp L w) (cLow L w) 1
  rw [Int.one_mul, Int.one_mul, Int.one_mul] at a b
  have n := nrm L w
  obtain ⟨e1, e2, e3, e4⟩ := hL
  obtain ⟨-, o1, o2⟩ := hO
  have hs : ms' m L.1 = 1 ∨ ms' m L.1 = -1 := by
    unfold ms' xt
    split
    · exact hm.2
    · exact hm.1
  have ca : xn L.1 w.1 w.2.1 * cLow L w + (xn L.1 w.2.2.1 w.2.2.2 - xn L.1 w.1 w.2.1) * cUp L w = L.2.1 * cLow L w := n
  have cb : xt L.1 w.1 w.2.1 * cLow L w + (xt L.1 w.2.2.1 w.2.2.2 - xt L.1 w.1 w.2.1) * cUp L w = cO L w := rfl
  rw [e1] at a b ⊢
  rw [ca] at a
  rw [cb] at b
  rw [a, b, e2]
  generalize cLow L w = lo at *
  generalize cO L w = co at *
  refine ⟨by grind, ?_, ?_, rfl⟩
  · rcases hs with h | h
    · rw [h, (e3 h).1]
      grind
    · rw [h, (e4 h).1]
      grind
  · rcases hs with h | h
    · rw [h, (e3 h).2]
      grind
    · rw [h, (e4 h).2]
      grind
/-- the place in thousandths -/
def tcV (m : Mp) (w : Wy) (L : Ln) (hi : Int) : Int := (1000 * (if hi = 0 then rX m w (cUp L w) (cLow L w) else rY m w (cUp L w) (cLow L w))) / cLow L w
theorem tch_b {m : Mp} {w : Wy} {L : Ln} {g : Gf} {k : Nat} (hm : m.ok) (hL : LnR m L (wl g k)) (hO : cOn L w) (hg : gok g k) (hl : 0 < cLow L w ∧ cLow L w ≤ 474) : (0 ≤ rX m w (cUp L w) (cLow L w) ∧ rX m w (cUp L w) (cLow L w) ≤ 46926) ∧ (0 ≤ rY m w (cUp L w) (cLow L w) ∧ rY m w (cUp L w) (cLow L w) ≤ 46926) := by
  obtain ⟨a, b, c, -⟩ := tch hm hL hO
  obtain ⟨g0, g1, g2, g3⟩ := hg
  have ea : (wl g k).2.1 = g k 1 := rfl
  have el : (wl g k).2.2.1 = g k 2 := rfl
  have eh : (wl g k).2.2.2 = g k 3 := rfl
  have ef : (wl g k).1 = g k 0 := rfl
  rw [ea, ef] at a
  rw [el, ef] at b
  rw [eh, ef] at c
  have m1 := mul_bd (A := 99) (B := 474) (a := g k 1) (b := cLow L w) (by omega) (by omega)
  have n1 : 0 ≤ g k 1 * cLow L w := Int.mul_nonneg (by omega) (by omega)
  have n2 : 0 ≤ g k 2 * cLow L w := Int.mul_nonneg (by omega) (by omega)
  have m3 := mul_bd (A := 99) (B := 474) (a := g k 3) (b := cLow L w) (by omega) (by omega)
  unfold xn at a
  unfold xt at b c
  rcases g0 with h | h
  · rw [h] at a b c
    simp only [↓reduceIte] at a b c
    omega
  · rw [h] at a b c
    simp only [Int.reduceEq, ↓reduceIte] at a b c
    omega
theorem div_c {c a b : Int} (hc : 0 < c) : (1000 * (c * a)) / (c * b) = (1000 * a) / b := by
  rw [show 1000 * (c * a) = c * (1000 * a) by grind]
  exact Int.mul_ediv_mul_of_pos _ _ hc
theorem L10007q {sc : Scr} {d t : Nat} {μ : Mem} {P : Option AV → AS → Prop} {x3 x4 : Int} {r2 : AR} {o1 i : Nat} {m : Mp} {w : Wy} {L : Ln} {c : Int} {g : Gf} {k : Nat} (hm : m.ok) (hL : LnR m L (wl g k)) (hO : cOn L w) (hg : gok g k) (hl : 0 < cLow L w ∧ cLow L w ≤ 474) (hc : 0 < c ∧ c ≤ 474) (hr : Rep μ i m w (cUp L w) (cLow L w) c)
    (h : P (some (.inl (tcV m w L x4))) (fs (t, 0, 0) μ)) : R_10007 sc (d + 1) P t 59 [rfc 10 0, rfc 9 o1, .inr (.inr (.inl r2)), .inl x3, .inl x4, vx] [rfc 7 i] μ := by
  obtain ⟨b1, b2⟩ := tch_b hm hL hO hg hl
  obtain ⟨r1, r2', r3⟩ := hr
  have p1 := mul_bd (A := 474) (B := 46926) (a := c) (b := rX m w (cUp L w) (cLow L w)) (by omega) (by omega)
  have p2 := mul_bd (A := 474) (B := 46926) (a := c) (b := rY m w (cUp L w) (cLow L w)) (by omega) (by omega)
  have q1 : 0 ≤ c * rX m w (cUp L w) (cLow L w) := Int.mul_nonneg (by omega) (by omega)
  have q2 : 0 ≤ c * rY m w (cUp L w) (cLow L w) := Int.mul_nonneg (by omega) (by omega)
  have q3 : 0 < c * cLow L w := Int.mul_pos (by omega) (by omega)
  unfold tcV at h
  refine m_10007_59 ?_
  rw [r1, r2', r3]
  have vb : ∀ a : Int, 0 ≤ a ∧ a ≤ 46926 → InI ((1000 * (c * a)) / (c * cLow L w)) := by
    intro a ha
    rw [div_c hc.1]
    have e1 := Int.ediv_nonneg (by omega : 0 ≤ 1000 * a) (by omega : 0 ≤ cLow L w)
    have e2 := Int.ediv_le_self (cLow L w) (by omega : 0 ≤ 1000 * a)
    omega
  refine ⟨fun z => ⟨by omega, sp_quot (by omega) q3 ⟨vb _ b1, ?_⟩⟩, fun z => ⟨by omega, sp_quot (by omega) q3 ⟨vb _ b2, ?_⟩⟩⟩
  · rw [div_c hc.1]
    rw [if_pos z] at h
    exact h
  · rw [div_c hc.1]
    rw [if_neg z] at h
    exact h
