/-! MATHEMATICS, 3: crossings unfolded -/
/-- a line: direction, place, from, to -/
abbrev Ln : Type := Int × Int × Int × Int
/-- line laid over a wall -/
def Ln.lay (L : Ln) (f a : Int) : Ln := if f = L.1 then ⟨L.1, 2 * a - L.2.1, L.2.2.1, L.2.2.2⟩ else ⟨L.1, L.2.1, 2 * a - L.2.2.2, 2 * a - L.2.2.1⟩
/-- the way unfolded: from (px, py) to (ix, iy); along its parameter up/low -/
abbrev Wy : Type := Int × Int × Int × Int
def cD (L : Ln) (w : Wy) : Int := xn L.1 w.2.2.1 w.2.2.2 - xn L.1 w.1 w.2.1
def cUp (L : Ln) (w : Wy) : Int := if 0 < cD L w then L.2.1 - xn L.1 w.1 w.2.1 else xn L.1 w.1 w.2.1 - L.2.1
def cLow (L : Ln) (w : Wy) : Int := if 0 < cD L w then cD L w else -cD L w
def cE (L : Ln) (w : Wy) : Int := xt L.1 w.2.2.1 w.2.2.2 - xt L.1 w.1 w.2.1
def cO (L : Ln) (w : Wy) : Int := xt L.1 w.1 w.2.1 * cLow L w + cE L w * cUp L w
abbrev cOn (L : Ln) (w : Wy) : Prop := cD L w ≠ 0 ∧ L.2.2.1 * cLow L w ≤ cO L w ∧ cO L w ≤ L.2.2.2 * cLow L w
abbrev cIn (L : Ln) (w : Wy) (u1 l1 u2 l2 : Int) : Prop := u1 * cLow L w < cUp L w * l1 ∧ cUp L w * l2 < u2 * cLow L w
/-- how the valley itself lies over the unfolded one: x is kx + sx times -/
abbrev Mp : Type := Int × Int × Int × Int
def Mp.one : Mp := ⟨0, 1, 0, 1⟩
def Mp.rf (m : Mp) (f a : Int) : Mp := if f = 0 then ⟨2 * a - m.1, -m.2.1, m.2.2.1, m.2.2.2⟩ else ⟨m.1, m.2.1, 2 * a - m.2.2.1, -m.2.2.2⟩
abbrev Mp.ok (m : Mp) : Prop := (m.2.1 = 1 ∨ m.2.1 = -1) ∧ (m.2.2.2 = 1 ∨ m.2.2.2 = -1)
theorem Mp.ok_rf {m : Mp} (h : m.ok) (f a : Int) : (m.rf f a).ok := by
  unfold Mp.rf
  split
  · exact ⟨by have := h.1; simp only []; omega, h.2⟩
  · exact ⟨h.1, by have := h.2; simp only []; omega⟩
def mk (m : Mp) (f : Int) : Int := xn f m.1 m.2.2.1
def ms (m : Mp) (f : Int) : Int := xn f m.2.1 m.2.2.2
def mk' (m : Mp) (f : Int) : Int := xt f m.1 m.2.2.1
def ms' (m : Mp) (f : Int) : Int := xt f m.2.1 m.2.2.2
/-- a place of the way in the valley itself -/
def rX (m : Mp) (w : Wy) (u l : Int) : Int := m.1 * l + m.2.1 * (w.1 * l + (w.2.2.1 - w.1) * u)
def rY (m : Mp) (w : Wy) (u l : Int) : Int := m.2.2.1 * l + m.2.2.2 * (w.2.1 * l + (w.2.2.2 - w.2.1) * u)
/-- L is, unfolded, the wall's line R -/
def LnR (m : Mp) (L R : Ln) : Prop := R.1 = L.1 ∧ R.2.1 = mk m L.1 + ms m L.1 * L.2.1 ∧ (ms' m L.1 = 1 → R.2.2.1 = mk' m L.1 + L.2.2.1 ∧ R.2.2.2 = mk' m L.1 + L.2.2.2) ∧ (ms' m L.1 = -1 → R.2.2.1 = mk' m L.1 - L.2.2.2 ∧ R.2.2.2 = mk' m L.1 - L.2.2.1)
theorem xn_r (m : Mp) (w : Wy) (f u l c : Int) : xn f (c * rX m w u l) (c * rY m w u l) = c * (mk m f * l + ms m f * (xn f w.1 w.2.1 * l + (xn f w.2.2.1 w.2.2.2 - xn f w.1 w.2.1) * u)) := by
  unfold xn mk ms rX rY xn
  by_cases h : f = 0 <;> simp only [h, if_true, if_false, ite_true, ite_false]
theorem xt_r (m : Mp) (w : Wy) (f u l c : Int) : xt f (c * rX m w u l) (c * rY m w u l) = c * (mk' m f * l + ms' m f * (xt f w.1 w.2.1 * l + (xt f w.2.2.1 w.2.2.2 - xt f w.1 w.2.1) * u)) := by
  unfold xt mk' ms' rX rY xt
  by_cases h : f = 0 <;> simp only [h, if_true, if_false, ite_true, ite_false]
/-- the sides of two places of the way -/
theorem sides {m : Mp} {w : Wy} {L R : Ln} (hm : m.ok) (hL : LnR m L R) (h0 : cD L w ≠ 0) : ∃ s : Int, (s = 1 ∨ s = -1) ∧ ∀ u l c : Int, xS R.1 R.2.1 (c * rX m w u l) (c * rY m w u l) (c * l) = s * (c * (cLow L w * u - cUp L w * l)) := by
  have hs : ms m L.1 = 1 ∨ ms m L.1 = -1 := by
    unfold ms xn
    split
    · exact hm.1
    · exact hm.2
  obtain ⟨e1, e2, -, -⟩ := hL
  by_cases hd : 0 < cD L w
  · refine ⟨ms m L.1, hs, fun u l c => ?_⟩
    unfold xS cLow cUp
    rw [e1, e2, xn_r, if_pos hd, if_pos hd]
    unfold cD
    rcases hs with hs | hs <;> rw [hs] <;> grind
  · refine ⟨-ms m L.1, by omega, fun u l c => ?_⟩
    unfold xS cLow cUp
    rw [e1, e2, xn_r, if_neg hd, if_neg hd]
    unfold cD
    rcases hs with hs | hs <;> rw [hs] <;> grind
theorem side0 {m : Mp} {w : Wy} {L R : Ln} (hL : LnR m L R) (h0 : cD L w = 0) : ∃ s : Int, ∀ u l c : Int, xS R.1 R.2.1 (c * rX m w u l) (c * rY m w u l) (c * l) = s * (c * l) := by
  obtain ⟨e1, e2, -, -⟩ := hL
  unfold cD at h0
  refine ⟨ms m L.1 * (xn L.1 w.1 w.2.1 - L.2.1), fun u l c => ?_⟩
  unfold xS
  rw [e1, e2, xn_r, h0]
  grind
theorem cLow_pos {L : Ln} {w : Wy} (h0 : cD L w ≠ 0) : 0 < cLow L w := by
  unfold cLow
  split <;> omega
/-- THE CROSSING of a piece of the way in the valley itself is that of the way unfolded -/
theorem cross_iff {m : Mp} {w : Wy} {L R : Ln} {uA lA cA uB lB cB : Int} (hm : m.ok) (hL : LnR m L R) (hlA : 0 < lA) (hlB : 0 < lB) (hcA : 0 < cA) (hcB : 0 < cB) (hAB : uA * lB < uB * lA) :
    (xCr R.1 R.2.1 R.2.2.1 R.2.2.2 (cA * rX m w uA lA) (cA * rY m w uA lA) (cA * lA) (cB * rX m w uB lB) (cB * rY m w uB lB) (cB * lB) ↔ cOn L w ∧ cIn L w uA lA uB lB)
    ∧ (cOn L w ∧ cIn L w uA lA uB lB → xD R.1 R.2.1 (cA * rX m w uA lA) (cA * rY m w uA lA) (cA * lA) (cB * rX m w uB lB) (cB * rY m w uB lB) (cB * lB) = cA * cB * (uB * lA - uA * lB) * cLow L w
      ∧ xL R.1 R.2.1 (cA * rX m w uA lA) (cA * rY m w uA lA) (cA * lA) (cB * rX m w uB lB) (cB * rY m w uB lB) (cB * lB) = cA * cB * (uB * lA - uA * lB) * (mk' m L.1 * cLow L w + ms' m L.1 * cO L w)) := by
  by_cases h0 : cD L w = 0
  · obtain ⟨s, hs⟩ := side0 (w := w) hL h0
    have hn : ¬ (cOn L w ∧ cIn L w uA lA uB lB) := fun z => z.1.1 h0
    refine ⟨⟨fun z => ?_, fun z => absurd z hn⟩, fun z => absurd z hn⟩
    exfalso
    have ht := z.1
    unfold xTru at ht
    rw [hs, hs] at ht
    have pA := Int.mul_pos hcA hlA
    have pB := Int.mul_pos hcB hlB
    rcases ht with ⟨q1, q2⟩ | ⟨q1, q2⟩
    · have s1 : 0 < s := Int.pos_of_mul_pos_left q2 pB
      have := Int.mul_pos s1 pA
      omega
    · have s1 : 0 < s := Int.pos_of_mul_pos_left q1 pA
      have := Int.mul_pos s1 pB
      omega
  · obtain ⟨s, hs, hsd⟩ := sides (w := w) hm hL h0
    have hlow := cLow_pos h0
    have hT : 0 < uB * lA - uA * lB := by omega
    have hK : 0 < cA * cB * (uB * lA - uA * lB) := Int.mul_pos (Int.mul_pos hcA hcB) hT
    have sA := hsd uA lA cA
    have sB := hsd uB lB cB
    have hS : cLow L w * uA - cUp L w * lA < 0 ∨ 0 < cLow L w * uB - cUp L w * lB ∨ (0 ≤ cLow L w * uA - cUp L w * lA ∧ cLow L w * uB - cUp L w * lB ≤ 0) := by omega
    have hno : ¬ (0 ≤ cLow L w * uA - cUp L w * lA ∧ cLow L w * uB - cUp L w * lB ≤ 0) := by
      rintro ⟨q1, q2⟩
      have r1 : 0 ≤ (cLow L w * uA - cUp L w * lA) * lB := Int.mul_nonneg q1 (by omega)
      have r2 : 0 ≤ (cUp L w * lB - cLow L w * uB) * lA := Int.mul_nonneg (by omega) (by omega)
      have r3 : 0 < cLow L w * (uB * lA - uA * lB) := Int.mul_pos hlow hT
      have : (cLow L w * uA - cUp L w * lA) * lB + (cUp L w * lB - cLow L w * uB) * lA = -(cLow L w * (uB * lA - uA * lB)) := by grind
      omega
    have tru : xTru R.1 R.2.1 (cA * rX m w uA lA) (cA * rY m w uA lA) (cA * lA) (cB * rX m w uB lB) (cB * rY m w uB lB) (cB * lB) ↔ (cLow L w * uA - cUp L w * lA < 0 ∧ 0 < cLow L w * uB - cUp L w * lB) := by
      unfold xTru
      rw [sA, sB]
      have mA : 0 < cLow L w * uA - cUp L w * lA ↔ 0 < cA * (cLow L w * uA - cUp L w * lA) := ⟨fun z => Int.mul_pos hcA z, fun z => Int.pos_of_mul_pos_right z hcA⟩
      have mA' : 0 < -(cLow L w * uA - cUp L w * lA) ↔ 0 < cA * -(cLow L w * uA - cUp L w * lA) := ⟨fun z => Int.mul_pos hcA z, fun z => Int.pos_of_mul_pos_right z hcA⟩
      have mB : 0 < cLow L w * uB - cUp L w * lB ↔ 0 < cB * (cLow L w * uB - cUp L w * lB) := ⟨fun z => Int.mul_pos hcB z, fun z => Int.pos_of_mul_pos_right z hcB⟩
      have mB' : 0 < -(cLow L w * uB - cUp L w * lB) ↔ 0 < cB * -(cLow L w * uB - cUp L w * lB) := ⟨fun z => Int.mul_pos hcB z, fun z => Int.pos_of_mul_pos_right z hcB⟩
      rw [Int.mul_neg] at mA' mB'
      rcases hs with hs | hs <;> rw [hs] <;> constructor <;> omega
    have val : (cLow L w * uA - cUp L w * lA < 0 ∧ 0 < cLow L w * uB - cUp L w * lB) → ab (xS R.1 R.2.1 (cA * rX m w uA lA) (cA * rY m w uA lA) (cA * lA)) = -(cA * (cLow L w * uA - cUp L w * lA)) ∧ ab (xS R.1 R.2.1 (cB * rX m w uB lB) (cB * rY m w uB lB) (cB * lB)) = cB * (cLow L w * uB - cUp L w * lB) := by
      rintro ⟨q1, q2⟩
      have mA : 0 < cA * -(cLow L w * uA - cUp L w * lA) := Int.mul_pos hcA (by omega)
      have mB : 0 < cB * (cLow L w * uB - cUp L w * lB) := Int.mul_pos hcB q2
      rw [Int.mul_neg] at mA
      have c1 := ab_c (xS R.1 R.2.1 (cA * rX m w uA lA) (cA * rY m w uA lA) (cA * lA))
      have c2 := ab_c (xS R.1 R.2.1 (cB * rX m w uB lB) (cB * rY m w uB lB) (cB * lB))
      rw [sA] at c1
      rw [sB] at c2
      rw [sA, sB]
      rcases hs with hs | hs <;> rw [hs] at c1 c2 ⊢ <;> omega
    have dl : (cLow L w * uA - cUp L w * lA < 0 ∧ 0 < cLow L w * uB - cUp L w * lB) → xD R.1 R.2.1 (cA * rX m w uA lA) (cA * rY m w uA lA) (cA * lA) (cB * rX m w uB lB) (cB * rY m w uB lB) (cB * lB) = cA * cB * (uB * lA - uA * lB) * cLow L w
      ∧ xL R.1 R.2.1 (cA * rX m w uA lA) (cA * rY m w uA lA) (cA * lA) (cB * rX m w uB lB) (cB * rY m w uB lB) (cB * lB) = cA * cB * (uB * lA - uA * lB) * (mk' m L.1 * cLow L w + ms' m L.1 * cO L w) := by
      intro q
      obtain ⟨v1, v2⟩ := val q
      unfold xD xL
      rw [v1, v2, hL.1, xt_r, xt_r]
      unfold cO cE
      constructor
      · grind
      · generalize xt L.1 w.1 w.2.1 = q0
        generalize xt L.1 w.2.2.1 w.2.2.2 = q1
        generalize ms' m L.1 = s1
        generalize mk' m L.1 = k1
        generalize cLow L w = lo
        generalize cUp L w = up
        grind
    have inn : cIn L w uA lA uB lB ↔ (cLow L w * uA - cUp L w * lA < 0 ∧ 0 < cLow L w * uB - cUp L w * lB) := by
      unfold cIn
      rw [Int.mul_comm uA, Int.mul_comm uB]
      constructor <;> omega
    have hs' : ms' m L.1 = 1 ∨ ms' m L.1 = -1 := by
      unfold ms' xt
      split
      · exact hm.2
      · exact hm.1
    have on : (cLow L w * uA - cUp L w * lA < 0 ∧ 0 < cLow L w * uB - cUp L w * lB) → ((R.2.2.1 * xD R.1 R.2.1 (cA * rX m w uA lA) (cA * rY m w uA lA) (cA * lA) (cB * rX m w uB lB) (cB * rY m w uB lB) (cB * lB) ≤ xL R.1 R.2.1 (cA * rX m w uA lA) (cA * rY m w uA lA) (cA * lA) (cB * rX m w uB lB) (cB * rY m w uB lB) (cB * lB)
       ∧ xL R.1 R.2.1 (cA * rX m w uA lA) (cA * rY m w uA lA) (cA * lA) (cB * rX m w uB lB) (cB * rY m w uB lB) (cB * lB) ≤ R.2.2.2 * xD R.1 R.2.1 (cA * rX m w uA lA) (cA * rY m w uA lA) (cA * lA) (cB * rX m w uB lB) (cB * rY m w uB lB) (cB * lB)) ↔ cOn L w) := by
      intro q
      obtain ⟨v1, v2⟩ := dl q
      rw [v1, v2, Int.mul_left_comm R.2.2.1, Int.mul_left_comm R.2.2.2]
      have k1 : ∀ a b : Int, cA * cB * (uB * lA - uA * lB) * a ≤ cA * cB * (uB * lA - uA * lB) * b ↔ a ≤ b := fun a b => ⟨fun z => Int.le_of_mul_le_mul_left z hK, fun z => Int.mul_le_mul_of_nonneg_left z (Int.le_of_lt hK)⟩
      rw [k1, k1]
      obtain ⟨-, -, e3, e4⟩ := hL
      unfold cOn
      rcases hs' with hs | hs
      · obtain ⟨f1, f2⟩ := e3 hs
        rw [f1, f2, hs, Int.add_mul, Int.add_mul]
        constructor
        · rintro ⟨z1, z2⟩
          exact ⟨h0, by omega, by omega⟩
        · rintro ⟨-, z1, z2⟩
          exact ⟨by omega, by omega⟩
      · obtain ⟨f1, f2⟩ := e4 hs
        rw [f1, f2, hs, Int.sub_mul, Int.sub_mul]
        constructor
        · rintro ⟨z1, z2⟩
          exact ⟨h0, by omega, by omega⟩
        · rintro ⟨-, z1, z2⟩
          exact ⟨by omega, by omega⟩
    refine ⟨⟨fun z => ?_, fun z => ?_⟩, fun z => dl (inn.mp z.2)⟩
    · have q := tru.mp z.1
      exact ⟨(on q).mp z.2, inn.mpr q⟩
    · have q := inn.mp z.2
      exact ⟨tru.mpr q, (on q).mpr z.1⟩
