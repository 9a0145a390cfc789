/-! MATHEMATICS, 2: lines, crossings -/
/-- size -/
def ab (x : Int) : Int := if 0 ≤ x then x else -x
theorem ab_p {x : Int} (h : 0 ≤ x) : ab x = x := if_pos h
theorem ab_n {x : Int} (h : ¬ 0 ≤ x) : ab x = -x := if_neg h
theorem ab_c (x : Int) : ab x = x ∧ 0 ≤ x ∨ ab x = -x ∧ x < 0 := by
  by_cases h : 0 ≤ x
  · exact Or.inl ⟨ab_p h, h⟩
  · exact Or.inr ⟨ab_n h, by omega⟩
theorem mul_bd {a b A B : Int} (h1 : -A ≤ a ∧ a ≤ A) (h2 : -B ≤ b ∧ b ≤ B) : -(A * B) ≤ a * b ∧ a * b ≤ A * B := by
  have hA : 0 ≤ A := by omega
  have hB : 0 ≤ B := by omega
  have e1 : 0 ≤ (A - a) * (B + b) := Int.mul_nonneg (by omega) (by omega)
  have e2 : 0 ≤ (A + a) * (B - b) := Int.mul_nonneg (by omega) (by omega)
  have e3 : 0 ≤ (A - a) * (B - b) := Int.mul_nonneg (by omega) (by omega)
  have e4 : 0 ≤ (A + a) * (B + b) := Int.mul_nonneg (by omega) (by omega)
  constructor <;> grind
/-- the class's crossing, in the valley itself: f the wall's direction, c its place -/
def xn (f x y : Int) : Int := if f = 0 then x else y
def xt (f x y : Int) : Int := if f = 0 then y else x
def xS (f c x y d : Int) : Int := xn f x y - c * d
def xD (f c ax ay ad bx by' bd : Int) : Int := ad * ab (xS f c bx by' bd) + bd * ab (xS f c ax ay ad)
def xL (f c ax ay ad bx by' bd : Int) : Int := xt f ax ay * ab (xS f c bx by' bd) + xt f bx by' * ab (xS f c ax ay ad)
abbrev xTru (f c ax ay ad bx by' bd : Int) : Prop := xS f c ax ay ad < 0 ∧ 0 < xS f c bx by' bd ∨ 0 < xS f c ax ay ad ∧ xS f c bx by' bd < 0
abbrev xCr (f c lo hi ax ay ad bx by' bd : Int) : Prop := xTru f c ax ay ad bx by' bd ∧ lo * xD f c ax ay ad bx by' bd ≤ xL f c ax ay ad bx by' bd ∧ xL f c ax ay ad bx by' bd ≤ hi * xD f c ax ay ad bx by' bd
def xX (f c ax ay ad bx by' bd : Int) : Int := if f = 0 then c * xD f c ax ay ad bx by' bd else xL f c ax ay ad bx by' bd
def xY (f c ax ay ad bx by' bd : Int) : Int := if f = 0 then xL f c ax ay ad bx by' bd else c * xD f c ax ay ad bx by' bd
/-- a wall as it must be -/
def Wok (μ : Mem) (w : Nat) : Prop := (μ 9 w 0 = 0 ∨ μ 9 w 0 = 1) ∧ (0 ≤ μ 9 w 1 ∧ μ 9 w 1 ≤ 99) ∧ (0 ≤ μ 9 w 2 ∧ μ 9 w 2 ≤ 99) ∧ (0 ≤ μ 9 w 3 ∧ μ 9 w 3 ≤ 99)
def Sok (x y d : Int) : Prop := (-300000000 ≤ x ∧ x ≤ 300000000) ∧ (-300000000 ≤ y ∧ y ≤ 300000000) ∧ (1 ≤ d ∧ d ≤ 1000000)
theorem xS_bd {f c x y d : Int} (hc : 0 ≤ c ∧ c ≤ 99) (h : Sok x y d) : -400000000 ≤ xS f c x y d ∧ xS f c x y d ≤ 400000000 ∧ -99000000 ≤ c * d ∧ c * d ≤ 99000000 := by
  have := mul_bd (A := 99) (B := 1000000) (a := c) (b := d) (by omega) (by have := h.2.2; omega)
  obtain ⟨h1, h2, h3⟩ := h
  unfold xS xn
  split <;> omega
theorem xW {f c ax ay ad bx by' bd : Int} (hc : 0 ≤ c ∧ c ≤ 99) (hA : Sok ax ay ad) (hB : Sok bx by' bd) :
    (0 ≤ ab (xS f c ax ay ad) ∧ ab (xS f c ax ay ad) ≤ 400000000) ∧ (0 ≤ ab (xS f c bx by' bd) ∧ ab (xS f c bx by' bd) ≤ 400000000) := by
  have a1 := xS_bd (f := f) hc hA
  have b1 := xS_bd (f := f) hc hB
  have a2 := ab_c (xS f c ax ay ad)
  have b2 := ab_c (xS f c bx by' bd)
  omega
theorem xS_ab {f c x y d : Int} (h : 0 ≤ xS f c x y d) : xS f c x y d = ab (xS f c x y d) := (ab_p h).symm
set_option maxHeartbeats 1000000 in
theorem sp_cross {sc : Scr} {d t : Nat} {μ : Mem} {Q : Int → Mem → Prop} {o0 o1 o2 o3 : Nat} (hw : Wok μ o0) (hA : Sok (μ 7 o1 0) (μ 7 o1 1) (μ 7 o1 2)) (hB : Sok (μ 7 o2 0) (μ 7 o2 1) (μ 7 o2 2))
    (h1 : xCr (μ 9 o0 0) (μ 9 o0 1) (μ 9 o0 2) (μ 9 o0 3) (μ 7 o1 0) (μ 7 o1 1) (μ 7 o1 2) (μ 7 o2 0) (μ 7 o2 1) (μ 7 o2 2) → Q 1 (wr (wr (wr μ 7 o3 0 (xX (μ 9 o0 0) (μ 9 o0 1) (μ 7 o1 0) (μ 7 o1 1) (μ 7 o1 2) (μ 7 o2 0) (μ 7 o2 1) (μ 7 o2 2))) 7 o3 1 (xY (μ 9 o0 0) (μ 9 o0 1) (μ 7 o1 0) (μ 7 o1 1) (μ 7 o1 2) (μ 7 o2 0) (μ 7 o2 1) (μ 7 o2 2))) 7 o3 2 (xD (μ 9 o0 0) (μ 9 o0 1) (μ 7 o1 0) (μ 7 o1 1) (μ 7 o1 2) (μ 7 o2 0) (μ 7 o2 1) (μ 7 o2 2))))
    (h0 : ¬ xCr (μ 9 o0 0) (μ 9 o0 1) (μ 9 o0 2) (μ 9 o0 3) (μ 7 o1 0) (μ 7 o1 1) (μ 7 o1 2) (μ 7 o2 0) (μ 7 o2 1) (μ 7 o2 2) → Q 0 μ) :
    RMi sc (d + 1) 9003 [.inr (.inr (.inl (some (9, o0)))), .inr (.inr (.inl (some (7, o1)))), .inr (.inr (.inl (some (7, o2)))), .inr (.inr (.inl (some (7, o3))))] (t, 0, 0) μ Q := by
  obtain ⟨hf, hc, hl, hh⟩ := hw
  have a1 := xS_bd (f := μ 9 o0 0) hc hA
  have b1 := xS_bd (f := μ 9 o0 0) hc hB
  have w := xW (f := μ 9 o0 0) hc hA hB
  have ca := ab_c (xS (μ 9 o0 0) (μ 9 o0 1) (μ 7 o1 0) (μ 7 o1 1) (μ 7 o1 2))
  have cb := ab_c (xS (μ 9 o0 0) (μ 9 o0 1) (μ 7 o2 0) (μ 7 o2 1) (μ 7 o2 2))
  -- the end
  have L251 : ∀ (q4 q6 q8 q9 q11 : Int), xCr (μ 9 o0 0) (μ 9 o0 1) (μ 9 o0 2) (μ 9 o0 3) (μ 7 o1 0) (μ 7 o1 1) (μ 7 o1 2) (μ 7 o2 0) (μ 7 o2 1) (μ 7 o2 2) → InL (μ 9 o0 1 * xD (μ 9 o0 0) (μ 9 o0 1) (μ 7 o1 0) (μ 7 o1 1) (μ 7 o1 2) (μ 7 o2 0) (μ 7 o2 1) (μ 7 o2 2)) →
      R_9003 sc d (PI t Q) t 251 [.inr (.inr (.inl (some (9, o0)))), .inr (.inr (.inl (some (7, o1)))), .inr (.inr (.inl (some (7, o2)))), .inr (.inr (.inl (some (7, o3)))), .inr (.inl q4), vx, .inr (.inl q6), vx, .inl q8, .inr (.inl q9), vx, .inr (.inl q11), vx, .inr (.inl (xD (μ 9 o0 0) (μ 9 o0 1) (μ 7 o1 0) (μ 7 o1 1) (μ 7 o1 2) (μ 7 o2 0) (μ 7 o2 1) (μ 7 o2 2))), vx, .inr (.inl (xL (μ 9 o0 0) (μ 9 o0 1) (μ 7 o1 0) (μ 7 o1 1) (μ 7 o1 2) (μ 7 o2 0) (μ 7 o2 1) (μ 7 o2 2))), vx]
        [.inr (.inl (xX (μ 9 o0 0) (μ 9 o0 1) (μ 7 o1 0) (μ 7 o1 1) (μ 7 o1 2) (μ 7 o2 0) (μ 7 o2 1) (μ 7 o2 2))), .inr (.inr (.inl (some (7, o3))))] μ := by
    intro q4 q6 q8 q9 q11 hx hg
    have hq := h1 hx
    refine m_9003_251 ⟨fun c => PI_mk ?_, fun c => ?_⟩
    · rw [wr_c (by decide)] at c
      unfold xY at hq
      rw [if_pos c] at hq
      exact hq
    · rw [wr_c (by decide)] at c
      unfold xY at hq
      rw [if_neg c] at hq
      rw [wr_c (by decide)]
      exact ⟨hg, PI_mk hq⟩
  -- the middle
  have L136 : ∀ (q4 q6 : Int), xTru (μ 9 o0 0) (μ 9 o0 1) (μ 7 o1 0) (μ 7 o1 1) (μ 7 o1 2) (μ 7 o2 0) (μ 7 o2 1) (μ 7 o2 2) →
      R_9003 sc d (PI t Q) t 136 [.inr (.inr (.inl (some (9, o0)))), .inr (.inr (.inl (some (7, o1)))), .inr (.inr (.inl (some (7, o2)))), .inr (.inr (.inl (some (7, o3)))), .inr (.inl q4), vx, .inr (.inl q6), vx, .inl 1, .inr (.inl (ab (xS (μ 9 o0 0) (μ 9 o0 1) (μ 7 o2 0) (μ 7 o2 1) (μ 7 o2 2)))), vx, vx, vx, vx, vx, vx, vx]
        [.inr (.inl (ab (xS (μ 9 o0 0) (μ 9 o0 1) (μ 7 o1 0) (μ 7 o1 1) (μ 7 o1 2))))] μ := by
    intro q4 q6 ht
    have dA := hA.2.2
    have dB := hB.2.2
    have p1 := mul_bd (A := 1000000) (B := 400000000) (a := μ 7 o1 2) (b := ab (xS (μ 9 o0 0) (μ 9 o0 1) (μ 7 o2 0) (μ 7 o2 1) (μ 7 o2 2))) (by omega) (by omega)
    have p2 := mul_bd (A := 1000000) (B := 400000000) (a := μ 7 o2 2) (b := ab (xS (μ 9 o0 0) (μ 9 o0 1) (μ 7 o1 0) (μ 7 o1 1) (μ 7 o1 2))) (by omega) (by omega)
    have dd : xD (μ 9 o0 0) (μ 9 o0 1) (μ 7 o1 0) (μ 7 o1 1) (μ 7 o1 2) (μ 7 o2 0) (μ 7 o2 1) (μ 7 o2 2) = μ 7 o1 2 * ab (xS (μ 9 o0 0) (μ 9 o0 1) (μ 7 o2 0) (μ 7 o2 1) (μ 7 o2 2)) + μ 7 o2 2 * ab (xS (μ 9 o0 0) (μ 9 o0 1) (μ 7 o1 0) (μ 7 o1 1) (μ 7 o1 2)) := rfl
    have g0 := mul_bd (A := 99) (B := 1000000000000000) (a := μ 9 o0 1) (b := xD (μ 9 o0 0) (μ 9 o0 1) (μ 7 o1 0) (μ 7 o1 1) (μ 7 o1 2) (μ 7 o2 0) (μ 7 o2 1) (μ 7 o2 2)) (by omega) (by omega)
    have g1 := mul_bd (A := 99) (B := 1000000000000000) (a := μ 9 o0 2) (b := xD (μ 9 o0 0) (μ 9 o0 1) (μ 7 o1 0) (μ 7 o1 1) (μ 7 o1 2) (μ 7 o2 0) (μ 7 o2 1) (μ 7 o2 2)) (by omega) (by omega)
    have g2 := mul_bd (A := 99) (B := 1000000000000000) (a := μ 9 o0 3) (b := xD (μ 9 o0 0) (μ 9 o0 1) (μ 7 o1 0) (μ 7 o1 1) (μ 7 o1 2) (μ 7 o2 0) (μ 7 o2 1) (μ 7 o2 2)) (by omega) (by omega)
    have e1 := mul_bd (A := 300000000) (B := 400000000) (a := xt (μ 9 o0 0) (μ 7 o1 0) (μ 7 o1 1)) (b := ab (xS (μ 9 o0 0) (μ 9 o0 1) (μ 7 o2 0) (μ 7 o2 1) (μ 7 o2 2))) (by have := hA.1; have := hA.2.1; unfold xt; split <;> omega) (by omega)
    have e2 := mul_bd (A := 300000000) (B := 400000000) (a := xt (μ 9 o0 0) (μ 7 o2 0) (μ 7 o2 1)) (b := ab (xS (μ 9 o0 0) (μ 9 o0 1) (μ 7 o1 0) (μ 7 o1 1) (μ 7 o1 2))) (by have := hB.1; have := hB.2.1; unfold xt; split <;> omega) (by omega)
    have L194 : R_9003 sc d (PI t Q) t 194 [.inr (.inr (.inl (some (9, o0)))), .inr (.inr (.inl (some (7, o1)))), .inr (.inr (.inl (some (7, o2)))), .inr (.inr (.inl (some (7, o3)))), .inr (.inl q4), vx, .inr (.inl q6), vx, .inl 1, .inr (.inl (ab (xS (μ 9 o0 0) (μ 9 o0 1) (μ 7 o2 0) (μ 7 o2 1) (μ 7 o2 2)))), vx, .inr (.inl (ab (xS (μ 9 o0 0) (μ 9 o0 1) (μ 7 o1 0) (μ 7 o1 1) (μ 7 o1 2)))), vx, .inr (.inl (xD (μ 9 o0 0) (μ 9 o0 1) (μ 7 o1 0) (μ 7 o1 1) (μ 7 o1 2) (μ 7 o2 0) (μ 7 o2 1) (μ 7 o2 2))), vx, vx, vx]
        [.inr (.inl (xt (μ 9 o0 0) (μ 7 o2 0) (μ 7 o2 1))), .inr (.inl (xt (μ 9 o0 0) (μ 7 o1 0) (μ 7 o1 1) * ab (xS (μ 9 o0 0) (μ 9 o0 1) (μ 7 o2 0) (μ 7 o2 1) (μ 7 o2 2))))] μ := by
      have l1 : xL (μ 9 o0 0) (μ 9 o0 1) (μ 7 o1 0) (μ 7 o1 1) (μ 7 o1 2) (μ 7 o2 0) (μ 7 o2 1) (μ 7 o2 2) = xt (μ 9 o0 0) (μ 7 o1 0) (μ 7 o1 1) * ab (xS (μ 9 o0 0) (μ 9 o0 1) (μ 7 o2 0) (μ 7 o2 1) (μ 7 o2 2)) + xt (μ 9 o0 0) (μ 7 o2 0) (μ 7 o2 1) * ab (xS (μ 9 o0 0) (μ 9 o0 1) (μ 7 o1 0) (μ 7 o1 1) (μ 7 o1 2)) := rfl
      refine m_9003_194 ?_
      rw [← l1]
      refine ⟨by omega, by omega, by omega, fun c => ?_, fun c => ⟨by omega, fun c2 => ⟨fun c3 => ⟨by omega, ?_⟩, fun c3 => ?_⟩, fun c2 => ?_⟩⟩
      · rw [lc_lt] at c
        exact PI_mk (h0 fun z => by have := z.2.1; omega)
      · rw [lc_lt] at c
        rw [lc_le] at c2
        have := L251 q4 q6 1 (ab (xS (μ 9 o0 0) (μ 9 o0 1) (μ 7 o2 0) (μ 7 o2 1) (μ 7 o2 2))) (ab (xS (μ 9 o0 0) (μ 9 o0 1) (μ 7 o1 0) (μ 7 o1 1) (μ 7 o1 2))) ⟨ht, by omega, c2⟩ (by omega)
        unfold xX at this
        rw [if_pos c3] at this
        exact this
      · rw [lc_lt] at c
        rw [lc_le] at c2
        have := L251 q4 q6 1 (ab (xS (μ 9 o0 0) (μ 9 o0 1) (μ 7 o2 0) (μ 7 o2 1) (μ 7 o2 2))) (ab (xS (μ 9 o0 0) (μ 9 o0 1) (μ 7 o1 0) (μ 7 o1 1) (μ 7 o1 2))) ⟨ht, by omega, c2⟩ (by omega)
        unfold xX at this
        rw [if_neg c3] at this
        exact this
      · rw [lc_le] at c2
        exact PI_mk (h0 fun z => c2 z.2.2)
    refine m_9003_136 ?_
    rw [← dd]
    refine ⟨by omega, by omega, by omega, fun c => ?_, fun c => ?_⟩
    · have x1 : ∀ x y, xt (μ 9 o0 0) x y = y := fun x y => if_pos c
      rw [x1, x1] at L194
      rw [x1] at e1 e2
      exact ⟨by omega, fun _ => L194, fun z => absurd c z⟩
    · have x1 : ∀ x y, xt (μ 9 o0 0) x y = x := fun x y => if_neg c
      rw [x1, x1] at L194
      rw [x1] at e1 e2
      exact ⟨by omega, fun z => absurd z c, fun _ => L194⟩
  -- the signs
  have L95t : xTru (μ 9 o0 0) (μ 9 o0 1) (μ 7 o1 0) (μ 7 o1 1) (μ 7 o1 2) (μ 7 o2 0) (μ 7 o2 1) (μ 7 o2 2) → R_9003 sc d (PI t Q) t 95 [.inr (.inr (.inl (some (9, o0)))), .inr (.inr (.inl (some (7, o1)))), .inr (.inr (.inl (some (7, o2)))), .inr (.inr (.inl (some (7, o3)))), .inr (.inl (xS (μ 9 o0 0) (μ 9 o0 1) (μ 7 o1 0) (μ 7 o1 1) (μ 7 o1 2))), vx, .inr (.inl (xS (μ 9 o0 0) (μ 9 o0 1) (μ 7 o2 0) (μ 7 o2 1) (μ 7 o2 2))), vx, vx, vx, vx, vx, vx, vx, vx, vx, vx] [.inl 1] μ := by
    intro ht
    have L := L136 (xS (μ 9 o0 0) (μ 9 o0 1) (μ 7 o1 0) (μ 7 o1 1) (μ 7 o1 2)) (xS (μ 9 o0 0) (μ 9 o0 1) (μ 7 o2 0) (μ 7 o2 1) (μ 7 o2 2)) ht
    refine m_9003_95 ⟨fun _ => ⟨fun c => ⟨fun c2 => ?_, fun c2 => ⟨by omega, ?_⟩⟩, fun c => ⟨by omega, fun c2 => ?_, fun c2 => ⟨by omega, ?_⟩⟩⟩, fun c => absurd (by decide) c⟩
    all_goals (rw [lc_ge] at c c2)
    · rw [ab_p c, ab_p c2] at L
      exact L
    · rw [ab_p c, ab_n c2] at L
      exact L
    · rw [ab_n c, ab_p c2] at L
      exact L
    · rw [ab_n c, ab_n c2] at L
      exact L
  have L95f : ¬ xTru (μ 9 o0 0) (μ 9 o0 1) (μ 7 o1 0) (μ 7 o1 1) (μ 7 o1 2) (μ 7 o2 0) (μ 7 o2 1) (μ 7 o2 2) → R_9003 sc d (PI t Q) t 95 [.inr (.inr (.inl (some (9, o0)))), .inr (.inr (.inl (some (7, o1)))), .inr (.inr (.inl (some (7, o2)))), .inr (.inr (.inl (some (7, o3)))), .inr (.inl (xS (μ 9 o0 0) (μ 9 o0 1) (μ 7 o1 0) (μ 7 o1 1) (μ 7 o1 2))), vx, .inr (.inl (xS (μ 9 o0 0) (μ 9 o0 1) (μ 7 o2 0) (μ 7 o2 1) (μ 7 o2 2))), vx, vx, vx, vx, vx, vx, vx, vx, vx, vx] [.inl 0] μ := by
    intro ht
    exact m_9003_95 ⟨fun c => absurd rfl c, fun _ => PI_mk (h0 fun z => ht z.1)⟩
  have L76 : ¬ (xS (μ 9 o0 0) (μ 9 o0 1) (μ 7 o1 0) (μ 7 o1 1) (μ 7 o1 2) < 0 ∧ 0 < xS (μ 9 o0 0) (μ 9 o0 1) (μ 7 o2 0) (μ 7 o2 1) (μ 7 o2 2)) → R_9003 sc d (PI t Q) t 76 [.inr (.inr (.inl (some (9, o0)))), .inr (.inr (.inl (some (7, o1)))), .inr (.inr (.inl (some (7, o2)))), .inr (.inr (.inl (some (7, o3)))), .inr (.inl (xS (μ 9 o0 0) (μ 9 o0 1) (μ 7 o1 0) (μ 7 o1 1) (μ 7 o1 2))), vx, .inr (.inl (xS (μ 9 o0 0) (μ 9 o0 1) (μ 7 o2 0) (μ 7 o2 1) (μ 7 o2 2))), vx, vx, vx, vx, vx, vx, vx, vx, vx, vx] [] μ := by
    intro hn
    refine m_9003_76 ⟨fun c => L95f ?_, fun c => ⟨fun c2 => L95f ?_, fun c2 => L95t ?_⟩⟩
    · rw [lc_le] at c
      rintro (z | z) <;> omega
    · rw [lc_ge] at c2
      rintro (z | z) <;> omega
    · rw [lc_le] at c
      rw [lc_ge] at c2
      exact Or.inr (by omega)
  have L18 : R_9003 sc d (PI t Q) t 18 [.inr (.inr (.inl (some (9, o0)))), .inr (.inr (.inl (some (7, o1)))), .inr (.inr (.inl (some (7, o2)))), .inr (.inr (.inl (some (7, o3)))), vx, vx, vx, vx, vx, vx, vx, vx, vx, vx, vx, vx, vx] [.inr (.inl (xn (μ 9 o0 0) (μ 7 o1 0) (μ 7 o1 1)))] μ := by
    have sa : xS (μ 9 o0 0) (μ 9 o0 1) (μ 7 o1 0) (μ 7 o1 1) (μ 7 o1 2) = xn (μ 9 o0 0) (μ 7 o1 0) (μ 7 o1 1) - μ 9 o0 1 * μ 7 o1 2 := rfl
    have sb : xS (μ 9 o0 0) (μ 9 o0 1) (μ 7 o2 0) (μ 7 o2 1) (μ 7 o2 2) = xn (μ 9 o0 0) (μ 7 o2 0) (μ 7 o2 1) - μ 9 o0 1 * μ 7 o2 2 := rfl
    refine m_9003_18 ?_
    rw [← sa]
    refine ⟨by omega, by omega, fun c => ?_, fun c => ?_⟩
    · have x1 : ∀ x y, xn (μ 9 o0 0) x y = x := fun x y => if_pos c
      rw [x1] at sb
      rw [← sb]
      refine ⟨by omega, by omega, fun c => ?_, fun c => ⟨fun c2 => ?_, fun c2 => ?_⟩⟩
      · rw [lc_ge] at c
        exact L76 (by omega)
      · rw [lc_ge] at c
        rw [lc_gt] at c2
        exact L95t (Or.inl (by omega))
      · rw [lc_gt] at c2
        exact L76 (by omega)
    · have x1 : ∀ x y, xn (μ 9 o0 0) x y = y := fun x y => if_neg c
      rw [x1] at sb
      rw [← sb]
      refine ⟨by omega, by omega, fun c => ?_, fun c => ⟨fun c2 => ?_, fun c2 => ?_⟩⟩
      · rw [lc_ge] at c
        exact L76 (by omega)
      · rw [lc_ge] at c
        rw [lc_gt] at c2
        exact L95t (Or.inl (by omega))
      · rw [lc_gt] at c2
        exact L76 (by omega)
  refine m_9003 ⟨fun c => ?_, fun c => ?_⟩
  · have x1 : ∀ x y, xn (μ 9 o0 0) x y = x := fun x y => if_pos c
    rw [x1] at L18
    exact L18
  · have x1 : ∀ x y, xn (μ 9 o0 0) x y = y := fun x y => if_neg c
    rw [x1] at L18
    exact L18
