/-! MATHEMATICS, 28: the shortest of all -/
/-- A WAY UPON A LINE, to and fro: its measures -/
theorem cUv {L : Ln} {w : Wy} {f p i : Int} (ef : L.1 = f) (hp : xn f w.1 w.2.1 = p) (hi : xn f w.2.2.1 w.2.2.2 = i) : (p < i ∧ cD L w = i - p ∧ cUp L w = L.2.1 - p ∧ cLow L w = i - p) ∨ (i ≤ p ∧ cD L w = i - p ∧ cUp L w = p - L.2.1 ∧ cLow L w = p - i) := by
  subst ef
  have d : cD L w = i - p := by
    unfold cD
    rw [hp, hi]
  by_cases c : 0 < cD L w
  · refine Or.inl ⟨by omega, d, ?_, ?_⟩
    · unfold cUp
      rw [if_pos c, hp]
    · unfold cLow
      rw [if_pos c, d]
  · refine Or.inr ⟨by omega, d, ?_, ?_⟩
    · unfold cUp
      rw [if_neg c, hp]
    · unfold cLow
      rw [if_neg c, d]
      omega
theorem cOn_i {L : Ln} {w : Wy} {f t : Int} (ef : L.1 = f) (h1 : xt f w.1 w.2.1 = t) (h2 : xt f w.2.2.1 w.2.2.2 = t) : cOn L w ↔ cD L w ≠ 0 ∧ L.2.2.1 ≤ t ∧ t ≤ L.2.2.2 := by
  subst ef
  have o : cO L w = t * cLow L w := by
    unfold cO cE
    rw [h1, h2, Int.sub_self, Int.zero_mul, Int.add_zero]
  constructor
  · intro z
    have p := cLow_pos z.1
    have z1 := z.2.1
    have z2 := z.2.2
    rw [o] at z1 z2
    exact ⟨z.1, Int.le_of_mul_le_mul_right z1 p, Int.le_of_mul_le_mul_right z2 p⟩
  · intro z
    have p := cLow_pos z.1
    have z1 := Int.mul_le_mul_of_nonneg_right z.2.1 (Int.le_of_lt p)
    have z2 := Int.mul_le_mul_of_nonneg_right z.2.2 (Int.le_of_lt p)
    rw [← o] at z1 z2
    exact ⟨z.1, z1, z2⟩
theorem cLow_e {L R : Ln} {w : Wy} (e : R.1 = L.1) : cLow R w = cLow L w := by
  unfold cLow cD
  rw [e]
section TF
variable {L R : Ln} {w : Wy} {f t : Int}
theorem hitA (e1 : L.1 = f) (e2 : R.1 = f) (h1 : xt f w.1 w.2.1 = t) (h2 : xt f w.2.2.1 w.2.2.2 = t) : Hit L w 0 1 (cUp R w) (cLow R w) ↔ (cD L w ≠ 0 ∧ L.2.2.1 ≤ t ∧ t ≤ L.2.2.2) ∧ 0 < cUp L w ∧ cUp L w < cUp R w := by
  have el : cLow R w = cLow L w := cLow_e (e2.trans e1.symm)
  have on := cOn_i e1 h1 h2
  rw [el]
  constructor
  · intro z
    have p := cLow_pos z.1.1
    have q1 : 0 * cLow L w < cUp L w * 1 := z.2.1
    have q2 : cUp L w * cLow L w < cUp R w * cLow L w := z.2.2
    exact ⟨on.mp z.1, by omega, Int.lt_of_mul_lt_mul_right q2 (Int.le_of_lt p)⟩
  · intro z
    have p := cLow_pos z.1.1
    have q1 : 0 * cLow L w < cUp L w * 1 := by omega
    exact ⟨on.mpr z.1, q1, Int.mul_lt_mul_of_pos_right z.2.2 p⟩
theorem hitB (e1 : L.1 = f) (e2 : R.1 = f) (h1 : xt f w.1 w.2.1 = t) (h2 : xt f w.2.2.1 w.2.2.2 = t) : Hit L w (cUp R w) (cLow R w) 1 1 ↔ (cD L w ≠ 0 ∧ L.2.2.1 ≤ t ∧ t ≤ L.2.2.2) ∧ cUp R w < cUp L w ∧ cUp L w < cLow L w := by
  have el : cLow R w = cLow L w := cLow_e (e2.trans e1.symm)
  have on := cOn_i e1 h1 h2
  rw [el]
  constructor
  · intro z
    have p := cLow_pos z.1.1
    have q1 : cUp R w * cLow L w < cUp L w * cLow L w := z.2.1
    have q2 : cUp L w * 1 < 1 * cLow L w := z.2.2
    exact ⟨on.mp z.1, Int.lt_of_mul_lt_mul_right q1 (Int.le_of_lt p), by omega⟩
  · intro z
    have p := cLow_pos z.1.1
    have q2 : cUp L w * 1 < 1 * cLow L w := by omega
    exact ⟨on.mpr z.1, Int.mul_lt_mul_of_pos_right z.2.1 p, q2⟩
theorem hitC (e1 : L.1 = f) (h1 : xt f w.1 w.2.1 = t) (h2 : xt f w.2.2.1 w.2.2.2 = t) : Hit L w 0 1 1 1 ↔ (cD L w ≠ 0 ∧ L.2.2.1 ≤ t ∧ t ≤ L.2.2.2) ∧ 0 < cUp L w ∧ cUp L w < cLow L w := by
  have on := cOn_i e1 h1 h2
  constructor
  · intro z
    have q1 : 0 * cLow L w < cUp L w * 1 := z.2.1
    have q2 : cUp L w * 1 < 1 * cLow L w := z.2.2
    exact ⟨on.mp z.1, by omega, by omega⟩
  · intro z
    have q1 : 0 * cLow L w < cUp L w * 1 := by omega
    have q2 : cUp L w * 1 < 1 * cLow L w := by omega
    exact ⟨on.mpr z.1, q1, q2⟩
end TF
/-- by two alike walls: to and fro; the way by the first alone is a part of it -/
theorem toFro {A B p t f : Int} {w1 w2 : Wy} {La Lb : Ln} (ea : La.1 = f) (ea2 : La.2.1 = A) (eb : Lb.1 = f) (eb2 : Lb.2.1 = 2 * A - B)
    (p1 : xn f w1.1 w1.2.1 = p) (i1 : xn f w1.2.2.1 w1.2.2.2 = 2 * A - p) (t1 : xt f w1.1 w1.2.1 = t) (u1 : xt f w1.2.2.1 w1.2.2.2 = t)
    (p2 : xn f w2.1 w2.2.1 = p) (i2 : xn f w2.2.2.1 w2.2.2.2 = 2 * A - (2 * B - p)) (t2 : xt f w2.1 w2.2.1 = t) (u2 : xt f w2.2.2.1 w2.2.2.2 = t)
    (h1 : Hit La w2 0 1 1 1) (h2 : Hit Lb w2 (cUp La w2) (cLow La w2) 1 1) :
    Hit La w1 0 1 1 1 ∧ ((B < p ∧ p < A) ∨ (A < p ∧ p < B)) ∧ ∀ Lk Lc : Ln, Lk.1 = f → Lc.1 = f → Lc.2.1 = 2 * A - Lk.2.1 → Lc.2.2.1 = Lk.2.2.1 → Lc.2.2.2 = Lk.2.2.2 → ¬ Hit Lk w2 0 1 (cUp La w2) (cLow La w2) → ¬ Hit Lk w1 0 1 (cUp La w1) (cLow La w1) ∧ ¬ Hit Lc w1 (cUp La w1) (cLow La w1) 1 1 := by
  rw [hitC ea t2 u2] at h1
  rw [hitB eb ea t2 u2] at h2
  have a2 := cUv ea p2 i2
  have b2 := cUv eb p2 i2
  have a1 := cUv ea p1 i1
  rw [ea2] at a1 a2
  rw [eb2] at b2
  have q : (B < p ∧ p < A) ∨ (A < p ∧ p < B) := by omega
  refine ⟨(hitC ea t1 u1).mpr (by omega), q, fun Lk Lc k1 k2 k3 k4 k5 hn => ?_⟩
  rw [hitA k1 ea t2 u2] at hn
  rw [hitA k1 ea t1 u1, hitB k2 ea t1 u1]
  have x1 := cUv k1 p1 i1
  have x2 := cUv k1 p2 i2
  have x3 := cUv k2 p1 i1
  rw [k3] at x3
  rw [k4, k5]
  refine ⟨fun z => hn ?_, fun z => hn ?_⟩
  · omega
  · omega
/-- no way by two walls across each other comes back to its beginning: it touches both at one place -/
theorem across {A B p q f f' : Int} {w : Wy} {La Lb : Ln} {P : Prop} (ea : La.1 = f) (ea2 : La.2.1 = A) (eb : Lb.1 = f') (eb2 : Lb.2.1 = B)
    (p1 : xn f w.1 w.2.1 = p) (i1 : xn f w.2.2.1 w.2.2.2 = 2 * A - p) (p2 : xn f' w.1 w.2.1 = q) (i2 : xn f' w.2.2.1 w.2.2.2 = 2 * B - q)
    (h2 : Hit Lb w (cUp La w) (cLow La w) 1 1) : P := by
  have a := cUv ea p1 i1
  have b := cUv eb p2 i2
  rw [ea2] at a
  rw [eb2] at b
  have a' : cLow La w = 2 * cUp La w := by omega
  have b' : cLow Lb w = 2 * cUp Lb w := by omega
  have z : cUp La w * cLow Lb w < cUp Lb w * cLow La w := h2.2.1
  rw [a', b', Int.mul_left_comm, Int.mul_left_comm (cUp Lb w), Int.mul_comm (cUp Lb w)] at z
  exact absurd z (Int.lt_irrefl _)
theorem toFro_sq {x y : Int} (h : (0 ≤ x ∧ x ≤ y) ∨ (y ≤ x ∧ x ≤ 0)) : x * x ≤ y * y := by
  rcases h with ⟨h1, h2⟩ | ⟨h1, h2⟩
  · exact Int.mul_le_mul h2 h2 h1 (Int.le_trans h1 h2)
  · have : -x * -x ≤ -y * -y := Int.mul_le_mul (by omega) (by omega) (by omega) (by omega)
    rw [Int.neg_mul_neg, Int.neg_mul_neg] at this
    exact this
theorem ly_s {g : Gf} {a : Nat} {L : Ln} (e : g a 0 = L.1) : (ly g a L).2.1 = 2 * g a 1 - L.2.1 ∧ (ly g a L).2.2.1 = L.2.2.1 ∧ (ly g a L).2.2.2 = L.2.2.2 := by
  unfold ly Ln.lay
  rw [if_pos e]
  exact ⟨rfl, rfl, rfl⟩
theorem ly_o {g : Gf} {a : Nat} {L : Ln} (e : g a 0 ≠ L.1) : (ly g a L).2.1 = L.2.1 := by
  unfold ly Ln.lay
  rw [if_neg e]
theorem noHit {L : Ln} {w : Wy} {f p : Int} {u1 l1 u2 l2 : Int} (ef : L.1 = f) (hp : xn f w.1 w.2.1 = p) (hi : xn f w.2.2.1 w.2.2.2 = p) : ¬ Hit L w u1 l1 u2 l2 := fun z => z.1.1 (by
  unfold cD
  rw [ef, hp, hi, Int.sub_self])
theorem op21 {g : Gf} {px py : Int} {a b : Nat} (ga : g a 0 = 0 ∨ g a 0 = 1) (gb : g b 0 = 0 ∨ g b 0 = 1) (gk : ∀ k, k < 9 → g k 5 ≠ 0 → g k 0 = 0 ∨ g k 0 = 1) (h : Op2 g (wy2 g px py px py a b) a b) :
    Op1 g (wy1 g px py px py a) a ∧ sqw (wy1 g px py px py a) ≤ sqw (wy2 g px py px py a b) := by
  obtain ⟨h1, h2, h3⟩ := h
  by_cases c : g b 0 = g a 0
  · obtain ⟨l1, -, -⟩ := ly_s (g := g) (a := a) (L := wl g b) c.symm
    rcases ga with e | e
    · have eb : g b 0 = 0 := c.trans e
      have e1 : wy1 g px py px py a = ⟨px, py, 2 * g a 1 - px, py⟩ := by
        unfold wy1 lyX lyY
        rw [if_pos e, if_pos e]
      have e2 : wy2 g px py px py a b = ⟨px, py, 2 * g a 1 - (2 * g b 1 - px), py⟩ := by
        unfold wy2 lyX lyY
        rw [if_pos e, if_pos e, if_pos eb, if_pos eb]
      rw [e1, e2]
      rw [e2] at h1 h2 h3
      obtain ⟨r1, r2, r3⟩ := toFro (A := g a 1) (B := g b 1) (p := px) (t := py) (f := 0) (w1 := ⟨px, py, 2 * g a 1 - px, py⟩) (La := wl g a) e rfl (ly_f.trans eb) l1 rfl rfl rfl rfl rfl rfl rfl rfl h1 h2
      refine ⟨⟨r1, fun k hk h5 => ?_⟩, ?_⟩
      · rcases gk k hk h5 with ek | ek
        · obtain ⟨k1, k2, k3⟩ := ly_s (g := g) (a := a) (L := wl g k) (e.trans ek.symm)
          exact r3 (wl g k) (ly g a (wl g k)) ek (ly_f.trans ek) k1 k2 k3 (h3 k hk h5).1
        · exact ⟨noHit (f := 1) (p := py) ek rfl rfl, noHit (f := 1) (p := py) (ly_f.trans ek) rfl rfl⟩
      · have z := toFro_sq (x := 2 * g a 1 - px - px) (y := 2 * g a 1 - (2 * g b 1 - px) - px) (by omega)
        show (2 * g a 1 - px - px) * (2 * g a 1 - px - px) + (py - py) * (py - py) ≤ (2 * g a 1 - (2 * g b 1 - px) - px) * (2 * g a 1 - (2 * g b 1 - px) - px) + (py - py) * (py - py)
        exact Int.add_le_add_right z _
    · have eb : g b 0 = 1 := c.trans e
      have n0 : ¬ g a 0 = 0 := by omega
      have n1 : ¬ g b 0 = 0 := by omega
      have e1 : wy1 g px py px py a = ⟨px, py, px, 2 * g a 1 - py⟩ := by
        unfold wy1 lyX lyY
        rw [if_neg n0, if_neg n0]
      have e2 : wy2 g px py px py a b = ⟨px, py, px, 2 * g a 1 - (2 * g b 1 - py)⟩ := by
        unfold wy2 lyX lyY
        rw [if_neg n0, if_neg n0, if_neg n1, if_neg n1]
      rw [e1, e2]
      rw [e2] at h1 h2 h3
      obtain ⟨r1, r2, r3⟩ := toFro (A := g a 1) (B := g b 1) (p := py) (t := px) (f := 1) (w1 := ⟨px, py, px, 2 * g a 1 - py⟩) (La := wl g a) e rfl (ly_f.trans eb) l1 rfl rfl rfl rfl rfl rfl rfl rfl h1 h2
      refine ⟨⟨r1, fun k hk h5 => ?_⟩, ?_⟩
      · rcases gk k hk h5 with ek | ek
        · exact ⟨noHit (f := 0) (p := px) ek rfl rfl, noHit (f := 0) (p := px) (ly_f.trans ek) rfl rfl⟩
        · obtain ⟨k1, k2, k3⟩ := ly_s (g := g) (a := a) (L := wl g k) (e.trans ek.symm)
          exact r3 (wl g k) (ly g a (wl g k)) ek (ly_f.trans ek) k1 k2 k3 (h3 k hk h5).1
      · have z := toFro_sq (x := 2 * g a 1 - py - py) (y := 2 * g a 1 - (2 * g b 1 - py) - py) (by omega)
        show (px - px) * (px - px) + (2 * g a 1 - py - py) * (2 * g a 1 - py - py) ≤ (px - px) * (px - px) + (2 * g a 1 - (2 * g b 1 - py) - py) * (2 * g a 1 - (2 * g b 1 - py) - py)
        exact Int.add_le_add_left z _
  · have l1 := ly_o (g := g) (a := a) (L := wl g b) (fun z => c z.symm)
    rcases ga with e | e
    · have eb : g b 0 = 1 := by omega
      have n1 : ¬ g b 0 = 0 := by omega
      have e2 : wy2 g px py px py a b = ⟨px, py, 2 * g a 1 - px, 2 * g b 1 - py⟩ := by
        unfold wy2 lyX lyY
        rw [if_pos e, if_pos e, if_neg n1, if_neg n1]
      rw [e2] at h2
      exact across (A := g a 1) (B := g b 1) (p := px) (q := py) (f := 0) (f' := 1) (La := wl g a) e rfl (ly_f.trans eb) l1 rfl rfl rfl rfl h2
    · have eb : g b 0 = 0 := by omega
      have n0 : ¬ g a 0 = 0 := by omega
      have e2 : wy2 g px py px py a b = ⟨px, py, 2 * g b 1 - px, 2 * g a 1 - py⟩ := by
        unfold wy2 lyX lyY
        rw [if_neg n0, if_neg n0, if_pos eb, if_pos eb]
      rw [e2] at h2
      exact across (A := g a 1) (B := g b 1) (p := py) (q := px) (f := 1) (f' := 0) (La := wl g a) e rfl (ly_f.trans eb) l1 rfl rfl rfl rfl h2
theorem two_one {g : Gf} {fall s px py : Int} {a b : Nat} (ga : g a 0 = 0 ∨ g a 0 = 1) (gb : g b 0 = 0 ∨ g b 0 = 1) (gk : ∀ k, k < 9 → g k 5 ≠ 0 → g k 0 = 0 ∨ g k 0 = 1) (sb : 0 ≤ g b 4) (hf : 1 ≤ fall) (h : K2 g fall s px py px py a b) :
    K1 g fall s px py px py a ∧ sqw (wy1 g px py px py a) ≤ sqw (wy2 g px py px py a b) := by
  obtain ⟨o, l⟩ := h
  obtain ⟨o1, q⟩ := op21 ga gb gk o
  refine ⟨⟨o1, ?_⟩, q⟩
  unfold lvl at l ⊢
  have := Int.ediv_le_ediv (c := fall) (by omega) (rt_mono q)
  omega
/-- back to the beginning: those by one wall tell the least of all -/
theorem Bst_one {g : Gf} {fall s px py B : Int} (gk : ∀ k, k < 9 → g k 5 ≠ 0 → (g k 0 = 0 ∨ g k 0 = 1) ∧ 0 ≤ g k 4) (hf : 1 ≤ fall) (h : Bst (Tq g fall s px py px py 9) B) : Bst (Tns g fall s px py px py) B := by
  have one : ∀ x, Tns g fall s px py px py x → ∃ y, Tq g fall s px py px py 9 y ∧ y ≤ x := by
    intro x hx
    rcases hx with hx | ⟨a, ha, ta, b, hb, hab, tb, k, rfl⟩
    · exact ⟨x, hx, Int.le_refl _⟩
    · obtain ⟨k1, q⟩ := two_one (gk a ha ta).1 (gk b hb tb).1 (fun k hk h5 => (gk k hk h5).1) (gk b hb tb).2 hf k
      exact ⟨_, ⟨a, ha, ta, k1, rfl⟩, q⟩
  rcases h with ⟨h1, h2⟩ | ⟨h1, h2, h3⟩
  · refine Or.inl ⟨h1, fun x hx => ?_⟩
    obtain ⟨y, hy, _⟩ := one x hx
    exact h2 y hy
  · refine Or.inr ⟨h1, Or.inl h2, fun x hx => ?_⟩
    obtain ⟨y, hy, q⟩ := one x hx
    have := h3 y hy
    omega
theorem F7.spn {μ μ' : Mem} {px py qx qy : Int} (h : F7 μ μ') (hs : Spn μ px py qx qy) : Spn μ' px py qx qy := h.fc.spn hs
theorem L10008i {sc : Scr} {d t : Nat} {μ : Mem} {P : Option AV → AS → Prop} {px py qx qy s fl : Int} {a : Nat} {T : Int → Prop} (ha : a < 9) (hC : CO μ) (hp : Pl px py) (hq : Pl qx qy) (hs : Spn μ px py qx qy) (bs : 0 ≤ s ∧ s ≤ 99)
    (h : ∀ μ' B q12, F7 μ μ' → Bst (fun x => T x ∨ (μ 9 a 5 ≠ 0 ∧ Tp (μ 9) (μ 1 0 8) s px py qx qy a 9 x)) B → B < 4000000 → R_10008 sc (d + 3) P t 45 [rfc 10 0, .inl s, .inl fl, .inr (.inl B), vx, rfc 26 0, .inl 9, .inl ((a + 1 : Nat) : Int), rfc 9 a, rfc 26 0, .inl 9, .inl 9, q12] [] μ') :
    ∀ (n b : Nat) (μ' : Mem) (B : Int) (q12 : AV), n + b = 9 → F7 μ μ' → Bst (fun x => T x ∨ (μ 9 a 5 ≠ 0 ∧ Tp (μ 9) (μ 1 0 8) s px py qx qy a b x)) B → B < 4000000 → R_10008 sc (d + 3) P t 76 [rfc 10 0, .inl s, .inl fl, .inr (.inl B), vx, rfc 26 0, .inl 9, .inl (a : Int), rfc 9 a, rfc 26 0, .inl 9, .inl (b : Int), q12] [] μ' := by
  intro n
  induction n with
  | zero =>
    intro b μ' B q12 hb hF hB hB2
    have : b = 9 := by omega
    subst this
    exact m_10008_76 ⟨fun _ => ⟨by omega, h μ' B _ hF hB hB2⟩, fun c => absurd (by decide) c⟩
  | succ n ih =>
    intro b μ' B q12 hb hF hB hB2
    have e9 : μ' 9 = μ 9 := hF.fc.c (by decide) (by decide) (by decide)
    have e1 : μ' 1 = μ 1 := hF.fc.c (by decide) (by decide) (by decide)
    have skip : ((b = a) ∨ μ 9 a 5 = 0 ∨ μ 9 b 5 = 0) → Bst (fun x => T x ∨ (μ 9 a 5 ≠ 0 ∧ Tp (μ 9) (μ 1 0 8) s px py qx qy a (b + 1) x)) B := by
      intro c
      refine hB.c fun x => ⟨fun z => z.elim Or.inl fun ⟨z1, b', z2, z3⟩ => Or.inr ⟨z1, b', by omega, z3⟩, fun z => z.elim Or.inl fun ⟨z1, b', z2, z3, z4, z5⟩ => Or.inr ⟨z1, b', ?_, z3, z4, z5⟩⟩
      by_cases q : b' = b
      · subst q
        omega
      · omega
    refine m_10008_76 ⟨fun c => absurd c (by omega), fun _ => ⟨by omega, ?_⟩⟩
    rw [Int.toNat_natCast, rF_wall (by omega)]
    refine m_10008_88 ⟨fun c => ⟨by omega, ih (b + 1) μ' B _ (by omega) hF (skip (Or.inl ?_)) hB2⟩, fun c => ⟨fun c2 => ⟨by omega, ih (b + 1) μ' B _ (by omega) hF (skip (Or.inr (Or.inl (by rw [← e9]; exact c2)))) hB2⟩, fun c2 => ⟨fun c3 => ⟨by omega, ih (b + 1) μ' B _ (by omega) hF (skip (Or.inr (Or.inr (by rw [← e9]; exact c3)))) hB2⟩, fun c3 => ?_⟩⟩⟩
    · simp only [Option.some.injEq, Prod.mk.injEq, true_and] at c
      exact c.symm
    · have hne : b ≠ a := fun z => c (by rw [z])
      refine sp_shorter2 (T' := fun x => T x ∨ (μ 9 a 5 ≠ 0 ∧ Tp (μ 9) (μ 1 0 8) s px py qx qy a (b + 1) x)) ha c2 (by omega) c3 (hC.fc hF.fc) hp hq (hF.spn hs) bs hB hB2 (fun x => ?_) fun μ2 B2 F2 hB' hB2' => ⟨by omega, ih (b + 1) μ2 B2 _ (by omega) (hF.trans F2) hB' hB2'⟩
      rw [e9, e1]
      rw [e9] at c2 c3
      constructor
      · intro z
        rcases z with z | ⟨z1, b', z2, z3, z4, z5, z6⟩
        · exact Or.inl (Or.inl z)
        · by_cases q : b' = b
          · subst q
            exact Or.inr ⟨z5, z6⟩
          · exact Or.inl (Or.inr ⟨z1, b', by omega, z3, z4, z5, z6⟩)
      · intro z
        rcases z with (z | ⟨z1, b', z2, z3⟩) | z
        · exact Or.inl z
        · exact Or.inr ⟨z1, b', by omega, z3⟩
        · exact Or.inr ⟨c2, b, by omega, hne, c3, z⟩
theorem L10008o {sc : Scr} {d t : Nat} {μ : Mem} {P : Option AV → AS → Prop} {px py qx qy s fl : Int} {T : Int → Prop} (hC : CO μ) (hp : Pl px py) (hq : Pl qx qy) (hs : Spn μ px py qx qy) (bs : 0 ≤ s ∧ s ≤ 99)
    (h : ∀ μ' B, F7 μ μ' → Bst (fun x => T x ∨ Tpp (μ 9) (μ 1 0 8) s px py qx qy 9 x) B → B < 4000000 → P (some (.inr (.inl B))) (fs (t, 0, 0) μ')) :
    ∀ (n a : Nat) (μ' : Mem) (B : Int) (q8 q9 q10 q11 q12 : AV), n + a = 9 → F7 μ μ' → Bst (fun x => T x ∨ Tpp (μ 9) (μ 1 0 8) s px py qx qy a x) B → B < 4000000 → R_10008 sc (d + 3) P t 45 [rfc 10 0, .inl s, .inl fl, .inr (.inl B), vx, rfc 26 0, .inl 9, .inl (a : Int), q8, q9, q10, q11, q12] [] μ' := by
  intro n
  induction n with
  | zero =>
    intro a μ' B q8 q9 q10 q11 q12 ha hF hB hB2
    have : a = 9 := by omega
    subst this
    exact m_10008_45 ⟨fun _ => h μ' B hF hB hB2, fun c => absurd (by decide) c⟩
  | succ n ih =>
    intro a μ' B q8 q9 q10 q11 q12 ha hF hB hB2
    have e9 : μ' 9 = μ 9 := hF.fc.c (by decide) (by decide) (by decide)
    have e1 : μ' 1 = μ 1 := hF.fc.c (by decide) (by decide) (by decide)
    refine m_10008_45 ⟨fun c => absurd c (by omega), fun _ => ⟨by omega, ?_⟩⟩
    rw [Int.toNat_natCast, rF_wall (by omega)]
    refine L10008i (μ := μ') (a := a) (T := fun x => T x ∨ Tpp (μ 9) (μ 1 0 8) s px py qx qy a x) (by omega) (hC.fc hF.fc) hp hq (hF.spn hs) bs (fun μ2 B2 q F2 hB' hB2' => ih (a + 1) μ2 B2 _ _ _ _ _ (by omega) (hF.trans F2) (hB'.c fun x => ?_) hB2') 9 0 μ' B _ rfl F7.rfl (hB.c fun x => ⟨Or.inl, fun z => z.elim (fun y => y) fun ⟨_, c, hc, _⟩ => absurd hc (by omega)⟩) hB2
    rw [e9, e1]
    constructor
    · intro z
      rcases z with (z | ⟨c, z1, z2⟩) | z
      · exact Or.inl z
      · exact Or.inr ⟨c, by omega, z2⟩
      · exact Or.inr ⟨a, by omega, z⟩
    · intro z
      rcases z with z | ⟨c, z1, z2⟩
      · exact Or.inl (Or.inl z)
      · by_cases q : c = a
        · subst q
          exact Or.inr z2
        · exact Or.inl (Or.inr ⟨c, by omega, z2⟩)
theorem L10010 {sc : Scr} {d t : Nat} {μ : Mem} {P : Option AV → AS → Prop} {px py qx qy s B0 : Int} {T : Int → Prop} (hC : CO μ) (hp : Pl px py) (hq : Pl qx qy) (hs : Spn μ px py qx qy) (bs : 0 ≤ s ∧ s ≤ 99)
    (h : ∀ μ' B, F7 μ μ' → Bst (fun x => T x ∨ Tq (μ 9) (μ 1 0 8) s px py qx qy 9 x) B → B < 4000000 → P (some (.inr (.inl B))) (fs (t, 0, 0) μ')) :
    ∀ (n a : Nat) (μ' : Mem) (B : Int) (q9 : AV), n + a = 9 → F7 μ μ' → Bst (fun x => T x ∨ Tq (μ 9) (μ 1 0 8) s px py qx qy a x) B → B < 4000000 → R_10010 sc (d + 3) P t 20 [rfc 10 0, .inl s, .inr (.inl B0), vx, .inr (.inl B), vx, rfc 26 0, .inl 9, .inl (a : Int), q9] [] μ' := by
  intro n
  induction n with
  | zero =>
    intro a μ' B q9 ha hF hB hB2
    have : a = 9 := by omega
    subst this
    exact m_10010_20 ⟨fun _ => h μ' B hF hB hB2, fun c => absurd (by decide) c⟩
  | succ n ih =>
    intro a μ' B q9 ha hF hB hB2
    have e9 : μ' 9 = μ 9 := hF.fc.c (by decide) (by decide) (by decide)
    have e1 : μ' 1 = μ 1 := hF.fc.c (by decide) (by decide) (by decide)
    refine m_10010_20 ⟨fun c => absurd c (by omega), fun _ => ⟨by omega, ?_⟩⟩
    rw [Int.toNat_natCast, rF_wall (by omega)]
    refine m_10010_32 ⟨fun c => ⟨by omega, ih (a + 1) μ' B _ (by omega) hF (hB.c fun x => ⟨fun z => z.elim Or.inl fun ⟨c', z1, z2⟩ => Or.inr ⟨c', by omega, z2⟩, fun z => z.elim Or.inl fun ⟨c', z1, z2, z3⟩ => Or.inr ⟨c', ?_, z2, z3⟩⟩) hB2⟩, fun c => ?_⟩
    · by_cases q : c' = a
      · subst q
        rw [e9] at c
        exact absurd c z2
      · omega
    · refine sp_shorter1 (T' := fun x => T x ∨ Tq (μ 9) (μ 1 0 8) s px py qx qy (a + 1) x) (by omega) c (hC.fc hF.fc) hp hq (hF.spn hs) bs hB hB2 (fun x => ?_) fun μ2 B2 F2 hB' hB2' => ⟨by omega, ih (a + 1) μ2 B2 _ (by omega) (hF.trans F2) hB' hB2'⟩
      rw [e9, e1]
      rw [e9] at c
      constructor
      · intro z
        rcases z with z | ⟨b', z2, z4, z5, z6⟩
        · exact Or.inl (Or.inl z)
        · by_cases q : b' = a
          · subst q
            exact Or.inr ⟨z5, z6⟩
          · exact Or.inl (Or.inr ⟨b', by omega, z4, z5, z6⟩)
      · intro z
        rcases z with (z | ⟨b', z2, z3⟩) | z
        · exact Or.inl z
        · exact Or.inr ⟨b', by omega, z3⟩
        · exact Or.inr ⟨a, by omega, c, z⟩
/-- the shortest by one wall -/
theorem sp_shortO {sc : Scr} {d t : Nat} {μ : Mem} {Q : Int → Mem → Prop} {px py qx qy s B : Int} {T : Int → Prop} (hC : CO μ) (hp : Pl px py) (hq : Pl qx qy) (hs : Spn μ px py qx qy) (bs : 0 ≤ s ∧ s ≤ 99) (hB : Bst T B) (hB2 : B < 4000000)
    (h : ∀ μ' B', F7 μ μ' → Bst (fun x => T x ∨ Tq (μ 9) (μ 1 0 8) s px py qx qy 9 x) B' → B' < 4000000 → Q B' μ') : RMl sc (d + 4) 10010 [rfc 10 0, .inl s, .inr (.inl B)] (t, 0, 0) μ Q :=
  m_10010 (L10010 (μ := μ) (T := T) hC hp hq hs bs (fun μ' B F hB hB2 => PJ_mk (h μ' B F hB hB2)) 9 0 μ B _ rfl F7.rfl (hB.c fun x => ⟨Or.inl, fun z => z.elim (fun y => y) fun ⟨c, hc, _⟩ => absurd hc (by omega)⟩) hB2)
theorem Bst_e {T : Int → Prop} (h : ∀ x, ¬ T x) : Bst T (-1) := Or.inl ⟨rfl, h⟩
theorem sp_shortN {sc : Scr} {d t : Nat} {μ : Mem} {Q : Int → Mem → Prop} {px py qx qy s : Int} (hC : CO μ) (hp : Pl px py) (hq : Pl qx qy) (hs : Spn μ px py qx qy) (bs : 0 ≤ s ∧ s ≤ 99)
    (h : ∀ μ' B, F7 μ μ' → Bst (Tns (μ 9) (μ 1 0 8) s px py qx qy) B → B < 4000000 → Q B μ') : RMl sc (d + 5) 10008 [rfc 10 0, .inl s, .inl 0] (t, 0, 0) μ Q := by
  refine m_10008 ⟨fun _ => ?_, fun c => absurd rfl c⟩
  refine sp_shortO (T := fun _ => False) hC hp hq hs bs (Bst_e fun x z => z) (by decide) fun μ1 B F1 hB hB2 => ?_
  have e9 : μ1 9 = μ 9 := F1.fc.c (by decide) (by decide) (by decide)
  have e1 : μ1 1 = μ 1 := F1.fc.c (by decide) (by decide) (by decide)
  refine L10008o (d := d + 1) (μ := μ1) (T := fun x => Tq (μ 9) (μ 1 0 8) s px py qx qy 9 x) (hC.fc F1.fc) hp hq (F1.spn hs) bs (fun μ' B F hB hB2 => PJ_mk (h μ' B (F1.trans F) (hB.c fun x => ?_) hB2)) 9 0 μ1 B _ _ _ _ _ rfl F7.rfl (hB.c fun x => ⟨fun z => z.elim (fun y => y.elim) Or.inl, fun z => z.elim Or.inr fun ⟨c, hc, _⟩ => absurd hc (by omega)⟩) hB2
  rw [e9, e1]
  exact Iff.rfl
theorem sp_shortA {sc : Scr} {d t : Nat} {μ : Mem} {Q : Int → Mem → Prop} {px py qx qy s : Int} (hC : CO μ) (hp : Pl px py) (hq : Pl qx qy) (hs : Spn μ px py qx qy) (bs : 0 ≤ s ∧ s ≤ 99)
    (h : ∀ μ' B, F7 μ μ' → Bst (Tal (μ 9) (μ 1 0 8) s px py qx qy) B → B < 4000000 → Q B μ') : RMl sc (d + 5) 10008 [rfc 10 0, .inl s, .inl 1] (t, 0, 0) μ Q := by
  refine m_10008 ⟨fun c => absurd c (by decide), fun _ => ?_⟩
  refine sp_shorter0 (d := d + 1) (T := fun _ => False) (T' := fun x => K0 (μ 9) (μ 1 0 8) s px py qx qy ∧ x = sqw (wy0 px py qx qy)) hC hp hq hs bs (Bst_e fun x z => z) (by decide) (fun x => ⟨Or.inr, fun z => z.elim (fun y => y.elim) fun y => y⟩) fun μ0 B0 F0 hB0 hB02 => ?_
  have z9 : μ0 9 = μ 9 := F0.fc.c (by decide) (by decide) (by decide)
  have z1 : μ0 1 = μ 1 := F0.fc.c (by decide) (by decide) (by decide)
  refine sp_shortO (T := fun x => K0 (μ 9) (μ 1 0 8) s px py qx qy ∧ x = sqw (wy0 px py qx qy)) (hC.fc F0.fc) hp hq (F0.spn hs) bs hB0 hB02 fun μ1 B F1 hB hB2 => ?_
  have F := F0.trans F1
  have e9 : μ1 9 = μ 9 := F.fc.c (by decide) (by decide) (by decide)
  have e1 : μ1 1 = μ 1 := F.fc.c (by decide) (by decide) (by decide)
  rw [z9, z1] at hB
  refine L10008o (d := d + 1) (μ := μ1) (T := fun x => (K0 (μ 9) (μ 1 0 8) s px py qx qy ∧ x = sqw (wy0 px py qx qy)) ∨ Tq (μ 9) (μ 1 0 8) s px py qx qy 9 x) (hC.fc F.fc) hp hq (F.spn hs) bs (fun μ' B F2 hB hB2 => PJ_mk (h μ' B (F.trans F2) (hB.c fun x => ?_) hB2)) 9 0 μ1 B _ _ _ _ _ rfl F7.rfl (hB.c fun x => ⟨Or.inl, fun z => z.elim (fun y => y) fun ⟨c, hc, _⟩ => absurd hc (by omega)⟩) hB2
  rw [e9, e1]
  unfold Tal Tns
  exact ⟨fun z => z.elim (fun y => y.elim Or.inl fun u => Or.inr (Or.inl u)) fun y => Or.inr (Or.inr y), fun z => z.elim (fun y => Or.inl (Or.inl y)) fun y => y.elim (fun u => Or.inl (Or.inr u)) Or.inr⟩
/-- the time of the first return that is not straight, to the place itself -/
theorem sp_echoTime {sc : Scr} {d t : Nat} {μ : Mem} {Q : Int → Mem → Prop} {x y s : Int} (hC : CO μ) (hp : Pl x y) (bs : 0 ≤ s ∧ s ≤ 99) (h : ∀ μ', F8 μ μ' → Q (ech (rets (μ 9) (μ 1 0 7) (μ 1 0 8) s x y x y)) μ') : RMi sc (d + 5) 26 [rfc 0 0, .inl x, .inl y, .inl s] (t, 0, 0) μ Q := by
  refine m_26 (sp_span fun μ1 F1 hs => sp_shortO (T := fun _ => False) (hC.f8 F1) hp hp hs bs (Bst_e fun x z => z) (by decide) fun μ2 B F2 hB hB2 => ?_)
  have e9 : μ1 9 = μ 9 := F1.c (by decide)
  have e1 : μ1 1 = μ 1 := F1.c (by decide)
  have F := F1.trans F2.f8
  have e12 : μ2 1 = μ 1 := F.c (by decide)
  rw [e9, e1] at hB
  have hB := Bst_one (fun k hk h5 => ⟨(hC.1 k hk h5).1.1, (hC.1 k hk h5).2.1⟩) hC.2.2.1 (hB.c (T' := Tq (μ 9) (μ 1 0 8) s x y x y 9) fun x => ⟨fun z => z.elim (fun y => y.elim) fun y => y, Or.inr⟩)
  refine sp_timeOf hB.b hB2 (by rw [e12]; exact hC.2.1.1) ?_
  rw [e12, ech_eq hC.2.1.1 hB]
  exact h μ2 F
/-- the time of the first return -/
theorem sp_first8 {sc : Scr} {d t : Nat} {μ : Mem} {Q : Int → Mem → Prop} {px py qx qy s : Int} (hC : CO μ) (hp : Pl px py) (hq : Pl qx qy) (bs : 0 ≤ s ∧ s ≤ 99) (hs : Spn μ px py qx qy) (h : ∀ μ', F8 μ μ' → Q (fstT (rets (μ 9) (μ 1 0 7) (μ 1 0 8) s px py qx qy)) μ') :
    RMl sc (d + 5) 10008 [rfc 10 0, .inl s, .inl 1] (t, 0, 0) μ (fun v5 μ5 => RMi sc (d + 5) 1007 [rfc 1 0, .inr (.inl v5)] (t, 0, 0) μ5 Q) := by
  refine sp_shortA hC hp hq hs bs fun μ2 B F2 hB hB2 => ?_
  have e12 : μ2 1 = μ 1 := F2.fc.c (by decide) (by decide) (by decide)
  refine sp_timeOf hB.b hB2 (by rw [e12]; exact hC.2.1.1) ?_
  rw [e12, fst_eq hC.2.1.1 hB]
  exact h μ2 F2.f8
