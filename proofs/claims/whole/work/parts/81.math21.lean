/-! MATHEMATICS, 21: the list of returns -/
abbrev Lst : Type := (Nat → E4) × Nat
noncomputable def ic {α : Type} (p : Prop) (a b : α) : α := @ite α p (Classical.propDecidable p) a b
theorem ic_t {α : Type} {p : Prop} {a b : α} (h : p) : ic p a b = a := @if_pos p (Classical.propDecidable p) h α a b
theorem ic_f {α : Type} {p : Prop} {a b : α} (h : ¬ p) : ic p a b = b := @if_neg p (Classical.propDecidable p) h α a b
theorem ic_c {α : Type} {p q : Prop} {a b : α} (h : p ↔ q) : ic p a b = ic q a b := by
  by_cases c : p
  · rw [ic_t c, ic_t (h.mp c)]
  · rw [ic_f c, ic_f fun z => c (h.mpr z)]
def addE (L : Lst) (e : E4) : Lst := (insE L.1 e L.2, L.2 + 1)
def en (pace fall s sq soft n : Int) : E4 := (n, tmv pace sq, lvl fall s sq soft, rt sq)
abbrev Gf : Type := Nat → Nat → Int
noncomputable def st0 (g : Gf) (pace fall s px py qx qy : Int) (L : Lst) : Lst := ic (Op0 g (wy0 px py qx qy) ∧ 1 ≤ lvl fall s (sqw (wy0 px py qx qy)) 0) (addE L (en pace fall s (sqw (wy0 px py qx qy)) 0 0)) L
noncomputable def st1 (g : Gf) (pace fall s px py qx qy : Int) (a : Nat) (L : Lst) : Lst := ic (Op1 g (wy1 g px py qx qy a) a ∧ 1 ≤ lvl fall s (sqw (wy1 g px py qx qy a)) (g a 4)) (addE L (en pace fall s (sqw (wy1 g px py qx qy a)) (g a 4) (10 + (a : Int)))) L
noncomputable def st2 (g : Gf) (pace fall s px py qx qy : Int) (a b : Nat) (L : Lst) : Lst := ic (Op2 g (wy2 g px py qx qy a b) a b ∧ 1 ≤ lvl fall s (sqw (wy2 g px py qx qy a b)) (g a 4 + g b 4)) (addE L (en pace fall s (sqw (wy2 g px py qx qy a b)) (g a 4 + g b 4) ((100 + (10 * (a : Int))) + (b : Int)))) L
noncomputable def inL (g : Gf) (pace fall s px py qx qy : Int) (a : Nat) : Nat → Lst → Lst
  | 0, L => L
  | b + 1, L => if b = a ∨ g b 5 = 0 then inL g pace fall s px py qx qy a b L else st2 g pace fall s px py qx qy a b (inL g pace fall s px py qx qy a b L)
noncomputable def ouL (g : Gf) (pace fall s px py qx qy : Int) : Nat → Lst
  | 0 => st0 g pace fall s px py qx qy (fun _ => (0, 0, 0, 0), 0)
  | a + 1 => if g a 5 = 0 then ouL g pace fall s px py qx qy a else inL g pace fall s px py qx qy a 9 (st1 g pace fall s px py qx qy a (ouL g pace fall s px py qx qy a))
/-- the RETURNS in their order -/
noncomputable def rets (g : Gf) (pace fall s px py qx qy : Int) : Lst := ouL g pace fall s px py qx qy 9
theorem posE_c {f f' : Nat → E4} {e : E4} : ∀ {n : Nat}, (∀ i, i < n → f i = f' i) → posE f e n = posE f' e n
  | 0, _ => rfl
  | n + 1, h => by
    unfold posE
    rw [h n (Nat.lt_succ_self n), posE_c fun i hi => h i (Nat.lt_succ_of_lt hi)]
theorem insE_c {f f' : Nat → E4} {e : E4} {n i : Nat} (h : ∀ i, i < n → f i = f' i) (hi : i ≤ n) : insE f e n i = insE f' e n i := by
  have p := posE_le f' e n
  unfold insE
  rw [posE_c h]
  split
  · rw [h i (by omega)]
  · split
    · rfl
    · rw [h (i - 1) (by omega)]
theorem insE_m (f : Nat → E4) (e : E4) {n i : Nat} (hi : i ≤ n) : insE f e n i = e ∨ ∃ j, j < n ∧ insE f e n i = f j := by
  have p := posE_le f e n
  unfold insE
  split
  · exact Or.inr ⟨i, by omega, rfl⟩
  · split
    · exact Or.inl rfl
    · exact Or.inr ⟨i - 1, by omega, rfl⟩
theorem insE_e (f : Nat → E4) (e : E4) (n : Nat) : ∃ i, i ≤ n ∧ insE f e n i = e := by
  refine ⟨posE f e n, posE_le f e n, ?_⟩
  unfold insE
  rw [if_neg (by omega), if_pos rfl]
theorem insE_o (f : Nat → E4) (e : E4) {n j : Nat} (hj : j < n) : ∃ i, i ≤ n ∧ insE f e n i = f j := by
  by_cases c : j < posE f e n
  · refine ⟨j, by omega, ?_⟩
    unfold insE
    rw [if_pos c]
  · refine ⟨j + 1, by omega, ?_⟩
    unfold insE
    rw [if_neg (by omega), if_neg (by omega)]
    rfl
theorem behE_t {x y z : E4} (h1 : behE x y) (h2 : behE y z) : behE x z := by
  obtain ⟨x1, x2, x3, x4⟩ := x
  obtain ⟨y1, y2, y3, y4⟩ := y
  obtain ⟨z1, z2, z3, z4⟩ := z
  unfold behE at *
  simp only [] at *
  omega
theorem behE_n {x y : E4} (h : ¬ behE x y) (hn : x.1 ≠ y.1) : behE y x := by
  obtain ⟨x1, x2, x3, x4⟩ := x
  obtain ⟨y1, y2, y3, y4⟩ := y
  unfold behE at *
  simp only [] at *
  omega
def Srt (L : Lst) : Prop := ∀ i j, i < j → j < L.2 → behE (L.1 j) (L.1 i)
theorem posE_hi {f : Nat → E4} {e : E4} : ∀ {n i : Nat}, posE f e n ≤ i → i < n → behE (f i) e
  | 0, i, _, h => absurd h (by omega)
  | n + 1, i, h1, h2 => by
    unfold posE at h1
    split at h1
    · rename_i c
      by_cases q : i = n
      · rw [q]; exact c
      · exact posE_hi h1 (by omega)
    · omega
theorem posE_lo {f : Nat → E4} {e : E4} : ∀ {n : Nat}, posE f e n = 0 ∨ ¬ behE (f (posE f e n - 1)) e
  | 0 => Or.inl rfl
  | n + 1 => by
    unfold posE
    split
    · exact posE_lo
    · rename_i c
      exact Or.inr c
theorem Srt_add {L : Lst} {e : E4} (hS : Srt L) (hd : ∀ i, i < L.2 → (L.1 i).1 ≠ e.1) : Srt (addE L e) := by
  obtain ⟨f, n⟩ := L
  intro i j hij hj
  simp only [Srt, addE] at *
  have p := posE_le f e n
  have low : ∀ i, i < posE f e n → behE e (f i) := by
    intro i hi
    rcases posE_lo (f := f) (e := e) (n := n) with c | c
    · omega
    · have b := behE_n c (hd _ (by omega))
      by_cases q : i = posE f e n - 1
      · rw [q]; exact b
      · exact behE_t b (hS i (posE f e n - 1) (by omega) (by omega))
  unfold insE
  by_cases c1 : i < posE f e n
  · rw [if_pos c1]
    by_cases c2 : j < posE f e n
    · rw [if_pos c2]; exact hS i j hij (by omega)
    · rw [if_neg c2]
      by_cases c3 : j = posE f e n
      · rw [if_pos c3]; exact low i c1
      · rw [if_neg c3]; exact behE_t (posE_hi (e := e) (f := f) (n := n) (by omega) (by omega)) (low i c1)
  · rw [if_neg c1, if_neg (c := j < posE f e n) (by omega), if_neg (c := j = posE f e n) (by omega)]
    by_cases c3 : i = posE f e n
    · rw [if_pos c3]; exact posE_hi (n := n) (by omega) (by omega)
    · rw [if_neg c3]; exact hS _ _ (by omega) (by omega)
/-- the numbers in it -/
def Nin (p q : Int) (L : Lst) : Prop := ∀ i, i < L.2 → (L.1 i).1 = 0 ∨ (10 ≤ (L.1 i).1 ∧ (L.1 i).1 < p) ∨ (100 ≤ (L.1 i).1 ∧ (L.1 i).1 < q)
theorem Nin.mono {p q p' q' : Int} {L : Lst} (h : Nin p q L) (hp : p ≤ p') (hq : q ≤ q') : Nin p' q' L := fun i hi => by have := h i hi; omega
theorem Nin.add {p q : Int} {L : Lst} {e : E4} (h : Nin p q L) (he : e.1 = 0 ∨ (10 ≤ e.1 ∧ e.1 < p) ∨ (100 ≤ e.1 ∧ e.1 < q)) : Nin p q (addE L e) := by
  intro i hi
  rcases insE_m L.1 e (n := L.2) (i := i) (by unfold addE at hi; simp only [] at hi; omega) with c | ⟨j, hj, c⟩
  · unfold addE; simp only []; rw [c]; exact he
  · unfold addE; simp only []; rw [c]; exact h j hj
