/-! MATHEMATICS, 6: the class's open ways = open ways unfolded -/
def Rep (μ : Mem) (i : Nat) (m : Mp) (w : Wy) (u l c : Int) : Prop := μ 7 i 0 = c * rX m w u l ∧ μ 7 i 1 = c * rY m w u l ∧ μ 7 i 2 = c * l
theorem Rep.fo {μ μ' : Mem} {i o : Nat} {m : Mp} {w : Wy} {u l c : Int} (h : Rep μ i m w u l c) (hF : FO 7 o μ μ') (hi : i ≠ o) : Rep μ' i m w u l c := by
  obtain ⟨h1, h2, h3⟩ := h
  refine ⟨?_, ?_, ?_⟩
  · rw [hF _ _ _ (by omega)]; exact h1
  · rw [hF _ _ _ (by omega)]; exact h2
  · rw [hF _ _ _ (by omega)]; exact h3
theorem xC_rep {μ : Mem} {k i j : Nat} {m : Mp} {w : Wy} {L : Ln} {uA lA cA uB lB cB : Int} (hi : Rep μ i m w uA lA cA) (hj : Rep μ j m w uB lB cB) (hm : m.ok) (hL : LnR m L (wl (μ 9) k)) (hlA : 0 < lA) (hlB : 0 < lB) (hcA : 0 < cA) (hcB : 0 < cB) (hAB : uA * lB < uB * lA) :
    xC μ k i j ↔ Hit L w uA lA uB lB := by
  have := (cross_iff (w := w) hm hL hlA hlB hcA hcB hAB).1
  unfold xC
  rw [hi.1, hi.2.1, hi.2.2, hj.1, hj.2.1, hj.2.2]
  exact this
theorem sp_crR {sc : Scr} {d t : Nat} {μ : Mem} {Q : Int → Mem → Prop} {k i j o : Nat} {m : Mp} {w : Wy} {L : Ln} {uA lA cA uB lB cB : Int} (hi : Rep μ i m w uA lA cA) (hj : Rep μ j m w uB lB cB) (hm : m.ok) (hL : LnR m L (wl (μ 9) k)) (hlA : 0 < lA) (hlB : 0 < lB) (hcA : 0 < cA) (hcB : 0 < cB) (hAB : uA * lB < uB * lA)
    (hk : Wok μ k) (si : SokS μ i) (sj : SokS μ j)
    (h1 : Hit L w uA lA uB lB → ∀ μ', FO 7 o μ μ' → Rep μ' o m w (cUp L w) (cLow L w) (cA * cB * (uB * lA - uA * lB)) → Q 1 μ') (h0 : ¬ Hit L w uA lA uB lB → Q 0 μ) :
    RMi sc (d + 1) 9003 [.inr (.inr (.inl (some (9, k)))), .inr (.inr (.inl (some (7, i)))), .inr (.inr (.inl (some (7, j)))), .inr (.inr (.inl (some (7, o))))] (t, 0, 0) μ Q := by
  have e := xC_rep hi hj hm hL hlA hlB hcA hcB hAB
  refine sp_cross hk si sj (fun c => ?_) (fun c => h0 fun z => c (e.mpr z))
  have hit := e.mp c
  refine h1 hit _ FO.w3 ?_
  obtain ⟨p1, p2, p3⟩ := pt hm hL hlA hlB hcA hcB hAB hit
  rw [hi.1, hi.2.1, hi.2.2, hj.1, hj.2.1, hj.2.2]
  refine ⟨?_, ?_, ?_⟩
  · rw [wr_k (by decide), wr_k (by decide), wr_same]; exact p1
  · rw [wr_k (by decide), wr_same]; exact p2
  · rw [wr_same]; exact p3
def lyX (g : Nat → Nat → Int) (a : Nat) (x : Int) : Int := if g a 0 = 0 then 2 * g a 1 - x else x
def lyY (g : Nat → Nat → Int) (a : Nat) (y : Int) : Int := if g a 0 = 0 then y else 2 * g a 1 - y
theorem r0_0 (w : Wy) : rX Mp.one w 0 1 = w.1 ∧ rY Mp.one w 0 1 = w.2.1 := by
  unfold rX rY Mp.one
  constructor <;> simp
theorem r0_1 (w : Wy) : rX Mp.one w 1 1 = w.2.2.1 ∧ rY Mp.one w 1 1 = w.2.2.2 := by
  unfold rX rY Mp.one
  constructor <;> simp <;> omega
theorem r1_1 {g : Nat → Nat → Int} {a : Nat} {w : Wy} {x y : Int} (ex : w.2.2.1 = lyX g a x) (ey : w.2.2.2 = lyY g a y) : rX (mp1 g a) w 1 1 = x ∧ rY (mp1 g a) w 1 1 = y := by
  unfold lyX lyY at *
  unfold rX rY mp1 Mp.one Mp.rf
  split <;> simp_all <;> omega
theorem r2_1 {g : Nat → Nat → Int} {a b : Nat} {w : Wy} {x y : Int} (ha : g a 0 = 0 ∨ g a 0 = 1) (hb : g b 0 = 0 ∨ g b 0 = 1) (ex : w.2.2.1 = lyX g a (lyX g b x)) (ey : w.2.2.2 = lyY g a (lyY g b y)) : rX (mp2 g a b) w 1 1 = x ∧ rY (mp2 g a b) w 1 1 = y := by
  unfold lyX lyY at *
  unfold rX rY mp2 mp1 Mp.one Mp.rf
  rcases ha with h | h <;> rcases hb with h2 | h2 <;> simp only [h, h2, Int.reduceEq, ↓reduceIte] at * <;> constructor <;> simp <;> omega
abbrev gok (g : Nat → Nat → Int) (k : Nat) : Prop := (g k 0 = 0 ∨ g k 0 = 1) ∧ (0 ≤ g k 1 ∧ g k 1 ≤ 99) ∧ (0 ≤ g k 2 ∧ g k 2 ≤ 99) ∧ (0 ≤ g k 3 ∧ g k 3 ≤ 99)
theorem Mbd0 : Mbd Mp.one := ⟨ok0, by decide, by decide⟩
theorem Mbd1 {g : Nat → Nat → Int} {a : Nat} (ha : gok g a) : Mbd (mp1 g a) := by
  refine ⟨Mp.ok_rf ok0 _ _, ?_, ?_⟩ <;> unfold mp1 Mp.rf Mp.one <;> split <;> simp only [] <;> have := ha.2.1 <;> omega
theorem Mbd2 {g : Nat → Nat → Int} {a b : Nat} (ha : gok g a) (hb : gok g b) : Mbd (mp2 g a b) := by
  refine ⟨Mp.ok_rf (Mp.ok_rf ok0 _ _) _ _, ?_, ?_⟩ <;> unfold mp2 mp1 Mp.rf Mp.one <;> split <;> split <;> simp only [] <;> have := ha.2.1 <;> have := hb.2.1 <;> omega
theorem Rep.sok {μ : Mem} {i : Nat} {m : Mp} {w : Wy} {u l c : Int} (h : Rep μ i m w u l c) (hm : Mbd m) (hw : Wbd w) (hu : 0 ≤ u) (hul : u ≤ l) (h1 : 1 ≤ l) (hl : l ≤ 474) (hc : 1 ≤ c ∧ c ≤ 474) : SokS μ i := by
  obtain ⟨b1, b2⟩ := rX_bd hm hw hu hul hl
  have p1 := mul_bd (A := 474) (B := 500000) (a := c) (b := rX m w u l) (by omega) b1
  have p2 := mul_bd (A := 474) (B := 500000) (a := c) (b := rY m w u l) (by omega) b2
  have p3 := mul_bd (A := 474) (B := 474) (a := c) (b := l) (by omega) (by omega)
  have p4 : 0 < c * l := Int.mul_pos (by omega) (by omega)
  unfold SokS Sok
  rw [h.1, h.2.1, h.2.2]
  omega
