/-! MATHEMATICS, 65: signs, runs, words -/
def isBl (c : Int) : Bool := decide (c = 9 ∨ c = 10 ∨ c = 13 ∨ c = 32)
def isLe (c : Int) : Bool := decide (97 ≤ c ∧ c ≤ 122)
def isDi (c : Int) : Bool := decide (48 ≤ c ∧ c ≤ 57)
def runF (p : Int → Bool) (b : Nat → Int) : Nat → Nat → Nat
  | 0, _ => 0
  | m + 1, i => if p (b i) = true then runF p b m (i + 1) + 1 else 0
def rnL (p : Int → Bool) (b : Nat → Int) (n i : Nat) : Nat := runF p b (n - i) i
theorem run_y {p : Int → Bool} {b : Nat → Int} {n i : Nat} (hi : i < n) (h : p (b i) = true) : rnL p b n i = rnL p b n (i + 1) + 1 := by
  unfold rnL
  rw [show n - i = (n - (i + 1)) + 1 by omega]
  show (if p (b i) = true then runF p b (n - (i + 1)) (i + 1) + 1 else 0) = _
  rw [if_pos h]
theorem run_n {p : Int → Bool} {b : Nat → Int} {n i : Nat} (h : ¬ p (b i) = true) : rnL p b n i = 0 := by
  unfold rnL
  cases n - i with
  | zero => rfl
  | succ m =>
    show (if p (b i) = true then runF p b m (i + 1) + 1 else 0) = 0
    rw [if_neg h]
theorem run_e {p : Int → Bool} {b : Nat → Int} {n i : Nat} (h : n ≤ i) : rnL p b n i = 0 := by
  unfold rnL
  rw [show n - i = 0 by omega]
  rfl
theorem runF_le (p : Int → Bool) (b : Nat → Int) : ∀ m i, runF p b m i ≤ m
  | 0, _ => Nat.le_refl _
  | m + 1, i => by
    have := runF_le p b m (i + 1)
    show (if p (b i) = true then runF p b m (i + 1) + 1 else 0) ≤ m + 1
    split <;> omega
theorem run_le (p : Int → Bool) (b : Nat → Int) {n i : Nat} (hi : i ≤ n) : i + rnL p b n i ≤ n := by
  have := runF_le p b (n - i) i
  unfold rnL
  omega
theorem run_in {p : Int → Bool} {b : Nat → Int} {n : Nat} : ∀ (m i k : Nat), m + i = n → k < rnL p b n i → p (b (i + k)) = true
  | 0, i, k, hm, hk => by
    rw [run_e (by omega)] at hk
    omega
  | m + 1, i, k, hm, hk => by
    by_cases c : p (b i) = true
    · rw [run_y (by omega) c] at hk
      cases k with
      | zero => exact c
      | succ k =>
        have := run_in (p := p) (b := b) (n := n) m (i + 1) k (by omega) (by omega)
        rw [show i + (k + 1) = i + 1 + k by omega]
        exact this
    · rw [run_n c] at hk
      omega
set_option maxRecDepth 100000 in
theorem tb_by : ∀ a : Nat, a < 256 → 0 ≤ andv (((a : Nat) : Int) - 128) 255 ∧ andv (((a : Nat) : Int) - 128) 255 ≤ 255 := by decide
theorem by_b {x : Int} (h : -128 ≤ x ∧ x ≤ 127) : 0 ≤ andv x 255 ∧ andv x 255 ≤ 255 := by
  have := tb_by (x + 128).toNat (by omega)
  rw [show (((x + 128).toNat : Nat) : Int) - 128 = x by omega] at this
  exact this
/-- digits: the first four -/
def dvN (b : Nat → Int) (i : Nat) : Nat → Int
  | 0 => 0
  | l + 1 => if l < 4 then 10 * dvN b i l + b (i + l) - 48 else dvN b i l
theorem dvN_s (b : Nat → Int) (i l : Nat) : dvN b i (l + 1) = if l < 4 then 10 * dvN b i l + b (i + l) - 48 else dvN b i l := rfl
theorem dvN_b {b : Nat → Int} {i : Nat} : ∀ {l : Nat}, (∀ k, k < l → isDi (b (i + k)) = true) → 0 ≤ dvN b i l ∧ dvN b i l ≤ 9999 ∧ (l ≤ 4 → dvN b i l < 10 ^ l)
  | 0, _ => by unfold dvN; decide
  | l + 1, h => by
    obtain ⟨h1, h2, h3⟩ := dvN_b (b := b) (i := i) (l := l) fun k hk => h k (by omega)
    have d := h l (by omega)
    unfold isDi at d
    rw [decide_eq_true_iff] at d
    rw [dvN_s]
    by_cases c : l < 4
    · rw [if_pos c]
      have e := h3 (by omega)
      have : l = 0 ∨ l = 1 ∨ l = 2 ∨ l = 3 := by omega
      rcases this with rfl | rfl | rfl | rfl <;> simp at e <;> refine ⟨by omega, by omega, fun _ => by omega⟩
    · rw [if_neg c]
      exact ⟨h1, h2, fun z => by omega⟩
/-- letters, as a number to the base 27: the first eight -/
def nmN (b : Nat → Int) (i : Nat) : Nat → Int
  | 0 => 0
  | l + 1 => if l < 8 then 27 * nmN b i l + (b (i + l) - 96) else nmN b i l
theorem nmN_s (b : Nat → Int) (i l : Nat) : nmN b i (l + 1) = if l < 8 then 27 * nmN b i l + (b (i + l) - 96) else nmN b i l := rfl
theorem nmN_b {b : Nat → Int} {i : Nat} : ∀ {l : Nat}, (∀ k, k < l → isLe (b (i + k)) = true) → 0 ≤ nmN b i l ∧ nmN b i l ≤ 282429536480 ∧ (l ≤ 8 → nmN b i l < 27 ^ l)
  | 0, _ => by unfold nmN; decide
  | l + 1, h => by
    obtain ⟨h1, h2, h3⟩ := nmN_b (b := b) (i := i) (l := l) fun k hk => h k (by omega)
    have d := h l (by omega)
    unfold isLe at d
    rw [decide_eq_true_iff] at d
    rw [nmN_s]
    by_cases c : l < 8
    · rw [if_pos c]
      have e := h3 (by omega)
      have : l = 0 ∨ l = 1 ∨ l = 2 ∨ l = 3 ∨ l = 4 ∨ l = 5 ∨ l = 6 ∨ l = 7 := by omega
      rcases this with rfl | rfl | rfl | rfl | rfl | rfl | rfl | rfl <;> simp at e <;> refine ⟨by omega, by omega, fun _ => by omega⟩
    · rw [if_neg c]
      exact ⟨h1, h2, fun z => by omega⟩
/-- such a number tells the letters -/
theorem nmN_inj {b b' : Nat → Int} {i i' : Nat} : ∀ {l l' : Nat}, l ≤ 8 → l' ≤ 8 → (∀ k, k < l → isLe (b (i + k)) = true) → (∀ k, k < l' → isLe (b' (i' + k)) = true) → nmN b i l = nmN b' i' l' → l = l' ∧ ∀ k, k < l → b (i + k) = b' (i' + k)
  | 0, 0, _, _, _, _, _ => ⟨rfl, fun k hk => absurd hk (by omega)⟩
  | 0, l' + 1, h1, h2, h3, h4, e => by
    have d := h4 l' (by omega)
    have bb := nmN_b (b := b') (i := i') (l := l') fun k hk => h4 k (by omega)
    unfold isLe at d
    rw [decide_eq_true_iff] at d
    rw [nmN_s, if_pos (by omega)] at e
    unfold nmN at e
    omega
  | l + 1, 0, h1, h2, h3, h4, e => by
    have d := h3 l (by omega)
    have bb := nmN_b (b := b) (i := i) (l := l) fun k hk => h3 k (by omega)
    unfold isLe at d
    rw [decide_eq_true_iff] at d
    rw [nmN_s, if_pos (by omega)] at e
    have e0 : nmN b' i' 0 = 0 := rfl
    rw [e0] at e
    omega
  | l + 1, l' + 1, h1, h2, h3, h4, e => by
    have d := h3 l (by omega)
    have d' := h4 l' (by omega)
    unfold isLe at d d'
    rw [decide_eq_true_iff] at d d'
    rw [nmN_s, if_pos (by omega), nmN_s, if_pos (by omega)] at e
    obtain ⟨i1, i2⟩ := nmN_inj (l := l) (l' := l') (by omega) (by omega) (fun k hk => h3 k (by omega)) (fun k hk => h4 k (by omega)) (by omega)
    refine ⟨by omega, fun k hk => ?_⟩
    by_cases q : k = l
    · subst q
      subst i1
      omega
    · exact i2 k (by omega)
set_option maxRecDepth 100000 in
theorem tb_wd : ∀ o : Nat, o < 10 → rlen 101 o ≤ 4 ∧ shrv ((rlen 101 o : Nat) : Int) 0 = ((rlen 101 o : Nat) : Int) ∧ nmN (fun j => rom 101 o j) 0 (rlen 101 o) = kwd o ∧ ∀ j : Nat, j < rlen 101 o → isLe (rom 101 o j) = true ∧ i2cv (andv (rom 101 o j) 255) = rom 101 o j := by decide
