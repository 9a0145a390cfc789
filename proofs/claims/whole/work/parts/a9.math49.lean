/-! MATHEMATICS, 49: how many are alike at the most -/
def mult (f : Nat → Int) (v : Int) : Nat → Nat
  | 0 => 0
  | n + 1 => mult f v n + (if f n = v then 1 else 0)
def upF (f : Nat → Int) (j : Nat) (x : Int) : Nat → Int := fun i => if i = j then x else f i
theorem mult_s (f : Nat → Int) (v : Int) (n : Nat) : mult f v (n + 1) = mult f v n + (if f n = v then 1 else 0) := rfl
theorem mult_c {f g : Nat → Int} {v : Int} : ∀ {n : Nat}, (∀ i, i < n → f i = g i) → mult f v n = mult g v n
  | 0, _ => rfl
  | n + 1, h => by
    unfold mult
    rw [mult_c fun i hi => h i (by omega), h n (by omega)]
theorem mult_up {f : Nat → Int} {j : Nat} {x v : Int} : ∀ {n : Nat}, j < n → mult (upF f j x) v n + (if f j = v then 1 else 0) = mult f v n + (if x = v then 1 else 0)
  | 0, h => absurd h (by omega)
  | n + 1, h => by
    unfold mult
    by_cases q : n = j
    · subst q
      have e : mult (upF f n x) v n = mult f v n := mult_c fun i hi => by unfold upF; rw [if_neg (by omega)]
      have e2 : upF f n x n = x := by unfold upF; rw [if_pos rfl]
      rw [e, e2]
      omega
    · have ih := mult_up (f := f) (x := x) (v := v) (n := n) (j := j) (by omega)
      have e2 : upF f j x n = f n := by unfold upF; rw [if_neg q]
      rw [e2]
      omega
theorem mult_sh {g : Nat → Int} {j j' n : Nat} {x : Int} (hj : j < n) (hj' : j' < n) (hne : j' ≠ j) (v : Int) : mult (upF (upF g j (g j')) j' x) v n = mult (upF g j x) v n := by
  have a := mult_up (f := g) (x := x) (v := v) hj
  have b := mult_up (f := g) (x := g j') (v := v) hj
  have c := mult_up (f := upF g j (g j')) (x := x) (v := v) hj'
  have e : upF g j (g j') j' = g j' := by unfold upF; rw [if_neg hne]
  rw [e] at c
  omega
def IsMax (f : Nat → Int) (n : Nat) (M : Int) : Prop := (∀ v, (mult f v n : Int) ≤ M) ∧ (M = 0 ∨ ∃ v, (mult f v n : Int) = M)
theorem IsMax.le {f g : Nat → Int} {n : Nat} {M M' : Int} (h : IsMax f n M) (h' : IsMax g n M') (e : ∀ v, mult f v n = mult g v n) : M ≤ M' := by
  rcases h.2 with h2 | ⟨v, h2⟩
  · have := h'.1 0
    omega
  · have := h'.1 v
    rw [← e v] at this
    omega
theorem IsMax.eq {f g : Nat → Int} {n : Nat} {M M' : Int} (h : IsMax f n M) (h' : IsMax g n M') (e : ∀ v, mult f v n = mult g v n) : M = M' := by
  have a := h.le h' e
  have b := h'.le h fun v => (e v).symm
  omega
def mxF (f : Nat → Int) : Nat → Int
  | 0 => 0
  | n + 1 => if mxF f n < ((mult f (f n) (n + 1) : Nat) : Int) then ((mult f (f n) (n + 1) : Nat) : Int) else mxF f n
theorem IsMax_s {f : Nat → Int} {n : Nat} {M : Int} (h : IsMax f n M) : IsMax f (n + 1) (if M < ((mult f (f n) (n + 1) : Nat) : Int) then ((mult f (f n) (n + 1) : Nat) : Int) else M) := by
  have o : ∀ v, v ≠ f n → mult f v (n + 1) = mult f v n := fun v hv => by
    rw [mult_s, if_neg fun z => hv z.symm]
    rfl
  constructor
  · intro v
    by_cases q : v = f n
    · subst q
      split <;> omega
    · rw [o v q]
      have := h.1 v
      split <;> omega
  · split
    · exact Or.inr ⟨f n, rfl⟩
    · rename_i c
      rcases h.2 with h2 | ⟨v, h2⟩
      · exact Or.inl h2
      · refine Or.inr ⟨v, ?_⟩
        by_cases q : v = f n
        · subst q
          have : mult f (f n) (n + 1) = mult f (f n) n + 1 := by
            show mult f (f n) n + (if f n = f n then 1 else 0) = _
            rw [if_pos rfl]
          omega
        · rw [o v q]
          exact h2
theorem mxF_ok (f : Nat → Int) : ∀ n, IsMax f n (mxF f n)
  | 0 => ⟨fun v => by unfold mult mxF; decide, Or.inl rfl⟩
  | n + 1 => IsMax_s (mxF_ok f n)
theorem mxF_c {f g : Nat → Int} {n : Nat} (h : ∀ i, i < n → f i = g i) : mxF f n = mxF g n := (mxF_ok f n).eq (mxF_ok g n) fun v => mult_c h
theorem mult_le (f : Nat → Int) (v : Int) : ∀ n, mult f v n ≤ n
  | 0 => Nat.le_refl _
  | n + 1 => by
    have := mult_le f v n
    unfold mult
    split <;> omega
/-- the reference's way: from each on, those alike -/
theorem mult_mono (f : Nat → Int) (v : Int) {a : Nat} : ∀ {n : Nat}, a ≤ n → mult f v a ≤ mult f v n
  | 0, h => by rw [show a = 0 by omega]; exact Nat.le_refl _
  | n + 1, h => by
    by_cases q : a = n + 1
    · rw [q]; exact Nat.le_refl _
    · have := mult_mono f v (a := a) (n := n) (by omega)
      rw [mult_s]
      omega
theorem mult_first {f : Nat → Int} {v : Int} : ∀ {n : Nat}, 0 < mult f v n → ∃ a, a < n ∧ f a = v ∧ mult f v a = 0
  | 0, h => absurd h (by unfold mult; omega)
  | n + 1, h => by
    by_cases q : 0 < mult f v n
    · obtain ⟨a, h1, h2⟩ := mult_first q
      exact ⟨a, by omega, h2⟩
    · refine ⟨n, by omega, ?_, by omega⟩
      unfold mult at h
      split at h
      · assumption
      · omega
/-- the answers of the reference -/
def SMa (μ : Mem) (S : Sq) : Prop := μ 11 0 79 = (S.2 : Int) ∧ ∀ i, i < S.2 → μ 84 0 i = S.1 i
theorem L97i {sc : Scr} {d t : Nat} {μ : Mem} {P : Option AV → AS → Prop} {S : Sq} {most : Int} {a : Nat} (hS : SMa μ S) (hn : S.2 ≤ 1600) (ha : a < S.2) (hm : 0 ≤ most ∧ most ≤ 1600)
    (h : ∀ q3 q4 c, c = ((mult S.1 (S.1 a) S.2 : Nat) : Int) - ((mult S.1 (S.1 a) a : Nat) : Int) → R_11097 sc d P t 4 [rfc 11 0, .inl (if most < c then c else most), .inl ((a : Int) + 1), q3, q4] [] μ) :
    ∀ (n b : Nat) (c : Int), n + b = S.2 → a ≤ b → c = ((mult S.1 (S.1 a) b : Nat) : Int) - ((mult S.1 (S.1 a) a : Nat) : Int) → R_11097 sc d P t 17 [rfc 11 0, .inl most, .inl (a : Int), .inl c, .inl (b : Int)] [] μ := by
  have e79 := hS.1
  intro n
  induction n with
  | zero =>
    intro b c hb hab hc
    have : b = S.2 := by omega
    subst this
    refine m_11097_17 ⟨fun _ => ⟨fun z => ⟨by omega, ?_⟩, fun z => ⟨by omega, ?_⟩⟩, fun z => absurd (by omega) z⟩
    · have r := h (.inl c) (.inl ((S.2 : Nat) : Int)) c hc
      rw [if_neg (by omega)] at r
      exact r
    · have r := h (.inl c) (.inl ((S.2 : Nat) : Int)) c hc
      rw [if_pos (by omega)] at r
      exact r
  | succ n ih =>
    intro b c hb hab hc
    have m1 := mult_mono S.1 (S.1 a) hab
    have m2 := mult_le S.1 (S.1 a) b
    have ms : mult S.1 (S.1 a) (b + 1) = mult S.1 (S.1 a) b + (if S.1 b = S.1 a then 1 else 0) := rfl
    refine m_11097_17 ⟨fun z => absurd z (by omega), fun _ => ?_⟩
    rw [Int.toNat_natCast, Int.toNat_natCast, hS.2 a ha, hS.2 b (by omega)]
    refine ⟨by omega, by omega, fun z => ⟨by omega, ih (b + 1) c (by omega) (by omega) ?_⟩, fun z => ⟨by omega, by omega, ih (b + 1) (c + 1) (by omega) (by omega) ?_⟩⟩
    · rw [if_neg z] at ms
      omega
    · rw [if_pos (Decidable.not_not.mp z)] at ms
      omega
theorem sp_greatest {sc : Scr} {d t : Nat} {μ : Mem} {Q : Int → Mem → Prop} {S : Sq} (hS : SMa μ S) (hn : S.2 ≤ 1600) (h : Q (mxF S.1 S.2) μ) : RMi sc (d + 1) 11097 [rfc 11 0] (t, 0, 0) μ Q := by
  have e79 := hS.1
  have lp : ∀ (n a : Nat) (most : Int) (q3 q4 : AV), n + a = S.2 → (0 ≤ most ∧ most ≤ 1600) → (∀ b, b < a → ((mult S.1 (S.1 b) S.2 : Nat) : Int) - ((mult S.1 (S.1 b) b : Nat) : Int) ≤ most) → (most = 0 ∨ ∃ b, b < S.2 ∧ ((mult S.1 (S.1 b) S.2 : Nat) : Int) - ((mult S.1 (S.1 b) b : Nat) : Int) = most) → R_11097 sc d (PI t Q) t 4 [rfc 11 0, .inl most, .inl (a : Int), q3, q4] [] μ := by
    intro n
    induction n with
    | zero =>
      intro a most q3 q4 ha hm hall hex
      have : a = S.2 := by omega
      subst this
      refine m_11097_4 ⟨fun _ => PI_mk ?_, fun z => absurd (by omega) z⟩
      have up : ∀ v, ((mult S.1 v S.2 : Nat) : Int) ≤ most := by
        intro v
        by_cases q : 0 < mult S.1 v S.2
        · obtain ⟨a, h1, h2, h3⟩ := mult_first q
          have := hall a h1
          rw [h2, h3] at this
          omega
        · omega
      have im : IsMax S.1 S.2 most := by
        refine ⟨up, ?_⟩
        rcases hex with h0 | ⟨b, hb, e⟩
        · exact Or.inl h0
        · have := up (S.1 b)
          exact Or.inr ⟨S.1 b, by omega⟩
      rw [im.eq (mxF_ok S.1 S.2) fun _ => rfl]
      exact h
    | succ n ih =>
      intro a most q3 q4 ha hm hall hex
      refine m_11097_4 ⟨fun z => absurd z (by omega), fun _ => L97i hS hn (by omega) hm (fun q3 q4 c hc => ?_) (n + 1) a 0 (by omega) (Nat.le_refl _) (by omega)⟩
      have m1 := mult_mono S.1 (S.1 a) (a := a) (n := S.2) (by omega)
      have m2 := mult_le S.1 (S.1 a) S.2
      refine ih (a + 1) _ _ _ (by omega) (by split <;> omega) (fun b hb => ?_) ?_
      · by_cases q : b = a
        · subst q
          split <;> omega
        · have := hall b (by omega)
          split <;> omega
      · split
        · exact Or.inr ⟨a, by omega, hc.symm⟩
        · exact hex
  exact m_11097 (lp S.2 0 0 _ _ rfl (by decide) (fun b hb => absurd hb (by omega)) (Or.inl rfl))
theorem sp_answers {sc : Scr} {d t : Nat} {μ : Mem} {Q : Mem → Prop} {S : Sq} {v : Int} (hS : SMa μ S) (hn : S.2 < 1600) (h : ∀ μ', FW μ μ' → (∀ c, c ≠ 84 → c ≠ 11 → μ' c = μ c) → (∀ k, k ≠ 79 → μ' 11 0 k = μ 11 0 k) → SMa μ' (snoc S v) → Q μ') : RMv sc (d + 1) 11096 [rfc 11 0, .inl v] (t, 0, 0) μ Q := by
  have h1 := hS.1
  refine m_11096 ⟨by omega, ?_, ?_⟩
  · rw [wr_c (by decide), h1]; omega
  · rw [h1, Int.toNat_natCast]
    refine h _ ((FW.w (by unfold Kp; omega)).trans (FW.w11 (by decide))) (fun c h2 h3 => by rw [wr_c h3, wr_c h2]) (fun k hk => by rw [wr_k hk, wr_c (by decide)]) ⟨?_, fun i hi => ?_⟩
    · rw [wr_same, wr_c (by decide), h1]
      unfold snoc
      simp
    · rw [wr_c (by decide)]
      unfold snoc at hi ⊢
      simp only [] at hi ⊢
      by_cases q : i = S.2
      · rw [if_pos q, q, wr_same]
      · rw [if_neg q, wr_k q]
        exact hS.2 i (by omega)
