/-! MATHEMATICS, 74: the class fills the land -/
def nuT (b : Nat → Int) (n j : Nat) : Nat → Int
  | 0 => 0
  | t + 1 => if tK b n t = 3 ∧ (wiT b n t).2 = (j : Int) then tV b n t else nuT b n j t
theorem nuT_s (b : Nat → Int) (n j t : Nat) : nuT b n j (t + 1) = if tK b n t = 3 ∧ (wiT b n t).2 = (j : Int) then tV b n t else nuT b n j t := rfl
def flT (b : Nat → Int) (n : Nat) : Nat → Int
  | 0 => 0
  | t + 1 => if tK b n t = 5 then 0 else if tK b n t = 6 then 1 else flT b n t
theorem flT_s (b : Nat → Int) (n t : Nat) : flT b n (t + 1) = if tK b n t = 5 then 0 else if tK b n t = 6 then 1 else flT b n t := rfl
theorem flT_b (b : Nat → Int) (n : Nat) : ∀ t, flT b n t = 0 ∨ flT b n t = 1
  | 0 => Or.inl rfl
  | t + 1 => by
    have := flT_b b n t
    rw [flT_s]
    split
    · exact Or.inl rfl
    · split
      · exact Or.inr rfl
      · exact this
def flA (b : Nat → Int) (n p : Nat) : Int := if tK b n p = 6 then 1 else 0
theorem flA_b (b : Nat → Int) (n p : Nat) : flA b n p = 0 ∨ flA b n p = 1 := by unfold flA; split <;> omega
theorem nu_path {b : Nat → Int} {n : Nat} : ∀ {t : Nat}, OKp b n t → ∀ w S, Pth b n t w S → 1 ≤ S → (∀ j i : Nat, (wiT b n t).2 = (i : Int) → j < i → nuT b n j t = tV b n (t - i + j)) ∧ (w = 7 → 3 ≤ S → flT b n t = flA b n (t - S + 2))
  | 0, _, w, S, hp, h1 => by
    have := hp.2
    omega
  | t + 1, h, w', S', hp', h1' => by
    obtain ⟨w, S, hp⟩ := path (h.le (Nat.le_succ t))
    have r := nu_path (h.le (Nat.le_succ t)) w S hp
    obtain ⟨h1, h2, h3⟩ := h t (by omega)
    have g := Classical.not_not.mp h2
    obtain ⟨e, hq⟩ := hp
    have e' := hp'.1
    unfold wNow at g
    rw [aut_s, e] at e'
    rw [e] at g
    simp only [] at g e'
    rw [Prod.mk.injEq] at e'
    obtain ⟨e1, e2⟩ := e'
    by_cases z : S = 0
    · subst z
      unfold gO at g
      rw [if_pos (by rfl : ((0 : Nat) : Int) = 0)] at g e1
      rw [if_neg (by omega)] at e2
      have s1 : S' = 1 := by omega
      subst s1
      rw [wiT_s, if_pos (by omega)]
      exact ⟨fun j i a c => absurd a (by simp only []; omega), fun _ z => absurd z (by decide)⟩
    · obtain ⟨w7, sm, st, wi, wi0, wi1, kw, kg⟩ := hq.resolve_left z
      obtain ⟨r1, r2⟩ := r (by omega)
      rw [if_neg (by omega)] at g e1
      subst e1
      have g' := g
      unfold gO at g'
      by_cases k4 : tK b n t = 4
      · rw [if_pos k4] at e2
        omega
      · rw [if_neg k4] at e2
        have es : S' = S + 1 := by omega
        subst es
        have nb := nmd_b w
        have sb := sid_b w
        rw [wiT_s, if_neg (by omega), flT_s, show t + 1 - (S + 1) = t - S by omega]
        refine ⟨?_, fun z7 z3 => ?_⟩
        · by_cases k3 : tK b n t = 3
          · rw [if_pos k3]
            intro j i a c
            simp only [] at a
            rw [nuT_s]
            by_cases q : (wiT b n t).2 = (j : Int)
            · rw [if_pos ⟨k3, q⟩]
              have : t + 1 - i + j = t := by omega
              rw [this]
            · rw [if_neg fun y => q y.2, r1 j (i - 1) (by omega) (by omega)]
              congr 1
              omega
          · rw [if_neg k3]
            intro j i a c
            rw [nuT_s, if_neg fun y => k3 y.1]
            have i0 := wi0
            have : False := by
              rw [wi0 (by omega)] at a
              omega
            exact this.elim
        · subst z7
          have a1 : nmd 7 = 1 := rfl
          have a2 : sid 7 = 1 := rfl
          rw [a1, a2] at g'
          by_cases q : S = 2
          · subst q
            unfold flA
            rw [show t - 2 + 2 = t by omega]
            by_cases k5 : tK b n t = 5
            · rw [if_pos k5, if_neg (by omega)]
            · rw [if_neg k5, if_pos (by omega), if_pos (by omega)]
          · rw [if_neg (by omega), if_neg (by omega)]
            exact r2 rfl (by omega)
theorem at_int {b : Nat → Int} {n t : Nat} (h : OKp b n (t + 1)) (k3 : tK b n t = 3) : ∃ w S, Pth b n t w S ∧ (7 ≤ w ∧ w ≤ 14) ∧ (wiT b n t).1 = w ∧ (wiT b n t).2 = (S : Int) - 1 - nmd w - sid w ∧ (S : Int) ≤ nmd w + sid w + its w ∧ nmd w + sid w < (S : Int) := by
  obtain ⟨w, S, e, hp⟩ := path (h.le (Nat.le_succ t))
  obtain ⟨h1, h2, h3⟩ := h t (by omega)
  have g := Classical.not_not.mp h2
  unfold wNow at g
  rw [e] at g
  simp only [] at g
  refine ⟨w, S, ⟨e, hp⟩, ?_⟩
  rcases hp with z | ⟨w7, sm, st, wi, wi0, wi1, kw, kg⟩
  · subst z
    unfold gO at g
    rw [if_pos (by rfl)] at g
    omega
  · have nb := nmd_b w
    have sb := sid_b w
    rw [if_neg (by omega)] at g
    unfold gO at g
    exact ⟨w7, wi, wi1 (by omega), by omega, by omega⟩
theorem sem_nu {b : Nat → Int} {n t : Nat} (h : OKp b n (t + 1)) (k4 : tK b n t = 4) : ∃ w : Int, (7 ≤ w ∧ w ≤ 14) ∧ (wiT b n t).1 = w ∧ (wiT b n t).2 = its w ∧ (aut b n t).1 = w ∧ (aut b n t).2 ≠ 0 ∧ (∀ j i : Nat, its w = (i : Int) → j < i → nuT b n j t = tV b n (t - i + j)) ∧ (w = 7 → flT b n t = flA b n (t - 5)) ∧ its w + 1 ≤ (t : Int) := by
  obtain ⟨w, S, hp, w7, es⟩ := at_semi h k4
  have nb := nmd_b w
  have sb := sid_b w
  have ib := its_b w7
  obtain ⟨r1, r2⟩ := nu_path (h.le (Nat.le_succ t)) w S hp (by omega)
  obtain ⟨e, hq⟩ := hp
  obtain ⟨-, sm, st, wi, wi0, wi1, kw, kg⟩ := hq.resolve_left (by omega)
  have ei : (wiT b n t).2 = its w := by rw [wi1 (by omega)]; omega
  refine ⟨w, w7, wi, ei, by rw [e], by rw [e]; simp only []; omega, fun j i a c => r1 j i (by rw [ei]; exact a) c, fun z => ?_, by omega⟩
  subst z
  have a1 : nmd 7 = 1 := rfl
  have a2 : sid 7 = 1 := rfl
  have a3 : its 7 = 4 := rfl
  rw [a1, a2, a3] at es
  rw [r2 rfl (by omega)]
  congr 1
  omega
/-- what filling may change -/
def Ff (μ μ' : Mem) : Prop := ∀ c i k, ¬ (c = 1 ∧ i = 0 ∧ (k = 1 ∨ (5 ≤ k ∧ k ≤ 9))) → ¬ (c = 3 ∧ i < 3) → ¬ (c = 9) → ¬ ((27 ≤ c ∧ c ≤ 30) ∧ i < 3) → c ≠ 25 → μ' c i k = μ c i k
theorem Ff.rfl' {μ : Mem} : Ff μ μ := fun _ _ _ _ _ _ _ _ => rfl
theorem Ff.trans {μ μ' μ'' : Mem} (h : Ff μ μ') (h2 : Ff μ' μ'') : Ff μ μ'' := fun c i k a1 a2 a3 a4 a5 => (h2 c i k a1 a2 a3 a4 a5).trans (h c i k a1 a2 a3 a4 a5)
theorem Ff.w {μ : Mem} {c i k : Nat} {v : Int} (h : (c = 1 ∧ i = 0 ∧ (k = 1 ∨ (5 ≤ k ∧ k ≤ 9))) ∨ (c = 3 ∧ i < 3) ∨ c = 9 ∨ ((27 ≤ c ∧ c ≤ 30) ∧ i < 3) ∨ c = 25) : Ff μ (wr μ c i k v) := fun c' i' k' a1 a2 a3 a4 a5 => if_neg fun z => by
  obtain ⟨rfl, rfl, rfl⟩ := z
  omega
theorem Ff.kept {μ μ' : Mem} {b : Nat → Int} {n T : Nat} (h : Ff μ μ') (hK : Kept μ b n T) : Kept μ' b n T := by
  refine ⟨by rw [h 4 0 6 (by omega) (by omega) (by omega) (by omega) (by omega)]; exact hK.1, fun i hi => ?_⟩
  rw [h 21 0 i (by omega) (by omega) (by omega) (by omega) (by omega), h 22 0 i (by omega) (by omega) (by omega) (by omega) (by omega), h 23 0 i (by omega) (by omega) (by omega) (by omega) (by omega)]
  exact hK.2 i hi
/-- the walls, the folk, the numbers, as told so far -/
def LW (μ : Mem) (b : Nat → Int) (n N : Nat) (P : Nat → Nat) : Prop := μ 1 0 1 = (N : Int) ∧ (∀ k, k < N → μ 9 k 0 = flA b n (P k - 5) ∧ μ 9 k 1 = tV b n (P k - 4) ∧ μ 9 k 2 = tV b n (P k - 3) ∧ μ 9 k 3 = tV b n (P k - 2) ∧ μ 9 k 4 = tV b n (P k - 1) ∧ μ 9 k 5 = 1) ∧ ∀ k, k < 9 → N ≤ k → μ 9 k 5 = 0
def LQ (μ : Mem) (o N : Nat) (x y l tm : Nat → Int) : Prop := μ 3 o 4 = (N : Int) ∧ ∀ k, k < N → μ 27 o k = x k ∧ μ 28 o k = y k ∧ μ 29 o k = l k ∧ μ 30 o k = tm k
def LN (μ : Mem) (b : Nat → Int) (n t : Nat) : Prop := μ 1 0 5 = nS b n 11 2 20 t ∧ μ 1 0 6 = nS b n 11 1 20 t ∧ μ 1 0 7 = nS b n 12 1 10 t ∧ μ 1 0 8 = nS b n 13 1 10 t ∧ μ 1 0 9 = nS b n 14 1 100 t
def LCa (μ : Mem) (b : Nat → Int) (n t : Nat) : Prop := LW μ b n (cS b n 7 t) (pS b n 7 t) ∧ LQ μ 0 (cS b n 8 t) (fun k => tV b n (pS b n 8 t k - 3)) (fun k => tV b n (pS b n 8 t k - 2)) (fun k => tV b n (pS b n 8 t k - 1)) (fun _ => 0) ∧ LQ μ 1 (cS b n 9 t) (fun k => tV b n (pS b n 9 t k - 2)) (fun k => tV b n (pS b n 9 t k - 1)) (fun _ => 0) (fun _ => 0) ∧ LQ μ 2 (cS b n 10 t) (fun k => tV b n (pS b n 10 t k - 3)) (fun k => tV b n (pS b n 10 t k - 2)) (fun _ => 99) (fun k => tV b n (pS b n 10 t k - 1)) ∧ LN μ b n t
theorem LW.e {μ μ' : Mem} {b : Nat → Int} {n N N' : Nat} {P P' : Nat → Nat} (h : LW μ b n N P) (eN : N' = N) (eP : ∀ k, P' k = P k) (e1 : μ' 1 0 1 = μ 1 0 1) (e9 : μ' 9 = μ 9) : LW μ' b n N' P' := by
  have : P' = P := funext eP
  subst eN this
  unfold LW at *
  rw [e1, e9]
  exact h
theorem LQ.e {μ μ' : Mem} {o N N' : Nat} {x y l tm x' y' l' tm' : Nat → Int} (h : LQ μ o N x y l tm) (eN : N' = N) (ex : ∀ k, x' k = x k) (ey : ∀ k, y' k = y k) (el : ∀ k, l' k = l k) (et : ∀ k, tm' k = tm k) (e3 : μ' 3 o 4 = μ 3 o 4) (ec : ∀ c, 27 ≤ c ∧ c ≤ 30 → μ' c o = μ c o) : LQ μ' o N' x' y' l' tm' := by
  have h1 : x' = x := funext ex
  have h2 : y' = y := funext ey
  have h3 : l' = l := funext el
  have h4 : tm' = tm := funext et
  subst eN h1 h2 h3 h4
  unfold LQ at *
  rw [e3, ec 27 (by decide), ec 28 (by decide), ec 29 (by decide), ec 30 (by decide)]
  exact h
theorem no_s {b : Nat → Int} {n t : Nat} {w : Int} (h : ¬ (tK b n t = 4 ∧ (aut b n t).1 = w)) : cS b n w (t + 1) = cS b n w t ∧ (∀ k, pS b n w (t + 1) k = pS b n w t k) ∧ ∀ a d, nS b n w a d (t + 1) = nS b n w a d t := by
  refine ⟨?_, fun k => ?_, fun a d => ?_⟩
  · rw [cS_s, if_neg h]
    rfl
  · rw [pS_s, if_neg fun z => h ⟨z.1, z.2.1⟩]
  · rw [nS_s, if_neg h]
theorem ye_s {b : Nat → Int} {n t : Nat} {w : Int} (h : tK b n t = 4 ∧ (aut b n t).1 = w) : cS b n w (t + 1) = cS b n w t + 1 ∧ pS b n w (t + 1) (cS b n w t) = t ∧ (∀ k, k < cS b n w t → pS b n w (t + 1) k = pS b n w t k) ∧ ∀ a d, nS b n w a d (t + 1) = tV b n (t - a) := by
  refine ⟨?_, ?_, fun k hk => ?_, fun a d => ?_⟩
  · rw [cS_s, if_pos h]
  · rw [pS_s, if_pos ⟨h.1, h.2, rfl⟩]
  · rw [pS_s, if_neg fun z => absurd z.2.2 (by omega)]
  · rw [nS_s, if_pos h]
/-- a token that ends nothing -/
theorem LCa.n {μ μ' : Mem} {b : Nat → Int} {n t : Nat} (h : LCa μ b n t) (k4 : ¬ tK b n t = 4) (e1 : μ' 1 = μ 1) (e3 : μ' 3 = μ 3) (e9 : μ' 9 = μ 9) (ec : ∀ c, 27 ≤ c ∧ c ≤ 30 → μ' c = μ c) : LCa μ' b n (t + 1) := by
  obtain ⟨a, bb, c, d, e⟩ := h
  have q : ∀ w, ¬ (tK b n t = 4 ∧ (aut b n t).1 = w) := fun w z => k4 z.1
  refine ⟨a.e (no_s (q 7)).1 (no_s (q 7)).2.1 (by rw [e1]) e9, bb.e (no_s (q 8)).1 (fun k => by rw [(no_s (q 8)).2.1]) (fun k => by rw [(no_s (q 8)).2.1]) (fun k => by rw [(no_s (q 8)).2.1]) (fun _ => rfl) (by rw [e3]) (fun c hc => by rw [ec c hc]), c.e (no_s (q 9)).1 (fun k => by rw [(no_s (q 9)).2.1]) (fun k => by rw [(no_s (q 9)).2.1]) (fun _ => rfl) (fun _ => rfl) (by rw [e3]) (fun c hc => by rw [ec c hc]), d.e (no_s (q 10)).1 (fun k => by rw [(no_s (q 10)).2.1]) (fun k => by rw [(no_s (q 10)).2.1]) (fun _ => rfl) (fun k => by rw [(no_s (q 10)).2.1]) (by rw [e3]) (fun c hc => by rw [ec c hc]), ?_⟩
  unfold LN at *
  rw [e1, (no_s (q 11)).2.2, (no_s (q 11)).2.2, (no_s (q 12)).2.2, (no_s (q 13)).2.2, (no_s (q 14)).2.2]
  exact e
