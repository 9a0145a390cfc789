/-! MATHEMATICS, 50: the class sorts and counts -/
def F36 (μ μ' : Mem) : Prop := ∀ c i k, ¬ (c = 36 ∧ i = 1) → μ' c i k = μ c i k
theorem F36.trans {μ μ' μ'' : Mem} (h : F36 μ μ') (h2 : F36 μ' μ'') : F36 μ μ'' := fun c i k a => (h2 c i k a).trans (h c i k a)
theorem F36.w {μ : Mem} {k : Nat} {v : Int} : F36 μ (wr μ 36 1 k v) := fun c i j a => if_neg fun z => a ⟨z.1, z.2.1⟩
theorem row_w {μ : Mem} {j : Nat} {x : Int} : (wr μ 36 1 j x) 36 1 = upF (μ 36 1) j x := by
  funext i
  unfold upF
  by_cases q : i = j
  · rw [if_pos q, q, wr_same]
  · rw [if_neg q, wr_k q]
def sortd (g : Nat → Int) (n : Nat) : Prop := ∀ a b, a < b → b < n → g a ≤ g b
theorem L2004i {sc : Scr} {d t : Nat} {μ : Mem} {P : Option AV → AS → Prop} {f0 : Nat → Int} {n G i : Nat} {x : Int} (hn : n ≤ 1600) (hi : i < n) (hG : 1 ≤ G)
    (h : ∀ μ' q3 q4, F36 μ μ' → (∀ v, mult (μ' 36 1) v n = mult f0 v n) → (G = 1 → sortd (μ' 36 1) (i + 1)) → R_2004 sc d P t 13 [rfc 2 1, .inl (G : Int), .inl ((i : Int) + 1), q3, q4] [] μ') :
    ∀ (m j : Nat) (μ' : Mem), j ≤ m → j ≤ i → F36 μ μ' → (∀ v, mult (upF (μ' 36 1) j x) v n = mult f0 v n) → (G = 1 → (∀ a b, a < b → b ≤ i → a ≠ j → b ≠ j → μ' 36 1 a ≤ μ' 36 1 b) ∧ (∀ b, j < b → b ≤ i → x < μ' 36 1 b)) → R_2004 sc d P t 31 [rfc 2 1, .inl (G : Int), .inl (i : Int), .inl x, .inl (j : Int)] [] μ' := by
  have e36 : slen 36 1 = 1600 := rfl
  have fin : ∀ (j : Nat) (μ' : Mem), j ≤ i → F36 μ μ' → (∀ v, mult (upF (μ' 36 1) j x) v n = mult f0 v n) → (G = 1 → (∀ a b, a < b → b ≤ i → a ≠ j → b ≠ j → μ' 36 1 a ≤ μ' 36 1 b) ∧ (∀ b, j < b → b ≤ i → x < μ' 36 1 b)) → (G = 1 → j = 0 ∨ μ' 36 1 (j - 1) ≤ x) → R_2004 sc d P t 13 [rfc 2 1, .inl (G : Int), .inl ((i : Int) + 1), .inl x, .inl (j : Int)] [] (wr μ' 36 1 j x) := by
    intro j μ' hj hF hm hs he
    refine h _ _ _ (hF.trans F36.w) (fun v => by rw [row_w]; exact hm v) (fun g => ?_)
    obtain ⟨s1, s2⟩ := hs g
    have e := he g
    rw [row_w]
    intro a b hab hb
    unfold upF
    by_cases qa : a = j
    · rw [if_pos qa, if_neg (by omega)]
      have := s2 b (by omega) (by omega)
      omega
    · rw [if_neg qa]
      by_cases qb : b = j
      · rw [if_pos qb]
        rcases e with e | e
        · omega
        · by_cases q : a = j - 1
          · rw [q]; exact e
          · have := s1 a (j - 1) (by omega) (by omega) qa (by omega)
            omega
      · rw [if_neg qb]
        exact s1 a b hab (by omega) qa qb
  intro m
  induction m with
  | zero =>
    intro j μ' hjm hj hF hm hs
    have : j = 0 := by omega
    subst this
    refine m_2004_31 ⟨fun _ => ⟨by rw [e36]; omega, by omega, ?_⟩, fun c => absurd (by omega) c⟩
    rw [Int.toNat_natCast]
    exact fin 0 μ' hj hF hm hs fun _ => Or.inl rfl
  | succ m ih =>
    intro j μ' hjm hj hF hm hs
    refine m_2004_31 ⟨fun c => ⟨by rw [e36]; omega, by omega, ?_⟩, fun c => ⟨by omega, by rw [e36]; omega, fun c2 => ⟨by rw [e36]; omega, by omega, ?_⟩, fun c2 => ⟨by omega, by rw [e36]; omega, by rw [e36]; omega, by omega, ?_⟩⟩⟩
    · rw [Int.toNat_natCast]
      exact fin j μ' hj hF hm hs fun g => Or.inl (by omega)
    · rw [Int.toNat_natCast]
      refine fin j μ' hj hF hm hs fun g => Or.inr ?_
      rw [show ((j : Int) - (G : Int)).toNat = j - 1 by omega] at c2
      exact c2
    · obtain ⟨k, hk⟩ := Int.eq_ofNat_of_zero_le (by omega : 0 ≤ (j : Int) - (G : Int))
      rw [hk, Int.toNat_natCast] at c2
      rw [hk, Int.toNat_natCast, Int.toNat_natCast]
      refine ih k _ (by omega) (by omega) (hF.trans F36.w) (fun v => ?_) (fun g => ?_)
      · rw [row_w, mult_sh (by omega) (by omega) (by omega) v]
        exact hm v
      · obtain ⟨s1, s2⟩ := hs g
        have hkj : k = j - 1 := by omega
        rw [row_w]
        unfold upF
        refine ⟨fun a b hab hb ha hb2 => ?_, fun b hb1 hb2 => ?_⟩
        · by_cases qa : a = j
          · rw [if_pos qa]
            by_cases qb : b = j
            · omega
            · rw [if_neg qb]
              exact s1 k b (by omega) hb (by omega) qb
          · rw [if_neg qa]
            by_cases qb : b = j
            · rw [if_pos qb]
              by_cases q : a = k
              · exact absurd q ha
              · exact s1 a k (by omega) (by omega) qa (by omega)
            · rw [if_neg qb]
              exact s1 a b hab hb qa qb
        · by_cases qb : b = j
          · rw [if_pos qb]
            omega
          · rw [if_neg qb]
            exact s2 b (by omega) hb2
theorem L2004o {sc : Scr} {d t : Nat} {μ : Mem} {P : Option AV → AS → Prop} {f0 : Nat → Int} {n G : Nat} (hn : n ≤ 1600) (e1 : μ 2 1 1 = (n : Int)) (hG : 1 ≤ G)
    (h : ∀ μ' q2 q3 q4, F36 μ μ' → (∀ v, mult (μ' 36 1) v n = mult f0 v n) → (G = 1 → sortd (μ' 36 1) n) → R_2004 sc d P t 7 [rfc 2 1, .inl ((G / 2 : Nat) : Int), q2, q3, q4] [] μ') :
    ∀ (m i : Nat) (μ' : Mem) (q3 q4 : AV), m + i = n ∨ n ≤ i → G ≤ i → (i ≤ n ∨ G = i) → F36 μ μ' → (∀ v, mult (μ' 36 1) v n = mult f0 v n) → (G = 1 → sortd (μ' 36 1) i) → R_2004 sc d P t 13 [rfc 2 1, .inl (G : Int), .inl (i : Int), q3, q4] [] μ' := by
  have e36 : slen 36 1 = 1600 := rfl
  have fin : ∀ (i : Nat) (μ' : Mem) (q3 q4 : AV), n ≤ i → F36 μ μ' → (∀ v, mult (μ' 36 1) v n = mult f0 v n) → (G = 1 → sortd (μ' 36 1) i) → R_2004 sc d P t 13 [rfc 2 1, .inl (G : Int), .inl (i : Int), q3, q4] [] μ' := by
    intro i μ' q3 q4 hi hF hm hs
    have e1' : μ' 2 1 1 = (n : Int) := by rw [hF 2 1 1 (by omega)]; exact e1
    refine m_2004_13 ⟨fun _ => ⟨by omega, ?_⟩, fun c => absurd (by omega) c⟩
    have e : ((G : Nat) : Int) / 2 = ((G / 2 : Nat) : Int) := by omega
    rw [e]
    exact h μ' _ _ _ hF hm fun g a b hab hb => hs g a b hab (by omega)
  intro m
  induction m with
  | zero =>
    intro i μ' q3 q4 hi hGi _ hF hm hs
    exact fin i μ' q3 q4 (by omega) hF hm hs
  | succ m ih =>
    intro i μ' q3 q4 hi hGi hin hF hm hs
    by_cases c0 : n ≤ i
    · exact fin i μ' q3 q4 c0 hF hm hs
    · have e1' : μ' 2 1 1 = (n : Int) := by rw [hF 2 1 1 (by omega)]; exact e1
      refine m_2004_13 ⟨fun c => absurd c (by omega), fun _ => ⟨by rw [e36]; omega, ?_⟩⟩
      rw [Int.toNat_natCast]
      refine L2004i (μ := μ') (f0 := f0) (n := n) (i := i) hn (by omega) hG (fun μ2 q3 q4 F2 m2 s2 => ?_) i i μ' (Nat.le_refl _) (Nat.le_refl _) (fun _ _ _ _ => rfl) (fun v => ?_) (fun g => ⟨fun a b hab hb ha hb2 => hs g a b hab (by omega), fun b h1 h2 => absurd h1 (by omega)⟩)
      · exact ih (i + 1) μ2 _ _ (by omega) (by omega) (by omega) (hF.trans F2) m2 s2
      · have : upF (μ' 36 1) i (μ' 36 1 i) = μ' 36 1 := by
          funext k
          unfold upF
          by_cases q : k = i
          · rw [if_pos q, q]
          · rw [if_neg q]
        rw [this]
        exact hm v
theorem sp_sort {sc : Scr} {d t : Nat} {μ : Mem} {Q : Mem → Prop} {n : Nat} (hn : n ≤ 1600) (e1 : μ 2 1 1 = (n : Int)) (h : ∀ μ', F36 μ μ' → (∀ v, mult (μ' 36 1) v n = mult (μ 36 1) v n) → sortd (μ' 36 1) n → Q μ') : RMv sc (d + 1) 2004 [rfc 2 1] (t, 0, 0) μ Q := by
  have lp : ∀ (m G : Nat) (μ' : Mem) (q2 q3 q4 : AV), G ≤ m → F36 μ μ' → (∀ v, mult (μ' 36 1) v n = mult (μ 36 1) v n) → (G = 0 → sortd (μ' 36 1) n) → R_2004 sc d (PV t Q) t 7 [rfc 2 1, .inl (G : Int), q2, q3, q4] [] μ' := by
    intro m
    induction m with
    | zero =>
      intro G μ' q2 q3 q4 hG hF hm hs
      exact m_2004_7 ⟨fun _ => PV_mk (h μ' hF hm (hs (by omega))), fun c => absurd (by omega) c⟩
    | succ m ih =>
      intro G μ' q2 q3 q4 hG hF hm hs
      refine m_2004_7 ⟨fun c => PV_mk (h μ' hF hm (hs (by omega))), fun c => ?_⟩
      refine L2004o (μ := μ') (f0 := μ 36 1) hn (by rw [hF 2 1 1 (by omega)]; exact e1) (by omega) (fun μ2 q2 q3 q4 F2 m2 s2 => ih (G / 2) μ2 _ _ _ (by omega) (hF.trans F2) m2 fun g => s2 (by omega)) (n - G) G μ' _ _ (by omega) (Nat.le_refl _) (Or.inr rfl) (fun _ _ _ _ => rfl) hm (fun g a b hab hb => absurd hb (by omega))
  refine m_2004 ⟨by omega, ?_⟩
  rw [e1]
  have e : ((n : Nat) : Int) / 2 = ((n / 2 : Nat) : Int) := by omega
  rw [e]
  exact lp (n / 2) (n / 2) μ _ _ _ (Nat.le_refl _) (fun _ _ _ _ => rfl) (fun _ => rfl) fun g a b hab hb => absurd hb (by omega)
theorem mult_z {f : Nat → Int} {v : Int} : ∀ {n : Nat}, (∀ i, i < n → f i ≠ v) → mult f v n = 0
  | 0, _ => rfl
  | n + 1, h => by
    rw [mult_s, mult_z fun i hi => h i (by omega), if_neg (h n (by omega))]
/-- the most that are alike, by the class -/
theorem sp_longest {sc : Scr} {d t : Nat} {μ : Mem} {Q : Int → Mem → Prop} {n : Nat} (hn : n ≤ 1600) (e1 : μ 2 1 1 = (n : Int)) (h : ∀ μ', F36 μ μ' → Q (mxF (μ 36 1) n) μ') : RMi sc (d + 2) 2003 [rfc 2 1] (t, 0, 0) μ Q := by
  have e36 : slen 36 1 = 1600 := rfl
  refine m_2003 (sp_sort hn e1 fun μ1 F1 m1 s1 => ?_)
  have e1' : μ1 2 1 1 = (n : Int) := by rw [F1 2 1 1 (by omega)]; exact e1
  have lp : ∀ (m i : Nat) (lo run : Int), m + i = n → (0 ≤ lo ∧ lo ≤ 1600) → IsMax (μ1 36 1) i lo → (0 < i → run = ((mult (μ1 36 1) (μ1 36 1 (i - 1)) i : Nat) : Int)) → R_2003 sc (d + 1) (PI t Q) t 10 [rfc 2 1, .inl lo, .inl run, .inl (i : Int)] [] μ1 := by
    intro m
    induction m with
    | zero =>
      intro i lo run hi hl hm hr
      have : i = n := by omega
      subst this
      refine m_2003_10 ⟨fun _ => PI_mk ?_, fun c => absurd (by omega) c⟩
      rw [hm.eq (mxF_ok (μ 36 1) i) m1]
      exact h μ1 F1
    | succ m ih =>
      intro i lo run hi hl hm hr
      have st := IsMax_s hm
      have mb := mult_le (μ1 36 1) (μ1 36 1 i) (i + 1)
      have nxt : ∀ r : Int, r = ((mult (μ1 36 1) (μ1 36 1 i) (i + 1) : Nat) : Int) → RMi sc (d + 1) 100011 [.inl lo, .inl r] (t, 0, 0) μ1 (fun v2 μ2 => (InI ((i : Int) + 1)) ∧ (R_2003 sc (d + 1) (PI t Q) t 10 [rfc 2 1, .inl v2, .inl r, .inl ((i : Int) + 1)] [] μ2)) := by
        intro r hr2
        rw [← hr2] at st
        refine m_100011 ⟨fun c => ⟨by omega, ?_⟩, fun c => ⟨by omega, ?_⟩⟩
        · rw [if_pos c] at st
          exact ih (i + 1) r r (by omega) (by omega) st fun _ => hr2
        · rw [if_neg c] at st
          exact ih (i + 1) lo r (by omega) hl st fun _ => hr2
      have one : (∀ b, b < i → μ1 36 1 b ≠ μ1 36 1 i) → (1 : Int) = ((mult (μ1 36 1) (μ1 36 1 i) (i + 1) : Nat) : Int) := by
        intro z
        rw [mult_s, mult_z z, if_pos rfl]
        rfl
      refine m_2003_10 ⟨fun c => absurd c (by omega), fun _ => ⟨fun c => nxt 1 (one fun b hb => absurd hb (by omega)), fun c => ⟨by rw [e36]; omega, by omega, by rw [e36]; omega, ?_⟩⟩⟩
      rw [Int.toNat_natCast, show ((i : Int) - 1).toNat = i - 1 by omega]
      refine ⟨fun c2 => nxt 1 (one fun b hb z => ?_), fun c2 => ⟨?_, nxt (run + 1) ?_⟩⟩
      · have a2 := s1 (i - 1) i (by omega) (by omega)
        by_cases q : b = i - 1
        · subst q
          exact c2 z.symm
        · have a1 := s1 b (i - 1) (by omega) (by omega)
          omega
      · have := hr (by omega)
        have mb2 := mult_le (μ1 36 1) (μ1 36 1 (i - 1)) i
        omega
      · have c3 := Decidable.not_not.mp c2
        rw [mult_s, if_pos rfl, hr (by omega), c3]
        omega
  exact lp n 0 0 0 rfl (by decide) ⟨fun v => by unfold mult; decide, Or.inl rfl⟩ fun z => absurd z (by omega)
