/-! MATHEMATICS, 71: names and numbers of a text, class -/
theorem name_tok {b : Nat → Int} {n t : Nat} (h : tK b n t = 2) : stt b n t < n ∧ isLe (b (stt b n t)) = true ∧ rnL isLe b n (stt b n t) ≤ 8 ∧ tV b n t = ((rnL isLe b n (stt b n t) : Nat) : Int) ∧ kwC (nmN b (stt b n t) (rnL isLe b n (stt b n t))) = 2 := by
  unfold tK tkK at h
  unfold tV tkV
  split at h
  · omega
  · rename_i c
    split at h
    · rename_i c2
      split at h
      · omega
      · rename_i c3
        rw [if_neg c, if_pos c2]
        exact ⟨by omega, c2, by omega, rfl, h⟩
    · split at h
      · split at h <;> omega
      · split at h <;> omega
theorem int_tok {b : Nat → Int} {n t : Nat} (h : tK b n t = 3) : 0 ≤ tV b n t ∧ tV b n t ≤ 9999 := by
  unfold tK tkK at h
  unfold tV tkV
  split at h
  · omega
  · rename_i c
    split at h
    · split at h
      · omega
      · have := kwC_b (nmN b (stt b n t) (rnL isLe b n (stt b n t)))
        rename_i c2 c3
        exfalso
        revert h
        unfold kwC
        repeat' split
        all_goals omega
    · rename_i c2
      split at h
      · rename_i c3
        rw [if_neg c, if_neg c2, if_pos c3]
        have sl := stt_le b n t
        have := dvN_b (b := b) (i := stt b n t) (l := rnL isDi b n (stt b n t)) fun k hk => run_in (p := isDi) (b := b) (n := n) (n - stt b n t) (stt b n t) k (by omega) hk
        omega
      · split at h <;> omega
/-- the same name, by its bytes -/
def smN (b : Nat → Int) (n s t : Nat) : Prop := tV b n s = tV b n t ∧ ∀ i : Nat, (i : Int) < tV b n s → b (stt b n s + i) = b (stt b n t + i)
theorem sp_sameName {sc : Scr} {d t : Nat} {μ : Mem} {Q : Int → Mem → Prop} {b : Nat → Int} {n T s u : Nat} (hT : TO μ n) (eb : byC μ = b) (hK : Kept μ b n T) (hT4 : T ≤ 400) (hs : s < T) (hu : u < T) (ks : tK b n s = 2) (ku : tK b n u = 2) (h1 : smN b n s u → Q 1 μ) (h0 : ¬ smN b n s u → Q 0 μ) : RMi sc (d + 2) 4017 [rfc 4 0, .inl (s : Int), .inl (u : Int)] (t, 0, 0) μ Q := by
  obtain ⟨a1, a2, a3⟩ := hK.2 s hs
  obtain ⟨b1, b2, b3⟩ := hK.2 u hu
  obtain ⟨n1, n2, n3, n4, -⟩ := name_tok ks
  obtain ⟨m1, m2, m3, m4, -⟩ := name_tok ku
  have rl1 := run_le isLe b (n := n) (i := stt b n s) (by omega)
  have rl2 := run_le isLe b (n := n) (i := stt b n u) (by omega)
  have n2k := hT.2.1
  refine m_4017 ?_
  rw [Int.toNat_natCast, Int.toNat_natCast, a3, b3]
  refine ⟨by omega, by omega, fun z => ?_, fun z => h0 fun y => z y.1⟩
  have lp : ∀ (m i : Nat), (m : Int) + (i : Int) = tV b n s → (∀ j, j < i → b (stt b n s + j) = b (stt b n u + j)) → R_4017 sc (d + 1) (PI t Q) t 19 [rfc 4 0, .inl (s : Int), .inl (u : Int), .inl (i : Int)] [] μ := by
    intro m
    induction m with
    | zero =>
      intro i hi ha
      refine m_4017_19 ?_
      rw [Int.toNat_natCast, a3]
      exact ⟨by omega, fun _ => PI_mk (h1 ⟨z, fun j hj => ha j (by omega)⟩), fun y => absurd (by omega) y⟩
    | succ m ih =>
      intro i hi ha
      refine m_4017_19 ?_
      rw [Int.toNat_natCast, Int.toNat_natCast, a3, a2, show ((stt b n s : Nat) : Int) + (i : Int) = ((stt b n s + i : Nat) : Int) by omega]
      refine ⟨by omega, fun y => absurd y (by omega), fun _ => ⟨by omega, by omega, sp_byteAt hT (fun _ => ⟨by omega, ?_⟩) (fun y => absurd (by omega) y)⟩⟩
      rw [b2, show ((stt b n u : Nat) : Int) + (i : Int) = ((stt b n u + i : Nat) : Int) by omega]
      refine ⟨by omega, sp_byteAt hT (fun _ => ?_) (fun y => absurd (by omega) y)⟩
      rw [eb]
      refine ⟨fun y => ⟨by omega, ih (i + 1) (by omega) fun j hj => ?_⟩, fun y => PI_mk (h0 fun w => y (w.2 i (by omega)))⟩
      by_cases q : j = i
      · rw [q]; exact y
      · exact ha j (by omega)
  exact lp (tV b n s).toNat 0 (by omega) fun j hj => absurd hj (by omega)
def twc (b : Nat → Int) (n u : Nat) : Prop := ∃ s, s < u ∧ tK b n s = 2 ∧ smN b n s u
theorem sp_toldBefore {sc : Scr} {d t : Nat} {μ : Mem} {Q : Int → Mem → Prop} {b : Nat → Int} {n T u : Nat} (hT : TO μ n) (eb : byC μ = b) (hK : Kept μ b n T) (hT4 : T ≤ 400) (hu : u < T) (ku : tK b n u = 2) (h1 : twc b n u → Q 1 μ) (h0 : ¬ twc b n u → Q 0 μ) : RMi sc (d + 3) 4016 [rfc 4 0, .inl (u : Int)] (t, 0, 0) μ Q := by
  have lp : ∀ (m s : Nat), m + s = u → (∀ j, j < s → tK b n j = 2 → ¬ smN b n j u) → R_4016 sc (d + 2) (PI t Q) t 2 [rfc 4 0, .inl (u : Int), .inl (s : Int)] [] μ := by
    intro m
    induction m with
    | zero =>
      intro s hs ha
      exact m_4016_2 ⟨fun _ => PI_mk (h0 fun ⟨j, h1, h2, h3⟩ => ha j (by omega) h2 h3), fun y => absurd (by omega) y⟩
    | succ m ih =>
      intro s hs ha
      obtain ⟨a1, -, -⟩ := hK.2 s (by omega)
      refine m_4016_2 ⟨fun y => absurd y (by omega), fun _ => ?_⟩
      rw [Int.toNat_natCast, a1]
      refine ⟨by omega, fun y => ⟨by omega, ih (s + 1) (by omega) fun j hj kj => ?_⟩, fun y => sp_sameName hT eb hK hT4 (by omega) hu (Decidable.not_not.mp y) ku (fun e => ⟨fun w => absurd w (by decide), fun _ => PI_mk (h1 ⟨s, by omega, Decidable.not_not.mp y, e⟩)⟩) (fun e => ⟨fun _ => ⟨by omega, ih (s + 1) (by omega) fun j hj kj => ?_⟩, fun w => absurd rfl w⟩)⟩
      · by_cases q : j = s
        · subst q
          exact absurd kj y
        · exact ha j (by omega) kj
      · by_cases q : j = s
        · subst q
          exact e
        · exact ha j (by omega) kj
  exact m_4016 (lp u 0 (by omega) fun j hj => absurd hj (by omega))
/-- word and ints before a token -/
def wiT (b : Nat → Int) (n : Nat) : Nat → Int × Int
  | 0 => (1, 0)
  | t + 1 => if 7 ≤ tK b n t then (tK b n t, 0) else if tK b n t = 3 then ((wiT b n t).1, (wiT b n t).2 + 1) else wiT b n t
theorem wiT_s (b : Nat → Int) (n t : Nat) : wiT b n (t + 1) = if 7 ≤ tK b n t then (tK b n t, 0) else if tK b n t = 3 then ((wiT b n t).1, (wiT b n t).2 + 1) else wiT b n t := rfl
theorem wiT_b (b : Nat → Int) (n : Nat) : ∀ t : Nat, (1 ≤ (wiT b n t).1 ∧ (wiT b n t).1 ≤ 14) ∧ (0 ≤ (wiT b n t).2 ∧ (wiT b n t).2 ≤ (t : Int))
  | 0 => by unfold wiT; decide
  | t + 1 => by
    have h := wiT_b b n t
    have k : 0 ≤ tK b n t ∧ tK b n t ≤ 14 := tkK_b _ _ _
    rw [wiT_s]
    split
    · simp only []; omega
    · split
      · simp only []; omega
      · omega
def lst (w i : Int) : Int := rom 102 2 ((4 * (w - 7)) + i).toNat
def gst (w i : Int) : Int := rom 102 3 ((4 * (w - 7)) + i).toNat
/-- a number that is not as told -/
def wrg (b : Nat → Int) (n : Nat) (w i : Int) (t : Nat) : Prop := (4 * (w - 7)) + i < 0 ∨ 32 ≤ (4 * (w - 7)) + i ∨ tV b n t < lst w i ∨ gst w i < tV b n t ∨ (w = 7 ∧ i = 2 ∧ 0 < t ∧ tV b n t < tV b n (t - 1))
theorem sp_isWrong {sc : Scr} {d t : Nat} {μ : Mem} {Q : Int → Mem → Prop} {b : Nat → Int} {n T u : Nat} {w i : Int} (hK : Kept μ b n T) (hT4 : T ≤ 400) (hu : u < T) (hw : 1 ≤ w ∧ w ≤ 14) (hi : 0 ≤ i ∧ i ≤ 400) (h1 : wrg b n w i u → Q 1 μ) (h0 : ¬ wrg b n w i u → Q 0 μ) : RMi sc (d + 1) 4018 [rfc 4 0, .inl w, .inl i, .inl (u : Int)] (t, 0, 0) μ Q := by
  unfold wrg lst gst at h1 h0
  obtain ⟨-, -, a3⟩ := hK.2 u hu
  have fin : ∀ x5 : Int, ¬ ((4 * (w - 7)) + i < 0) → ¬ (32 ≤ (4 * (w - 7)) + i) → ¬ (tV b n u < rom 102 2 ((4 * (w - 7)) + i).toNat) → ¬ (rom 102 3 ((4 * (w - 7)) + i).toNat < tV b n u) → ∀ x : Int, ((x ≠ 0) ↔ (w = 7 ∧ i = 2)) → R_4018 sc d (PI t Q) t 72 [rfc 4 0, .inl w, .inl i, .inl (u : Int), .inl x5, vx] [.inl x] μ := by
    intro x5 y1 y2 y3 y4 x hx
    refine m_4018_72 ⟨fun z => PI_mk (h0 ?_), fun z => ⟨fun z2 => PI_mk (h0 ?_), fun z2 => ?_⟩⟩
    · intro v
      rcases v with v | v | v | v | v
      · exact y1 v
      · exact y2 v
      · exact y3 v
      · exact y4 v
      · exact hx.mpr ⟨v.1, v.2.1⟩ z
    · intro v
      rcases v with v | v | v | v | v
      · exact y1 v
      · exact y2 v
      · exact y3 v
      · exact y4 v
      · omega
    · obtain ⟨-, -, c3⟩ := hK.2 (u - 1) (by omega)
      rw [show ((u : Int) - 1).toNat = u - 1 by omega, Int.toNat_natCast, a3, c3]
      have xe := hx.mp z
      refine ⟨by omega, by omega, by omega, fun z3 => PI_mk (h0 ?_), fun z3 => PI_mk (h1 (Or.inr (Or.inr (Or.inr (Or.inr ⟨xe.1, xe.2, by omega, by omega⟩)))))⟩
      intro v
      rcases v with v | v | v | v | v
      · exact y1 v
      · exact y2 v
      · exact y3 v
      · exact y4 v
      · omega
  refine m_4018 ?_
  rw [Int.toNat_natCast, a3]
  refine ⟨by omega, by omega, by omega, fun z => h1 (Or.inl z), fun z => ⟨fun z2 => h1 (Or.inr (Or.inl z2)), fun z2 => ⟨by omega, by omega, fun z3 => h1 (Or.inr (Or.inr (Or.inl z3))), fun z3 => ⟨by omega, by omega, fun z4 => ⟨fun z5 => fin _ z z2 z3 (by omega) 0 ⟨fun y => absurd rfl y, fun y => absurd y.1 z5⟩, fun z5 => ⟨fun z6 => fin _ z z2 z3 (by omega) 0 ⟨fun y => absurd rfl y, fun y => absurd y.2 z6⟩, fun z6 => fin _ z z2 z3 (by omega) 1 ⟨fun _ => ⟨by omega, by omega⟩, fun _ => by decide⟩⟩⟩, fun z4 => h1 (Or.inr (Or.inr (Or.inr (Or.inl (by omega)))))⟩⟩⟩⟩
