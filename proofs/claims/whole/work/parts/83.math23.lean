/-! MATHEMATICS, 23: the class gathers -/
theorem st0_n {g : Gf} {pace fall s px py qx qy p q : Int} {L : Lst} (h : Nin p q L) : Nin p q (st0 g pace fall s px py qx qy L) ∧ (st0 g pace fall s px py qx qy L).2 ≤ L.2 + 1 := by
  unfold st0
  by_cases c : (Op0 g (wy0 px py qx qy) ∧ 1 ≤ lvl fall s (sqw (wy0 px py qx qy)) 0)
  · rw [ic_t c]
    exact ⟨h.add (Or.inl rfl), Nat.le_refl _⟩
  · rw [ic_f c]
    exact ⟨h, Nat.le_succ _⟩
theorem st1_n {g : Gf} {pace fall s px py qx qy p q : Int} {a : Nat} {L : Lst} (h : Nin p q L) (ha : 10 + (a : Int) < p) : Nin p q (st1 g pace fall s px py qx qy a L) ∧ (st1 g pace fall s px py qx qy a L).2 ≤ L.2 + 1 := by
  unfold st1
  by_cases c : (Op1 g (wy1 g px py qx qy a) a ∧ 1 ≤ lvl fall s (sqw (wy1 g px py qx qy a)) (g a 4))
  · rw [ic_t c]
    exact ⟨h.add (Or.inr (Or.inl ⟨by unfold en; simp only []; omega, ha⟩)), Nat.le_refl _⟩
  · rw [ic_f c]
    exact ⟨h, Nat.le_succ _⟩
theorem st2_n {g : Gf} {pace fall s px py qx qy p q : Int} {a b : Nat} {L : Lst} (h : Nin p q L) (hb : 100 + 10 * (a : Int) + (b : Int) < q) : Nin p q (st2 g pace fall s px py qx qy a b L) ∧ (st2 g pace fall s px py qx qy a b L).2 ≤ L.2 + 1 := by
  unfold st2
  by_cases c : (Op2 g (wy2 g px py qx qy a b) a b ∧ 1 ≤ lvl fall s (sqw (wy2 g px py qx qy a b)) (g a 4 + g b 4))
  · rw [ic_t c]
    exact ⟨h.add (Or.inr (Or.inr ⟨by unfold en; simp only []; omega, hb⟩)), Nat.le_refl _⟩
  · rw [ic_f c]
    exact ⟨h, Nat.le_succ _⟩
theorem st1_s {g : Gf} {pace fall s px py qx qy p q : Int} {a : Nat} {L : Lst} (h : Nin p q L) (ha : p ≤ 10 + (a : Int)) (hp : (a : Int) < 90) (hS : Srt L) : Srt (st1 g pace fall s px py qx qy a L) := by
  unfold st1
  by_cases c : (Op1 g (wy1 g px py qx qy a) a ∧ 1 ≤ lvl fall s (sqw (wy1 g px py qx qy a)) (g a 4))
  · rw [ic_t c]
    refine Srt_add hS fun i hi => ?_
    have := h i hi
    unfold en
    simp only []
    omega
  · rw [ic_f c]
    exact hS
theorem st2_s {g : Gf} {pace fall s px py qx qy p q : Int} {a b : Nat} {L : Lst} (h : Nin p q L) (hb : q ≤ 100 + 10 * (a : Int) + (b : Int)) (hp : p ≤ 100) (hS : Srt L) : Srt (st2 g pace fall s px py qx qy a b L) := by
  unfold st2
  by_cases c : (Op2 g (wy2 g px py qx qy a b) a b ∧ 1 ≤ lvl fall s (sqw (wy2 g px py qx qy a b)) (g a 4 + g b 4))
  · rw [ic_t c]
    refine Srt_add hS fun i hi => ?_
    have := h i hi
    unfold en
    simp only []
    omega
  · rw [ic_f c]
    exact hS
theorem inL_n {g : Gf} {pace fall s px py qx qy p : Int} {a : Nat} {L : Lst} (h : Nin p (100 + 10 * (a : Int)) L) (hp : p ≤ 100) (hS : Srt L) : ∀ b : Nat, Nin p (100 + 10 * (a : Int) + (b : Int)) (inL g pace fall s px py qx qy a b L) ∧ Srt (inL g pace fall s px py qx qy a b L) ∧ (inL g pace fall s px py qx qy a b L).2 + (if a < b then 1 else 0) ≤ L.2 + b
  | 0 => ⟨by have : (100 + 10 * (a : Int) + ((0 : Nat) : Int)) = 100 + 10 * (a : Int) := by omega
             rw [this]; exact h, hS, by simp [inL]⟩
  | b + 1 => by
    obtain ⟨h1, h2, h3⟩ := inL_n (g := g) (pace := pace) (fall := fall) (s := s) (px := px) (py := py) (qx := qx) (qy := qy) h hp hS b
    unfold inL
    split
    · rename_i c
      refine ⟨h1.mono (by omega) (by omega), h2, ?_⟩
      split at h3 <;> split <;> omega
    · rename_i c
      obtain ⟨n1, n2⟩ := st2_n (g := g) (pace := pace) (fall := fall) (s := s) (px := px) (py := py) (qx := qx) (qy := qy) (a := a) (b := b) (p := p) (q := 100 + 10 * (a : Int) + ((b + 1 : Nat) : Int)) (h1.mono (by omega) (by omega)) (by omega)
      refine ⟨n1, st2_s h1 (by omega) hp h2, ?_⟩
      split at h3 <;> split <;> omega
theorem ouL_n {g : Gf} {pace fall s px py qx qy : Int} : ∀ a : Nat, a ≤ 9 → Nin (10 + (a : Int)) (100 + 10 * (a : Int)) (ouL g pace fall s px py qx qy a) ∧ Srt (ouL g pace fall s px py qx qy a) ∧ (ouL g pace fall s px py qx qy a).2 ≤ 1 + 9 * a
  | 0, _ => by
    unfold ouL
    have z : Nin (10 + ((0 : Nat) : Int)) (100 + 10 * ((0 : Nat) : Int)) (fun _ => ((0 : Int), (0 : Int), (0 : Int), (0 : Int)), 0) := fun i hi => absurd hi (by simp)
    obtain ⟨n1, n2⟩ := st0_n (g := g) (pace := pace) (fall := fall) (s := s) (px := px) (py := py) (qx := qx) (qy := qy) z
    refine ⟨n1, ?_, by simp only [] at n2; omega⟩
    intro i j hij hj
    simp only [] at n2
    omega
  | a + 1, ha => by
    obtain ⟨h1, h2, h3⟩ := ouL_n (g := g) (pace := pace) (fall := fall) (s := s) (px := px) (py := py) (qx := qx) (qy := qy) a (by omega)
    unfold ouL
    split
    · exact ⟨h1.mono (by omega) (by omega), h2, by omega⟩
    · have m := h1.mono (p' := 10 + ((a + 1 : Nat) : Int)) (q' := 100 + 10 * (a : Int)) (by omega) (by omega)
      obtain ⟨n1, n2⟩ := st1_n (g := g) (pace := pace) (fall := fall) (s := s) (px := px) (py := py) (qx := qx) (qy := qy) (a := a) m (by omega)
      have s1 := st1_s (g := g) (pace := pace) (fall := fall) (s := s) (px := px) (py := py) (qx := qx) (qy := qy) h1 (a := a) (by omega) (by omega) h2
      obtain ⟨i1, i2, i3⟩ := inL_n (g := g) (pace := pace) (fall := fall) (s := s) (px := px) (py := py) (qx := qx) (qy := qy) n1 (by omega) s1 9
      refine ⟨i1.mono (by omega) (by omega), i2, ?_⟩
      split at i3 <;> omega
theorem L10002i {sc : Scr} {d t : Nat} {μ : Mem} {P : Option AV → AS → Prop} {L : Lst} {px py qx qy s : Int} {a : Nat} (ha : a < 9) (ta : μ 9 a 5 ≠ 0) (hC : CO μ) (hp : Pl px py) (hq : Pl qx qy) (hs : Spn μ px py qx qy) (bs : 0 ≤ s ∧ s ≤ 99)
    (hN : ∀ b, (inL (μ 9) (μ 1 0 7) (μ 1 0 8) s px py qx qy a b L).2 + (if a < b then 1 else 0) ≤ 2 + 9 * a + b)
    (h : ∀ μ' q5 q6, Fc μ μ' → LCl μ' (inL (μ 9) (μ 1 0 7) (μ 1 0 8) s px py qx qy a 9 L) → R_10002 sc (d + 3) P t 16 [rfc 10 0, .inl s, rfc 5 0, .inl ((a + 1 : Nat) : Int), rfc 9 a, q5, q6] [] μ') :
    ∀ (n b : Nat) (μ' : Mem) (q6 : AV), n + b = 9 → Fc μ μ' → LCl μ' (inL (μ 9) (μ 1 0 7) (μ 1 0 8) s px py qx qy a b L) → R_10002 sc (d + 3) P t 66 [rfc 10 0, .inl s, rfc 5 0, .inl (a : Int), rfc 9 a, .inl (b : Int), q6] [] μ' := by
  intro n
  induction n with
  | zero =>
    intro b μ' q6 hb hF hL
    have : b = 9 := by omega
    subst this
    exact m_10002_66 ⟨fun _ => ⟨by omega, h μ' _ _ hF hL⟩, fun c => absurd (by decide) c⟩
  | succ n ih =>
    intro b μ' q6 hb hF hL
    have e9 : μ' 9 = μ 9 := hF.c (by decide) (by decide) (by decide)
    have e1 : μ' 1 = μ 1 := hF.c (by decide) (by decide) (by decide)
    refine m_10002_66 ⟨fun c => absurd c (by omega), fun _ => ⟨by omega, fun c => ⟨by omega, ?_⟩, fun c => ?_⟩⟩
    · refine ih (b + 1) μ' _ (by omega) hF ?_
      unfold inL
      rw [if_pos (Or.inl (by omega))]
      exact hL
    · rw [Int.toNat_natCast, rF_wall (by omega)]
      refine m_10002_97 ⟨fun c2 => ⟨by omega, ih (b + 1) μ' _ (by omega) hF ?_⟩, fun c2 => ⟨by omega, by omega, by omega, ?_⟩⟩
      · unfold inL
        rw [if_pos (Or.inr (by rw [← e9]; exact c2))]
        exact hL
      · have hN' := hN b
        refine sp_one2 rfl ha (by rw [e9]; exact ta) (by omega) c2 (hC.fc hF) hL (by split at hN' <;> omega) hp hq (hF.spn hs) bs fun μ2 F2 hL2 => ⟨by omega, ih (b + 1) μ2 _ (by omega) (hF.trans F2) ?_⟩
        unfold inL
        rw [if_neg (by rw [← e9]; omega)]
        rw [e9, e1] at hL2
        exact hL2
theorem L10002 {sc : Scr} {d t : Nat} {μ : Mem} {P : Option AV → AS → Prop} {px py qx qy s : Int} (hC : CO μ) (hp : Pl px py) (hq : Pl qx qy) (hs : Spn μ px py qx qy) (bs : 0 ≤ s ∧ s ≤ 99)
    (h : ∀ μ', Fc μ μ' → LCl μ' (rets (μ 9) (μ 1 0 7) (μ 1 0 8) s px py qx qy) → P none (fs (t, 0, 0) μ')) :
    ∀ (n a : Nat) (μ' : Mem) (q4 q5 q6 : AV), n + a = 9 → Fc μ μ' → LCl μ' (ouL (μ 9) (μ 1 0 7) (μ 1 0 8) s px py qx qy a) → R_10002 sc (d + 3) P t 16 [rfc 10 0, .inl s, rfc 5 0, .inl (a : Int), q4, q5, q6] [] μ' := by
  intro n
  induction n with
  | zero =>
    intro a μ' q4 q5 q6 ha hF hL
    have : a = 9 := by omega
    subst this
    exact m_10002_16 ⟨fun _ => h μ' hF hL, fun c => absurd (by decide) c⟩
  | succ n ih =>
    intro a μ' q4 q5 q6 ha hF hL
    have e9 : μ' 9 = μ 9 := hF.c (by decide) (by decide) (by decide)
    have e1 : μ' 1 = μ 1 := hF.c (by decide) (by decide) (by decide)
    obtain ⟨o1, o2, o3⟩ := ouL_n (g := μ 9) (pace := μ 1 0 7) (fall := μ 1 0 8) (s := s) (px := px) (py := py) (qx := qx) (qy := qy) a (by omega)
    refine m_10002_16 ⟨fun c => absurd c (by omega), fun _ => ⟨by omega, ?_⟩⟩
    rw [Int.toNat_natCast, rF_wall (by omega)]
    refine m_10002_37 ⟨fun c => ⟨by omega, ?_⟩, fun c => ⟨by omega, ih (a + 1) μ' _ _ _ (by omega) hF ?_⟩⟩
    · refine sp_one1 rfl (by omega) c (hC.fc hF) hL (by omega) hp hq (hF.spn hs) bs fun μ2 F2 hL2 => ?_
      rw [e9, e1] at hL2
      have m := o1.mono (p' := 10 + ((a + 1 : Nat) : Int)) (q' := 100 + 10 * (a : Int)) (by omega) (by omega)
      obtain ⟨n1, n2⟩ := st1_n (g := μ 9) (pace := μ 1 0 7) (fall := μ 1 0 8) (s := s) (px := px) (py := py) (qx := qx) (qy := qy) (a := a) m (by omega)
      have s1 := st1_s (g := μ 9) (pace := μ 1 0 7) (fall := μ 1 0 8) (s := s) (px := px) (py := py) (qx := qx) (qy := qy) o1 (a := a) (by omega) (by omega) o2
      refine L10002i (μ := μ) (a := a) (L := st1 (μ 9) (μ 1 0 7) (μ 1 0 8) s px py qx qy a (ouL (μ 9) (μ 1 0 7) (μ 1 0 8) s px py qx qy a)) (by omega) (by rw [← e9]; exact c) hC hp hq hs bs (fun b => ?_) (fun μ3 q5 q6 F3 hL3 => ih (a + 1) μ3 _ _ _ (by omega) F3 ?_) 9 0 μ2 q6 rfl (hF.trans F2) hL2
      · have := (inL_n (g := μ 9) (pace := μ 1 0 7) (fall := μ 1 0 8) (s := s) (px := px) (py := py) (qx := qx) (qy := qy) n1 (by omega) s1 b).2.2
        omega
      · unfold ouL
        rw [if_neg (by rw [← e9]; exact c)]
        exact hL3
    · unfold ouL
      rw [if_pos (by rw [← e9]; omega)]
      exact hL
/-- the class's list of returns -/
theorem sp_gather {sc : Scr} {d t : Nat} {μ : Mem} {Q : Mem → Prop} {px py qx qy s : Int} (hC : CO μ) (hp : Pl px py) (hq : Pl qx qy) (hs : Spn μ px py qx qy) (bs : 0 ≤ s ∧ s ≤ 99)
    (h : ∀ μ', Fc μ μ' → LCl μ' (rets (μ 9) (μ 1 0 7) (μ 1 0 8) s px py qx qy) → Q μ') : RMv sc (d + 4) 10002 [rfc 10 0, .inl s, rfc 5 0] (t, 0, 0) μ Q := by
  have F0 : Fc μ (wr μ 5 0 4 0) := FR.fc (FR.w (Or.inr rfl))
  have e9 : (wr μ 5 0 4 0) 9 = μ 9 := wr_c (by decide)
  have e1 : (wr μ 5 0 4 0) 1 = μ 1 := wr_c (by decide)
  refine m_10002 (sp_one0 (L := (fun _ => (0, 0, 0, 0), 0)) (hC.fc F0) ⟨wr_same _ _ _ _ _, fun i hi => absurd hi (by simp)⟩ (by decide) hp hq (F0.spn hs) bs fun μ1 F1 hL1 => ?_)
  rw [e9, e1] at hL1
  exact L10002 (μ := μ) hC hp hq hs bs (fun μ' F L => PV_mk (h μ' F L)) 9 0 μ1 _ _ _ rfl (F0.trans F1) hL1
