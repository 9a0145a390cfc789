/-! MATHEMATICS, 66: the class cuts a token -/
abbrev byC (μ : Mem) (i : Nat) : Int := andv (μ 20 0 i) 255
/-- the tape is as it may be -/
def TO (μ : Mem) (n : Nat) : Prop := μ 8 0 1 = (n : Int) ∧ n ≤ 2000 ∧ ∀ i, i < n → -128 ≤ μ 20 0 i ∧ μ 20 0 i ≤ 127
theorem TO.b {μ : Mem} {n i : Nat} (h : TO μ n) (hi : i < n) : 0 ≤ byC μ i ∧ byC μ i ≤ 255 := by_b (h.2.2 i hi)
def F4 (μ μ' : Mem) : Prop := ∀ c i k, ¬ (c = 4 ∧ i = 0 ∧ 9 ≤ k ∧ k ≤ 12) → μ' c i k = μ c i k
theorem F4.rfl' {μ : Mem} : F4 μ μ := fun _ _ _ _ => Eq.refl _
theorem F4.trans {μ μ' μ'' : Mem} (h : F4 μ μ') (h2 : F4 μ' μ'') : F4 μ μ'' := fun c i k a => (h2 c i k a).trans (h c i k a)
theorem F4.w {μ : Mem} {k : Nat} {v : Int} (h : 9 ≤ k ∧ k ≤ 12) : F4 μ (wr μ 4 0 k v) := fun c i j a => if_neg fun z => a ⟨z.1, z.2.1, by omega⟩
theorem F4.c {μ μ' : Mem} {c : Nat} (h : F4 μ μ') (hc : c ≠ 4) : μ' c = μ c := by
  funext i k
  exact h c i k (by omega)
theorem F4.to {μ μ' : Mem} {n : Nat} (h : F4 μ μ') (hT : TO μ n) : TO μ' n := by
  unfold TO
  rw [h.c (c := 8) (by decide), h.c (c := 20) (by decide)]
  exact hT
theorem F4.by' {μ μ' : Mem} (h : F4 μ μ') : byC μ' = byC μ := by
  funext i
  unfold byC
  rw [h.c (c := 20) (by decide)]
theorem sp_byteAt {sc : Scr} {d t : Nat} {μ : Mem} {Q : Int → Mem → Prop} {n i : Nat} (hT : TO μ n) (h1 : i < n → Q (byC μ i) μ) (h0 : ¬ i < n → Q (-1) μ) : RMi sc (d + 1) 8002 [rfc 8 0, .inl (i : Int)] (t, 0, 0) μ Q := by
  have e := hT.1
  have e2 := hT.2.1
  refine m_8002 ⟨fun c => absurd c (by omega), fun _ => ⟨fun c => h0 (by omega), fun c => ⟨fun c2 => absurd c2 (by omega), fun c2 => ⟨by omega, ?_⟩⟩⟩⟩
  rw [Int.toNat_natCast]
  exact h1 (by omega)
theorem sp_isBl {sc : Scr} {d t : Nat} {μ : Mem} {Q : Int → Mem → Prop} {c : Int} (h1 : isBl c = true → Q 1 μ) (h0 : ¬ isBl c = true → Q 0 μ) : RMi sc (d + 1) 4004 [.inl c] (t, 0, 0) μ Q := by
  unfold isBl at h1 h0
  rw [decide_eq_true_iff] at h1 h0
  exact m_4004 ⟨fun z => h1 (by omega), fun z => ⟨fun z2 => h1 (by omega), fun z2 => ⟨fun z3 => h1 (by omega), fun z3 => ⟨fun z4 => h0 (by omega), fun z4 => h1 (by omega)⟩⟩⟩⟩
theorem sp_isLe {sc : Scr} {d t : Nat} {μ : Mem} {Q : Int → Mem → Prop} {c : Int} (h1 : isLe c = true → Q 1 μ) (h0 : ¬ isLe c = true → Q 0 μ) : RMi sc (d + 1) 4005 [.inl c] (t, 0, 0) μ Q := by
  unfold isLe at h1 h0
  rw [decide_eq_true_iff] at h1 h0
  exact m_4005 ⟨fun z => h0 (by omega), fun z => ⟨fun z2 => h0 (by omega), fun z2 => h1 (by omega)⟩⟩
theorem sp_isDi {sc : Scr} {d t : Nat} {μ : Mem} {Q : Int → Mem → Prop} {c : Int} (h1 : isDi c = true → Q 1 μ) (h0 : ¬ isDi c = true → Q 0 μ) : RMi sc (d + 1) 4009 [.inl c] (t, 0, 0) μ Q := by
  unfold isDi at h1 h0
  rw [decide_eq_true_iff] at h1 h0
  exact m_4009 ⟨fun z => h0 (by omega), fun z => ⟨fun z2 => h0 (by omega), fun z2 => h1 (by omega)⟩⟩
/-- behind the blanks -/
def skB (b : Nat → Int) (n i : Nat) : Nat := i + rnL isBl b n i
theorem sk_y {b : Nat → Int} {n i : Nat} (hi : i < n) (h : isBl (b i) = true) : skB b n i = skB b n (i + 1) := by
  unfold skB
  rw [run_y hi h]
  omega
theorem sk_n {b : Nat → Int} {n i : Nat} (h : ¬ isBl (b i) = true) : skB b n i = i := by
  unfold skB
  rw [run_n h]
  rfl
theorem L4003 {sc : Scr} {d t : Nat} {n : Nat} {μ : Mem} {P : Option AV → AS → Prop} (hT : TO μ n) (h : ∀ μ' j, F4 μ μ' → j ≤ n → (j < n → ¬ isBl (byC μ j) = true) → μ' 4 0 9 = (j : Int) → (∀ i, μ 4 0 9 = ((i : Nat) : Int) → j = skB (byC μ) n i) → R_4003 sc (d + 1) P t 44 [rfc 4 0, vx] [] μ') :
    ∀ (m i : Nat) (μ' : Mem), m + i = n → F4 μ μ' → μ' 4 0 9 = (i : Int) → (∀ k, μ 4 0 9 = ((k : Nat) : Int) → skB (byC μ) n k = skB (byC μ) n i) → R_4003 sc (d + 1) P t 0 [rfc 4 0, vx] [] μ' := by
  intro m
  induction m with
  | zero =>
    intro i μ' hi hF hc hk
    have hT' := hF.to hT
    have : i = n := by omega
    subst this
    refine m_4003_0 ⟨fun _ => h μ' i hF (Nat.le_refl _) (fun z => absurd z (by omega)) hc fun k e => ?_, fun z => absurd (by rw [hT'.1, hc]; exact Int.le_refl _) z⟩
    rw [hk k e]
    unfold skB
    rw [run_e (Nat.le_refl _)]
    rfl
  | succ m ih =>
    intro i μ' hi hF hc hk
    have hT' := hF.to hT
    have eb := hF.by'
    refine m_4003_0 ⟨fun z => absurd z (by rw [hT'.1, hc]; omega), fun _ => ?_⟩
    rw [hc]
    refine sp_byteAt hT' (fun z => ?_) (fun z => absurd (by omega) z)
    rw [eb]
    refine sp_isBl (fun y => ⟨fun w => absurd w (by decide), fun _ => ⟨by rw [hc]; have := hT.2.1; omega, ?_⟩⟩) (fun y => ⟨fun _ => h μ' i hF (by omega) (fun _ => y) hc fun k e => ?_, fun w => absurd rfl w⟩)
    · rw [hc]
      exact ih (i + 1) _ (by omega) (hF.trans (F4.w (by decide))) (wr_same _ _ _ _ _) fun k e => by rw [hk k e, sk_y (by omega) y]
    · rw [hk k e, sk_n y]
/-- letters: to their end -/
theorem L4006 {sc : Scr} {d t : Nat} {n s : Nat} {μ : Mem} {P : Option AV → AS → Prop} (hT : TO μ n) (h : ∀ μ', F4 μ μ' → (∀ k, k ≠ 9 → μ' 4 0 k = μ 4 0 k) → μ' 4 0 9 = ((s + rnL isLe (byC μ) n s : Nat) : Int) → R_4006 sc (d + 1) P t 44 [rfc 4 0] [] μ') :
    ∀ (m i : Nat) (μ' : Mem), m + i = n → F4 μ μ' → (∀ k, k ≠ 9 → μ' 4 0 k = μ 4 0 k) → μ' 4 0 9 = (i : Int) → i + rnL isLe (byC μ) n i = s + rnL isLe (byC μ) n s → R_4006 sc (d + 1) P t 0 [rfc 4 0] [] μ' := by
  intro m
  induction m with
  | zero =>
    intro i μ' hi hF ho hc hk
    have hT' := hF.to hT
    have : i = n := by omega
    subst this
    refine m_4006_0 ⟨fun _ => h μ' hF ho ?_, fun z => absurd (by rw [hT'.1, hc]; exact Int.le_refl _) z⟩
    rw [hc, ← hk, run_e (Nat.le_refl _)]
    rfl
  | succ m ih =>
    intro i μ' hi hF ho hc hk
    have hT' := hF.to hT
    have eb := hF.by'
    refine m_4006_0 ⟨fun z => absurd z (by rw [hT'.1, hc]; omega), fun _ => ?_⟩
    rw [hc]
    refine sp_byteAt hT' (fun z => ?_) (fun z => absurd (by omega) z)
    rw [eb]
    refine sp_isLe (fun y => ⟨fun w => absurd w (by decide), fun _ => ⟨by rw [hc]; have := hT.2.1; omega, ?_⟩⟩) (fun y => ⟨fun _ => h μ' hF ho ?_, fun w => absurd rfl w⟩)
    · rw [hc]
      refine ih (i + 1) _ (by omega) (hF.trans (F4.w (by decide))) (fun k hk2 => by rw [wr_k hk2]; exact ho k hk2) (wr_same _ _ _ _ _) ?_
      rw [← hk, run_y (by omega) y]
      omega
    · rw [hc, ← hk, run_n y]
      rfl
/-- the words of the class -/
theorem sp_strLen {sc : Scr} {d t : Nat} {μ : Mem} {Q : Int → Mem → Prop} {o : Nat} (ho : o < 10) (h : Q ((rlen 101 o : Nat) : Int) μ) : RMi sc (d + 2) 100001 [rfc 100 o] (t, 0, 0) μ Q := by
  refine m_100001 (m_100002 ?_)
  rw [(tb_wd o ho).2.1]
  exact h
theorem sp_charAt {sc : Scr} {d t : Nat} {μ : Mem} {Q : Int → Mem → Prop} {o j : Nat} (ho : o < 10) (hj : j < rlen 101 o) (h : Q (rom 101 o j) μ) : RMi sc (d + 4) 100003 [rfc 100 o, .inl (j : Int)] (t, 0, 0) μ Q := by
  have w := (tb_wd o ho).2.2.2 j hj
  have l := w.1
  unfold isLe at l
  rw [decide_eq_true_iff] at l
  refine m_100003 (m_100004 ⟨fun z => absurd z (by decide), fun _ => m_100006 (m_100005 (m_100007 ⟨fun z => absurd z (by omega), fun _ => ⟨fun _ => ?_, fun z => absurd (by omega) z⟩⟩))⟩)
  rw [Int.toNat_natCast, w.2]
  exact ⟨by omega, by omega, by omega, h⟩
/-- whether the letters at s, so many, are the o-th word -/
def spl (b : Nat → Int) (s l o : Nat) : Prop := rlen 101 o = l ∧ ∀ j, j < l → rom 101 o j = b (s + j)
theorem sp_spells {sc : Scr} {d t : Nat} {μ : Mem} {Q : Int → Mem → Prop} {n s l o : Nat} (ho : o < 10) (hT : TO μ n) (e11 : μ 4 0 11 = (s : Int)) (e12 : μ 4 0 12 = (l : Int)) (hsl : s + l ≤ n) (h1 : spl (byC μ) s l o → Q 1 μ) (h0 : ¬ spl (byC μ) s l o → Q 0 μ) : RMi sc (d + 5) 4008 [rfc 4 0, rfc 100 o] (t, 0, 0) μ Q := by
  have n2 := hT.2.1
  have r4 := (tb_wd o ho).1
  refine m_4008 (sp_strLen ho ⟨fun z => ?_, fun z => h0 fun y => z (by rw [e12, y.1])⟩)
  rw [e12] at z
  have el : rlen 101 o = l := by omega
  have lp : ∀ (m j : Nat), m + j = l → (∀ i, i < j → rom 101 o i = byC μ (s + i)) → R_4008 sc (d + 4) (PI t Q) t 15 [rfc 4 0, rfc 100 o, .inl (j : Int)] [] μ := by
    intro m
    induction m with
    | zero =>
      intro j hj ha
      exact m_4008_15 (sp_strLen ho ⟨fun _ => PI_mk (h1 ⟨el, fun i hi => ha i (by omega)⟩), fun y => absurd (by omega) y⟩)
    | succ m ih =>
      intro j hj ha
      refine m_4008_15 (sp_strLen ho ⟨fun y => absurd y (by omega), fun _ => sp_charAt ho (by omega) ?_⟩)
      rw [e11, show ((s : Int) + (j : Int)) = ((s + j : Nat) : Int) by omega]
      refine ⟨by omega, sp_byteAt hT (fun _ => ⟨fun y => ⟨by omega, ih (j + 1) (by omega) fun i hi => ?_⟩, fun y => PI_mk (h0 fun w => y (w.2 j (by omega)))⟩) (fun y => absurd (by omega) y)⟩
      by_cases q : i = j
      · rw [q]; exact y
      · exact ha i (by omega)
  exact lp l 0 (by omega) fun i hi => absurd hi (by omega)
