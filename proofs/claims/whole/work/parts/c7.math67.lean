/-! MATHEMATICS, 67: the class cuts a token, whole -/
def kwC (v : Int) : Int := if v = kwd 0 then 7 else if v = kwd 1 then 5 else if v = kwd 2 then 6 else if v = kwd 3 then 8 else if v = kwd 4 then 9 else if v = kwd 5 then 10 else if v = kwd 6 then 11 else if v = kwd 7 then 12 else if v = kwd 8 then 13 else if v = kwd 9 then 14 else 2
theorem nmN_c {b b' : Nat → Int} {i i' : Nat} : ∀ {l : Nat}, (∀ k, k < l → b (i + k) = b' (i' + k)) → nmN b i l = nmN b' i' l
  | 0, _ => rfl
  | l + 1, h => by
    rw [nmN_s, nmN_s, nmN_c fun k hk => h k (by omega), h l (by omega)]
theorem spl_nm {b : Nat → Int} {s l o : Nat} (ho : o < 10) (hl : l ≤ 8) (ha : ∀ k, k < l → isLe (b (s + k)) = true) : spl b s l o ↔ nmN b s l = kwd o := by
  obtain ⟨w1, w2, w3, w4⟩ := tb_wd o ho
  constructor
  · intro ⟨h1, h2⟩
    rw [← w3, h1]
    exact nmN_c fun k hk => by rw [Nat.zero_add]; exact (h2 k hk).symm
  · intro h
    rw [← w3] at h
    obtain ⟨e1, e2⟩ := nmN_inj (b := b) (b' := fun j => rom 101 o j) (i := s) (i' := 0) hl (by omega) ha (fun k hk => by rw [Nat.zero_add]; exact (w4 k hk).1) h
    refine ⟨e1.symm, fun j hj => ?_⟩
    have := e2 j hj
    rw [Nat.zero_add] at this
    exact this.symm
theorem sp_kindOf {sc : Scr} {d t : Nat} {μ : Mem} {Q : Int → Mem → Prop} {n s l : Nat} (hT : TO μ n) (e11 : μ 4 0 11 = (s : Int)) (e12 : μ 4 0 12 = (l : Int)) (hsl : s + l ≤ n) (hl : l ≤ 8) (ha : ∀ k, k < l → isLe (byC μ (s + k)) = true) (h : Q (kwC (nmN (byC μ) s l)) μ) : RMi sc (d + 6) 4007 [rfc 4 0] (t, 0, 0) μ Q := by
  unfold kwC at h
  have w := fun o ho => spl_nm (b := byC μ) (s := s) (l := l) (o := o) ho hl ha
  have S : ∀ (o : Nat) (Q' : Int → Mem → Prop), o < 10 → (nmN (byC μ) s l = kwd o → Q' 1 μ) → (¬ nmN (byC μ) s l = kwd o → Q' 0 μ) → RMi sc (d + 5) 4008 [rfc 4 0, rfc 100 o] (t, 0, 0) μ Q' := fun o Q' ho a b => sp_spells ho hT e11 e12 hsl (fun z => a ((w o ho).mp z)) (fun z => b fun y => z ((w o ho).mpr y))
  refine m_4007 (S 0 _ (by decide) (fun z => ⟨fun y => absurd y (by decide), fun _ => ?_⟩) (fun z0 => ⟨fun _ => S 1 _ (by decide) (fun z => ⟨fun y => absurd y (by decide), fun _ => ?_⟩) (fun z1 => ⟨fun _ => S 2 _ (by decide) (fun z => ⟨fun y => absurd y (by decide), fun _ => ?_⟩) (fun z2 => ⟨fun _ => S 3 _ (by decide) (fun z => ⟨fun y => absurd y (by decide), fun _ => ?_⟩) (fun z3 => ⟨fun _ => S 4 _ (by decide) (fun z => ⟨fun y => absurd y (by decide), fun _ => ?_⟩) (fun z4 => ⟨fun _ => S 5 _ (by decide) (fun z => ⟨fun y => absurd y (by decide), fun _ => ?_⟩) (fun z5 => ⟨fun _ => S 6 _ (by decide) (fun z => ⟨fun y => absurd y (by decide), fun _ => ?_⟩) (fun z6 => ⟨fun _ => S 7 _ (by decide) (fun z => ⟨fun y => absurd y (by decide), fun _ => ?_⟩) (fun z7 => ⟨fun _ => S 8 _ (by decide) (fun z => ⟨fun y => absurd y (by decide), fun _ => ?_⟩) (fun z8 => ⟨fun _ => S 9 _ (by decide) (fun z => ⟨fun y => absurd y (by decide), fun _ => ?_⟩) (fun z9 => ⟨fun _ => ?_, fun y => absurd rfl y⟩), fun y => absurd rfl y⟩), fun y => absurd rfl y⟩), fun y => absurd rfl y⟩), fun y => absurd rfl y⟩), fun y => absurd rfl y⟩), fun y => absurd rfl y⟩), fun y => absurd rfl y⟩), fun y => absurd rfl y⟩), fun y => absurd rfl y⟩))
  · rw [if_pos z] at h
    exact h
  · rw [if_neg z0, if_pos z] at h
    exact h
  · rw [if_neg z0, if_neg z1, if_pos z] at h
    exact h
  · rw [if_neg z0, if_neg z1, if_neg z2, if_pos z] at h
    exact h
  · rw [if_neg z0, if_neg z1, if_neg z2, if_neg z3, if_pos z] at h
    exact h
  · rw [if_neg z0, if_neg z1, if_neg z2, if_neg z3, if_neg z4, if_pos z] at h
    exact h
  · rw [if_neg z0, if_neg z1, if_neg z2, if_neg z3, if_neg z4, if_neg z5, if_pos z] at h
    exact h
  · rw [if_neg z0, if_neg z1, if_neg z2, if_neg z3, if_neg z4, if_neg z5, if_neg z6, if_pos z] at h
    exact h
  · rw [if_neg z0, if_neg z1, if_neg z2, if_neg z3, if_neg z4, if_neg z5, if_neg z6, if_neg z7, if_pos z] at h
    exact h
  · rw [if_neg z0, if_neg z1, if_neg z2, if_neg z3, if_neg z4, if_neg z5, if_neg z6, if_neg z7, if_neg z8, if_pos z] at h
    exact h
  · rw [if_neg z0, if_neg z1, if_neg z2, if_neg z3, if_neg z4, if_neg z5, if_neg z6, if_neg z7, if_neg z8, if_neg z9] at h
    exact h
/-- a token at s, behind the blanks: its kind, its value, its length -/
def tkK (b : Nat → Int) (n s : Nat) : Int := if n ≤ s then 1 else if isLe (b s) = true then (if 8 < rnL isLe b n s then 0 else kwC (nmN b s (rnL isLe b n s))) else if isDi (b s) = true then (if 4 < rnL isDi b n s then 0 else 3) else if b s = 59 then 4 else 0
def tkV (b : Nat → Int) (n s : Nat) : Int := if n ≤ s then 0 else if isLe (b s) = true then ((rnL isLe b n s : Nat) : Int) else if isDi (b s) = true then dvN b s (rnL isDi b n s) else 0
def tkL (b : Nat → Int) (n s : Nat) : Nat := if n ≤ s then 0 else if isLe (b s) = true then rnL isLe b n s else if isDi (b s) = true then rnL isDi b n s else 1
def Tkn (μ : Mem) (b : Nat → Int) (n s : Nat) : Prop := μ 4 0 9 = ((s + tkL b n s : Nat) : Int) ∧ μ 4 0 10 = tkK b n s ∧ μ 4 0 11 = (s : Int) ∧ μ 4 0 12 = tkV b n s
theorem sp_letters {sc : Scr} {d t : Nat} {μ : Mem} {Q : Mem → Prop} {n s : Nat} (hT : TO μ n) (hs : s < n) (hl : isLe (byC μ s) = true) (e9 : μ 4 0 9 = (s : Int)) (e11 : μ 4 0 11 = (s : Int)) (h : ∀ μ', F4 μ μ' → Tkn μ' (byC μ) n s → Q μ') : RMv sc (d + 7) 4006 [rfc 4 0] (t, 0, 0) μ Q := by
  have hle := run_le isLe (byC μ) (n := n) (i := s) (by omega)
  have n2 := hT.2.1
  have K : tkK (byC μ) n s = (if 8 < rnL isLe (byC μ) n s then 0 else kwC (nmN (byC μ) s (rnL isLe (byC μ) n s))) := by unfold tkK; rw [if_neg (by omega), if_pos hl]
  have V : tkV (byC μ) n s = ((rnL isLe (byC μ) n s : Nat) : Int) := by unfold tkV; rw [if_neg (by omega), if_pos hl]
  have L : tkL (byC μ) n s = rnL isLe (byC μ) n s := by unfold tkL; rw [if_neg (by omega), if_pos hl]
  have fin : ∀ μ', F4 μ μ' → (∀ k, k ≠ 9 → μ' 4 0 k = μ 4 0 k) → μ' 4 0 9 = ((s + rnL isLe (byC μ) n s : Nat) : Int) → R_4006 sc (d + 6) (PV t Q) t 44 [rfc 4 0] [] μ' := by
    intro μ' hF ho hc
    have e11' : μ' 4 0 11 = (s : Int) := by rw [ho 11 (by decide)]; exact e11
    have hF2 : F4 μ (wr μ' 4 0 12 ((rnL isLe (byC μ) n s : Nat) : Int)) := hF.trans (F4.w (by decide))
    refine m_4006_44 ?_
    rw [hc, e11', show ((s + rnL isLe (byC μ) n s : Nat) : Int) - (s : Int) = ((rnL isLe (byC μ) n s : Nat) : Int) by omega, wr_same]
    have c9 : (wr μ' 4 0 12 ((rnL isLe (byC μ) n s : Nat) : Int)) 4 0 9 = ((s + rnL isLe (byC μ) n s : Nat) : Int) := by rw [wr_k (by decide)]; exact hc
    have c11 : (wr μ' 4 0 12 ((rnL isLe (byC μ) n s : Nat) : Int)) 4 0 11 = (s : Int) := by rw [wr_k (by decide)]; exact e11'
    have c12 : (wr μ' 4 0 12 ((rnL isLe (byC μ) n s : Nat) : Int)) 4 0 12 = ((rnL isLe (byC μ) n s : Nat) : Int) := wr_same _ _ _ _ _
    have ebb := hF2.by'
    have hT2 := hF2.to hT
    generalize (wr μ' 4 0 12 ((rnL isLe (byC μ) n s : Nat) : Int)) = ν at *
    refine ⟨by omega, fun z => ?_, fun z => PV_mk (h _ (hF2.trans (F4.w (by decide))) ⟨?_, ?_, ?_, ?_⟩)⟩
    · refine sp_kindOf hT2 c11 c12 (by omega) (by omega) (fun k hk => ?_) (PV_mk (h _ (hF2.trans (F4.w (by decide))) ⟨?_, ?_, ?_, ?_⟩))
      · rw [ebb]
        exact run_in (n - s) s k (by omega) hk
      · rw [wr_k (by decide), L]; exact c9
      · rw [wr_same, K, if_neg (by omega), ebb]
      · rw [wr_k (by decide)]; exact c11
      · rw [wr_k (by decide), V]; exact c12
    · rw [wr_k (by decide), L]; exact c9
    · rw [wr_same, K, if_pos (by omega)]
    · rw [wr_k (by decide)]; exact c11
    · rw [wr_k (by decide), V]; exact c12
  refine m_4006 ⟨fun z => absurd z (by rw [hT.1, e9]; omega), fun _ => ?_⟩
  rw [e9]
  refine sp_byteAt hT (fun _ => sp_isLe (fun y => ⟨fun w => absurd w (by decide), fun _ => ⟨by rw [e9]; omega, ?_⟩⟩) (fun y => absurd hl y)) (fun z => absurd hs z)
  rw [e9]
  exact L4006 (μ := μ) (s := s) hT fin (n - (s + 1)) (s + 1) _ (by omega) (F4.w (by decide)) (fun k hk => wr_k hk) (wr_same _ _ _ _ _) (by rw [run_y hs hl]; omega)
theorem L4010 {sc : Scr} {d t : Nat} {n s : Nat} {μ : Mem} {P : Option AV → AS → Prop} (hT : TO μ n) (e11 : μ 4 0 11 = (s : Int)) (h : ∀ μ', F4 μ μ' → μ' 4 0 11 = (s : Int) → μ' 4 0 9 = ((s + rnL isDi (byC μ) n s : Nat) : Int) → μ' 4 0 12 = dvN (byC μ) s (rnL isDi (byC μ) n s) → R_4010 sc (d + 1) P t 83 [rfc 4 0] [] μ') :
    ∀ (m l : Nat) (μ' : Mem), m + (s + l) = n → F4 μ μ' → μ' 4 0 11 = (s : Int) → μ' 4 0 9 = ((s + l : Nat) : Int) → μ' 4 0 12 = dvN (byC μ) s l → (∀ k, k < l → isDi (byC μ (s + k)) = true) → l + rnL isDi (byC μ) n (s + l) = rnL isDi (byC μ) n s → R_4010 sc (d + 1) P t 0 [rfc 4 0] [] μ' := by
  intro m
  induction m with
  | zero =>
    intro l μ' hl hF h11 h9 h12 ha hk
    have hT' := hF.to hT
    rw [run_e (by omega), Nat.add_zero] at hk
    refine m_4010_0 ⟨fun _ => h μ' hF h11 (by rw [h9, ← hk]) (by rw [h12, ← hk]), fun z => absurd (by rw [hT'.1, h9]; omega) z⟩
  | succ m ih =>
    intro l μ' hl hF h11 h9 h12 ha hk
    have hT' := hF.to hT
    have eb := hF.by'
    have n2 := hT.2.1
    refine m_4010_0 ⟨fun z => absurd z (by rw [hT'.1, h9]; omega), fun _ => ?_⟩
    rw [h9]
    refine sp_byteAt hT' (fun _ => ?_) (fun z => absurd (by omega) z)
    rw [eb]
    refine sp_isDi (fun y => ⟨fun w => absurd w (by decide), fun _ => ?_⟩) (fun y => ⟨fun _ => h μ' hF h11 (by rw [h9, ← hk, run_n y]; rfl) (by rw [h12, ← hk, run_n y]; rfl), fun w => absurd rfl w⟩)
    have hk' : (l + 1) + rnL isDi (byC μ) n (s + (l + 1)) = rnL isDi (byC μ) n s := by
      rw [← hk, run_y (by omega) y]
      rw [show s + (l + 1) = s + l + 1 by omega]
      omega
    have ha' : ∀ k, k < l + 1 → isDi (byC μ (s + k)) = true := fun k hk => by
      by_cases q : k = l
      · rw [q]; exact y
      · exact ha k (by omega)
    have bd := dvN_b ha
    have y' := y
    unfold isDi at y'
    rw [decide_eq_true_iff] at y'
    rw [h9, h11, h12]
    refine ⟨by omega, fun z => ⟨by omega, ih (l + 1) _ (by omega) (hF.trans (F4.w (by decide))) ?_ ?_ ?_ ha' hk'⟩, fun z => ⟨by omega, sp_byteAt hT' (fun _ => ?_) (fun w => absurd (by omega) w)⟩⟩
    · rw [wr_k (by decide)]; exact h11
    · rw [wr_same]; omega
    · rw [wr_k (by decide), h12, dvN_s, if_neg (by omega)]
    · rw [eb]
      have w9 : ∀ v, (wr μ' 4 0 12 v) 4 0 9 = ((s + l : Nat) : Int) := fun v => by rw [wr_k (by decide)]; exact h9
      rw [w9]
      refine ⟨by omega, by omega, by omega, ih (l + 1) _ (by omega) ((hF.trans (F4.w (by decide))).trans (F4.w (by decide))) ?_ ?_ ?_ ha' hk'⟩
      · rw [wr_k (by decide), wr_k (by decide)]; exact h11
      · rw [wr_same]; omega
      · rw [wr_k (by decide), wr_same, dvN_s, if_pos (by omega)]
theorem sp_digits {sc : Scr} {d t : Nat} {μ : Mem} {Q : Mem → Prop} {n s : Nat} (hT : TO μ n) (hs : s < n) (hnl : ¬ isLe (byC μ s) = true) (hl : isDi (byC μ s) = true) (e9 : μ 4 0 9 = (s : Int)) (e11 : μ 4 0 11 = (s : Int)) (e12 : μ 4 0 12 = 0) (h : ∀ μ', F4 μ μ' → Tkn μ' (byC μ) n s → Q μ') : RMv sc (d + 2) 4010 [rfc 4 0] (t, 0, 0) μ Q := by
  have hle := run_le isDi (byC μ) (n := n) (i := s) (by omega)
  have n2 := hT.2.1
  have K : tkK (byC μ) n s = (if 4 < rnL isDi (byC μ) n s then 0 else 3) := by unfold tkK; rw [if_neg (by omega), if_neg hnl, if_pos hl]
  have V : tkV (byC μ) n s = dvN (byC μ) s (rnL isDi (byC μ) n s) := by unfold tkV; rw [if_neg (by omega), if_neg hnl, if_pos hl]
  have L : tkL (byC μ) n s = rnL isDi (byC μ) n s := by unfold tkL; rw [if_neg (by omega), if_neg hnl, if_pos hl]
  have fin : ∀ μ', F4 μ μ' → μ' 4 0 11 = (s : Int) → μ' 4 0 9 = ((s + rnL isDi (byC μ) n s : Nat) : Int) → μ' 4 0 12 = dvN (byC μ) s (rnL isDi (byC μ) n s) → R_4010 sc (d + 1) (PV t Q) t 83 [rfc 4 0] [] μ' := by
    intro μ' hF h11 h9 h12
    refine m_4010_83 ?_
    rw [h9, h11]
    refine ⟨by omega, fun z => PV_mk (h _ (hF.trans (F4.w (by decide))) ⟨?_, ?_, ?_, ?_⟩), fun z => PV_mk (h _ (hF.trans (F4.w (by decide))) ⟨?_, ?_, ?_, ?_⟩)⟩
    · rw [wr_k (by decide), L]; exact h9
    · rw [wr_same, K, if_neg (by omega)]
    · rw [wr_k (by decide)]; exact h11
    · rw [wr_k (by decide), V]; exact h12
    · rw [wr_k (by decide), L]; exact h9
    · rw [wr_same, K, if_pos (by omega)]
    · rw [wr_k (by decide)]; exact h11
    · rw [wr_k (by decide), V]; exact h12
  have y' := hl
  unfold isDi at y'
  rw [decide_eq_true_iff] at y'
  refine m_4010 ⟨fun z => absurd z (by rw [hT.1, e9]; omega), fun _ => ?_⟩
  rw [e9]
  refine sp_byteAt hT (fun _ => sp_isDi (fun y => ⟨fun w => absurd w (by decide), fun _ => ?_⟩) (fun y => absurd hl y)) (fun z => absurd hs z)
  rw [e9, e11, e12]
  refine ⟨by omega, fun z => absurd z (by omega), fun z => ⟨by omega, sp_byteAt hT (fun _ => ?_) (fun w => absurd hs w)⟩⟩
  have w9 : ∀ v, (wr μ 4 0 12 v) 4 0 9 = (s : Int) := fun v => by rw [wr_k (by decide)]; exact e9
  rw [w9]
  refine ⟨by omega, by omega, by omega, L4010 (μ := μ) (s := s) hT e11 fin (n - (s + 1)) 1 _ (by omega) ((F4.w (by decide)).trans (F4.w (by decide))) ?_ ?_ ?_ (fun k hk => ?_) (by rw [run_y hs hl]; omega)⟩
  · rw [wr_k (by decide), wr_k (by decide)]; exact e11
  · rw [wr_same]; omega
  · rw [wr_k (by decide), wr_same]
    show _ = (if 0 < 4 then 10 * dvN (byC μ) s 0 + byC μ (s + 0) - 48 else dvN (byC μ) s 0)
    rw [if_pos (by decide)]
    rfl
  · rw [show k = 0 by omega]; exact hl
