/-! MATHEMATICS, 76: the class reads a text -/
/-- what reading may change, class -/
def Frd (μ μ' : Mem) : Prop := ∀ c i k, ¬ (c = 4) → ¬ (21 ≤ c ∧ c ≤ 25) → ¬ (c = 1 ∧ i = 0 ∧ (k = 1 ∨ (5 ≤ k ∧ k ≤ 9))) → ¬ (c = 3) → ¬ (c = 9) → ¬ ((27 ≤ c ∧ c ≤ 30) ∧ i < 3) → ¬ (c = 0 ∧ i = 0 ∧ k = 11) → ¬ (c = 8 ∧ i = 0 ∧ k = 1) → ¬ (c = 6 ∧ k = 3) → μ' c i k = μ c i k
theorem Frd.trans {μ μ' μ'' : Mem} (h : Frd μ μ') (h2 : Frd μ' μ'') : Frd μ μ'' := fun c i k a1 a2 a3 a4 a5 a6 a7 a8 a9 => (h2 c i k a1 a2 a3 a4 a5 a6 a7 a8 a9).trans (h c i k a1 a2 a3 a4 a5 a6 a7 a8 a9)
theorem Frd.w {μ : Mem} {c i k : Nat} {v : Int} (h : (c = 3) ∨ (c = 0 ∧ i = 0 ∧ k = 11) ∨ (c = 8 ∧ i = 0 ∧ k = 1) ∨ (c = 6 ∧ k = 3)) : Frd μ (wr μ c i k v) := fun c' i' k' a1 a2 a3 a4 a5 a6 a7 a8 a9 => if_neg fun z => by
  obtain ⟨rfl, rfl, rfl⟩ := z
  omega
theorem Fz.r {μ μ' : Mem} (h : Fz μ μ') : Frd μ μ' := fun c i k a1 a2 _ _ _ _ _ _ _ => h c i k (fun z => a1 z.1) a2
theorem Ff.r {μ μ' : Mem} (h : Ff μ μ') : Frd μ μ' := fun c i k _ a2 a3 a4 a5 a6 _ _ _ => h c i k a3 (fun z => a4 z.1) a5 a6 (by omega)
/-- a text with a fault: nothing but the place and the tape; a reader's own -/
def RdBad (μ μ' : Mem) (n : Nat) : Prop := (∀ c i k, ¬ (c = 4 ∧ i = 0 ∧ 6 ≤ k ∧ k ≤ 12) → ¬ (21 ≤ c ∧ c ≤ 25) → ¬ (c = 0 ∧ i = 0 ∧ k = 11) → ¬ (c = 8 ∧ i = 0 ∧ k = 1) → μ' c i k = μ c i k) ∧ μ' 8 0 1 = 0 ∧ μ' 0 0 11 = ((stt (byC μ) n (vdC (byC μ) n).2 : Nat) : Int)
def RdGood (μ μ' : Mem) (n : Nat) : Prop := Frd μ μ' ∧ μ' 8 0 1 = 0 ∧ μ' 0 0 11 = -1 ∧ μ' 3 3 4 = 0 ∧ μ' 3 4 4 = 0 ∧ (∀ s, s < 3 → μ' 6 s 3 = 0) ∧ LCa μ' (byC μ) n (form (byC μ) n).2
theorem LCa.o {μ μ' : Mem} {b : Nat → Int} {n t : Nat} (h : LCa μ b n t) (e1 : μ' 1 = μ 1) (e3 : ∀ o, o < 3 → μ' 3 o = μ 3 o) (e9 : μ' 9 = μ 9) (ec : ∀ c, 27 ≤ c ∧ c ≤ 30 → μ' c = μ c) : LCa μ' b n t := by
  obtain ⟨a, bb, c, d, e⟩ := h
  refine ⟨a.e rfl (fun _ => rfl) (by rw [e1]) e9, bb.e rfl (fun _ => rfl) (fun _ => rfl) (fun _ => rfl) (fun _ => rfl) (by rw [e3 0 (by decide)]) (fun c hc => by rw [ec c hc]), c.e rfl (fun _ => rfl) (fun _ => rfl) (fun _ => rfl) (fun _ => rfl) (by rw [e3 1 (by decide)]) (fun c hc => by rw [ec c hc]), d.e rfl (fun _ => rfl) (fun _ => rfl) (fun _ => rfl) (fun _ => rfl) (by rw [e3 2 (by decide)]) (fun c hc => by rw [ec c hc]), ?_⟩
  unfold LN at *
  rw [e1]
  exact e
theorem sp_readC {sc : Scr} {d t : Nat} {μ : Mem} {Q : Int → Mem → Prop} {n : Nat} (hT : TO μ n) (h1 : (vdC (byC μ) n).1 ≠ 0 → ∀ μ', RdBad μ μ' n → Q (vdC (byC μ) n).1 μ') (h0 : (vdC (byC μ) n).1 = 0 → (form (byC μ) n).1 = 0 → ∀ μ', RdGood μ μ' n → Q 0 μ') : RMi sc (d + 11) 3 [rfc 0 0] (t, 0, 0) μ Q := by
  refine m_3 (sp_check hT fun μ1 C1 => ?_)
  obtain ⟨F1, c7, c8, c0⟩ := C1
  refine ⟨fun z => h1 z _ ⟨fun c i k a1 a2 a3 a4 => ?_, wr_same _ _ _ _ _, ?_⟩, fun z => ?_⟩
  · refine (if_neg fun y => a4 y).trans ((if_neg fun y => a3 y).trans (F1 c i k a1 a2))
  · rw [wr_c (by decide), wr_same]
    exact c8 z
  · have z' := Decidable.not_not.mp z
    obtain ⟨p8, pK, pT, pf⟩ := c0 z'
    obtain ⟨hO, -⟩ := form_out pf
    have Fw : Frd μ1 (wr μ1 0 0 11 (μ1 4 0 8)) := Frd.w (by omega)
    have Kw : Kept (wr μ1 0 0 11 (μ1 4 0 8)) (byC μ) n (form (byC μ) n).2 := by
      unfold Kept
      rw [wr_c (by decide), wr_c (by decide), wr_c (by decide), wr_c (by decide)]
      exact pK
    refine sp_fillLand (d := d + 6) Kw hO fun μ2 F2 L2 => ?_
    have e11 : μ2 0 0 11 = -1 := by
      rw [F2 0 0 11 (by omega) (by omega) (by omega) (by omega) (by omega), wr_same, p8]
    have lp : ∀ (m j : Nat) (q5 : AV) (μ' : Mem), m + j = 3 → Frd μ μ' → μ' 0 0 11 = -1 → μ' 3 3 4 = 0 → μ' 3 4 4 = 0 → (∀ s, s < j → μ' 6 s 3 = 0) → LCa μ' (byC μ) n (form (byC μ) n).2 → R_3 sc (d + 10) (PI t Q) t 61 [rfc 0 0, .inl (vdC (byC μ) n).1, rfc 37 0, .inl 3, .inl (j : Int), q5] [] μ' := by
      intro m
      induction m with
      | zero =>
        intro j q5 μ' hj hF a1 a2 a3 a4 aL
        have : j = 3 := by omega
        subst this
        refine m_3_61 ⟨fun _ => PI_mk ?_, fun y => absurd (by decide) y⟩
        rw [z']
        refine h0 z' pf _ ⟨hF.trans (Frd.w (by omega)), wr_same _ _ _ _ _, ?_, ?_, ?_, fun s hs => ?_, aL.o (wr_c (by decide)) (fun o _ => by rw [wr_c (by decide)]) (wr_c (by decide)) (fun c hc => wr_c (by omega))⟩
        · rw [wr_c (by decide)]; exact a1
        · rw [wr_c (by decide)]; exact a2
        · rw [wr_c (by decide)]; exact a3
        · rw [wr_c (by decide)]; exact a4 s hs
      | succ m ih =>
        intro j q5 μ' hj hF a1 a2 a3 a4 aL
        refine m_3_61 ⟨fun y => absurd y (by omega), fun _ => ⟨by omega, ?_⟩⟩
        rw [Int.toNat_natCast, rF_slot (by omega)]
        refine m_3_71 ⟨by omega, ih (j + 1) _ _ (by omega) (hF.trans (Frd.w (by omega))) (by rw [wr_c (by decide)]; exact a1) (by rw [wr_c (by decide)]; exact a2) (by rw [wr_c (by decide)]; exact a3) (fun s hs => ?_) (aL.o (wr_c (by decide)) (fun o _ => by rw [wr_c (by decide)]) (wr_c (by decide)) (fun c hc => wr_c (by omega)))⟩
        by_cases q : s = j
        · rw [q, wr_same]
        · rw [wr_i q]
          exact a4 s (by omega)
    refine lp 3 0 vx _ rfl ((((F1.r.trans Fw).trans F2.r).trans (Frd.w (by omega))).trans (Frd.w (by omega))) ?_ ?_ ?_ (fun s hs => absurd hs (by omega)) (L2.o ?_ (fun o ho => ?_) ?_ (fun c hc => ?_))
    · rw [wr_c (by decide), wr_c (by decide)]; exact e11
    · rw [wr_i (by decide), wr_same]
    · rw [wr_same]
    · rw [wr_c (by decide), wr_c (by decide)]
    · rw [wr_i (by omega), wr_i (by omega)]
    · rw [wr_c (by decide), wr_c (by decide)]
    · rw [wr_c (by omega), wr_c (by omega)]
