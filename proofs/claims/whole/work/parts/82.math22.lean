/-! MATHEMATICS, 22: the class's list -/
def LCl (μ : Mem) (L : Lst) : Prop := μ 5 0 4 = (L.2 : Int) ∧ ∀ i, i < L.2 → xE μ i = L.1 i
/-- changed: only the spots but the ends, and the list -/
def Fc (μ μ' : Mem) : Prop := ∀ c i k, ¬ (c = 7 ∧ 2 ≤ i) → c ≠ 5 → ¬ (31 ≤ c ∧ c ≤ 34) → μ' c i k = μ c i k
theorem Fc.rfl {μ : Mem} : Fc μ μ := fun _ _ _ _ _ _ => Eq.refl _
theorem Fc.trans {μ μ' μ'' : Mem} (h : Fc μ μ') (h2 : Fc μ' μ'') : Fc μ μ'' := fun c i k a b e => (h2 c i k a b e).trans (h c i k a b e)
theorem Fun2.fc {μ μ' : Mem} (h : Fun2 μ μ') : Fc μ μ' := fun c i k a b e => h c i k (by omega)
theorem Fsp.fc {μ μ' : Mem} (h : Fsp μ μ') : Fc μ μ' := fun c i k a b e => h c i k (by omega)
theorem FR.fc {μ μ' : Mem} (h : FR μ μ') : Fc μ μ' := fun c i k a b e => congrFun (congrFun (h c e b) i) k
theorem Fc.c {μ μ' : Mem} {c : Nat} (h : Fc μ μ') (h7 : c ≠ 7) (h5 : c ≠ 5) (h3 : ¬ (31 ≤ c ∧ c ≤ 34)) : μ' c = μ c := by
  funext i k
  exact h c i k (by omega) h5 h3
theorem Fc.spn {μ μ' : Mem} {px py qx qy : Int} (h : Fc μ μ') (hs : Spn μ px py qx qy) : Spn μ' px py qx qy := by
  unfold Spn at *
  rw [h 7 0 0 (by omega) (by decide) (by omega), h 7 0 1 (by omega) (by decide) (by omega), h 7 0 2 (by omega) (by decide) (by omega), h 7 1 0 (by omega) (by decide) (by omega), h 7 1 1 (by omega) (by decide) (by omega), h 7 1 2 (by omega) (by decide) (by omega)]
  exact hs
theorem LCl.f2 {μ μ' : Mem} {L : Lst} (h : Fun2 μ μ') (hL : LCl μ L) : LCl μ' L := by
  unfold LCl xE at *
  rw [h 5 0 4 (by omega)]
  refine ⟨hL.1, fun i hi => ?_⟩
  rw [h 31 0 i (by omega), h 32 0 i (by omega), h 33 0 i (by omega), h 34 0 i (by omega)]
  exact hL.2 i hi
theorem LCl.fs {μ μ' : Mem} {L : Lst} (h : Fsp μ μ') (hL : LCl μ L) : LCl μ' L := by
  unfold LCl xE at *
  rw [h 5 0 4 (by omega)]
  refine ⟨hL.1, fun i hi => ?_⟩
  rw [h 31 0 i (by omega), h 32 0 i (by omega), h 33 0 i (by omega), h 34 0 i (by omega)]
  exact hL.2 i hi
/-- the land is as it may be -/
def CO (μ : Mem) : Prop := (∀ k, k < 9 → μ 9 k 5 ≠ 0 → Wok μ k ∧ (0 ≤ μ 9 k 4 ∧ μ 9 k 4 ≤ 99)) ∧ (1 ≤ μ 1 0 7 ∧ μ 1 0 7 ≤ 99) ∧ (1 ≤ μ 1 0 8 ∧ μ 1 0 8 ≤ 99)
theorem CO.fc {μ μ' : Mem} (h : Fc μ μ') (hC : CO μ) : CO μ' := by
  unfold CO Wok at *
  rw [h.c (c := 9) (by decide) (by decide) (by decide), h.c (c := 1) (by decide) (by decide) (by decide)]
  exact hC
/-- what comes after a way is open -/
theorem one_tail {sc : Scr} {d t : Nat} {μ : Mem} {Q : Mem → Prop} {L : Lst} {sq n soft s : Int} (hL : LCl μ L) (hN : L.2 < 82) (hC : CO μ) (h0 : 0 ≤ sq) (h1 : sq < 4000000)
    (h : ∀ μ', FR μ μ' → LCl μ' (addE L (en (μ 1 0 7) (μ 1 0 8) s sq soft n)) → Q μ') :
    RMi sc (d + 2) 1007 [rfc 1 0, .inr (.inl sq)] (t, 0, 0) μ (fun v4 μ4 => RMl sc (d + 2) 15 [.inr (.inl sq)] (t, 0, 0) μ4 (fun v5 μ5 => (InI v5) ∧ (RMv sc (d + 2) 5001 [rfc 5 0, .inl n, .inl v4, .inl (lvl (μ 1 0 8) s sq soft), .inl v5] (t, 0, 0) μ5 (fun μ6 => Q μ6)))) := by
  have hr : rt sq ≤ 2000 := rt_le h0 (by omega) (by decide)
  have hr0 := rt_nn sq
  refine sp_timeOf (by omega) h1 hC.2.1.1 ?_
  rw [if_neg (by omega)]
  refine sp_root h0 (by omega) ⟨by omega, sp_insert hN hL.1 fun μ' hF hi h4 => h μ' hF ⟨?_, fun i hi' => ?_⟩⟩
  · rw [h4]
    unfold addE
    simp
  · have hi2 : i ≤ L.2 := by
      unfold addE at hi'
      simp only [] at hi'
      omega
    rw [hi i hi2]
    unfold addE en
    simp only []
    exact insE_c hL.2 hi2
theorem sp_one0 {sc : Scr} {d t : Nat} {μ : Mem} {Q : Mem → Prop} {L : Lst} {px py qx qy s : Int} (hC : CO μ) (hL : LCl μ L) (hN : L.2 < 82) (hp : Pl px py) (hq : Pl qx qy) (hs : Spn μ px py qx qy) (bs : 0 ≤ s ∧ s ≤ 99)
    (h : ∀ μ', Fc μ μ' → LCl μ' (st0 (μ 9) (μ 1 0 7) (μ 1 0 8) s px py qx qy L) → Q μ') : RMv sc (d + 3) 10003 [rfc 10 0, rfn, rfn, .inl 0, .inl s, rfc 5 0] (t, 0, 0) μ Q := by
  have sb := sqw_bd (wy0_bd hp hq)
  refine m_10003 (sp_unfold0 hp hq hs fun μ1 F1 r0 r1 => ?_)
  have e9 : μ1 9 = μ 9 := F1.fc.c (by decide) (by decide) (by decide)
  have e1 : μ1 1 = μ 1 := F1.fc.c (by decide) (by decide) (by decide)
  have C1 := hC.fc F1.fc
  have L1 := hL.f2 F1
  refine sp_loud0 sb.1 (by omega) (by have := C1.2.2; omega) bs ⟨fun c => h _ F1.fc ?_, fun c => sp_isOpen0 (fun k hk h5 => (C1.1 k hk h5).1) (wy0_bd hp hq) r0 r1 (fun o μ2 F2 => ⟨fun z => absurd z (by decide), fun _ => ?_⟩) (fun o μ2 F2 => ⟨fun _ => h _ (F1.fc.trans F2.fc) ?_, fun z => absurd rfl z⟩)⟩
  · unfold st0
    rw [ic_f]
    · exact L1
    · rw [e1] at c
      omega
  · have e12 : μ2 1 = μ1 1 := F2.fc.c (by decide) (by decide) (by decide)
    rw [← e12]
    refine one_tail (L1.fs F2) hN (C1.fc F2.fc) sb.1 (by omega) fun μ3 F3 hL3 => h _ ((F1.fc.trans F2.fc).trans F3.fc) ?_
    unfold st0
    rw [ic_t]
    · rw [e12, e1] at hL3
      exact hL3
    · rw [e9] at o
      rw [e1] at c
      exact ⟨o, by omega⟩
  · unfold st0
    rw [ic_f]
    · exact L1.fs F2
    · rw [e9] at o
      exact fun z => o z.1
theorem sp_one1 {sc : Scr} {d t : Nat} {μ : Mem} {Q : Mem → Prop} {L : Lst} {px py qx qy s n : Int} {a : Nat} (en' : n = 10 + (a : Int)) (ha : a < 9) (ta : μ 9 a 5 ≠ 0) (hC : CO μ) (hL : LCl μ L) (hN : L.2 < 82) (hp : Pl px py) (hq : Pl qx qy) (hs : Spn μ px py qx qy) (bs : 0 ≤ s ∧ s ≤ 99)
    (h : ∀ μ', Fc μ μ' → LCl μ' (st1 (μ 9) (μ 1 0 7) (μ 1 0 8) s px py qx qy a L) → Q μ') : RMv sc (d + 3) 10003 [rfc 10 0, rfc 9 a, rfn, .inl n, .inl s, rfc 5 0] (t, 0, 0) μ Q := by
  have wa := hC.1 a ha ta
  have wb := wy1_bd (g := μ 9) wa.1 hp hq
  have sb := sqw_bd wb
  refine m_10003 (sp_unfold1 wa.1 hp hq hs fun μ1 F1 r0 r3 r1 => ?_)
  have e9 : μ1 9 = μ 9 := F1.fc.c (by decide) (by decide) (by decide)
  have e1 : μ1 1 = μ 1 := F1.fc.c (by decide) (by decide) (by decide)
  have C1 := hC.fc F1.fc
  have L1 := hL.f2 F1
  refine sp_loud1 sb.1 (by omega) (by have := C1.2.2; omega) bs (by rw [e9]; exact wa.2) ⟨fun c => h _ F1.fc ?_, fun c => sp_isOpen1 (w := wy1 (μ 9) px py qx qy a) (fun k hk h5 => (C1.1 k hk h5).1) (C1.1 a ha (by rw [e9]; exact ta)).1 wb r0 r3 (by rw [e9]; exact r1) (fun o μ2 F2 _ => ⟨fun z => absurd z (by decide), fun _ => ?_⟩) (fun o μ2 F2 => ⟨fun _ => h _ (F1.fc.trans F2.fc) ?_, fun z => absurd rfl z⟩)⟩
  · unfold st1
    rw [ic_f]
    · exact L1
    · rw [e1, e9] at c
      omega
  · have e12 : μ2 1 = μ1 1 := F2.fc.c (by decide) (by decide) (by decide)
    rw [← e12, e9]
    refine one_tail (L1.fs F2) hN (C1.fc F2.fc) sb.1 (by omega) fun μ3 F3 hL3 => h _ ((F1.fc.trans F2.fc).trans F3.fc) ?_
    unfold st1
    rw [ic_t]
    · rw [e12, e1, en'] at hL3
      exact hL3
    · rw [e9] at o
      rw [e1, e9] at c
      exact ⟨o, by omega⟩
  · unfold st1
    rw [ic_f]
    · exact L1.fs F2
    · rw [e9] at o
      exact fun z => o z.1
theorem sp_one2 {sc : Scr} {d t : Nat} {μ : Mem} {Q : Mem → Prop} {L : Lst} {px py qx qy s n : Int} {a b : Nat} (en' : n = (100 + 10 * (a : Int)) + (b : Int)) (ha : a < 9) (ta : μ 9 a 5 ≠ 0) (hb : b < 9) (tb : μ 9 b 5 ≠ 0) (hC : CO μ) (hL : LCl μ L) (hN : L.2 < 82) (hp : Pl px py) (hq : Pl qx qy) (hs : Spn μ px py qx qy) (bs : 0 ≤ s ∧ s ≤ 99)
    (h : ∀ μ', Fc μ μ' → LCl μ' (st2 (μ 9) (μ 1 0 7) (μ 1 0 8) s px py qx qy a b L) → Q μ') : RMv sc (d + 3) 10003 [rfc 10 0, rfc 9 a, rfc 9 b, .inl n, .inl s, rfc 5 0] (t, 0, 0) μ Q := by
  have wa := hC.1 a ha ta
  have wb' := hC.1 b hb tb
  have wb := wy2_bd (g := μ 9) wa.1 wb'.1 hp hq
  have sb := sqw_bd wb
  refine m_10003 (sp_unfold2 wa.1 wb'.1 hp hq hs fun μ1 F1 r0 r3 r2 r1 => ?_)
  have e9 : μ1 9 = μ 9 := F1.fc.c (by decide) (by decide) (by decide)
  have e1 : μ1 1 = μ 1 := F1.fc.c (by decide) (by decide) (by decide)
  have C1 := hC.fc F1.fc
  have L1 := hL.f2 F1
  refine sp_loud2 sb.1 (by omega) (by have := C1.2.2; omega) bs (by rw [e9]; exact wa.2) (by rw [e9]; exact wb'.2) ⟨fun c => h _ F1.fc ?_, fun c => sp_isOpen2 (w := wy2 (μ 9) px py qx qy a b) (fun k hk h5 => (C1.1 k hk h5).1) (C1.1 a ha (by rw [e9]; exact ta)).1 (C1.1 b hb (by rw [e9]; exact tb)).1 wb r0 r3 (by rw [e9]; exact r2) (by rw [e9]; exact r1) (fun o μ2 F2 _ _ => ⟨fun z => absurd z (by decide), fun _ => ?_⟩) (fun o μ2 F2 => ⟨fun _ => h _ (F1.fc.trans F2.fc) ?_, fun z => absurd rfl z⟩)⟩
  · unfold st2
    rw [ic_f]
    · exact L1
    · rw [e1, e9] at c
      omega
  · have e12 : μ2 1 = μ1 1 := F2.fc.c (by decide) (by decide) (by decide)
    rw [← e12, e9]
    refine one_tail (L1.fs F2) hN (C1.fc F2.fc) sb.1 (by omega) fun μ3 F3 hL3 => h _ ((F1.fc.trans F2.fc).trans F3.fc) ?_
    unfold st2
    rw [ic_t]
    · rw [e12, e1, en'] at hL3
      exact hL3
    · rw [e9] at o
      rw [e1, e9] at c
      exact ⟨o, by omega⟩
  · unfold st2
    rw [ic_f]
    · exact L1.fs F2
    · rw [e9] at o
      exact fun z => o z.1
