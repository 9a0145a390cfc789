/-! MATHEMATICS, 42: bytes -/
theorem i32_self (y : Int32) : i32 y.toInt = y := by
  unfold i32
  simp
theorem sx8 (b : BitVec 32) (s : Nat) (hs : s ≤ 24) : BitVec.signExtend 8 (b >>> s) = BitVec.signExtend 8 (b.sshiftRight s) := by
  apply BitVec.eq_of_getLsbD_eq
  intro i hi
  have h1 : i < 32 := by omega
  have h2 : s + i < 32 := by omega
  have h3 : ¬ 32 ≤ i := by omega
  rw [BitVec.getLsbD_signExtend, BitVec.getLsbD_signExtend]
  simp [hi, h1, h2, h3, BitVec.getLsbD_sshiftRight, BitVec.getLsbD_ushiftRight]
  rw [BitVec.getElem_sshiftRight, dif_pos h2]
theorem byt_eq (x : Int) (s : Nat) (hs : s = 24 ∨ s = 16 ∨ s = 8 ∨ s = 0) : i2bv (ushrv x (s : Int)) = i2bv (shrv x (s : Int)) := by
  unfold i2bv ushrv shrv
  rw [i32_self, i32_self]
  congr 2
  apply Int8.toBitVec_inj.mp
  generalize i32 x = y
  rcases hs with rfl | rfl | rfl | rfl
  · simp [i32]
    exact sx8 _ _ (by decide)
  · simp [i32]
    exact sx8 _ _ (by decide)
  · simp [i32]
    exact sx8 _ _ (by decide)
  · simp [i32]
theorem i2bv_b (a : Int) : -128 ≤ i2bv a ∧ i2bv a ≤ 127 := by
  unfold i2bv
  rw [Int8.toInt_toInt32]
  have h1 := Int8.toInt_lt (i32 a).toInt8
  have h2 := Int8.le_toInt (i32 a).toInt8
  omega
/-- bytes laid one behind another -/
def apB (f : Nat → Int) (n : Nat) (b : Int) : Nat → Int := fun i => if i = n then b else f i
def ap4 (f : Nat → Int) (n : Nat) (x : Int) : Nat → Int := apB (apB (apB (apB f n (i2bv (shrv x 24))) (n + 1) (i2bv (shrv x 16))) (n + 2) (i2bv (shrv x 8))) (n + 3) (i2bv (shrv x 0))
def TC (μ : Mem) (f : Nat → Int) (n : Nat) : Prop := μ 8 0 1 = (n : Int) ∧ ∀ i, i < n → μ 20 0 i = f i
def TMe (μ : Mem) (f : Nat → Int) (n : Nat) : Prop := μ 11 0 2 = (n : Int) ∧ ∀ i, i < n → μ 40 0 i = f i
def F20 (μ μ' : Mem) : Prop := (∀ c, c ≠ 8 → c ≠ 20 → μ' c = μ c)
def F40 (μ μ' : Mem) : Prop := (∀ c, c ≠ 11 → c ≠ 40 → μ' c = μ c) ∧ ∀ k, k ≠ 2 → μ' 11 0 k = μ 11 0 k
theorem stepB {sc : Scr} {d t : Nat} {μ : Mem} {P : Option AV → AS → Prop} {x : Int} {f : Nat → Int} {n s : Nat} (hs : s = 24 ∨ s = 16 ∨ s = 8 ∨ s = 0) (hC : TC μ f n) (hn : n < 2000)
    (h : ∀ μ', F20 μ μ' → TC μ' (apB f n (i2bv (shrv x (s : Int)))) (n + 1) → R_8001 sc d P t 3 [rfc 8 0, .inl x, .inl ((s : Int) + (-8))] [] μ') : R_8001 sc d P t 3 [rfc 8 0, .inl x, .inl (s : Int)] [] μ := by
  have h1 := hC.1
  have hb := i2bv_b (ushrv x (s : Int))
  refine m_8001_3 ⟨fun c => absurd c (by omega), fun _ => ⟨fun c => absurd c (by omega), fun _ => ⟨⟨by omega, hb⟩, ?_, by omega, ?_⟩⟩⟩
  · rw [wr_c (by decide), h1]; omega
  · rw [wr_c (c := 20) (c' := 8) (by decide), h1, Int.toNat_natCast, byt_eq x s hs]
    refine h _ (fun c h8 h20 => ?_) ⟨by rw [wr_same]; omega, fun i hi => ?_⟩
    · rw [wr_c h8, wr_c h20]
    · rw [wr_c (by decide)]
      unfold apB
      by_cases q : i = n
      · rw [if_pos q, q, wr_same]
      · rw [if_neg q, wr_k q]
        exact hC.2 i (by omega)
theorem stepBM {sc : Scr} {d t : Nat} {μ : Mem} {P : Option AV → AS → Prop} {x : Int} {f : Nat → Int} {n s : Nat} (hs : s = 24 ∨ s = 16 ∨ s = 8 ∨ s = 0) (hC : TMe μ f n) (hn : n < 2000)
    (h : ∀ μ', F40 μ μ' → TMe μ' (apB f n (i2bv (shrv x (s : Int)))) (n + 1) → R_11005 sc d P t 3 [rfc 11 0, .inl x, .inl ((s : Int) + (-8))] [] μ') : R_11005 sc d P t 3 [rfc 11 0, .inl x, .inl (s : Int)] [] μ := by
  have h1 := hC.1
  have hb := i2bv_b (shrv x (s : Int))
  refine m_11005_3 ⟨fun c => absurd c (by omega), fun _ => ⟨⟨by omega, hb⟩, ?_, by omega, ?_⟩⟩
  · rw [wr_c (by decide), h1]; omega
  · rw [wr_c (c := 40) (c' := 11) (by decide), h1, Int.toNat_natCast]
    refine h _ ⟨fun c h8 h20 => ?_, fun k hk => ?_⟩ ⟨by rw [wr_same]; omega, fun i hi => ?_⟩
    · rw [wr_c h8, wr_c h20]
    · rw [wr_k hk, wr_c (by decide)]
    · rw [wr_c (by decide)]
      unfold apB
      by_cases q : i = n
      · rw [if_pos q, q, wr_same]
      · rw [if_neg q, wr_k q]
        exact hC.2 i (by omega)
theorem sp_addFour {sc : Scr} {d t : Nat} {μ : Mem} {Q : Mem → Prop} {x : Int} {f : Nat → Int} {n : Nat} (hC : TC μ f n) (hn : n + 4 ≤ 2000) (h : ∀ μ', F20 μ μ' → TC μ' (ap4 f n x) (n + 4) → Q μ') : RMv sc (d + 1) 8001 [rfc 8 0, .inl x] (t, 0, 0) μ Q :=
  m_8001 (stepB (s := 24) (by decide) hC (by omega) fun μ1 F1 C1 => stepB (s := 16) (by decide) C1 (by omega) fun μ2 F2 C2 => stepB (s := 8) (by decide) C2 (by omega) fun μ3 F3 C3 => stepB (s := 0) (by decide) C3 (by omega) fun μ4 F4 C4 => m_8001_3 ⟨fun _ => PV_mk (h μ4 (fun c a b => by rw [F4 c a b, F3 c a b, F2 c a b, F1 c a b]) C4), fun c => absurd (by decide) c⟩)
theorem F40.trans {μ μ' μ'' : Mem} (h : F40 μ μ') (h2 : F40 μ' μ'') : F40 μ μ'' := ⟨fun c a b => by rw [h2.1 c a b, h.1 c a b], fun k hk => by rw [h2.2 k hk, h.2 k hk]⟩
theorem F20.trans {μ μ' μ'' : Mem} (h : F20 μ μ') (h2 : F20 μ' μ'') : F20 μ μ'' := fun c a b => by rw [h2 c a b, h c a b]
theorem sp_put4 {sc : Scr} {d t : Nat} {μ : Mem} {Q : Mem → Prop} {x : Int} {f : Nat → Int} {n : Nat} (hC : TMe μ f n) (hn : n + 4 ≤ 2000) (h : ∀ μ', F40 μ μ' → TMe μ' (ap4 f n x) (n + 4) → Q μ') : RMv sc (d + 1) 11005 [rfc 11 0, .inl x] (t, 0, 0) μ Q :=
  m_11005 (stepBM (s := 24) (by decide) hC (by omega) fun μ1 F1 C1 => stepBM (s := 16) (by decide) C1 (by omega) fun μ2 F2 C2 => stepBM (s := 8) (by decide) C2 (by omega) fun μ3 F3 C3 => stepBM (s := 0) (by decide) C3 (by omega) fun μ4 F4 C4 => m_11005_3 ⟨fun _ => PV_mk (h μ4 (((F1.trans F2).trans F3).trans F4) C4), fun c => absurd (by decide) c⟩)
def byOk (f : Nat → Int) (n : Nat) : Prop := ∀ i, i < n → -128 ≤ f i ∧ f i ≤ 127
theorem byOk4 {f : Nat → Int} {n : Nat} (x : Int) (h : byOk f n) : byOk (ap4 f n x) (n + 4) := by
  intro i hi
  unfold ap4 apB
  split
  · exact i2bv_b _
  · split
    · exact i2bv_b _
    · split
      · exact i2bv_b _
      · split
        · exact i2bv_b _
        · exact h i (by omega)
theorem p_feed {sc : Scr} {t : Nat} {μ : Mem} {a b c d e : Int} (hS : Sim μ) : PR sc t μ 1 11004 [.inl a, .inl b, .inl c, .inl d, .inl e] := by
  obtain ⟨sw, sn, sf, st, sh, sp⟩ := hS
  obtain ⟨f1, f2, f3, f4, f5⟩ := sp
  have hS : Sim μ := ⟨sw, sn, sf, st, sh, f1, f2, f3, f4, f5⟩
  obtain ⟨n, hn⟩ := Int.eq_ofNat_of_zero_le f3.1
  refine m_1 ⟨by omega, fun z => ?_, fun z => m_11004 ⟨by omega, fun z2 => absurd (by omega) z, fun _ => ⟨rfl, hS⟩⟩⟩
  have C0 : TC μ (fun i => μ 20 0 i) n := ⟨hn, fun _ _ => rfl⟩
  have o0 : byOk (fun i => μ 20 0 i) n := fun i hi => (f4 i (by omega)).2
  refine sp_addFour C0 (by omega) fun μ1 F1 C1 => sp_addFour C1 (by omega) fun μ2 F2 C2 => sp_addFour C2 (by omega) fun μ3 F3 C3 => sp_addFour C3 (by omega) fun μ4 F4 C4 => sp_addFour C4 (by omega) fun μ5 F5 C5 => ?_
  have FC := (((F1.trans F2).trans F3).trans F4).trans F5
  have D0 : TMe μ5 (fun i => μ 20 0 i) n := by
    refine ⟨?_, fun i hi => ?_⟩
    · rw [FC 11 (by decide) (by decide)]; omega
    · rw [FC 40 (by decide) (by decide)]
      exact (f4 i (by omega)).1.symm
  refine m_11004 ⟨by have := D0.1; omega, fun _ => ?_, fun z2 => absurd (by have := D0.1; omega) z2⟩
  refine sp_put4 D0 (by omega) fun μ6 G1 D1 => sp_put4 D1 (by omega) fun μ7 G2 D2 => sp_put4 D2 (by omega) fun μ8 G3 D3 => sp_put4 D3 (by omega) fun μ9 G4 D4 => sp_put4 D4 (by omega) fun μ10 G5 D5 => ?_
  have FM := (((G1.trans G2).trans G3).trans G4).trans G5
  have o5 := byOk4 e (byOk4 d (byOk4 c (byOk4 b (byOk4 a o0))))
  have k : ∀ c, c ≠ 8 → c ≠ 20 → c ≠ 11 → c ≠ 40 → μ10 c = μ c := fun c h1 h2 h3 h4 => by rw [FM.1 c h3 h4, FC c h1 h2]
  have k11 : ∀ j, j ≠ 2 → μ10 11 0 j = μ 11 0 j := fun j hj => by rw [FM.2 j hj, FC 11 (by decide) (by decide)]
  have e8 : μ10 8 = μ5 8 := FM.1 8 (by decide) (by decide)
  have e20 : μ10 20 = μ5 20 := FM.1 20 (by decide) (by decide)
  refine ⟨by rw [C5.1, D5.1], sw.x (k11 _ (by decide)) (by rw [k 1 (by decide) (by decide) (by decide) (by decide)]) (k 9 (by decide) (by decide) (by decide) (by decide)) (fun c hc => k c (by omega) (by omega) (by omega) (by omega)), sn.x (k11 _ (by decide)) (k11 _ (by decide)) (fun j _ => by rw [k 1 (by decide) (by decide) (by decide) (by decide)]) (fun c hc => k c (by omega) (by omega) (by omega) (by omega)), sf.x (k11 _ (by decide)) (by rw [k 1 (by decide) (by decide) (by decide) (by decide)]) (by rw [k 1 (by decide) (by decide) (by decide) (by decide)]) (fun o _ => by rw [k 3 (by decide) (by decide) (by decide) (by decide)]) (fun c o hc _ => by rw [k c (by omega) (by omega) (by omega) (by omega)]) (fun c hc => k c (by omega) (by omega) (by omega) (by omega)), st.x (k11 _ (by decide)) (k11 _ (by decide)) (by rw [k 1 (by decide) (by decide) (by decide) (by decide)]) (by rw [k 1 (by decide) (by decide) (by decide) (by decide)]) (fun o _ => by rw [k 3 (by decide) (by decide) (by decide) (by decide)]) (fun c o hc _ => by rw [k c (by omega) (by omega) (by omega) (by omega)]) (fun c hc => k c (by omega) (by omega) (by omega) (by omega)), sh.x (by rw [k 1 (by decide) (by decide) (by decide) (by decide)]) (fun c hc => k c (by omega) (by omega) (by omega) (by omega)), ?_⟩
  refine ⟨by rw [k 0 (by decide) (by decide) (by decide) (by decide), k11 17 (by decide)]; exact f1, by rw [e8, C5.1, D5.1], by rw [e8, C5.1]; omega, fun i hi => ?_, by rw [k 46 (by decide) (by decide) (by decide) (by decide)]; exact f5⟩
  rw [e8, C5.1] at hi
  rw [e20, C5.2 i (by omega), D5.2 i (by omega)]
  exact ⟨rfl, o5 i (by omega)⟩
