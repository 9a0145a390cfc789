/-! MATHEMATICS, 17: unfold of the class -/
def sqw (w : Wy) : Int := (w.2.2.1 - w.1) * (w.2.2.1 - w.1) + (w.2.2.2 - w.2.1) * (w.2.2.2 - w.2.1)
def wy0 (px py qx qy : Int) : Wy := ⟨px, py, qx, qy⟩
theorem wy0_bd {px py qx qy : Int} (hp : Pl px py) (hq : Pl qx qy) : Wbd (wy0 px py qx qy) := by
  have q1 := hq.1
  have q2 := hq.2
  exact ⟨hp.1, hp.2, (by omega : -435 ≤ qx ∧ qx ≤ 435), (by omega : -435 ≤ qy ∧ qy ≤ 435)⟩
theorem sqw_bd {w : Wy} (hw : Wbd w) : 0 ≤ sqw w ∧ sqw w ≤ 449352 := by
  obtain ⟨h1, h2, h3, h4⟩ := hw
  have p1 := mul_bd (A := 474) (B := 474) (a := w.2.2.1 - w.1) (b := w.2.2.1 - w.1) (by omega) (by omega)
  have p2 := mul_bd (A := 474) (B := 474) (a := w.2.2.2 - w.2.1) (b := w.2.2.2 - w.2.1) (by omega) (by omega)
  have p3 : 0 ≤ (w.2.2.1 - w.1) * (w.2.2.1 - w.1) := by
    rcases Int.le_total 0 (w.2.2.1 - w.1) with q | q
    · exact Int.mul_nonneg q q
    · exact Int.mul_nonneg_of_nonpos_of_nonpos q q
  have p4 : 0 ≤ (w.2.2.2 - w.2.1) * (w.2.2.2 - w.2.1) := by
    rcases Int.le_total 0 (w.2.2.2 - w.2.1) with q | q
    · exact Int.mul_nonneg q q
    · exact Int.mul_nonneg_of_nonpos_of_nonpos q q
  unfold sqw
  omega
/-- the end of unfold -/
theorem unf_fin {t : Nat} {μ : Mem} {P : Option AV → AS → Prop} {w : Wy} (hw : Wbd w) (e1 : μ 7 3 0 = w.2.2.1) (e2 : μ 7 3 1 = w.2.2.2) (e3 : μ 7 0 0 = w.1) (e4 : μ 7 0 1 = w.2.1) (h : P (some (.inr (.inl (sqw w)))) (fs (t, 0, 0) μ)) :
    InL (μ 7 3 0 - μ 7 0 0) ∧ InL (μ 7 3 1 - μ 7 0 1) ∧ (InL ((μ 7 3 0 - μ 7 0 0) * (μ 7 3 0 - μ 7 0 0)) ∧ InL ((μ 7 3 1 - μ 7 0 1) * (μ 7 3 1 - μ 7 0 1)) ∧ InL ((μ 7 3 0 - μ 7 0 0) * (μ 7 3 0 - μ 7 0 0) + (μ 7 3 1 - μ 7 0 1) * (μ 7 3 1 - μ 7 0 1)) ∧ P (some (.inr (.inl ((μ 7 3 0 - μ 7 0 0) * (μ 7 3 0 - μ 7 0 0) + (μ 7 3 1 - μ 7 0 1) * (μ 7 3 1 - μ 7 0 1))))) (fs (t, 0, 0) μ)) := by
  rw [e1, e2, e3, e4]
  obtain ⟨h1, h2, h3, h4⟩ := hw
  have p1 := mul_bd (A := 474) (B := 474) (a := w.2.2.1 - w.1) (b := w.2.2.1 - w.1) (by omega) (by omega)
  have p2 := mul_bd (A := 474) (B := 474) (a := w.2.2.2 - w.2.1) (b := w.2.2.2 - w.2.1) (by omega) (by omega)
  exact ⟨by omega, by omega, by omega, by omega, by omega, h⟩
/-- start and end are laid -/
def Spn (μ : Mem) (px py qx qy : Int) : Prop := μ 7 0 0 = px ∧ μ 7 0 1 = py ∧ μ 7 0 2 = 1 ∧ μ 7 1 0 = qx ∧ μ 7 1 1 = qy ∧ μ 7 1 2 = 1
def Fun2 (μ μ' : Mem) : Prop := ∀ c i k, ¬ (c = 7 ∧ (i = 2 ∨ i = 3)) → μ' c i k = μ c i k
theorem Spn.f2 {μ μ' : Mem} {px py qx qy : Int} (h : Spn μ px py qx qy) (hF : Fun2 μ μ') : Spn μ' px py qx qy := by
  unfold Spn
  rw [hF _ _ _ (by omega), hF _ _ _ (by omega), hF _ _ _ (by omega), hF _ _ _ (by omega), hF _ _ _ (by omega), hF _ _ _ (by omega)]
  exact h
theorem FO.f2 {i : Nat} {μ μ' : Mem} (h : FO 7 i μ μ') (hi : i = 2 ∨ i = 3) : Fun2 μ μ' := fun c j k z => h c j k (by omega)
theorem Fun2.trans {μ μ' μ'' : Mem} (h : Fun2 μ μ') (h2 : Fun2 μ' μ'') : Fun2 μ μ'' := fun a b e z => (h2 a b e z).trans (h a b e z)
theorem Rep_of {μ : Mem} {i : Nat} {m : Mp} {w : Wy} {u x y : Int} (e : rX m w u 1 = x ∧ rY m w u 1 = y) (e1 : μ 7 i 0 = x) (e2 : μ 7 i 1 = y) (e3 : μ 7 i 2 = 1) : Rep μ i m w u 1 1 := by
  refine ⟨?_, ?_, ?_⟩
  · rw [e1, e.1]; omega
  · rw [e2, e.2]; omega
  · rw [e3]; rfl
theorem sp_unfold0 {sc : Scr} {d t : Nat} {μ : Mem} {Q : Int → Mem → Prop} {px py qx qy : Int} (hp : Pl px py) (hq : Pl qx qy) (hs : Spn μ px py qx qy)
    (h : ∀ μ', Fun2 μ μ' → Rep μ' 0 Mp.one (wy0 px py qx qy) 0 1 1 → Rep μ' 1 Mp.one (wy0 px py qx qy) 1 1 1 → Q (sqw (wy0 px py qx qy)) μ') : RMl sc (d + 2) 10004 [rfc 10 0, rfn, rfn] (t, 0, 0) μ Q := by
  obtain ⟨s1, s2, s3, s4, s5, s6⟩ := id hs
  refine m_10004 ⟨fun c => absurd rfl c, fun _ => sp_setWhole fun μ1 F1 a1 a2 a3 => m_10004_40 ⟨fun c => absurd rfl c, fun _ => sp_setWhole fun μ2 F2 b1 b2 b3 => ?_⟩⟩
  have F := (F1.f2 (Or.inl rfl)).trans (F2.f2 (Or.inr rfl))
  obtain ⟨r1, r2, r3, r4, r5, r6⟩ := hs.f2 F
  refine unf_fin (w := wy0 px py qx qy) (wy0_bd hp hq) ?_ ?_ r1 r2 (PJ_mk (h μ2 F (Rep_of (r0_0 _) r1 r2 r3) (Rep_of (r0_1 _) r4 r5 r6)))
  · rw [b1, a1, s4]; rfl
  · rw [b2, a2, s5]; rfl
theorem sp_unfold1 {sc : Scr} {d t : Nat} {μ : Mem} {Q : Int → Mem → Prop} {px py qx qy : Int} {a : Nat} (ga : Wok μ a) (hp : Pl px py) (hq : Pl qx qy) (hs : Spn μ px py qx qy)
    (h : ∀ μ', Fun2 μ μ' → Rep μ' 0 Mp.one (wy1 (μ 9) px py qx qy a) 0 1 1 → Rep μ' 3 Mp.one (wy1 (μ 9) px py qx qy a) 1 1 1 → Rep μ' 1 (mp1 (μ 9) a) (wy1 (μ 9) px py qx qy a) 1 1 1 → Q (sqw (wy1 (μ 9) px py qx qy a)) μ') : RMl sc (d + 2) 10004 [rfc 10 0, rfc 9 a, rfn] (t, 0, 0) μ Q := by
  obtain ⟨s1, s2, s3, s4, s5, s6⟩ := id hs
  have q1 := hq.1
  have q2 := hq.2
  refine m_10004 ⟨fun c => absurd rfl c, fun _ => sp_setWhole fun μ1 F1 a1 a2 a3 => m_10004_40 ⟨fun _ => m_10004_68 ?_, fun c => absurd (by simp) c⟩⟩
  rw [s4] at a1
  rw [s5] at a2
  refine sp_mirror (F1.wok.mpr ga) (by omega) (by omega) fun μ2 F2 b1 b2 b3 => ?_
  rw [F1.c9, a1] at b1
  rw [F1.c9, a2] at b2
  have F := (F1.f2 (Or.inl rfl)).trans (F2.f2 (Or.inr rfl))
  obtain ⟨r1, r2, r3, r4, r5, r6⟩ := hs.f2 F
  exact unf_fin (w := wy1 (μ 9) px py qx qy a) (wy1_bd (g := μ 9) ga hp hq) b1 b2 r1 r2 (PJ_mk (h μ2 F (Rep_of (r0_0 _) r1 r2 r3) (Rep_of (r0_1 _) b1 b2 b3) (Rep_of (r1_1 rfl rfl) r4 r5 r6)))
theorem sp_unfold2 {sc : Scr} {d t : Nat} {μ : Mem} {Q : Int → Mem → Prop} {px py qx qy : Int} {a b : Nat} (ga : Wok μ a) (gb : Wok μ b) (hp : Pl px py) (hq : Pl qx qy) (hs : Spn μ px py qx qy)
    (h : ∀ μ', Fun2 μ μ' → Rep μ' 0 Mp.one (wy2 (μ 9) px py qx qy a b) 0 1 1 → Rep μ' 3 Mp.one (wy2 (μ 9) px py qx qy a b) 1 1 1 → Rep μ' 2 (mp1 (μ 9) a) (wy2 (μ 9) px py qx qy a b) 1 1 1 → Rep μ' 1 (mp2 (μ 9) a b) (wy2 (μ 9) px py qx qy a b) 1 1 1 → Q (sqw (wy2 (μ 9) px py qx qy a b)) μ') : RMl sc (d + 2) 10004 [rfc 10 0, rfc 9 a, rfc 9 b] (t, 0, 0) μ Q := by
  obtain ⟨s1, s2, s3, s4, s5, s6⟩ := id hs
  have q1 := hq.1
  have q2 := hq.2
  have bd := ly_bd0 (g := μ 9) gb hq
  refine m_10004 ⟨fun _ => m_10004_28 (sp_mirror gb (by omega) (by omega) fun μ1 F1 a1 a2 a3 => m_10004_40 ⟨fun _ => m_10004_68 ?_, fun c => absurd (by simp) c⟩), fun c => absurd (by simp) c⟩
  rw [s4] at a1
  rw [s5] at a2
  refine sp_mirror (F1.wok.mpr ga) (by omega) (by omega) fun μ2 F2 b1 b2 b3 => ?_
  rw [F1.c9, a1] at b1
  rw [F1.c9, a2] at b2
  have F := (F1.f2 (Or.inl rfl)).trans (F2.f2 (Or.inr rfl))
  obtain ⟨r1, r2, r3, r4, r5, r6⟩ := hs.f2 F
  have n1 : μ2 7 2 0 = lyX (μ 9) b qx := by rw [F2 _ _ _ (by omega), a1]
  have n2 : μ2 7 2 1 = lyY (μ 9) b qy := by rw [F2 _ _ _ (by omega), a2]
  have n3 : μ2 7 2 2 = 1 := by rw [F2 _ _ _ (by omega), a3]
  exact unf_fin (w := wy2 (μ 9) px py qx qy a b) (wy2_bd (g := μ 9) ga gb hp hq) b1 b2 r1 r2 (PJ_mk (h μ2 F (Rep_of (r0_0 _) r1 r2 r3) (Rep_of (r0_1 _) b1 b2 b3) (Rep_of (r1_1 rfl rfl) n1 n2 n3) (Rep_of (r2_1 ga.1 gb.1 rfl rfl) r4 r5 r6)))
