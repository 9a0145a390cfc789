/-! MATHEMATICS, 28: the shortest of all -/
theorem F7.spn {μ μ' : Mem} {px py qx qy : Int} (h : F7 μ μ') (hs : Spn μ px py qx qy) : Spn μ' px py qx qy := h.fc.spn hs
theorem L10008i {sc : Scr} {d t : Nat} {μ : Mem} {P : Option AV → AS → Prop} {px py qx qy s fl : Int} {a : Nat} {T : Int → Prop} (ha : a < 9) (hC : CO μ) (hp : Pl px py) (hq : Pl qx qy) (hs : Spn μ px py qx qy) (bs : 0 ≤ s ∧ s ≤ 99)
    (h : ∀ μ' B q12, F7 μ μ' → Bst (fun x => T x ∨ (μ 9 a 5 ≠ 0 ∧ Tp (μ 9) (μ 1 0 8) s px py qx qy a 9 x)) B → B < 4000000 → R_10008 sc (d + 3) P t 93 [rfc 10 0, .inl s, .inl fl, .inr (.inl B), vx, rfc 26 0, .inl 9, .inl ((a + 1 : Nat) : Int), rfc 9 a, rfc 26 0, .inl 9, .inl 9, q12] [] μ') :
    ∀ (n b : Nat) (μ' : Mem) (B : Int) (q12 : AV), n + b = 9 → F7 μ μ' → Bst (fun x => T x ∨ (μ 9 a 5 ≠ 0 ∧ Tp (μ 9) (μ 1 0 8) s px py qx qy a b x)) B → B < 4000000 → R_10008 sc (d + 3) P t 124 [rfc 10 0, .inl s, .inl fl, .inr (.inl B), vx, rfc 26 0, .inl 9, .inl (a : Int), rfc 9 a, rfc 26 0, .inl 9, .inl (b : Int), q12] [] μ' := by
  intro n
  induction n with
  | zero =>
    intro b μ' B q12 hb hF hB hB2
    have : b = 9 := by omega
    subst this
    exact m_10008_124 ⟨fun _ => ⟨by omega, h μ' B _ hF hB hB2⟩, fun c => absurd (by decide) c⟩
  | succ n ih =>
    intro b μ' B q12 hb hF hB hB2
    have e9 : μ' 9 = μ 9 := hF.fc.c (by decide) (by decide) (by decide)
    have e1 : μ' 1 = μ 1 := hF.fc.c (by decide) (by decide) (by decide)
    have skip : ((b = a) ∨ μ 9 a 5 = 0 ∨ μ 9 b 5 = 0) → Bst (fun x => T x ∨ (μ 9 a 5 ≠ 0 ∧ Tp (μ 9) (μ 1 0 8) s px py qx qy a (b + 1) x)) B := by
      intro c
      refine hB.c fun x => ⟨fun z => z.elim Or.inl fun ⟨z1, b', z2, z3⟩ => Or.inr ⟨z1, b', by omega, z3⟩, fun z => z.elim Or.inl fun ⟨z1, b', z2, z3, z4, z5⟩ => Or.inr ⟨z1, b', ?_, z3, z4, z5⟩⟩
      by_cases q : b' = b
      · subst q
        omega
      · omega
    refine m_10008_124 ⟨fun c => absurd c (by omega), fun _ => ⟨by omega, ?_⟩⟩
    rw [Int.toNat_natCast, rF_wall (by omega)]
    refine m_10008_136 ⟨fun c => ⟨by omega, ih (b + 1) μ' B _ (by omega) hF (skip (Or.inl ?_)) hB2⟩, fun c => ⟨fun c2 => ⟨by omega, ih (b + 1) μ' B _ (by omega) hF (skip (Or.inr (Or.inl (by rw [← e9]; exact c2)))) hB2⟩, fun c2 => ⟨fun c3 => ⟨by omega, ih (b + 1) μ' B _ (by omega) hF (skip (Or.inr (Or.inr (by rw [← e9]; exact c3)))) hB2⟩, fun c3 => ?_⟩⟩⟩
    · simp only [Option.some.injEq, Prod.mk.injEq, true_and] at c
      exact c.symm
    · have hne : b ≠ a := fun z => c (by rw [z])
      refine sp_shorter2 (T' := fun x => T x ∨ (μ 9 a 5 ≠ 0 ∧ Tp (μ 9) (μ 1 0 8) s px py qx qy a (b + 1) x)) ha c2 (by omega) c3 (hC.fc hF.fc) hp hq (hF.spn hs) bs hB hB2 (fun x => ?_) fun μ2 B2 F2 hB' hB2' => ⟨by omega, ih (b + 1) μ2 B2 _ (by omega) (hF.trans F2) hB' hB2'⟩
      rw [e9, e1]
      rw [e9] at c2 c3
      constructor
      · intro z
        rcases z with z | ⟨z1, b', z2, z3, z4, z5, z6⟩
        · exact Or.inl (Or.inl z)
        · by_cases q : b' = b
          · subst q
            exact Or.inr ⟨z5, z6⟩
          · exact Or.inl (Or.inr ⟨z1, b', by omega, z3, z4, z5, z6⟩)
      · intro z
        rcases z with (z | ⟨z1, b', z2, z3⟩) | z
        · exact Or.inl z
        · exact Or.inr ⟨z1, b', by omega, z3⟩
        · exact Or.inr ⟨c2, b, by omega, hne, c3, z⟩
theorem L10008o {sc : Scr} {d t : Nat} {μ : Mem} {P : Option AV → AS → Prop} {px py qx qy s fl : Int} {T : Int → Prop} (hC : CO μ) (hp : Pl px py) (hq : Pl qx qy) (hs : Spn μ px py qx qy) (bs : 0 ≤ s ∧ s ≤ 99)
    (h : ∀ μ' B, F7 μ μ' → Bst (fun x => T x ∨ Tpp (μ 9) (μ 1 0 8) s px py qx qy 9 x) B → B < 4000000 → P (some (.inr (.inl B))) (fs (t, 0, 0) μ')) :
    ∀ (n a : Nat) (μ' : Mem) (B : Int) (q8 q9 q10 q11 q12 : AV), n + a = 9 → F7 μ μ' → Bst (fun x => T x ∨ Tpp (μ 9) (μ 1 0 8) s px py qx qy a x) B → B < 4000000 → R_10008 sc (d + 3) P t 93 [rfc 10 0, .inl s, .inl fl, .inr (.inl B), vx, rfc 26 0, .inl 9, .inl (a : Int), q8, q9, q10, q11, q12] [] μ' := by
  intro n
  induction n with
  | zero =>
    intro a μ' B q8 q9 q10 q11 q12 ha hF hB hB2
    have : a = 9 := by omega
    subst this
    exact m_10008_93 ⟨fun _ => h μ' B hF hB hB2, fun c => absurd (by decide) c⟩
  | succ n ih =>
    intro a μ' B q8 q9 q10 q11 q12 ha hF hB hB2
    have e9 : μ' 9 = μ 9 := hF.fc.c (by decide) (by decide) (by decide)
    have e1 : μ' 1 = μ 1 := hF.fc.c (by decide) (by decide) (by decide)
    refine m_10008_93 ⟨fun c => absurd c (by omega), fun _ => ⟨by omega, ?_⟩⟩
    rw [Int.toNat_natCast, rF_wall (by omega)]
    refine L10008i (μ := μ') (a := a) (T := fun x => T x ∨ Tpp (μ 9) (μ 1 0 8) s px py qx qy a x) (by omega) (hC.fc hF.fc) hp hq (hF.spn hs) bs (fun μ2 B2 q F2 hB' hB2' => ih (a + 1) μ2 B2 _ _ _ _ _ (by omega) (hF.trans F2) (hB'.c fun x => ?_) hB2') 9 0 μ' B _ rfl F7.rfl (hB.c fun x => ⟨Or.inl, fun z => z.elim (fun y => y) fun ⟨_, c, hc, _⟩ => absurd hc (by omega)⟩) hB2
    rw [e9, e1]
    constructor
    · intro z
      rcases z with (z | ⟨c, z1, z2⟩) | z
      · exact Or.inl z
      · exact Or.inr ⟨c, by omega, z2⟩
      · exact Or.inr ⟨a, by omega, z⟩
    · intro z
      rcases z with z | ⟨c, z1, z2⟩
      · exact Or.inl (Or.inl z)
      · by_cases q : c = a
        · subst q
          exact Or.inr z2
        · exact Or.inl (Or.inr ⟨c, by omega, z2⟩)
theorem L10008 {sc : Scr} {d t : Nat} {μ : Mem} {P : Option AV → AS → Prop} {px py qx qy s fl : Int} {T : Int → Prop} (hC : CO μ) (hp : Pl px py) (hq : Pl qx qy) (hs : Spn μ px py qx qy) (bs : 0 ≤ s ∧ s ≤ 99)
    (h : ∀ μ' B, F7 μ μ' → Bst (fun x => (T x ∨ Tq (μ 9) (μ 1 0 8) s px py qx qy 9 x) ∨ Tpp (μ 9) (μ 1 0 8) s px py qx qy 9 x) B → B < 4000000 → P (some (.inr (.inl B))) (fs (t, 0, 0) μ')) :
    ∀ (n a : Nat) (μ' : Mem) (B : Int) (q8 : AV), n + a = 9 → F7 μ μ' → Bst (fun x => T x ∨ Tq (μ 9) (μ 1 0 8) s px py qx qy a x) B → B < 4000000 → R_10008 sc (d + 3) P t 38 [rfc 10 0, .inl s, .inl fl, .inr (.inl B), vx, rfc 26 0, .inl 9, .inl (a : Int), q8, vx, vx, vx, vx] [] μ' := by
  intro n
  induction n with
  | zero =>
    intro a μ' B q8 ha hF hB hB2
    have : a = 9 := by omega
    subst this
    exact m_10008_38 ⟨fun _ => L10008o (μ := μ) hC hp hq hs bs h 9 0 μ' B _ _ _ _ _ rfl hF (hB.c fun x => ⟨Or.inl, fun z => z.elim (fun y => y) fun ⟨c, hc, _⟩ => absurd hc (by omega)⟩) hB2, fun c => absurd (by decide) c⟩
  | succ n ih =>
    intro a μ' B q8 ha hF hB hB2
    have e9 : μ' 9 = μ 9 := hF.fc.c (by decide) (by decide) (by decide)
    have e1 : μ' 1 = μ 1 := hF.fc.c (by decide) (by decide) (by decide)
    refine m_10008_38 ⟨fun c => absurd c (by omega), fun _ => ⟨by omega, ?_⟩⟩
    rw [Int.toNat_natCast, rF_wall (by omega)]
    refine m_10008_50 ⟨fun c => ⟨by omega, ih (a + 1) μ' B _ (by omega) hF (hB.c fun x => ⟨fun z => z.elim Or.inl fun ⟨c', z1, z2⟩ => Or.inr ⟨c', by omega, z2⟩, fun z => z.elim Or.inl fun ⟨c', z1, z2, z3⟩ => Or.inr ⟨c', ?_, z2, z3⟩⟩) hB2⟩, fun c => ?_⟩
    · by_cases q : c' = a
      · subst q
        rw [e9] at c
        exact absurd c z2
      · omega
    · refine sp_shorter1 (T' := fun x => T x ∨ Tq (μ 9) (μ 1 0 8) s px py qx qy (a + 1) x) (by omega) c (hC.fc hF.fc) hp hq (hF.spn hs) bs hB hB2 (fun x => ?_) fun μ2 B2 F2 hB' hB2' => ⟨by omega, ih (a + 1) μ2 B2 _ (by omega) (hF.trans F2) hB' hB2'⟩
      rw [e9, e1]
      rw [e9] at c
      constructor
      · intro z
        rcases z with z | ⟨b', z2, z4, z5, z6⟩
        · exact Or.inl (Or.inl z)
        · by_cases q : b' = a
          · subst q
            exact Or.inr ⟨z5, z6⟩
          · exact Or.inl (Or.inr ⟨b', by omega, z4, z5, z6⟩)
      · intro z
        rcases z with (z | ⟨b', z2, z3⟩) | z
        · exact Or.inl z
        · exact Or.inr ⟨b', by omega, z3⟩
        · exact Or.inr ⟨a, by omega, c, z⟩
theorem Bst_e {T : Int → Prop} (h : ∀ x, ¬ T x) : Bst T (-1) := Or.inl ⟨rfl, h⟩
theorem sp_shortN {sc : Scr} {d t : Nat} {μ : Mem} {Q : Int → Mem → Prop} {px py qx qy s : Int} (hC : CO μ) (hp : Pl px py) (hq : Pl qx qy) (hs : Spn μ px py qx qy) (bs : 0 ≤ s ∧ s ≤ 99)
    (h : ∀ μ' B, F7 μ μ' → Bst (Tns (μ 9) (μ 1 0 8) s px py qx qy) B → B < 4000000 → Q B μ') : RMl sc (d + 4) 10008 [rfc 10 0, .inl s, .inl 0] (t, 0, 0) μ Q := by
  refine m_10008 ⟨fun _ => L10008 (μ := μ) (T := fun _ => False) hC hp hq hs bs (fun μ' B F hB hB2 => PJ_mk (h μ' B F (hB.c fun x => ⟨fun z => z.elim (fun y => y.elim (fun u => u.elim) Or.inl) Or.inr, fun z => z.elim (fun y => Or.inl (Or.inr y)) Or.inr⟩) hB2)) 9 0 μ (-1) _ rfl F7.rfl (Bst_e fun x z => z.elim (fun y => y) fun ⟨c, hc, _⟩ => absurd hc (by omega)) (by decide), fun c => absurd rfl c⟩
theorem sp_shortA {sc : Scr} {d t : Nat} {μ : Mem} {Q : Int → Mem → Prop} {px py qx qy s : Int} (hC : CO μ) (hp : Pl px py) (hq : Pl qx qy) (hs : Spn μ px py qx qy) (bs : 0 ≤ s ∧ s ≤ 99)
    (h : ∀ μ' B, F7 μ μ' → Bst (Tal (μ 9) (μ 1 0 8) s px py qx qy) B → B < 4000000 → Q B μ') : RMl sc (d + 4) 10008 [rfc 10 0, .inl s, .inl 1] (t, 0, 0) μ Q := by
  refine m_10008 ⟨fun c => absurd c (by decide), fun _ => ?_⟩
  refine sp_shorter0 (T := fun _ => False) (T' := fun x => K0 (μ 9) (μ 1 0 8) s px py qx qy ∧ x = sqw (wy0 px py qx qy)) hC hp hq hs bs (Bst_e fun x z => z) (by decide) (fun x => ⟨Or.inr, fun z => z.elim (fun y => y.elim) fun y => y⟩) fun μ1 B F1 hB hB2 => ?_
  have e9 : μ1 9 = μ 9 := F1.fc.c (by decide) (by decide) (by decide)
  have e1 : μ1 1 = μ 1 := F1.fc.c (by decide) (by decide) (by decide)
  refine L10008 (μ := μ1) (T := fun x => K0 (μ 9) (μ 1 0 8) s px py qx qy ∧ x = sqw (wy0 px py qx qy)) (hC.fc F1.fc) hp hq (F1.spn hs) bs (fun μ' B F hB hB2 => PJ_mk (h μ' B (F1.trans F) (hB.c fun x => ?_) hB2)) 9 0 μ1 B _ rfl F7.rfl (hB.c fun x => ⟨Or.inl, fun z => z.elim (fun y => y) fun ⟨c, hc, _⟩ => absurd hc (by omega)⟩) hB2
  rw [e9, e1]
  unfold Tal Tns
  exact ⟨fun z => z.elim (fun y => y.elim Or.inl fun u => Or.inr (Or.inl u)) fun y => Or.inr (Or.inr y), fun z => z.elim (fun y => Or.inl (Or.inl y)) fun y => y.elim (fun u => Or.inl (Or.inr u)) Or.inr⟩
/-- the time of the first return that is not straight, to the place itself -/
theorem sp_echoTime {sc : Scr} {d t : Nat} {μ : Mem} {Q : Int → Mem → Prop} {x y s : Int} (hC : CO μ) (hp : Pl x y) (bs : 0 ≤ s ∧ s ≤ 99) (h : ∀ μ', F8 μ μ' → Q (ech (rets (μ 9) (μ 1 0 7) (μ 1 0 8) s x y x y)) μ') : RMi sc (d + 5) 26 [rfc 0 0, .inl x, .inl y, .inl s] (t, 0, 0) μ Q := by
  refine m_26 (sp_span fun μ1 F1 hs => sp_shortN (hC.f8 F1) hp hp hs bs fun μ2 B F2 hB hB2 => ?_)
  have e9 : μ1 9 = μ 9 := F1.c (by decide)
  have e1 : μ1 1 = μ 1 := F1.c (by decide)
  have F := F1.trans F2.f8
  have e12 : μ2 1 = μ 1 := F.c (by decide)
  rw [e9, e1] at hB
  refine sp_timeOf hB.b hB2 (by rw [e12]; exact hC.2.1.1) ?_
  rw [e12, ech_eq hC.2.1.1 hB]
  exact h μ2 F
/-- the time of the first return -/
theorem sp_first8 {sc : Scr} {d t : Nat} {μ : Mem} {Q : Int → Mem → Prop} {px py qx qy s : Int} (hC : CO μ) (hp : Pl px py) (hq : Pl qx qy) (bs : 0 ≤ s ∧ s ≤ 99) (hs : Spn μ px py qx qy) (h : ∀ μ', F8 μ μ' → Q (fstT (rets (μ 9) (μ 1 0 7) (μ 1 0 8) s px py qx qy)) μ') :
    RMl sc (d + 4) 10008 [rfc 10 0, .inl s, .inl 1] (t, 0, 0) μ (fun v5 μ5 => RMi sc (d + 4) 1007 [rfc 1 0, .inr (.inl v5)] (t, 0, 0) μ5 Q) := by
  refine sp_shortA hC hp hq hs bs fun μ2 B F2 hB hB2 => ?_
  have e12 : μ2 1 = μ 1 := F2.fc.c (by decide) (by decide) (by decide)
  refine sp_timeOf hB.b hB2 (by rw [e12]; exact hC.2.1.1) ?_
  rw [e12, fst_eq hC.2.1.1 hB]
  exact h μ2 F2.f8
