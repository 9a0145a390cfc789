/-! MATHEMATICS, 4: the class's open ways, in its own places -/
/-- only object i of kind c has changed -/
def FO (c i : Nat) (μ μ' : Mem) : Prop := ∀ c' i' k', ¬ (c' = c ∧ i' = i) → μ' c' i' k' = μ c' i' k'
theorem FO.rfl {c i : Nat} {μ : Mem} : FO c i μ μ := fun _ _ _ _ => Eq.refl _
theorem FO.trans {c i : Nat} {μ μ' μ'' : Mem} (h : FO c i μ μ') (h2 : FO c i μ' μ'') : FO c i μ μ'' := fun a b e z => (h2 a b e z).trans (h a b e z)
theorem FO.w1 {c i k : Nat} {μ : Mem} {v : Int} : FO c i μ (wr μ c i k v) := fun _ _ _ h => if_neg fun z => h ⟨z.1, z.2.1⟩
theorem FO.w3 {c i k k' k'' : Nat} {μ : Mem} {v v' v'' : Int} : FO c i μ (wr (wr (wr μ c i k v) c i k' v') c i k'' v'') := FO.trans (FO.trans FO.w1 FO.w1) FO.w1
abbrev xC (μ : Mem) (w i j : Nat) : Prop := xCr (μ 9 w 0) (μ 9 w 1) (μ 9 w 2) (μ 9 w 3) (μ 7 i 0) (μ 7 i 1) (μ 7 i 2) (μ 7 j 0) (μ 7 j 1) (μ 7 j 2)
abbrev SokS (μ : Mem) (i : Nat) : Prop := Sok (μ 7 i 0) (μ 7 i 1) (μ 7 i 2)
theorem FO.xc {μ μ' : Mem} {w i j o : Nat} (h : FO 7 o μ μ') (hi : i ≠ o) (hj : j ≠ o) : xC μ' w i j ↔ xC μ w i j := by
  have e1 : ∀ k, μ' 9 w k = μ 9 w k := fun k => h _ _ _ (by omega)
  have e2 : ∀ k, μ' 7 i k = μ 7 i k := fun k => h _ _ _ (by omega)
  have e3 : ∀ k, μ' 7 j k = μ 7 j k := fun k => h _ _ _ (by omega)
  unfold xC
  rw [e1, e1, e1, e1, e2, e2, e2, e3, e3, e3]
theorem FO.ss {μ μ' : Mem} {i o : Nat} (h : FO 7 o μ μ') (hi : i ≠ o) : SokS μ' i ↔ SokS μ i := by
  have e2 : ∀ k, μ' 7 i k = μ 7 i k := fun k => h _ _ _ (by omega)
  unfold SokS
  rw [e2, e2, e2]
theorem FO.wok {μ μ' : Mem} {w o : Nat} (h : FO 7 o μ μ') : Wok μ' w ↔ Wok μ w := by
  have e1 : ∀ k, μ' 9 w k = μ 9 w k := fun k => h _ _ _ (by omega)
  unfold Wok
  simp only [e1]
theorem sp_cr6 {sc : Scr} {d t : Nat} {μ : Mem} {Q : Int → Mem → Prop} {o0 o1 o2 : Nat} (hw : Wok μ o0) (hA : SokS μ o1) (hB : SokS μ o2)
    (h1 : xC μ o0 o1 o2 → ∀ μ', FO 7 6 μ μ' → Q 1 μ') (h0 : ¬ xC μ o0 o1 o2 → Q 0 μ) :
    RMi sc (d + 1) 9003 [.inr (.inr (.inl (some (9, o0)))), .inr (.inr (.inl (some (7, o1)))), .inr (.inr (.inl (some (7, o2)))), .inr (.inr (.inl (some (7, 6))))] (t, 0, 0) μ Q :=
  sp_cross hw hA hB (fun c => h1 c _ FO.w3) h0
/-- what closes a way at a wall -/
def xB (μ : Mem) (r1 r2 : AR) (o3 w : Nat) : Prop := xC μ w o3 1 ∨ (r1 ≠ none ∧ xC μ w 0 4) ∨ (r2 ≠ none ∧ xC μ w 4 5)
theorem L10006 {sc : Scr} {d t : Nat} {μ : Mem} {P : Option AV → AS → Prop} {r1 r2 : AR} {o3 : Nat} (ho3 : o3 ≠ 6) (hW : ∀ w, w < 9 → μ 9 w 5 ≠ 0 → Wok μ w)
    (s0 : SokS μ 0) (s1 : SokS μ 1) (s3 : SokS μ o3) (s4 : r1 ≠ none → SokS μ 4) (s5 : r2 ≠ none → SokS μ 4 ∧ SokS μ 5)
    (h1 : (∀ w, w < 9 → μ 9 w 5 ≠ 0 → ¬ xB μ r1 r2 o3 w) → ∀ μ', FO 7 6 μ μ' → P (some (.inl 1)) (fs (t, 0, 0) μ'))
    (h0 : (∃ w, w < 9 ∧ μ 9 w 5 ≠ 0 ∧ xB μ r1 r2 o3 w) → ∀ μ', FO 7 6 μ μ' → P (some (.inl 0)) (fs (t, 0, 0) μ')) :
    ∀ (n x6 : Nat) (q7 : AV) (μ' : Mem), n + x6 = 9 → FO 7 6 μ μ' → (∀ w, w < x6 → μ 9 w 5 ≠ 0 → ¬ xB μ r1 r2 o3 w) →
    R_10006 sc (d + 1) P t 94 [.inr (.inr (.inl (some (10, 0)))), .inr (.inr (.inl r1)), .inr (.inr (.inl r2)), .inr (.inr (.inl (some (7, o3)))), .inr (.inr (.inl (some (26, 0)))), .inl 9, .inl (x6 : Int), q7] [] μ' := by
  intro n
  induction n with
  | zero =>
    intro x6 q7 μ' hn hF hall
    refine m_10006_94 ⟨fun _ => h1 (fun w hw => hall w (by omega)) μ' hF, fun c => absurd (by omega) c⟩
  | succ n ih =>
    intro x6 q7 μ' hn hF hall
    refine m_10006_94 ⟨fun c => absurd c (by omega), fun _ => ⟨by omega, ?_⟩⟩
    rw [Int.toNat_natCast, rF_wall (by omega)]
    have e5 : μ' 9 x6 5 = μ 9 x6 5 := hF _ _ _ (by omega)
    have nx : ∀ (μ'' : Mem), FO 7 6 μ μ'' → (μ 9 x6 5 ≠ 0 → ¬ xB μ r1 r2 o3 x6) → InI ((x6 : Int) + 1) ∧ R_10006 sc (d + 1) P t 94 [.inr (.inr (.inl (some (10, 0)))), .inr (.inr (.inl r1)), .inr (.inr (.inl r2)), .inr (.inr (.inl (some (7, o3)))), .inr (.inr (.inl (some (26, 0)))), .inl 9, .inl ((x6 : Int) + 1), .inr (.inr (.inl (some (9, x6))))] [] μ'' := by
      intro μ'' hF2 hx
      refine ⟨by omega, ?_⟩
      refine ih (x6 + 1) _ μ'' (by omega) hF2 (fun w hw h5 => ?_)
      rcases Nat.lt_succ_iff_lt_or_eq.mp hw with q | q
      · exact hall w q h5
      · subst q
        exact hx h5
    refine m_10006_106 ⟨fun c => ?_, fun c => ?_⟩
    · exact nx μ' hF fun z => absurd c (by omega)
    · have h5 : μ 9 x6 5 ≠ 0 := by omega
      have hwk := hW x6 (by omega) h5
      refine sp_cr6 (hF.wok.mpr hwk) ((hF.ss ho3).mpr s3) ((hF.ss (by decide)).mpr s1) (fun hx μ1 hF1 => ⟨fun _ => ?_, fun z => absurd (by decide) z⟩) (fun hx => ⟨fun z => absurd rfl z, fun _ => ⟨fun r => ?_, fun r => ?_⟩⟩)
      · exact h0 ⟨x6, by omega, h5, Or.inl ((hF.xc ho3 (by decide)).mp hx)⟩ μ1 (hF.trans hF1)
      · rw [hF.xc ho3 (by decide)] at hx
        refine m_10006_157 ⟨fun r2n => nx μ' hF fun _ => ?_, fun r2n => ?_⟩
        · rintro (z | z | z)
          · exact hx z
          · exact z.1 r
          · exact z.1 r2n
        · refine sp_cr6 (hF.wok.mpr hwk) ((hF.ss (by decide)).mpr (s5 r2n).1) ((hF.ss (by decide)).mpr (s5 r2n).2) (fun hx3 μ1 hF1 => ⟨fun z => absurd z (by decide), fun _ => ?_⟩) (fun hx3 => ⟨fun _ => nx μ' hF fun _ => ?_, fun z => absurd rfl z⟩)
          · exact h0 ⟨x6, by omega, h5, Or.inr (Or.inr ⟨r2n, (hF.xc (by decide) (by decide)).mp hx3⟩)⟩ μ1 (hF.trans hF1)
          · rw [hF.xc (by decide) (by decide)] at hx3
            rintro (z | z | z)
            · exact hx z
            · exact z.1 r
            · exact hx3 z.2
      · rw [hF.xc ho3 (by decide)] at hx
        refine sp_cr6 (hF.wok.mpr hwk) ((hF.ss (by decide)).mpr s0) ((hF.ss (by decide)).mpr (s4 r)) (fun hx3 μ1 hF1 => ⟨fun _ => ?_, fun z => absurd (by decide) z⟩) (fun hx3 => ⟨fun z => absurd rfl z, fun _ => ?_⟩)
        · exact h0 ⟨x6, by omega, h5, Or.inr (Or.inl ⟨r, (hF.xc (by decide) (by decide)).mp hx3⟩)⟩ μ1 (hF.trans hF1)
        · rw [hF.xc (by decide) (by decide)] at hx3
          refine m_10006_157 ⟨fun r2n => nx μ' hF fun _ => ?_, fun r2n => ?_⟩
          · rintro (z | z | z)
            · exact hx z
            · exact hx3 z.2
            · exact z.1 r2n
          · refine sp_cr6 (hF.wok.mpr hwk) ((hF.ss (by decide)).mpr (s5 r2n).1) ((hF.ss (by decide)).mpr (s5 r2n).2) (fun hx4 μ1 hF1 => ⟨fun z => absurd z (by decide), fun _ => ?_⟩) (fun hx4 => ⟨fun _ => nx μ' hF fun _ => ?_, fun z => absurd rfl z⟩)
            · exact h0 ⟨x6, by omega, h5, Or.inr (Or.inr ⟨r2n, (hF.xc (by decide) (by decide)).mp hx4⟩)⟩ μ1 (hF.trans hF1)
            · rw [hF.xc (by decide) (by decide)] at hx4
              rintro (z | z | z)
              · exact hx z
              · exact hx3 z.2
              · exact hx4 z.2
