/-! MATHEMATICS, 30: the same walls, the same returns -/
def Gq (g g' : Gf) : Prop := ∀ w, w < 9 → g w 5 = g' w 5 ∧ (g w 5 ≠ 0 → ∀ k, k < 5 → g w k = g' w k)
theorem Gq.l1 {g g' : Gf} (h : Gq g g') {w : Nat} (hw : w < 9) (t : g w 5 ≠ 0) : wl g w = wl g' w := by
  have e := (h w hw).2 t
  unfold wl
  rw [e 0 (by decide), e 1 (by decide), e 2 (by decide), e 3 (by decide)]
theorem Gq.l2 {g g' : Gf} (h : Gq g g') {w : Nat} (hw : w < 9) (t : g w 5 ≠ 0) (L : Ln) : ly g w L = ly g' w L := by
  have e := (h w hw).2 t
  unfold ly
  rw [e 0 (by decide), e 1 (by decide)]
theorem Gq.x {g g' : Gf} (h : Gq g g') {w : Nat} (hw : w < 9) (t : g w 5 ≠ 0) (x : Int) : lyX g w x = lyX g' w x ∧ lyY g w x = lyY g' w x := by
  have e := (h w hw).2 t
  unfold lyX lyY
  rw [e 0 (by decide), e 1 (by decide)]
  exact ⟨rfl, rfl⟩
theorem Gq.symm {g g' : Gf} (h : Gq g g') : Gq g' g := fun w hw => ⟨(h w hw).1.symm, fun t k hk => ((h w hw).2 (by rw [(h w hw).1]; exact t) k hk).symm⟩
theorem Gq.o0 {g g' : Gf} (h : Gq g g') {w : Wy} (o : Op0 g w) : Op0 g' w := by
  intro k hk t
  have t' : g k 5 ≠ 0 := by rw [(h k hk).1]; exact t
  rw [← h.l1 hk t']
  exact o k hk t'
theorem Gq.o1 {g g' : Gf} (h : Gq g g') {w : Wy} {a : Nat} (ha : a < 9) (ta : g a 5 ≠ 0) (o : Op1 g w a) : Op1 g' w a := by
  unfold Op1 at *
  rw [h.l1 ha ta] at o
  refine ⟨o.1, fun k hk t => ?_⟩
  have t' : g k 5 ≠ 0 := by rw [(h k hk).1]; exact t
  have := o.2 k hk t'
  rw [h.l1 hk t', h.l2 ha ta] at this
  exact this
theorem Gq.o2 {g g' : Gf} (h : Gq g g') {w : Wy} {a b : Nat} (ha : a < 9) (ta : g a 5 ≠ 0) (hb : b < 9) (tb : g b 5 ≠ 0) (o : Op2 g w a b) : Op2 g' w a b := by
  unfold Op2 at *
  rw [h.l1 ha ta, h.l1 hb tb, h.l2 ha ta] at o
  refine ⟨o.1, o.2.1, fun k hk t => ?_⟩
  have t' : g k 5 ≠ 0 := by rw [(h k hk).1]; exact t
  have := o.2.2 k hk t'
  rw [h.l1 hk t', h.l2 ha ta, h.l2 ha ta, h.l2 hb tb] at this
  exact this
theorem Gq.w1 {g g' : Gf} (h : Gq g g') {px py qx qy : Int} {a : Nat} (ha : a < 9) (ta : g a 5 ≠ 0) : wy1 g px py qx qy a = wy1 g' px py qx qy a := by
  unfold wy1
  rw [(h.x ha ta qx).1, (h.x ha ta qy).2]
theorem Gq.w2 {g g' : Gf} (h : Gq g g') {px py qx qy : Int} {a b : Nat} (ha : a < 9) (ta : g a 5 ≠ 0) (hb : b < 9) (tb : g b 5 ≠ 0) : wy2 g px py qx qy a b = wy2 g' px py qx qy a b := by
  unfold wy2
  rw [(h.x hb tb qx).1, (h.x hb tb qy).2, (h.x ha ta _).1, (h.x ha ta _).2]
theorem Gq.rets {g g' : Gf} (h : Gq g g') (pace fall s px py qx qy : Int) : rets g pace fall s px py qx qy = rets g' pace fall s px py qx qy := by
  have in_ : ∀ (a : Nat) (L : Lst), a < 9 → g a 5 ≠ 0 → ∀ b, b ≤ 9 → inL g pace fall s px py qx qy a b L = inL g' pace fall s px py qx qy a b L := by
    intro a L ha ta b
    induction b with
    | zero => exact fun _ => rfl
    | succ b ih =>
      intro hb
      rw [inL_s, inL_s, ih (by omega), (h b (by omega)).1]
      by_cases c : b = a ∨ g' b 5 = 0
      · rw [if_pos c, if_pos c]
      · rw [if_neg c, if_neg c]
        have tb : g b 5 ≠ 0 := by rw [(h b (by omega)).1]; omega
        have ta' : g' a 5 ≠ 0 := by rw [← (h a ha).1]; exact ta
        have tb' : g' b 5 ≠ 0 := by rw [← (h b (by omega)).1]; exact tb
        unfold st2
        rw [h.w2 ha ta (by omega) tb, (h a ha).2 ta 4 (by decide), (h b (by omega)).2 tb 4 (by decide)]
        exact ic_c ⟨fun z => ⟨h.o2 ha ta (by omega) tb z.1, z.2⟩, fun z => ⟨h.symm.o2 ha ta' (by omega) tb' z.1, z.2⟩⟩
  have ou : ∀ a, a ≤ 9 → ouL g pace fall s px py qx qy a = ouL g' pace fall s px py qx qy a := by
    intro a
    induction a with
    | zero =>
      intro _
      show st0 g pace fall s px py qx qy _ = st0 g' pace fall s px py qx qy _
      unfold st0
      exact ic_c ⟨fun z => ⟨h.o0 z.1, z.2⟩, fun z => ⟨h.symm.o0 z.1, z.2⟩⟩
    | succ a ih =>
      intro ha
      rw [ouL_s, ouL_s, ih (by omega), (h a (by omega)).1]
      by_cases c : g' a 5 = 0
      · rw [if_pos c, if_pos c]
      · rw [if_neg c, if_neg c]
        have ta : g a 5 ≠ 0 := by rw [(h a (by omega)).1]; exact c
        rw [in_ a _ (by omega) ta 9 (by decide)]
        congr 1
        unfold st1
        rw [h.w1 (by omega) ta, (h a (by omega)).2 ta 4 (by decide)]
        exact ic_c ⟨fun z => ⟨h.o1 (by omega) ta z.1, z.2⟩, fun z => ⟨h.symm.o1 (by omega) c z.1, z.2⟩⟩
  exact ou 9 (by decide)
/-- the reference's echo -/
theorem MOK.gk {μ : Mem} (hM : MO μ) : ∀ w, w < 9 → gM μ w 5 ≠ 0 → gok (gM μ) w := hM.1.2.2.2
theorem L11069 {sc : Scr} {d t : Nat} {μ : Mem} {P : Option AV → AS → Prop} {L : Lst} {x1 x2 x3 : Int} (hL : LMl μ L) (h82 : L.2 ≤ 82) (h : P (some (.inl (ech L))) (fs (t, 0, 0) μ)) :
    ∀ (n i : Nat), n + i = L.2 → echG L.1 n i = ech L → R_11069 sc (d + 1) P t 12 [rfc 11 0, .inl x1, .inl x2, .inl x3, .inl (i : Int)] [] μ := by
  intro n
  induction n with
  | zero =>
    intro i hi e
    refine m_11069_12 ⟨fun _ => ?_, fun c => absurd (by rw [hL.1]; omega) c⟩
    rw [← e] at h
    exact h
  | succ n ih =>
    intro i hi e
    have h4 := hL.1
    obtain ⟨a0, a1, -, -⟩ := hL.e (i := i) (by omega)
    unfold echG at e
    refine m_11069_12 ⟨fun c => absurd c (by omega), fun _ => ?_⟩
    rw [Int.toNat_natCast, a0, a1]
    refine ⟨by omega, fun c => ⟨by omega, ih (i + 1) (by omega) ?_⟩, fun c => ⟨by omega, ?_⟩⟩
    · rw [if_neg fun z => z c] at e
      exact e
    · rw [if_pos c] at e
      rw [e]
      exact h
theorem sp_echo {sc : Scr} {d t : Nat} {μ : Mem} {Q : Int → Mem → Prop} {x y s : Int} (hM : MO μ) (hp : Pl x y) (bs : 0 ≤ s ∧ s ≤ 99) (h : ∀ μ', Fm 49 μ μ' → Q (ech (rets (gM μ) (μ 11 0 48) (fallM μ) s x y x y)) μ') : RMi sc (d + 6) 11069 [rfc 11 0, .inl x, .inl y, .inl s] (t, 0, 0) μ Q :=
  m_11069 (sp_fills hM hp hp bs fun μ1 F1 L1 => L11069 L1 (rets_le _ _ _ _ _ _ _ _) (PI_mk (h μ1 F1)) _ 0 rfl rfl)
