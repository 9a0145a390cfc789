/-! MATHEMATICS, 7: isOpen of the class -/
theorem FO.c9 {i : Nat} {μ μ' : Mem} (h : FO 7 i μ μ') : μ' 9 = μ 9 := by
  funext a k
  exact h _ _ _ (by omega)
def Fsp (μ μ' : Mem) : Prop := ∀ c i k, ¬ (c = 7 ∧ 4 ≤ i ∧ i ≤ 6) → μ' c i k = μ c i k
theorem FO.sp {i : Nat} {μ μ' : Mem} (h : FO 7 i μ μ') (hi : 4 ≤ i ∧ i ≤ 6) : Fsp μ μ' := fun c j k z => h c j k (by omega)
theorem Fsp.trans {μ μ' μ'' : Mem} (h : Fsp μ μ') (h2 : Fsp μ' μ'') : Fsp μ μ'' := fun a b e z => (h2 a b e z).trans (h a b e z)
abbrev rfc (c o : Nat) : AV := .inr (.inr (.inl (some (c, o))))
abbrev rfn : AV := .inr (.inr (.inl none))
theorem hit_01 {L : Ln} {w : Wy} (h : Hit L w 0 1 1 1) : 0 < cUp L w ∧ cUp L w < cLow L w := by
  have := h.2
  unfold cIn at this
  omega
theorem hit_u1 {L : Ln} {w : Wy} {u l : Int} (hu : 0 < u) (hl : 0 < l) (h : Hit L w u l 1 1) : 0 < cUp L w ∧ cUp L w < cLow L w ∧ u * cLow L w < cUp L w * l := by
  have h2 := h.2
  unfold cIn at h2
  have hp := cLow_pos h.1.1
  have : 0 < u * cLow L w := Int.mul_pos hu hp
  have h3 : 0 < cUp L w * l := by omega
  exact ⟨Int.pos_of_mul_pos_left h3 hl, by omega, h2.1⟩
theorem sp_isOpen0 {sc : Scr} {d t : Nat} {μ : Mem} {Q : Int → Mem → Prop} {w : Wy} (hG : ∀ k, k < 9 → μ 9 k 5 ≠ 0 → Wok μ k) (hw : Wbd w) (r0 : Rep μ 0 Mp.one w 0 1 1) (r1 : Rep μ 1 Mp.one w 1 1 1)
    (h1 : Op0 (μ 9) w → ∀ μ', Fsp μ μ' → Q 1 μ') (h0 : ¬ Op0 (μ 9) w → ∀ μ', Fsp μ μ' → Q 0 μ') :
    RMi sc (d + 2) 10006 [rfc 10 0, rfn, rfn] (t, 0, 0) μ Q := by
  have s0 := r0.sok Mbd0 hw (by decide) (by decide) (by decide) (by decide) (by decide)
  have s1 := r1.sok Mbd0 hw (by decide) (by decide) (by decide) (by decide) (by decide)
  have e : ∀ k, k < 9 → μ 9 k 5 ≠ 0 → (xB μ none none 0 k ↔ Hit (wl (μ 9) k) w 0 1 1 1) := by
    intro k _ _
    rw [← xC_rep r0 r1 ok0 (LnR0 _) (by decide) (by decide) (by decide) (by decide) (by decide)]
    unfold xB
    constructor
    · rintro (z | z | z)
      · exact z
      · exact absurd rfl z.1
      · exact absurd rfl z.1
    · exact Or.inl
  refine m_10006 ⟨fun _ => ⟨fun _ => m_10006_50 ⟨fun c => absurd rfl c, fun _ => ?_⟩, fun c => absurd rfl c⟩, fun c => absurd rfl c⟩
  refine L10006 (o3 := 0) (by decide) hG s0 s1 s0 (fun c => absurd rfl c) (fun c => absurd rfl c) (fun hall μ' hF => PI_mk (h1 (fun k hk h5 z => hall k hk h5 ((e k hk h5).mpr z)) μ' (hF.sp (by decide)))) (fun hex μ' hF => PI_mk (h0 (fun z => ?_) μ' (hF.sp (by decide)))) 9 0 vx μ rfl FO.rfl (fun k hk => absurd hk (Nat.not_lt_zero _))
  obtain ⟨k, hk, h5, hb⟩ := hex
  exact z k hk h5 ((e k hk h5).mp hb)
theorem sp_isOpen1 {sc : Scr} {d t : Nat} {μ : Mem} {Q : Int → Mem → Prop} {w : Wy} {a : Nat} (hG : ∀ k, k < 9 → μ 9 k 5 ≠ 0 → Wok μ k) (ha : Wok μ a) (hw : Wbd w) (r0 : Rep μ 0 Mp.one w 0 1 1) (r3 : Rep μ 3 Mp.one w 1 1 1) (r1 : Rep μ 1 (mp1 (μ 9) a) w 1 1 1)
    (h1 : Op1 (μ 9) w a → ∀ μ', Fsp μ μ' → Rep μ' 4 Mp.one w (cUp (wl (μ 9) a) w) (cLow (wl (μ 9) a) w) 1 → Q 1 μ') (h0 : ¬ Op1 (μ 9) w a → ∀ μ', Fsp μ μ' → Q 0 μ') :
    RMi sc (d + 2) 10006 [rfc 10 0, rfc 9 a, rfn] (t, 0, 0) μ Q := by
  have s0 := r0.sok Mbd0 hw (by decide) (by decide) (by decide) (by decide) (by decide)
  have s3 := r3.sok Mbd0 hw (by decide) (by decide) (by decide) (by decide) (by decide)
  have b1 : Mbd (mp1 (μ 9) a) := Mbd1 (g := μ 9) ha
  refine m_10006 ⟨fun c => absurd c (by simp), fun _ => m_10006_4 ?_⟩
  refine sp_crR r0 r3 ok0 (LnR0 (wl (μ 9) a)) (by decide) (by decide) (by decide) (by decide) (by decide) ha s0 s3 (fun hit μ1 hF1 r4 => ⟨fun _ => ⟨fun _ => m_10006_50 ⟨fun _ => ⟨fun c => absurd rfl c, fun _ => ?_⟩, fun c => absurd (by simp) c⟩, fun c => absurd rfl c⟩, fun c => absurd (by decide) c⟩) (fun hn => ⟨fun c => absurd rfl c, fun _ => PI_mk (h0 (fun z => hn z.1) μ (fun _ _ _ _ => rfl))⟩)
  obtain ⟨hu, hul⟩ := hit_01 hit
  have hlb := cLow_bd (L := wl (μ 9) a) hw
  have e9 := hF1.c9
  have r0' := r0.fo hF1 (by decide)
  have r1' := r1.fo hF1 (by decide)
  have r4n : Rep μ1 4 Mp.one w (cUp (wl (μ 9) a) w) (cLow (wl (μ 9) a) w) 1 := r4
  have r4' : Rep μ1 4 (mp1 (μ 9) a) w (cUp (wl (μ 9) a) w) (cLow (wl (μ 9) a) w) 1 := by
    obtain ⟨q1, q2⟩ := pt_rf (w := w) (LnR0 (wl (μ 9) a))
    refine ⟨?_, ?_, r4n.2.2⟩
    · rw [r4n.1]; exact congrArg _ q1.symm
    · rw [r4n.2.1]; exact congrArg _ q2.symm
  have s4 := r4n.sok Mbd0 hw (by omega) (by omega) (by omega) (by omega) (by decide)
  have s1 := r1'.sok b1 hw (by decide) (by decide) (by decide) (by decide) (by decide)
  have hG1 : ∀ k, k < 9 → μ1 9 k 5 ≠ 0 → Wok μ1 k := fun k hk h5 => hF1.wok.mpr (hG k hk (by rw [← e9]; exact h5))
  have e : ∀ k, k < 9 → μ1 9 k 5 ≠ 0 → (xB μ1 (some (9, a)) none 4 k ↔ (Hit (ly (μ 9) a (wl (μ 9) k)) w (cUp (wl (μ 9) a) w) (cLow (wl (μ 9) a) w) 1 1 ∨ Hit (wl (μ 9) k) w 0 1 (cUp (wl (μ 9) a) w) (cLow (wl (μ 9) a) w))) := by
    intro k hk h5
    have hkf := (hG k hk (by rw [← e9]; exact h5)).1
    rw [← xC_rep r4' r1' b1.1 (by rw [e9]; exact LnR1 ha.1 hkf) (by omega) (by decide) (by decide) (by decide) (by omega), ← xC_rep r0' r4n ok0 (by rw [e9]; exact LnR0 _) (by decide) (by omega) (by decide) (by decide) (by omega)]
    unfold xB
    constructor
    · rintro (z | z | z)
      · exact Or.inl z
      · exact Or.inr z.2
      · exact absurd rfl z.1
    · rintro (z | z)
      · exact Or.inl z
      · exact Or.inr (Or.inl ⟨by simp, z⟩)
  refine L10006 (o3 := 4) (by decide) hG1 ((hF1.ss (by decide)).mpr s0) s1 s4 (fun _ => s4) (fun c => absurd rfl c) (fun hall μ' hF => PI_mk (h1 ⟨hit, fun k hk h5 => ?_⟩ μ' ((hF1.sp (by decide)).trans (hF.sp (by decide))) (r4n.fo hF (by decide)))) (fun hex μ' hF => PI_mk (h0 (fun z => ?_) μ' ((hF1.sp (by decide)).trans (hF.sp (by decide))))) 9 0 vx μ1 rfl FO.rfl (fun k hk => absurd hk (Nat.not_lt_zero _))
  · rw [← e9] at h5
    have := hall k hk h5
    rw [e k hk h5] at this
    exact ⟨fun z => this (Or.inr z), fun z => this (Or.inl z)⟩
  · obtain ⟨k, hk, h5, hb⟩ := hex
    rw [e k hk h5] at hb
    rw [e9] at h5
    obtain ⟨q1, q2⟩ := z.2 k hk h5
    rcases hb with z | z
    · exact q2 z
    · exact q1 z
