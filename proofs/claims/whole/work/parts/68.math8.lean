/-! MATHEMATICS, 8: isOpen of the class, two walls -/
theorem sp_isOpen2 {sc : Scr} {d t : Nat} {μ : Mem} {Q : Int → Mem → Prop} {w : Wy} {a b : Nat} (hG : ∀ k, k < 9 → μ 9 k 5 ≠ 0 → Wok μ k) (ha : Wok μ a) (hb : Wok μ b) (hw : Wbd w) (r0 : Rep μ 0 Mp.one w 0 1 1) (r3 : Rep μ 3 Mp.one w 1 1 1) (r2 : Rep μ 2 (mp1 (μ 9) a) w 1 1 1) (r1 : Rep μ 1 (mp2 (μ 9) a b) w 1 1 1)
    (h1 : Op2 (μ 9) w a b → ∀ μ', Fsp μ μ' → Rep μ' 4 Mp.one w (cUp (wl (μ 9) a) w) (cLow (wl (μ 9) a) w) 1 → (∃ c, 0 < c ∧ c ≤ 474 ∧ Rep μ' 5 (mp1 (μ 9) a) w (cUp (ly (μ 9) a (wl (μ 9) b)) w) (cLow (ly (μ 9) a (wl (μ 9) b)) w) c) → Q 1 μ') (h0 : ¬ Op2 (μ 9) w a b → ∀ μ', Fsp μ μ' → Q 0 μ') :
    RMi sc (d + 2) 10006 [rfc 10 0, rfc 9 a, rfc 9 b] (t, 0, 0) μ Q := by
  have s0 := r0.sok Mbd0 hw (by decide) (by decide) (by decide) (by decide) (by decide)
  have s3 := r3.sok Mbd0 hw (by decide) (by decide) (by decide) (by decide) (by decide)
  have b1 : Mbd (mp1 (μ 9) a) := Mbd1 (g := μ 9) ha
  have b2 : Mbd (mp2 (μ 9) a b) := Mbd2 (g := μ 9) ha hb
  refine m_10006 ⟨fun c => absurd c (by simp), fun _ => m_10006_4 ?_⟩
  refine sp_crR r0 r3 ok0 (LnR0 (wl (μ 9) a)) (by decide) (by decide) (by decide) (by decide) (by decide) ha s0 s3 (fun hit μ1 hF1 r4 => ⟨fun _ => ⟨fun c => absurd c (by simp), fun _ => m_10006_29 ?_⟩, fun c => absurd (by decide) c⟩) (fun hn => ⟨fun c => absurd rfl c, fun _ => PI_mk (h0 (fun z => hn z.1) μ (fun _ _ _ _ => rfl))⟩)
  obtain ⟨hu, hul⟩ := hit_01 hit
  have hlb := cLow_bd (L := wl (μ 9) a) hw
  have e9 := hF1.c9
  have r0' := r0.fo hF1 (by decide)
  have r1' := r1.fo hF1 (by decide)
  have r2' := r2.fo hF1 (by decide)
  have r4n : Rep μ1 4 Mp.one w (cUp (wl (μ 9) a) w) (cLow (wl (μ 9) a) w) 1 := r4
  have r4' : Rep μ1 4 (mp1 (μ 9) a) w (cUp (wl (μ 9) a) w) (cLow (wl (μ 9) a) w) 1 := by
    obtain ⟨q1, q2⟩ := pt_rf (w := w) (LnR0 (wl (μ 9) a))
    refine ⟨?_, ?_, r4n.2.2⟩
    · rw [r4n.1]; exact congrArg _ q1.symm
    · rw [r4n.2.1]; exact congrArg _ q2.symm
  have s4 := r4n.sok Mbd0 hw (by omega) (by omega) (by omega) (by omega) (by decide)
  have s2 := r2'.sok b1 hw (by decide) (by decide) (by decide) (by decide) (by decide)
  have L1 : LnR (mp1 (μ 9) a) (ly (μ 9) a (wl (μ 9) b)) (wl (μ 9) b) := LnR1 ha.1 hb.1
  refine sp_crR r4' r2' b1.1 (by rw [e9]; exact L1) (by omega) (by decide) (by decide) (by decide) (by omega) (hF1.wok.mpr hb) s4 s2 (fun hit2 μ2 hF2 r5 => ⟨fun _ => m_10006_50 ⟨fun _ => ⟨fun _ => ?_, fun c => absurd (by simp) c⟩, fun c => absurd (by simp) c⟩, fun c => absurd (by decide) c⟩) (fun hn => ⟨fun c => absurd rfl c, fun _ => PI_mk (h0 (fun z => hn z.2.1) μ1 (hF1.sp (by decide)))⟩)
  obtain ⟨hu2, hul2, hord⟩ := hit_u1 hu (by omega) hit2
  have hlb2 := cLow_bd (L := ly (μ 9) a (wl (μ 9) b)) hw
  have e92 : μ2 9 = μ 9 := by rw [hF2.c9, e9]
  have r0'' := r0'.fo hF2 (by decide)
  have r1'' := r1'.fo hF2 (by decide)
  have r4n2 := r4n.fo hF2 (by decide)
  have r42 := r4'.fo hF2 (by decide)
  have s4' : SokS μ2 4 := (hF2.ss (by decide)).mpr s4
  have r5' : Rep μ2 5 (mp2 (μ 9) a b) w (cUp (ly (μ 9) a (wl (μ 9) b)) w) (cLow (ly (μ 9) a (wl (μ 9) b)) w) (1 * 1 * (1 * cLow (wl (μ 9) a) w - cUp (wl (μ 9) a) w * 1)) := by
    obtain ⟨q1, q2⟩ := pt_rf (w := w) L1
    refine ⟨?_, ?_, r5.2.2⟩
    · rw [r5.1]; exact congrArg _ q1.symm
    · rw [r5.2.1]; exact congrArg _ q2.symm
  have s5 := r5.sok b1 hw (by omega) (by omega) (by omega) (by omega) (by omega)
  have s1 := r1''.sok b2 hw (by decide) (by decide) (by decide) (by decide) (by decide)
  have hG1 : ∀ k, k < 9 → μ2 9 k 5 ≠ 0 → Wok μ2 k := fun k hk h5 => hF2.wok.mpr (hF1.wok.mpr (hG k hk (by rw [← e92]; exact h5)))
  have e : ∀ k, k < 9 → μ2 9 k 5 ≠ 0 → (xB μ2 (some (9, a)) (some (9, b)) 5 k ↔ (Hit (ly (μ 9) a (ly (μ 9) b (wl (μ 9) k))) w (cUp (ly (μ 9) a (wl (μ 9) b)) w) (cLow (ly (μ 9) a (wl (μ 9) b)) w) 1 1 ∨ Hit (wl (μ 9) k) w 0 1 (cUp (wl (μ 9) a) w) (cLow (wl (μ 9) a) w) ∨ Hit (ly (μ 9) a (wl (μ 9) k)) w (cUp (wl (μ 9) a) w) (cLow (wl (μ 9) a) w) (cUp (ly (μ 9) a (wl (μ 9) b)) w) (cLow (ly (μ 9) a (wl (μ 9) b)) w))) := by
    intro k hk h5
    have hkf := (hG k hk (by rw [← e92]; exact h5)).1
    rw [← xC_rep r5' r1'' b2.1 (by rw [e92]; exact LnR2 ha.1 hb.1 hkf) (by omega) (by decide) (by omega) (by decide) (by omega), ← xC_rep r0'' r4n2 ok0 (by rw [e92]; exact LnR0 _) (by decide) (by omega) (by decide) (by decide) (by omega), ← xC_rep r42 r5 b1.1 (by rw [e92]; exact LnR1 ha.1 hkf) (by omega) (by omega) (by decide) (by omega) hord]
    unfold xB
    constructor
    · rintro (z | z | z)
      · exact Or.inl z
      · exact Or.inr (Or.inl z.2)
      · exact Or.inr (Or.inr z.2)
    · rintro (z | z | z)
      · exact Or.inl z
      · exact Or.inr (Or.inl ⟨by simp, z⟩)
      · exact Or.inr (Or.inr ⟨by simp, z⟩)
  refine L10006 (o3 := 5) (by decide) hG1 ((hF2.ss (by decide)).mpr ((hF1.ss (by decide)).mpr s0)) s1 s5 (fun _ => s4') (fun _ => ⟨s4', s5⟩) (fun hall μ' hF => PI_mk (h1 ⟨hit, hit2, fun k hk h5 => ?_⟩ μ' (((hF1.sp (by decide)).trans (hF2.sp (by decide))).trans (hF.sp (by decide))) (r4n2.fo hF (by decide)) ⟨_, by omega, by omega, r5.fo hF (by decide)⟩)) (fun hex μ' hF => PI_mk (h0 (fun z => ?_) μ' (((hF1.sp (by decide)).trans (hF2.sp (by decide))).trans (hF.sp (by decide))))) 9 0 vx μ2 rfl FO.rfl (fun k hk => absurd hk (Nat.not_lt_zero _))
  · rw [← e92] at h5
    have := hall k hk h5
    rw [e k hk h5] at this
    exact ⟨fun z => this (Or.inr (Or.inl z)), fun z => this (Or.inr (Or.inr z)), fun z => this (Or.inl z)⟩
  · obtain ⟨k, hk, h5, hb⟩ := hex
    rw [e k hk h5] at hb
    rw [e92] at h5
    obtain ⟨q1, q2, q3⟩ := z.2.2 k hk h5
    rcases hb with z | z | z
    · exact q3 z
    · exact q1 z
    · exact q2 z
