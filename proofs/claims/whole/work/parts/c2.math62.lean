/-! MATHEMATICS, 62: hush, the one side -/
def hsG (g : Gf) (n v : Nat) : Gf := fun u k => if u < n ∧ k = 5 then ((v / 2 ^ u % 2 : Nat) : Int) else g u k
noncomputable def quiet (μ : Mem) (m e : Int) (v : Nat) : Prop := ech (rets (hsG (μ 9) (Cn μ) v) (μ 1 0 7) (μ 1 0 8) (μ 29 0 m.toNat) (μ 27 0 m.toNat) (μ 28 0 m.toNat) (μ 27 1 e.toNat) (μ 28 1 e.toNat)) < 0
def mskN (st v : Nat) : Nat := Nat.land st (255 - v)
noncomputable def hcL (q : Nat → Prop) (st : Nat) : Nat → Nat
  | 0 => st
  | v + 1 => ic (Nat.land v (255 - st) = 0 ∧ pcN v < pcN (hcL q st v) ∧ q v) v (hcL q st v)
theorem hcL_s (q : Nat → Prop) (st v : Nat) : hcL q st (v + 1) = ic (Nat.land v (255 - st) = 0 ∧ pcN v < pcN (hcL q st v) ∧ q v) v (hcL q st v) := rfl
theorem hcL_le (q : Nat → Prop) (st : Nat) : ∀ v, v ≤ st → hcL q st v ≤ st
  | 0, _ => Nat.le_refl _
  | v + 1, h => by
    rw [hcL_s]
    by_cases c : (Nat.land v (255 - st) = 0 ∧ pcN v < pcN (hcL q st v) ∧ q v)
    · rw [ic_t c]; omega
    · rw [ic_f c]; exact hcL_le q st v (by omega)
abbrev stN (μ : Mem) : Nat := sbN (fun w => μ 9 w 5) (Cn μ)
noncomputable def F_hush (m e : Int) (μ : Mem) : Int := ic (Nm μ 0 m ∧ Nm μ 1 e) ((hcL (fun v => quiet μ m e (mskN (stN μ) v)) (stN μ) (stN μ) : Nat) : Int) (-1)
def FHc (μ0 μ : Mem) : Prop := ∀ c i k, ¬ (c = 9 ∧ i < Cn μ0 ∧ k = 5) → ¬ (c = 7 ∧ 2 ≤ i) → μ c i k = μ0 c i k
theorem FHc.c {μ0 μ : Mem} (h : FHc μ0 μ) {c : Nat} (h1 : c ≠ 9) (h2 : c ≠ 7) : μ c = μ0 c := by
  funext i k
  exact h c i k (by omega) (by omega)
theorem FHc.hs {μ0 μ : Mem} (h : FHc μ0 μ) {v : Nat} (hv : ∀ w, w < Cn μ0 → μ 9 w 5 = ((v / 2 ^ w % 2 : Nat) : Int)) : μ 9 = hsG (μ0 9) (Cn μ0) v := by
  funext u k
  unfold hsG
  by_cases q : u < Cn μ0 ∧ k = 5
  · rw [if_pos q, q.2]
    exact hv u q.1
  · rw [if_neg q]
    exact h 9 u k (by omega) (by omega)
theorem Sim.cn {μ : Mem} (h : Sim μ) : ((Cn μ : Nat) : Int) = μ 1 0 1 ∧ Cn μ ≤ 8 := by
  have := h.1.2.2.1
  unfold Cn
  omega
theorem FHc.co {μ0 μ : Mem} (hS : Sim μ0) (h : FHc μ0 μ) : CO μ := by
  have hC := hS.co
  have e1 : μ 1 = μ0 1 := h.c (by decide) (by decide)
  have cn := hS.cn
  refine ⟨fun u hu t => ?_, by rw [e1]; exact hC.2.1, by rw [e1]; exact hC.2.2⟩
  have e : ∀ k, k ≠ 5 → μ 9 u k = μ0 9 u k := fun k hk => h 9 u k (by omega) (by omega)
  unfold Wok
  rw [e 0 (by decide), e 1 (by decide), e 2 (by decide), e 3 (by decide), e 4 (by decide)]
  by_cases q : u < Cn μ0
  · exact (hS.1.2.2.2.1 u (by omega)).2.2
  · rw [h 9 u 5 (by omega) (by omega)] at t
    exact hC.1 u hu t
theorem FHc.spn {μ0 μ : Mem} (h : FHc μ0 μ) {a b c d : Int} (hs : Spn μ0 a b c d) : Spn μ a b c d := by
  unfold Spn at *
  rw [h 7 0 0 (by omega) (by omega), h 7 0 1 (by omega) (by omega), h 7 0 2 (by omega) (by omega), h 7 1 0 (by omega) (by omega), h 7 1 1 (by omega) (by omega), h 7 1 2 (by omega) (by omega)]
  exact hs
theorem tns_q {g : Gf} {pace fall s px py qx qy B : Int} (hp : 1 ≤ pace) (hB : Bst (Tns g fall s px py qx qy) B) : B < 0 ↔ ech (rets g pace fall s px py qx qy) < 0 := by
  have e := ech_eq hp hB
  have nn := tmv_nn (p := pace) (a := B) hp
  constructor
  · intro z
    rw [if_pos z] at e
    omega
  · intro z
    by_cases c : B < 0
    · exact c
    · rw [if_neg c] at e
      omega
theorem c_hush {sc : Scr} {t : Nat} {m e : Int} (μ : Mem) (Q : Int → Mem → Prop) (hS : Sim μ) (h : ∀ μ', FW μ μ' → Q (F_hush m e μ) μ') : RMi sc 13 40 [rfc 0 0, .inl m, .inl e] (t, 0, 0) μ Q := by
  unfold F_hush at h
  have no : ¬ (Nm μ 0 m ∧ Nm μ 1 e) → Q (-1) μ := by
    intro z
    rw [ic_f z] at h
    exact h _ FW.rfl
  have hF := hS.2.2.1
  refine m_40 (sp_has (N := 6) rfl hF.1.c6 (fun hm => ⟨fun z => absurd z (by decide), fun _ => sp_has (N := 6) rfl hF.2.1.c6 (fun he => ⟨fun _ => sp_spanFrom hF hm he fun μ1 F1 s1 => ?_, fun z => absurd (by decide) z⟩) (fun he => ⟨fun z => absurd rfl z, fun _ => no fun z => he z.2⟩)⟩) (fun hm => ⟨fun _ => no fun z => hm z.1, fun z => absurd rfl z⟩))
  rw [ic_t ⟨hm, he⟩] at h
  have S1 := hS.fw F1.fw
  have e1 : μ1 1 = μ 1 := F1.c (by decide)
  have e9 : μ1 9 = μ 9 := F1.c (by decide)
  have e3 : μ1 3 = μ 3 := F1.c (by decide)
  have e29 : μ1 29 = μ 29 := F1.c (by decide)
  have ec : Cn μ1 = Cn μ := by unfold Cn; rw [e1]
  have cn := hS.cn
  refine sp_lAt (N := 6) rfl rfl (by rw [e3]; exact hF.1.c6) (by rw [e3]; exact hm) ?_
  rw [e29]
  have ll := (hF.ml hm).2
  have pm := hS.pl (hF.1.at hm).2.2
  have pe := hS.pl (hF.2.1.at he).2.2
  refine sp_standing (by rw [e1]; exact hS.1.2.2.1) ?_
  rw [ec, e9]
  have st256 : stN μ < 256 := sbN_256 _ cn.2
  have lp : ∀ (n v : Nat) (μ' : Mem), n + v = stN μ → FHc μ1 μ' → R_40 sc 12 (PI t Q) t 64 [rfc 0 0, .inl m, .inl e, .inl (μ 29 0 m.toNat), .inl ((stN μ : Nat) : Int), .inl ((hcL (fun v => quiet μ m e (mskN (stN μ) v)) (stN μ) v : Nat) : Int), .inl (v : Int)] [] μ' := by
    intro n
    induction n with
    | zero =>
      intro v μ' hv hH
      have : v = stN μ := by omega
      subst this
      have e1' : μ' 1 = μ1 1 := hH.c (by decide) (by decide)
      refine m_40_64 ⟨fun _ => sp_setStanding st256 (by rw [e1', e1]; exact hS.1.2.2.1) fun μ2 F2 k2 => PI_mk (h μ2 ?_), fun z => absurd (Int.le_refl _) z⟩
      have ec' : Cn μ' = Cn μ := by unfold Cn; rw [e1', e1]
      rw [ec'] at F2 k2
      have all : ∀ c i k, c ≠ 7 → μ2 c i k = μ c i k := by
        intro c i k h7
        by_cases q : c = 9 ∧ i < Cn μ ∧ k = 5
        · obtain ⟨rfl, hi, rfl⟩ := q
          rw [k2 i hi, sbN_d _ _ cn.2 i hi]
          have f := hS.1.2.2.2.2.2.2 (ix9 μ i) (by have l := hS.1.1; unfold liv at l; unfold ix9; omega)
          rw [← (hS.1.2.2.2.1 i (by omega)).2.1] at f
          rcases f with f | f
          · rw [if_pos f, f]; rfl
          · rw [if_neg (by omega), f]; rfl
        · rw [F2 c i k (by omega), hH c i k (by rw [ec]; exact q) (by omega), F1 c i k h7]
      refine ⟨fun c k => ?_, fun k _ => all 11 0 k (by decide), fun w _ => ?_, all 9 8 5 (by decide), fun c i j a _ _ => all c i j (by omega)⟩
      · unfold Kp at k
        funext i j
        exact all c i j (by omega)
      · funext k
        exact all 9 w k (by decide)
    | succ n ih =>
      intro v μ' hv hH
      have v256 : v < 256 := by omega
      have hl := hcL_le (fun v => quiet μ m e (mskN (stN μ) v)) (stN μ) v (by omega)
      have e1' : μ' 1 = μ1 1 := hH.c (by decide) (by decide)
      have ec' : Cn μ' = Cn μ := by unfold Cn; rw [e1', e1]
      have nx : ∀ μ2, FHc μ1 μ2 → ∀ b : Nat, hcL (fun v => quiet μ m e (mskN (stN μ) v)) (stN μ) (v + 1) = b → R_40 sc 12 (PI t Q) t 64 [rfc 0 0, .inl m, .inl e, .inl (μ 29 0 m.toNat), .inl ((stN μ : Nat) : Int), .inl (b : Int), .inl ((v : Int) + 1)] [] μ2 := by
        intro μ2 H2 b hb
        rw [← hb]
        exact ih (v + 1) μ2 (by omega) H2
      refine m_40_64 ⟨fun z => absurd z (by omega), fun _ => ?_⟩
      rw [tb_an v v256 _ st256, tb_an _ st256 v v256]
      refine ⟨fun z => ⟨by omega, nx μ' hH _ ?_⟩, fun z => sp_bitCount v256 (sp_bitCount (by omega) ⟨fun z2 => ⟨by omega, nx μ' hH _ ?_⟩, fun z2 => ?_⟩)⟩
      · rw [hcL_s, ic_f fun y => z (by rw [y.1]; rfl)]
      · rw [hcL_s, ic_f fun y => by have := y.2.1; omega]
      · refine sp_setStanding (tb_lt _ st256 v v256) (by rw [e1', e1]; exact hS.1.2.2.1) fun μ2 F2 k2 => ?_
        rw [ec'] at F2 k2
        have H2 : FHc μ1 μ2 := fun c i k a b => by
          rw [F2 c i k (by rw [ec] at a; exact a)]
          exact hH c i k a b
        have g9 : μ2 9 = hsG (μ 9) (Cn μ) (mskN (stN μ) v) := by
          have := H2.hs (v := mskN (stN μ) v) (fun w hw => k2 w (by rw [← ec]; exact hw))
          rw [e9, ec] at this
          exact this
        have e12 : μ2 1 = μ 1 := (H2.c (by decide) (by decide)).trans e1
        refine sp_shortN (H2.co S1) pm pe (H2.spn s1) ll.b fun μ3 B F3 hB hB2 => ?_
        have H3 : FHc μ1 μ3 := fun c i k a b => (F3 c i k (by omega)).trans (H2 c i k a b)
        rw [g9, e12] at hB
        have qq := tns_q (pace := μ 1 0 7) hS.co.2.1.1 hB
        rw [lc_ge]
        refine ⟨fun z3 => ⟨by omega, nx μ3 H3 _ ?_⟩, fun z3 => ⟨by omega, nx μ3 H3 _ ?_⟩⟩
        · rw [hcL_s, ic_f fun y => by have := qq.mpr y.2.2; omega]
        · rw [hcL_s, ic_t ⟨by omega, by omega, qq.mp (by omega)⟩]
  have r := lp (stN μ) 0 μ1 rfl (fun _ _ _ _ _ => rfl)
  exact r
