/-! MATHEMATICS, 34: places that are found -/
abbrev Sq : Type := (Nat → Int) × Nat
def snoc (S : Sq) (v : Int) : Sq := (fun i => if i = S.2 then v else S.1 i, S.2 + 1)
noncomputable def scx (Pd : Nat → Nat → Prop) (y : Nat) : Nat → Sq → Sq
  | 0, S => S
  | x + 1, S => ic (Pd x y) (snoc (scx Pd y x S) ((100 * (y : Int)) + (x : Int))) (scx Pd y x S)
noncomputable def scy (Pd : Nat → Nat → Prop) (W : Nat) : Nat → Sq
  | 0 => (fun _ => 0, 0)
  | y + 1 => scx Pd y W (scy Pd W y)
theorem scx_le (Pd : Nat → Nat → Prop) (y : Nat) (S : Sq) : ∀ x, (scx Pd y x S).2 ≤ S.2 + x
  | 0 => Nat.le_refl _
  | x + 1 => by
    have := scx_le Pd y S x
    unfold scx
    by_cases c : Pd x y
    · rw [ic_t c]; unfold snoc; simp only []; omega
    · rw [ic_f c]; omega
theorem scy_le (Pd : Nat → Nat → Prop) {W : Nat} (hW : W ≤ 40) : ∀ y, (scy Pd W y).2 ≤ 40 * y
  | 0 => Nat.le_refl _
  | y + 1 => by
    have := scy_le Pd hW y
    have := scx_le Pd y (scy Pd W y) W
    unfold scy
    omega
theorem scx_c {Pd Pd' : Nat → Nat → Prop} {y : Nat} {S : Sq} : ∀ {x}, (∀ k, k < x → (Pd k y ↔ Pd' k y)) → scx Pd y x S = scx Pd' y x S
  | 0, _ => rfl
  | x + 1, h => by
    unfold scx
    rw [scx_c fun k hk => h k (by omega)]
    exact ic_c (h x (by omega))
theorem scy_c {Pd Pd' : Nat → Nat → Prop} {W : Nat} : ∀ {y}, (∀ k j, k < W → j < y → (Pd k j ↔ Pd' k j)) → scy Pd W y = scy Pd' W y
  | 0, _ => rfl
  | y + 1, h => by
    unfold scy
    rw [scy_c fun k j hk hj => h k j hk (by omega)]
    exact scx_c fun k hk => h k y hk (by omega)
def SC (μ : Mem) (S : Sq) : Prop := μ 2 0 1 = (S.2 : Int) ∧ ∀ i, i < S.2 → μ 36 0 i = S.1 i
def SMc (μ : Mem) (S : Sq) : Prop := μ 11 0 69 = (S.2 : Int) ∧ (S.2 ≠ 0 → μ 11 0 70 = S.1 0)
def tldF (S : Sq) (what : Int) : Int := if what = 0 then (S.2 : Int) else if S.2 = 0 then -2 else S.1 0
theorem FW.w {μ : Mem} {c i k : Nat} {v : Int} (h : ¬ Kp c ∧ c ≠ 9 ∧ c ≠ 11 ∧ ¬ (49 ≤ c ∧ c ≤ 53)) : FW μ (wr μ c i k v) := by
  refine ⟨fun c' k' => wr_c ?_, fun k' _ => ?_, fun w _ => ?_, ?_, fun c' i' j a _ _ => ?_⟩
  · intro z
    rw [← z] at h
    exact h.1 k'
  · rw [wr_c (fun z => h.2.2.1 z.symm)]
  · rw [wr_c (fun z => h.2.1 z.symm)]
  · rw [wr_c (fun z => h.2.1 z.symm)]
  · rw [wr_c (by omega)]
theorem FW.w11 {μ : Mem} {k : Nat} {v : Int} (h : 48 < k ∧ k ≠ 71 ∧ k ≠ 80) : FW μ (wr μ 11 0 k v) := by
  refine ⟨fun c' k' => wr_c ?_, fun k' hk => ?_, fun w _ => ?_, ?_, fun c' i' j a _ _ => ?_⟩
  · intro z
    rw [z] at k'
    unfold Kp at k'
    omega
  · rw [wr_k (by omega)]
  · rw [wr_c (by decide)]
  · rw [wr_c (by decide)]
  · rw [wr_c (by omega)]
theorem sp_add {sc : Scr} {d t : Nat} {μ : Mem} {Q : Mem → Prop} {S : Sq} {v : Int} (hS : SC μ S) (hn : S.2 < 1600) (h : ∀ μ', FW μ μ' → SC μ' (snoc S v) → Q μ') : RMv sc (d + 1) 2001 [rfc 2 0, .inl v] (t, 0, 0) μ Q := by
  have e : slen 36 0 = 1600 := rfl
  have h1 := hS.1
  have F : FW μ (wr (wr μ 36 0 S.2 v) 2 0 1 ((wr μ 36 0 S.2 v) 2 0 1 + 1)) := (FW.w (by unfold Kp; omega)).trans (FW.w (by unfold Kp; omega))
  refine m_2001 ⟨fun c => absurd c (by omega), fun _ => ⟨by omega, ?_, ?_⟩⟩
  · rw [wr_c (by decide), h1]; omega
  · rw [h1, Int.toNat_natCast]
    refine h _ F ⟨?_, fun i hi => ?_⟩
    · rw [wr_same, wr_c (by decide), h1]
      unfold snoc
      simp
    · rw [wr_c (by decide)]
      unfold snoc at hi ⊢
      simp only [] at hi ⊢
      by_cases q : i = S.2
      · rw [if_pos q, q, wr_same]
      · rw [if_neg q, wr_k (by omega)]
        exact hS.2 i (by omega)
theorem sp_get {sc : Scr} {d t : Nat} {μ : Mem} {Q : Int → Mem → Prop} {S : Sq} {i : Int} (hS : SC μ S) (hn : S.2 ≤ 1600) (h1 : ∀ n : Nat, i = (n : Int) → n < S.2 → Q (S.1 n) μ) (h0 : ¬ (0 ≤ i ∧ i < (S.2 : Int)) → Q (-1) μ) : RMi sc (d + 1) 2002 [rfc 2 0, .inl i] (t, 0, 0) μ Q := by
  have e : slen 36 0 = 1600 := rfl
  have h2 := hS.1
  refine m_2002 ⟨fun c => h0 (by omega), fun c => ⟨fun c2 => h0 (by omega), fun c2 => ⟨fun c3 => absurd c3 (by omega), fun c3 => ⟨by omega, ?_⟩⟩⟩⟩
  obtain ⟨n, rfl⟩ := Int.eq_ofNat_of_zero_le (by omega : 0 ≤ i)
  rw [Int.toNat_natCast, hS.2 n (by omega)]
  exact h1 n rfl (by omega)
theorem sp_manyOrFirst {sc : Scr} {d t : Nat} {μ : Mem} {Q : Int → Mem → Prop} {S : Sq} {what : Int} (hS : SC μ S) (hn : S.2 ≤ 1600) (h : Q (tldF S what) μ) : RMi sc (d + 2) 30 [rfc 0 0, .inl what] (t, 0, 0) μ Q := by
  have h2 := hS.1
  unfold tldF at h
  refine m_30 ⟨fun c => ⟨fun c2 => sp_get hS hn (fun n e hn' => ?_) (fun c3 => absurd c3 (by omega)), fun c2 => ?_⟩, fun c => ?_⟩
  · have : n = 0 := by omega
    subst this
    rw [if_neg c, if_neg (by omega)] at h
    exact h
  · rw [if_neg c, if_pos (by omega)] at h
    exact h
  · rw [if_pos (by omega)] at h
    rw [h2]
    exact h
theorem sp_counts {sc : Scr} {d t : Nat} {μ : Mem} {Q : Mem → Prop} {S : Sq} {x y : Nat} (hx : x < 40) (hy : y < 40) (hS : SMc μ S) (hn : S.2 < 1600) (h : ∀ μ', FW μ μ' → SMc μ' (snoc S ((100 * (y : Int)) + (x : Int))) → Q μ') : RMv sc (d + 1) 11071 [rfc 11 0, .inl (x : Int), .inl (y : Int)] (t, 0, 0) μ Q := by
  have h1 := hS.1
  refine m_11071 ⟨fun c => ⟨by omega, h _ (FW.w11 (by decide)) ⟨?_, fun _ => ?_⟩⟩, fun c => ⟨by omega, by omega, ?_, h _ ((FW.w11 (by decide)).trans (FW.w11 (by decide))) ⟨?_, fun _ => ?_⟩⟩⟩
  · rw [wr_same, h1]
    unfold snoc
    simp
  · rw [wr_k (by decide), hS.2 (by omega)]
    unfold snoc
    simp only []
    rw [if_neg (by omega)]
  · rw [wr_k (by decide), h1]; omega
  · rw [wr_same, wr_k (by decide), h1]
    unfold snoc
    simp
  · rw [wr_k (by decide), wr_same]
    unfold snoc
    simp only []
    rw [if_pos (by omega)]
theorem sp_told {sc : Scr} {d t : Nat} {μ : Mem} {Q : Int → Mem → Prop} {S : Sq} {what : Int} (hS : SMc μ S) (h : Q (tldF S what) μ) : RMi sc (d + 1) 11072 [rfc 11 0, .inl what] (t, 0, 0) μ Q := by
  have h2 := hS.1
  unfold tldF at h
  refine m_11072 ⟨fun c => ⟨fun c2 => ?_, fun c2 => ?_⟩, fun c => ?_⟩
  · rw [if_neg c, if_neg (by omega)] at h
    rw [hS.2 (by omega)]
    exact h
  · rw [if_neg c, if_pos (by omega)] at h
    exact h
  · rw [if_pos (by omega)] at h
    rw [h2]
    exact h
theorem SMc.fm {μ μ' : Mem} {S : Sq} (h : Fm 49 μ μ') (hS : SMc μ S) : SMc μ' S := by
  unfold SMc
  rw [h.f (k := 69) (by decide), h.f (k := 70) (by decide)]
  exact hS
theorem SC.f8 {μ μ' : Mem} {S : Sq} (h : F8 μ μ') (hS : SC μ S) : SC μ' S := by
  unfold SC
  rw [h.c (c := 2) (by decide), h.c (c := 36) (by decide)]
  exact hS
/-- a beat, a choice of 0 and 1 -/
theorem sp_isBeat {sc : Scr} {d t : Nat} {μ : Mem} {Q : Int → Mem → Prop} {s : Int} (h1 : 1 ≤ s ∧ s ≤ 9999 → Q 1 μ) (h0 : ¬ (1 ≤ s ∧ s ≤ 9999) → Q 0 μ) : RMi sc (d + 1) 25 [.inl s] (t, 0, 0) μ Q :=
  m_25 ⟨fun c => h0 (by omega), fun c => ⟨fun c2 => h0 (by omega), fun c2 => h1 (by omega)⟩⟩
theorem sp_isBeatM {sc : Scr} {d t : Nat} {μ : Mem} {Q : Int → Mem → Prop} {s : Int} (h1 : 1 ≤ s ∧ s ≤ 9999 → Q 1 μ) (h0 : ¬ (1 ≤ s ∧ s ≤ 9999) → Q 0 μ) : RMi sc (d + 2) 11068 [.inl s] (t, 0, 0) μ Q :=
  m_11068 (sp_in (fun c => ⟨Or.inr rfl, h1 c⟩) (fun c => ⟨Or.inl rfl, h0 c⟩))
theorem sp_is01 {sc : Scr} {d t : Nat} {μ : Mem} {Q : Int → Mem → Prop} {s : Int} (h1 : 0 ≤ s ∧ s ≤ 1 → Q 1 μ) (h0 : ¬ (0 ≤ s ∧ s ≤ 1) → Q 0 μ) : RMi sc (d + 1) 28 [.inl s] (t, 0, 0) μ Q :=
  m_28 ⟨fun c => h1 (by omega), fun c => ⟨fun c2 => h0 (by omega), fun c2 => h1 (by omega)⟩⟩
/-- beats -/
noncomputable def F_beats (x y s b : Int) (μ : Mem) : Int := ic (Pm μ x y ∧ Ld s ∧ (1 ≤ b ∧ b ≤ 9999)) (if 0 ≤ ech (RT μ s x y x y) then ech (RT μ s x y x y) / b else -2) (-1)
theorem p_beats {sc : Scr} {t : Nat} {μ : Mem} {x y s b : Int} (hS : Sim μ) : PR sc t μ 24 11067 [.inl x, .inl y, .inl s, .inl b] := by
  refine PR_of (F_beats x y s b) hS (fun μ1 F1 => ?_) (fun μ Q hS h => ?_) (fun μ Q hS h => ?_)
  · unfold F_beats Pm
    rw [F1.rt hS, F1.1 1 (by unfold Kp; omega)]
  · unfold F_beats at h
    refine m_24 (sp_holds (fun p => ⟨fun z => absurd z (by decide), fun _ => sp_isLoud (fun l => ⟨fun z => absurd z (by decide), fun _ => sp_isBeat (fun c => ⟨fun _ => sp_echoTime hS.co (hS.pl p) l.b fun μ1 F1 => ⟨fun e => ⟨by omega, ?_⟩, fun e => ?_⟩, fun z => absurd (by decide) z⟩) (fun c => ⟨fun z => absurd rfl z, fun _ => ?_⟩)⟩) (fun l => ⟨fun _ => ?_, fun z => absurd rfl z⟩)⟩) (fun p => ⟨fun _ => ?_, fun z => absurd rfl z⟩))
    · rw [ic_t ⟨p, l, c⟩, if_pos e] at h
      exact h μ1 F1.fw
    · rw [ic_t ⟨p, l, c⟩, if_neg e] at h
      exact h μ1 F1.fw
    · rw [ic_f fun z => c z.2.2] at h
      exact h _ FW.rfl
    · rw [ic_f fun z => l z.2.1] at h
      exact h _ FW.rfl
    · rw [ic_f fun z => p z.1] at h
      exact h _ FW.rfl
  · unfold F_beats at h
    refine m_11067 (sp_isPlace hS.1.1 hS.2.1 (fun p => ⟨fun z => absurd z (by decide), fun _ => sp_isLoudM (fun l => ⟨fun z => absurd z (by decide), fun _ => sp_isBeatM (fun c => ⟨fun _ => sp_echo hS.mo (hS.pl p) l.b fun μ1 F1 => ?_, fun z => absurd (by decide) z⟩) (fun c => ⟨fun z => absurd rfl z, fun _ => ?_⟩)⟩) (fun l => ⟨fun _ => ?_, fun z => absurd rfl z⟩)⟩) (fun p => ⟨fun _ => ?_, fun z => absurd rfl z⟩))
    · rw [hS.rets]
      refine ⟨fun e => ⟨by omega, ?_⟩, fun e => ?_⟩
      · rw [ic_t ⟨p, l, c⟩, if_pos e] at h
        exact h μ1 F1.fw
      · rw [ic_t ⟨p, l, c⟩, if_neg e] at h
        exact h μ1 F1.fw
    · rw [ic_f fun z => c z.2.2] at h
      exact h _ FW.rfl
    · rw [ic_f fun z => l z.2.1] at h
      exact h _ FW.rfl
    · rw [ic_f fun z => p z.1] at h
      exact h _ FW.rfl
