/-! MATHEMATICS, 68: scan -/
theorem sp_scan {sc : Scr} {d t : Nat} {μ : Mem} {Q : Mem → Prop} {n i : Nat} (hT : TO μ n) (hi : i ≤ n) (e9 : μ 4 0 9 = (i : Int)) (h : ∀ μ', F4 μ μ' → Tkn μ' (byC μ) n (skB (byC μ) n i) → Q μ') : RMv sc (d + 8) 4003 [rfc 4 0] (t, 0, 0) μ Q := by
  have n2 := hT.2.1
  have fin : ∀ μ' j, F4 μ μ' → j ≤ n → (j < n → ¬ isBl (byC μ j) = true) → μ' 4 0 9 = (j : Int) → (∀ i, μ 4 0 9 = ((i : Nat) : Int) → j = skB (byC μ) n i) → R_4003 sc (d + 7) (PV t Q) t 44 [rfc 4 0, vx] [] μ' := by
    intro μ' j hF hj _ h9 hsk
    rw [← hsk i e9] at h
    have F1 : F4 μ (wr (wr μ' 4 0 11 (μ' 4 0 9)) 4 0 12 0) := (hF.trans (F4.w (by decide))).trans (F4.w (by decide))
    have c9 : (wr (wr μ' 4 0 11 (μ' 4 0 9)) 4 0 12 0) 4 0 9 = (j : Int) := by rw [wr_k (by decide), wr_k (by decide)]; exact h9
    have c11 : (wr (wr μ' 4 0 11 (μ' 4 0 9)) 4 0 12 0) 4 0 11 = (j : Int) := by rw [wr_k (by decide), wr_same]; exact h9
    have c12 : (wr (wr μ' 4 0 11 (μ' 4 0 9)) 4 0 12 0) 4 0 12 = 0 := wr_same _ _ _ _ _
    refine m_4003_44 ?_
    rw [c9]
    generalize (wr (wr μ' 4 0 11 (μ' 4 0 9)) 4 0 12 0) = ν at *
    have hT' := F1.to hT
    have eb := F1.by'
    refine sp_byteAt hT' (fun z => ?_) (fun z => ⟨fun w => absurd rfl w, fun _ => PV_mk (h _ (F1.trans (F4.w (by decide))) ⟨?_, ?_, ?_, ?_⟩)⟩)
    · have bb := hT'.b z
      have FF : ∀ ν', F4 ν ν' → Tkn ν' (byC ν) n j → PV t Q none (fs (t, 0, 0) ν') := fun ν' F2 T2 => PV_mk (h ν' (F1.trans F2) (by rw [eb] at T2; exact T2))
      refine ⟨fun _ => sp_isLe (fun y => ⟨fun w => absurd w (by decide), fun _ => sp_letters hT' z y c9 c11 FF⟩) (fun y => ⟨fun _ => sp_isDi (fun y2 => ⟨fun w => absurd w (by decide), fun _ => sp_digits hT' z y y2 c9 c11 c12 FF⟩) (fun y2 => ⟨fun _ => ⟨by rw [c9]; omega, fun w => FF _ ((F4.w (by decide)).trans (F4.w (by decide))) ⟨?_, ?_, ?_, ?_⟩, fun w => FF _ ((F4.w (by decide)).trans (F4.w (by decide))) ⟨?_, ?_, ?_, ?_⟩⟩, fun w => absurd rfl w⟩), fun w => absurd rfl w⟩), fun w => absurd (by omega) w⟩
      · rw [wr_k (by decide), wr_same, c9]
        unfold tkL
        rw [if_neg (by omega), if_neg y, if_neg y2]
        omega
      · rw [wr_same]
        unfold tkK
        rw [if_neg (by omega), if_neg y, if_neg y2, if_neg w]
      · rw [wr_k (by decide), wr_k (by decide)]
        exact c11
      · rw [wr_k (by decide), wr_k (by decide), c12]
        unfold tkV
        rw [if_neg (by omega), if_neg y, if_neg y2]
      · rw [wr_k (by decide), wr_same, c9]
        unfold tkL
        rw [if_neg (by omega), if_neg y, if_neg y2]
        omega
      · rw [wr_same]
        unfold tkK
        rw [if_neg (by omega), if_neg y, if_neg y2, if_pos (by omega)]
      · rw [wr_k (by decide), wr_k (by decide)]
        exact c11
      · rw [wr_k (by decide), wr_k (by decide), c12]
        unfold tkV
        rw [if_neg (by omega), if_neg y, if_neg y2]
    · rw [wr_k (by decide), c9]
      unfold tkL
      rw [if_pos (by omega)]
      rfl
    · rw [wr_same]
      unfold tkK
      rw [if_pos (by omega)]
    · rw [wr_k (by decide)]
      exact c11
    · rw [wr_k (by decide), c12]
      unfold tkV
      rw [if_pos (by omega)]
  refine m_4003 ⟨fun z => ?_, fun z => ?_⟩
  · rw [hT.1, e9] at z
    have : i = n := by omega
    subst this
    refine fin μ i F4.rfl' (Nat.le_refl _) (fun w => absurd w (by omega)) e9 fun k e => ?_
    have : k = i := by omega
    subst this
    unfold skB
    rw [run_e (Nat.le_refl _)]
    rfl
  · rw [hT.1, e9] at z
    rw [e9]
    refine sp_byteAt hT (fun _ => sp_isBl (fun y => ⟨fun w => absurd w (by decide), fun _ => ⟨by rw [e9]; omega, ?_⟩⟩) (fun y => ⟨fun _ => fin μ i F4.rfl' hi (fun _ => y) e9 fun k e => ?_, fun w => absurd rfl w⟩)) (fun w => absurd (by omega) w)
    · rw [e9]
      refine L4003 (μ := μ) hT fin (n - (i + 1)) (i + 1) _ (by omega) (F4.w (by decide)) (wr_same _ _ _ _ _) fun k e => ?_
      have : k = i := by omega
      subst this
      exact sk_y (by omega) y
    · have : k = i := by omega
      subst this
      exact (sk_n y).symm
/-- the tokens one behind another: where the t-th is looked for, where it starts -/
def psn (b : Nat → Int) (n : Nat) : Nat → Nat
  | 0 => 0
  | t + 1 => skB b n (psn b n t) + tkL b n (skB b n (psn b n t))
def stt (b : Nat → Int) (n t : Nat) : Nat := skB b n (psn b n t)
theorem psn_s (b : Nat → Int) (n t : Nat) : psn b n (t + 1) = stt b n t + tkL b n (stt b n t) := rfl
theorem tkL_le {b : Nat → Int} {n s : Nat} (hs : s ≤ n) : s + tkL b n s ≤ n := by
  unfold tkL
  have h1 := run_le isLe b hs
  have h2 := run_le isDi b hs
  split
  · omega
  · split
    · omega
    · split
      · omega
      · omega
theorem skB_le {b : Nat → Int} {n i : Nat} (hi : i ≤ n) : skB b n i ≤ n := run_le isBl b hi
theorem psn_le (b : Nat → Int) (n : Nat) : ∀ t, psn b n t ≤ n
  | 0 => Nat.zero_le _
  | t + 1 => tkL_le (skB_le (psn_le b n t))
theorem stt_le (b : Nat → Int) (n t : Nat) : stt b n t ≤ n := skB_le (psn_le b n t)
abbrev tK (b : Nat → Int) (n t : Nat) : Int := tkK b n (stt b n t)
abbrev tV (b : Nat → Int) (n t : Nat) : Int := tkV b n (stt b n t)
