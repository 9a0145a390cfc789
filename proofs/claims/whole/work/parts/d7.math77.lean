/-! MATHEMATICS, 77: the reference cuts a text -/
def rK (k : Int) : Int := if k = 0 then 3 else if k = 1 then 0 else if k = 2 then 1 else if k = 3 then 2 else if k = 4 then 4 else if k = 5 then 21 else if k = 6 then 22 else if k = 7 then 20 else k + 15
def kfR (v : Int) : Nat → Int
  | 0 => 1
  | k + 1 => if kwd k = v then 20 + (k : Int) else kfR v k
theorem kfR_s (v : Int) (k : Nat) : kfR v (k + 1) = if kwd k = v then 20 + (k : Int) else kfR v k := rfl
theorem kfR_b (v : Int) : ∀ k : Nat, 1 ≤ kfR v k ∧ kfR v k ≤ 20 + (k : Int)
  | 0 => by unfold kfR; omega
  | k + 1 => by
    have := kfR_b v k
    rw [kfR_s]
    split <;> omega
theorem kfR_n {v : Int} : ∀ {k : Nat}, (∀ o, o < k → kwd o ≠ v) → kfR v k = 1
  | 0, _ => rfl
  | k + 1, h => by
    rw [kfR_s, if_neg (h k (by omega))]
    exact kfR_n fun o ho => h o (by omega)
theorem tb_kf : ∀ o : Nat, o < 10 → kfR (kwd o) 10 = rK (kwC (kwd o)) := by decide
theorem kfR_e (v : Int) : kfR v 10 = rK (kwC v) := by
  by_cases h : ∃ o, o < 10 ∧ kwd o = v
  · obtain ⟨o, ho, e⟩ := h
    rw [← e]
    exact tb_kf o ho
  · have h' : ∀ o, o < 10 → kwd o ≠ v := fun o ho e => h ⟨o, ho, e⟩
    rw [kfR_n h']
    unfold kwC
    rw [if_neg fun e => h' 0 (by decide) e.symm, if_neg fun e => h' 1 (by decide) e.symm, if_neg fun e => h' 2 (by decide) e.symm, if_neg fun e => h' 3 (by decide) e.symm, if_neg fun e => h' 4 (by decide) e.symm, if_neg fun e => h' 5 (by decide) e.symm, if_neg fun e => h' 6 (by decide) e.symm, if_neg fun e => h' 7 (by decide) e.symm, if_neg fun e => h' 8 (by decide) e.symm, if_neg fun e => h' 9 (by decide) e.symm]
    rfl
theorem kwC_8 {b : Nat → Int} {s : Nat} (ha : ∀ k, k < 8 → isLe (b (s + k)) = true) : kwC (nmN b s 8) = 2 := by
  have h' : ∀ o, o < 10 → ¬ nmN b s 8 = kwd o := by
    intro o ho h
    obtain ⟨w1, w2, w3, w4⟩ := tb_wd o ho
    rw [← w3] at h
    obtain ⟨e1, e2⟩ := nmN_inj (b := b) (b' := fun j => rom 101 o j) (i := s) (i' := 0) (by decide) (by omega) ha (fun k hk => by rw [Nat.zero_add]; exact (w4 k hk).1) h
    omega
  unfold kwC
  rw [if_neg (h' 0 (by decide)), if_neg (h' 1 (by decide)), if_neg (h' 2 (by decide)), if_neg (h' 3 (by decide)), if_neg (h' 4 (by decide)), if_neg (h' 5 (by decide)), if_neg (h' 6 (by decide)), if_neg (h' 7 (by decide)), if_neg (h' 8 (by decide)), if_neg (h' 9 (by decide))]
/-- the text of the reference -/
def TM (μ : Mem) (b : Nat → Int) (n : Nat) : Prop := μ 11 0 4 = (n : Int) ∧ n ≤ 2000 ∧ (∀ i, i < n → andv (μ 41 0 i) 255 = b i ∧ 0 ≤ b i ∧ b i ≤ 255) ∧ ∀ k, k < 10 → μ 46 0 k = kwd k
def bz (b : Nat → Int) (n i : Nat) : Int := if i < n then b i else 0
/-- changed: tokens -/
def Fcu (μ μ' : Mem) : Prop := ∀ c i k, ¬ (c = 11 ∧ i = 0 ∧ k = 10) → ¬ (42 ≤ c ∧ c ≤ 45) → μ' c i k = μ c i k
theorem Fcu.rfl' {μ : Mem} : Fcu μ μ := fun _ _ _ _ _ => rfl
theorem Fcu.trans {μ μ' μ'' : Mem} (h : Fcu μ μ') (h2 : Fcu μ' μ'') : Fcu μ μ'' := fun c i k a b => (h2 c i k a b).trans (h c i k a b)
theorem Fcu.w {μ : Mem} {c i k : Nat} {v : Int} (h : (c = 11 ∧ i = 0 ∧ k = 10) ∨ (42 ≤ c ∧ c ≤ 45)) : Fcu μ (wr μ c i k v) := fun c' i' k' a b => if_neg fun z => by
  obtain ⟨rfl, rfl, rfl⟩ := z
  omega
theorem Fcu.tm {μ μ' : Mem} {b : Nat → Int} {n : Nat} (h : Fcu μ μ') (hT : TM μ b n) : TM μ' b n := by
  refine ⟨by rw [h 11 0 4 (by omega) (by omega)]; exact hT.1, hT.2.1, fun i hi => ?_, fun k hk => ?_⟩
  · rw [h 41 0 i (by omega) (by omega)]; exact hT.2.2.1 i hi
  · rw [h 46 0 k (by omega) (by omega)]; exact hT.2.2.2 k hk
theorem sp_byteM {sc : Scr} {d t : Nat} {μ : Mem} {Q : Int → Mem → Prop} {b : Nat → Int} {n i : Nat} {x : Int} (hT : TM μ b n) (ex : x = (i : Int)) (h : Q (bz b n i) μ) : RMi sc (d + 1) 11009 [rfc 11 0, .inl x] (t, 0, 0) μ Q := by
  subst ex
  obtain ⟨e, n2, by', -⟩ := hT
  unfold bz at h
  refine m_11009 ⟨fun c => ?_, fun c => ⟨by omega, ?_⟩⟩
  · rw [if_neg (by omega)] at h
    exact h
  · rw [Int.toNat_natCast, (by' i (by omega)).1]
    rw [if_pos (by omega)] at h
    exact h
theorem sp_isLeM {sc : Scr} {d t : Nat} {μ : Mem} {Q : Int → Mem → Prop} {c : Int} (h1 : isLe c = true → Q 1 μ) (h0 : ¬ isLe c = true → Q 0 μ) : RMi sc (d + 1) 11011 [.inl c] (t, 0, 0) μ Q := by
  unfold isLe at h1 h0
  rw [decide_eq_true_iff] at h1 h0
  exact m_11011 ⟨fun z => h0 (by omega), fun z => ⟨fun z2 => h0 (by omega), fun z2 => h1 (by omega)⟩⟩
theorem sp_isDiM {sc : Scr} {d t : Nat} {μ : Mem} {Q : Int → Mem → Prop} {c : Int} (h1 : isDi c = true → Q 1 μ) (h0 : ¬ isDi c = true → Q 0 μ) : RMi sc (d + 1) 11012 [.inl c] (t, 0, 0) μ Q := by
  unfold isDi at h1 h0
  rw [decide_eq_true_iff] at h1 h0
  exact m_11012 ⟨fun z => h0 (by omega), fun z => ⟨fun z2 => h0 (by omega), fun z2 => h1 (by omega)⟩⟩
/-- one token -/
def wT (μ : Mem) (N : Nat) (k p v nm : Int) : Mem := wr (wr (wr (wr (wr μ 42 0 N k) 43 0 N p) 44 0 N v) 45 0 N nm) 11 0 10 ((N : Int) + 1)
theorem sp_token {sc : Scr} {d t : Nat} {μ : Mem} {Q : Mem → Prop} {N : Nat} {k p v nm : Int} (hN : μ 11 0 10 = (N : Int)) (h4 : N < 403) (h : Q (wT μ N k p v nm)) : RMv sc (d + 1) 11010 [rfc 11 0, .inl k, .inl p, .inl v, .inr (.inl nm)] (t, 0, 0) μ Q := by
  have r1 : ∀ (m : Mem) (i k : Nat) (v : Int), wr m 42 i k v 11 = m 11 := fun _ _ _ _ => wr_c (by decide)
  have r2 : ∀ (m : Mem) (i k : Nat) (v : Int), wr m 43 i k v 11 = m 11 := fun _ _ _ _ => wr_c (by decide)
  have r3 : ∀ (m : Mem) (i k : Nat) (v : Int), wr m 44 i k v 11 = m 11 := fun _ _ _ _ => wr_c (by decide)
  have r4 : ∀ (m : Mem) (i k : Nat) (v : Int), wr m 45 i k v 11 = m 11 := fun _ _ _ _ => wr_c (by decide)
  refine m_11010 ?_
  simp only [r1, r2, r3, r4, hN, Int.toNat_natCast]
  exact ⟨by omega, by omega, by omega, by omega, by omega, h⟩
theorem wT_f {μ : Mem} {N : Nat} {k p v nm : Int} : Fcu μ (wT μ N k p v nm) := ((((Fcu.w (by omega)).trans (Fcu.w (by omega))).trans (Fcu.w (by omega))).trans (Fcu.w (by omega))).trans (Fcu.w (by omega))
theorem wT_s {μ : Mem} {N : Nat} {k p v nm : Int} : wT μ N k p v nm 42 0 N = k ∧ wT μ N k p v nm 43 0 N = p ∧ wT μ N k p v nm 44 0 N = v ∧ wT μ N k p v nm 45 0 N = nm ∧ wT μ N k p v nm 11 0 10 = (N : Int) + 1 := by
  unfold wT
  refine ⟨?_, ?_, ?_, ?_, wr_same _ _ _ _ _⟩
  · rw [wr_c (by decide), wr_c (by decide), wr_c (by decide), wr_c (by decide), wr_same]
  · rw [wr_c (by decide), wr_c (by decide), wr_c (by decide), wr_same]
  · rw [wr_c (by decide), wr_c (by decide), wr_same]
  · rw [wr_c (by decide), wr_same]
theorem wT_o {μ : Mem} {N i c : Nat} {k p v nm : Int} (h : i ≠ N) (hc : 42 ≤ c ∧ c ≤ 45) : wT μ N k p v nm c 0 i = μ c 0 i := by
  unfold wT
  rw [wr_c (show c ≠ 11 by omega), wr_k h, wr_k h, wr_k h, wr_k h]
/-- the i-th token is written down -/
def TkM (μ : Mem) (b : Nat → Int) (n i : Nat) : Prop := μ 42 0 i = rK (tK b n i) ∧ μ 43 0 i = ((stt b n i : Nat) : Int) ∧ (tK b n i = 3 → μ 44 0 i = tV b n i) ∧ (tK b n i = 2 → μ 45 0 i = nmN b (stt b n i) (rnL isLe b n (stt b n i)))
theorem TkM.w {μ : Mem} {b : Nat → Int} {n N i : Nat} {k p v nm : Int} (ho : i < N → TkM μ b n i) (hi : i ≤ N) (e1 : k = rK (tK b n N)) (e2 : p = ((stt b n N : Nat) : Int)) (e3 : tK b n N = 3 → v = tV b n N) (e4 : tK b n N = 2 → nm = nmN b (stt b n N) (rnL isLe b n (stt b n N))) : TkM (wT μ N k p v nm) b n i := by
  by_cases q : i = N
  · subst q
    obtain ⟨s1, s2, s3, s4, -⟩ := wT_s (μ := μ) (N := i) (k := k) (p := p) (v := v) (nm := nm)
    unfold TkM
    rw [s1, s2, s3, s4]
    exact ⟨e1, e2, e3, e4⟩
  · unfold TkM
    rw [wT_o q (by omega), wT_o q (by omega), wT_o q (by omega), wT_o q (by omega)]
    exact ho (by omega)
theorem sp_appends {sc : Scr} {d t : Nat} {μ : Mem} {Q : Int → Mem → Prop} {v c : Int} (hv : 0 ≤ v ∧ v ≤ 10460353202) (hc : 97 ≤ c ∧ c ≤ 122) (h : Q (27 * v + (c - 96)) μ) : RMl sc (d + 1) 11003 [.inr (.inl v), .inl c] (t, 0, 0) μ Q := by
  refine m_11003 ⟨fun _ => ⟨by omega, by omega, by omega, by omega, ?_⟩, fun z => absurd (by omega) z⟩
  rw [show (27 * v) + ((c - 97) + 1) = 27 * v + (c - 96) by omega]
  exact h
def CutOut (μ0 μ : Mem) (b : Nat → Int) (n : Nat) : Prop := Fcu μ0 μ ∧ ∀ i, i ≤ 400 → (∀ j, j < i → tK b n j ≠ 1) → TkM μ b n i
theorem sp_cut {sc : Scr} {d t : Nat} {μ : Mem} {Q : Mem → Prop} {b : Nat → Int} {n : Nat} (hT : TM μ b n) (h : ∀ μ', CutOut μ μ' b n → Q μ') : RMv sc (d + 3) 11008 [rfc 11 0] (t, 0, 0) μ Q := by
  have n2 := hT.2.1
  have lp : ∀ (M N i : Nat) (μ' : Mem) (q2 q3 q4 q6 q7 : AV), (n - i) + (401 - N) ≤ M → N ≤ 401 → i ≤ n → skB b n i = stt b n N → Fcu μ μ' → μ' 11 0 10 = (N : Int) → (∀ j, j < N → TkM μ' b n j ∧ tK b n j ≠ 1) → R_11008 sc (d + 2) (PV t Q) t 7 [rfc 11 0, .inl (i : Int), q2, q3, q4, vx, q6, q7] [] μ' := by
    intro M
    induction M with
    | zero =>
      intro N i μ' q2 q3 q4 q6 q7 hM hN hi hs hF h10 hK
      exact m_11008_7 ⟨fun _ => PV_mk (h _ ⟨hF, fun j hj _ => (hK j (by omega)).1⟩), fun z => absurd (by omega) z⟩
    | succ M ih =>
      intro N i μ' q2 q3 q4 q6 q7 hM hN hi hs hF h10 hK
      have hT' := hF.tm hT
      by_cases N4 : N = 401
      · exact m_11008_7 ⟨fun _ => PV_mk (h _ ⟨hF, fun j hj _ => (hK j (by omega)).1⟩), fun z => absurd (by omega) z⟩
      refine m_11008_7 ⟨fun z => absurd z (by omega), fun _ => sp_byteM (i := i) hT' rfl ⟨fun hin => ?_, fun hin => ?_⟩⟩
      · rw [hT'.1] at hin
        have hin' : i < n := by omega
        have ebz : bz b n i = b i := by unfold bz; rw [if_pos hin']
        rw [ebz]
        have blank : isBl (b i) = true → ∀ q2, R_11008 sc (d + 2) (PV t Q) t 7 [rfc 11 0, .inl ((i : Int) + 1), q2, q3, q4, vx, q6, q7] [] μ' := fun y q2 => ih N (i + 1) μ' q2 q3 q4 q6 q7 (by omega) hN (by omega) (by rw [← sk_y hin' y]; exact hs) hF h10 hK
        have isb : (b i = 9 ∨ b i = 10 ∨ b i = 13 ∨ b i = 32) → isBl (b i) = true := fun y => by unfold isBl; rw [decide_eq_true_iff]; exact y
        refine ⟨fun z => ⟨by omega, blank (isb (by omega)) _⟩, fun z1 => ⟨fun z => ⟨by omega, blank (isb (by omega)) _⟩, fun z2 => ⟨fun z => ⟨by omega, blank (isb (by omega)) _⟩, fun z3 => ⟨fun z4 => ?_, fun z => ⟨by omega, blank (isb (by omega)) _⟩⟩⟩⟩⟩
        have nb : ¬ isBl (b i) = true := fun y => by
          unfold isBl at y
          rw [decide_eq_true_iff] at y
          omega
        rw [sk_n nb] at hs
        -- the token at i is the N-th
        have nxt : ∀ (k v nm : Int) (q2 q3 q4 q6 q7 : AV) (x : Int), k = rK (tK b n N) → tK b n N ≠ 1 → (tK b n N = 3 → v = tV b n N) → (tK b n N = 2 → nm = nmN b (stt b n N) (rnL isLe b n (stt b n N))) → x = ((i + tkL b n i : Nat) : Int) → 1 ≤ tkL b n i → R_11008 sc (d + 2) (PV t Q) t 7 [rfc 11 0, .inl x, q2, q3, q4, vx, q6, q7] [] (wT μ' N k (i : Int) v nm) := by
          intro k v nm q2 q3 q4 q6 q7 x e1 e2 e3 e4 ex el
          subst ex
          have pl : i + tkL b n i ≤ n := by
            have := tkL_le (b := b) (n := n) (s := i) hi
            exact this
          refine ih (N + 1) (i + tkL b n i) _ q2 q3 q4 q6 q7 (by omega) (by omega) pl ?_ (hF.trans wT_f) wT_s.2.2.2.2 (fun j hj => ⟨TkM.w (fun hj2 => (hK j hj2).1) (by omega) e1 (by rw [hs]) e3 e4, ?_⟩)
          · show _ = skB b n (psn b n (N + 1))
            rw [psn_s, ← hs]
          · by_cases q : j = N
            · rw [q]; exact e2
            · exact (hK j (by omega)).2
        have eK : tK b n N = tkK b n i := by show tkK b n (stt b n N) = _; rw [← hs]
        have eV : tV b n N = tkV b n i := by show tkV b n (stt b n N) = _; rw [← hs]
        refine sp_isLeM (fun yl => ⟨fun z => absurd z (by decide), fun _ => ?_⟩) (fun yl => ⟨fun _ => sp_isDiM (fun yd => ⟨fun z => absurd z (by decide), fun _ => ?_⟩) (fun yd => ⟨fun _ => ⟨by omega, ?_⟩, fun z => absurd rfl z⟩), fun z => absurd rfl z⟩)
        · -- letters
          have rle := run_le isLe b (n := n) (i := i) hi
          have rl1 := run_y hin' yl
          have fK : tkK b n i = (if 8 < rnL isLe b n i then 0 else kwC (nmN b i (rnL isLe b n i))) := by unfold tkK; rw [if_neg (by omega), if_pos yl]
          have fL : tkL b n i = rnL isLe b n i := by unfold tkL; rw [if_neg (by omega), if_pos yl]
          have la : ∀ k, k < rnL isLe b n i → isLe (b (i + k)) = true := fun k hk => run_in (n - i) i k (by omega) hk
          have kb := kwC_b (nmN b i (rnL isLe b n i))
          have fin : ∀ q6 q7 : AV, R_11008 sc (d + 2) (PV t Q) t 85 [rfc 11 0, .inl (i : Int), .inl (b i), .inl ((rnL isLe b n i : Nat) : Int), .inr (.inl (nmN b i (rnL isLe b n i))), vx, q6, q7] [] μ' := by
            intro q6 q7
            have zb : ¬ isLe (bz b n (i + rnL isLe b n i)) = true := by
              unfold bz
              split
              · intro y
                have := run_y (p := isLe) (b := b) (n := n) (i := i + rnL isLe b n i) (by omega) y
                have ad : ∀ l, l ≤ rnL isLe b n i → rnL isLe b n i = l + rnL isLe b n (i + l) := by
                  intro l
                  induction l with
                  | zero => intro _; rw [Nat.add_zero]; omega
                  | succ l il =>
                    intro hl
                    have a := il (by omega)
                    have := run_y (p := isLe) (b := b) (n := n) (i := i + l) (by omega) (la l (by omega))
                    rw [show i + (l + 1) = i + l + 1 by omega]
                    omega
                have := ad (rnL isLe b n i) (Nat.le_refl _)
                omega
              · decide
            have t135 : ∀ (kd : Int), kd = (if 8 < rnL isLe b n i then 3 else 1) → R_11008 sc (d + 2) (PV t Q) t 135 [rfc 11 0, .inl (i : Int), .inl (b i), .inl ((rnL isLe b n i : Nat) : Int), .inr (.inl (nmN b i (rnL isLe b n i))), vx, q6, q7] [.inl kd] μ' := by
              intro kd ekd
              refine m_11008_135 ⟨fun z => sp_token h10 (by omega) ⟨by omega, nxt _ _ _ _ _ _ _ _ _ ?_ ?_ ?_ ?_ (by omega) (by omega)⟩, fun z => ?_⟩
              · rw [ekd, eK, fK]
                split
                · rfl
                · rw [show rnL isLe b n i = 8 by omega] at la ⊢
                  rw [kwC_8 la]
                  rfl
              · rw [eK, fK]; split <;> omega
              · rw [eK, fK]; split <;> (intro y; try omega)
                exfalso
                revert y
                unfold kwC
                repeat' split
                all_goals omega
              · intro _; rw [← hs]
              · have lk : ∀ (m j : Nat), m + j = 10 → R_11008 sc (d + 2) (PV t Q) t 146 [rfc 11 0, .inl (i : Int), .inl (b i), .inl ((rnL isLe b n i : Nat) : Int), .inr (.inl (nmN b i (rnL isLe b n i))), vx, .inl (kfR (nmN b i (rnL isLe b n i)) j), .inl (j : Int)] [] μ' := by
                  intro m
                  induction m with
                  | zero =>
                    intro j hj
                    have : j = 10 := by omega
                    subst this
                    refine m_11008_146 ⟨fun _ => sp_token h10 (by omega) ⟨by omega, nxt _ _ _ _ _ _ _ _ _ ?_ ?_ ?_ ?_ (by omega) (by omega)⟩, fun y => absurd (by decide) y⟩
                    · rw [kfR_e, eK, fK, if_neg (by omega)]
                    · rw [eK, fK]; split <;> omega
                    · rw [eK, fK]; split <;> (intro y; try omega)
                      exfalso
                      revert y
                      unfold kwC
                      repeat' split
                      all_goals omega
                    · intro _; rw [← hs]
                  | succ m im =>
                    intro j hj
                    have e46 := hT'.2.2.2 j (by omega)
                    have r := im (j + 1) (by omega)
                    rw [kfR_s] at r
                    refine m_11008_146 ⟨fun y => absurd y (by omega), fun _ => ?_⟩
                    rw [Int.toNat_natCast, e46, lc_eq]
                    refine ⟨by omega, fun y => ⟨by omega, ?_⟩, fun y => ⟨by omega, by omega, ?_⟩⟩
                    · rw [if_neg y] at r
                      exact r
                    · rw [if_pos (Decidable.not_not.mp y)] at r
                      exact r
                have ek : kd = kfR (nmN b i (rnL isLe b n i)) 0 := by rw [ekd, if_neg (by omega)]; rfl
                rw [ek]
                exact lk 10 0 rfl
            refine m_11008_85 ⟨by omega, sp_byteM (i := i + rnL isLe b n i) hT' (by omega) (sp_isLeM (fun y => absurd y zb) (fun _ => ⟨fun _ => ⟨fun y => t135 1 (by rw [if_neg (by omega)]), fun y => t135 3 (by rw [if_pos (by omega)])⟩, fun y => absurd rfl y⟩))⟩
          have ll : ∀ (m l : Nat), m + l = rnL isLe b n i → R_11008 sc (d + 2) (PV t Q) t 85 [rfc 11 0, .inl (i : Int), .inl (b i), .inl (l : Int), .inr (.inl (nmN b i l)), vx, q6, q7] [] μ' := by
            intro m
            induction m with
            | zero =>
              intro l hl
              have : l = rnL isLe b n i := by omega
              subst this
              exact fin q6 q7
            | succ m im =>
              intro l hl
              have y := la l (by omega)
              have eb : bz b n (i + l) = b (i + l) := by unfold bz; rw [if_pos (by omega)]
              have r := im (l + 1) (by omega)
              rw [nmN_s] at r
              have nb2 := nmN_b (b := b) (i := i) (l := l) fun k hk => la k (by omega)
              have y' := y
              unfold isLe at y'
              rw [decide_eq_true_iff] at y'
              refine m_11008_85 ⟨by omega, sp_byteM (i := i + l) hT' (by omega) ?_⟩
              rw [eb]
              refine sp_isLeM (fun _ => ⟨fun z => absurd z (by decide), fun _ => ⟨fun z => ⟨by omega, ?_⟩, fun z => ⟨by omega, sp_byteM (i := i + l) hT' (by omega) ?_⟩⟩⟩) (fun z => absurd y z)
              · rw [if_neg (by omega)] at r
                exact r
              · rw [eb]
                have l8 : l = 0 ∨ l = 1 ∨ l = 2 ∨ l = 3 ∨ l = 4 ∨ l = 5 ∨ l = 6 ∨ l = 7 := by omega
                have n7 := nb2.2.2 (by omega)
                refine sp_appends ⟨nb2.1, ?_⟩ y' ⟨by omega, ?_⟩
                · rcases l8 with rfl | rfl | rfl | rfl | rfl | rfl | rfl | rfl <;> simp at n7 <;> omega
                · rw [if_pos (by omega)] at r
                  exact r
          exact ll (rnL isLe b n i) 0 (by omega)
        · -- digits
          have rle := run_le isDi b (n := n) (i := i) hi
          have rl1 := run_y hin' yd
          have fK : tkK b n i = (if 4 < rnL isDi b n i then 0 else 3) := by unfold tkK; rw [if_neg (by omega), if_neg yl, if_pos yd]
          have fV : tkV b n i = dvN b i (rnL isDi b n i) := by unfold tkV; rw [if_neg (by omega), if_neg yl, if_pos yd]
          have fL : tkL b n i = rnL isDi b n i := by unfold tkL; rw [if_neg (by omega), if_neg yl, if_pos yd]
          have la : ∀ k, k < rnL isDi b n i → isDi (b (i + k)) = true := fun k hk => run_in (n - i) i k (by omega) hk
          have fin : R_11008 sc (d + 2) (PV t Q) t 208 [rfc 11 0, .inl (i : Int), .inl (b i), .inl ((rnL isDi b n i : Nat) : Int), .inl (dvN b i (rnL isDi b n i)), vx, q6, q7] [] μ' := by
            have zb : ¬ isDi (bz b n (i + rnL isDi b n i)) = true := by
              unfold bz
              split
              · intro y
                have := run_y (p := isDi) (b := b) (n := n) (i := i + rnL isDi b n i) (by omega) y
                have ad : ∀ l, l ≤ rnL isDi b n i → rnL isDi b n i = l + rnL isDi b n (i + l) := by
                  intro l
                  induction l with
                  | zero => intro _; rw [Nat.add_zero]; omega
                  | succ l il =>
                    intro hl
                    have a := il (by omega)
                    have := run_y (p := isDi) (b := b) (n := n) (i := i + l) (by omega) (la l (by omega))
                    rw [show i + (l + 1) = i + l + 1 by omega]
                    omega
                have := ad (rnL isDi b n i) (Nat.le_refl _)
                omega
              · decide
            refine m_11008_208 ⟨by omega, sp_byteM (i := i + rnL isDi b n i) hT' (by omega) (sp_isDiM (fun y => absurd y zb) (fun _ => ⟨fun _ => ⟨fun y => sp_token h10 (by omega) ⟨by omega, nxt _ _ _ _ _ _ _ _ _ ?_ ?_ ?_ ?_ (by omega) (by omega)⟩, fun y => sp_token h10 (by omega) ⟨by omega, nxt _ _ _ _ _ _ _ _ _ ?_ ?_ ?_ ?_ (by omega) (by omega)⟩⟩, fun y => absurd rfl y⟩))⟩
            · rw [eK, fK, if_neg (by omega)]; rfl
            · rw [eK, fK]; split <;> omega
            · intro _; rw [eV, fV]
            · rw [eK, fK]; split <;> omega
            · rw [eK, fK, if_pos (by omega)]; rfl
            · rw [eK, fK]; split <;> omega
            · rw [eK, fK, if_pos (by omega)]; omega
            · rw [eK, fK]; split <;> omega
          have ll : ∀ (m l : Nat), m + l = rnL isDi b n i → R_11008 sc (d + 2) (PV t Q) t 208 [rfc 11 0, .inl (i : Int), .inl (b i), .inl (l : Int), .inl (dvN b i l), vx, q6, q7] [] μ' := by
            intro m
            induction m with
            | zero =>
              intro l hl
              have : l = rnL isDi b n i := by omega
              subst this
              exact fin
            | succ m im =>
              intro l hl
              have y := la l (by omega)
              have eb : bz b n (i + l) = b (i + l) := by unfold bz; rw [if_pos (by omega)]
              have r := im (l + 1) (by omega)
              rw [dvN_s] at r
              have nb2 := dvN_b (b := b) (i := i) (l := l) fun k hk => la k (by omega)
              have y' := y
              unfold isDi at y'
              rw [decide_eq_true_iff] at y'
              refine m_11008_208 ⟨by omega, sp_byteM (i := i + l) hT' (by omega) ?_⟩
              rw [eb]
              refine sp_isDiM (fun _ => ⟨fun z => absurd z (by decide), fun _ => ⟨fun z => ⟨by omega, ?_⟩, fun z => ⟨by omega, by omega, sp_byteM (i := i + l) hT' (by omega) ?_⟩⟩⟩) (fun z => absurd y z)
              · rw [if_neg (by omega)] at r
                exact r
              · rw [eb]
                rw [if_pos (by omega)] at r
                exact ⟨by omega, by omega, by omega, r⟩
          exact ll (rnL isDi b n i) 0 (by omega)
        · -- a sign
          have fK : tkK b n i = (if b i = 59 then 4 else 0) := by unfold tkK; rw [if_neg (by omega), if_neg yl, if_neg yd]
          have fL : tkL b n i = 1 := by unfold tkL; rw [if_neg (by omega), if_neg yl, if_neg yd]
          refine sp_byteM (i := i + 1) hT' (by omega) (m_11013 ⟨fun z => sp_token h10 (by omega) ⟨by omega, nxt _ _ _ _ _ _ _ _ _ ?_ ?_ ?_ ?_ (by omega) (by omega)⟩, fun z => sp_token h10 (by omega) ⟨by omega, nxt _ _ _ _ _ _ _ _ _ ?_ ?_ ?_ ?_ (by omega) (by omega)⟩⟩)
          · rw [eK, fK, if_neg z]; rfl
          · rw [eK, fK]; split <;> omega
          · rw [eK, fK]; split <;> omega
          · rw [eK, fK]; split <;> omega
          · rw [eK, fK, if_pos (by omega)]; rfl
          · rw [eK, fK]; split <;> omega
          · rw [eK, fK]; split <;> omega
          · rw [eK, fK]; split <;> omega
      · rw [hT'.1] at hin ⊢
        have : i = n := by omega
        subst this
        have es : stt b i N = i := by
          rw [← hs]
          unfold skB
          rw [run_e (Nat.le_refl _)]
          rfl
        have eK : tK b i N = 1 := by
          show tkK b i (stt b i N) = 1
          rw [es]
          unfold tkK
          rw [if_pos (Nat.le_refl _)]
        refine sp_token h10 (by omega) (PV_mk (h _ ⟨hF.trans wT_f, fun j hj hj2 => ?_⟩))
        have jN : j ≤ N := by
          by_cases q : j ≤ N
          · exact q
          · exact absurd eK (hj2 N (by omega))
        exact TkM.w (fun z => (hK j z).1) jN (by rw [eK]; rfl) (by rw [es]) (fun z => absurd z (by omega)) (fun z => absurd z (by omega))
  refine m_11008 (lp _ 0 0 (wr μ 11 0 10 0) vx vx vx vx vx (Nat.le_refl _) (by omega) (by omega) rfl (Fcu.w (by omega)) (wr_same _ _ _ _ _) fun j hj => absurd hj (by omega))
