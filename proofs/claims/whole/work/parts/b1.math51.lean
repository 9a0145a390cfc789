/-! MATHEMATICS, 51: fitting; which step tells most, class -/
noncomputable def F_fit (k i : Int) (μ : Mem) : Int := ic ((0 ≤ k ∧ k ≤ μ 3 4 4) ∧ -1 ≤ i) (ic (i = -1) ((fitS μ k).2 : Int) (ic (0 ≤ i ∧ i < ((fitS μ k).2 : Int)) ((fitS μ k).1 i.toNat) (-1))) (-1)
theorem p_fitting {sc : Scr} {t : Nat} {μ : Mem} {k i : Int} (hS : Sim μ) : PR sc t μ 55 11099 [.inl k, .inl i] := by
  refine PR_of (F_fit k i) hS (fun μ1 F1 => ?_) (fun μ Q hS h => ?_) (fun μ Q hS h => ?_)
  · unfold F_fit
    rw [F1.fit hS, F1.1 3 (by unfold Kp; omega)]
  · unfold F_fit at h
    have no : ¬ ((0 ≤ k ∧ k ≤ μ 3 4 4) ∧ -1 ≤ i) → Q (-1) μ := by
      intro z
      rw [ic_f z] at h
      exact h _ FW.rfl
    have l16 := fitS_le hS k
    refine m_55 ⟨fun c => no fun z => by omega, fun c => ⟨fun c1 => no fun z => by omega, fun c1 => ⟨fun c2 => sp_findFit hS (by omega) fun μ1 F1 C1 => ?_, fun c2 => no fun z => c2 z.2⟩⟩⟩
    rw [ic_t ⟨by omega, c2⟩] at h
    have r := h μ1 F1
    refine ⟨fun c3 => sp_get (S := fitS μ k) C1 l16 (fun n e hn => ?_) (fun c4 => ?_), fun c3 => ?_⟩
    · rw [ic_f c3, ic_t ⟨by omega, by omega⟩, e, Int.toNat_natCast] at r
      exact r
    · rw [ic_f c3, ic_f c4] at r
      exact r
    · rw [ic_t (by omega)] at r
      rw [C1.1]
      exact r
  · unfold F_fit at h
    have no : ¬ ((0 ≤ k ∧ k ≤ μ 3 4 4) ∧ -1 ≤ i) → Q (-1) μ := by
      intro z
      rw [ic_f z] at h
      exact h _ FW.rfl
    have l16 := fitS_le hS k
    have e80 : μ 11 0 80 = μ 3 4 4 := hS.2.2.2.1.2.1.1
    refine m_11099 ?_
    rw [e80]
    refine sp_in (fun c => ⟨fun z => absurd z (by decide), fun _ => ⟨fun c2 => sp_fillFits hS c fun μ1 F1 C1 => ?_, fun c2 => no fun z => c2 z.2⟩⟩) (fun c => ⟨fun _ => no fun z => c z.1, fun z => absurd rfl z⟩)
    rw [ic_t ⟨c, c2⟩] at h
    have r := h μ1 F1
    have C1' : SMf μ1 (fitS μ k) := C1
    rw [C1'.1]
    refine ⟨fun c3 => ⟨fun c4 => ?_, fun c4 => ⟨by omega, ?_⟩⟩, fun c3 => ?_⟩
    · rw [ic_f c3, ic_f (by omega)] at r
      exact r
    · rw [ic_f c3, ic_t ⟨by omega, by omega⟩] at r
      rw [C1'.2 i.toNat (by omega)]
      exact r
    · rw [ic_t (by omega)] at r
      exact r
/-- the class's row of answers that are compared -/
def SA (μ : Mem) (S : Sq) : Prop := μ 2 1 1 = (S.2 : Int) ∧ ∀ i, i < S.2 → μ 36 1 i = S.1 i
/-- changed: only that row -/
def FA (μ μ' : Mem) : Prop := ∀ c i k, ¬ ((c = 2 ∨ c = 36) ∧ i = 1) → μ' c i k = μ c i k
theorem FA.trans {μ μ' μ'' : Mem} (h : FA μ μ') (h2 : FA μ' μ'') : FA μ μ'' := fun c i k a => (h2 c i k a).trans (h c i k a)
theorem FA.fw {μ μ' : Mem} (h : FA μ μ') : FW μ μ' := by
  refine ⟨fun c k => ?_, fun k _ => h 11 0 k (by omega), fun w _ => ?_, h 9 8 5 (by omega), fun c i j a _ _ => h c i j (by omega)⟩
  · unfold Kp at k
    funext i j
    exact h c i j (by omega)
  · funext k
    exact h 9 w k (by omega)
theorem F36.fa {μ μ' : Mem} (h : F36 μ μ') : FA μ μ' := fun c i k a => h c i k (by omega)
theorem sp_add1 {sc : Scr} {d t : Nat} {μ : Mem} {Q : Mem → Prop} {S : Sq} {v : Int} (hS : SA μ S) (hn : S.2 < 1600) (h : ∀ μ', FA μ μ' → SA μ' (snoc S v) → Q μ') : RMv sc (d + 1) 2001 [rfc 2 1, .inl v] (t, 0, 0) μ Q := by
  have e : slen 36 1 = 1600 := rfl
  have h1 := hS.1
  refine m_2001 ⟨fun c => absurd c (by omega), fun _ => ⟨by omega, ?_, ?_⟩⟩
  · rw [wr_c (by decide), h1]; omega
  · rw [h1, Int.toNat_natCast]
    refine h _ (fun c i k a => ?_) ⟨?_, fun i hi => ?_⟩
    · unfold wr
      rw [if_neg fun z => a ⟨Or.inl z.1, z.2.1⟩, if_neg fun z => a ⟨Or.inr z.1, z.2.1⟩]
    · rw [wr_same, wr_c (by decide), h1]
      unfold snoc
      simp
    · rw [wr_c (by decide)]
      unfold snoc at hi ⊢
      simp only [] at hi ⊢
      by_cases q : i = S.2
      · rw [if_pos q, q, wr_same]
      · rw [if_neg q, wr_k (by omega)]
        exact hS.2 i (by omega)
/-- the answers of all places -/
def AE (μ μ0 : Mem) (s : Int) (x y : Nat) : Prop := μ 38 0 (40 * y + x) = ech (RT μ0 s (x : Int) (y : Int) (x : Int) (y : Int))
def AT (μ μ0 : Mem) (s : Int) (X : Nat) (Y : Nat) : Prop := (∀ x y, y < Y → x < Wd μ0 → AE μ μ0 s x y) ∧ ∀ x, x < X → AE μ μ0 s x Y
theorem sp_answerAll {sc : Scr} {t : Nat} {μ : Mem} {Q : Mem → Prop} {s : Int} {S : Sq} (hS : Sim μ) (ls : Ld s) (hC : SC μ S) (h : ∀ μ', FW μ μ' → SC μ' S → (∀ x y, y < Hg μ → x < Wd μ → AE μ' μ s x y) → Q μ') : RMv sc 12 58 [rfc 0 0, .inl s] (t, 0, 0) μ Q := by
  obtain ⟨w1, w2, w3, w4⟩ := hS.wh
  have li : ∀ (n y : Nat), y < Hg μ → (∀ μ' q3 q4, FW μ μ' → SC μ' S → AT μ' μ s 0 (y + 1) → R_58 sc 11 (PV t Q) t 2 [rfc 0 0, .inl s, .inl ((y + 1 : Nat) : Int), q3, q4] [] μ') → ∀ (x : Nat) (μ' : Mem) (q4 : AV), n + x = Wd μ → FW μ μ' → SC μ' S → AT μ' μ s x y → R_58 sc 11 (PV t Q) t 15 [rfc 0 0, .inl s, .inl (y : Int), .inl (x : Int), q4] [] μ' := by
    intro n
    induction n with
    | zero =>
      intro y hy hh x μ' q4 hx hF hC hA
      have : x = Wd μ := by omega
      subst this
      have e1 := hF.e1
      refine m_58_15 ⟨fun _ => ⟨by omega, hh μ' _ _ hF hC ⟨fun a b hb ha => ?_, fun a ha => absurd ha (by omega)⟩⟩, fun c => absurd (by rw [e1]; omega) c⟩
      by_cases q : b = y
      · subst q
        exact hA.2 a ha
      · exact hA.1 a b (by omega) ha
    | succ n ih =>
      intro y hy hh x μ' q4 hx hF hC hA
      have S' := hS.fw hF
      have e1 := hF.e1
      have hp : Pm μ' (x : Int) (y : Int) := by unfold Pm; rw [e1]; omega
      refine m_58_15 ⟨fun c => absurd c (by rw [e1]; omega), fun _ => ⟨by omega, by omega, fun c => absurd c (by omega), fun _ => sp_echoTime S'.co (S'.pl hp) ls.b fun μ2 F2 => ⟨by omega, by omega, ?_⟩⟩⟩
      have ej : ((40 * (y : Int)) + (x : Int)).toNat = 40 * y + x := by omega
      rw [ej, hF.rr hS]
      have F' := (hF.trans F2.fw).trans (FW.w (μ := μ2) (c := 38) (i := 0) (k := 40 * y + x) (v := ech (RT μ s (x : Int) (y : Int) (x : Int) (y : Int))) (by unfold Kp; omega))
      refine ih y hy hh (x + 1) _ _ (by omega) F' ?_ ⟨fun a b hb ha => ?_, fun a ha => ?_⟩
      · have C2 := hC.f8 F2
        unfold SC
        rw [wr_c (by decide), wr_c (by decide)]
        exact C2
      · unfold AE
        rw [wr_k (by omega), F2 38 0 _ (by decide)]
        exact hA.1 a b hb ha
      · unfold AE
        by_cases q : a = x
        · subst q
          rw [wr_same]
        · rw [wr_k (by omega), F2 38 0 _ (by decide)]
          exact hA.2 a (by omega)
  have lo : ∀ (n y : Nat) (μ' : Mem) (q3 q4 : AV), n + y = Hg μ → FW μ μ' → SC μ' S → AT μ' μ s 0 y → R_58 sc 11 (PV t Q) t 2 [rfc 0 0, .inl s, .inl (y : Int), q3, q4] [] μ' := by
    intro n
    induction n with
    | zero =>
      intro y μ' q3 q4 hy hF hC hA
      have : y = Hg μ := by omega
      subst this
      have e1 := hF.e1
      exact m_58_2 ⟨fun _ => PV_mk (h μ' hF hC fun a b hb ha => hA.1 a b hb ha), fun c => absurd (by rw [e1]; omega) c⟩
    | succ n ih =>
      intro y μ' q3 q4 hy hF hC hA
      have e1 := hF.e1
      exact m_58_2 ⟨fun c => absurd c (by rw [e1]; omega), fun _ => li (Wd μ) y (by omega) (fun μ2 q3 q4 F2 C2 A2 => ih (y + 1) μ2 q3 q4 (by omega) F2 C2 A2) 0 μ' q4 rfl hF hC hA⟩
  exact m_58 (lo (Hg μ) 0 μ _ _ rfl FW.rfl hC ⟨fun a b hb => absurd hb (by omega), fun a ha => absurd ha (by omega)⟩)
/-- what a step would answer from the i-th place -/
noncomputable def stV (μ : Mem) (k s dx dy : Int) (i : Nat) : Int := alV μ s ((fitS μ k).1 i % 100 + dx) ((fitS μ k).1 i / 100 + dy)
/-- the codes of the places found -/
def codes (S : Sq) : Prop := ∀ i, i < S.2 → 0 ≤ S.1 i ∧ S.1 i ≤ 3939
theorem codes_fit {μ : Mem} (hS : Sim μ) (k : Int) : codes (fitS μ k) := by
  obtain ⟨w1, w2, w3, w4⟩ := hS.wh
  have sn : ∀ (S : Sq) (v : Int), codes S → (0 ≤ v ∧ v ≤ 3939) → codes (snoc S v) := by
    intro S v h hv i hi
    unfold snoc at hi ⊢
    simp only [] at hi ⊢
    by_cases q : i = S.2
    · rw [if_pos q]; exact hv
    · rw [if_neg q]; exact h i (by omega)
  have hx : ∀ (y : Nat) (S : Sq), y < 40 → codes S → ∀ x, x ≤ 40 → codes (scx (PdF μ k) y x S) := by
    intro y S hy h x
    induction x with
    | zero => exact fun _ => h
    | succ x ih =>
      intro hx
      rw [scx_s]
      by_cases c : PdF μ k x y
      · rw [ic_t c]
        exact sn _ _ (ih (by omega)) (by omega)
      · rw [ic_f c]
        exact ih (by omega)
  have hy : ∀ y, y ≤ 40 → codes (scy (PdF μ k) (Wd μ) y) := by
    intro y
    induction y with
    | zero => exact fun _ i hi => absurd hi (by unfold scy; simp)
    | succ y ih => exact fun hy => hx y _ (by omega) (ih (by omega)) _ w3
  exact hy _ w4
theorem sp_steps {sc : Scr} {t : Nat} {μ0 μ : Mem} {Q : Int → Mem → Prop} {k s dx dy : Int} (hS : Sim μ0) (hF : FW μ0 μ) (hd : (-2 ≤ dx ∧ dx ≤ 2) ∧ (-2 ≤ dy ∧ dy ≤ 2)) (hC : SC μ (fitS μ0 k)) (hA : ∀ x y, y < Hg μ0 → x < Wd μ0 → AE μ μ0 s x y) (h : ∀ μ', FA μ μ' → Q (mxF (stV μ0 k s dx dy) (fitS μ0 k).2) μ') : RMi sc 12 59 [rfc 0 0, .inl dx, .inl dy] (t, 0, 0) μ Q := by
  have l16 := fitS_le hS k
  have cd := codes_fit hS k
  obtain ⟨w1, w2, w3, w4⟩ := hS.wh
  have lp : ∀ (n i : Nat) (μ' : Mem) (q4 q5 : AV), n + i = (fitS μ0 k).2 → FA μ μ' → (∃ g : Nat → Int, SA μ' (g, i) ∧ ∀ j, j < i → g j = stV μ0 k s dx dy j) → R_59 sc 11 (PI t Q) t 10 [rfc 0 0, .inl dx, .inl dy, .inl (i : Int), q4, q5] [] μ' := by
    intro n
    induction n with
    | zero =>
      intro i μ' q4 q5 hi hF' ⟨g, hg, hv⟩
      have : i = (fitS μ0 k).2 := by omega
      subst this
      have e2 : μ' 2 0 1 = ((fitS μ0 k).2 : Int) := by rw [hF' 2 0 1 (by omega)]; exact hC.1
      refine m_59_10 ⟨fun _ => sp_longest l16 hg.1 fun μ2 F2 => PI_mk ?_, fun c => absurd (by omega) c⟩
      have e : mxF (μ' 36 1) (fitS μ0 k).2 = mxF (stV μ0 k s dx dy) (fitS μ0 k).2 := mxF_c fun j hj => (hg.2 j hj).trans (hv j hj)
      rw [e]
      exact h μ2 (hF'.trans F2.fa)
    | succ n ih =>
      intro i μ' q4 q5 hi hF' ⟨g, hg, hv⟩
      have e2 : μ' 2 0 1 = ((fitS μ0 k).2 : Int) := by rw [hF' 2 0 1 (by omega)]; exact hC.1
      have C' : SC μ' (fitS μ0 k) := ⟨e2, fun j hj => by rw [hF' 36 0 j (by omega)]; exact hC.2 j hj⟩
      have cb := cd i (by omega)
      have e1 : μ' 1 = μ0 1 := by rw [hF'.fw.e1, hF.e1]
      have nx : ∀ μ2 v q4 q5, FA μ' μ2 → v = stV μ0 k s dx dy i → SA μ2 (snoc (g, i) v) → R_59 sc 11 (PI t Q) t 10 [rfc 0 0, .inl dx, .inl dy, .inl ((i : Int) + 1), q4, q5] [] μ2 := by
        intro μ2 v q4 q5 F2 ev A2
        refine ih (i + 1) μ2 _ _ (by omega) (hF'.trans F2) ⟨_, A2, fun j hj => ?_⟩
        by_cases q : j = i
        · subst q
          show (if j = j then v else g j) = _
          rw [if_pos rfl]
          exact ev
        · show (if j = i then v else g j) = _
          rw [if_neg q]
          exact hv j (by omega)
      refine m_59_10 ⟨fun c => absurd c (by omega), fun _ => sp_get C' l16 (fun m em hm => ?_) (fun c => absurd ⟨by omega, by omega⟩ c)⟩
      have : m = i := by omega
      subst this
      refine ⟨by omega, by omega, sp_get C' l16 (fun m2 em2 hm2 => ?_) (fun c => absurd ⟨by omega, by omega⟩ c)⟩
      have : m2 = m := by omega
      subst this
      refine ⟨by omega, by omega, sp_holds (fun p => ⟨fun z => absurd z (by decide), fun _ => ?_⟩) (fun p => ⟨fun _ => sp_add1 hg (by show m2 < 1600; omega) fun μ3 F3 A3 => ⟨by omega, nx μ3 _ _ _ F3 ?_ A3⟩, fun z => absurd rfl z⟩)⟩
      · have pm : Pm μ0 ((fitS μ0 k).1 m2 % 100 + dx) ((fitS μ0 k).1 m2 / 100 + dy) := by
          unfold Pm at p ⊢
          rw [e1] at p
          exact p
        have pm' := pm
        unfold Pm at pm'
        obtain ⟨X, hX⟩ := Int.eq_ofNat_of_zero_le pm'.1.1
        obtain ⟨Y, hY⟩ := Int.eq_ofNat_of_zero_le pm'.2.1
        have ea := hA X Y (by omega) (by omega)
        unfold AE at ea
        have ej : ((40 * ((fitS μ0 k).1 m2 / 100 + dy)) + ((fitS μ0 k).1 m2 % 100 + dx)).toNat = 40 * Y + X := by omega
        refine ⟨by omega, by omega, by omega, ?_⟩
        rw [ej, hF' 38 0 _ (by omega), ea]
        refine sp_add1 hg (by show m2 < 1600; omega) fun μ3 F3 A3 => ⟨by omega, nx μ3 _ _ _ F3 ?_ A3⟩
        unfold stV alV
        rw [ic_t pm, hX, hY]
      · unfold stV alV
        rw [ic_f]
        unfold Pm at p ⊢
        rw [e1] at p
        exact p
  refine m_59 (lp (fitS μ0 k).2 0 _ _ _ rfl (fun c i j a => ?_) ⟨fun _ => 0, ⟨wr_same _ _ _ _ _, fun j hj => absurd hj (by show ¬ j < 0; omega)⟩, fun j hj => absurd hj (by omega)⟩)
  unfold wr
  rw [if_neg fun z => a ⟨Or.inl z.1, z.2.1⟩]
