/-! MATHEMATICS, 52: step alike -/
/-- the least answer and where it is, in order -/
noncomputable def lsG (u : Nat → Int) (co : Nat → Int) : Nat → Int × Int
  | 0 => (-1, 0)
  | n + 1 => if (lsG u co n).1 < 0 ∨ u n < (lsG u co n).2 then (co n, u n) else lsG u co n
theorem lsG_s (u co : Nat → Int) (n : Nat) : lsG u co (n + 1) = if (lsG u co n).1 < 0 ∨ u n < (lsG u co n).2 then (co n, u n) else lsG u co n := rfl
theorem lsG_c {u u' co co' : Nat → Int} : ∀ {n : Nat}, (∀ i, i < n → u i = u' i ∧ co i = co' i) → lsG u co n = lsG u' co' n
  | 0, _ => rfl
  | n + 1, h => by
    rw [lsG_s, lsG_s, lsG_c fun i hi => h i (by omega), (h n (by omega)).1, (h n (by omega)).2]
theorem lsG_p {u co : Nat → Int} (hco : ∀ i, 0 ≤ co i) : ∀ n, 0 < n → 0 ≤ (lsG u co n).1
  | 0, h => absurd h (by omega)
  | n + 1, _ => by
    rw [lsG_s]
    split
    · exact hco n
    · omega
/-- how the class holds it -/
def lsC (r : Int × Int) (b l : Int) : Prop := (r.1 < 0 ∧ b = 0 ∧ l = 1601) ∨ (0 ≤ r.1 ∧ b = r.1 ∧ l = r.2)
theorem lsC_s {u co : Nat → Int} {n : Nat} {b l : Int} (h : lsC (lsG u co n) b l) (hu : u n ≤ 1600) (hco : 0 ≤ co n) : (u n < l → lsC (lsG u co (n + 1)) (co n) (u n)) ∧ (¬ u n < l → lsC (lsG u co (n + 1)) b l) := by
  rw [lsG_s]
  unfold lsC at *
  constructor
  · intro c
    rcases h with h | h
    · rw [if_pos (Or.inl h.1)]
      exact Or.inr ⟨hco, rfl, rfl⟩
    · rw [if_pos (Or.inr (by omega))]
      exact Or.inr ⟨hco, rfl, rfl⟩
  · intro c
    rcases h with h | h
    · omega
    · rw [if_neg (by omega)]
      exact Or.inr h
theorem mxF_b (f : Nat → Int) : ∀ n : Nat, 0 ≤ mxF f n ∧ mxF f n ≤ (n : Int)
  | 0 => by unfold mxF; decide
  | n + 1 => by
    have h := mxF_b f n
    have m := mult_le f (f n) (n + 1)
    unfold mxF
    split <;> omega
noncomputable def stU (μ : Mem) (k s : Int) (j : Nat) : Int := mxF (stV μ k s (((j % 5 : Nat) : Int) - 2) (((j / 5 : Nat) : Int) - 2)) (fitS μ k).2
def stC (j : Nat) : Int := 100 * ((j / 5 : Nat) : Int) + ((j % 5 : Nat) : Int)
noncomputable def F_step (k s : Int) (μ : Mem) : Int := ic ((0 ≤ k ∧ k ≤ μ 3 4 4) ∧ Ld s) (ic ((fitS μ k).2 = 0) (-2) (lsG (stU μ k s) stC 25).1) (-1)
theorem stC_p (j : Nat) : 0 ≤ stC j := by unfold stC; omega
theorem FW.stV {μ μ' : Mem} (h : FW μ μ') (hS : Sim μ) (k s dx dy : Int) (i : Nat) : stV μ' k s dx dy i = stV μ k s dx dy i := by
  show alV μ' s ((fitS μ' k).1 i % 100 + dx) ((fitS μ' k).1 i / 100 + dy) = alV μ s ((fitS μ k).1 i % 100 + dx) ((fitS μ k).1 i / 100 + dy)
  rw [h.al hS, h.fit hS]
theorem c_step {sc : Scr} {t : Nat} {k s : Int} (μ : Mem) (Q : Int → Mem → Prop) (hS : Sim μ) (h : ∀ μ', FW μ μ' → Q (F_step k s μ) μ') : RMi sc 13 57 [rfc 0 0, .inl k, .inl s] (t, 0, 0) μ Q := by
  unfold F_step at h
  have no : ¬ ((0 ≤ k ∧ k ≤ μ 3 4 4) ∧ Ld s) → Q (-1) μ := by
    intro z
    rw [ic_f z] at h
    exact h _ FW.rfl
  have l16 := fitS_le hS k
  refine m_57 ⟨fun c => no fun z => by omega, fun c => ⟨fun c1 => no fun z => by omega, fun c1 => sp_isLoud (fun l => ⟨fun _ => sp_findFit hS (by omega) fun μ1 F1 C1 => ?_, fun z => absurd (by decide) z⟩) (fun l => ⟨fun z => absurd rfl z, fun _ => no fun z => l z.2⟩)⟩⟩
  rw [ic_t ⟨by omega, l⟩] at h
  have C1' : SC μ1 (fitS μ k) := C1
  rw [C1'.1]
  refine ⟨fun c3 => ?_, fun c3 => ?_⟩
  · rw [ic_f (by omega)] at h
    have S1 := hS.fw F1
    have w1 : Wd μ1 = Wd μ ∧ Hg μ1 = Hg μ := by unfold Wd Hg; rw [F1.e1]; exact ⟨rfl, rfl⟩
    refine sp_answerAll S1 l C1' fun μ2 F2 C2 A2 => ?_
    have F12 := F1.trans F2
    have A2' : ∀ x y, y < Hg μ → x < Wd μ → AE μ2 μ s x y := by
      intro x y hy hx
      have := A2 x y (by rw [w1.2]; exact hy) (by rw [w1.1]; exact hx)
      unfold AE at this ⊢
      rw [this, F1.rt hS]
    have lpx : ∀ (a : Nat), a < 5 → (∀ (μ' : Mem) (b l : Int) (q6 q7 : AV), FA μ2 μ' → lsC (lsG (stU μ k s) stC (5 * (a + 1))) b l → R_57 sc 12 (PI t Q) t 58 [rfc 0 0, .inl k, .inl s, .inl b, .inl l, .inl (((a + 1 : Nat) : Int) - 2), q6, q7] [] μ') → ∀ (n c : Nat) (μ' : Mem) (b l : Int) (q7 : AV), n + c = 5 → FA μ2 μ' → lsC (lsG (stU μ k s) stC (5 * a + c)) b l → R_57 sc 12 (PI t Q) t 68 [rfc 0 0, .inl k, .inl s, .inl b, .inl l, .inl ((a : Int) - 2), .inl ((c : Int) - 2), q7] [] μ' := by
      intro a ha hh n
      induction n with
      | zero =>
        intro c μ' b l q7 hc hF hl
        have : c = 5 := by omega
        subst this
        refine m_57_68 ⟨fun _ => ⟨by omega, ?_⟩, fun z => absurd (by omega) z⟩
        have r := hh μ' b l (.inl (((5 : Nat) : Int) - 2)) q7 hF hl
        rw [show ((a + 1 : Nat) : Int) - 2 = (a : Int) - 2 + 1 by omega] at r
        exact r
      | succ n ih =>
        intro c μ' b l q7 hc hF hl
        have C' : SC μ' (fitS μ k) := ⟨by rw [hF 2 0 1 (by omega)]; exact C2.1, fun j hj => by rw [hF 36 0 j (by omega)]; exact C2.2 j hj⟩
        have A' : ∀ x y, y < Hg μ → x < Wd μ → AE μ' μ s x y := fun x y hy hx => by
          have := A2' x y hy hx
          unfold AE at this ⊢
          rw [hF 38 0 _ (by omega)]
          exact this
        refine m_57_68 ⟨fun z => absurd z (by omega), fun _ => sp_steps (k := k) (s := s) hS (F12.trans hF.fw) ⟨⟨by omega, by omega⟩, by omega, by omega⟩ C' A' fun μ3 F3 => ?_⟩
        have eu : mxF (stV μ k s ((c : Int) - 2) ((a : Int) - 2)) (fitS μ k).2 = stU μ k s (5 * a + c) := by
          unfold stU
          rw [show (5 * a + c) % 5 = c by omega, show (5 * a + c) / 5 = a by omega]
        have ec : stC (5 * a + c) = 100 * (a : Int) + (c : Int) := by
          unfold stC
          rw [show (5 * a + c) % 5 = c by omega, show (5 * a + c) / 5 = a by omega]
        have mb := mxF_b (stV μ k s ((c : Int) - 2) ((a : Int) - 2)) (fitS μ k).2
        have st := lsC_s hl (by rw [← eu]; omega) (stC_p _)
        rw [← eu, ec] at st
        have e2 : (c : Int) - 2 + 1 = ((c + 1 : Nat) : Int) - 2 := by omega
        refine ⟨fun z => ⟨by omega, ?_⟩, fun z => ⟨by omega, by omega, by omega, by omega, by omega, ?_⟩⟩
        · rw [e2]
          exact ih (c + 1) μ3 b l _ (by omega) (hF.trans F3) (st.2 (by omega))
        · rw [e2]
          have r := ih (c + 1) μ3 _ _ (.inl (mxF (stV μ k s ((c : Int) - 2) ((a : Int) - 2)) (fitS μ k).2)) (by omega) (hF.trans F3) (st.1 (by omega))
          rw [show 100 * ((a : Int) - 2 + 2) + ((c : Int) - 2) + 2 = 100 * (a : Int) + (c : Int) by omega]
          exact r
    have lpy : ∀ (n a : Nat) (μ' : Mem) (b l : Int) (q6 q7 : AV), n + a = 5 → FA μ2 μ' → lsC (lsG (stU μ k s) stC (5 * a)) b l → R_57 sc 12 (PI t Q) t 58 [rfc 0 0, .inl k, .inl s, .inl b, .inl l, .inl ((a : Int) - 2), q6, q7] [] μ' := by
      intro n
      induction n with
      | zero =>
        intro a μ' b l q6 q7 ha hF hl
        have : a = 5 := by omega
        subst this
        refine m_57_58 ⟨fun _ => PI_mk ?_, fun z => absurd (by omega) z⟩
        have p := lsG_p (u := stU μ k s) stC_p 25 (by decide)
        have hl2 : lsC (lsG (stU μ k s) stC 25) b l := hl
        rcases hl2 with hl | hl
        · exact absurd hl.1 (by omega)
        · rw [hl.2.1]
          exact h μ' (F12.trans hF.fw)
      | succ n ih =>
        intro a μ' b l q6 q7 ha hF hl
        exact m_57_58 ⟨fun z => absurd z (by omega), fun _ => lpx a (by omega) (fun μ3 b l q6 q7 F3 l3 => ih (a + 1) μ3 b l q6 q7 (by omega) F3 l3) 5 0 μ' b l q7 rfl hF hl⟩
    exact lpy 5 0 μ2 0 1601 _ _ rfl (fun _ _ _ _ => rfl) (Or.inl ⟨by unfold lsG; decide, rfl, rfl⟩)
  · rw [ic_t (by omega)] at h
    exact h μ1 F1
/-- changed by the reference's comparing -/
def FB2 (μ μ' : Mem) : Prop := ∀ c i k, ¬ (73 ≤ c ∧ c ≤ 78) → c ≠ 84 → ¬ (c = 11 ∧ (49 ≤ k ∧ k ≤ 64 ∨ k = 79)) → μ' c i k = μ c i k
theorem FB2.trans {μ μ' μ'' : Mem} (h : FB2 μ μ') (h2 : FB2 μ' μ'') : FB2 μ μ'' := fun c i k a b e => (h2 c i k a b e).trans (h c i k a b e)
theorem FB2.fw {μ μ' : Mem} (h : FB2 μ μ') : FW μ μ' := by
  refine ⟨fun c k => ?_, fun k _ => h 11 0 k (by omega) (by decide) (by omega), fun w _ => ?_, h 9 8 5 (by omega) (by decide) (by omega), fun c i j a _ _ => h c i j (by omega) (by omega) (by omega)⟩
  · unfold Kp at k
    funext i j
    exact h c i j (by omega) (by omega) (by omega)
  · funext k
    exact h 9 w k (by omega) (by decide) (by omega)
theorem Fm.b2 {μ μ' : Mem} (h : Fm 49 μ μ') : FB2 μ μ' := fun c i k a b e => h c i k a (by omega)
theorem SMf.b2 {μ μ' : Mem} {S : Sq} (h : FB2 μ μ') (hS : SMf μ S) : SMf μ' S := by
  refine ⟨by rw [h 11 0 86 (by omega) (by decide) (by omega)]; exact hS.1, fun i hi => ?_⟩
  rw [h 89 0 i (by omega) (by decide) (by omega)]
  exact hS.2 i hi
theorem sp_ans2 {sc : Scr} {d t : Nat} {μ : Mem} {Q : Mem → Prop} {S : Sq} {v : Int} (hS : SMa μ S) (hn : S.2 < 1600) (h : ∀ μ', FB2 μ μ' → SMa μ' (snoc S v) → Q μ') : RMv sc (d + 1) 11096 [rfc 11 0, .inl v] (t, 0, 0) μ Q := by
  have h1 := hS.1
  refine m_11096 ⟨by omega, ?_, ?_⟩
  · rw [wr_c (by decide), h1]; omega
  · rw [h1, Int.toNat_natCast]
    refine h _ (fun c i k a b e => ?_) ⟨?_, fun i hi => ?_⟩
    · unfold wr
      rw [if_neg fun z => e ⟨z.1, Or.inr z.2.2⟩, if_neg fun z => b z.1]
    · rw [wr_same, wr_c (by decide), h1]
      unfold snoc
      simp
    · rw [wr_c (by decide)]
      unfold snoc at hi ⊢
      simp only [] at hi ⊢
      by_cases q : i = S.2
      · rw [if_pos q, q, wr_same]
      · rw [if_neg q, wr_k q]
        exact hS.2 i (by omega)
theorem SMa.fm {μ μ' : Mem} {S : Sq} (h : Fm 49 μ μ') (hS : SMa μ S) : SMa μ' S := by
  unfold SMa
  rw [h.f (k := 79) (by decide), h.c (c := 84) (by decide) (by decide)]
  exact hS
/-- how the reference holds the least -/
def lsM (r : Int × Int) (b l : Int) : Prop := b = r.1 ∧ l = r.2
theorem lsM_s {u co : Nat → Int} {n : Nat} {b l : Int} (h : lsM (lsG u co n) b l) : (b < 0 → lsM (lsG u co (n + 1)) (co n) (u n)) ∧ (¬ b < 0 → u n < l → lsM (lsG u co (n + 1)) (co n) (u n)) ∧ (¬ b < 0 → ¬ u n < l → lsM (lsG u co (n + 1)) b l) := by
  rw [lsG_s]
  unfold lsM at *
  obtain ⟨rfl, rfl⟩ := h
  refine ⟨fun c => ?_, fun c c2 => ?_, fun c c2 => ?_⟩
  · rw [if_pos (Or.inl c)]
    exact ⟨rfl, rfl⟩
  · rw [if_pos (Or.inr c2)]
    exact ⟨rfl, rfl⟩
  · rw [if_neg (by omega)]
    exact ⟨rfl, rfl⟩
theorem r_step {sc : Scr} {t : Nat} {k s : Int} (μ : Mem) (Q : Int → Mem → Prop) (hS : Sim μ) (h : ∀ μ', FW μ μ' → Q (F_step k s μ) μ') : RMi sc 13 11102 [rfc 11 0, .inl k, .inl s] (t, 0, 0) μ Q := by
  unfold F_step at h
  have no : ¬ ((0 ≤ k ∧ k ≤ μ 3 4 4) ∧ Ld s) → Q (-1) μ := by
    intro z
    rw [ic_f z] at h
    exact h _ FW.rfl
  have l16 := fitS_le hS k
  have cd := codes_fit hS k
  have e80 : μ 11 0 80 = μ 3 4 4 := hS.2.2.2.1.2.1.1
  refine m_11102 ?_
  rw [e80]
  refine sp_in (fun c => ⟨fun z => absurd z (by decide), fun _ => sp_isLoudM (fun l => ⟨fun _ => sp_fillFits hS c fun μ1 F1 C1 => ?_, fun z => absurd (by decide) z⟩) (fun l => ⟨fun z => absurd rfl z, fun _ => no fun z => l z.2⟩)⟩) (fun c => ⟨fun _ => no fun z => c z.1, fun z => absurd rfl z⟩)
  rw [ic_t ⟨c, l⟩] at h
  have C1' : SMf μ1 (fitS μ k) := C1
  rw [C1'.1]
  refine ⟨fun c3 => ?_, fun c3 => ?_⟩
  · rw [ic_f (by omega)] at h
    have S1 := hS.fw F1
    -- the answers of one step
    have lpi : ∀ (dx dy b l' : Int), (-2 ≤ dx ∧ dx ≤ 2) ∧ (-2 ≤ dy ∧ dy ≤ 2) → (∀ μ' q7 q8 q9, FB2 μ1 μ' → SMf μ' (fitS μ k) → (b < 0 → R_11102 sc 12 (PI t Q) t 55 [rfc 11 0, .inl k, .inl s, .inl (((100 * (dy + 2)) + dx) + 2), .inl (mxF (stV μ k s dx dy) (fitS μ k).2), .inl dy, .inl (dx + 1), q7, q8, q9] [] μ') ∧ (¬ b < 0 → mxF (stV μ k s dx dy) (fitS μ k).2 < l' → R_11102 sc 12 (PI t Q) t 55 [rfc 11 0, .inl k, .inl s, .inl (((100 * (dy + 2)) + dx) + 2), .inl (mxF (stV μ k s dx dy) (fitS μ k).2), .inl dy, .inl (dx + 1), q7, q8, q9] [] μ') ∧ (¬ b < 0 → ¬ mxF (stV μ k s dx dy) (fitS μ k).2 < l' → R_11102 sc 12 (PI t Q) t 55 [rfc 11 0, .inl k, .inl s, .inl b, .inl l', .inl dy, .inl (dx + 1), q7, q8, q9] [] μ')) → ∀ (n i : Nat) (μ' : Mem) (q8 q9 : AV), n + i = (fitS μ k).2 → FB2 μ1 μ' → (∃ g : Nat → Int, SMa μ' (g, i) ∧ ∀ j, j < i → g j = stV μ k s dx dy j) → R_11102 sc 12 (PI t Q) t 69 [rfc 11 0, .inl k, .inl s, .inl b, .inl l', .inl dy, .inl dx, .inl (i : Int), q8, q9] [] μ' := by
      intro dx dy b l' hd hh n
      induction n with
      | zero =>
        intro i μ' q8 q9 hi hF ⟨g, hg, hv⟩
        have : i = (fitS μ k).2 := by omega
        subst this
        have C' := C1'.b2 hF
        have e : mxF g (fitS μ k).2 = mxF (stV μ k s dx dy) (fitS μ k).2 := mxF_c fun j hj => hv j hj
        have r := fun q7 q8 q9 => hh μ' q7 q8 q9 hF C'
        refine m_11102_69 ⟨fun _ => sp_greatest hg l16 ?_, fun z => absurd (by rw [C'.1]; omega) z⟩
        show _ ∧ _
        rw [show mxF (g, (fitS μ k).2).1 (g, (fitS μ k).2).2 = mxF (stV μ k s dx dy) (fitS μ k).2 from e]
        refine ⟨fun z => ⟨by omega, by omega, by omega, by omega, by omega, (r _ _ _).1 z⟩, fun z => ⟨fun z2 => ⟨by omega, by omega, by omega, by omega, by omega, (r _ _ _).2.1 z z2⟩, fun z2 => ⟨by omega, (r _ _ _).2.2 z z2⟩⟩⟩
      | succ n ih =>
        intro i μ' q8 q9 hi hF ⟨g, hg, hv⟩
        have C' := C1'.b2 hF
        have F0 := F1.trans hF.fw
        have S' := hS.fw F0
        have cb := cd i (by omega)
        have nx : ∀ μ2 v q8 q9, FB2 μ' μ2 → v = stV μ k s dx dy i → SMa μ2 (snoc (g, i) v) → R_11102 sc 12 (PI t Q) t 69 [rfc 11 0, .inl k, .inl s, .inl b, .inl l', .inl dy, .inl dx, .inl ((i : Int) + 1), q8, q9] [] μ2 := by
          intro μ2 v q8 q9 F2 ev A2
          refine ih (i + 1) μ2 _ _ (by omega) (hF.trans F2) ⟨_, A2, fun j hj => ?_⟩
          by_cases q : j = i
          · subst q
            show (if j = j then v else g j) = _
            rw [if_pos rfl]
            exact ev
          · show (if j = i then v else g j) = _
            rw [if_neg q]
            exact hv j (by omega)
        refine m_11102_69 ⟨fun z => absurd z (by rw [C'.1]; omega), fun _ => ?_⟩
        rw [Int.toNat_natCast, C'.2 i (by omega)]
        refine ⟨by omega, by omega, by omega, by omega, by omega, by omega, sp_isPlace S'.1.1 S'.2.1 (fun p => ⟨fun z => absurd z (by decide), fun _ => sp_echo S'.mo (S'.pl p) l.b fun μ2 F2 => sp_ans2 (hg.fm F2) (by show i < 1600; omega) fun μ3 F3 A3 => ⟨by omega, nx μ3 _ _ _ (F2.b2.trans F3) ?_ A3⟩⟩) (fun p => ⟨fun _ => sp_ans2 hg (by show i < 1600; omega) fun μ3 F3 A3 => ⟨by omega, nx μ3 _ _ _ F3 ?_ A3⟩, fun z => absurd rfl z⟩)⟩
        · show _ = alV μ s ((fitS μ k).1 i % 100 + dx) ((fitS μ k).1 i / 100 + dy)
          rw [← F0.al hS]
          unfold alV
          rw [ic_t p, S'.rets]
        · show _ = alV μ s ((fitS μ k).1 i % 100 + dx) ((fitS μ k).1 i / 100 + dy)
          rw [← F0.al hS]
          unfold alV
          rw [ic_f p]
    have z79 : ∀ m : Mem, FB2 m (wr m 11 0 79 0) := fun m c i k _ _ e => by
      unfold wr
      rw [if_neg fun z => e ⟨z.1, Or.inr z.2.2⟩]
    have lpx : ∀ (a : Nat), a < 5 → (∀ (μ' : Mem) (b l : Int) (q6 q7 q8 q9 : AV), FB2 μ1 μ' → lsM (lsG (stU μ k s) stC (5 * (a + 1))) b l → R_11102 sc 12 (PI t Q) t 45 [rfc 11 0, .inl k, .inl s, .inl b, .inl l, .inl (((a + 1 : Nat) : Int) - 2), q6, q7, q8, q9] [] μ') → ∀ (n c : Nat) (μ' : Mem) (b l : Int) (q7 q8 q9 : AV), n + c = 5 → FB2 μ1 μ' → lsM (lsG (stU μ k s) stC (5 * a + c)) b l → R_11102 sc 12 (PI t Q) t 55 [rfc 11 0, .inl k, .inl s, .inl b, .inl l, .inl ((a : Int) - 2), .inl ((c : Int) - 2), q7, q8, q9] [] μ' := by
      intro a ha hh n
      induction n with
      | zero =>
        intro c μ' b l q7 q8 q9 hc hF hl
        have : c = 5 := by omega
        subst this
        refine m_11102_55 ⟨fun _ => ⟨by omega, ?_⟩, fun z => absurd (by omega) z⟩
        have r := hh μ' b l (.inl (((5 : Nat) : Int) - 2)) q7 q8 q9 hF hl
        rw [show ((a + 1 : Nat) : Int) - 2 = (a : Int) - 2 + 1 by omega] at r
        exact r
      | succ n ih =>
        intro c μ' b l q7 q8 q9 hc hF hl
        have eu : mxF (stV μ k s ((c : Int) - 2) ((a : Int) - 2)) (fitS μ k).2 = stU μ k s (5 * a + c) := by
          unfold stU
          rw [show (5 * a + c) % 5 = c by omega, show (5 * a + c) / 5 = a by omega]
        have ec : stC (5 * a + c) = 100 * (a : Int) + (c : Int) := by
          unfold stC
          rw [show (5 * a + c) % 5 = c by omega, show (5 * a + c) / 5 = a by omega]
        have st := lsM_s hl
        rw [← eu, ec] at st
        have e2 : (c : Int) - 2 + 1 = ((c + 1 : Nat) : Int) - 2 := by omega
        have e3 : 100 * ((a : Int) - 2 + 2) + ((c : Int) - 2) + 2 = 100 * (a : Int) + (c : Int) := by omega
        refine m_11102_55 ⟨fun z => absurd z (by omega), fun _ => lpi _ _ b l ⟨⟨by omega, by omega⟩, by omega, by omega⟩ (fun μ2 q7 q8 q9 F2 C2 => ⟨fun z => ?_, fun z z2 => ?_, fun z z2 => ?_⟩) (fitS μ k).2 0 _ _ _ rfl (hF.trans (z79 _)) ⟨fun _ => 0, ⟨wr_same _ _ _ _ _, fun j hj => absurd hj (by show ¬ j < 0; omega)⟩, fun j hj => absurd hj (by omega)⟩⟩
        · rw [e2, e3]
          exact ih (c + 1) μ2 _ _ _ _ _ (by omega) F2 (st.1 z)
        · rw [e2, e3]
          exact ih (c + 1) μ2 _ _ _ _ _ (by omega) F2 (st.2.1 z z2)
        · rw [e2]
          exact ih (c + 1) μ2 _ _ _ _ _ (by omega) F2 (st.2.2 z z2)
    have lpy : ∀ (n a : Nat) (μ' : Mem) (b l : Int) (q6 q7 q8 q9 : AV), n + a = 5 → FB2 μ1 μ' → lsM (lsG (stU μ k s) stC (5 * a)) b l → R_11102 sc 12 (PI t Q) t 45 [rfc 11 0, .inl k, .inl s, .inl b, .inl l, .inl ((a : Int) - 2), q6, q7, q8, q9] [] μ' := by
      intro n
      induction n with
      | zero =>
        intro a μ' b l q6 q7 q8 q9 ha hF hl
        have : a = 5 := by omega
        subst this
        refine m_11102_45 ⟨fun _ => PI_mk ?_, fun z => absurd (by omega) z⟩
        have hl2 : lsM (lsG (stU μ k s) stC 25) b l := hl
        rw [hl2.1]
        exact h μ' (F1.trans hF.fw)
      | succ n ih =>
        intro a μ' b l q6 q7 q8 q9 ha hF hl
        exact m_11102_45 ⟨fun z => absurd z (by omega), fun _ => lpx a (by omega) (fun μ3 b l q6 q7 q8 q9 F3 l3 => ih (a + 1) μ3 b l q6 q7 q8 q9 (by omega) F3 l3) 5 0 μ' b l q7 q8 q9 rfl hF hl⟩
    exact lpy 5 0 μ1 (-1) 0 _ _ _ _ rfl (fun _ _ _ _ _ _ => rfl) ⟨rfl, rfl⟩
  · rw [ic_t (by omega)] at h
    exact h μ1 F1
theorem p_step {sc : Scr} {t : Nat} {μ : Mem} {k s : Int} (hS : Sim μ) : PR sc t μ 57 11102 [.inl k, .inl s] := by
  refine PR_of (F_step k s) hS (fun μ1 F1 => ?_) c_step r_step
  have e : lsG (stU μ1 k s) stC 25 = lsG (stU μ k s) stC 25 := by
    refine lsG_c fun i _ => ⟨?_, rfl⟩
    unfold stU
    rw [F1.fit hS]
    exact mxF_c fun j _ => F1.stV hS k s _ _ j
  unfold F_step
  rw [e, F1.fit hS, F1.1 3 (by unfold Kp; omega)]
