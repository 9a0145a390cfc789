/-! MATHEMATICS, 55: next alike -/
def stp (v c : Int) (r : Int × Int) : Int × Int := if r.1 < 0 ∨ v < r.2 then (c, v) else r
def lsx (u : Nat → Nat → Int) (y : Nat) : Nat → Int × Int → Int × Int
  | 0, r => r
  | x + 1, r => stp (u x y) ((100 * (y : Int)) + (x : Int)) (lsx u y x r)
def lsy (u : Nat → Nat → Int) (W : Nat) : Nat → Int × Int
  | 0 => (-1, 0)
  | y + 1 => lsx u y W (lsy u W y)
theorem lsx_s (u : Nat → Nat → Int) (y x : Nat) (r : Int × Int) : lsx u y (x + 1) r = stp (u x y) ((100 * (y : Int)) + (x : Int)) (lsx u y x r) := rfl
theorem lsx_c {u u' : Nat → Nat → Int} {y : Nat} {r : Int × Int} : ∀ {x : Nat}, (∀ k, k < x → u k y = u' k y) → lsx u y x r = lsx u' y x r
  | 0, _ => rfl
  | x + 1, h => by rw [lsx_s, lsx_s, lsx_c fun k hk => h k (by omega), h x (by omega)]
theorem lsy_c {u u' : Nat → Nat → Int} {W : Nat} : ∀ {y : Nat}, (∀ k j, k < W → j < y → u k j = u' k j) → lsy u W y = lsy u' W y
  | 0, _ => rfl
  | y + 1, h => by
    show lsx u y W (lsy u W y) = lsx u' y W (lsy u' W y)
    rw [lsy_c fun k j hk hj => h k j hk (by omega)]
    exact lsx_c fun k hk => h k y hk (by omega)
theorem stp_p {v c : Int} {r : Int × Int} (hc : 0 ≤ c) : 0 ≤ (stp v c r).1 := by
  unfold stp
  split
  · exact hc
  · omega
theorem lsx_p {u : Nat → Nat → Int} {y x : Nat} {r : Int × Int} (hx : 0 < x) : 0 ≤ (lsx u y x r).1 := by
  cases x with
  | zero => omega
  | succ x => exact stp_p (by omega)
theorem lsC_t {r : Int × Int} {b l v c : Int} (h : lsC r b l) (hu : v ≤ 1600) (hco : 0 ≤ c) : (v < l → lsC (stp v c r) c v) ∧ (¬ v < l → lsC (stp v c r) b l) := by
  unfold lsC stp at *
  constructor
  · intro z
    rcases h with h | h
    · rw [if_pos (Or.inl h.1)]
      exact Or.inr ⟨hco, rfl, rfl⟩
    · rw [if_pos (Or.inr (by omega))]
      exact Or.inr ⟨hco, rfl, rfl⟩
  · intro z
    rcases h with h | h
    · omega
    · rw [if_neg (by omega)]
      exact Or.inr h
theorem lsM_t {r : Int × Int} {b l v c : Int} (h : lsM r b l) : (b < 0 → lsM (stp v c r) c v) ∧ (¬ b < 0 → v < l → lsM (stp v c r) c v) ∧ (¬ b < 0 → ¬ v < l → lsM (stp v c r) b l) := by
  unfold lsM stp at *
  obtain ⟨rfl, rfl⟩ := h
  refine ⟨fun c => ?_, fun c c2 => ?_, fun c c2 => ?_⟩
  · rw [if_pos (Or.inl c)]
    exact ⟨rfl, rfl⟩
  · rw [if_pos (Or.inr c2)]
    exact ⟨rfl, rfl⟩
  · rw [if_neg (by omega)]
    exact ⟨rfl, rfl⟩
noncomputable def nxV (μ : Mem) (k s : Int) (x y i : Nat) : Int := ech (RG μ ((hidS μ k).1 i) s (x : Int) (y : Int) (x : Int) (y : Int))
noncomputable def nxU (μ : Mem) (k s : Int) (x y : Nat) : Int := mxF (nxV μ k s x y) (hidS μ k).2
noncomputable def F_next (k s : Int) (μ : Mem) : Int := ic ((0 ≤ k ∧ k ≤ μ 3 3 4) ∧ Ld s) (ic ((hidS μ k).2 = 0) (-2) (lsy (nxU μ k s) (Wd μ) (Hg μ)).1) (-1)
theorem hid_b (μ : Mem) (k : Int) : (hidS μ k).2 ≤ 80 ∧ ∀ i, i < (hidS μ k).2 → (hidS μ k).1 i < 80 := hsN_le (PdH μ k) 80
theorem sp_mostAlike {sc : Scr} {d t : Nat} {μ μ1 : Mem} {Q : Int → Mem → Prop} {k s : Int} {x y : Nat} (hS : Sim μ) (ls : Ld s) (hx : x < Wd μ) (hy : y < Hg μ) (hF : FG μ μ1) (hC : SCh μ1 (hidS μ k)) (h : ∀ μ', FG μ μ' → SCh μ' (hidS μ k) → μ' 9 8 5 = 0 → Q (nxU μ k s x y) μ') : RMi sc (d + 6) 53 [rfc 0 0, .inl (x : Int), .inl (y : Int), .inl s] (t, 0, 0) μ1 Q := by
  obtain ⟨w1, w2, w3, w4⟩ := hS.wh
  obtain ⟨h80, hb⟩ := hid_b μ k
  have pl : Pl (x : Int) (y : Int) := hS.pl (by unfold Pm; omega)
  have lp : ∀ (n i : Nat) (μ' : Mem), n + i = (hidS μ k).2 → FG μ μ' → SCh μ' (hidS μ k) → (∃ g : Nat → Int, SA μ' (g, i) ∧ ∀ j, j < i → g j = nxV μ k s x y j) → R_53 sc (d + 5) (PI t Q) t 11 [rfc 0 0, .inl (x : Int), .inl (y : Int), .inl s, .inl (i : Int)] [] μ' := by
    intro n
    induction n with
    | zero =>
      intro i μ' hi hF' hC' ⟨g, hg, hv⟩
      have : i = (hidS μ k).2 := by omega
      subst this
      have k1 := hC'.1
      have g1 : (wr μ' 9 8 5 0) 2 1 1 = (((hidS μ k).2 : Nat) : Int) := by rw [wr_c (by decide)]; exact hg.1
      refine m_53_11 ⟨fun _ => sp_endGuess (sp_longest (by omega) g1 fun μ2 F2 => PI_mk ?_), fun z => absurd (by omega) z⟩
      have e : mxF ((wr μ' 9 8 5 0) 36 1) (hidS μ k).2 = nxU μ k s x y := by
        rw [wr_c (by decide)]
        exact mxF_c fun j hj => (hg.2 j hj).trans (hv j hj)
      rw [e]
      refine h μ2 (fun c i j a b e f => ?_) ⟨?_, fun j hj => ?_⟩ ?_
      · rw [F2 c i j (by omega)]
        unfold wr
        rw [if_neg fun z => a ⟨z.1, z.2.1⟩]
        exact hF' c i j a b e f
      · rw [F2 2 0 1 (by omega), wr_c (by decide)]
        exact k1
      · rw [F2 36 0 j (by omega), wr_c (by decide)]
        exact hC'.2 j hj
      · rw [F2 9 8 5 (by omega), wr_same]
    | succ n ih =>
      intro i μ' hi hF' hC' ⟨g, hg, hv⟩
      have k1 := hC'.1
      have e36 : slen 36 0 = 1600 := rfl
      refine m_53_11 ⟨fun z => absurd z (by omega), fun _ => m_2002 ⟨fun z => absurd z (by omega), fun _ => ⟨fun z => absurd z (by omega), fun _ => ⟨fun z => absurd z (by omega), fun _ => ⟨by omega, ?_⟩⟩⟩⟩⟩
      rw [Int.toNat_natCast, hC'.2 i (by omega)]
      refine sp_guess (c := (hidS μ k).1 i) (hb i (by omega)) rfl hF' fun μ2 f2 F2 w2 => sp_echoTime (F2.co w2 hS.co) pl ls.b fun μ3 F3 => ?_
      rw [F2.rg w2]
      have F23 := F2.f8 F3
      have g3 : SA μ3 (g, i) := by
        refine ⟨?_, fun j hj => ?_⟩
        · rw [F3 2 1 1 (by decide), f2 2 1 1 (by omega)]
          exact hg.1
        · rw [F3 36 1 j (by decide), f2 36 1 j (by omega)]
          exact hg.2 j hj
      have C3 : SCh μ3 (hidS μ k) := by
        refine ⟨?_, fun j hj => ?_⟩
        · rw [F3 2 0 1 (by decide), f2 2 0 1 (by omega)]
          exact k1
        · rw [F3 36 0 j (by decide), f2 36 0 j (by omega)]
          exact hC'.2 j hj
      refine sp_add1 g3 (by show i < 1600; omega) fun μ4 F4 A4 => ⟨by omega, ih (i + 1) μ4 (by omega) (fun c i j a b e f => ?_) ⟨?_, fun j hj => ?_⟩ ⟨_, A4, fun j hj => ?_⟩⟩
      · rw [F4 c i j (by omega)]
        exact F23 c i j a b e f
      · rw [F4 2 0 1 (by omega)]
        exact C3.1
      · rw [F4 36 0 j (by omega)]
        exact C3.2 j hj
      · by_cases q : j = i
        · subst q
          show (if j = j then _ else g j) = _
          rw [if_pos rfl]
          rfl
        · show (if j = i then _ else g j) = _
          rw [if_neg q]
          exact hv j (by omega)
  refine m_53 (lp (hidS μ k).2 0 _ rfl (fun c i j a b e f => ?_) ⟨?_, fun j hj => ?_⟩ ⟨fun _ => 0, ⟨wr_same _ _ _ _ _, fun j hj => absurd hj (by show ¬ j < 0; omega)⟩, fun j hj => absurd hj (by omega)⟩)
  · rw [wr_c e]
    exact hF c i j a b e f
  · rw [wr_i (by decide)]
    exact hC.1
  · rw [wr_c (by decide)]
    exact hC.2 j hj
theorem c_next {sc : Scr} {t : Nat} {k s : Int} (μ : Mem) (Q : Int → Mem → Prop) (hS : Sim μ) (h : ∀ μ', FW μ μ' → Q (F_next k s μ) μ') : RMi sc 13 52 [rfc 0 0, .inl k, .inl s] (t, 0, 0) μ Q := by
  unfold F_next at h
  have no : ¬ ((0 ≤ k ∧ k ≤ μ 3 3 4) ∧ Ld s) → Q (-1) μ := by
    intro z
    rw [ic_f z] at h
    exact h _ FW.rfl
  obtain ⟨h80, hb⟩ := hid_b μ k
  obtain ⟨w1, w2, w3, w4⟩ := hS.wh
  have wp : 1 ≤ Wd μ ∧ 1 ≤ Hg μ := by
    have a := hS.2.1.2.2.2.1.2
    have b := hS.2.1.2.2.2.2.2
    omega
  refine m_52 ⟨fun c => no fun z => by omega, fun c => ⟨fun c1 => no fun z => by omega, fun c1 => sp_isLoud (fun l => ⟨fun _ => sp_findHid hS (by omega) fun μ1 F1 z1 C1 => ?_, fun z => absurd (by decide) z⟩) (fun l => ⟨fun z => absurd rfl z, fun _ => no fun z => l z.2⟩)⟩⟩
  rw [ic_t ⟨by omega, l⟩] at h
  rw [C1.1]
  refine ⟨fun c3 => ?_, fun c3 => ?_⟩
  · rw [ic_f (by omega)] at h
    have ub : ∀ x y, nxU μ k s x y ≤ 1600 := fun x y => by
      have := mxF_b (nxV μ k s x y) (hidS μ k).2
      unfold nxU
      omega
    have li : ∀ (y : Nat), y < Hg μ → (∀ (μ' : Mem) (b l' : Int) (q6 q7 : AV), FG μ μ' → SCh μ' (hidS μ k) → μ' 9 8 5 = 0 → lsC (lsy (nxU μ k s) (Wd μ) (y + 1)) b l' → R_52 sc 12 (PI t Q) t 52 [rfc 0 0, .inl k, .inl s, .inl b, .inl l', .inl ((y : Int) + 1), q6, q7] [] μ') → ∀ (n x : Nat) (μ' : Mem) (b l' : Int) (q7 : AV), n + x = Wd μ → FG μ μ' → SCh μ' (hidS μ k) → μ' 9 8 5 = 0 → lsC (lsx (nxU μ k s) y x (lsy (nxU μ k s) (Wd μ) y)) b l' → R_52 sc 12 (PI t Q) t 67 [rfc 0 0, .inl k, .inl s, .inl b, .inl l', .inl (y : Int), .inl (x : Int), q7] [] μ' := by
      intro y hy hh n
      induction n with
      | zero =>
        intro x μ' b l' q7 hx hF hC z5 hl
        have : x = Wd μ := by omega
        subst this
        have e1 : μ' 1 = μ 1 := hF.c (by decide) (by decide) (by decide) (by decide)
        exact m_52_67 ⟨fun _ => ⟨by omega, hh μ' b l' _ _ hF hC z5 hl⟩, fun z => absurd (by rw [e1]; omega) z⟩
      | succ n ih =>
        intro x μ' b l' q7 hx hF hC z5 hl
        have e1 : μ' 1 = μ 1 := hF.c (by decide) (by decide) (by decide) (by decide)
        refine m_52_67 ⟨fun z => absurd z (by rw [e1]; omega), fun _ => sp_mostAlike (k := k) hS l (by omega) hy hF hC fun μ2 F2 C2 z2 => ?_⟩
        have st := lsC_t (c := (100 * (y : Int)) + (x : Int)) hl (ub x y) (by omega)
        refine ⟨fun z => ⟨by omega, ih (x + 1) μ2 b l' _ (by omega) F2 C2 z2 (st.2 (by omega))⟩, fun z => sp_code (by omega) (by omega) ⟨by omega, ih (x + 1) μ2 _ _ _ (by omega) F2 C2 z2 (st.1 (by omega))⟩⟩
    have lo : ∀ (n y : Nat) (μ' : Mem) (b l' : Int) (q6 q7 : AV), n + y = Hg μ → FG μ μ' → SCh μ' (hidS μ k) → μ' 9 8 5 = 0 → lsC (lsy (nxU μ k s) (Wd μ) y) b l' → R_52 sc 12 (PI t Q) t 52 [rfc 0 0, .inl k, .inl s, .inl b, .inl l', .inl (y : Int), q6, q7] [] μ' := by
      intro n
      induction n with
      | zero =>
        intro y μ' b l' q6 q7 hy hF hC z5 hl
        have : y = Hg μ := by omega
        subst this
        have e1 : μ' 1 = μ 1 := hF.c (by decide) (by decide) (by decide) (by decide)
        refine m_52_52 ⟨fun _ => PI_mk ?_, fun z => absurd (by rw [e1]; omega) z⟩
        have p : 0 ≤ (lsy (nxU μ k s) (Wd μ) (Hg μ)).1 := by
          obtain ⟨m, hm⟩ : ∃ m, Hg μ = m + 1 := ⟨Hg μ - 1, by omega⟩
          rw [hm]
          exact lsx_p (by omega)
        rcases hl with hl | hl
        · omega
        · rw [hl.2.1]
          exact h μ' (hF.fw z5 hS.z8)
      | succ n ih =>
        intro y μ' b l' q6 q7 hy hF hC z5 hl
        have e1 : μ' 1 = μ 1 := hF.c (by decide) (by decide) (by decide) (by decide)
        exact m_52_52 ⟨fun z => absurd z (by rw [e1]; omega), fun _ => li y (by omega) (fun μ3 b l' q6 q7 F3 C3 z3 l3 => ih (y + 1) μ3 b l' q6 q7 (by omega) F3 C3 z3 l3) (Wd μ) 0 μ' b l' q7 rfl hF hC z5 hl⟩
    exact lo (Hg μ) 0 μ1 0 1601 _ _ rfl F1 C1 z1 (Or.inl ⟨by unfold lsy; decide, rfl, rfl⟩)
  · rw [ic_t (by omega)] at h
    exact h μ1 (F1.fw z1 hS.z8)
theorem FB2.gm {μ0 μ μ' : Mem} (h : FGm μ0 μ) (h2 : FB2 μ μ') : FGm μ0 μ' := fun c i k a b e f g => (h2 c i k b f (by omega)).trans (h c i k a b e f g)
theorem SMh.b2 {μ μ' : Mem} {S : Nq} (h : FB2 μ μ') (hS : SMh μ S) : SMh μ' S := by
  refine ⟨by rw [h 11 0 77 (by omega) (by decide) (by omega)]; exact hS.1, fun i hi => ?_⟩
  rw [h 83 0 i (by omega) (by decide) (by omega)]
  exact hS.2 i hi
theorem r_next {sc : Scr} {t : Nat} {k s : Int} (μ : Mem) (Q : Int → Mem → Prop) (hS : Sim μ) (h : ∀ μ', FW μ μ' → Q (F_next k s μ) μ') : RMi sc 13 11095 [rfc 11 0, .inl k, .inl s] (t, 0, 0) μ Q := by
  unfold F_next at h
  have no : ¬ ((0 ≤ k ∧ k ≤ μ 3 3 4) ∧ Ld s) → Q (-1) μ := by
    intro z
    rw [ic_f z] at h
    exact h _ FW.rfl
  obtain ⟨h80, hb⟩ := hid_b μ k
  obtain ⟨w1, w2, w3, w4⟩ := hS.wh
  have fl := hS.1.2.2.2.2.2.2
  have l0 := hS.1.1
  unfold liv at l0
  have e71 : μ 11 0 71 = μ 3 3 4 := hS.2.2.2.1.1.1
  refine m_11095 ?_
  rw [e71]
  refine sp_in (fun c => ⟨fun z => absurd z (by decide), fun _ => sp_isLoudM (fun l => ⟨fun _ => sp_fillHid hS c (fun _ _ _ _ _ _ _ _ => rfl) fun μ1 F1 z1 C1 => ?_, fun z => absurd (by decide) z⟩) (fun l => ⟨fun z => absurd rfl z, fun _ => no fun z => l z.2⟩)⟩) (fun c => ⟨fun _ => no fun z => c z.1, fun z => absurd rfl z⟩)
  rw [ic_t ⟨c, l⟩] at h
  rw [C1.1]
  refine ⟨fun c3 => ?_, fun c3 => ?_⟩
  · rw [ic_f (by omega)] at h
    have wdH : ∀ {m : Mem}, FGm μ m → ((0 : Int) ≤ m 11 0 18 ∧ m 11 0 18 < 2) ∧ m 66 0 (m 11 0 18).toNat = μ 1 0 5 ∧ m 67 0 (m 11 0 18).toNat = μ 1 0 6 := by
      intro m F
      have a := hS.2.1.2.2.2.1.1
      have b := hS.2.1.2.2.2.2.1
      unfold lvM at a b
      rw [F.f (k := 18) (by decide) (by decide) (by decide), F.c (c := 66) (by decide) (by decide) (by decide) (by decide) (by decide), F.c (c := 67) (by decide) (by decide) (by decide) (by decide) (by decide)]
      exact ⟨by omega, a, b⟩
    have z79 : ∀ m : Mem, FB2 m (wr m 11 0 79 0) := fun m c i k _ _ e => by
      unfold wr
      rw [if_neg fun z => e ⟨z.1, Or.inr z.2.2⟩]
    have lpi : ∀ (x y : Nat) (b l' : Int), x < Wd μ → y < Hg μ → (∀ μ' q7, FGm μ μ' → SMh μ' (hidS μ k) → (b < 0 → R_11095 sc 12 (PI t Q) t 61 [rfc 11 0, .inl k, .inl s, .inl ((100 * (y : Int)) + (x : Int)), .inl (nxU μ k s x y), .inl (y : Int), .inl ((x : Int) + 1), q7] [] μ') ∧ (¬ b < 0 → nxU μ k s x y < l' → R_11095 sc 12 (PI t Q) t 61 [rfc 11 0, .inl k, .inl s, .inl ((100 * (y : Int)) + (x : Int)), .inl (nxU μ k s x y), .inl (y : Int), .inl ((x : Int) + 1), q7] [] μ') ∧ (¬ b < 0 → ¬ nxU μ k s x y < l' → R_11095 sc 12 (PI t Q) t 61 [rfc 11 0, .inl k, .inl s, .inl b, .inl l', .inl (y : Int), .inl ((x : Int) + 1), q7] [] μ')) → ∀ (n i : Nat) (μ' : Mem), n + i = (hidS μ k).2 → FGm μ μ' → SMh μ' (hidS μ k) → (∃ g : Nat → Int, SMa μ' (g, i) ∧ ∀ j, j < i → g j = nxV μ k s x y j) → R_11095 sc 12 (PI t Q) t 83 [rfc 11 0, .inl k, .inl s, .inl b, .inl l', .inl (y : Int), .inl (x : Int), .inl (i : Int)] [] μ' := by
      intro x y b l' hx hy hh n
      have pl : Pl (x : Int) (y : Int) := hS.pl (by unfold Pm; omega)
      induction n with
      | zero =>
        intro i μ' hi hF hC ⟨g, hg, hv⟩
        have : i = (hidS μ k).2 := by omega
        subst this
        have e : mxF g (hidS μ k).2 = nxU μ k s x y := mxF_c fun j hj => hv j hj
        have r := fun q7 => hh μ' q7 hF hC
        refine m_11095_83 ⟨fun _ => sp_greatest hg (by show (hidS μ k).2 ≤ 1600; omega) ?_, fun z => absurd (by rw [hC.1]; omega) z⟩
        show _ ∧ _
        rw [show mxF (g, (hidS μ k).2).1 (g, (hidS μ k).2).2 = nxU μ k s x y from e]
        exact ⟨fun z => ⟨by omega, by omega, by omega, (r _).1 z⟩, fun z => ⟨fun z2 => ⟨by omega, by omega, by omega, (r _).2.1 z z2⟩, fun z2 => ⟨by omega, (r _).2.2 z z2⟩⟩⟩
      | succ n ih =>
        intro i μ' hi hF hC ⟨g, hg, hv⟩
        have k1 := hC.1
        refine m_11095_83 ⟨fun z => absurd z (by omega), fun _ => ⟨by omega, ?_⟩⟩
        rw [Int.toNat_natCast, hC.2 i (by omega)]
        refine sp_thinks (c := (hidS μ k).1 i) hS.1.1 (hb i (by omega)) hF fun μ2 f2 F2 w2 => sp_echo (F2.mo w2 hS.mo fl) pl l.b fun μ3 F3 => ?_
        rw [F2.rg w2 hS]
        have g2 : SMa μ2 (g, i) := by
          refine ⟨?_, fun j hj => ?_⟩
          · rw [f2 11 0 79 (by omega)]
            exact hg.1
          · rw [f2 84 0 j (by omega)]
            exact hg.2 j hj
        have C2 : SMh μ2 (hidS μ k) := by
          refine ⟨?_, fun j hj => ?_⟩
          · rw [f2 11 0 77 (by omega)]
            exact k1
          · rw [f2 83 0 j (by omega)]
            exact hC.2 j hj
        refine sp_ans2 (g2.fm F3) (by show i < 1600; omega) fun μ4 F4 A4 => ⟨by omega, ih (i + 1) μ4 (by omega) (F4.gm (F2.fm F3)) ((C2.fm F3).b2 F4) ⟨_, A4, fun j hj => ?_⟩⟩
        by_cases q : j = i
        · subst q
          show (if j = j then _ else g j) = _
          rw [if_pos rfl]
          rfl
        · show (if j = i then _ else g j) = _
          rw [if_neg q]
          exact hv j (by omega)
    have li : ∀ (y : Nat), y < Hg μ → (∀ (μ' : Mem) (b l' : Int) (q6 q7 : AV), FGm μ μ' → SMh μ' (hidS μ k) → lsM (lsy (nxU μ k s) (Wd μ) (y + 1)) b l' → R_11095 sc 12 (PI t Q) t 44 [rfc 11 0, .inl k, .inl s, .inl b, .inl l', .inl ((y : Int) + 1), q6, q7] [] μ') → ∀ (n x : Nat) (μ' : Mem) (b l' : Int) (q7 : AV), n + x = Wd μ → FGm μ μ' → SMh μ' (hidS μ k) → lsM (lsx (nxU μ k s) y x (lsy (nxU μ k s) (Wd μ) y)) b l' → R_11095 sc 12 (PI t Q) t 61 [rfc 11 0, .inl k, .inl s, .inl b, .inl l', .inl (y : Int), .inl (x : Int), q7] [] μ' := by
      intro y hy hh n
      induction n with
      | zero =>
        intro x μ' b l' q7 hx hF hC hl
        have : x = Wd μ := by omega
        subst this
        obtain ⟨v1, v2, v3⟩ := wdH hF
        exact m_11095_61 ⟨v1, fun _ => ⟨by omega, hh μ' b l' _ _ hF hC hl⟩, fun z => absurd (by omega) z⟩
      | succ n ih =>
        intro x μ' b l' q7 hx hF hC hl
        obtain ⟨v1, v2, v3⟩ := wdH hF
        have st := lsM_t (v := nxU μ k s x y) (c := (100 * (y : Int)) + (x : Int)) hl
        exact m_11095_61 ⟨v1, fun z => absurd z (by omega), fun _ => lpi x y b l' (by omega) hy (fun μ2 q7 F2 C2 => ⟨fun z => ih (x + 1) μ2 _ _ _ (by omega) F2 C2 (st.1 z), fun z z2 => ih (x + 1) μ2 _ _ _ (by omega) F2 C2 (st.2.1 z z2), fun z z2 => ih (x + 1) μ2 _ _ _ (by omega) F2 C2 (st.2.2 z z2)⟩) (hidS μ k).2 0 _ rfl ((z79 _).gm hF) (hC.b2 (z79 _)) ⟨fun _ => 0, ⟨wr_same _ _ _ _ _, fun j hj => absurd hj (by show ¬ j < 0; omega)⟩, fun j hj => absurd hj (by omega)⟩⟩
    have lo : ∀ (n y : Nat) (μ' : Mem) (b l' : Int) (q6 q7 : AV), n + y = Hg μ → FGm μ μ' → SMh μ' (hidS μ k) → lsM (lsy (nxU μ k s) (Wd μ) y) b l' → R_11095 sc 12 (PI t Q) t 44 [rfc 11 0, .inl k, .inl s, .inl b, .inl l', .inl (y : Int), q6, q7] [] μ' := by
      intro n
      induction n with
      | zero =>
        intro y μ' b l' q6 q7 hy hF hC hl
        have : y = Hg μ := by omega
        subst this
        obtain ⟨v1, v2, v3⟩ := wdH hF
        refine m_11095_44 ⟨v1, fun _ => sp_thinksNone hS.1.1 hF (PI_mk ?_), fun z => absurd (by omega) z⟩
        rw [hl.1]
        exact h _ (hF.end'.fw hS.1.1 (wr_same _ _ _ _ _) hS.1.2.2.2.2.2.1)
      | succ n ih =>
        intro y μ' b l' q6 q7 hy hF hC hl
        obtain ⟨v1, v2, v3⟩ := wdH hF
        exact m_11095_44 ⟨v1, fun z => absurd z (by omega), fun _ => li y (by omega) (fun μ3 b l' q6 q7 F3 C3 l3 => ih (y + 1) μ3 b l' q6 q7 (by omega) F3 C3 l3) (Wd μ) 0 μ' b l' q7 rfl hF hC hl⟩
    exact lo (Hg μ) 0 μ1 (-1) 0 _ _ rfl F1 C1 ⟨rfl, rfl⟩
  · rw [ic_t (by omega)] at h
    exact h μ1 (F1.fw hS.1.1 z1 hS.1.2.2.2.2.2.1)
theorem p_next {sc : Scr} {t : Nat} {μ : Mem} {k s : Int} (hS : Sim μ) : PR sc t μ 52 11095 [.inl k, .inl s] := by
  refine PR_of (F_next k s) hS (fun μ1 F1 => ?_) c_next r_next
  have e : lsy (nxU μ1 k s) (Wd μ1) (Hg μ1) = lsy (nxU μ k s) (Wd μ) (Hg μ) := by
    unfold Wd Hg
    rw [F1.e1]
    refine lsy_c fun x y _ _ => ?_
    unfold nxU
    rw [F1.hid]
    refine mxF_c fun j _ => ?_
    unfold nxV
    rw [F1.hid, F1.rg]
  unfold F_next
  rw [e, F1.hid, F1.1 3 (by unfold Kp; omega)]
