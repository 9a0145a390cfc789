/-! MATHEMATICS, 38: along, nearest, canon, chirp, louder -/
noncomputable def alV (μ : Mem) (s x y : Int) : Int := ic (Pm μ x y) (ech (RT μ s x y x y)) (-3)
theorem FW.al {μ μ' : Mem} (h : FW μ μ') (hS : Sim μ) (s x y : Int) : alV μ' s x y = alV μ s x y := by
  unfold alV Pm
  rw [h.rt hS, h.e1]
theorem sp_alongTime {sc : Scr} {d t : Nat} {μ : Mem} {Q : Int → Mem → Prop} {x y s : Int} (hS : Sim μ) (ls : Ld s) (h : ∀ μ', FW μ μ' → Q (alV μ s x y) μ') : RMi sc (d + 6) 37 [rfc 0 0, .inl x, .inl y, .inl s] (t, 0, 0) μ Q := by
  unfold alV at h
  refine m_37 (sp_holds (fun p => ⟨fun z => absurd z (by decide), fun _ => sp_echoTime hS.co (hS.pl p) ls.b fun μ1 F1 => ?_⟩) (fun p => ⟨fun _ => ?_, fun z => absurd rfl z⟩))
  · have r := h μ1 F1.fw
    rw [ic_t p] at r
    exact r
  · have r := h μ FW.rfl
    rw [ic_f p] at r
    exact r
theorem sp_isStep {sc : Scr} {d t : Nat} {μ : Mem} {Q : Int → Mem → Prop} {s : Int} (h1 : -40 ≤ s ∧ s ≤ 40 → Q 1 μ) (h0 : ¬ (-40 ≤ s ∧ s ≤ 40) → Q 0 μ) : RMi sc (d + 1) 36 [.inl s] (t, 0, 0) μ Q :=
  m_36 ⟨fun c => h0 (by omega), fun c => ⟨fun c2 => h0 (by omega), fun c2 => h1 (by omega)⟩⟩
abbrev VG (μ : Mem) (x y dx dy s : Int) : Prop := Pm μ x y ∧ (-40 ≤ dx ∧ dx ≤ 40) ∧ (-40 ≤ dy ∧ dy ≤ 40) ∧ Ld s
theorem sp_canGo {sc : Scr} {d t : Nat} {μ : Mem} {Q : Int → Mem → Prop} {x y dx dy s : Int} (hS : Sim μ) (h1 : VG μ x y dx dy s → Q 1 μ) (h0 : ¬ VG μ x y dx dy s → Q 0 μ) : RMi sc (d + 3) 11082 [rfc 11 0, .inl x, .inl y, .inl dx, .inl dy, .inl s] (t, 0, 0) μ Q :=
  m_11082 (sp_isPlace hS.1.1 hS.2.1 (fun p => ⟨fun z => absurd z (by decide), fun _ => sp_in (fun a => ⟨fun z => absurd z (by decide), fun _ => sp_in (fun b => ⟨fun z => absurd z (by decide), fun _ => sp_isLoudM (fun l => ⟨fun z => absurd z (by decide), fun _ => h1 ⟨p, a, b, l⟩⟩) (fun l => ⟨fun _ => h0 fun z => l z.2.2.2, fun z => absurd rfl z⟩)⟩) (fun b => ⟨fun _ => h0 fun z => b z.2.2.1, fun z => absurd rfl z⟩)⟩) (fun a => ⟨fun _ => h0 fun z => a z.2.1, fun z => absurd rfl z⟩)⟩) (fun p => ⟨fun _ => h0 fun z => p z.1, fun z => absurd rfl z⟩))
theorem stp_bd {x dx i : Int} (hx : 0 ≤ x ∧ x ≤ 39) (hd : -40 ≤ dx ∧ dx ≤ 40) (hi : 0 ≤ i ∧ i ≤ 100) : -4000 ≤ i * dx ∧ i * dx ≤ 4000 := by
  have := mul_bd (A := 100) (B := 40) (a := i) (b := dx) (by omega) (by omega)
  omega
noncomputable def F_along (x y dx dy s i : Int) (μ : Mem) : Int := ic (VG μ x y dx dy s ∧ (0 ≤ i ∧ i ≤ 99)) (alV μ s (x + i * dx) (y + i * dy)) (-1)
theorem p_along {sc : Scr} {t : Nat} {μ : Mem} {x y dx dy s i : Int} (hS : Sim μ) : PR sc t μ 35 11081 [.inl x, .inl y, .inl dx, .inl dy, .inl s, .inl i] := by
  refine PR_of (F_along x y dx dy s i) hS (fun μ1 F1 => ?_) (fun μ Q hS h => ?_) (fun μ Q hS h => ?_)
  · unfold F_along VG Pm
    rw [F1.al hS, F1.e1]
  · unfold F_along at h
    have no : ¬ (VG μ x y dx dy s ∧ (0 ≤ i ∧ i ≤ 99)) → Q (-1) μ := by
      intro z
      rw [ic_f z] at h
      exact h _ FW.rfl
    refine m_35 (sp_holds (fun p => ⟨fun z => absurd z (by decide), fun _ => sp_isStep (fun a => ⟨fun z => absurd z (by decide), fun _ => sp_isStep (fun b => ⟨fun z => absurd z (by decide), fun _ => sp_isLoud (fun l => ⟨fun z => absurd z (by decide), fun _ => ⟨fun c => no fun z => by have := z.2; omega, fun c => ⟨fun c2 => ?_, fun c2 => no fun z => by have := z.2; omega⟩⟩⟩) (fun l => ⟨fun _ => no fun z => l z.1.2.2.2, fun z => absurd rfl z⟩)⟩) (fun b => ⟨fun _ => no fun z => b z.1.2.2.1, fun z => absurd rfl z⟩)⟩) (fun a => ⟨fun _ => no fun z => a z.1.2.1, fun z => absurd rfl z⟩)⟩) (fun p => ⟨fun _ => no fun z => p z.1.1, fun z => absurd rfl z⟩))
    rw [ic_t ⟨⟨p, a, b, l⟩, by omega, c2⟩] at h
    have pl := hS.pl p
    have b1 := stp_bd (i := i) pl.1 a (by omega)
    have b2 := stp_bd (i := i) pl.2 b (by omega)
    exact ⟨by omega, by omega, by omega, by omega, sp_alongTime hS l h⟩
  · unfold F_along at h
    have no : ¬ (VG μ x y dx dy s ∧ (0 ≤ i ∧ i ≤ 99)) → Q (-1) μ := by
      intro z
      rw [ic_f z] at h
      exact h _ FW.rfl
    refine m_11081 (sp_canGo hS (fun g => ⟨fun z => absurd z (by decide), fun _ => sp_in (fun c2 => ⟨fun _ => ?_, fun z => absurd (by decide) z⟩) (fun c2 => ⟨fun z => absurd rfl z, fun _ => no fun z => c2 z.2⟩)⟩) (fun g => ⟨fun _ => no fun z => g z.1, fun z => absurd rfl z⟩))
    rw [ic_t ⟨g, c2⟩] at h
    have pl := hS.pl g.1
    have b1 := stp_bd (i := i) pl.1 g.2.1 (by omega)
    have b2 := stp_bd (i := i) pl.2 g.2.2.1 (by omega)
    refine ⟨by omega, by omega, by omega, by omega, sp_isPlace hS.1.1 hS.2.1 (fun p => ⟨fun z => absurd z (by decide), fun _ => ⟨by omega, by omega, by omega, by omega, sp_echo hS.mo (hS.pl p) g.2.2.2.b fun μ1 F1 => ?_⟩⟩) (fun p => ⟨fun _ => ?_, fun z => absurd rfl z⟩)⟩
    · rw [hS.rets]
      have r := h μ1 F1.fw
      unfold alV at r
      rw [ic_t p] at r
      exact r
    · have r := h μ FW.rfl
      unfold alV at r
      rw [ic_f p] at r
      exact r
/-- nearest -/
noncomputable def nrF (μ : Mem) (x y dx dy s : Int) : Nat → Int × Int
  | 0 => (-2, 0)
  | k + 1 => if 0 ≤ alV μ s (x + (k : Int) * dx) (y + (k : Int) * dy) ∧ ((nrF μ x y dx dy s k).1 < 0 ∨ alV μ s (x + (k : Int) * dx) (y + (k : Int) * dy) < (nrF μ x y dx dy s k).2) then ((k : Int), alV μ s (x + (k : Int) * dx) (y + (k : Int) * dy)) else nrF μ x y dx dy s k
theorem FW.nr {μ μ' : Mem} (h : FW μ μ') (hS : Sim μ) (x y dx dy s : Int) : ∀ k, nrF μ' x y dx dy s k = nrF μ x y dx dy s k
  | 0 => Eq.refl _
  | k + 1 => by
    unfold nrF
    rw [FW.nr h hS x y dx dy s k, h.al hS]
noncomputable def F_near (x y dx dy s n : Int) (μ : Mem) : Int := ic (VG μ x y dx dy s ∧ (1 ≤ n ∧ n ≤ 100)) (nrF μ x y dx dy s n.toNat).1 (-1)
theorem p_nearest {sc : Scr} {t : Nat} {μ : Mem} {x y dx dy s n : Int} (hS : Sim μ) : PR sc t μ 38 11083 [.inl x, .inl y, .inl dx, .inl dy, .inl s, .inl n] := by
  refine PR_of (F_near x y dx dy s n) hS (fun μ1 F1 => ?_) (fun μ Q hS h => ?_) (fun μ Q hS h => ?_)
  · unfold F_near VG Pm
    rw [F1.nr hS, F1.e1]
  · unfold F_near at h
    have no : ¬ (VG μ x y dx dy s ∧ (1 ≤ n ∧ n ≤ 100)) → Q (-1) μ := by
      intro z
      rw [ic_f z] at h
      exact h _ FW.rfl
    refine m_38 (sp_holds (fun p => ⟨fun z => absurd z (by decide), fun _ => sp_isStep (fun a => ⟨fun z => absurd z (by decide), fun _ => sp_isStep (fun b => ⟨fun z => absurd z (by decide), fun _ => sp_isLoud (fun l => ⟨fun z => absurd z (by decide), fun _ => ⟨fun c => no fun z => by have := z.2; omega, fun c => ⟨fun c2 => ?_, fun c2 => no fun z => by have := z.2; omega⟩⟩⟩) (fun l => ⟨fun _ => no fun z => l z.1.2.2.2, fun z => absurd rfl z⟩)⟩) (fun b => ⟨fun _ => no fun z => b z.1.2.2.1, fun z => absurd rfl z⟩)⟩) (fun a => ⟨fun _ => no fun z => a z.1.2.1, fun z => absurd rfl z⟩)⟩) (fun p => ⟨fun _ => no fun z => p z.1.1, fun z => absurd rfl z⟩))
    rw [ic_t ⟨⟨p, a, b, l⟩, by omega, c2⟩] at h
    have pl := hS.pl p
    have lp : ∀ (m k : Nat) (μ' : Mem) (q : AV), m + k = n.toNat → FW μ μ' → R_38 sc 12 (PI t Q) t 60 [rfc 0 0, .inl x, .inl y, .inl dx, .inl dy, .inl s, .inl n, .inl (nrF μ x y dx dy s k).1, .inl (nrF μ x y dx dy s k).2, .inl (k : Int), q] [] μ' := by
      intro m
      induction m with
      | zero =>
        intro k μ' q hk hF
        have : k = n.toNat := by omega
        subst this
        exact m_38_60 ⟨fun _ => PI_mk (h μ' hF), fun c => absurd (by omega) c⟩
      | succ m ih =>
        intro k μ' q hk hF
        have S' := hS.fw hF
        have b1 := stp_bd (i := (k : Int)) pl.1 a (by omega)
        have b2 := stp_bd (i := (k : Int)) pl.2 b (by omega)
        refine m_38_60 ⟨fun c => absurd c (by omega), fun _ => ⟨by omega, by omega, by omega, by omega, sp_alongTime S' l fun μ2 F2 => ?_⟩⟩
        rw [hF.al hS]
        have r := ih (k + 1) μ2 (.inl (alV μ s (x + (k : Int) * dx) (y + (k : Int) * dy))) (by omega) (hF.trans F2)
        unfold nrF at r
        refine ⟨fun c => ⟨by omega, ?_⟩, fun c => ⟨fun c2 => ⟨by omega, ?_⟩, fun c2 => ⟨fun c3 => ⟨by omega, ?_⟩, fun c3 => ⟨by omega, ?_⟩⟩⟩⟩
        · rw [if_neg (by omega)] at r
          exact r
        · rw [if_pos (by omega)] at r
          exact r
        · rw [if_neg (by omega)] at r
          exact r
        · rw [if_pos (by omega)] at r
          exact r
    exact lp _ 0 μ _ rfl FW.rfl
  · unfold F_near at h
    have no : ¬ (VG μ x y dx dy s ∧ (1 ≤ n ∧ n ≤ 100)) → Q (-1) μ := by
      intro z
      rw [ic_f z] at h
      exact h _ FW.rfl
    refine m_11083 (sp_canGo hS (fun g => ⟨fun z => absurd z (by decide), fun _ => sp_in (fun c2 => ⟨fun _ => ?_, fun z => absurd (by decide) z⟩) (fun c2 => ⟨fun z => absurd rfl z, fun _ => no fun z => c2 z.2⟩)⟩) (fun g => ⟨fun _ => no fun z => g z.1, fun z => absurd rfl z⟩))
    rw [ic_t ⟨g, c2⟩] at h
    have pl := hS.pl g.1
    have lp : ∀ (m k : Nat) (μ' : Mem) (q : AV), m + k = n.toNat → FW μ μ' → R_11083 sc 12 (PI t Q) t 37 [rfc 11 0, .inl x, .inl y, .inl dx, .inl dy, .inl s, .inl n, .inl (nrF μ x y dx dy s k).1, .inl (nrF μ x y dx dy s k).2, .inl (k : Int), q] [] μ' := by
      intro m
      induction m with
      | zero =>
        intro k μ' q hk hF
        have : k = n.toNat := by omega
        subst this
        exact m_11083_37 ⟨fun _ => PI_mk (h μ' hF), fun c => absurd (by omega) c⟩
      | succ m ih =>
        intro k μ' q hk hF
        have S' := hS.fw hF
        have b1 := stp_bd (i := (k : Int)) pl.1 g.2.1 (by omega)
        have b2 := stp_bd (i := (k : Int)) pl.2 g.2.2.1 (by omega)
        refine m_11083_37 ⟨fun c => absurd c (by omega), fun _ => ⟨by omega, by omega, by omega, by omega, sp_isPlace S'.1.1 S'.2.1 (fun p => ⟨fun _ => ⟨by omega, by omega, by omega, by omega, sp_echo S'.mo (S'.pl p) g.2.2.2.b fun μ2 F2 => ?_⟩, fun z => absurd (by decide) z⟩) (fun p => ⟨fun z => absurd rfl z, fun _ => ⟨by omega, ?_⟩⟩)⟩⟩
        · rw [S'.rets]
          have ea : ech (RT μ' s (x + (k : Int) * dx) (y + (k : Int) * dy) (x + (k : Int) * dx) (y + (k : Int) * dy)) = alV μ s (x + (k : Int) * dx) (y + (k : Int) * dy) := by
            rw [← hF.al hS]
            unfold alV
            rw [ic_t p]
          rw [ea]
          have r := ih (k + 1) μ2 (.inl (alV μ s (x + (k : Int) * dx) (y + (k : Int) * dy))) (by omega) (hF.trans F2.fw)
          unfold nrF at r
          refine ⟨fun c => ⟨by omega, ?_⟩, fun c => ⟨fun c2 => ⟨by omega, ?_⟩, fun c2 => ⟨fun c3 => ⟨by omega, ?_⟩, fun c3 => ⟨by omega, ?_⟩⟩⟩⟩
          · rw [if_neg (by omega)] at r
            exact r
          · rw [if_pos (by omega)] at r
            exact r
          · rw [if_pos (by omega)] at r
            exact r
          · rw [if_neg (by omega)] at r
            exact r
        · have ea : alV μ s (x + (k : Int) * dx) (y + (k : Int) * dy) = -3 := by
            rw [← hF.al hS]
            unfold alV
            rw [ic_f p]
          have r := ih (k + 1) μ' q (by omega) hF
          unfold nrF at r
          rw [ea, if_neg (by omega)] at r
          exact r
    exact lp _ 0 μ _ rfl FW.rfl
/-- chirp -/
def F_chirp (f tr i : Int) (μ : Mem) : Int := if (1 ≤ f ∧ f ≤ 999) ∧ (1 ≤ tr ∧ tr ≤ 999) ∧ (1 ≤ i ∧ i ≤ 99) then (2000 * (f + i * tr)) / (μ 1 0 7) - (2000 * (f + (i - 1) * tr)) / (μ 1 0 7) else -1
theorem div_b {a p : Int} (ha : 0 ≤ a) (hp : 1 ≤ p) : 0 ≤ a / p ∧ a / p ≤ a := ⟨Int.ediv_nonneg ha (by omega), Int.ediv_le_self _ ha⟩
theorem p_chirp {sc : Scr} {t : Nat} {μ : Mem} {f tr i : Int} (hS : Sim μ) : PR sc t μ 45 11087 [.inl f, .inl tr, .inl i] := by
  refine PR_of (F_chirp f tr i) hS (fun μ1 F1 => ?_) (fun μ Q hS h => ?_) (fun μ Q hS h => ?_)
  · unfold F_chirp
    rw [F1.e1]
  · unfold F_chirp at h
    have r := h μ FW.rfl
    have hp := hS.2.1.1.2
    have no : ¬ ((1 ≤ f ∧ f ≤ 999) ∧ (1 ≤ tr ∧ tr ≤ 999) ∧ (1 ≤ i ∧ i ≤ 99)) → Q (-1) μ := by
      intro z
      rw [if_neg z] at r
      exact r
    refine m_45 ⟨fun c => no (by omega), fun c => ⟨fun c1 => no (by omega), fun c1 => ⟨fun c2 => no (by omega), fun c2 => ⟨fun c3 => no (by omega), fun c3 => ⟨fun c4 => no (by omega), fun c4 => ⟨fun c5 => ?_, fun c5 => no (by omega)⟩⟩⟩⟩⟩⟩
    have b1 := mul_bd (A := 99) (B := 999) (a := i) (b := tr) (by omega) (by omega)
    have b2 := mul_bd (A := 99) (B := 999) (a := i - 1) (b := tr) (by omega) (by omega)
    have n1 : 0 ≤ i * tr := Int.mul_nonneg (by omega) (by omega)
    have n2 : 0 ≤ (i - 1) * tr := Int.mul_nonneg (by omega) (by omega)
    have d1 := div_b (a := 2000 * (f + i * tr)) (p := μ 1 0 7) (by omega) (by omega)
    have d2 := div_b (a := 2000 * (f + (i - 1) * tr)) (p := μ 1 0 7) (by omega) (by omega)
    rw [if_pos ⟨by omega, by omega, by omega⟩] at r
    exact ⟨by omega, by omega, m_46 ⟨by omega, sp_quot (by omega) (by omega) ⟨by omega, by omega, by omega, by omega, m_46 ⟨by omega, sp_quot (by omega) (by omega) ⟨by omega, by omega, r⟩⟩⟩⟩⟩
  · unfold F_chirp at h
    have r := h μ FW.rfl
    have hp := hS.2.1.1.2
    have e48 : μ 11 0 48 = μ 1 0 7 := hS.2.1.1.1
    have no : ¬ ((1 ≤ f ∧ f ≤ 999) ∧ (1 ≤ tr ∧ tr ≤ 999) ∧ (1 ≤ i ∧ i ≤ 99)) → Q (-1) μ := by
      intro z
      rw [if_neg z] at r
      exact r
    refine m_11087 (sp_in (fun c1 => ⟨fun z => absurd z (by decide), fun _ => sp_in (fun c2 => ⟨fun z => absurd z (by decide), fun _ => sp_in (fun c3 => ⟨fun _ => ?_, fun z => absurd (by decide) z⟩) (fun c3 => ⟨fun z => absurd rfl z, fun _ => no fun z => c3 z.2.2⟩)⟩) (fun c2 => ⟨fun _ => no fun z => c2 z.2.1, fun z => absurd rfl z⟩)⟩) (fun c1 => ⟨fun _ => no fun z => c1 z.1, fun z => absurd rfl z⟩))
    have b1 := mul_bd (A := 99) (B := 999) (a := i) (b := tr) (by omega) (by omega)
    have b2 := mul_bd (A := 99) (B := 999) (a := i - 1) (b := tr) (by omega) (by omega)
    have n1 : 0 ≤ i * tr := Int.mul_nonneg (by omega) (by omega)
    have n2 : 0 ≤ (i - 1) * tr := Int.mul_nonneg (by omega) (by omega)
    have d1 := div_b (a := 2000 * (f + i * tr)) (p := μ 1 0 7) (by omega) (by omega)
    have d2 := div_b (a := 2000 * (f + (i - 1) * tr)) (p := μ 1 0 7) (by omega) (by omega)
    rw [if_pos ⟨c1, c2, c3⟩] at r
    refine ⟨by omega, by omega, m_11088 ⟨by omega, ⟨by omega, by omega⟩, by omega, by omega, by omega, m_11088 ⟨by omega, ⟨by omega, by omega⟩, ?_⟩⟩⟩
    rw [e48]
    exact ⟨by omega, r⟩
