/-! MATHEMATICS, 72: what is wrong in a text, class -/
noncomputable def wsT (b : Nat → Int) (n : Nat) : Nat → Int × Nat
  | 0 => (0, 0)
  | t + 1 => ic ((wsT b n t).1 ≠ 0) (wsT b n t) (ic (tK b n t = 2 ∧ twc b n t) (3, t) (ic (tK b n t = 3 ∧ wrg b n (wiT b n t).1 (wiT b n t).2 t) (5, t) (0, 0)))
theorem wsT_s (b : Nat → Int) (n t : Nat) : wsT b n (t + 1) = ic ((wsT b n t).1 ≠ 0) (wsT b n t) (ic (tK b n t = 2 ∧ twc b n t) (3, t) (ic (tK b n t = 3 ∧ wrg b n (wiT b n t).1 (wiT b n t).2 t) (5, t) (0, 0))) := rfl
theorem wsT_k {b : Nat → Int} {n t : Nat} (h : (wsT b n t).1 ≠ 0) : ∀ m : Nat, wsT b n (t + m) = wsT b n t
  | 0 => rfl
  | m + 1 => by
    have r := wsT_k h m
    rw [show t + (m + 1) = (t + m) + 1 by omega, wsT_s, r, ic_t h]
/-- only the fault and its place -/
def F78 (μ μ' : Mem) : Prop := ∀ c i k, ¬ (c = 4 ∧ i = 0 ∧ 7 ≤ k ∧ k ≤ 8) → μ' c i k = μ c i k
theorem F78.rfl' {μ : Mem} : F78 μ μ := fun _ _ _ _ => Eq.refl _
theorem F78.z {μ μ' : Mem} (h : F78 μ μ') : Fz μ μ' := fun c i k a _ => h c i k (by omega)
theorem F78.w {μ : Mem} {k s : Int} : F78 μ (wr (wr μ 4 0 7 k) 4 0 8 s) := fun c i j a => by
  have h1 : ¬ (c = 4 ∧ i = 0 ∧ j = 8) := by omega
  have h2 : ¬ (c = 4 ∧ i = 0 ∧ j = 7) := by omega
  show (if c = 4 ∧ i = 0 ∧ j = 8 then s else if c = 4 ∧ i = 0 ∧ j = 7 then k else μ c i j) = μ c i j
  rw [if_neg h1, if_neg h2]
def JO (μ μ' : Mem) (b : Nat → Int) (n : Nat) (r : Int × Nat) : Prop := F78 μ μ' ∧ μ' 4 0 7 = r.1 ∧ (r.1 ≠ 0 → μ' 4 0 8 = ((stt b n r.2 : Nat) : Int)) ∧ (r.1 = 0 → μ' 4 0 8 = μ 4 0 8)
theorem JO.w {μ : Mem} {b : Nat → Int} {n u : Nat} {k : Int} (hk : k ≠ 0) : JO μ (wr (wr μ 4 0 7 k) 4 0 8 ((stt b n u : Nat) : Int)) b n (k, u) :=
  ⟨F78.w, by rw [wr_k (by decide), wr_same], fun _ => wr_same _ _ _ _ _, fun z => absurd z hk⟩
theorem JO.o {μ : Mem} {b : Nat → Int} {n : Nat} {r : Int × Nat} (h7 : μ 4 0 7 = 0) (hr : r.1 = 0) : JO μ μ b n r := ⟨F78.rfl', by rw [h7, hr], fun z => absurd hr z, fun _ => rfl⟩
theorem sp_checkNames {sc : Scr} {d t : Nat} {μ : Mem} {Q : Mem → Prop} {b : Nat → Int} {n T : Nat} (hT : TO μ n) (eb : byC μ = b) (hK : Kept μ b n T) (hT4 : T ≤ 400) (h7 : μ 4 0 7 = 0) (h : ∀ μ', JO μ μ' b n (wsT b n T) → Q μ') : RMv sc (d + 4) 4015 [rfc 4 0] (t, 0, 0) μ Q := by
  have out : ∀ (k : Int) (u : Nat) (w i : Int), u < T → k ≠ 0 → wsT b n (u + 1) = (k, u) → R_4015 sc (d + 3) (PV t Q) t 6 [rfc 4 0, .inl w, .inl i, .inl ((u : Int) + 1)] [] (wr (wr μ 4 0 7 k) 4 0 8 ((stt b n u : Nat) : Int)) := by
    intro k u w i hu hk e
    have q : Q (wr (wr μ 4 0 7 k) 4 0 8 ((stt b n u : Nat) : Int)) := by
      refine h _ ?_
      have := wsT_k (b := b) (n := n) (t := u + 1) (by rw [e]; exact hk) (T - (u + 1))
      rw [show (u + 1) + (T - (u + 1)) = T by omega, e] at this
      rw [this]
      exact JO.w hk
    have e7 : (wr (wr μ 4 0 7 k) 4 0 8 ((stt b n u : Nat) : Int)) 4 0 7 = k := by rw [wr_k (by decide), wr_same]
    exact m_4015_6 ⟨fun _ => PV_mk q, fun _ => ⟨fun _ => PV_mk q, fun z => absurd (by rw [e7]; exact hk) z⟩⟩
  have lp : ∀ (m u : Nat), m + u = T → (wsT b n u).1 = 0 → R_4015 sc (d + 3) (PV t Q) t 6 [rfc 4 0, .inl (wiT b n u).1, .inl (wiT b n u).2, .inl (u : Int)] [] μ := by
    intro m
    induction m with
    | zero =>
      intro u hu e
      have : u = T := by omega
      subst this
      exact m_4015_6 ⟨fun _ => PV_mk (h _ (JO.o h7 e)), fun z => absurd (by rw [hK.1]; exact Int.le_refl _) z⟩
    | succ m ih =>
      intro u hu e
      obtain ⟨a1, a2, a3⟩ := hK.2 u (by omega)
      obtain ⟨w1, w2⟩ := wiT_b b n u
      have i0 := ih (u + 1) (by omega)
      have s0 := wsT_s b n u
      rw [ic_f (by omega)] at s0
      have n76 : ¬ (tK b n u = 2 ∧ twc b n u) → tK b n u < 7 → R_4015 sc (d + 3) (PV t Q) t 76 [rfc 4 0, .inl (wiT b n u).1, .inl (wiT b n u).2, .inl (u : Int)] [] μ := by
        intro nt k7
        rw [ic_f nt] at s0
        refine m_4015_76 ?_
        rw [Int.toNat_natCast, a1]
        refine ⟨by omega, fun y => ⟨by omega, ?_⟩, fun y => sp_isWrong hK hT4 (by omega) w1 (by omega) (fun g => ⟨fun z => absurd z (by decide), fun _ => ⟨by omega, ?_⟩⟩) (fun g => ⟨fun _ => ⟨by omega, by omega, ?_⟩, fun z => absurd rfl z⟩)⟩
        · rw [ic_f fun z => y z.1] at s0
          have r := i0 (by rw [s0])
          rw [wiT_s, if_neg (by omega), if_neg y] at r
          exact r
        · rw [a2]
          rw [ic_t ⟨Decidable.not_not.mp y, g⟩] at s0
          exact m_4012 ⟨by omega, by omega, out 5 u _ _ (by omega) (by decide) s0⟩
        · rw [ic_f fun z => g z.2] at s0
          have r := i0 (by rw [s0])
          rw [wiT_s, if_neg (by omega), if_pos (Decidable.not_not.mp y)] at r
          exact r
      refine m_4015_6 ⟨fun z => absurd (hK.1 ▸ z) (by omega), fun _ => ⟨fun z => absurd h7 z, fun _ => ?_⟩⟩
      rw [Int.toNat_natCast, a1]
      refine ⟨by omega, fun y => ⟨by omega, fun z => n76 (fun w => z w.1) y, fun z => ?_⟩, fun y => ⟨by omega, by omega, ?_⟩⟩
      · have z' := Decidable.not_not.mp z
        refine sp_toldBefore hT eb hK hT4 (by omega) z' (fun g => ⟨fun w => absurd w (by decide), fun _ => ⟨by omega, ?_⟩⟩) (fun g => ⟨fun _ => n76 (fun w => g w.2) y, fun w => absurd rfl w⟩)
        rw [a2]
        rw [ic_t ⟨z', g⟩] at s0
        exact m_4012 ⟨by omega, out 3 u _ _ (by omega) (by decide) s0⟩
      · rw [ic_f fun z => absurd z.1 (by omega), ic_f fun z => absurd z.1 (by omega)] at s0
        have r := i0 (by rw [s0])
        rw [wiT_s, if_pos (by omega)] at r
        exact r
  exact m_4015 (lp T 0 (by omega) rfl)
/-- the map that is told -/
def mpT (b : Nat → Int) (n : Nat) : Nat → Int × Int
  | 0 => (20, 20)
  | t + 1 => if tK b n t = 11 then (tV b n (t + 1), tV b n (t + 2)) else mpT b n t
theorem mpT_s (b : Nat → Int) (n t : Nat) : mpT b n (t + 1) = if tK b n t = 11 then (tV b n (t + 1), tV b n (t + 2)) else mpT b n t := rfl
/-- a number that is a place on the map -/
def isP (b : Nat → Int) (n t : Nat) : Prop := tK b n t = 3 ∧ (8 ≤ (wiT b n t).1 ∧ (wiT b n t).1 ≤ 10) ∧ (wiT b n t).2 < 2
def edg (W H i : Int) : Int := if i = 0 then W else H
noncomputable def ouT (b : Nat → Int) (n : Nat) (W H : Int) : Nat → Int × Nat
  | 0 => (0, 0)
  | t + 1 => ic ((ouT b n W H t).1 ≠ 0) (ouT b n W H t) (ic (isP b n t ∧ edg W H (wiT b n t).2 ≤ tV b n t) (6, t) (0, 0))
theorem ouT_s (b : Nat → Int) (n : Nat) (W H : Int) (t : Nat) : ouT b n W H (t + 1) = ic ((ouT b n W H t).1 ≠ 0) (ouT b n W H t) (ic (isP b n t ∧ edg W H (wiT b n t).2 ≤ tV b n t) (6, t) (0, 0)) := rfl
theorem ouT_k {b : Nat → Int} {n : Nat} {W H : Int} {t : Nat} (h : (ouT b n W H t).1 ≠ 0) : ∀ m : Nat, ouT b n W H (t + m) = ouT b n W H t
  | 0 => rfl
  | m + 1 => by
    have r := ouT_k h m
    rw [show t + (m + 1) = (t + m) + 1 by omega, ouT_s, r, ic_t h]
theorem sp_checkMap {sc : Scr} {d t : Nat} {μ : Mem} {Q : Mem → Prop} {b : Nat → Int} {n T : Nat} (hK : Kept μ b n T) (hT4 : T ≤ 400) (h7 : μ 4 0 7 = 0) (h : ∀ μ', JO μ μ' b n (ouT b n (mpT b n (T - 2)).1 (mpT b n (T - 2)).2 T) → Q μ') : RMv sc (d + 2) 4019 [rfc 4 0] (t, 0, 0) μ Q := by
  generalize eW : (mpT b n (T - 2)).1 = W at h
  generalize eH : (mpT b n (T - 2)).2 = H at h
  have out : ∀ (u : Nat) (w i : Int) (q6 q7 : AV), u < T → ouT b n W H (u + 1) = (6, u) → R_4019 sc (d + 1) (PV t Q) t 61 [rfc 4 0, .inl W, .inl H, .inl w, .inl i, .inl ((u : Int) + 1), q6, q7] [] (wr (wr μ 4 0 7 6) 4 0 8 ((stt b n u : Nat) : Int)) := by
    intro u w i q6 q7 hu e
    have q : Q (wr (wr μ 4 0 7 6) 4 0 8 ((stt b n u : Nat) : Int)) := by
      refine h _ ?_
      have := ouT_k (b := b) (n := n) (W := W) (H := H) (t := u + 1) (by rw [e]; exact (by decide : (6 : Int) ≠ 0)) (T - (u + 1))
      rw [show (u + 1) + (T - (u + 1)) = T by omega, e] at this
      rw [this]
      exact JO.w (by decide)
    have e7 : (wr (wr μ 4 0 7 6) 4 0 8 ((stt b n u : Nat) : Int)) 4 0 7 = 6 := by rw [wr_k (by decide), wr_same]
    exact m_4019_61 ⟨fun _ => PV_mk q, fun _ => ⟨fun _ => PV_mk q, fun z => absurd (by rw [e7]; decide) z⟩⟩
  have lp : ∀ (m u : Nat) (q6 q7 : AV), m + u = T → (ouT b n W H u).1 = 0 → R_4019 sc (d + 1) (PV t Q) t 61 [rfc 4 0, .inl W, .inl H, .inl (wiT b n u).1, .inl (wiT b n u).2, .inl (u : Int), q6, q7] [] μ := by
    intro m
    induction m with
    | zero =>
      intro u q6 q7 hu e
      have : u = T := by omega
      subst this
      exact m_4019_61 ⟨fun _ => PV_mk (h _ (JO.o h7 e)), fun z => absurd (by rw [hK.1]; exact Int.le_refl _) z⟩
    | succ m ih =>
      intro u q6 q7 hu e
      obtain ⟨a1, a2, a3⟩ := hK.2 u (by omega)
      obtain ⟨w1, w2⟩ := wiT_b b n u
      have i0 := fun q6 q7 => ih (u + 1) q6 q7 (by omega)
      have s0 := ouT_s b n W H u
      rw [ic_f (by omega)] at s0
      have at149 : tK b n u = 3 → ∀ (x6 xs : Int) (q7 : AV), ((x6 ≠ 0) ↔ (8 ≤ (wiT b n u).1 ∧ (wiT b n u).1 ≤ 10)) → xs = edg W H (wiT b n u).2 → R_4019 sc (d + 1) (PV t Q) t 149 [rfc 4 0, .inl W, .inl H, .inl (wiT b n u).1, .inl (wiT b n u).2, .inl (u : Int), .inl x6, q7] [.inl xs] μ := by
        intro k3 x6 xs q7 hx hxs
        have nxt : ¬ (isP b n u ∧ edg W H (wiT b n u).2 ≤ tV b n u) → ∀ q6 q7, R_4019 sc (d + 1) (PV t Q) t 61 [rfc 4 0, .inl W, .inl H, .inl (wiT b n u).1, .inl ((wiT b n u).2 + 1), .inl ((u : Int) + 1), q6, q7] [] μ := by
          intro np q6 q7
          rw [ic_f np] at s0
          have r := i0 q6 q7 (by rw [s0])
          rw [wiT_s, if_neg (by omega), if_pos k3] at r
          exact r
        refine m_4019_149 ?_
        rw [Int.toNat_natCast, a2, a3]
        refine ⟨fun z => ⟨by omega, by omega, nxt (fun y => absurd z (hx.mpr y.1.2.1)) _ _⟩, fun z => ⟨fun z2 => ⟨by omega, by omega, nxt (fun y => absurd y.1.2.2 (by omega)) _ _⟩, fun z2 => ⟨by omega, fun z3 => ⟨by omega, by omega, nxt (fun y => absurd y.2 (by omega)) _ _⟩, fun z3 => ⟨by omega, ?_⟩⟩⟩⟩
        rw [ic_t ⟨⟨k3, hx.mp z, by omega⟩, by omega⟩] at s0
        exact m_4012 ⟨by omega, by omega, out u _ _ _ _ (by omega) s0⟩
      have eg1 : ¬ (wiT b n u).2 = 0 → H = edg W H (wiT b n u).2 := fun z => by unfold edg; rw [if_neg z]
      have eg0 : ¬ ¬ (wiT b n u).2 = 0 → W = edg W H (wiT b n u).2 := fun z => by unfold edg; rw [if_pos (Decidable.not_not.mp z)]
      refine m_4019_61 ⟨fun z => absurd (hK.1 ▸ z) (by omega), fun _ => ⟨fun z => absurd h7 z, fun _ => ?_⟩⟩
      rw [Int.toNat_natCast, a1]
      refine ⟨by omega, fun y => ⟨by omega, fun z => ⟨by omega, ?_⟩, fun z => ?_⟩, fun y => ⟨by omega, by omega, ?_⟩⟩
      · rw [ic_f fun w => z w.1.1] at s0
        have r := i0 q6 q7 (by rw [s0])
        rw [wiT_s, if_neg (by omega), if_neg z] at r
        exact r
      · have k3 := Decidable.not_not.mp z
        have T1 : ∀ q : (wiT b n u).1 = 8 ∨ (wiT b n u).1 = 9 ∨ (wiT b n u).1 = 10, ((1 : Int) ≠ 0) ↔ (8 ≤ (wiT b n u).1 ∧ (wiT b n u).1 ≤ 10) := fun q => ⟨fun _ => by omega, fun _ => by decide⟩
        exact ⟨fun c => ⟨fun c2 => at149 k3 _ _ _ (T1 (by omega)) (eg1 c2), fun c2 => at149 k3 _ _ _ (T1 (by omega)) (eg0 c2)⟩, fun c => ⟨fun c3 => ⟨fun c2 => at149 k3 _ _ _ (T1 (by omega)) (eg1 c2), fun c2 => at149 k3 _ _ _ (T1 (by omega)) (eg0 c2)⟩, fun c3 => ⟨fun c4 => ⟨fun c2 => at149 k3 _ _ _ ⟨fun w => absurd rfl w, fun w => by omega⟩ (eg1 c2), fun c2 => at149 k3 _ _ _ ⟨fun w => absurd rfl w, fun w => by omega⟩ (eg0 c2)⟩, fun c4 => ⟨fun c2 => at149 k3 _ _ _ (T1 (by omega)) (eg1 c2), fun c2 => at149 k3 _ _ _ (T1 (by omega)) (eg0 c2)⟩⟩⟩⟩
      · rw [ic_f fun w => absurd w.1.1 (by omega)] at s0
        have r := i0 q6 q7 (by rw [s0])
        rw [wiT_s, if_pos (by omega)] at r
        exact r
  have l2 := lp T 0 vx vx (by omega) rfl
  have lm : ∀ (m u : Nat), m + u = T - 2 → R_4019 sc (d + 1) (PV t Q) t 8 [rfc 4 0, .inl (mpT b n u).1, .inl (mpT b n u).2, .inl (u : Int), vx, vx, vx, vx] [] μ := by
    intro m
    induction m with
    | zero =>
      intro u hu
      have : u = T - 2 := by omega
      subst this
      rw [eW, eH]
      exact m_4019_8 ⟨by omega, fun _ => l2, fun z => absurd (by rw [hK.1]; omega) z⟩
    | succ m ih =>
      intro u hu
      obtain ⟨a1, a2, a3⟩ := hK.2 u (by omega)
      obtain ⟨b1, b2, b3⟩ := hK.2 (u + 1) (by omega)
      obtain ⟨c1, c2, c3⟩ := hK.2 (u + 2) (by omega)
      have r := ih (u + 1) (by omega)
      rw [mpT_s] at r
      refine m_4019_8 ⟨by omega, fun z => absurd (hK.1 ▸ z) (by omega), fun _ => ?_⟩
      rw [show ((u : Int) + 1).toNat = u + 1 by omega, show ((u : Int) + 2).toNat = u + 2 by omega, Int.toNat_natCast, a1, b3, c3]
      refine ⟨by omega, fun z => ⟨by omega, ?_⟩, fun z => ⟨by omega, by omega, by omega, by omega, by omega, ?_⟩⟩
      · rw [if_neg z] at r
        exact r
      · rw [if_pos (Decidable.not_not.mp z)] at r
        exact r
  exact m_4019 (lm (T - 2) 0 (by omega))
/-- the class's verdict on a text -/
noncomputable def vdC (b : Nat → Int) (n : Nat) : Int × Nat := ic ((form b n).1 ≠ 0) (form b n) (ic ((wsT b n (form b n).2).1 ≠ 0) (wsT b n (form b n).2) (ouT b n (mpT b n ((form b n).2 - 2)).1 (mpT b n ((form b n).2 - 2)).2 (form b n).2))
def ChOut (μ0 μ : Mem) (n : Nat) : Prop := Fz μ0 μ ∧ μ 4 0 7 = (vdC (byC μ0) n).1 ∧ ((vdC (byC μ0) n).1 ≠ 0 → μ 4 0 8 = ((stt (byC μ0) n (vdC (byC μ0) n).2 : Nat) : Int)) ∧ ((vdC (byC μ0) n).1 = 0 → μ 4 0 8 = -1 ∧ Kept μ (byC μ0) n (form (byC μ0) n).2 ∧ (form (byC μ0) n).2 ≤ 400 ∧ (form (byC μ0) n).1 = 0)
theorem F78.kept {μ μ' : Mem} {b : Nat → Int} {n T : Nat} (h : F78 μ μ') (hK : Kept μ b n T) : Kept μ' b n T := by
  refine ⟨by rw [h 4 0 6 (by omega)]; exact hK.1, fun i hi => ?_⟩
  rw [h 21 0 i (by omega), h 22 0 i (by omega), h 23 0 i (by omega)]
  exact hK.2 i hi
theorem sp_check {sc : Scr} {d t : Nat} {μ : Mem} {Q : Int → Mem → Prop} {n : Nat} (hT : TO μ n) (h : ∀ μ', ChOut μ μ' n → Q (vdC (byC μ) n).1 μ') : RMi sc (d + 10) 4001 [rfc 4 0] (t, 0, 0) μ Q := by
  have Fa : Fz μ (wr (wr μ 4 0 7 0) 4 0 8 (-1)) := (Fz.w (by omega)).trans (Fz.w (by omega))
  have ea : byC (wr (wr μ 4 0 7 0) 4 0 8 (-1)) = byC μ := Fa.by'
  refine m_4001 (sp_checkForm (Fa.to hT) (by rw [wr_k (by decide), wr_same]) fun μ1 F1 => ?_)
  unfold FormOut at F1
  rw [ea] at F1
  obtain ⟨G1, f7, f8, f0⟩ := F1
  rw [wr_same] at f0
  have H1 := Fa.trans G1
  generalize eT : (form (byC μ) n).2 = T at *
  have e1 : byC μ1 = byC μ := H1.by'
  rw [f7]
  refine ⟨fun z => ⟨fun _ => ?_, fun y => absurd z y⟩, fun z => ?_⟩
  · have ev : vdC (byC μ) n = form (byC μ) n := by unfold vdC; rw [ic_t z]
    rw [← ev]
    exact h μ1 ⟨H1, by rw [f7, ev], fun _ => by rw [ev, eT]; exact f8 z, fun y => absurd y (by rw [ev]; exact z)⟩
  · have z' := Decidable.not_not.mp z
    obtain ⟨p8, pK, pT⟩ := f0 z'
    refine sp_checkNames (d := d + 5) (H1.to hT) e1 pK pT (by rw [f7]; exact z') fun μ2 J2 => ?_
    obtain ⟨G2, g7, g8, g0⟩ := J2
    have H2 := H1.trans G2.z
    rw [g7]
    refine ⟨fun y => ?_, fun y => ?_⟩
    · have ev : vdC (byC μ) n = wsT (byC μ) n T := by unfold vdC; rw [ic_f (by omega), eT, ic_t y]
      rw [← ev]
      exact h μ2 ⟨H2, by rw [g7, ev], fun _ => by rw [ev]; exact g8 y, fun w => absurd w (by rw [ev]; exact y)⟩
    · have y' := Decidable.not_not.mp y
      refine sp_checkMap (d := d + 7) (G2.kept pK) pT (by rw [g7]; exact y') fun μ3 J3 => ?_
      obtain ⟨G3, k7, k8, k0⟩ := J3
      have ev : vdC (byC μ) n = ouT (byC μ) n (mpT (byC μ) n (T - 2)).1 (mpT (byC μ) n (T - 2)).2 T := by unfold vdC; rw [ic_f (by omega), eT, ic_f (by omega)]
      rw [k7, ← ev]
      refine h μ3 ⟨H2.trans G3.z, by rw [k7, ev], fun w => ?_, fun w => ?_⟩
      · rw [ev] at w ⊢
        exact k8 w
      · rw [ev] at w
        rw [eT]
        exact ⟨by rw [k0 w, g0 y', p8], G3.kept (G2.kept pK), pT, z'⟩
