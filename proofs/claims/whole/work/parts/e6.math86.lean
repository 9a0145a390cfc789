/-! MATHEMATICS, 86: what lies outside the map, reference -/
theorem plC_inv {b : Nat → Int} {n : Nat} : ∀ {u j : Nat}, j < plC b n u → ∃ v, v < u ∧ isP b n v ∧ plC b n v = j
  | 0, j, h => absurd h (by unfold plC; omega)
  | u + 1, j, h => by
    rw [plC_s] at h
    by_cases q : j < plC b n u
    · obtain ⟨v, v1, v2, v3⟩ := plC_inv q
      exact ⟨v, by omega, v2, v3⟩
    · by_cases p : isP b n u
      · rw [ic_t p] at h
        exact ⟨u, by omega, p, by omega⟩
      · rw [ic_f p] at h
        omega
theorem plC_lt {b : Nat → Int} {n u v : Nat} (hv : v < u) (p : isP b n v) : plC b n v + 1 ≤ plC b n u := by
  have r := plC_m (b := b) (n := n) (u := v + 1) (u - (v + 1))
  rw [show v + 1 + (u - (v + 1)) = u by omega, plC_s, ic_t p] at r
  exact r
theorem plC_inj {b : Nat → Int} {n u v : Nat} (hu : isP b n u) (hv : isP b n v) (e : plC b n u = plC b n v) : u = v := by
  rcases Nat.lt_trichotomy u v with q | q | q
  · have := plC_lt q hu
    omega
  · exact q
  · have := plC_lt q hv
    omega
theorem ouT_0 {b : Nat → Int} {n : Nat} {W H : Int} : ∀ {u : Nat}, (∀ v, v < u → isP b n v → ¬ edg W H (wiT b n v).2 ≤ tV b n v) → ouT b n W H u = (0, 0)
  | 0, _ => rfl
  | u + 1, h => by
    have r := ouT_0 (u := u) fun v hv => h v (by omega)
    rw [ouT_s, r, ic_f (fun z => z rfl), ic_f fun z => h u (by omega) z.1 z.2]
theorem ouT_v {b : Nat → Int} {n u v : Nat} {W H : Int} (hv : v < u) (p : isP b n v) (ho : edg W H (wiT b n v).2 ≤ tV b n v) (h : ∀ v', v' < v → isP b n v' → ¬ edg W H (wiT b n v').2 ≤ tV b n v') : ouT b n W H u = (6, v) := by
  have r := ouT_0 h
  have s : ouT b n W H (v + 1) = (6, v) := by rw [ouT_s, r, ic_f (fun z => z rfl), ic_t ⟨p, ho⟩]
  have k := ouT_k (b := b) (n := n) (W := W) (H := H) (t := v + 1) (by rw [s]; show (6 : Int) ≠ 0; decide) (u - (v + 1))
  rw [show v + 1 + (u - (v + 1)) = u by omega] at k
  rw [k, s]
theorem wsT_n {b : Nat → Int} {n : Nat} : ∀ (t : Nat), (wsT b n t).1 = 0 ∨ (wsT b n t).1 = 3 ∨ (wsT b n t).1 = 5
  | 0 => Or.inl rfl
  | t + 1 => by
    rw [wsT_s]
    by_cases a : (wsT b n t).1 ≠ 0
    · rw [ic_t a]; exact wsT_n t
    · rw [ic_f a]
      by_cases c : tK b n t = 2 ∧ twc b n t
      · rw [ic_t c]; exact Or.inr (Or.inl rfl)
      · rw [ic_f c]
        by_cases e : tK b n t = 3 ∧ wrg b n (wiT b n t).1 (wiT b n t).2 t
        · rw [ic_t e]; exact Or.inr (Or.inr rfl)
        · rw [ic_f e]; exact Or.inl rfl
/-- behind the reading of a text that has no fault -/
def RgM (sd : Int) (μ μ' : Mem) : Prop := (∀ c i k, ¬ (c = 11 ∧ i = 0 ∧ (k = 17 ∨ k = 18 ∨ k = 48 ∨ k = 71 ∨ k = 80)) → ¬ (c = 90 ∧ i = 0 ∧ k < 3) → μ' c i k = μ c i k) ∧ μ' 11 0 17 = -1 ∧ μ' 11 0 18 = sd ∧ μ' 11 0 48 = μ 68 0 sd.toNat ∧ μ' 11 0 71 = 0 ∧ μ' 11 0 80 = 0 ∧ ∀ s, s < 3 → μ' 90 0 s = 0
def gdM (μ : Mem) (sd : Int) : Mem := wr (wr (wr (wr (wr (wr (wr μ 11 0 18 sd) 11 0 48 (μ 68 0 sd.toNat)) 11 0 71 0) 11 0 80 0) 90 0 0 0) 90 0 1 0) 90 0 2 0
theorem gdM_g {μ : Mem} {sd : Int} : RgM sd μ (gdM (wr μ 11 0 17 (-1)) sd) := by
  unfold gdM
  refine ⟨fun c i k a b => ?_, ?_, ?_, ?_, ?_, ?_, fun s hs => ?_⟩
  · unfold wr
    rw [if_neg (by omega), if_neg (by omega), if_neg (by omega), if_neg (by omega), if_neg (by omega), if_neg (by omega), if_neg (by omega), if_neg (by omega)]
  · rw [wr_c (by decide), wr_c (by decide), wr_c (by decide), wr_k (by decide), wr_k (by decide), wr_k (by decide), wr_k (by decide), wr_same]
  · rw [wr_c (by decide), wr_c (by decide), wr_c (by decide), wr_k (by decide), wr_k (by decide), wr_k (by decide), wr_same]
  · rw [wr_c (by decide), wr_c (by decide), wr_c (by decide), wr_k (by decide), wr_k (by decide), wr_same, wr_c (by decide)]
  · rw [wr_c (by decide), wr_c (by decide), wr_c (by decide), wr_k (by decide), wr_same]
  · rw [wr_c (by decide), wr_c (by decide), wr_c (by decide), wr_same]
  · have : s = 0 ∨ s = 1 ∨ s = 2 := by omega
    rcases this with rfl | rfl | rfl
    · rw [wr_k (by decide), wr_k (by decide), wr_same]
    · rw [wr_k (by decide), wr_same]
    · rw [wr_same]
theorem L11007g {sc : Scr} {d t : Nat} {P : Option AV → AS → Prop} {μ : Mem} {sd x1 : Int} {q2 : AV} (h19 : μ 11 0 19 = sd) (hs : sd = 0 ∨ sd = 1) (hx : μ 11 0 45 ≤ x1) (h : P (some (.inl 0)) (fs (t, 0, 0) (gdM μ sd))) : R_11007 sc d P t 174 [rfc 11 0, .inl x1, q2] [] μ := by
  refine m_11007_174 ⟨fun _ => ?_, fun z => absurd hx z⟩
  have e18 : (wr μ 11 0 18 (μ 11 0 19)) 11 0 18 = sd := by rw [wr_same, h19]
  have e68 : (wr μ 11 0 18 (μ 11 0 19)) 68 = μ 68 := wr_c (by decide)
  rw [e18, e68, h19]
  exact ⟨by omega, m_11007_283 ⟨fun z => absurd z (by decide), fun _ => ⟨⟨by decide, Or.inl rfl⟩, by decide, m_11007_283 ⟨fun z => absurd z (by decide), fun _ => ⟨⟨by decide, Or.inl rfl⟩, by decide, m_11007_283 ⟨fun z => absurd z (by decide), fun _ => ⟨⟨by decide, Or.inl rfl⟩, by decide, m_11007_283 ⟨fun _ => h, fun z => absurd (by decide) z⟩⟩⟩⟩⟩⟩⟩⟩
/-- places, one behind another -/
theorem L11007p {sc : Scr} {d t : Nat} {P : Option AV → AS → Prop} {μ : Mem} {b : Nat → Int} {n u : Nat} {sd W H : Int} (h19 : μ 11 0 19 = sd) (hs : sd = 0 ∨ sd = 1) (hT : TksM μ b n) (hO : OKp b n u) (hP : PlS μ b n u) (eW : μ 66 0 sd.toNat = W) (eH : μ 67 0 sd.toNat = H) (h1 : ∀ v, ouT b n W H u = (6, v) → P (some (.inl 6)) (fs (t, 0, 0) (wr μ 11 0 17 ((stt b n v : Nat) : Int)))) (h0 : ouT b n W H u = (0, 0) → P (some (.inl 0)) (fs (t, 0, 0) (gdM μ sd))) : ∀ (m k : Nat) (q2 : AV), m + k = plC b n u → (∀ v, v < u → isP b n v → plC b n v < k → ¬ edg W H (wiT b n v).2 ≤ tV b n v) → R_11007 sc d P t 174 [rfc 11 0, .inl (k : Int), q2] [] μ := by
  have p36 := plC_b hO
  have um := OKp.m hO
  intro m
  induction m with
  | zero =>
    intro k q2 hk hB
    refine L11007g h19 hs (by rw [hP.1]; omega) (h0 (ouT_0 fun v hv p => hB v hv p ?_))
    have := plC_lt hv p
    omega
  | succ m ih =>
    intro k q2 hk hB
    obtain ⟨v, hv, p, ev⟩ := plC_inv (b := b) (n := n) (u := u) (j := k) (by omega)
    obtain ⟨a1, a2⟩ := hP.2 v hv p
    rw [ev] at a1 a2
    obtain ⟨-, t2, t3, -⟩ := hT.at hO (v := v) (by omega)
    have t3' := t3 p.1
    have nxt : ¬ edg W H (wiT b n v).2 ≤ tV b n v → ∀ q2, R_11007 sc d P t 174 [rfc 11 0, .inl ((k : Int) + 1), q2] [] μ := fun no q2 => ih (k + 1) q2 (by omega) fun v' hv' p' hlt => by
      by_cases q : plC b n v' = k
      · have e := plC_inj p' p (q.trans ev.symm)
        rw [e]
        exact no
      · exact hB v' hv' p' (by omega)
    have out : edg W H (wiT b n v).2 ≤ tV b n v → P (some (.inl 6)) (fs (t, 0, 0) (wr μ 11 0 17 ((stt b n v : Nat) : Int))) := fun o => h1 v (ouT_v hv p o fun v' hv' p' => hB v' (by omega) p' (by have := plC_lt hv' p'; omega))
    refine m_11007_174 ?_
    rw [hP.1, h19, Int.toNat_natCast, a1, a2, Int.toNat_natCast, t2, t3', eW, eH]
    unfold edg at nxt out
    refine ⟨fun z => absurd z (by omega), fun _ => ⟨by omega, by omega, by omega, fun z => ⟨by omega, ?_⟩, fun z => ⟨by omega, ?_⟩⟩⟩
    · by_cases w0 : (wiT b n v).2 = 0
      · rw [if_pos w0] at nxt out
        exact ⟨fun y => ⟨by omega, out y⟩, fun y => ⟨by omega, nxt y _⟩⟩
      · rw [if_neg w0] at z
        exact absurd z (by decide)
    · by_cases w0 : (wiT b n v).2 = 0
      · rw [if_pos w0] at z
        exact absurd rfl z
      · rw [if_neg w0] at nxt out
        exact ⟨fun y => ⟨by omega, out y⟩, fun y => ⟨by omega, nxt y _⟩⟩
/-- the reference's verdict -/
theorem sp_readE {sc : Scr} {d t : Nat} {μ : Mem} {Q : Int → Mem → Prop} {b : Nat → Int} {n : Nat} {sd x1 : Int} (h19 : μ 11 0 19 = sd) (hs : sd = 0 ∨ sd = 1) (hT : TksM μ b n) (hF : Flt μ b n ∨ ∃ w u, AtV μ b n w 0 u u ∧ LMa μ b n sd u ∧ isAcc b n u) (h1 : (vdC b n).1 ≠ 0 → ∀ v, v = ((stt b n (vdC b n).2 : Nat) : Int) → Q (vdC b n).1 (wr μ 11 0 17 v)) (h0 : (vdC b n).1 = 0 → ∀ u, form b n = (0, u) → OKp b n u → (wsT b n u).1 = 0 → ouT b n (nS b n 11 2 20 u) (nS b n 11 1 20 u) u = (0, 0) → LMa μ b n sd u → ∀ μ', RgM sd μ μ' → Q 0 μ') : R_11007 sc d (PI t Q) t 115 [rfc 11 0, .inl x1, vx] [] μ := by
  rcases hF with f | ⟨w, u, hA, hL, ac⟩
  · obtain ⟨f1, f2, f3⟩ := f
    have ev : vdC b n = form b n := by unfold vdC; rw [ic_t (by omega)]
    have e13 : ∀ x, (wr μ 11 0 17 x) 11 0 13 = μ 11 0 13 := fun x => wr_k (by decide)
    refine m_11007_115 ⟨fun z => absurd z (by omega), fun _ => m_11007_145 ?_⟩
    rw [e13]
    refine ⟨fun z => absurd z (by omega), fun _ => ?_⟩
    have r := h1 (by rw [ev]; omega) (μ 11 0 14) (by rw [ev]; exact f3)
    rw [ev, f2] at r
    exact PI_mk r
  · obtain ⟨h13, h11, hO, hp, hw, hn, hpl⟩ := hA
    have fo := form_acc hO ac
    have a0 : (aut b n u).2 = 0 := ac.2
    have e13 : ∀ x, (wr μ 11 0 17 x) 11 0 13 = μ 11 0 13 := fun x => wr_k (by decide)
    have e15 : ∀ x, (wr μ 11 0 17 x) 11 0 15 = μ 11 0 15 := fun x => wr_k (by decide)
    by_cases y : (wsT b n u).1 = 0
    · have w0 : μ 11 0 15 = 0 := hw.1.trans y
      have me := mp_end hO a0
      have ev : vdC b n = ouT b n (nS b n 11 2 20 u) (nS b n 11 1 20 u) u := by
        unfold vdC
        rw [fo]
        show ic ((0 : Int) ≠ 0) _ (ic ((wsT b n u).1 ≠ 0) (wsT b n u) (ouT b n (mpT b n (u - 2)).1 (mpT b n (u - 2)).2 u)) = _
        rw [ic_f (fun z => z rfl), ic_f (fun z => z y), me]
      refine m_11007_115 ⟨fun _ => ⟨fun _ => m_11007_145 ?_, fun z => absurd z (by omega)⟩, fun z => absurd z (by omega)⟩
      rw [e13, e15]
      refine ⟨fun _ => ⟨fun _ => ?_, fun z => absurd z (by omega)⟩, fun z => absurd z (by omega)⟩
      have m := hL.2.2.2.2
      refine L11007p (μ := wr μ 11 0 17 (-1)) (b := b) (n := n) (u := u) (sd := sd) (W := nS b n 11 2 20 u) (H := nS b n 11 1 20 u) (by rw [wr_k (by decide)]; exact h19) hs (hT.x fun c hc => wr_c (by omega)) hO (hpl.x (wr_k (by decide)) (wr_c (by decide)) (wr_c (by decide))) (by rw [wr_c (by decide)]; exact m.1) (by rw [wr_c (by decide)]; exact m.2.1) (fun v e => ?_) (fun e => PI_mk ?_) (plC b n u) 0 _ (by omega) (fun v _ _ z => absurd z (by omega))
      · rw [e] at ev
        have r := h1 (by rw [ev]; show (6 : Int) ≠ 0; decide) ((stt b n v : Nat) : Int) (by rw [ev])
        rw [ev] at r
        have ww : wr (wr μ 11 0 17 (-1)) 11 0 17 ((stt b n v : Nat) : Int) = wr μ 11 0 17 ((stt b n v : Nat) : Int) := by
          funext c i k
          unfold wr
          by_cases z : c = 11 ∧ i = 0 ∧ k = 17
          · rw [if_pos z, if_pos z]
          · rw [if_neg z, if_neg z, if_neg z]
        rw [ww]
        exact PI_mk r
      · exact h0 (by rw [ev, e]) u fo hO y e hL _ gdM_g
    · have wn := wsT_n (b := b) (n := n) u
      have w1 : μ 11 0 15 = (wsT b n u).1 := hw.1
      have w2 := hw.2 y
      have ev : vdC b n = wsT b n u := by
        unfold vdC
        rw [fo]
        show ic ((0 : Int) ≠ 0) _ (ic ((wsT b n u).1 ≠ 0) (wsT b n u) _) = _
        rw [ic_f (fun z => z rfl), ic_t y]
      refine m_11007_115 ⟨fun _ => ⟨fun z => absurd z (by omega), fun _ => m_11007_145 ?_⟩, fun z => absurd z (by omega)⟩
      rw [e13, e15]
      refine ⟨fun _ => ⟨fun z => absurd z (by omega), fun _ => ?_⟩, fun z => absurd z (by omega)⟩
      have r := h1 (by rw [ev]; exact y) (μ 11 0 16) (by rw [ev]; exact w2)
      rw [ev] at r
      rw [w1]
      exact PI_mk r
/-- the reference reads -/
theorem sp_readM {sc : Scr} {d t : Nat} {μ : Mem} {Q : Int → Mem → Prop} {b : Nat → Int} {n : Nat} {sd : Int} (h2 : μ 11 0 2 = (n : Int)) (hn : n ≤ 2000) (hb : ∀ i, i < n → (-128 ≤ μ 40 0 i ∧ μ 40 0 i ≤ 127) ∧ andv (μ 40 0 i) 255 = b i) (h46 : ∀ k, k < 10 → μ 46 0 k = kwd k) (h18 : μ 11 0 18 = 1 - sd) (hs : sd = 0 ∨ sd = 1) (h54 : ∀ j, j < 18 → μ 54 0 j = 0 ∨ μ 54 0 j = 1) (h1 : (vdC b n).1 ≠ 0 → ∀ μ', FrM sd μ μ' → μ' 11 0 2 = 0 → μ' 11 0 17 = ((stt b n (vdC b n).2 : Nat) : Int) → Q (vdC b n).1 μ') (h0 : (vdC b n).1 = 0 → ∀ u, form b n = (0, u) → OKp b n u → (wsT b n u).1 = 0 → ouT b n (nS b n 11 2 20 u) (nS b n 11 1 20 u) u = (0, 0) → ∀ μ' μ'', FrM sd μ μ' → μ' 11 0 2 = 0 → LMa μ' b n sd u → RgM sd μ' μ'' → Q 0 μ'') : RMi sc (d + 7) 11007 [rfc 11 0] (t, 0, 0) μ Q := by
  refine sp_readB h2 hn hb h46 h18 hs h54 fun μ1 x1 F1 z1 e1 R1 => L11007w (d := d) hs 401 0 μ1 (by omega) e1 R1 fun μ2 F2 T2 E2 => ?_
  have FF := F1.trans F2.m
  have e2 : μ2 11 0 19 = sd := (F2.fld (by decide)).trans e1
  have z2 : μ2 11 0 2 = 0 := (F2.fld (by decide)).trans z1
  refine sp_readE e2 hs T2 E2 (fun v0 v hv => h1 v0 _ (FF.trans (FrM.w (by omega))) (by rw [wr_k (by decide)]; exact z2) (by rw [wr_same]; exact hv)) (fun v0 u fo hO w0 o0 L2 μ3 G => h0 v0 u fo hO w0 o0 μ2 μ3 FF z2 L2 G)
