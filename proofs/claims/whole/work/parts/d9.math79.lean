/-! MATHEMATICS, 79: the reference goes on, a token at a time -/
abbrev nmT (b : Nat → Int) (n v : Nat) : Int := nmN b (stt b n v) (rnL isLe b n (stt b n v))
def Fpm (μ μ' : Mem) : Prop := ∀ c i k, ¬ (c = 11 ∧ i = 0 ∧ (k = 11 ∨ (13 ≤ k ∧ k ≤ 16) ∨ k = 20 ∨ k = 45)) → ¬ (c = 47 ∨ c = 71 ∨ c = 72) → μ' c i k = μ c i k
theorem Fpm.rfl' {μ : Mem} : Fpm μ μ := fun _ _ _ _ _ => rfl
theorem Fpm.trans {μ μ' μ'' : Mem} (h : Fpm μ μ') (h2 : Fpm μ' μ'') : Fpm μ μ'' := fun c i k a b => (h2 c i k a b).trans (h c i k a b)
theorem Fpm.w {μ : Mem} {c i k : Nat} {v : Int} (h : (c = 11 ∧ i = 0 ∧ (k = 11 ∨ (13 ≤ k ∧ k ≤ 16) ∨ k = 20 ∨ k = 45)) ∨ (c = 47 ∨ c = 71 ∨ c = 72)) : Fpm μ (wr μ c i k v) := fun c' i' k' a b => if_neg fun z => by
  obtain ⟨rfl, rfl, rfl⟩ := z
  omega
theorem Fpm.c {μ μ' : Mem} {c : Nat} (h : Fpm μ μ') (h1 : c ≠ 11) (h2 : ¬ (c = 47 ∨ c = 71 ∨ c = 72)) : μ' c = μ c := by
  funext i k
  exact h c i k (by omega) h2
def TksM (μ : Mem) (b : Nat → Int) (n : Nat) : Prop := ∀ i, i ≤ 400 → (∀ j, j < i → tK b n j ≠ 1) → TkM μ b n i
theorem TksM.p {μ μ' : Mem} {b : Nat → Int} {n : Nat} (h : TksM μ b n) (hF : Fpm μ μ') : TksM μ' b n := by
  intro i hi hj
  have r := h i hi hj
  unfold TkM at r ⊢
  rw [hF.c (c := 42) (by decide) (by decide), hF.c (c := 43) (by decide) (by decide), hF.c (c := 44) (by decide) (by decide), hF.c (c := 45) (by decide) (by decide)]
  exact r
theorem TksM.at {μ : Mem} {b : Nat → Int} {n u : Nat} (h : TksM μ b n) (hO : OKp b n u) {v : Nat} (hv : v ≤ u) : TkM μ b n v := h v (by have := hO.m; omega) fun j hj => ok_n1 hO j (by omega)
def WS (μ : Mem) (b : Nat → Int) (n : Nat) (r : Int × Nat) : Prop := μ 11 0 15 = r.1 ∧ (r.1 ≠ 0 → μ 11 0 16 = ((stt b n r.2 : Nat) : Int))
def NmS (μ : Mem) (b : Nat → Int) (n u : Nat) : Prop := μ 11 0 20 = ((nC b n u : Nat) : Int) ∧ ∀ v, v < u → tK b n v = 2 → μ 47 0 (nC b n v) = nmT b n v
def PlS (μ : Mem) (b : Nat → Int) (n u : Nat) : Prop := μ 11 0 45 = ((plC b n u : Nat) : Int) ∧ ∀ v, v < u → isP b n v → μ 71 0 (plC b n v) = (v : Int) ∧ μ 72 0 (plC b n v) = (if (wiT b n v).2 = 0 then 0 else 1)
def Flt (μ : Mem) (b : Nat → Int) (n : Nat) : Prop := 0 < μ 11 0 13 ∧ (form b n).1 = μ 11 0 13 ∧ μ 11 0 14 = ((stt b n (form b n).2 : Nat) : Int)
/-- no fault so far: at the u-th token, names to y, places to p -/
def AtV (μ : Mem) (b : Nat → Int) (n : Nat) (w : Int) (S u p : Nat) : Prop := μ 11 0 13 = 0 ∧ μ 11 0 11 = (u : Int) ∧ OKp b n u ∧ Pth b n u w S ∧ WS μ b n (wsT b n u) ∧ NmS μ b n u ∧ PlS μ b n p
def RS (μ : Mem) (b : Nat → Int) (n : Nat) (w : Int) (S u : Nat) : Prop := TksM μ b n ∧ (Flt μ b n ∨ AtV μ b n w S u u)
theorem WS.x {μ μ' : Mem} {b : Nat → Int} {n : Nat} {r : Int × Nat} (h : WS μ b n r) (e1 : μ' 11 0 15 = μ 11 0 15) (e2 : μ' 11 0 16 = μ 11 0 16) : WS μ' b n r := by
  unfold WS at *
  rw [e1, e2]
  exact h
theorem NmS.x {μ μ' : Mem} {b : Nat → Int} {n u : Nat} (h : NmS μ b n u) (e1 : μ' 11 0 20 = μ 11 0 20) (e2 : μ' 47 = μ 47) : NmS μ' b n u := by
  unfold NmS at *
  rw [e1, e2]
  exact h
theorem PlS.x {μ μ' : Mem} {b : Nat → Int} {n u : Nat} (h : PlS μ b n u) (e1 : μ' 11 0 45 = μ 11 0 45) (e2 : μ' 71 = μ 71) (e3 : μ' 72 = μ 72) : PlS μ' b n u := by
  unfold PlS at *
  rw [e1, e2, e3]
  exact h
theorem NmS.s {μ : Mem} {b : Nat → Int} {n u : Nat} (h : NmS μ b n u) (k : tK b n u ≠ 2) : NmS μ b n (u + 1) := by
  refine ⟨by rw [nC_s, if_neg k]; exact h.1, fun v hv kv => h.2 v ?_ kv⟩
  by_cases q : v = u
  · subst q
    exact absurd kv k
  · omega
theorem PlS.s {μ : Mem} {b : Nat → Int} {n u : Nat} (h : PlS μ b n u) (k : ¬ isP b n u) : PlS μ b n (u + 1) := by
  refine ⟨by rw [plC_s, ic_f k]; exact h.1, fun v hv kv => h.2 v ?_ kv⟩
  by_cases q : v = u
  · subst q
    exact absurd kv k
  · omega
theorem WS.s {μ : Mem} {b : Nat → Int} {n u : Nat} (h : WS μ b n (wsT b n u)) (k2 : ¬ (tK b n u = 2 ∧ twc b n u)) (k3 : ¬ (tK b n u = 3 ∧ wrg b n (wiT b n u).1 (wiT b n u).2 u)) : WS μ b n (wsT b n (u + 1)) := by
  rw [wsT_s]
  by_cases z : (wsT b n u).1 ≠ 0
  · rw [ic_t z]
    exact h
  · rw [ic_f z, ic_f k2, ic_f k3]
    exact ⟨by rw [h.1]; exact Classical.not_not.mp z, fun y => absurd rfl y⟩
/-- the raw step -/
theorem sp_fail {sc : Scr} {d t : Nat} {μ : Mem} {Q : Mem → Prop} {b : Nat → Int} {n u : Nat} {k : Int} (hT : TksM μ b n) (h13 : μ 11 0 13 = 0) (h11 : μ 11 0 11 = (u : Int)) (hO : OKp b n u) (hk : 0 < k) (hf : form b n = (k, u)) (h : ∀ μ', Fpm μ μ' → Flt μ' b n → Q μ') : RMv sc (d + 1) 11017 [rfc 11 0, .inl k] (t, 0, 0) μ Q := by
  have um := hO.m
  obtain ⟨-, t2, -⟩ := hT.at hO (Nat.le_refl u)
  refine m_11017 ⟨fun _ => ?_, fun z => absurd (by omega) z⟩
  have e11 : (wr μ 11 0 13 k) 11 0 11 = (u : Int) := by rw [wr_k (by decide)]; exact h11
  have e43 : (wr μ 11 0 13 k) 43 = μ 43 := wr_c (by decide)
  rw [e11, e43, Int.toNat_natCast, t2]
  have e13 : (wr (wr μ 11 0 13 k) 11 0 14 ((stt b n u : Nat) : Int)) 11 0 13 = k := by rw [wr_k (by decide), wr_same]
  refine ⟨by omega, h _ ((Fpm.w (by omega)).trans (Fpm.w (by omega))) ⟨by rw [e13]; exact hk, by rw [e13, hf], by rw [wr_same, hf]⟩⟩
theorem sp_failed {sc : Scr} {d t : Nat} {μ : Mem} {Q : Mem → Prop} {b : Nat → Int} {n : Nat} {k : Int} (hF : Flt μ b n) (h : Q μ) : RMv sc (d + 1) 11017 [rfc 11 0, .inl k] (t, 0, 0) μ Q :=
  m_11017 ⟨fun z => absurd hF.1 (by omega), fun _ => h⟩
theorem sp_adv {sc : Scr} {d t : Nat} {μ : Mem} {Q : Mem → Prop} {b : Nat → Int} {n u : Nat} (hT : TksM μ b n) (h13 : μ 11 0 13 = 0) (h11 : μ 11 0 11 = (u : Int)) (hO : OKp b n u) (a0 : ¬ isAcc b n u) (a1 : ¬ isE1 b n u) (a2 : u ≠ 400 → ¬ isE2 b n u) (h1 : OKp b n (u + 1) → Q (wr μ 11 0 11 ((u : Int) + 1))) (hf : ∀ μ', Fpm μ μ' → Flt μ' b n → Q μ') : RMv sc (d + 2) 11018 [rfc 11 0] (t, 0, 0) μ Q := by
  have um := hO.m
  refine m_11018 ?_
  rw [h11]
  exact ⟨fun z => ⟨by omega, h1 (hO.s a0 a1 (a2 (by omega)))⟩, fun z => sp_fail hT h13 h11 hO (by decide) (form_e2 hO a0 a1 (Or.inl (by omega))) hf⟩
theorem sp_is {sc : Scr} {d t : Nat} {μ : Mem} {Q : Int → Mem → Prop} {b : Nat → Int} {n u : Nat} {k x : Int} (hT : TksM μ b n) (h13 : μ 11 0 13 = 0) (h11 : μ 11 0 11 = (u : Int)) (hO : OKp b n u) (hk : 0 ≤ k ∧ k ≤ 14) (hx : x = rK k) (h1 : tK b n u = k → Q 1 μ) (h0 : ¬ tK b n u = k → Q 0 μ) : RMi sc (d + 1) 11014 [rfc 11 0, .inl x] (t, 0, 0) μ Q := by
  have um := hO.m
  obtain ⟨t1, -, -⟩ := hT.at hO (Nat.le_refl u)
  have kb : 0 ≤ tK b n u ∧ tK b n u ≤ 14 := tkK_b _ _ _
  refine m_11014 ⟨fun z => absurd h13 z, fun _ => ?_⟩
  rw [h11, Int.toNat_natCast, t1, hx, rK_i kb hk]
  exact ⟨by omega, h0, fun z => h1 (Decidable.not_not.mp z)⟩
theorem sp_isF {sc : Scr} {d t : Nat} {μ : Mem} {Q : Int → Mem → Prop} {b : Nat → Int} {n : Nat} {x : Int} (hF : Flt μ b n) (h0 : Q 0 μ) : RMi sc (d + 1) 11014 [rfc 11 0, .inl x] (t, 0, 0) μ Q :=
  m_11014 ⟨fun _ => h0, fun z => absurd (by have := hF.1; omega) z⟩
theorem Pth.n {b : Nat → Int} {n u : Nat} {w : Int} {S : Nat} (hp : Pth b n u w S) (hS : S ≠ 0) : ¬ isAcc b n u ∧ (u ≠ 400 → ¬ isE2 b n u) ∧ (isE1 b n u ↔ ¬ gO (tK b n u) w (S : Int)) := by
  refine ⟨fun z => ?_, fun hu z => ?_, ?_⟩
  · have := z.2
    rw [hp.1] at this
    simp only [] at this
    omega
  · rcases z with z | z
    · exact hu z
    · have := z.1
      rw [hp.1] at this
      simp only [] at this
      omega
  · unfold isE1 wNow
    rw [hp.1]
    simp only []
    rw [if_neg (by omega)]
theorem Pth.s {b : Nat → Int} {n u : Nat} {w : Int} {S : Nat} (hp : Pth b n u w S) (hS : S ≠ 0) (hO : OKp b n (u + 1)) : Pth b n (u + 1) w (if tK b n u = 4 then 0 else S + 1) := by
  obtain ⟨w', S', hp'⟩ := path hO
  have e := hp'.1
  rw [aut_s, hp.1] at e
  simp only [] at e
  rw [Prod.mk.injEq, if_neg (by omega : ¬ (S : Int) = 0)] at e
  obtain ⟨e1, e2⟩ := e
  subst e1
  have : S' = (if tK b n u = 4 then 0 else S + 1) := by
    split at e2 <;> split <;> omega
  rw [← this]
  exact hp'
/-- the last sign -/
theorem sp_semi {sc : Scr} {d t : Nat} {μ : Mem} {Q : Mem → Prop} {b : Nat → Int} {n u : Nat} {w : Int} {S : Nat} (hR : RS μ b n w S u) (hS : S ≠ 0) (hg : ∀ x, gO x w (S : Int) ↔ x = 4) (h : ∀ μ', Fpm μ μ' → RS μ' b n w 0 (u + 1) → (μ' 11 0 13 = 0 → OKp b n (u + 1) ∧ tK b n u = 4 ∧ μ 11 0 13 = 0) → Q μ') : RMv sc (d + 3) 11021 [rfc 11 0, .inl 4] (t, 0, 0) μ Q := by
  obtain ⟨hT, hF | ⟨h13, h11, hO, hp, hw, hn, hpl⟩⟩ := hR
  · exact m_11021 (sp_isF hF ⟨fun _ => sp_failed hF (h μ Fpm.rfl' ⟨hT, Or.inl hF⟩ fun z => absurd z (by have := hF.1; omega)), fun z => absurd rfl z⟩)
  · obtain ⟨a0, a2, a1⟩ := hp.n hS
    have bad : ∀ μ', Fpm μ μ' → Flt μ' b n → Q μ' := fun μ' F' f' => h μ' F' ⟨hT.p F', Or.inl f'⟩ fun z => absurd z (by have := f'.1; omega)
    refine m_11021 (sp_is hT h13 h11 hO (k := 4) (by decide) rfl (fun k4 => ⟨fun z => absurd z (by decide), fun _ => sp_adv hT h13 h11 hO a0 (fun z => (a1.mp z) ((hg _).mpr k4)) a2 (fun hO1 => ?_) bad⟩) (fun k4 => ⟨fun _ => sp_fail hT h13 h11 hO (by decide) (form_e1 hO a0 (a1.mpr fun z => k4 ((hg _).mp z))) bad, fun z => absurd rfl z⟩))
    have hp1 := hp.s hS hO1
    rw [if_pos k4] at hp1
    have F1 : Fpm μ (wr μ 11 0 11 ((u : Int) + 1)) := Fpm.w (by omega)
    refine h _ F1 ⟨hT.p F1, Or.inr ⟨?_, by rw [wr_same]; omega, hO1, hp1, (hw.s (fun z => absurd z.1 (by omega)) (fun z => absurd z.1 (by omega))).x ?_ ?_, (hn.s (by omega)).x ?_ ?_, (hpl.s (fun z => absurd z.1 (by omega))).x ?_ ?_ ?_⟩⟩ (fun _ => ⟨hO1, k4, h13⟩)
    · rw [wr_k (by decide)]; exact h13
    · rw [wr_k (by decide)]
    · rw [wr_k (by decide)]
    · rw [wr_k (by decide)]
    · rw [wr_c (by decide)]
    · rw [wr_k (by decide)]
    · rw [wr_c (by decide)]
    · rw [wr_c (by decide)]
theorem wsT_lt {b : Nat → Int} {n : Nat} : ∀ {t : Nat}, (wsT b n t).1 ≠ 0 → (wsT b n t).2 < t ∧ tK b n (wsT b n t).2 ≠ 1
  | 0, h => absurd rfl h
  | t + 1, h => by
    rw [wsT_s] at h ⊢
    by_cases z : (wsT b n t).1 ≠ 0
    · rw [ic_t z]
      obtain ⟨r1, r2⟩ := wsT_lt z
      exact ⟨by omega, r2⟩
    · rw [ic_f z] at h ⊢
      by_cases k2 : tK b n t = 2 ∧ twc b n t
      · rw [ic_t k2]
        exact ⟨Nat.lt_succ_self t, by simp only []; omega⟩
      · rw [ic_f k2] at h ⊢
        by_cases k3 : tK b n t = 3 ∧ wrg b n (wiT b n t).1 (wiT b n t).2 t
        · rw [ic_t k3]
          exact ⟨Nat.lt_succ_self t, by simp only []; omega⟩
        · rw [ic_f k3] at h
          exact absurd rfl h
/-- the worst before a token, or the token itself -/
noncomputable def wsU (b : Nat → Int) (n u : Nat) (k : Int) : Int × Nat := ic ((wsT b n u).1 ≠ 0) (wsT b n u) (k, u)
theorem sp_wrong {sc : Scr} {d t : Nat} {μ : Mem} {Q : Mem → Prop} {b : Nat → Int} {n u : Nat} {k : Int} (hk : k ≠ 0) (h13 : μ 11 0 13 = 0) (um : u ≤ 400) (t2 : μ 43 0 u = ((stt b n u : Nat) : Int)) (hw : WS μ b n (wsT b n u) ∨ WS μ b n (wsU b n u k)) (h : ∀ μ', Fpm μ μ' → WS μ' b n (wsU b n u k) → (∀ c i j, ¬ (c = 11 ∧ i = 0 ∧ (j = 15 ∨ j = 16)) → μ' c i j = μ c i j) → Q μ') : RMv sc (d + 1) 11022 [rfc 11 0, .inl k, .inl (u : Int)] (t, 0, 0) μ Q := by
  have same : WS μ b n (wsU b n u k) → Q μ := fun z => h μ Fpm.rfl' z fun _ _ _ _ => rfl
  refine m_11022 ?_
  rw [Int.toNat_natCast, t2]
  refine ⟨by omega, fun z => absurd z (by omega), fun _ => ?_⟩
  by_cases z : (wsT b n u).1 ≠ 0
  · have eU : wsU b n u k = wsT b n u := by unfold wsU; rw [ic_t z]
    rw [eU] at hw
    have hw' : WS μ b n (wsT b n u) := hw.elim id id
    obtain ⟨l1, l2⟩ := wsT_lt z
    have lt := stt_lt l2 l1
    rw [hw'.1, hw'.2 z]
    refine ⟨fun y => absurd y z, fun _ => ⟨fun _ => same (by rw [eU]; exact hw'), fun y => absurd (by omega) y⟩⟩
  · have eU : wsU b n u k = (k, u) := by unfold wsU; rw [ic_f z]
    rw [eU] at hw h same
    have z' := Classical.not_not.mp z
    rcases hw with hw | hw
    · rw [hw.1, z']
      refine ⟨fun _ => h _ ((Fpm.w (by omega)).trans (Fpm.w (by omega))) ⟨by rw [wr_k (by decide), wr_same], fun _ => wr_same _ _ _ _ _⟩ (fun c i j a => ?_), fun y => absurd rfl y⟩
      exact (if_neg fun y => a ⟨y.1, y.2.1, Or.inr y.2.2⟩).trans (if_neg fun y => a ⟨y.1, y.2.1, Or.inl y.2.2⟩)
    · rw [hw.1, hw.2 hk]
      exact ⟨fun y => absurd y hk, fun _ => ⟨fun _ => same hw, fun _ => ⟨fun y => absurd rfl y, fun _ => ⟨fun y => absurd y (by simp only []; omega), fun _ => same hw⟩⟩⟩⟩
/-- a number between two ends -/
def BO (μ' : Mem) (b : Nat → Int) (n : Nat) (w : Int) (S u : Nat) : Prop := TksM μ' b n ∧ (Flt μ' b n ∨ (AtV μ' b n w (S + 1) (u + 1) u ∧ tK b n u = 3 ∧ Pth b n u w S))
theorem wsU_3 {b : Nat → Int} {n u : Nat} (k3 : tK b n u = 3) (hw : wrg b n (wiT b n u).1 (wiT b n u).2 u) : wsT b n (u + 1) = wsU b n u 5 := by
  rw [wsT_s]
  unfold wsU
  by_cases z : (wsT b n u).1 ≠ 0
  · rw [ic_t z, ic_t z]
  · rw [ic_f z, ic_f z, ic_f fun y => absurd y.1 (by omega), ic_t ⟨k3, hw⟩]
theorem wsU_2 {b : Nat → Int} {n u : Nat} (k2 : tK b n u = 2) (hw : twc b n u) : wsT b n (u + 1) = wsU b n u 3 := by
  rw [wsT_s]
  unfold wsU
  by_cases z : (wsT b n u).1 ≠ 0
  · rw [ic_t z, ic_t z]
  · rw [ic_f z, ic_f z, ic_t ⟨k2, hw⟩]
theorem sp_bounded {sc : Scr} {d t : Nat} {μ : Mem} {Q : Int → Mem → Prop} {b : Nat → Int} {n u : Nat} {w x1 x2 : Int} {S : Nat} (hR : RS μ b n w S u) (hS : S ≠ 0) (hg : ∀ x, gO x w (S : Int) ↔ x = 3) (hw : μ 11 0 13 = 0 → Pth b n u w S → 0 ≤ tV b n u → (wrg b n (wiT b n u).1 (wiT b n u).2 u ↔ (tV b n u < x1 ∨ x2 < tV b n u))) (h : ∀ v μ', Fpm μ μ' → BO μ' b n w S u → (μ' 11 0 13 = 0 → v = tV b n u ∧ μ 11 0 11 = (u : Int) ∧ μ 11 0 13 = 0) → Q v μ') : RMi sc (d + 3) 11023 [rfc 11 0, .inl x1, .inl x2] (t, 0, 0) μ Q := by
  obtain ⟨hT, hF | ⟨h13, h11, hO, hp, hws, hn, hpl⟩⟩ := hR
  · exact m_11023 ⟨fun _ => sp_failed hF (h _ μ Fpm.rfl' ⟨hT, Or.inl hF⟩ fun z => absurd z (by have := hF.1; omega)), fun z => absurd hF.1 z⟩
  · have um := hO.m
    obtain ⟨a0, a2, a1⟩ := hp.n hS
    obtain ⟨t1, t2, t3, t4⟩ := hT.at hO (Nat.le_refl u)
    refine m_11023 ⟨fun z => absurd z (by omega), fun _ => sp_is hT h13 h11 hO (k := 3) (by decide) rfl (fun k3 => ⟨fun _ => ?_, fun z => absurd (by decide) z⟩) (fun k3 => ⟨fun z => absurd rfl z, fun _ => sp_fail hT h13 h11 hO (by decide) (form_e1 hO a0 (a1.mpr fun z => k3 ((hg _).mp z))) fun μ' F' f' => h _ μ' F' ⟨hT.p F', Or.inl f'⟩ fun z => absurd z (by have := f'.1; omega)⟩)⟩
    have vb := int_tok k3
    have fin : ∀ μ1, Fpm μ μ1 → (∀ c i j, ¬ (c = 11 ∧ i = 0 ∧ (j = 15 ∨ j = 16)) → μ1 c i j = μ c i j) → WS μ1 b n (wsT b n (u + 1)) → RMv sc (d + 2) 11018 [rfc 11 0] (t, 0, 0) μ1 (fun μ4 => Q (tV b n u) μ4) := by
      intro μ1 F1 e1 w1
      refine sp_adv (hT.p F1) (by rw [e1 11 0 13 (by omega)]; exact h13) (by rw [e1 11 0 11 (by omega)]; exact h11) hO a0 (fun z => (a1.mp z) ((hg _).mpr k3)) a2 (fun hO1 => ?_) (fun μ' F' f' => h _ μ' (F1.trans F') ⟨hT.p (F1.trans F'), Or.inl f'⟩ fun _ => ⟨rfl, h11, h13⟩)
      have hp1 := hp.s hS hO1
      rw [if_neg (by omega : ¬ tK b n u = 4)] at hp1
      have F2 : Fpm μ (wr μ1 11 0 11 ((u : Int) + 1)) := F1.trans (Fpm.w (by omega))
      have o : ∀ c, c ≠ 11 → (wr μ1 11 0 11 ((u : Int) + 1)) c = μ c := fun c hc => by
        rw [wr_c hc]
        funext i j
        exact e1 c i j (by omega)
      refine h _ _ F2 ⟨hT.p F2, Or.inr ⟨⟨?_, by rw [wr_same]; omega, hO1, hp1, w1.x ?_ ?_, (hn.s (by omega)).x ?_ (o 47 (by decide)), hpl.x ?_ (o 71 (by decide)) (o 72 (by decide))⟩, k3, hp⟩⟩ (fun _ => ⟨rfl, h11, h13⟩)
      · rw [wr_k (by decide), e1 11 0 13 (by omega)]; exact h13
      · rw [wr_k (by decide)]
      · rw [wr_k (by decide)]
      · rw [wr_k (by decide), e1 11 0 20 (by omega)]
      · rw [wr_k (by decide), e1 11 0 45 (by omega)]
    have bad : wrg b n (wiT b n u).1 (wiT b n u).2 u → RMv sc (d + 2) 11022 [rfc 11 0, .inl 5, .inl (u : Int)] (t, 0, 0) μ (fun μ3 => RMv sc (d + 2) 11018 [rfc 11 0] (t, 0, 0) μ3 (fun μ4 => Q (tV b n u) μ4)) := fun g => sp_wrong (by decide) h13 um t2 (Or.inl hws) fun μ' F' w' e' => fin μ' F' e' (by rw [wsU_3 k3 g]; exact w')
    have iw := hw h13 hp vb.1
    rw [h11, Int.toNat_natCast, t3 k3]
    exact ⟨by omega, fun z => bad (iw.mpr (Or.inl z)), fun z => ⟨fun z2 => fin μ Fpm.rfl' (fun _ _ _ _ => rfl) (hws.s (fun y => absurd y.1 (by omega)) fun y => absurd (iw.mp y.2) (by omega)), fun z2 => bad (iw.mpr (Or.inr (by omega)))⟩⟩
/-- a number that is no place -/
theorem sp_number {sc : Scr} {d t : Nat} {μ : Mem} {Q : Int → Mem → Prop} {b : Nat → Int} {n u : Nat} {w x1 x2 : Int} {S : Nat} (hR : RS μ b n w S u) (hS : S ≠ 0) (hg : ∀ x, gO x w (S : Int) ↔ x = 3) (hw : μ 11 0 13 = 0 → Pth b n u w S → 0 ≤ tV b n u → (wrg b n (wiT b n u).1 (wiT b n u).2 u ↔ (tV b n u < x1 ∨ x2 < tV b n u))) (hP : Pth b n u w S → ¬ isP b n u) (h : ∀ v μ', Fpm μ μ' → RS μ' b n w (S + 1) (u + 1) → (μ' 11 0 13 = 0 → v = tV b n u ∧ Pth b n u w S ∧ tK b n u = 3 ∧ μ 11 0 13 = 0) → Q v μ') : RMi sc (d + 3) 11023 [rfc 11 0, .inl x1, .inl x2] (t, 0, 0) μ Q := by
  refine sp_bounded hR hS hg hw fun v μ' F' B' e' => ?_
  obtain ⟨bT, bF | ⟨⟨c1, c2, c3, c4, c5, c6, c7⟩, k3, hp⟩⟩ := B'
  · exact h v μ' F' ⟨bT, Or.inl bF⟩ fun z => absurd z (by have := bF.1; omega)
  · exact h v μ' F' ⟨bT, Or.inr ⟨c1, c2, c3, c4, c5, c6, c7.s (hP hp)⟩⟩ fun z => ⟨(e' z).1, hp, k3, (e' z).2.2⟩
/-- a place on the map -/
theorem sp_onMap {sc : Scr} {d t : Nat} {μ : Mem} {Q : Int → Mem → Prop} {b : Nat → Int} {n u : Nat} {w x1 : Int} {S : Nat} (hR : RS μ b n w S u) (hS : S ≠ 0) (hg : ∀ x, gO x w (S : Int) ↔ x = 3) (hw : μ 11 0 13 = 0 → Pth b n u w S → 0 ≤ tV b n u → (wrg b n (wiT b n u).1 (wiT b n u).2 u ↔ (tV b n u < 0 ∨ 99 < tV b n u))) (hP : Pth b n u w S → tK b n u = 3 → isP b n u) (hx : x1 = 0 ∨ x1 = 1) (hx2 : Pth b n u w S → x1 = (if (wiT b n u).2 = 0 then 0 else 1)) (h : ∀ v μ', Fpm μ μ' → RS μ' b n w (S + 1) (u + 1) → (μ' 11 0 13 = 0 → v = tV b n u ∧ Pth b n u w S ∧ tK b n u = 3 ∧ μ 11 0 13 = 0) → Q v μ') : RMi sc (d + 4) 11025 [rfc 11 0, .inl x1] (t, 0, 0) μ Q := by
  have h11 : Flt μ b n ∨ μ 11 0 11 = (u : Int) := hR.2.elim Or.inl fun y => Or.inr y.2.1
  refine m_11025 (sp_bounded hR hS hg hw fun v μ' F' B' e' => ?_)
  obtain ⟨bT, bF | ⟨⟨c1, c2, c3, c4, c5, c6, c7⟩, k3, hp⟩⟩ := B'
  · exact ⟨fun z => absurd bF.1 (by omega), fun _ => h 0 μ' F' ⟨bT, Or.inl bF⟩ fun z => absurd z (by have := bF.1; omega)⟩
  · refine ⟨fun _ => ?_, fun z => absurd (by omega) z⟩
    have pb := plC_b (c3.le (Nat.le_succ u))
    have e11 : μ 11 0 11 = (u : Int) := (e' c1).2.1
    have ip := hP hp k3
    have r71 : ∀ (m : Mem) (i k : Nat) (v : Int), wr m 71 i k v 11 = m 11 := fun _ _ _ _ => wr_c (by decide)
    have r72 : ∀ (m : Mem) (i k : Nat) (v : Int), wr m 72 i k v 11 = m 11 := fun _ _ _ _ => wr_c (by decide)
    simp only [r71, r72, c7.1, e11, Int.toNat_natCast]
    have F2 : Fpm μ (wr (wr (wr μ' 71 0 (plC b n u) (u : Int)) 72 0 (plC b n u) x1) 11 0 45 (((plC b n u : Nat) : Int) + 1)) := ((F'.trans (Fpm.w (by omega))).trans (Fpm.w (by omega))).trans (Fpm.w (by omega))
    have o : ∀ k, k ≠ 45 → (wr (wr (wr μ' 71 0 (plC b n u) (u : Int)) 72 0 (plC b n u) x1) 11 0 45 (((plC b n u : Nat) : Int) + 1)) 11 0 k = μ' 11 0 k := fun k hk => by rw [wr_k hk, wr_c (by decide), wr_c (by decide)]
    refine ⟨by omega, ⟨by omega, hx⟩, by omega, h v _ F2 ⟨hR.1.p F2, Or.inr ⟨by rw [o 13 (by decide)]; exact c1, by rw [o 11 (by decide)]; exact c2, c3, c4, c5.x (o 15 (by decide)) (o 16 (by decide)), c6.x (o 20 (by decide)) ?_, ?_⟩⟩ fun _ => ⟨(e' c1).1, hp, k3, (e' c1).2.2⟩⟩
    · rw [wr_c (by decide), wr_c (by decide), wr_c (by decide)]
    · refine ⟨by rw [wr_same, plC_s, ic_t ip]; omega, fun v hv iv => ?_⟩
      rw [wr_c (by decide), wr_c (show (71 : Nat) ≠ 72 by decide), wr_c (show (72 : Nat) ≠ 11 by decide)]
      by_cases q : v = u
      · subst q
        rw [wr_same, wr_same]
        exact ⟨rfl, hx2 hp⟩
      · have : plC b n v + 1 ≤ plC b n u := by
          have a := plC_s b n v
          rw [ic_t iv] at a
          have := plC_m (b := b) (n := n) (u := v + 1) (u - (v + 1))
          rw [show v + 1 + (u - (v + 1)) = u by omega] at this
          omega
        rw [wr_k (by omega), wr_k (by omega), wr_c (by decide)]
        exact c7.2 v (by omega) iv
theorem smN_e {b : Nat → Int} {n s u : Nat} (hs : tK b n s = 2) (hu : tK b n u = 2) : smN b n s u ↔ nmT b n s = nmT b n u := by
  obtain ⟨n1, n2, n3, n4, -⟩ := name_tok hs
  obtain ⟨m1, m2, m3, m4, -⟩ := name_tok hu
  have ls := stt_le b n s
  have lu := stt_le b n u
  unfold smN
  rw [n4, m4]
  constructor
  · intro ⟨h1, h2⟩
    show nmN b (stt b n s) (rnL isLe b n (stt b n s)) = nmN b (stt b n u) (rnL isLe b n (stt b n u))
    rw [show rnL isLe b n (stt b n u) = rnL isLe b n (stt b n s) by omega]
    exact nmN_c fun k hk => h2 k (by omega)
  · intro h
    obtain ⟨e1, e2⟩ := nmN_inj n3 m3 (fun k hk => run_in (p := isLe) (b := b) (n := n) (n - stt b n s) (stt b n s) k (by omega) hk) (fun k hk => run_in (p := isLe) (b := b) (n := n) (n - stt b n u) (stt b n u) k (by omega) hk) h
    exact ⟨by omega, fun i hi => e2 i (by omega)⟩
theorem nC_inv {b : Nat → Int} {n : Nat} : ∀ {u j : Nat}, j < nC b n u → ∃ v, v < u ∧ tK b n v = 2 ∧ nC b n v = j
  | 0, j, h => absurd h (by unfold nC; omega)
  | u + 1, j, h => by
    rw [nC_s] at h
    by_cases q : j < nC b n u
    · obtain ⟨v, v1, v2, v3⟩ := nC_inv q
      exact ⟨v, by omega, v2, v3⟩
    · split at h
      · rename_i k2
        exact ⟨u, by omega, k2, by omega⟩
      · omega
theorem nC_lt {b : Nat → Int} {n u v : Nat} (hv : v < u) (k2 : tK b n v = 2) : nC b n v + 1 ≤ nC b n u := by
  have a := nC_s b n v
  rw [if_pos k2] at a
  have := nC_m (b := b) (n := n) (u := v + 1) (u - (v + 1))
  rw [show v + 1 + (u - (v + 1)) = u by omega] at this
  omega
/-- a name -/
theorem sp_named {sc : Scr} {d t : Nat} {μ : Mem} {Q : Mem → Prop} {b : Nat → Int} {n u : Nat} {w : Int} {S : Nat} (hR : RS μ b n w S u) (hS : S ≠ 0) (hg : ∀ x, gO x w (S : Int) ↔ x = 2) (h : ∀ μ', Fpm μ μ' → RS μ' b n w (S + 1) (u + 1) → Q μ') : RMv sc (d + 4) 11020 [rfc 11 0] (t, 0, 0) μ Q := by
  obtain ⟨hT, hF | ⟨h13, h11, hO, hp, hws, hn, hpl⟩⟩ := hR
  · exact m_11020 (m_11021 (sp_isF hF ⟨fun _ => sp_failed hF ⟨fun z => absurd hF.1 (by omega), fun _ => h μ Fpm.rfl' ⟨hT, Or.inl hF⟩⟩, fun z => absurd rfl z⟩))
  · have um := hO.m
    obtain ⟨a0, a2, a1⟩ := hp.n hS
    obtain ⟨t1, t2, t3, t4⟩ := hT.at hO (Nat.le_refl u)
    have nb := nC_b hO
    have bad : ∀ μ', Fpm μ μ' → Flt μ' b n → (μ' 11 0 13 ≤ 0 → R_11020 sc (d + 3) (PV t Q) t 20 [rfc 11 0, .inl (μ 11 0 11), .inl 0] [] μ') ∧ (¬ (μ' 11 0 13 ≤ 0) → Q μ') := fun μ' F' f' => ⟨fun z => absurd f'.1 (by omega), fun _ => h μ' F' ⟨hT.p F', Or.inl f'⟩⟩
    refine m_11020 (m_11021 (sp_is hT h13 h11 hO (k := 2) (by decide) rfl (fun k2 => ⟨fun z => absurd z (by decide), fun _ => sp_adv hT h13 h11 hO a0 (fun z => (a1.mp z) ((hg _).mpr k2)) a2 (fun hO1 => ⟨fun _ => ?_, fun z => absurd (by rw [wr_k (by decide)]; omega) z⟩) bad⟩) (fun k2 => ⟨fun _ => sp_fail hT h13 h11 hO (by decide) (form_e1 hO a0 (a1.mpr fun z => k2 ((hg _).mp z))) bad, fun z => absurd rfl z⟩)))
    have hp1 := hp.s hS hO1
    rw [if_neg (by omega : ¬ tK b n u = 4)] at hp1
    have lp : ∀ (m j : Nat) (μ' : Mem), m + j = nC b n u → Fpm μ μ' → μ' 11 0 13 = 0 → μ' 11 0 11 = (u : Int) + 1 → NmS μ' b n u → PlS μ' b n u → ((WS μ' b n (wsT b n u) ∧ ∀ i, i < j → μ' 47 0 i ≠ nmT b n u) ∨ (WS μ' b n (wsU b n u 3) ∧ twc b n u)) → R_11020 sc (d + 3) (PV t Q) t 20 [rfc 11 0, .inl (u : Int), .inl (j : Int)] [] μ' := by
      intro m
      induction m with
      | zero =>
        intro j μ' hj F' e13 e11 nm pl ws
        have : j = nC b n u := by omega
        subst this
        have T' := hT.p F'
        have t4' := (T'.at hO (Nat.le_refl u)).2.2.2 k2
        have w20 : (wr μ' 47 0 (nC b n u) (nmT b n u)) 11 = μ' 11 := wr_c (by decide)
        refine m_11020_20 ⟨fun _ => ⟨fun z => absurd (nm.1 ▸ z) (by omega), fun _ => ?_⟩, fun z => absurd (by rw [nm.1]; exact Int.le_refl _) z⟩
        rw [nm.1, Int.toNat_natCast, Int.toNat_natCast, t4', w20, nm.1]
        have F2 : Fpm μ (wr (wr μ' 47 0 (nC b n u) (nmT b n u)) 11 0 20 (((nC b n u : Nat) : Int) + 1)) := (F'.trans (Fpm.w (by omega))).trans (Fpm.w (by omega))
        have o : ∀ k, k ≠ 20 → (wr (wr μ' 47 0 (nC b n u) (nmT b n u)) 11 0 20 (((nC b n u : Nat) : Int) + 1)) 11 0 k = μ' 11 0 k := fun k hk => by rw [wr_k hk, wr_c (by decide)]
        have wsf : WS μ' b n (wsT b n (u + 1)) := by
          rcases ws with ⟨ws, nn⟩ | ⟨ws, tw⟩
          · refine ws.s (fun y => ?_) (fun y => absurd y.1 (by omega))
            obtain ⟨s, s1, s2, s3⟩ := y.2
            have := nC_lt s1 s2
            exact nn (nC b n s) (by omega) (by rw [nm.2 s s1 s2]; exact (smN_e s2 k2).mp s3)
          · rw [wsU_2 k2 tw]
            exact ws
        refine ⟨by omega, by omega, by omega, PV_mk (h _ F2 ⟨hT.p F2, Or.inr ⟨by rw [o 13 (by decide)]; exact e13, by rw [o 11 (by decide), e11]; omega, hO1, hp1, wsf.x (o 15 (by decide)) (o 16 (by decide)), ?_, (pl.s (fun y => absurd y.1 (by omega))).x (o 45 (by decide)) ?_ ?_⟩⟩)⟩
        · refine ⟨by rw [wr_same, nC_s, if_pos k2]; omega, fun v hv kv => ?_⟩
          rw [wr_c (by decide)]
          by_cases q : v = u
          · rw [q, wr_same]
          · have := nC_lt (by omega : v < u) kv
            rw [wr_k (by omega)]
            exact nm.2 v (by omega) kv
        · rw [wr_c (by decide), wr_c (by decide)]
        · rw [wr_c (by decide), wr_c (by decide)]
      | succ m ih =>
        intro j μ' hj F' e13 e11 nm pl ws
        have T' := hT.p F'
        obtain ⟨-, t2', -, t4'⟩ := T'.at hO (Nat.le_refl u)
        have t4' := t4' k2
        obtain ⟨v, v1, v2, v3⟩ := nC_inv (by omega : j < nC b n u)
        have e47 := nm.2 v v1 v2
        rw [v3] at e47
        refine m_11020_20 ⟨fun z => absurd (nm.1 ▸ z) (by omega), fun _ => ?_⟩
        rw [Int.toNat_natCast, Int.toNat_natCast, t4', e47, lc_eq]
        refine ⟨by omega, by omega, fun z => ⟨by omega, ih (j + 1) μ' (by omega) F' e13 e11 nm pl ?_⟩, fun z => ?_⟩
        · rcases ws with ⟨ws, nn⟩ | ws
          · refine Or.inl ⟨ws, fun i hi => ?_⟩
            by_cases q : i = j
            · rw [q, e47]; exact z
            · exact nn i (by omega)
          · exact Or.inr ws
        · have tw : twc b n u := ⟨v, v1, v2, (smN_e v2 k2).mpr (Decidable.not_not.mp z)⟩
          refine sp_wrong (by decide) e13 um t2' (ws.elim (fun y => Or.inl y.1) fun y => Or.inr y.1) fun μ2 F2 w2 e2 => ⟨by omega, ih (j + 1) μ2 (by omega) (F'.trans F2) (by rw [e2 11 0 13 (by omega)]; exact e13) (by rw [e2 11 0 11 (by omega)]; exact e11) (nm.x (e2 11 0 20 (by omega)) ?_) (pl.x (e2 11 0 45 (by omega)) ?_ ?_) (Or.inr ⟨w2, tw⟩)⟩
          · funext i k; exact e2 47 i k (by omega)
          · funext i k; exact e2 71 i k (by omega)
          · funext i k; exact e2 72 i k (by omega)
    have e0 : ∀ k, k ≠ 11 → (wr μ 11 0 11 ((u : Int) + 1)) 11 0 k = μ 11 0 k := fun k hk => wr_k hk
    rw [h11]
    exact lp (nC b n u) 0 _ rfl (Fpm.w (by omega)) (by rw [e0 13 (by decide)]; exact h13) (wr_same _ _ _ _ _) (hn.x (e0 20 (by decide)) (wr_c (by decide))) (hpl.x (e0 45 (by decide)) (wr_c (by decide)) (wr_c (by decide))) (Or.inl ⟨hws.x (e0 15 (by decide)) (e0 16 (by decide)), fun i hi => absurd hi (by omega)⟩)
