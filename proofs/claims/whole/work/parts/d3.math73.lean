/-! MATHEMATICS, 73: the way through a text that keeps the form -/
def OKp (b : Nat → Int) (n t : Nat) : Prop := ∀ u, u < t → ¬ isAcc b n u ∧ ¬ isE1 b n u ∧ ¬ isE2 b n u
theorem OKp.le {b : Nat → Int} {n t u : Nat} (h : OKp b n t) (hu : u ≤ t) : OKp b n u := fun v hv => h v (by omega)
theorem OKp.s {b : Nat → Int} {n t : Nat} (h : OKp b n t) (h1 : ¬ isAcc b n t) (h2 : ¬ isE1 b n t) (h3 : ¬ isE2 b n t) : OKp b n (t + 1) := fun v hv => by
  by_cases q : v = t
  · subst q
    exact ⟨h1, h2, h3⟩
  · exact h v (by omega)
theorem OKp.m {b : Nat → Int} {n t : Nat} (h : OKp b n t) : t ≤ 400 := by
  by_cases q : t ≤ 400
  · exact q
  · exact absurd (Or.inl rfl) (h 400 (by omega)).2.2
theorem form_ok {b : Nat → Int} {n : Nat} : ∀ {t : Nat}, OKp b n t → ∀ m, m + t = 401 → form b n = foR b n m t
  | 0, _, m, hm => by
    have : m = 401 := by omega
    subst this
    rfl
  | t + 1, h, m, hm => by
    have r := form_ok (h.le (Nat.le_succ t)) (m + 1) (by omega)
    obtain ⟨h1, h2, h3⟩ := h t (by omega)
    rw [foR_s, ic_f h1, ic_f h2, ic_f h3] at r
    exact r
theorem form_acc {b : Nat → Int} {n t : Nat} (h : OKp b n t) (h1 : isAcc b n t) : form b n = (0, t) := by
  have := h.m
  rw [form_ok h (401 - t) (by omega), show 401 - t = (400 - t) + 1 by omega, foR_s, ic_t h1]
theorem form_e1 {b : Nat → Int} {n t : Nat} (h : OKp b n t) (h1 : ¬ isAcc b n t) (h2 : isE1 b n t) : form b n = (1, t) := by
  have := h.m
  rw [form_ok h (401 - t) (by omega), show 401 - t = (400 - t) + 1 by omega, foR_s, ic_f h1, ic_t h2]
theorem form_e2 {b : Nat → Int} {n t : Nat} (h : OKp b n t) (h1 : ¬ isAcc b n t) (h2 : ¬ isE1 b n t) (h3 : isE2 b n t) : form b n = (2, t) := by
  have := h.m
  rw [form_ok h (401 - t) (by omega), show 401 - t = (400 - t) + 1 by omega, foR_s, ic_f h1, ic_f h2, ic_t h3]
theorem foR_out {b : Nat → Int} {n : Nat} : ∀ (m t : Nat), m + t = 401 → OKp b n t → (foR b n m t).1 = 0 → OKp b n (foR b n m t).2 ∧ isAcc b n (foR b n m t).2
  | 0, t, hm, h, h0 => absurd h0 (by show (2 : Int) ≠ 0; decide)
  | m + 1, t, hm, h, h0 => by
    rw [foR_s] at h0 ⊢
    by_cases a : isAcc b n t
    · rw [ic_t a]
      exact ⟨h, a⟩
    · rw [ic_f a] at h0 ⊢
      by_cases a1 : isE1 b n t
      · rw [ic_t a1] at h0
        exact absurd h0 (by show (1 : Int) ≠ 0; decide)
      · rw [ic_f a1] at h0 ⊢
        by_cases a2 : isE2 b n t
        · rw [ic_t a2] at h0
          exact absurd h0 (by show (2 : Int) ≠ 0; decide)
        · rw [ic_f a2] at h0 ⊢
          exact foR_out m (t + 1) (by omega) (h.s a a1 a2) h0
theorem form_out {b : Nat → Int} {n : Nat} (h : (form b n).1 = 0) : OKp b n (form b n).2 ∧ isAcc b n (form b n).2 := foR_out 401 0 rfl (fun u hu => absurd hu (by omega)) h
/-- where the way stands -/
def Pth (b : Nat → Int) (n t : Nat) (w : Int) (S : Nat) : Prop := aut b n t = (w, (S : Int)) ∧ (S = 0 ∨ ((7 ≤ w ∧ w ≤ 14) ∧ (S : Int) ≤ nmd w + sid w + its w + 1 ∧ (1 ≤ S ∧ S ≤ t) ∧ (wiT b n t).1 = w ∧ ((S : Int) ≤ 1 + nmd w + sid w → (wiT b n t).2 = 0) ∧ (1 + nmd w + sid w ≤ (S : Int) → (wiT b n t).2 = (S : Int) - 1 - nmd w - sid w) ∧ tK b n (t - S) = w ∧ ∀ j : Nat, 1 ≤ j → j < S → gO (tK b n (t - S + j)) w (j : Int)))
theorem nmd_b (w : Int) : 0 ≤ nmd w ∧ nmd w ≤ 1 := by unfold nmd; split <;> omega
theorem sid_b (w : Int) : 0 ≤ sid w ∧ sid w ≤ 1 := by unfold sid; split <;> omega
theorem path {b : Nat → Int} {n : Nat} : ∀ {t : Nat}, OKp b n t → ∃ w S, Pth b n t w S
  | 0, _ => ⟨1, 0, rfl, Or.inl rfl⟩
  | t + 1, h => by
    obtain ⟨w, S, e, hp⟩ := path (h.le (Nat.le_succ t))
    obtain ⟨h1, h2, h3⟩ := h t (by omega)
    have g := Classical.not_not.mp h2
    have kb : 0 ≤ tK b n t ∧ tK b n t ≤ 14 := tkK_b _ _ _
    unfold wNow at g
    rw [e] at g
    simp only [] at g
    by_cases z : S = 0
    · subst z
      have k7 : 7 ≤ tK b n t := by
        rcases g with g | g
        · exact g.2
        · exact absurd rfl g.1
      have ib := its_b (w := tK b n t) (by omega)
      have nb := nmd_b (tK b n t)
      have sb := sid_b (tK b n t)
      refine ⟨tK b n t, 1, ?_, Or.inr ⟨by omega, by omega, by omega, ?_, fun _ => ?_, fun _ => ?_, ?_, fun j a c => absurd a (by omega)⟩⟩
      · rw [aut_s, e]
        simp only []
        rw [if_pos (by rfl), if_neg (by omega)]
        rfl
      · rw [wiT_s, if_pos k7]
      · rw [wiT_s, if_pos k7]
      · rw [wiT_s, if_pos k7]
        simp only []
        omega
      · rw [Nat.add_sub_cancel]
    · obtain ⟨w7, sm, st, wi, wi0, wi1, kw, kg⟩ := hp.resolve_left z
      have ib := its_b w7
      have nb := nmd_b w
      have sb := sid_b w
      rw [if_neg (by omega)] at g
      by_cases k4 : tK b n t = 4
      · refine ⟨w, 0, ?_, Or.inl rfl⟩
        rw [aut_s, e]
        simp only []
        rw [if_neg (by omega), if_pos k4]
        rfl
      · have g' := g
        unfold gO at g'
        refine ⟨w, S + 1, ?_, Or.inr ⟨w7, by omega, by omega, ?_, fun y => ?_, fun y => ?_, ?_, fun j a c => ?_⟩⟩
        · rw [aut_s, e]
          simp only []
          rw [if_neg (by omega), if_neg k4]
          rfl
        · rw [wiT_s, if_neg (by omega)]
          split
          · exact wi
          · exact wi
        · rw [wiT_s, if_neg (by omega), if_neg (by omega)]
          exact wi0 (by omega)
        · rw [wiT_s, if_neg (by omega)]
          split
          · rw [wi1 (by omega)]
            omega
          · rw [wi0 (by omega)]
            omega
        · rw [show t + 1 - (S + 1) = t - S by omega]
          exact kw
        · rw [show t + 1 - (S + 1) + j = t - S + j by omega]
          by_cases q : j = S
          · subst q
            rw [show t - j + j = t by omega]
            exact g
          · exact kg j a (by omega)
/-- how many of the word are told whole; where the k-th of them ends; a number's last -/
def cS (b : Nat → Int) (n : Nat) (w : Int) : Nat → Nat
  | 0 => 0
  | t + 1 => cS b n w t + (if tK b n t = 4 ∧ (aut b n t).1 = w then 1 else 0)
theorem cS_s (b : Nat → Int) (n : Nat) (w : Int) (t : Nat) : cS b n w (t + 1) = cS b n w t + (if tK b n t = 4 ∧ (aut b n t).1 = w then 1 else 0) := rfl
def pS (b : Nat → Int) (n : Nat) (w : Int) : Nat → Nat → Nat
  | 0, _ => 0
  | t + 1, k => if tK b n t = 4 ∧ (aut b n t).1 = w ∧ k = cS b n w t then t else pS b n w t k
theorem pS_s (b : Nat → Int) (n : Nat) (w : Int) (t k : Nat) : pS b n w (t + 1) k = if tK b n t = 4 ∧ (aut b n t).1 = w ∧ k = cS b n w t then t else pS b n w t k := rfl
def nS (b : Nat → Int) (n : Nat) (w : Int) (a : Nat) (d : Int) : Nat → Int
  | 0 => d
  | t + 1 => if tK b n t = 4 ∧ (aut b n t).1 = w then tV b n (t - a) else nS b n w a d t
theorem nS_s (b : Nat → Int) (n : Nat) (w : Int) (a : Nat) (d : Int) (t : Nat) : nS b n w a d (t + 1) = if tK b n t = 4 ∧ (aut b n t).1 = w then tV b n (t - a) else nS b n w a d t := rfl
theorem pS_p {b : Nat → Int} {n : Nat} {w : Int} : ∀ {t k : Nat}, k < cS b n w t → pS b n w t k < t ∧ tK b n (pS b n w t k) = 4 ∧ (aut b n (pS b n w t k)).1 = w
  | 0, k, h => absurd h (by unfold cS; omega)
  | t + 1, k, h => by
    rw [cS_s] at h
    rw [pS_s]
    split
    · rename_i c
      exact ⟨by omega, c.1, c.2.1⟩
    · rename_i c
      have : k < cS b n w t := by
        split at h
        · rename_i c2
          have : k ≠ cS b n w t := fun z => c ⟨c2.1, c2.2, z⟩
          omega
        · omega
      obtain ⟨r1, r2, r3⟩ := pS_p this
      exact ⟨by omega, r2, r3⟩
theorem nS_p {b : Nat → Int} {n : Nat} {w : Int} {a : Nat} {d : Int} : ∀ (t : Nat), nS b n w a d t = d ∨ ∃ p, p < t ∧ tK b n p = 4 ∧ (aut b n p).1 = w ∧ nS b n w a d t = tV b n (p - a)
  | 0 => Or.inl rfl
  | t + 1 => by
    rw [nS_s]
    split
    · rename_i c
      exact Or.inr ⟨t, by omega, c.1, c.2, rfl⟩
    · rcases nS_p (b := b) (n := n) (w := w) (a := a) (d := d) t with h | ⟨p, h1, h2, h3, h4⟩
      · exact Or.inl h
      · exact Or.inr ⟨p, by omega, h2, h3, h4⟩
/-- the last sign of what a word tells: what stands before it -/
theorem at_semi {b : Nat → Int} {n t : Nat} (h : OKp b n (t + 1)) (k4 : tK b n t = 4) : ∃ w S, Pth b n t w S ∧ (7 ≤ w ∧ w ≤ 14) ∧ (S : Int) = nmd w + sid w + its w + 1 := by
  obtain ⟨w, S, e, hp⟩ := path (h.le (Nat.le_succ t))
  obtain ⟨h1, h2, h3⟩ := h t (by omega)
  have g := Classical.not_not.mp h2
  unfold wNow at g
  rw [e] at g
  simp only [] at g
  refine ⟨w, S, ⟨e, hp⟩, ?_⟩
  rcases hp with z | ⟨w7, sm, st, wi, wi0, wi1, kw, kg⟩
  · subst z
    unfold gO at g
    rw [if_pos (by rfl)] at g
    omega
  · have ib := its_b w7
    have nb := nmd_b w
    have sb := sid_b w
    rw [if_neg (by omega)] at g
    unfold gO at g
    omega
theorem cnt_cS {b : Nat → Int} {n : Nat} {w : Int} : ∀ {t : Nat}, OKp b n t → cntW b n w t = ((cS b n w t : Nat) : Int) + (if (aut b n t).2 ≠ 0 ∧ (aut b n t).1 = w then 1 else 0)
  | 0, _ => by
    show (0 : Int) = ((0 : Nat) : Int) + (if (0 : Int) ≠ 0 ∧ (1 : Int) = w then 1 else 0)
    rw [if_neg fun z => z.1 rfl]
    rfl
  | t + 1, h => by
    have r := cnt_cS (w := w) (h.le (Nat.le_succ t))
    obtain ⟨w', S, e, hp⟩ := path (h.le (Nat.le_succ t))
    obtain ⟨h1, h2, h3⟩ := h t (by omega)
    have g := Classical.not_not.mp h2
    unfold wNow at g
    rw [e] at g r
    rw [cntW_s, cS_s, aut_s, e]
    simp only [] at g r ⊢
    by_cases z : S = 0
    · subst z
      unfold gO at g
      rw [if_pos (by rfl)] at g
      rw [if_neg fun z => z.1 rfl] at r
      rw [if_pos (by rfl : ((0 : Nat) : Int) = 0), if_neg (by omega : ¬ tK b n t = 4), if_neg (by omega : ¬ (tK b n t = 4 ∧ w' = w))]
      by_cases q : tK b n t = w
      · rw [if_pos ⟨rfl, q⟩, if_pos ⟨by omega, q⟩]
        omega
      · rw [if_neg fun y => q y.2, if_neg fun y => q y.2]
        omega
    · rw [if_neg (by omega : ¬ (S : Int) = 0), if_neg (by omega : ¬ ((S : Int) = 0 ∧ tK b n t = w))]
      by_cases k4 : tK b n t = 4
      · rw [if_pos k4]
        by_cases q : w' = w
        · rw [if_pos ⟨by omega, q⟩] at r
          rw [if_pos ⟨k4, q⟩, if_neg fun y => y.1 rfl]
          omega
        · rw [if_neg fun y => q y.2] at r
          rw [if_neg fun y => q y.2, if_neg fun y => q y.2]
          omega
      · rw [if_neg k4, if_neg fun y => k4 y.1]
        by_cases q : w' = w
        · rw [if_pos ⟨by omega, q⟩] at r
          rw [if_pos ⟨by omega, q⟩]
          omega
        · rw [if_neg fun y => q y.2] at r
          rw [if_neg fun y => q y.2]
          omega
theorem cnt_mst {b : Nat → Int} {n : Nat} {w : Int} (hw : 7 ≤ w ∧ w ≤ 14) : ∀ {t : Nat}, OKp b n t → cntW b n w t ≤ mst w
  | 0, _ => by
    have := its_b hw
    show (0 : Int) ≤ _
    omega
  | t + 1, h => by
    have r := cnt_mst hw (h.le (Nat.le_succ t))
    obtain ⟨h1, h2, h3⟩ := h t (by omega)
    rw [cntW_s]
    split
    · rename_i c
      have : ¬ (mst (tK b n t) < cntW b n (tK b n t) t + 1) := fun y => h3 (Or.inr ⟨c.1, y⟩)
      rw [c.2] at this
      omega
    · omega
/-- before the last sign: one less than the most -/
theorem cS_lt {b : Nat → Int} {n t : Nat} {w : Int} (h : OKp b n t) (hw : 7 ≤ w ∧ w ≤ 14) (e2 : (aut b n t).2 ≠ 0) (e1 : (aut b n t).1 = w) : ((cS b n w t : Nat) : Int) + 1 ≤ mst w := by
  have r := cnt_cS (w := w) h
  have r2 := cnt_mst hw h
  rw [if_pos ⟨e2, e1⟩] at r
  omega
theorem cS_le {b : Nat → Int} {n t : Nat} {w : Int} (h : OKp b n t) (hw : 7 ≤ w ∧ w ≤ 14) : ((cS b n w t : Nat) : Int) ≤ mst w := by
  have r := cnt_cS (w := w) h
  have r2 := cnt_mst hw h
  split at r <;> omega
/-- the map that is told, in two ways -/
theorem mp_nS {b : Nat → Int} {n : Nat} : ∀ {t : Nat}, OKp b n t → ∀ w S, Pth b n t w S → mpT b n t = (if S ≠ 0 ∧ w = 11 then (tV b n (t - S + 1), tV b n (t - S + 2)) else (nS b n 11 2 20 t, nS b n 11 1 20 t))
  | 0, _, w, S, hp => by
    have : S = 0 := by
      have := hp.2
      omega
    rw [if_neg fun y => y.1 this]
    rfl
  | t + 1, h, w', S', hp' => by
    obtain ⟨w, S, hp⟩ := path (h.le (Nat.le_succ t))
    have r := mp_nS (h.le (Nat.le_succ t)) w S hp
    obtain ⟨h1, h2, h3⟩ := h t (by omega)
    have g := Classical.not_not.mp h2
    obtain ⟨e, hq⟩ := hp
    have e' := hp'.1
    unfold wNow at g
    rw [aut_s, e] at e'
    rw [e] at g
    rw [mpT_s, nS_s, nS_s, e]
    simp only [] at g e' ⊢
    rw [Prod.mk.injEq] at e'
    obtain ⟨e1, e2⟩ := e'
    by_cases z : S = 0
    · subst z
      unfold gO at g
      rw [if_pos (by rfl)] at g e1
      rw [if_neg (by omega)] at e2
      rw [if_neg fun z => z.1 rfl] at r
      have s1 : S' = 1 := by omega
      subst s1
      rw [if_neg (by omega : ¬ (tK b n t = 4 ∧ w = 11)), if_neg (by omega : ¬ (tK b n t = 4 ∧ w = 11)), ← r]
      by_cases q : tK b n t = 11
      · rw [if_pos q, if_pos ⟨by decide, by omega⟩]
        rfl
      · rw [if_neg q, if_neg fun y => q (by omega)]
    · obtain ⟨w7, sm, st, -⟩ := hq.resolve_left z
      rw [if_neg (by omega)] at g e1
      subst e1
      have k11 : ¬ tK b n t = 11 := by
        unfold gO at g
        omega
      rw [if_neg k11, r]
      by_cases k4 : tK b n t = 4
      · rw [if_pos k4] at e2
        rw [if_neg (by omega : ¬ (S' ≠ 0 ∧ w = 11))]
        by_cases q : w = 11
        · subst q
          rw [if_pos ⟨z, rfl⟩, if_pos ⟨k4, rfl⟩, if_pos ⟨k4, rfl⟩]
          have : S = 3 := by
            unfold gO at g
            have a1 : nmd 11 = 0 := rfl
            have a2 : sid 11 = 0 := rfl
            have a3 : its 11 = 2 := rfl
            rw [a1, a2, a3] at g sm
            omega
          subst this
          rw [show t - 3 + 1 = t - 2 by omega, show t - 3 + 2 = t - 1 by omega]
        · rw [if_neg fun y => q y.2, if_neg fun y => q y.2, if_neg fun y => q y.2]
      · rw [if_neg k4] at e2
        have : S' = S + 1 := by omega
        subst this
        rw [if_neg (by omega : ¬ (tK b n t = 4 ∧ w = 11)), if_neg (by omega : ¬ (tK b n t = 4 ∧ w = 11)), show t + 1 - (S + 1) = t - S by omega]
        by_cases q : w = 11
        · rw [if_pos ⟨z, q⟩, if_pos ⟨by omega, q⟩]
        · rw [if_neg fun y => q y.2, if_neg fun y => q y.2]
theorem mp_end {b : Nat → Int} {n T : Nat} (h : OKp b n T) (h0 : (aut b n T).2 = 0) : mpT b n (T - 2) = (nS b n 11 2 20 T, nS b n 11 1 20 T) := by
  obtain ⟨w, S, hp⟩ := path h
  have r := mp_nS h w S hp
  have s0 : S = 0 := by
    have := hp.1
    rw [this] at h0
    simp only [] at h0
    omega
  rw [if_neg fun y => y.1 s0] at r
  rw [← r]
  -- the last two are no word
  have nl : ∀ u, u < T → (aut b n (u + 1)).2 = 0 → tK b n u = 4 := by
    intro u hu z
    rw [aut_s] at z
    simp only [] at z
    by_cases q : tK b n u = 4
    · exact q
    · rw [if_neg q] at z
      obtain ⟨w, S, e, -⟩ := path (h.le (by omega : u ≤ T))
      rw [e] at z
      simp only [] at z
      omega
  by_cases q : T = 0
  · subst q; rfl
  · have k1 := nl (T - 1) (by omega) (by rw [show T - 1 + 1 = T by omega]; exact h0)
    have st : mpT b n T = mpT b n (T - 1) := by
      have := mpT_s b n (T - 1)
      rw [show T - 1 + 1 = T by omega, if_neg (by omega)] at this
      exact this
    by_cases q1 : T = 1
    · subst q1; rw [st]
    · rw [st]
      have := mpT_s b n (T - 2)
      rw [show T - 2 + 1 = T - 1 by omega] at this
      rw [this]
      by_cases k : tK b n (T - 2) = 11
      · exfalso
        obtain ⟨-, h2, -⟩ := h (T - 1) (by omega)
        have g := Classical.not_not.mp h2
        obtain ⟨-, h2', -⟩ := h (T - 2) (by omega)
        have g' := Classical.not_not.mp h2'
        obtain ⟨w, S, e, -⟩ := path (h.le (by omega : T - 2 ≤ T))
        have ea := aut_s b n (T - 2)
        rw [show T - 2 + 1 = T - 1 by omega, e, k] at ea
        simp only [] at ea
        rw [if_neg (by decide : ¬ (11 : Int) = 4)] at ea
        unfold wNow at g g'
        rw [k1, ea] at g
        rw [e, k] at g'
        simp only [] at g g'
        by_cases z : (S : Int) = 0
        · rw [z, if_pos rfl, show (0 : Int) + 1 = 1 by decide, if_neg (by decide : ¬ (1 : Int) = 0)] at g
          unfold gO at g
          have a1 : nmd 11 = 0 := rfl
          have a2 : sid 11 = 0 := rfl
          have a3 : its 11 = 2 := rfl
          rw [a1, a2, a3] at g
          omega
        · unfold gO at g'
          omega
      · rw [if_neg k]
