/-! MAKERS, 2: the evaluator is sound -/
section SK2
variable {sc : Scr} {t : List (List (Nat × Row))} {rk : Nat} {B : Nat × Nat} {call : CallT} {P : Option AV → AS → Prop} {cs : Nat → List AV → SS → Option RtS}
theorem sS_ok (hcs : ∀ j as S r S', cs j as S = some (r, S') → ∀ P, P r (rl S') → call j as (rl S) P) {x : CS} {y : YS} (h : sS cs (look t) B x = some y) (hy : okY (stepE sc (look t) rk B) call P y) : Rp (stepE sc (look t) rk B) call P (rlc x) := by
  obtain ⟨pc, ls, st, S⟩ := x
  unfold sS at h
  cases hl : look t pc with
  | none =>
    rw [show look t (pc, ls, st, S).1 = none from hl] at h
    cases h
  | some row =>
    rw [show look t (pc, ls, st, S).1 = some row from hl] at h
    obtain ⟨ins, l, a, b, q⟩ := row
    show Rp (stepE sc (look t) rk B) call P (pc, ls, st, rl S)
    cases ins with
    | aload n =>
      obtain ⟨r, e, h⟩ := gA_i h
      cases h
      exact k_aload hl e hy
    | aload_n n =>
      obtain ⟨r, e, h⟩ := gA_i h
      cases h
      exact k_aload_n hl e hy
    | iload n =>
      obtain ⟨r, e, h⟩ := gI_i h
      cases h
      exact k_iload hl e hy
    | iload_n n =>
      obtain ⟨r, e, h⟩ := gI_i h
      cases h
      exact k_iload_n hl e hy
    | lload_n n =>
      obtain ⟨r, e, h⟩ := gJ_i h
      cases h
      exact k_lload_n hl e hy
    | iconst v =>
      cases h
      exact k_iconst hl hy
    | bipush v =>
      cases h
      exact k_bipush hl hy
    | sipush v =>
      cases h
      exact k_sipush hl hy
    | lconst v =>
      cases h
      refine Rp.intro ?_
      unfold stepE
      simp only [hl]
      exact hy
    | ldc2_w i =>
      cases h
      refine Rp.intro ?_
      unfold stepE
      simp only [hl]
      exact hy
    | istore_n n =>
      obtain ⟨x, r, e, h_⟩ := sI_i h
      clear h
      subst e
      have h := h_
      clear h_
      cases h
      refine Rp.intro ?_
      unfold stepE
      simp only [hl]
      exact hy
    | astore n =>
      obtain ⟨x, r, e, h_⟩ := sA_i h
      clear h
      subst e
      have h := h_
      clear h_
      cases h
      refine Rp.intro ?_
      unfold stepE
      simp only [hl]
      exact hy
    | astore_n n =>
      obtain ⟨x, r, e, h_⟩ := sA_i h
      clear h
      subst e
      have h := h_
      clear h_
      cases h
      refine Rp.intro ?_
      unfold stepE
      simp only [hl]
      exact hy
    | dup =>
      obtain ⟨x, r, e, h_⟩ := sA_i h
      clear h
      subst e
      have h := h_
      clear h_
      cases h
      exact k_dup_a hl hy
    | goto off =>
      cases h
      refine Rp.intro ?_
      unfold stepE
      simp only [hl]
      exact hy
    | arraylength =>
      obtain ⟨c, i, r, e, h_⟩ := sO_i h
      clear h
      subst e
      have h := h_
      clear h_
      obtain ⟨g, h⟩ := gd_i h
      cases h
      have g1 := and_l g
      have g2 := and_r g
      refine k_arraylength hl (by rw [g1, g2]; rfl) (x := ((slen c i : Nat) : Int)) ?_ hy
      have g3 : Nat.ble 100 c = false := by
        cases q : Nat.ble 100 c with
        | false => rfl
        | true =>
          have := Nat.le_of_ble_eq_true q
          have := blt_lt g2
          omega
      unfold alen
      rw [g3]
    | if_icmp cd off =>
      obtain ⟨y2, st1, e, h_⟩ := sI_i h
      clear h
      subst e
      have h := h_
      clear h_
      obtain ⟨x, r, e, h_⟩ := sI_i h
      clear h
      subst e
      have h := h_
      clear h_
      refine Rp.intro ?_
      unfold stepE
      simp only [hl]
      exact icS_ok h hy
    | ifCond cd off =>
      obtain ⟨x, r, e, h_⟩ := sI_i h
      clear h
      subst e
      have h := h_
      clear h_
      refine Rp.intro ?_
      unfold stepE
      simp only [hl]
      exact icS_ok h hy
    | iinc n k =>
      obtain ⟨x, e, h⟩ := gI_i h
      obtain ⟨g, h⟩ := gd_i h
      cases h
      refine Rp.intro ?_
      unfold stepE
      simp only [hl]
      rw [e]
      exact ⟨of_decide_eq_true g, hy⟩
    | iadd =>
      obtain ⟨y2, st1, e, h_⟩ := sI_i h
      clear h
      subst e
      have h := h_
      clear h_
      obtain ⟨x, r, e, h_⟩ := sI_i h
      clear h
      subst e
      have h := h_
      clear h_
      obtain ⟨g, h⟩ := gd_i h
      cases h
      exact k_iadd hl (of_decide_eq_true g) hy
    | isub =>
      obtain ⟨y2, st1, e, h_⟩ := sI_i h
      clear h
      subst e
      have h := h_
      clear h_
      obtain ⟨x, r, e, h_⟩ := sI_i h
      clear h
      subst e
      have h := h_
      clear h_
      obtain ⟨g, h⟩ := gd_i h
      cases h
      exact k_isub hl (of_decide_eq_true g) hy
    | imul =>
      obtain ⟨y2, st1, e, h_⟩ := sI_i h
      clear h
      subst e
      have h := h_
      clear h_
      obtain ⟨x, r, e, h_⟩ := sI_i h
      clear h
      subst e
      have h := h_
      clear h_
      obtain ⟨g, h⟩ := gd_i h
      cases h
      exact k_imul hl (of_decide_eq_true g) hy
    | ladd =>
      obtain ⟨y2, st1, e, h_⟩ := sJ_i h
      clear h
      subst e
      have h := h_
      clear h_
      obtain ⟨x, r, e, h_⟩ := sJ_i h
      clear h
      subst e
      have h := h_
      clear h_
      obtain ⟨g, h⟩ := gd_i h
      cases h
      exact k_ladd hl (of_decide_eq_true g) hy
    | lmul =>
      obtain ⟨y2, st1, e, h_⟩ := sJ_i h
      clear h
      subst e
      have h := h_
      clear h_
      obtain ⟨x, r, e, h_⟩ := sJ_i h
      clear h
      subst e
      have h := h_
      clear h_
      obtain ⟨g, h⟩ := gd_i h
      cases h
      exact k_lmul hl (of_decide_eq_true g) hy
    | i2l =>
      obtain ⟨x, r, e, h_⟩ := sI_i h
      clear h
      subst e
      have h := h_
      clear h_
      cases h
      exact k_i2l hl hy
    | getfield n =>
      obtain ⟨c, i, r, e, h_⟩ := sO_i h
      clear h
      subst e
      have h := h_
      clear h_
      obtain ⟨g, h⟩ := gd_i h
      cases h
      have g1 := and_l g
      have g2 := blt_lt (and_l (and_r g))
      refine k_getfield_a hl g1 ?_ (and_r (and_r g)) rfl hy
      cases q : Nat.beq c 100 with
      | false => rfl
      | true =>
        have := Nat.eq_of_beq_eq_true q
        omega
    | putfield n =>
      have h : put1 a b (pc + l) ls st S = some y := h
      unfold put1 at h
      cases b4 : Nat.beq (b % 8) 4 with
      | true =>
        rw [b4] at h
        obtain ⟨r, st1, e, h_⟩ := sA_i h
        clear h
        subst e
        have h := h_
        clear h_
        obtain ⟨c, i, rs, e, h_⟩ := sO_i h
        clear h
        subst e
        have h := h_
        clear h_
        obtain ⟨g, h⟩ := gd_i h
        cases h
        exact k_putfield_a hl g b4 hy
      | false =>
        rw [b4] at h
        cases b3 : Nat.beq (b % 8) 3 with
        | true =>
          rw [b3] at h
          obtain ⟨r, st1, e, h_⟩ := sJ_i h
          clear h
          subst e
          have h := h_
          clear h_
          obtain ⟨c, i, rs, e, h_⟩ := sO_i h
          clear h
          subst e
          have h := h_
          clear h_
          obtain ⟨g, h⟩ := gd_i h
          cases h
          exact k_putfield_l hl g b4 b3 hy
        | false =>
          rw [b3] at h
          cases b1 : Nat.beq (b % 8) 1 with
          | true =>
            rw [b1] at h
            obtain ⟨r, st1, e, h_⟩ := sI_i h
            clear h
            subst e
            have h := h_
            clear h_
            obtain ⟨c, i, rs, e, h_⟩ := sO_i h
            clear h
            subst e
            have h := h_
            clear h_
            obtain ⟨g, h⟩ := gd_i h
            cases h
            exact k_putfield_z hl (and_l g) b4 b3 b1 (of_decide_eq_true (and_r g)) hy
          | false =>
            rw [b1] at h
            obtain ⟨r, st1, e, h_⟩ := sI_i h
            clear h
            subst e
            have h := h_
            clear h_
            obtain ⟨c, i, rs, e, h_⟩ := sO_i h
            clear h
            subst e
            have h := h_
            clear h_
            obtain ⟨g, h⟩ := gd_i h
            cases h
            exact k_putfield_i hl g b4 b3 b1 hy
    | iastore =>
      obtain ⟨x, st0, e, h_⟩ := sI_i h
      clear h
      subst e
      have h := h_
      clear h_
      obtain ⟨j, st1, e, h_⟩ := sI_i h
      clear h
      subst e
      have h := h_
      clear h_
      obtain ⟨c, i, r, e, h_⟩ := sO_i h
      clear h
      subst e
      have h := h_
      clear h_
      obtain ⟨g1, h⟩ := gd_i h
      obtain ⟨g2, h⟩ := gd_i h
      cases h
      exact k_iastore hl g1 rfl (of_decide_eq_true g2) hy
    | lastore =>
      obtain ⟨x, st0, e, h_⟩ := sJ_i h
      clear h
      subst e
      have h := h_
      clear h_
      obtain ⟨j, st1, e, h_⟩ := sI_i h
      clear h
      subst e
      have h := h_
      clear h_
      obtain ⟨c, i, r, e, h_⟩ := sO_i h
      clear h
      subst e
      have h := h_
      clear h_
      obtain ⟨g1, h⟩ := gd_i h
      obtain ⟨g2, h⟩ := gd_i h
      cases h
      exact k_lastore hl g1 rfl (of_decide_eq_true g2) hy
    | bastore =>
      obtain ⟨x, st0, e, h_⟩ := sI_i h
      clear h
      subst e
      have h := h_
      clear h_
      obtain ⟨j, st1, e, h_⟩ := sI_i h
      clear h
      subst e
      have h := h_
      clear h_
      obtain ⟨c, i, r, e, h_⟩ := sO_i h
      clear h
      subst e
      have h := h_
      clear h_
      obtain ⟨g1, h⟩ := gd_i h
      obtain ⟨g2, h⟩ := gd_i h
      cases h
      exact k_bastore_z hl (and_l g1) (and_r g1) rfl (of_decide_eq_true g2) hy
    | aastore =>
      obtain ⟨c2, i2, st0, e, h_⟩ := sO_i h
      clear h
      subst e
      have h := h_
      clear h_
      obtain ⟨j, st1, e, h_⟩ := sI_i h
      clear h
      subst e
      have h := h_
      clear h_
      obtain ⟨c, i, r, e, h_⟩ := sO_i h
      clear h
      subst e
      have h := h_
      clear h_
      obtain ⟨g1, h⟩ := gd_i h
      obtain ⟨g2, h⟩ := gd_i h
      cases h
      exact k_aastore hl g1 rfl (of_decide_eq_true g2) hy
    | aaload =>
      obtain ⟨j, st1, e, h_⟩ := sI_i h
      clear h
      subst e
      have h := h_
      clear h_
      obtain ⟨c, i, r, e, h_⟩ := sO_i h
      clear h
      subst e
      have h := h_
      clear h_
      obtain ⟨g1, h⟩ := gd_i h
      obtain ⟨g2, h⟩ := gd_i h
      cases h
      exact k_aaload hl g1 rfl (of_decide_eq_true g2) hy
    | new n =>
      have h := (frcN_e _ _).symm.trans h
      obtain ⟨g, h⟩ := gd_i h
      cases h
      have g := of_decide_eq_true g
      exact k_new hl g hy
    | newarray ty =>
      have h : arS_ B a (pc + l) ls st S = some y := h
      unfold arS_ at h
      obtain ⟨x, r, e, h_⟩ := sI_i h
      clear h
      subst e
      have h := h_
      clear h_
      rw [frcN_e] at h
      obtain ⟨g, h⟩ := gd_i h
      cases h
      have g := of_decide_eq_true g
      exact k_newarray hl g hy
    | anewarray n =>
      have h : arS_ B a (pc + l) ls st S = some y := h
      unfold arS_ at h
      obtain ⟨x, r, e, h_⟩ := sI_i h
      clear h
      subst e
      have h := h_
      clear h_
      rw [frcN_e] at h
      obtain ⟨g, h⟩ := gd_i h
      cases h
      have g := of_decide_eq_true g
      exact k_anewarray hl g hy
    | invokespecial n =>
      have h : (match Nat.beq a 999999 with | true => sO st fun _ _ r => gd (Nat.ble (cats r) 8) (some (.inl (pc + l, ls, r, S))) | false => invS_ cs B a b pc ls st S) = some y := h
      refine Rp.intro ?_
      unfold stepE
      simp only [hl]
      cases a9 : Nat.beq a 999999 with
      | true =>
        rw [a9] at h
        obtain ⟨c, i, r, e, h_⟩ := sO_i h
        clear h
        subst e
        have h := h_
        clear h_
        obtain ⟨g, h⟩ := gd_i h
        cases h
        show wE call P _ (when (rl S) (Nat.ble (cats r) 8) (nx (pc + l) ls r (rl S)))
        rw [g]
        exact hy
      | false =>
        rw [a9] at h
        exact invS_ok hcs h hy
    | invokevirtual n =>
      refine Rp.intro ?_
      unfold stepE
      simp only [hl]
      exact invS_ok hcs h hy
    | invokestatic n =>
      obtain ⟨g, h⟩ := gd_i h
      refine Rp.intro ?_
      unfold stepE
      simp only [hl]
      show wE call P _ (invS B a b pc ls st (rl S))
      unfold invS
      rw [g]
      exact cSS_ok hcs h hy
    | lreturn =>
      obtain ⟨x, r, e, h_⟩ := sJ_i h
      clear h
      subst e
      have h := h_
      clear h_
      cases r with
      | nil =>
        cases h
        exact k_lreturn hl hy
      | cons v r => cases h
    | return_ =>
      cases st with
      | nil =>
        have h : (some (.inr (none, S)) : Option YS) = some y := h
        cases h
        exact k_return_ hl hy
      | cons v r =>
        have h : (none : Option YS) = some y := h
        cases h
    | _ =>
      have h : (none : Option YS) = some y := h
      cases h
def rnS (cs : Nat → List AV → SS → Option RtS) (code : Nat → Option Row) (B : Nat × Nat) : Nat → CS → Option RtS
  | 0, _ => none
  | n + 1, x => match sS cs code B x with
    | some (.inl y) => rnS cs code B n y
    | some (.inr r) => some r
    | none => none
theorem rnS_ok (hcs : ∀ j as S r S', cs j as S = some (r, S') → ∀ P, P r (rl S') → call j as (rl S) P) : ∀ (n : Nat) (x : CS) (r : Option AV) (S' : SS), rnS cs (look t) B n x = some (r, S') → P r (rl S') → Rp (stepE sc (look t) rk B) call P (rlc x)
  | 0, _, _, _, h, _ => by cases h
  | n + 1, x, r, S', h, hP => by
    unfold rnS at h
    cases e : sS cs (look t) B x with
    | none => rw [e] at h; cases h
    | some y =>
      rw [e] at h
      cases y with
      | inl z => exact sS_ok hcs e (rnS_ok hcs n z r S' h hP)
      | inr q =>
        have h : some q = some (r, S') := h
        cases h
        exact sS_ok hcs e hP
/-- so many steps -/
def stpN (cs : Nat → List AV → SS → Option RtS) (code : Nat → Option Row) (B : Nat × Nat) : Nat → CS → Option CS
  | 0, x => some x
  | n + 1, x => match sS cs code B x with
    | some (.inl y) => stpN cs code B n y
    | _ => none
theorem stpN_ok (hcs : ∀ j as S r S', cs j as S = some (r, S') → ∀ P, P r (rl S') → call j as (rl S) P) : ∀ (n : Nat) (x y : CS), stpN cs (look t) B n x = some y → Rp (stepE sc (look t) rk B) call P (rlc y) → Rp (stepE sc (look t) rk B) call P (rlc x)
  | 0, x, y, h, k => by
    have h : some x = some y := h
    cases h
    exact k
  | n + 1, x, y, h, k => by
    unfold stpN at h
    cases e : sS cs (look t) B x with
    | none => rw [e] at h; cases h
    | some z =>
      rw [e] at h
      cases z with
      | inl z => exact sS_ok hcs e (stpN_ok hcs n z y h k)
      | inr q => cases h
end SK2
def evS : Nat → Nat → List AV → SS → Option RtS
  | 0, _, _, _ => none
  | d + 1, j, as, S => match Nat.ble (argL as).length (mL j) with
    | true => rnS (evS d) (look (mT j)) (bud j) 2000 (0, entL (mL j) as, [], S)
    | false => none
theorem evS_ok {sc : Scr} : ∀ (d j : Nat) (as : List AV) (S : SS) (r : Option AV) (S' : SS), evS d j as S = some (r, S') → ∀ P : Option AV → AS → Prop, P r (rl S') → RM sc d j as (rl S) P
  | 0, _, _, _, _, _, h, _, _ => by cases h
  | d + 1, j, as, S, r, S', h, P, hP => by
    unfold evS at h
    cases e : Nat.ble (argL as).length (mL j) with
    | false => rw [e] at h; cases h
    | true =>
      rw [e] at h
      exact ⟨Nat.le_of_ble_eq_true e, rnS_ok (fun j as S r S' h P hP => evS_ok d j as S r S' h P hP) 2000 _ r S' h hP⟩
