/-! MAKERS, 1: an evaluator over logs, and that it is sound -/
abbrev Ev : Type := Nat ⊕ ((Nat × Nat × Nat × AR) ⊕ (Nat × Nat × Nat × Int))
abbrev SS : Type := Acc × List Ev
def cntL : List Ev → Nat → Nat
  | [] => fun _ => 0
  | .inl u :: L => inc (cntL L) u
  | .inr _ :: L => cntL L
def rfL : List Ev → Rfs
  | [] => rF
  | .inl u :: L => zrR (rfL L) u (cntL L u)
  | .inr (.inl q) :: L => wrR (rfL L) q.1 q.2.1 q.2.2.1 q.2.2.2
  | .inr (.inr _) :: L => rfL L
def muL : List Ev → Mem
  | [] => fun _ _ _ => 0
  | .inl u :: L => zr (muL L) u (cntL L u)
  | .inr (.inl _) :: L => muL L
  | .inr (.inr q) :: L => wr (muL L) q.1 q.2.1 q.2.2.1 q.2.2.2
def rl (S : SS) : AS := (S.1, cntL S.2, rfL S.2, muL S.2)
abbrev CS : Type := Nat × List AV × List AV × SS
abbrev RtS : Type := Option AV × SS
def rlc (x : CS) : Cfg := (x.1, x.2.1, x.2.2.1, rl x.2.2.2)
abbrev YS : Type := CS ⊕ RtS
def gd (b : Bool) (o : Option YS) : Option YS := match b with
  | true => o
  | false => none
theorem gd_i {b : Bool} {o : Option YS} {y : YS} (h : gd b o = some y) : b = true ∧ o = some y := by
  cases b with
  | true => exact ⟨rfl, h⟩
  | false => cases h
def gI (v : AV) (f : Int → Option YS) : Option YS := match v with
  | .inl x => f x
  | _ => none
theorem gI_i {v : AV} {f : Int → Option YS} {y : YS} (h : gI v f = some y) : ∃ x, v = .inl x ∧ f x = some y := by
  rcases v with x | x | x | x
  · exact ⟨x, rfl, h⟩
  all_goals cases h
def gJ (v : AV) (f : Int → Option YS) : Option YS := match v with
  | .inr (.inl x) => f x
  | _ => none
theorem gJ_i {v : AV} {f : Int → Option YS} {y : YS} (h : gJ v f = some y) : ∃ x, v = .inr (.inl x) ∧ f x = some y := by
  rcases v with x | x | x | x
  · cases h
  · exact ⟨x, rfl, h⟩
  all_goals cases h
def gA (v : AV) (f : AR → Option YS) : Option YS := match v with
  | .inr (.inr (.inl x)) => f x
  | _ => none
theorem gA_i {v : AV} {f : AR → Option YS} {y : YS} (h : gA v f = some y) : ∃ x, v = .inr (.inr (.inl x)) ∧ f x = some y := by
  rcases v with x | x | x | x
  · cases h
  · cases h
  · exact ⟨x, rfl, h⟩
  · cases h
def sI (st : List AV) (f : Int → List AV → Option YS) : Option YS := match st with
  | v :: r => gI v fun x => f x r
  | [] => none
theorem sI_i {st : List AV} {f : Int → List AV → Option YS} {y : YS} (h : sI st f = some y) : ∃ x r, st = .inl x :: r ∧ f x r = some y := by
  cases st with
  | nil => cases h
  | cons v r =>
    obtain ⟨x, rfl, h⟩ := gI_i (f := fun x => f x r) h
    exact ⟨x, r, rfl, h⟩
def sJ (st : List AV) (f : Int → List AV → Option YS) : Option YS := match st with
  | v :: r => gJ v fun x => f x r
  | [] => none
theorem sJ_i {st : List AV} {f : Int → List AV → Option YS} {y : YS} (h : sJ st f = some y) : ∃ x r, st = .inr (.inl x) :: r ∧ f x r = some y := by
  cases st with
  | nil => cases h
  | cons v r =>
    obtain ⟨x, rfl, h⟩ := gJ_i (f := fun x => f x r) h
    exact ⟨x, r, rfl, h⟩
def sA (st : List AV) (f : AR → List AV → Option YS) : Option YS := match st with
  | v :: r => gA v fun x => f x r
  | [] => none
theorem sA_i {st : List AV} {f : AR → List AV → Option YS} {y : YS} (h : sA st f = some y) : ∃ x r, st = .inr (.inr (.inl x)) :: r ∧ f x r = some y := by
  cases st with
  | nil => cases h
  | cons v r =>
    obtain ⟨x, rfl, h⟩ := gA_i (f := fun x => f x r) h
    exact ⟨x, r, rfl, h⟩
def gN (x : AR) (f : Nat → Nat → Option YS) : Option YS := match x with
  | some q => f q.1 q.2
  | none => none
theorem gN_i {x : AR} {f : Nat → Nat → Option YS} {y : YS} (h : gN x f = some y) : ∃ c i, x = some (c, i) ∧ f c i = some y := by
  cases x with
  | none => cases h
  | some q => exact ⟨q.1, q.2, rfl, h⟩
def sO (st : List AV) (f : Nat → Nat → List AV → Option YS) : Option YS := sA st fun x r => gN x fun c i => f c i r
theorem sO_i {st : List AV} {f : Nat → Nat → List AV → Option YS} {y : YS} (h : sO st f = some y) : ∃ c i r, st = .inr (.inr (.inl (some (c, i)))) :: r ∧ f c i r = some y := by
  unfold sO at h
  obtain ⟨x, r, e, h_⟩ := sA_i h
  clear h
  subst e
  have h := h_
  clear h_
  obtain ⟨c, i, e, h_⟩ := gN_i h
  clear h
  subst e
  have h := h_
  clear h_
  exact ⟨c, i, r, rfl, h⟩
def gS (o : Option RtS) (f : Option AV → SS → Option YS) : Option YS := match o with
  | some q => f q.1 q.2
  | none => none
theorem gS_i {o : Option RtS} {f : Option AV → SS → Option YS} {y : YS} (h : gS o f = some y) : ∃ r S, o = some (r, S) ∧ f r S = some y := by
  cases o with
  | none => cases h
  | some q => exact ⟨q.1, q.2, rfl, h⟩
def cSS (cs : Nat → List AV → SS → Option RtS) (B : Nat × Nat) (j : Nat) (as rest : List AV) (pc : Nat) (ls : List AV) (S : SS) : Option YS :=
  gd (Nat.ble (cats rest) 8) (match Nat.beq (bud j).1 0 && Nat.beq (bud j).2 0 with
    | true => gS (cs j as ((S.1.1, 0, 0), S.2)) fun r S' => some (.inl (pc + 3, ls, r.toList ++ rest, ((S'.1.1, S.1.2), S'.2)))
    | false => gd (Nat.ble (S.1.2.1 + (bud j).1) B.1 && Nat.ble (S.1.2.2 + (bud j).2) B.2) (gS (cs j as ((S.1.1, 0, 0), S.2)) fun r S' => some (.inl (pc + 3, ls, r.toList ++ rest, ((S'.1.1, S.1.2.1 + (bud j).1, S.1.2.2 + (bud j).2), S'.2)))))
def invS_ (cs : Nat → List AV → SS → Option RtS) (B : Nat × Nat) (a b pc : Nat) (ls st : List AV) (S : SS) : Option YS :=
  gd (Nat.ble b st.length) (sO (st.drop b) fun c i rest => gd (Nat.beq c (a / 1000)) (cSS cs B a (.inr (.inr (.inl (some (c, i)))) :: (st.take b).reverse) rest pc ls S))
def frcN {α : Type} (n : Nat) (f : Nat → α) : α := match n with
  | 0 => f 0
  | m + 1 => f (m + 1)
theorem frcN_e {α : Type} (n : Nat) (f : Nat → α) : frcN n f = f n := by cases n <;> rfl
def arS_ (B : Nat × Nat) (a pc : Nat) (ls st : List AV) (S : SS) : Option YS := sI st fun x r => frcN (cntL S.2 a) fun i => gd (decide (x = ((slen a i : Nat) : Int) ∧ S.1.2.1 + 1 ≤ B.1 ∧ S.1.2.2 + slen a i ≤ B.2 ∧ i < cF a ∧ ord a i = S.1.1)) (some (.inl (pc, ls, .inr (.inr (.inl (some (a, i)))) :: r, ((S.1.1 + 1, S.1.2.1 + 1, S.1.2.2 + slen a i), .inl a :: S.2))))
def put1 (a b pc : Nat) (ls st : List AV) (S : SS) : Option YS := match Nat.beq (b % 8) 4 with
  | true => sA st fun r st1 => sO st1 fun c i rs => gd (Nat.beq c a) (some (.inl (pc, ls, rs, (S.1, .inr (.inl (c, i, b / 8, r)) :: S.2))))
  | false => match Nat.beq (b % 8) 3 with
    | true => sJ st fun x st1 => sO st1 fun c i rs => gd (Nat.beq c a) (some (.inl (pc, ls, rs, (S.1, .inr (.inr (c, i, b / 8, x)) :: S.2))))
    | false => match Nat.beq (b % 8) 1 with
      | true => sI st fun x st1 => sO st1 fun c i rs => gd (Nat.beq c a && decide (x = 0 ∨ x = 1)) (some (.inl (pc, ls, rs, (S.1, .inr (.inr (c, i, b / 8, x)) :: S.2))))
      | false => sI st fun x st1 => sO st1 fun c i rs => gd (Nat.beq c a) (some (.inl (pc, ls, rs, (S.1, .inr (.inr (c, i, b / 8, x)) :: S.2))))
def icS (cd : ClassFile.Cond) (p q : Nat) (x y : Int) (ls r : List AV) (S : SS) : Option YS := match cd with
  | .ge => some (.inl ((match decide (y ≤ x) with | true => p | false => q), ls, r, S))
  | .ne => some (.inl ((match decide (x = y) with | true => q | false => p), ls, r, S))
  | _ => none
def sS (cs : Nat → List AV → SS → Option RtS) (code : Nat → Option Row) (B : Nat × Nat) (x : CS) : Option YS :=
  match code x.1 with
  | none => none
  | some (ins, len, a, b, _) =>
    let pc := x.1
    let ls := x.2.1
    let st := x.2.2.1
    let S := x.2.2.2
    match ins with
    | .aload n => gA (nth ls n) fun r => some (.inl (pc + len, ls, .inr (.inr (.inl r)) :: st, S))
    | .aload_n n => gA (nth ls n.val) fun r => some (.inl (pc + len, ls, .inr (.inr (.inl r)) :: st, S))
    | .iload n => gI (nth ls n) fun x => some (.inl (pc + len, ls, .inl x :: st, S))
    | .iload_n n => gI (nth ls n.val) fun x => some (.inl (pc + len, ls, .inl x :: st, S))
    | .lload_n n => gJ (nth ls n.val) fun x => some (.inl (pc + len, ls, .inr (.inl x) :: st, S))
    | .iconst v => some (.inl (pc + len, ls, .inl v :: st, S))
    | .bipush v => some (.inl (pc + len, ls, .inl v :: st, S))
    | .sipush v => some (.inl (pc + len, ls, .inl v :: st, S))
    | .lconst v => some (.inl (pc + len, ls, .inr (.inl ((v.val : Nat) : Int)) :: st, S))
    | .ldc2_w _ => some (.inl (pc + len, ls, .inr (.inl (negOf a b)) :: st, S))
    | .istore_n n => sI st fun x r => some (.inl (pc + len, lput ls n.val (.inl x), r, S))
    | .astore n => sA st fun x r => some (.inl (pc + len, lput ls n (.inr (.inr (.inl x))), r, S))
    | .astore_n n => sA st fun x r => some (.inl (pc + len, lput ls n.val (.inr (.inr (.inl x))), r, S))
    | .dup => sA st fun x r => some (.inl (pc + len, ls, .inr (.inr (.inl x)) :: .inr (.inr (.inl x)) :: r, S))
    | .goto off => some (.inl (tgt pc off, ls, st, S))
    | .arraylength => sO st fun c i r => gd (Nat.ble 20 c && Nat.blt c 100) (some (.inl (pc + len, ls, .inl ((slen c i : Nat) : Int) :: r, S)))
    | .if_icmp cd off => sI st fun y st1 => sI st1 fun x r => icS cd (tgt pc off) (pc + len) x y ls r S
    | .ifCond cd off => sI st fun x r => icS cd (tgt pc off) (pc + len) x 0 ls r S
    | .iinc n k => gI (nth ls n) fun x => gd (decide (InI (x + k))) (some (.inl (pc + len, lput ls n (.inl (x + k)), st, S)))
    | .iadd => sI st fun y st1 => sI st1 fun x r => gd (decide (InI (x + y))) (some (.inl (pc + len, ls, .inl (x + y) :: r, S)))
    | .isub => sI st fun y st1 => sI st1 fun x r => gd (decide (InI (x - y))) (some (.inl (pc + len, ls, .inl (x - y) :: r, S)))
    | .imul => sI st fun y st1 => sI st1 fun x r => gd (decide (InI (x * y))) (some (.inl (pc + len, ls, .inl (x * y) :: r, S)))
    | .ladd => sJ st fun y st1 => sJ st1 fun x r => gd (decide (InL (x + y))) (some (.inl (pc + len, ls, .inr (.inl (x + y)) :: r, S)))
    | .lmul => sJ st fun y st1 => sJ st1 fun x r => gd (decide (InL (x * y))) (some (.inl (pc + len, ls, .inr (.inl (x * y)) :: r, S)))
    | .i2l => sI st fun x r => some (.inl (pc + len, ls, .inr (.inl x) :: r, S))
    | .getfield _ => sO st fun c i r => gd (Nat.beq c a && (Nat.blt c 100 && Nat.beq (b % 8) 4)) (some (.inl (pc + len, ls, .inr (.inr (.inl (rfL S.2 c i (b / 8)))) :: r, S)))
    | .putfield _ => put1 a b (pc + len) ls st S
    | .iastore => sI st fun x st0 => sI st0 fun j st1 => sO st1 fun c i r => gd (Nat.blt c 100 && (Nat.ble 20 c && Nat.beq (aty c) 0)) (gd (decide (0 ≤ j ∧ j < ((slen c i : Nat) : Int))) (some (.inl (pc + len, ls, r, (S.1, .inr (.inr (c, i, j.toNat, x)) :: S.2)))))
    | .lastore => sJ st fun x st0 => sI st0 fun j st1 => sO st1 fun c i r => gd (Nat.blt c 100 && Nat.beq (aty c) 3) (gd (decide (0 ≤ j ∧ j < ((slen c i : Nat) : Int))) (some (.inl (pc + len, ls, r, (S.1, .inr (.inr (c, i, j.toNat, x)) :: S.2)))))
    | .bastore => sI st fun x st0 => sI st0 fun j st1 => sO st1 fun c i r => gd (Nat.blt c 100 && Nat.beq (aty c) 1) (gd (decide ((0 ≤ j ∧ j < ((slen c i : Nat) : Int)) ∧ (x = 0 ∨ x = 1))) (some (.inl (pc + len, ls, r, (S.1, .inr (.inr (c, i, j.toNat, x)) :: S.2)))))
    | .aastore => sO st fun c2 i2 st0 => sI st0 fun j st1 => sO st1 fun c i r => gd (Nat.blt c 100 && ((Nat.beq (aty c) 4 && Nat.beq c2 9) || (Nat.beq (aty c) 5 && Nat.beq c2 6))) (gd (decide (0 ≤ j ∧ j < ((slen c i : Nat) : Int))) (some (.inl (pc + len, ls, r, (S.1, .inr (.inl (c, i, j.toNat, some (c2, i2))) :: S.2)))))
    | .aaload => sI st fun j st1 => sO st1 fun c i r => gd (Nat.blt c 100 && Nat.ble 4 (aty c)) (gd (decide (0 ≤ j ∧ j < ((slen c i : Nat) : Int))) (some (.inl (pc + len, ls, .inr (.inr (.inl (rfL S.2 c i j.toNat))) :: r, S))))
    | .new _ => frcN (cntL S.2 a) fun i => gd (decide (S.1.2.1 + 1 ≤ B.1 ∧ S.1.2.2 + nfl a ≤ B.2 ∧ i < cF a ∧ ord a i = S.1.1)) (some (.inl (pc + len, ls, .inr (.inr (.inl (some (a, i)))) :: st, ((S.1.1 + 1, S.1.2.1 + 1, S.1.2.2 + nfl a), .inl a :: S.2))))
    | .newarray _ => arS_ B a (pc + len) ls st S
    | .anewarray _ => arS_ B a (pc + len) ls st S
    | .invokespecial _ => (match Nat.beq a 999999 with
      | true => sO st fun _ _ r => gd (Nat.ble (cats r) 8) (some (.inl (pc + len, ls, r, S)))
      | false => invS_ cs B a b pc ls st S)
    | .invokevirtual _ => invS_ cs B a b pc ls st S
    | .invokestatic _ => gd (Nat.ble b st.length) (cSS cs B a (st.take b).reverse (st.drop b) pc ls S)
    | .lreturn => sJ st fun x r => (match r with | [] => some (.inr (some (.inr (.inl x)), S)) | _ => none)
    | .return_ => (match st with | [] => some (.inr (none, S)) | _ => none)
    | _ => none
section SK
variable {sc : Scr} {t : List (List (Nat × Row))} {rk : Nat} {B : Nat × Nat} {call : CallT} {P : Option AV → AS → Prop} {cs : Nat → List AV → SS → Option RtS}
def okY (stp : Cfg → Eff) (call : CallT) (P : Option AV → AS → Prop) : YS → Prop
  | .inl x => Rp stp call P (rlc x)
  | .inr q => P q.1 (rl q.2)
theorem cSS_ok {stp : Cfg → Eff} (hcs : ∀ j as S r S', cs j as S = some (r, S') → ∀ P, P r (rl S') → call j as (rl S) P) {j pc : Nat} {as rest ls : List AV} {S : SS} {y : YS} (h : cSS cs B j as rest pc ls S = some y) (hy : okY stp call P y) : wE call P (Rp stp call P) (callE B j as rest pc ls (rl S)) := by
  unfold cSS at h
  obtain ⟨h1, h⟩ := gd_i h
  unfold callE
  rw [h1]
  cases e : (Nat.beq (bud j).1 0 && Nat.beq (bud j).2 0) with
  | true =>
    rw [e] at h
    obtain ⟨r, S', e2, h⟩ := gS_i h
    cases h
    exact hcs _ _ _ _ _ e2 _ hy
  | false =>
    rw [e] at h
    obtain ⟨h2, h⟩ := gd_i h
    obtain ⟨r, S', e2, h⟩ := gS_i h
    cases h
    exact ⟨⟨Nat.le_of_ble_eq_true (and_l h2), Nat.le_of_ble_eq_true (and_r h2)⟩, hcs _ _ _ _ _ e2 _ hy⟩
theorem invS_ok {stp : Cfg → Eff} (hcs : ∀ j as S r S', cs j as S = some (r, S') → ∀ P, P r (rl S') → call j as (rl S) P) {a b pc : Nat} {st ls : List AV} {S : SS} {y : YS} (h : invS_ cs B a b pc ls st S = some y) (hy : okY stp call P y) : wE call P (Rp stp call P) (invE B a b pc ls st (rl S)) := by
  unfold invS_ at h
  obtain ⟨h1, h⟩ := gd_i h
  obtain ⟨c, i, rest, e, h⟩ := sO_i h
  obtain ⟨h2, h⟩ := gd_i h
  unfold invE
  rw [h1, e]
  show wE call P _ (when (rl S) (Nat.beq c (a / 1000)) _)
  rw [h2]
  exact cSS_ok hcs h hy
theorem icS_ok {cd : ClassFile.Cond} {stp : Cfg → Eff} {p q : Nat} {x y : Int} {ls r : List AV} {S : SS} {z : YS} (h : icS cd p q x y ls r S = some z) (hy : okY stp call P z) : wE call P (Rp stp call P) (br (cndI cd x y) p q ls r (rl S)) := by
  cases cd with
  | ge =>
    have h : some (Sum.inl ((match decide (y ≤ x) with | true => p | false => q), ls, r, S) : YS) = some z := h
    cases h
    by_cases g : y ≤ x
    · rw [decide_eq_true g] at hy
      exact ⟨fun _ => hy, fun n => absurd g n⟩
    · rw [decide_eq_false g] at hy
      exact ⟨fun n => absurd n g, fun _ => hy⟩
  | ne =>
    have h : some (Sum.inl ((match decide (x = y) with | true => q | false => p), ls, r, S) : YS) = some z := h
    cases h
    by_cases g : x = y
    · rw [decide_eq_true g] at hy
      exact ⟨fun n => absurd g n, fun _ => hy⟩
    · rw [decide_eq_false g] at hy
      exact ⟨fun _ => hy, fun n => absurd g n⟩
  | _ =>
    have h : (none : Option YS) = some z := h
    cases h
end SK
