/-! THE ABSTRACT MACHINE: values, states, effects, one instruction's effect, a method's weakest precondition -/
abbrev AR : Type := Option (Nat × Nat)
abbrev AV : Type := Int ⊕ (Int ⊕ (AR ⊕ Unit))
abbrev vi (a : Int) : AV := .inl a
abbrev vl (a : Int) : AV := .inr (.inl a)
abbrev vr (r : AR) : AV := .inr (.inr (.inl r))
abbrev vx : AV := .inr (.inr (.inr ()))
abbrev Mem : Type := Nat → Nat → Nat → Int
abbrev Rfs : Type := Nat → Nat → Nat → AR
abbrev Acc : Type := Nat × Nat × Nat
abbrev AS : Type := Acc × (Nat → Nat) × Rfs × Mem
abbrev Cfg : Type := Nat × List AV × List AV × AS
abbrev Out : Type := Cfg ⊕ ((Option AV × AS) ⊕ (Nat × List AV × AS × (Option AV → AS → Cfg)))
abbrev Eff : Type := Option Prop × (Out ⊕ List (Prop × Out))
abbrev Row : Type := Instr × Nat × Nat × Nat × Nat
abbrev CallT : Type := Nat → List AV → AS → (Option AV → AS → Prop) → Prop
abbrev InI (a : Int) : Prop := -2147483648 ≤ a ∧ a ≤ 2147483647
abbrev InL (a : Int) : Prop := -9223372036854775808 ≤ a ∧ a ≤ 9223372036854775807
def wO (call : CallT) (post : Option AV → AS → Prop) (k : Cfg → Prop) : Out → Prop
  | .inl y => k y
  | .inr (.inl q) => post q.1 q.2
  | .inr (.inr q) => call q.1 q.2.1 q.2.2.1 (fun r σ => k (q.2.2.2 r σ))
def wL (call : CallT) (post : Option AV → AS → Prop) (k : Cfg → Prop) : List (Prop × Out) → Prop
  | [] => False
  | [q] => q.1 → wO call post k q.2
  | q :: q2 :: t => (q.1 → wO call post k q.2) ∧ wL call post k (q2 :: t)
def wB (call : CallT) (post : Option AV → AS → Prop) (k : Cfg → Prop) : (Out ⊕ List (Prop × Out)) → Prop
  | .inl o => wO call post k o
  | .inr t => wL call post k t
def wE (call : CallT) (post : Option AV → AS → Prop) (k : Cfg → Prop) : Eff → Prop
  | (none, b) => wB call post k b
  | (some g, b) => g ∧ wB call post k b
theorem wO_mono {call call' : CallT} {post post' : Option AV → AS → Prop} {k k' : Cfg → Prop} (hc : ∀ j a s P P', (∀ r t, P r t → P' r t) → call j a s P → call' j a s P') (hp : ∀ r t, post r t → post' r t) (hk : ∀ y, k y → k' y) : ∀ o, wO call post k o → wO call' post' k' o
  | .inl y, h => hk y h
  | .inr (.inl q), h => hp _ _ h
  | .inr (.inr q), h => hc _ _ _ _ _ (fun _ _ z => hk _ z) h
theorem wL_mono {call call' : CallT} {post post' : Option AV → AS → Prop} {k k' : Cfg → Prop} (hc : ∀ j a s P P', (∀ r t, P r t → P' r t) → call j a s P → call' j a s P') (hp : ∀ r t, post r t → post' r t) (hk : ∀ y, k y → k' y) : ∀ t, wL call post k t → wL call' post' k' t
  | [], h => h
  | [_], h => fun z => wO_mono hc hp hk _ (h z)
  | _ :: q2 :: t, h => ⟨fun z => wO_mono hc hp hk _ (h.1 z), wL_mono hc hp hk (q2 :: t) h.2⟩
theorem wE_mono {call call' : CallT} {post post' : Option AV → AS → Prop} {k k' : Cfg → Prop} (hc : ∀ j a s P P', (∀ r t, P r t → P' r t) → call j a s P → call' j a s P') (hp : ∀ r t, post r t → post' r t) (hk : ∀ y, k y → k' y) : ∀ e, wE call post k e → wE call' post' k' e
  | (none, .inl _), h => wO_mono hc hp hk _ h
  | (none, .inr _), h => wL_mono hc hp hk _ h
  | (some _, .inl _), h => ⟨h.1, wO_mono hc hp hk _ h.2⟩
  | (some _, .inr _), h => ⟨h.1, wL_mono hc hp hk _ h.2⟩
/-- a run of a code, as the least fixed point -/
def Rp (stp : Cfg → Eff) (call : CallT) (post : Option AV → AS → Prop) (x : Cfg) : Prop :=
  ∀ P : Cfg → Prop, (∀ (y : Cfg) (k : Cfg → Prop), (∀ z, k z → P z) → wE call post k (stp y) → P y) → P x
theorem Rp.intro {stp : Cfg → Eff} {call : CallT} {post : Option AV → AS → Prop} {x : Cfg} (h : wE call post (Rp stp call post) (stp x)) : Rp stp call post x :=
  fun P hP => hP x (Rp stp call post) (fun z hz => hz P hP) h
theorem Rp.mono {stp : Cfg → Eff} {call call' : CallT} {post post' : Option AV → AS → Prop} (hc : ∀ j a s P P', (∀ r t, P r t → P' r t) → call j a s P → call' j a s P') (hp : ∀ r t, post r t → post' r t) {x : Cfg} (h : Rp stp call post x) : Rp stp call' post' x :=
  h (Rp stp call' post') (fun _ _ hk hs => Rp.intro (wE_mono hc hp hk _ hs))
theorem Rp.eq {stp : Cfg → Eff} {call : CallT} (hc : ∀ j a s P P', (∀ r t, P r t → P' r t) → call j a s P → call j a s P') {post : Option AV → AS → Prop} (x : Cfg) : Rp stp call post x = wE call post (Rp stp call post) (stp x) := by
  refine propext ⟨fun h => ?_, Rp.intro⟩
  exact h (fun y => wE call post (Rp stp call post) (stp y)) (fun y k hk hs => wE_mono hc (fun _ _ z => z) (fun z hz => Rp.intro (hk z hz)) _ hs)
/-! small numbers -/
def i32 (a : Int) : Int32 := Int32.ofInt a
def i64 (a : Int) : Int64 := Int64.ofInt a
def andv (a b : Int) : Int := (i32 a &&& i32 b).toInt
def orv (a b : Int) : Int := (i32 a ||| i32 b).toInt
def xorv (a b : Int) : Int := (i32 a ^^^ i32 b).toInt
def shlv (a b : Int) : Int := (i32 a <<< (i32 b &&& 31)).toInt
def shrv (a b : Int) : Int := (i32 a >>> (i32 b &&& 31)).toInt
def ushrv (a b : Int) : Int := ((i32 a).toUInt32 >>> ((i32 b).toUInt32 &&& Int32.toUInt32 31)).toInt32.toInt
def lshrv (a b : Int) : Int := (i64 a >>> ((i32 b).toInt64 &&& 63)).toInt
def i2bv (a : Int) : Int := (i32 a).toInt8.toInt32.toInt
def i2cv (a : Int) : Int := ((i32 a).toUInt32 % 65536).toInt32.toInt
def lcmpv (a b : Int) : Int := if a < b then -1 else if a = b then 0 else 1
def nth : List AV → Nat → AV
  | [], _ => vx
  | v :: _, 0 => v
  | _ :: l, n + 1 => nth l n
def isL : AV → Bool
  | .inr (.inl _) => true
  | _ => false
def kill (ls : List AV) : Nat → List AV
  | 0 => ls
  | n + 1 => match isL (nth ls n) with
    | true => ls.set n vx
    | false => ls
def lput (ls : List AV) (n : Nat) (v : AV) : List AV := (kill ls n).set n v
def lput2 (ls : List AV) (n : Nat) (v : AV) : List AV := ((kill ls n).set n v).set (n + 1) vx
def cats : List AV → Nat
  | [] => 0
  | v :: l => (match isL v with | true => 2 | false => 1) + cats l
def wr (μ : Mem) (c i k : Nat) (v : Int) : Mem := fun c' i' k' => if c' = c ∧ i' = i ∧ k' = k then v else μ c' i' k'
def wrR (ρ : Rfs) (c i k : Nat) (v : AR) : Rfs := fun c' i' k' => if c' = c ∧ i' = i ∧ k' = k then v else ρ c' i' k'
def zr (μ : Mem) (c i : Nat) : Mem := fun c' i' k' => if c' = c ∧ i' = i then 0 else μ c' i' k'
def zrR (ρ : Rfs) (c i : Nat) : Rfs := fun c' i' k' => if c' = c ∧ i' = i then none else ρ c' i' k'
def inc (n : Nat → Nat) (c : Nat) : Nat → Nat := fun c' => if c' = c then n c' + 1 else n c'
/-! effects -/
def bad (σ : AS) : Eff := (some False, .inl (.inl (0, [], [], σ)))
def nx (pc : Nat) (ls st : List AV) (σ : AS) : Eff := (none, .inl (.inl (pc, ls, st, σ)))
def gx (g : Prop) (pc : Nat) (ls st : List AV) (σ : AS) : Eff := (some g, .inl (.inl (pc, ls, st, σ)))
def br (c : Prop) (t f : Nat) (ls st : List AV) (σ : AS) : Eff := (none, .inr [(c, .inl (t, ls, st, σ)), (¬ c, .inl (f, ls, st, σ))])
def tgt (pc : Nat) (off : Int) : Nat := ((pc : Int) + off).toNat
def ii (σ : AS) (st : List AV) (f : Int → Int → List AV → Eff) : Eff := match st with
  | .inl y :: .inl x :: r => f x y r
  | _ => bad σ
def ll (σ : AS) (st : List AV) (f : Int → Int → List AV → Eff) : Eff := match st with
  | .inr (.inl y) :: .inr (.inl x) :: r => f x y r
  | _ => bad σ
def i1 (σ : AS) (st : List AV) (f : Int → List AV → Eff) : Eff := match st with
  | .inl x :: r => f x r
  | _ => bad σ
def l1 (σ : AS) (st : List AV) (f : Int → List AV → Eff) : Eff := match st with
  | .inr (.inl x) :: r => f x r
  | _ => bad σ
def a1 (σ : AS) (st : List AV) (f : AR → List AV → Eff) : Eff := match st with
  | .inr (.inr (.inl x)) :: r => f x r
  | _ => bad σ
/-- a reference that is there -/
def o1 (σ : AS) (st : List AV) (f : Nat → Nat → List AV → Eff) : Eff := match st with
  | .inr (.inr (.inl (some (c, i)))) :: r => f c i r
  | _ => bad σ
def ldI (σ : AS) (v : AV) (f : AV → Eff) : Eff := match v with
  | .inl x => f (.inl x)
  | _ => bad σ
def ldL (σ : AS) (v : AV) (f : AV → Eff) : Eff := match v with
  | .inr (.inl x) => f (.inr (.inl x))
  | _ => bad σ
def ldA (σ : AS) (v : AV) (f : AV → Eff) : Eff := match v with
  | .inr (.inr (.inl x)) => f (.inr (.inr (.inl x)))
  | _ => bad σ
def dupE (σ : AS) (st : List AV) (f : AV → List AV → Eff) : Eff := match st with
  | .inl x :: r => f (.inl x) r
  | .inr (.inr (.inl x)) :: r => f (.inr (.inr (.inl x))) r
  | _ => bad σ
def when (σ : AS) (b : Bool) (e : Eff) : Eff := match b with
  | true => e
  | false => bad σ
/-- tableswitch: the branches from the value lo on -/
def swL (x : Int) (pc : Nat) (ls st : List AV) (σ : AS) (dflt : Int) (lo0 : Int) : Int → List Int → List (Prop × Out)
  | lo, [] => [(x < lo0 ∨ lo ≤ x, .inl (tgt pc dflt, ls, st, σ))]
  | lo, o :: os => (x = lo, .inl (tgt pc o, ls, st, σ)) :: swL x pc ls st σ dflt lo0 (lo + 1) os
def cndI (c : ClassFile.Cond) (x y : Int) : Prop := match c with
  | .eq => x = y
  | .ne => ¬ x = y
  | .lt => x < y
  | .ge => y ≤ x
  | .gt => y < x
  | .le => x ≤ y
/-! ONE INSTRUCTION'S EFFECT -/
abbrev Scr : Type := (Nat × (Nat → Int)) × AR
def alen (sc : Scr) (c i : Nat) : Nat := match Nat.ble 100 c with
  | false => slen c i
  | true => match Nat.beq c 103 with
    | true => sc.1.1
    | false => rlen c i
def ard (sc : Scr) (σ : AS) (c i j : Nat) : Int := match Nat.ble 100 c with
  | false => σ.2.2.2 c i j
  | true => match Nat.beq c 103 with
    | true => sc.1.2 j
    | false => rom c i j
def atc (c : Nat) : Nat := match Nat.ble 100 c with
  | false => aty c
  | true => bif Nat.beq c 101 then 2 else bif Nat.beq c 102 then 0 else bif Nat.beq c 103 then 0 else 9
def setM (σ : AS) (c i k : Nat) (v : Int) : AS := (σ.1, σ.2.1, σ.2.2.1, wr σ.2.2.2 c i k v)
def setR (σ : AS) (c i k : Nat) (r : AR) : AS := (σ.1, σ.2.1, wrR σ.2.2.1 c i k r, σ.2.2.2)
def born (σ : AS) (c n : Nat) : AS := ((σ.1.1 + 1, σ.1.2.1 + 1, σ.1.2.2 + n), inc σ.2.1 c, zrR σ.2.2.1 c (σ.2.1 c), zr σ.2.2.2 c (σ.2.1 c))
/-- room for one more cell of n slots, at its place in the order -/
def roomE (B : Nat × Nat) (σ : AS) (c n : Nat) : Prop := σ.1.2.1 + 1 ≤ B.1 ∧ σ.1.2.2 + n ≤ B.2 ∧ σ.2.1 c < cF c ∧ ord c (σ.2.1 c) = σ.1.1
def isOb (r : AR) : Bool := match r with
  | none => true
  | some q => Nat.blt q.1 100
def isZ (f : Nat) (v : Int) : Prop := f = 1 → v = 0 ∨ v = 1
def gB (f : Nat) (v : Int) (pc : Nat) (ls st : List AV) (σ : AS) : Eff := match Nat.beq f 1 with
  | true => gx (v = 0 ∨ v = 1) pc ls st σ
  | false => nx pc ls st σ
def putE (f c i k : Nat) (v : AV) (pc : Nat) (ls st : List AV) (σ : AS) : Eff := match Nat.beq f 4 with
  | true => ldA σ v (fun v => match v with | .inr (.inr (.inl r)) => nx pc ls st (setR σ c i k r) | _ => bad σ)
  | false => match Nat.beq f 3 with
    | true => ldL σ v (fun v => match v with | .inr (.inl x) => nx pc ls st (setM σ c i k x) | _ => bad σ)
    | false => ldI σ v (fun v => match v with | .inl x => gB f x pc ls st (setM σ c i k x) | _ => bad σ)
def getE (f c i k : Nat) (pc : Nat) (ls st : List AV) (σ : AS) : Eff := match Nat.beq f 4 with
  | true => nx pc ls (.inr (.inr (.inl (σ.2.2.1 c i k))) :: st) σ
  | false => match Nat.beq f 3 with
    | true => nx pc ls (.inr (.inl (σ.2.2.2 c i k)) :: st) σ
    | false => nx pc ls (.inl (σ.2.2.2 c i k) :: st) σ
def callE (B : Nat × Nat) (j : Nat) (as rest : List AV) (pc : Nat) (ls : List AV) (σ : AS) : Eff :=
  when σ (Nat.ble (cats rest) 8) (match Nat.beq (bud j).1 0 && Nat.beq (bud j).2 0 with
    | true => (none, .inl (.inr (.inr (j, as, ((σ.1.1, 0, 0), σ.2), fun r τ => (pc + 3, ls, r.toList ++ rest, ((τ.1.1, σ.1.2), τ.2))))))
    | false => (some (σ.1.2.1 + (bud j).1 ≤ B.1 ∧ σ.1.2.2 + (bud j).2 ≤ B.2), .inl (.inr (.inr (j, as, ((σ.1.1, 0, 0), σ.2), fun r τ => (pc + 3, ls, r.toList ++ rest, ((τ.1.1, σ.1.2.1 + (bud j).1, σ.1.2.2 + (bud j).2), τ.2)))))))
def invE (B : Nat × Nat) (j n : Nat) (pc : Nat) (ls st : List AV) (σ : AS) : Eff :=
  when σ (Nat.ble n st.length) (o1 σ (st.drop n) (fun c i rest => when σ (Nat.beq c (j / 1000)) (callE B j (.inr (.inr (.inl (some (c, i)))) :: (st.take n).reverse) rest pc ls σ)))
def invS (B : Nat × Nat) (j n : Nat) (pc : Nat) (ls st : List AV) (σ : AS) : Eff :=
  when σ (Nat.ble n st.length) (callE B j (st.take n).reverse (st.drop n) pc ls σ)
def negOf (a b : Nat) : Int := bif Nat.beq b 1 then -(a : Int) else (a : Int)
/-- rk: what the method answers: 0 int, 1 boolean, 2 byte, 5 char -/
def retE (rk : Nat) (x : Int) (σ : AS) : Eff := match Nat.beq rk 0 with
  | true => (none, .inl (.inr (.inl (some (.inl x), σ))))
  | false => match Nat.beq rk 1 with
    | true => (some (x = 0 ∨ x = 1), .inl (.inr (.inl (some (.inl x), σ))))
    | false => match Nat.beq rk 2 with
      | true => (some (-128 ≤ x ∧ x ≤ 127), .inl (.inr (.inl (some (.inl x), σ))))
      | false => (some (0 ≤ x ∧ x ≤ 65535), .inl (.inr (.inl (some (.inl x), σ))))
def stepE (sc : Scr) (code : Nat → Option Row) (rk : Nat) (B : Nat × Nat) (x : Cfg) : Eff :=
  match code x.1 with
  | none => bad x.2.2.2
  | some (ins, len, a, b, _) =>
    let pc := x.1
    let ls := x.2.1
    let st := x.2.2.1
    let σ := x.2.2.2
    match ins with
    | .iload n => ldI σ (nth ls n) (fun v => nx (pc + len) ls (v :: st) σ)
    | .iload_n n => ldI σ (nth ls n.val) (fun v => nx (pc + len) ls (v :: st) σ)
    | .lload n => ldL σ (nth ls n) (fun v => nx (pc + len) ls (v :: st) σ)
    | .lload_n n => ldL σ (nth ls n.val) (fun v => nx (pc + len) ls (v :: st) σ)
    | .aload n => ldA σ (nth ls n) (fun v => nx (pc + len) ls (v :: st) σ)
    | .aload_n n => ldA σ (nth ls n.val) (fun v => nx (pc + len) ls (v :: st) σ)
    | .istore n => i1 σ st (fun x r => nx (pc + len) (lput ls n (.inl x)) r σ)
    | .istore_n n => i1 σ st (fun x r => nx (pc + len) (lput ls n.val (.inl x)) r σ)
    | .lstore n => l1 σ st (fun x r => nx (pc + len) (lput2 ls n (.inr (.inl x))) r σ)
    | .lstore_n n => l1 σ st (fun x r => nx (pc + len) (lput2 ls n.val (.inr (.inl x))) r σ)
    | .astore n => a1 σ st (fun x r => nx (pc + len) (lput ls n (.inr (.inr (.inl x)))) r σ)
    | .astore_n n => a1 σ st (fun x r => nx (pc + len) (lput ls n.val (.inr (.inr (.inl x)))) r σ)
    | .iconst v => nx (pc + len) ls (.inl v :: st) σ
    | .bipush v => nx (pc + len) ls (.inl v :: st) σ
    | .sipush v => nx (pc + len) ls (.inl v :: st) σ
    | .lconst v => nx (pc + len) ls (.inr (.inl ((v.val : Nat) : Int)) :: st) σ
    | .ldc2_w _ => nx (pc + len) ls (.inr (.inl (negOf a b)) :: st) σ
    | .ldc_w _ => nx (pc + len) ls (.inl (negOf a b) :: st) σ
    | .ldc _ => nx (pc + len) ls (.inr (.inr (.inl (some (100, a)))) :: st) σ
    | .aconst_null => nx (pc + len) ls (.inr (.inr (.inl none)) :: st) σ
    | .iadd => ii σ st (fun x y r => gx (InI (x + y)) (pc + len) ls (.inl (x + y) :: r) σ)
    | .isub => ii σ st (fun x y r => gx (InI (x - y)) (pc + len) ls (.inl (x - y) :: r) σ)
    | .imul => ii σ st (fun x y r => gx (InI (x * y)) (pc + len) ls (.inl (x * y) :: r) σ)
    | .idiv => ii σ st (fun x y r => gx (0 ≤ x ∧ 0 < y) (pc + len) ls (.inl (x / y) :: r) σ)
    | .irem => ii σ st (fun x y r => gx (0 ≤ x ∧ 0 < y) (pc + len) ls (.inl (x % y) :: r) σ)
    | .ineg => i1 σ st (fun x r => gx (InI (-x)) (pc + len) ls (.inl (-x) :: r) σ)
    | .ladd => ll σ st (fun x y r => gx (InL (x + y)) (pc + len) ls (.inr (.inl (x + y)) :: r) σ)
    | .lsub => ll σ st (fun x y r => gx (InL (x - y)) (pc + len) ls (.inr (.inl (x - y)) :: r) σ)
    | .lmul => ll σ st (fun x y r => gx (InL (x * y)) (pc + len) ls (.inr (.inl (x * y)) :: r) σ)
    | .ldiv => ll σ st (fun x y r => gx (0 ≤ x ∧ 0 < y) (pc + len) ls (.inr (.inl (x / y)) :: r) σ)
    | .lneg => l1 σ st (fun x r => gx (InL (-x)) (pc + len) ls (.inr (.inl (-x)) :: r) σ)
    | .iand => ii σ st (fun x y r => nx (pc + len) ls (.inl (andv x y) :: r) σ)
    | .ior => ii σ st (fun x y r => nx (pc + len) ls (.inl (orv x y) :: r) σ)
    | .ixor => ii σ st (fun x y r => nx (pc + len) ls (.inl (xorv x y) :: r) σ)
    | .ishl => ii σ st (fun x y r => nx (pc + len) ls (.inl (shlv x y) :: r) σ)
    | .ishr => ii σ st (fun x y r => nx (pc + len) ls (.inl (shrv x y) :: r) σ)
    | .iushr => ii σ st (fun x y r => nx (pc + len) ls (.inl (ushrv x y) :: r) σ)
    | .lshr => (match st with
      | .inl y :: .inr (.inl x) :: r => nx (pc + len) ls (.inr (.inl (lshrv x y)) :: r) σ
      | _ => bad σ)
    | .i2l => i1 σ st (fun x r => nx (pc + len) ls (.inr (.inl x) :: r) σ)
    | .l2i => l1 σ st (fun x r => gx (InI x) (pc + len) ls (.inl x :: r) σ)
    | .i2b => i1 σ st (fun x r => nx (pc + len) ls (.inl (i2bv x) :: r) σ)
    | .i2c => i1 σ st (fun x r => nx (pc + len) ls (.inl (i2cv x) :: r) σ)
    | .lcmp => ll σ st (fun x y r => nx (pc + len) ls (.inl (lcmpv x y) :: r) σ)
    | .ifCond c off => i1 σ st (fun x r => br (cndI c x 0) (tgt pc off) (pc + len) ls r σ)
    | .if_icmp c off => ii σ st (fun x y r => br (cndI c x y) (tgt pc off) (pc + len) ls r σ)
    | .if_acmp c off => (match st with
      | .inr (.inr (.inl y)) :: .inr (.inr (.inl x)) :: r => when σ (isOb x && isOb y) (match c with
        | .eq => br (x = y) (tgt pc off) (pc + len) ls r σ
        | .ne => br (¬ x = y) (tgt pc off) (pc + len) ls r σ)
      | _ => bad σ)
    | .ifnull off => a1 σ st (fun x r => br (x = none) (tgt pc off) (pc + len) ls r σ)
    | .ifnonnull off => a1 σ st (fun x r => br (¬ x = none) (tgt pc off) (pc + len) ls r σ)
    | .goto off => nx (tgt pc off) ls st σ
    | .iinc n k => ldI σ (nth ls n) (fun v => match v with
      | .inl x => gx (InI (x + k)) (pc + len) (lput ls n (.inl (x + k))) st σ
      | _ => bad σ)
    | .dup => dupE σ st (fun v r => nx (pc + len) ls (v :: v :: r) σ)
    | .pop => dupE σ st (fun _ r => nx (pc + len) ls r σ)
    | .dup2 => (match st with
      | .inl y :: .inr (.inr (.inl x)) :: r => nx (pc + len) ls (.inl y :: .inr (.inr (.inl x)) :: .inl y :: .inr (.inr (.inl x)) :: r) σ
      | _ => bad σ)
    | .pop2 => l1 σ st (fun _ r => nx (pc + len) ls r σ)
    | .getfield _ => o1 σ st (fun c i r => when σ (Nat.beq c a) (match Nat.beq c 100 with
      | true => (match Nat.beq b 4 with
        | true => nx (pc + len) ls (.inr (.inr (.inl (some (101, i)))) :: r) σ
        | false => nx (pc + len) ls (.inl 0 :: r) σ)
      | false => getE (b % 8) c i (b / 8) (pc + len) ls r σ))
    | .putfield _ => (match st with
      | v :: st1 => o1 σ st1 (fun c i r => when σ (Nat.beq c a) (putE (b % 8) c i (b / 8) v (pc + len) ls r σ))
      | _ => bad σ)
    | .getstatic _ => (match Nat.beq a 0 with
      | true => nx (pc + len) ls (.inl 1 :: st) σ
      | false => match Nat.beq a 1 with
        | true => nx (pc + len) ls (.inr (.inr (.inl (some (102, b)))) :: st) σ
        | false => nx (pc + len) ls (.inr (.inr (.inl sc.2)) :: st) σ)
    | .iaload => i1 σ st (fun j st1 => o1 σ st1 (fun c i r => when σ (Nat.ble 20 c && Nat.beq (atc c) 0) (gx (0 ≤ j ∧ j < ((alen sc c i : Nat) : Int)) (pc + len) ls (.inl (ard sc σ c i j.toNat) :: r) σ)))
    | .baload => i1 σ st (fun j st1 => o1 σ st1 (fun c i r => when σ (Nat.beq (atc c) 1 || Nat.beq (atc c) 2) (gx (0 ≤ j ∧ j < ((alen sc c i : Nat) : Int)) (pc + len) ls (.inl (ard sc σ c i j.toNat) :: r) σ)))
    | .laload => i1 σ st (fun j st1 => o1 σ st1 (fun c i r => when σ (Nat.blt c 100 && Nat.beq (aty c) 3) (gx (0 ≤ j ∧ j < ((slen c i : Nat) : Int)) (pc + len) ls (.inr (.inl (σ.2.2.2 c i j.toNat)) :: r) σ)))
    | .aaload => i1 σ st (fun j st1 => o1 σ st1 (fun c i r => when σ (Nat.blt c 100 && Nat.ble 4 (aty c)) (gx (0 ≤ j ∧ j < ((slen c i : Nat) : Int)) (pc + len) ls (.inr (.inr (.inl (σ.2.2.1 c i j.toNat))) :: r) σ)))
    | .iastore => i1 σ st (fun x st0 => i1 σ st0 (fun j st1 => o1 σ st1 (fun c i r => when σ (Nat.blt c 100 && (Nat.ble 20 c && Nat.beq (aty c) 0)) (gx (0 ≤ j ∧ j < ((slen c i : Nat) : Int)) (pc + len) ls r (setM σ c i j.toNat x)))))
    | .bastore => i1 σ st (fun x st0 => i1 σ st0 (fun j st1 => o1 σ st1 (fun c i r => when σ (Nat.blt c 100) (match Nat.beq (aty c) 1 with
      | true => gx ((0 ≤ j ∧ j < ((slen c i : Nat) : Int)) ∧ (x = 0 ∨ x = 1)) (pc + len) ls r (setM σ c i j.toNat x)
      | false => when σ (Nat.beq (aty c) 2) (gx ((0 ≤ j ∧ j < ((slen c i : Nat) : Int)) ∧ (-128 ≤ x ∧ x ≤ 127)) (pc + len) ls r (setM σ c i j.toNat x))))))
    | .lastore => l1 σ st (fun x st0 => i1 σ st0 (fun j st1 => o1 σ st1 (fun c i r => when σ (Nat.blt c 100 && Nat.beq (aty c) 3) (gx (0 ≤ j ∧ j < ((slen c i : Nat) : Int)) (pc + len) ls r (setM σ c i j.toNat x)))))
    | .aastore => o1 σ st (fun c2 i2 st0 => i1 σ st0 (fun j st1 => o1 σ st1 (fun c i r => when σ (Nat.blt c 100 && ((Nat.beq (aty c) 4 && Nat.beq c2 9) || (Nat.beq (aty c) 5 && Nat.beq c2 6))) (gx (0 ≤ j ∧ j < ((slen c i : Nat) : Int)) (pc + len) ls r (setR σ c i j.toNat (some (c2, i2)))))))
    | .arraylength => o1 σ st (fun c i r => when σ (Nat.ble 20 c && (Nat.blt c 100 || (Nat.beq c 101 || (Nat.beq c 102 || Nat.beq c 103)))) (nx (pc + len) ls (.inl ((alen sc c i : Nat) : Int) :: r) σ))
    | .new _ => gx (roomE B σ a (nfl a)) (pc + len) ls (.inr (.inr (.inl (some (a, σ.2.1 a)))) :: st) (born σ a (nfl a))
    | .newarray _ => i1 σ st (fun x r => gx (x = ((slen a (σ.2.1 a) : Nat) : Int) ∧ roomE B σ a (slen a (σ.2.1 a))) (pc + len) ls (.inr (.inr (.inl (some (a, σ.2.1 a)))) :: r) (born σ a (slen a (σ.2.1 a))))
    | .anewarray _ => i1 σ st (fun x r => gx (x = ((slen a (σ.2.1 a) : Nat) : Int) ∧ roomE B σ a (slen a (σ.2.1 a))) (pc + len) ls (.inr (.inr (.inl (some (a, σ.2.1 a)))) :: r) (born σ a (slen a (σ.2.1 a))))
    | .invokevirtual _ => invE B a b pc ls st σ
    | .invokespecial _ => (match Nat.beq a 999999 with
      | true => o1 σ st (fun _ _ r => when σ (Nat.ble (cats r) 8) (nx (pc + len) ls r σ))
      | false => invE B a b pc ls st σ)
    | .invokestatic _ => invS B a b pc ls st σ
    | .ireturn => (match st with
      | [.inl x] => retE rk x σ
      | _ => bad σ)
    | .lreturn => (match st with
      | [.inr (.inl x)] => (none, .inl (.inr (.inl (some (.inr (.inl x)), σ))))
      | _ => bad σ)
    | .areturn => (match st with
      | [.inr (.inr (.inl r))] => (none, .inl (.inr (.inl (some (.inr (.inr (.inl r))), σ))))
      | _ => bad σ)
    | .return_ => (match st with
      | [] => (none, .inl (.inr (.inl (none, σ))))
      | _ => bad σ)
    | .tableswitch d lo _ offs => i1 σ st (fun x r => (none, .inr (swL x pc ls r σ d lo lo offs.toList)))
    | _ => bad σ
/-- the locals with which a method begins -/
def argL : List AV → List AV
  | [] => []
  | v :: l => match isL v with
    | true => v :: vx :: argL l
    | false => v :: argL l
def entL (n : Nat) (as : List AV) : List AV := argL as ++ List.replicate (n - (argL as).length) vx
