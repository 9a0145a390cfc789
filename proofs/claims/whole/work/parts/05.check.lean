/-! THE CHECK OF THE ROWS: what a program decides -/
def txS (k : Nat) : String := (["wall", "up", "flat", "man", "ear", "bell", "map", "pace", "fall", "gap"].getD k "")
def idxS (k : Nat) : Nat := ([120, 126, 128, 130, 132, 134, 136, 138, 140, 142].getD k 0)
def nmS (k : Nat) : String := (["INTS", "MOST", "LEAST", "GREATEST"].getD k "")
def mY (j : Nat) : MethodName := (mi j).1
def mB (j : Nat) : ByteArray := (mi j).2.1
def mL (j : Nat) : Nat := (mi j).2.2.1
def mR (j : Nat) : Option FieldType := (mi j).2.2.2.1
def mN (j : Nat) : Nat := (mi j).2.2.2.2.1
def mK (j : Nat) : Nat := (mi j).2.2.2.2.2.1
def mT (j : Nat) : List (List (Nat × Row)) := (mi j).2.2.2.2.2.2.1
def rkOf : Option FieldType → Nat
  | some .boolean => 1
  | some .byte => 2
  | some .char => 5
  | _ => 0
def stepM (sc : Scr) (j : Nat) : Cfg → Eff := stepE sc (look (mT j)) (rkOf (mR j)) (bud j)
def RM (sc : Scr) : Nat → CallT
  | 0 => fun _ _ _ _ => False
  | d + 1 => fun j as σ P => (argL as).length ≤ mL j ∧ Rp (stepM sc j) (RM sc d) P (0, entL (mL j) as, [], σ)
theorem RM_mono {sc : Scr} : ∀ (d j : Nat) (as : List AV) (σ : AS) (P P' : Option AV → AS → Prop), (∀ r t, P r t → P' r t) → RM sc d j as σ P → RM sc d j as σ P'
  | 0, _, _, _, _, _, _, h => h
  | d + 1, _, _, _, _, _, hp, h => ⟨h.1, Rp.mono (fun j a s P P' => RM_mono d j a s P P') hp h.2⟩
def lwI (pos : Nat) (w : Jvm.Cond) : Bool := decide (lw_tbl[pos]? = some w)
theorem lwI_in {pos : Nat} {w : Jvm.Cond} (h : lwI pos w = true) : w ∈ lw_tbl := List.mem_of_getElem? (of_decide_eq_true h)
def lwF (own : String) (idx : Nat) (r n d : String) (pos : Nat) : Bool := match lw_tbl[pos]? with
  | some (.fieldLink o i r' n' d') => decide (o = own) && Nat.beq i idx && decide (r' = r) && decide (n' = n) && decide (d' = d)
  | some (.fieldLinkNest o i r' n' d' _) => decide (o = own) && Nat.beq i idx && decide (r' = r) && decide (n' = n) && decide (d' = d)
  | _ => false
theorem lwF_in {own r n d : String} {idx pos : Nat} (h : lwF own idx r n d pos = true) : Jvm.Cond.fieldLink own idx r n d ∈ lw_tbl ∨ ∃ host, Jvm.Cond.fieldLinkNest own idx r n d host ∈ lw_tbl := by
  unfold lwF at h
  split at h
  · rename_i e
    simp only [Bool.and_eq_true, decide_eq_true_eq] at h
    obtain ⟨⟨⟨⟨h1, h2⟩, h3⟩, h4⟩, h5⟩ := h
    have h2 := Nat.eq_of_beq_eq_true h2
    subst h1 h2 h3 h4 h5
    exact Or.inl (List.mem_of_getElem? e)
  · rename_i e
    simp only [Bool.and_eq_true, decide_eq_true_eq] at h
    obtain ⟨⟨⟨⟨h1, h2⟩, h3⟩, h4⟩, h5⟩ := h
    have h2 := Nat.eq_of_beq_eq_true h2
    subst h1 h2 h3 h4 h5
    exact Or.inr ⟨_, List.mem_of_getElem? e⟩
  · cases h
def lwM (own : String) (idx : Nat) (y : MethodName) (pos : Nat) : Bool := match lw_tbl[pos]? with
  | some (.methodLink o i x) => decide (o = own) && Nat.beq i idx && decide (x = y)
  | some (.methodLinkNest o i x _) => decide (o = own) && Nat.beq i idx && decide (x = y)
  | _ => false
theorem lwM_in {own : String} {y : MethodName} {idx pos : Nat} (h : lwM own idx y pos = true) : Jvm.Cond.methodLink own idx y ∈ lw_tbl ∨ ∃ host, Jvm.Cond.methodLinkNest own idx y host ∈ lw_tbl := by
  unfold lwM at h
  split at h
  · rename_i e
    simp only [Bool.and_eq_true, decide_eq_true_eq] at h
    obtain ⟨⟨h1, h2⟩, h3⟩ := h
    have h2 := Nat.eq_of_beq_eq_true h2
    subst h1 h2 h3
    exact Or.inl (List.mem_of_getElem? e)
  · rename_i e
    simp only [Bool.and_eq_true, decide_eq_true_eq] at h
    obtain ⟨⟨h1, h2⟩, h3⟩ := h
    have h2 := Nat.eq_of_beq_eq_true h2
    subst h1 h2 h3
    exact Or.inr ⟨_, List.mem_of_getElem? e⟩
  · cases h
def tOK (pc : Nat) (off : Int) : Bool := decide (0 ≤ (pc : Int) + off)
def lenOf : Instr → Nat
  | .iload _ => 2
  | .lload _ => 2
  | .aload _ => 2
  | .istore _ => 2
  | .lstore _ => 2
  | .astore _ => 2
  | .bipush _ => 2
  | .ldc _ => 2
  | .newarray _ => 2
  | .sipush _ => 3
  | .ldc2_w _ => 3
  | .ldc_w _ => 3
  | .ifCond _ _ => 3
  | .if_icmp _ _ => 3
  | .if_acmp _ _ => 3
  | .ifnull _ => 3
  | .ifnonnull _ => 3
  | .goto _ => 3
  | .iinc _ _ => 3
  | .getfield _ => 3
  | .putfield _ => 3
  | .getstatic _ => 3
  | .new _ => 3
  | .anewarray _ => 3
  | .invokevirtual _ => 3
  | .invokespecial _ => 3
  | .invokestatic _ => 3
  | _ => 1
def tyN (t : ArrayType) : Nat := match t with
  | .int => 0
  | .boolean => 1
  | .byte => 2
  | .long => 3
  | _ => 9
def ckF (own : String) (idx a b pos : Nat) : Bool := Nat.blt a 12 && Nat.blt (b / 8) (nfl a) && Nat.beq (fty a (b / 8)) (b % 8) && (isLg a == Nat.beq (b % 8) 3) && lwF own idx (Tn a (b / 8)).1 (Tn a (b / 8)).2.1 (Tn a (b / 8)).2.2.1 pos && (!(Nat.beq (b % 8) 4) || (Yn a (b / 8)).isReference) && !(Nat.beq (b % 8) 2)
def ckI (valid : Nat → Bool) (own : String) (maxL : Nat) (init : Bool) (ret : Option FieldType) (pc : Nat) (r : Row) : Bool :=
  let a := r.2.2.1
  let b := r.2.2.2.1
  let pos := r.2.2.2.2
  match r.1 with
  | .istore n => Nat.blt n maxL
  | .istore_n n => Nat.blt n.val maxL
  | .astore n => Nat.blt n maxL
  | .astore_n n => Nat.blt n.val maxL
  | .lstore n => Nat.blt (n + 1) maxL
  | .lstore_n n => Nat.blt (n.val + 1) maxL
  | .iinc n _ => Nat.blt n maxL
  | .iconst v => decide (InI v)
  | .bipush v => decide (-128 ≤ v ∧ v ≤ 127)
  | .sipush v => decide (-32768 ≤ v ∧ v ≤ 32767)
  | .ldc2_w i => decide (InL (negOf a b)) && lwI pos (.constantLong own i (i64 (negOf a b)))
  | .ldc_w i => decide (InI (negOf a b)) && lwI pos (.constant own i (i32 (negOf a b)))
  | .ldc i => Nat.blt a 10 && Nat.beq (idxS a) i && decide (own = "EchoValley$Reader")
  | .ifCond _ off => tOK pc off
  | .if_icmp _ off => tOK pc off
  | .if_acmp _ off => tOK pc off
  | .ifnull off => tOK pc off
  | .ifnonnull off => tOK pc off
  | .goto off => tOK pc off
  | .getfield i => bif Nat.beq a 100 then lwI pos (.fieldLink own i "java/lang/String" (bif Nat.beq b 4 then "value" else "coder") (bif Nat.beq b 4 then "[B" else "B")) else ckF own i a b pos
  | .putfield i => ckF own i a b pos && (!(Tn a (b / 8)).2.2.2 || (init && decide ((Tn a (b / 8)).1 = own) && lwI pos (.fieldLink own i (Tn a (b / 8)).1 (Tn a (b / 8)).2.1 (Tn a (b / 8)).2.2.1)))
  | .getstatic i => bif Nat.beq a 0 then lwI pos (.fieldLink own i "java/lang/String" "COMPACT_STRINGS" "Z") else bif Nat.beq a 1 then Nat.blt b 4 && lwI pos (.fieldLink own i "EchoValley$Reader" (nmS b) "[I") else lwI pos (.fieldLink own i "jdk/internal/util/Preconditions" "SIOOBE_FORMATTER" "Ljava/util/function/BiFunction;")
  | .new i => Nat.blt a 12 && lwI pos (.classLink own i (Rn a))
  | .newarray t => Nat.ble 20 a && Nat.blt a 100 && Nat.beq (aty a) (tyN t) && Nat.ble (aty a) 3
  | .anewarray i => Nat.ble 20 a && Nat.blt a 100 && ((Nat.beq (aty a) 4 && lwI pos (.classLink own i "EchoValley$Wall")) || (Nat.beq (aty a) 5 && lwI pos (.classLink own i "EchoValley$Slot")))
  | .invokevirtual i => valid a && Nat.beq (mK a) 1 && Nat.beq (mN a) b && lwM own i (mY a) pos
  | .invokespecial i => bif Nat.beq a 999999 then lwI pos (.methodLink own i Lib.objectInit) else valid a && Nat.beq (mK a) 2 && Nat.beq (mN a) b && lwM own i (mY a) pos
  | .invokestatic i => valid a && Nat.beq (mK a) 0 && Nat.beq (mN a) b && lwM own i (mY a) pos
  | .tableswitch d lo hi offs => decide (hi = lo + (offs.size : Int) - 1) && tOK pc d && offs.toList.all (fun o => tOK pc o)
  | .ireturn => decide (ret = some .int ∨ ret = some .boolean ∨ ret = some .byte ∨ ret = some .char)
  | .lreturn => decide (ret = some .long)
  | .areturn => (match ret with | some (.object _) => true | some (.array _) => true | _ => false)
  | .return_ => decide (ret = none)
  | _ => true
def isTs : Instr → Bool
  | .tableswitch .. => true
  | _ => false
def ckR (valid : Nat → Bool) (own : String) (maxL : Nat) (init : Bool) (ret : Option FieldType) (bytes : ByteArray) (q : Nat × Row) : Bool :=
  decide (decode bytes q.1 = .ok (q.2.1, q.2.2.1)) && (isTs q.2.1 || Nat.beq q.2.2.1 (lenOf q.2.1)) && ckI valid own maxL init ret q.1 q.2
def allJ : List Nat := [0, 1, 2, 3, 4, 5, 6, 7, 8, 9, 10, 11, 12, 13, 14, 15, 16, 17, 18, 19, 20, 21, 22, 23, 24, 25, 26, 27, 28, 29, 30, 31, 32, 33, 34, 35, 36, 37, 38, 39, 40, 41, 42, 43, 44, 45, 46, 47, 48, 49, 50, 51, 52, 53, 54, 55, 56, 57, 58, 59, 1000, 1001, 1002, 1003, 1004, 1005, 1006, 1007, 1008, 1009, 2000, 2001, 2002, 2003, 2004, 3000, 3001, 3002, 3003, 3004, 3005, 3006, 4000, 4001, 4002, 4003, 4004, 4005, 4006, 4007, 4008, 4009, 4010, 4011, 4012, 4013, 4014, 4015, 4016, 4017, 4018, 4019, 4020, 4021, 5000, 5001, 5002, 5003, 5004, 5005, 5006, 6000, 6001, 6002, 7000, 7001, 8000, 8001, 8002, 9000, 9001, 9002, 9003, 10000, 10001, 10002, 10003, 10004, 10005, 10006, 10007, 10008, 10009, 10010, 11000, 11001, 11002, 11003, 11004, 11005, 11006, 11007, 11008, 11009, 11010, 11011, 11012, 11013, 11014, 11015, 11016, 11017, 11018, 11019, 11020, 11021, 11022, 11023, 11024, 11025, 11026, 11027, 11028, 11029, 11030, 11031, 11032, 11033, 11034, 11035, 11036, 11037, 11038, 11039, 11040, 11041, 11042, 11043, 11044, 11045, 11046, 11047, 11048, 11049, 11050, 11051, 11052, 11053, 11054, 11055, 11056, 11057, 11058, 11059, 11060, 11061, 11062, 11063, 11064, 11065, 11066, 11067, 11068, 11069, 11070, 11071, 11072, 11073, 11074, 11075, 11076, 11077, 11078, 11079, 11080, 11081, 11082, 11083, 11084, 11085, 11086, 11087, 11088, 11089, 11090, 11091, 11092, 11093, 11094, 11095, 11096, 11097, 11098, 11099, 11100, 11101, 11102, 11103, 11104, 11105, 100001, 100002, 100003, 100004, 100005, 100006, 100007, 100008, 100009, 100010, 100011]
def valid (j : Nat) : Bool := allJ.contains j
theorem valid_in {j : Nat} (h : valid j = true) : j ∈ allJ := by
  unfold valid at h
  simpa using h
def ckM (j : Nat) : Bool :=
  let m := mi j
  let y := m.1
  let w := m.2.2.2.2.2.2.2
  lwI w.2.2.2 (.initialized y.cls) && plainFor y && decide (y.cls ≠ "java/lang/invoke/MethodHandle") && decide (y.cls ≠ "java/lang/invoke/VarHandle") && decide ((parseMethodDescriptor y.desc).map (fun d => d.parameters.length) = some (mN j)) && Nat.ble (mL j) 17
  && (match mK j with
    | 0 => lwI w.2.1 (.static y)
    | 1 => lwI w.2.1 (.instanceMethod y) && lwI w.2.2.1 (.selects y.cls y y) && decide (y.cls = Rn (j / 1000))
    | _ => lwI w.2.1 (.instanceMethod y) && decide (y.name = "<init>") && decide (mR j = none) && decide (y.cls = Rn (j / 1000)))
  && (mT j).all (fun l => l.all (ckR valid y.cls (mL j) (Nat.beq (mK j) 2) (mR j) (mB j)))
def codeW (j : Nat) : Prop := Jvm.Cond.code (mY j) (mB j) (mL j) (mR j) ∈ lw_tbl
