/-! SOUNDNESS, 2: the judgement of a configuration; stack and locals -/
def isX : AV → Bool
  | .inr (.inr (.inr _)) => true
  | _ => false
theorem nth_get : ∀ (ls : List AV) (n : Nat), isX (nth ls n) = false → ls[n]? = some (nth ls n)
  | [], n, h => by simp [nth, isX] at h
  | v :: l, 0, _ => rfl
  | v :: l, n + 1, h => by
    rw [List.getElem?_cons_succ]
    exact nth_get l n h
def LR (E : EnvT) (als : List AV) (ls : Array Slot) (nL : Nat) : Prop := ls.size = nL ∧ als.length = nL ∧ lv_wf ls ∧ ∀ (i : Nat) (v : AV), als[i]? = some v → isX v = false → ls[i]? = some (.val (cv E v))
def Cx (p : Program) (s : State) (m : MethodId) (args : Array Value) (meth : Method) (c : Code) (E : EnvT) (own : String) (cc : ByteArray) (nL : Nat) : Prop :=
  p.tables.exec = Jvm.exec ∧ c.code = cc ∧ c.maxLocals = nL ∧ s.vm.findClass own = some m.cls ∧ (∀ w ∈ TB, w.before args s = true) ∧ meth.locks = false ∧ Kn E s ∧ (eH E).size ≤ s.heap.size
def Inv (s : State) (E : EnvT) (nL : Nat) (B : Nat × Nat) (cnt0 : Nat → Nat) (x : Cfg) (H : Heap) (locs : List Loc) (lsC : Array Slot) : Prop :=
  Ok x.2.2.2 ∧ (∀ v ∈ x.2.1, okv x.2.2.2.2.1 v) ∧ (∀ v ∈ x.2.2.1, okv x.2.2.2.2.1 v) ∧ (∀ c, cnt0 c ≤ x.2.2.2.2.1 c) ∧ (x.2.2.2.1.2.1 ≤ B.1 ∧ x.2.2.2.1.2.2 ≤ B.2) ∧ Pic E x.2.2.2 H ∧ va_S (aE E) s.heap H locs ∧ LR E x.2.1 lsC nL
def PW (p : Program) (l : Launch) (e : Env) (R : Room) (s : State) (m : MethodId) (args : Array Value) (below : List Frame) (meth : Method) (c : Code) (Q : State → Prop) (E : EnvT) (nL : Nat) (B : Nat × Nat) (cnt0 : Nat → Nat) (x : Cfg) : Prop :=
  ∀ (H : Heap) (locs : List Loc) (lsC : Array Slot), Inv s E nL B cnt0 x H locs lsC → W p l e R s m args below meth c H locs x.2.2.2.1.2.1 x.2.2.2.1.2.2 Q (F0 m x.1 lsC (x.2.2.1.map (cv E)))
theorem Inv.st {s : State} {E : EnvT} {nL : Nat} {B : Nat × Nat} {cnt0 : Nat → Nat} {pc pc' : Nat} {ls st st' : List AV} {σ : AS} {H : Heap} {locs : List Loc} {lsC : Array Slot} (h : Inv s E nL B cnt0 (pc, ls, st, σ) H locs lsC) (hv : ∀ v ∈ st', okv σ.2.1 v) : Inv s E nL B cnt0 (pc', ls, st', σ) H locs lsC := ⟨h.1, h.2.1, hv, h.2.2.2⟩
theorem ok1 {n : Nat → Nat} {v : AV} {r : List AV} (h : ∀ w ∈ v :: r, okv n w) : okv n v ∧ ∀ w ∈ r, okv n w := ⟨h v List.mem_cons_self, fun w hw => h w (List.mem_cons_of_mem _ hw)⟩
theorem okc {n : Nat → Nat} {v : AV} {r : List AV} (h1 : okv n v) (h : ∀ w ∈ r, okv n w) : ∀ w ∈ v :: r, okv n w := fun w hw => by
  rcases List.mem_cons.mp hw with rfl | hw
  · exact h1
  · exact h w hw
theorem okx {n : Nat → Nat} {ls : List AV} (h : ∀ v ∈ ls, okv n v) (i : Nat) : okv n (nth ls i) := by
  cases hx : isX (nth ls i) with
  | false => exact h _ (List.mem_of_getElem? (nth_get ls i hx))
  | true =>
    generalize nth ls i = v at hx ⊢
    rcases v with a | a | a | a
    · cases hx
    · cases hx
    · cases hx
    · trivial
theorem LR.at {E : EnvT} {als : List AV} {ls : Array Slot} {nL n : Nat} {v : AV} (h : LR E als ls nL) (hv : nth als n = v) (hx : isX v = false) : ls[n]? = some (.val (cv E v)) := by
  subst hv
  exact h.2.2.2 n _ (nth_get als n hx) hx
theorem rf_none (E : EnvT) : rfE E none = .null := rfl
theorem rf_some (E : EnvT) (q : Nat × Nat) : rfE E (some q) = .ref (adE E q.1 q.2) := rfl
theorem c_iload {p : Program} {l : Launch} {e : Env} {R : Room} {s : State} {m : MethodId} {args : Array Value} {below : List Frame} {meth : Method} {c : Code} {Q : State → Prop} {E : EnvT} {own : String} {cc : ByteArray} {nL : Nat} {B : Nat × Nat} {cnt0 : Nat → Nat} (C0 : Cx p s m args meth c E own cc nL) {call : CallT} {post : Option AV → AS → Prop} {k : Cfg → Prop} {pc : Nat} {ls st : List AV} {σ : AS} {n : Nat} (hd : decode cc pc = .ok (.iload n, 2)) (hk : ∀ z, k z → PW p l e R s m args below meth c Q E nL B cnt0 z) (h : wE call post k (ldI σ (nth ls n) (fun v => nx (pc + 2) ls (v :: st) σ))) : PW p l e R s m args below meth c Q E nL B cnt0 (pc, ls, st, σ) := by
  obtain ⟨hx, hb, hml, hown, hts, hlk, hKn, hbs⟩ := C0
  intro H locs lsC hI
  generalize hv : nth ls n = v at h
  have hok := okx hI.2.1 n
  rw [hv] at hok
  have hat := fun hx => hI.2.2.2.2.2.2.2.at hv hx
  unfold ldI at h
  split at h
  · rename_i a
    exact lv_iload (ls := lsC) hx hb hd (hat rfl) (hk _ h H locs lsC (hI.st (okc hok hI.2.2.1)))
  · exact absurd h.1 id
theorem c_iload_n {p : Program} {l : Launch} {e : Env} {R : Room} {s : State} {m : MethodId} {args : Array Value} {below : List Frame} {meth : Method} {c : Code} {Q : State → Prop} {E : EnvT} {own : String} {cc : ByteArray} {nL : Nat} {B : Nat × Nat} {cnt0 : Nat → Nat} (C0 : Cx p s m args meth c E own cc nL) {call : CallT} {post : Option AV → AS → Prop} {k : Cfg → Prop} {pc : Nat} {ls st : List AV} {σ : AS} {n : Fin 4} (hd : decode cc pc = .ok (.iload_n n, 1)) (hk : ∀ z, k z → PW p l e R s m args below meth c Q E nL B cnt0 z) (h : wE call post k (ldI σ (nth ls n.val) (fun v => nx (pc + 1) ls (v :: st) σ))) : PW p l e R s m args below meth c Q E nL B cnt0 (pc, ls, st, σ) := by
  obtain ⟨hx, hb, hml, hown, hts, hlk, hKn, hbs⟩ := C0
  intro H locs lsC hI
  generalize hv : nth ls n.val = v at h
  have hok := okx hI.2.1 n.val
  rw [hv] at hok
  have hat := fun hx => hI.2.2.2.2.2.2.2.at hv hx
  unfold ldI at h
  split at h
  · rename_i a
    exact lv_iload_n (ls := lsC) hx hb hd rfl (hat rfl) (hk _ h H locs lsC (hI.st (okc hok hI.2.2.1)))
  · exact absurd h.1 id
theorem c_lload {p : Program} {l : Launch} {e : Env} {R : Room} {s : State} {m : MethodId} {args : Array Value} {below : List Frame} {meth : Method} {c : Code} {Q : State → Prop} {E : EnvT} {own : String} {cc : ByteArray} {nL : Nat} {B : Nat × Nat} {cnt0 : Nat → Nat} (C0 : Cx p s m args meth c E own cc nL) {call : CallT} {post : Option AV → AS → Prop} {k : Cfg → Prop} {pc : Nat} {ls st : List AV} {σ : AS} {n : Nat} (hd : decode cc pc = .ok (.lload n, 2)) (hk : ∀ z, k z → PW p l e R s m args below meth c Q E nL B cnt0 z) (h : wE call post k (ldL σ (nth ls n) (fun v => nx (pc + 2) ls (v :: st) σ))) : PW p l e R s m args below meth c Q E nL B cnt0 (pc, ls, st, σ) := by
  obtain ⟨hx, hb, hml, hown, hts, hlk, hKn, hbs⟩ := C0
  intro H locs lsC hI
  generalize hv : nth ls n = v at h
  have hok := okx hI.2.1 n
  rw [hv] at hok
  have hat := fun hx => hI.2.2.2.2.2.2.2.at hv hx
  unfold ldL at h
  split at h
  · rename_i a
    exact lv_lload (ls := lsC) hx hb hd (hat rfl) (hk _ h H locs lsC (hI.st (okc hok hI.2.2.1)))
  · exact absurd h.1 id
theorem c_lload_n {p : Program} {l : Launch} {e : Env} {R : Room} {s : State} {m : MethodId} {args : Array Value} {below : List Frame} {meth : Method} {c : Code} {Q : State → Prop} {E : EnvT} {own : String} {cc : ByteArray} {nL : Nat} {B : Nat × Nat} {cnt0 : Nat → Nat} (C0 : Cx p s m args meth c E own cc nL) {call : CallT} {post : Option AV → AS → Prop} {k : Cfg → Prop} {pc : Nat} {ls st : List AV} {σ : AS} {n : Fin 4} (hd : decode cc pc = .ok (.lload_n n, 1)) (hk : ∀ z, k z → PW p l e R s m args below meth c Q E nL B cnt0 z) (h : wE call post k (ldL σ (nth ls n.val) (fun v => nx (pc + 1) ls (v :: st) σ))) : PW p l e R s m args below meth c Q E nL B cnt0 (pc, ls, st, σ) := by
  obtain ⟨hx, hb, hml, hown, hts, hlk, hKn, hbs⟩ := C0
  intro H locs lsC hI
  generalize hv : nth ls n.val = v at h
  have hok := okx hI.2.1 n.val
  rw [hv] at hok
  have hat := fun hx => hI.2.2.2.2.2.2.2.at hv hx
  unfold ldL at h
  split at h
  · rename_i a
    exact lv_lload_n (ls := lsC) hx hb hd rfl (hat rfl) (hk _ h H locs lsC (hI.st (okc hok hI.2.2.1)))
  · exact absurd h.1 id
theorem c_aload {p : Program} {l : Launch} {e : Env} {R : Room} {s : State} {m : MethodId} {args : Array Value} {below : List Frame} {meth : Method} {c : Code} {Q : State → Prop} {E : EnvT} {own : String} {cc : ByteArray} {nL : Nat} {B : Nat × Nat} {cnt0 : Nat → Nat} (C0 : Cx p s m args meth c E own cc nL) {call : CallT} {post : Option AV → AS → Prop} {k : Cfg → Prop} {pc : Nat} {ls st : List AV} {σ : AS} {n : Nat} (hd : decode cc pc = .ok (.aload n, 2)) (hk : ∀ z, k z → PW p l e R s m args below meth c Q E nL B cnt0 z) (h : wE call post k (ldA σ (nth ls n) (fun v => nx (pc + 2) ls (v :: st) σ))) : PW p l e R s m args below meth c Q E nL B cnt0 (pc, ls, st, σ) := by
  obtain ⟨hx, hb, hml, hown, hts, hlk, hKn, hbs⟩ := C0
  intro H locs lsC hI
  generalize hv : nth ls n = v at h
  have hok := okx hI.2.1 n
  rw [hv] at hok
  have hat := fun hx => hI.2.2.2.2.2.2.2.at hv hx
  unfold ldA at h
  split at h
  · rename_i a
    rcases a with _ | q
    · exact lv_aloadN (ls := lsC) hx hb hd (hat rfl) (hk _ h H locs lsC (hI.st (okc hok hI.2.2.1)))
    · exact lv_aload (ls := lsC) hx hb hd (hat rfl) (hk _ h H locs lsC (hI.st (okc hok hI.2.2.1)))
  · exact absurd h.1 id
theorem c_aload_n {p : Program} {l : Launch} {e : Env} {R : Room} {s : State} {m : MethodId} {args : Array Value} {below : List Frame} {meth : Method} {c : Code} {Q : State → Prop} {E : EnvT} {own : String} {cc : ByteArray} {nL : Nat} {B : Nat × Nat} {cnt0 : Nat → Nat} (C0 : Cx p s m args meth c E own cc nL) {call : CallT} {post : Option AV → AS → Prop} {k : Cfg → Prop} {pc : Nat} {ls st : List AV} {σ : AS} {n : Fin 4} (hd : decode cc pc = .ok (.aload_n n, 1)) (hk : ∀ z, k z → PW p l e R s m args below meth c Q E nL B cnt0 z) (h : wE call post k (ldA σ (nth ls n.val) (fun v => nx (pc + 1) ls (v :: st) σ))) : PW p l e R s m args below meth c Q E nL B cnt0 (pc, ls, st, σ) := by
  obtain ⟨hx, hb, hml, hown, hts, hlk, hKn, hbs⟩ := C0
  intro H locs lsC hI
  generalize hv : nth ls n.val = v at h
  have hok := okx hI.2.1 n.val
  rw [hv] at hok
  have hat := fun hx => hI.2.2.2.2.2.2.2.at hv hx
  unfold ldA at h
  split at h
  · rename_i a
    rcases a with _ | q
    · exact lv_aload_nN (ls := lsC) hx hb hd rfl (hat rfl) (hk _ h H locs lsC (hI.st (okc hok hI.2.2.1)))
    · exact lv_aload_n (ls := lsC) hx hb hd rfl (hat rfl) (hk _ h H locs lsC (hI.st (okc hok hI.2.2.1)))
  · exact absurd h.1 id
theorem c_iconst {p : Program} {l : Launch} {e : Env} {R : Room} {s : State} {m : MethodId} {args : Array Value} {below : List Frame} {meth : Method} {c : Code} {Q : State → Prop} {E : EnvT} {own : String} {cc : ByteArray} {nL : Nat} {B : Nat × Nat} {cnt0 : Nat → Nat} (C0 : Cx p s m args meth c E own cc nL) {call : CallT} {post : Option AV → AS → Prop} {k : Cfg → Prop} {pc : Nat} {ls st : List AV} {σ : AS} {v : Int} (hv : InI v) (hd : decode cc pc = .ok (.iconst v, 1)) (hk : ∀ z, k z → PW p l e R s m args below meth c Q E nL B cnt0 z) (h : wE call post k (nx (pc + 1) ls (.inl v :: st) σ)) : PW p l e R s m args below meth c Q E nL B cnt0 (pc, ls, st, σ) := by
  obtain ⟨hx, hb, hml, hown, hts, hlk, hKn, hbs⟩ := C0
  intro H locs lsC hI
  exact lv_iconst (ls := lsC) hx hb hd rfl (hk _ h H locs lsC (hI.st (okc hv hI.2.2.1)))
theorem c_bipush {p : Program} {l : Launch} {e : Env} {R : Room} {s : State} {m : MethodId} {args : Array Value} {below : List Frame} {meth : Method} {c : Code} {Q : State → Prop} {E : EnvT} {own : String} {cc : ByteArray} {nL : Nat} {B : Nat × Nat} {cnt0 : Nat → Nat} (C0 : Cx p s m args meth c E own cc nL) {call : CallT} {post : Option AV → AS → Prop} {k : Cfg → Prop} {pc : Nat} {ls st : List AV} {σ : AS} {v : Int} (hv : -128 ≤ v ∧ v ≤ 127) (hd : decode cc pc = .ok (.bipush v, 2)) (hk : ∀ z, k z → PW p l e R s m args below meth c Q E nL B cnt0 z) (h : wE call post k (nx (pc + 2) ls (.inl v :: st) σ)) : PW p l e R s m args below meth c Q E nL B cnt0 (pc, ls, st, σ) := by
  obtain ⟨hx, hb, hml, hown, hts, hlk, hKn, hbs⟩ := C0
  intro H locs lsC hI
  refine lv_bipush (v := i32 v) (ls := lsC) hx hb hd ?_ (hk _ h H locs lsC (hI.st (okc (show InI v by omega) hI.2.2.1)))
  refine Int32.toInt_inj.mp ?_
  rw [i32_to (by omega), Int8.toInt_toInt32, Int8.toInt_ofInt_of_le (by omega) (by omega)]
theorem c_sipush {p : Program} {l : Launch} {e : Env} {R : Room} {s : State} {m : MethodId} {args : Array Value} {below : List Frame} {meth : Method} {c : Code} {Q : State → Prop} {E : EnvT} {own : String} {cc : ByteArray} {nL : Nat} {B : Nat × Nat} {cnt0 : Nat → Nat} (C0 : Cx p s m args meth c E own cc nL) {call : CallT} {post : Option AV → AS → Prop} {k : Cfg → Prop} {pc : Nat} {ls st : List AV} {σ : AS} {v : Int} (hv : -32768 ≤ v ∧ v ≤ 32767) (hd : decode cc pc = .ok (.sipush v, 3)) (hk : ∀ z, k z → PW p l e R s m args below meth c Q E nL B cnt0 z) (h : wE call post k (nx (pc + 3) ls (.inl v :: st) σ)) : PW p l e R s m args below meth c Q E nL B cnt0 (pc, ls, st, σ) := by
  obtain ⟨hx, hb, hml, hown, hts, hlk, hKn, hbs⟩ := C0
  intro H locs lsC hI
  refine lv_sipush (v := i32 v) (ls := lsC) hx hb hd ?_ (hk _ h H locs lsC (hI.st (okc (show InI v by omega) hI.2.2.1)))
  refine Int32.toInt_inj.mp ?_
  rw [i32_to (by omega), Int16.toInt_toInt32, Int16.toInt_ofInt_of_le (by omega) (by omega)]
theorem c_lconst {p : Program} {l : Launch} {e : Env} {R : Room} {s : State} {m : MethodId} {args : Array Value} {below : List Frame} {meth : Method} {c : Code} {Q : State → Prop} {E : EnvT} {own : String} {cc : ByteArray} {nL : Nat} {B : Nat × Nat} {cnt0 : Nat → Nat} (C0 : Cx p s m args meth c E own cc nL) {call : CallT} {post : Option AV → AS → Prop} {k : Cfg → Prop} {pc : Nat} {ls st : List AV} {σ : AS} {v : Fin 2} (hd : decode cc pc = .ok (.lconst v, 1)) (hk : ∀ z, k z → PW p l e R s m args below meth c Q E nL B cnt0 z) (h : wE call post k (nx (pc + 1) ls (.inr (.inl ((v.val : Nat) : Int)) :: st) σ)) : PW p l e R s m args below meth c Q E nL B cnt0 (pc, ls, st, σ) := by
  obtain ⟨hx, hb, hml, hown, hts, hlk, hKn, hbs⟩ := C0
  intro H locs lsC hI
  refine lv_lconst (v := i64 ((v.val : Nat) : Int)) (ls := lsC) hx hb hd ?_ (hk _ h H locs lsC (hI.st (okc (show InL ((v.val : Nat) : Int) by have := v.isLt; omega) hI.2.2.1)))
  rcases v with ⟨v, hv⟩
  rcases (by omega : v = 0 ∨ v = 1) with rfl | rfl <;> rfl
theorem c_ldc2_w {p : Program} {l : Launch} {e : Env} {R : Room} {s : State} {m : MethodId} {args : Array Value} {below : List Frame} {meth : Method} {c : Code} {Q : State → Prop} {E : EnvT} {own : String} {cc : ByteArray} {nL : Nat} {B : Nat × Nat} {cnt0 : Nat → Nat} (C0 : Cx p s m args meth c E own cc nL) {call : CallT} {post : Option AV → AS → Prop} {k : Cfg → Prop} {pc : Nat} {ls st : List AV} {σ : AS} {i : Nat} {v : Int} (hv : InL v) (hw : Jvm.Cond.constantLong own i (i64 v) ∈ lw_tbl) (hd : decode cc pc = .ok (.ldc2_w i, 3)) (hk : ∀ z, k z → PW p l e R s m args below meth c Q E nL B cnt0 z) (h : wE call post k (nx (pc + 3) ls (.inr (.inl v) :: st) σ)) : PW p l e R s m args below meth c Q E nL B cnt0 (pc, ls, st, σ) := by
  obtain ⟨hx, hb, hml, hown, hts, hlk, hKn, hbs⟩ := C0
  intro H locs lsC hI
  exact lv_ldc2 (ls := lsC) hx hb hown (hts _ (tb_in hw rfl)) hd (hk _ h H locs lsC (hI.st (okc hv hI.2.2.1)))
theorem c_aconst_null {p : Program} {l : Launch} {e : Env} {R : Room} {s : State} {m : MethodId} {args : Array Value} {below : List Frame} {meth : Method} {c : Code} {Q : State → Prop} {E : EnvT} {own : String} {cc : ByteArray} {nL : Nat} {B : Nat × Nat} {cnt0 : Nat → Nat} (C0 : Cx p s m args meth c E own cc nL) {call : CallT} {post : Option AV → AS → Prop} {k : Cfg → Prop} {pc : Nat} {ls st : List AV} {σ : AS} (hd : decode cc pc = .ok (.aconst_null, 1)) (hk : ∀ z, k z → PW p l e R s m args below meth c Q E nL B cnt0 z) (h : wE call post k (nx (pc + 1) ls (.inr (.inr (.inl none)) :: st) σ)) : PW p l e R s m args below meth c Q E nL B cnt0 (pc, ls, st, σ) := by
  obtain ⟨hx, hb, hml, hown, hts, hlk, hKn, hbs⟩ := C0
  intro H locs lsC hI
  exact lv_null (ls := lsC) hx hb hd (hk _ h H locs lsC (hI.st (okc (okr_none _) hI.2.2.1)))
theorem c_ldc {p : Program} {l : Launch} {e : Env} {R : Room} {s : State} {m : MethodId} {args : Array Value} {below : List Frame} {meth : Method} {c : Code} {Q : State → Prop} {E : EnvT} {own : String} {cc : ByteArray} {nL : Nat} {B : Nat × Nat} {cnt0 : Nat → Nat} (C0 : Cx p s m args meth c E own cc nL) {call : CallT} {post : Option AV → AS → Prop} {k : Cfg → Prop} {pc : Nat} {ls st : List AV} {σ : AS} {i a : Nat} (ha : a < 10) (hi : idxS a = i) (ho : own = "EchoValley$Reader") (hd : decode cc pc = .ok (.ldc i, 2)) (hk : ∀ z, k z → PW p l e R s m args below meth c Q E nL B cnt0 z) (h : wE call post k (nx (pc + 2) ls (.inr (.inr (.inl (some (100, a)))) :: st) σ)) : PW p l e R s m args below meth c Q E nL B cnt0 (pc, ls, st, σ) := by
  obtain ⟨hx, hb, hml, hown, hts, hlk, hKn, hbs⟩ := C0
  intro H locs lsC hI
  subst hi
  subst ho
  refine va_ldcS (ls := lsC) hx hb hown (hKn.2.2.2.1 a ha) hd (hk _ h H locs lsC (hI.st (okc ?_ hI.2.2.1)))
  intro c i he
  cases he
  exact ⟨fun z => absurd z (by omega), fun _ => Or.inl ⟨rfl, ha⟩⟩
theorem c_iadd {p : Program} {l : Launch} {e : Env} {R : Room} {s : State} {m : MethodId} {args : Array Value} {below : List Frame} {meth : Method} {c : Code} {Q : State → Prop} {E : EnvT} {own : String} {cc : ByteArray} {nL : Nat} {B : Nat × Nat} {cnt0 : Nat → Nat} (C0 : Cx p s m args meth c E own cc nL) {call : CallT} {post : Option AV → AS → Prop} {k : Cfg → Prop} {pc : Nat} {ls st : List AV} {σ : AS} (hd : decode cc pc = .ok (.iadd, 1)) (hk : ∀ z, k z → PW p l e R s m args below meth c Q E nL B cnt0 z) (h : wE call post k (ii σ st (fun x y r => gx (InI (x + y)) (pc + 1) ls (.inl (x + y) :: r) σ))) : PW p l e R s m args below meth c Q E nL B cnt0 (pc, ls, st, σ) := by
  obtain ⟨hx, hb, hml, hown, hts, hlk, hKn, hbs⟩ := C0
  intro H locs lsC hI
  unfold ii at h
  split at h
  · rename_i y x r
    obtain ⟨oy, o2⟩ := ok1 hI.2.2.1
    obtain ⟨ox, o3⟩ := ok1 o2
    have ox : InI x := ox
    have oy : InI y := oy
    obtain ⟨hg, hz⟩ := h
    refine lv_iadd (ls := lsC) hx hb hd ?_
    rw [← i32_add]
    exact hk _ hz H locs lsC (hI.st (okc (hg) o3))
  · exact absurd h.1 id
theorem c_isub {p : Program} {l : Launch} {e : Env} {R : Room} {s : State} {m : MethodId} {args : Array Value} {below : List Frame} {meth : Method} {c : Code} {Q : State → Prop} {E : EnvT} {own : String} {cc : ByteArray} {nL : Nat} {B : Nat × Nat} {cnt0 : Nat → Nat} (C0 : Cx p s m args meth c E own cc nL) {call : CallT} {post : Option AV → AS → Prop} {k : Cfg → Prop} {pc : Nat} {ls st : List AV} {σ : AS} (hd : decode cc pc = .ok (.isub, 1)) (hk : ∀ z, k z → PW p l e R s m args below meth c Q E nL B cnt0 z) (h : wE call post k (ii σ st (fun x y r => gx (InI (x - y)) (pc + 1) ls (.inl (x - y) :: r) σ))) : PW p l e R s m args below meth c Q E nL B cnt0 (pc, ls, st, σ) := by
  obtain ⟨hx, hb, hml, hown, hts, hlk, hKn, hbs⟩ := C0
  intro H locs lsC hI
  unfold ii at h
  split at h
  · rename_i y x r
    obtain ⟨oy, o2⟩ := ok1 hI.2.2.1
    obtain ⟨ox, o3⟩ := ok1 o2
    have ox : InI x := ox
    have oy : InI y := oy
    obtain ⟨hg, hz⟩ := h
    refine lv_isub (ls := lsC) hx hb hd ?_
    rw [← i32_sub]
    exact hk _ hz H locs lsC (hI.st (okc (hg) o3))
  · exact absurd h.1 id
theorem c_imul {p : Program} {l : Launch} {e : Env} {R : Room} {s : State} {m : MethodId} {args : Array Value} {below : List Frame} {meth : Method} {c : Code} {Q : State → Prop} {E : EnvT} {own : String} {cc : ByteArray} {nL : Nat} {B : Nat × Nat} {cnt0 : Nat → Nat} (C0 : Cx p s m args meth c E own cc nL) {call : CallT} {post : Option AV → AS → Prop} {k : Cfg → Prop} {pc : Nat} {ls st : List AV} {σ : AS} (hd : decode cc pc = .ok (.imul, 1)) (hk : ∀ z, k z → PW p l e R s m args below meth c Q E nL B cnt0 z) (h : wE call post k (ii σ st (fun x y r => gx (InI (x * y)) (pc + 1) ls (.inl (x * y) :: r) σ))) : PW p l e R s m args below meth c Q E nL B cnt0 (pc, ls, st, σ) := by
  obtain ⟨hx, hb, hml, hown, hts, hlk, hKn, hbs⟩ := C0
  intro H locs lsC hI
  unfold ii at h
  split at h
  · rename_i y x r
    obtain ⟨oy, o2⟩ := ok1 hI.2.2.1
    obtain ⟨ox, o3⟩ := ok1 o2
    have ox : InI x := ox
    have oy : InI y := oy
    obtain ⟨hg, hz⟩ := h
    refine lv_imul (ls := lsC) hx hb hd ?_
    rw [← i32_mul]
    exact hk _ hz H locs lsC (hI.st (okc (hg) o3))
  · exact absurd h.1 id
theorem c_ladd {p : Program} {l : Launch} {e : Env} {R : Room} {s : State} {m : MethodId} {args : Array Value} {below : List Frame} {meth : Method} {c : Code} {Q : State → Prop} {E : EnvT} {own : String} {cc : ByteArray} {nL : Nat} {B : Nat × Nat} {cnt0 : Nat → Nat} (C0 : Cx p s m args meth c E own cc nL) {call : CallT} {post : Option AV → AS → Prop} {k : Cfg → Prop} {pc : Nat} {ls st : List AV} {σ : AS} (hd : decode cc pc = .ok (.ladd, 1)) (hk : ∀ z, k z → PW p l e R s m args below meth c Q E nL B cnt0 z) (h : wE call post k (ll σ st (fun x y r => gx (InL (x + y)) (pc + 1) ls (.inr (.inl (x + y)) :: r) σ))) : PW p l e R s m args below meth c Q E nL B cnt0 (pc, ls, st, σ) := by
  obtain ⟨hx, hb, hml, hown, hts, hlk, hKn, hbs⟩ := C0
  intro H locs lsC hI
  unfold ll at h
  split at h
  · rename_i y x r
    obtain ⟨oy, o2⟩ := ok1 hI.2.2.1
    obtain ⟨ox, o3⟩ := ok1 o2
    have ox : InL x := ox
    have oy : InL y := oy
    obtain ⟨hg, hz⟩ := h
    refine lv_ladd (ls := lsC) hx hb hd ?_
    rw [← i64_add]
    exact hk _ hz H locs lsC (hI.st (okc (hg) o3))
  · exact absurd h.1 id
theorem c_lsub {p : Program} {l : Launch} {e : Env} {R : Room} {s : State} {m : MethodId} {args : Array Value} {below : List Frame} {meth : Method} {c : Code} {Q : State → Prop} {E : EnvT} {own : String} {cc : ByteArray} {nL : Nat} {B : Nat × Nat} {cnt0 : Nat → Nat} (C0 : Cx p s m args meth c E own cc nL) {call : CallT} {post : Option AV → AS → Prop} {k : Cfg → Prop} {pc : Nat} {ls st : List AV} {σ : AS} (hd : decode cc pc = .ok (.lsub, 1)) (hk : ∀ z, k z → PW p l e R s m args below meth c Q E nL B cnt0 z) (h : wE call post k (ll σ st (fun x y r => gx (InL (x - y)) (pc + 1) ls (.inr (.inl (x - y)) :: r) σ))) : PW p l e R s m args below meth c Q E nL B cnt0 (pc, ls, st, σ) := by
  obtain ⟨hx, hb, hml, hown, hts, hlk, hKn, hbs⟩ := C0
  intro H locs lsC hI
  unfold ll at h
  split at h
  · rename_i y x r
    obtain ⟨oy, o2⟩ := ok1 hI.2.2.1
    obtain ⟨ox, o3⟩ := ok1 o2
    have ox : InL x := ox
    have oy : InL y := oy
    obtain ⟨hg, hz⟩ := h
    refine lv_lsub (ls := lsC) hx hb hd ?_
    rw [← i64_sub]
    exact hk _ hz H locs lsC (hI.st (okc (hg) o3))
  · exact absurd h.1 id
theorem c_lmul {p : Program} {l : Launch} {e : Env} {R : Room} {s : State} {m : MethodId} {args : Array Value} {below : List Frame} {meth : Method} {c : Code} {Q : State → Prop} {E : EnvT} {own : String} {cc : ByteArray} {nL : Nat} {B : Nat × Nat} {cnt0 : Nat → Nat} (C0 : Cx p s m args meth c E own cc nL) {call : CallT} {post : Option AV → AS → Prop} {k : Cfg → Prop} {pc : Nat} {ls st : List AV} {σ : AS} (hd : decode cc pc = .ok (.lmul, 1)) (hk : ∀ z, k z → PW p l e R s m args below meth c Q E nL B cnt0 z) (h : wE call post k (ll σ st (fun x y r => gx (InL (x * y)) (pc + 1) ls (.inr (.inl (x * y)) :: r) σ))) : PW p l e R s m args below meth c Q E nL B cnt0 (pc, ls, st, σ) := by
  obtain ⟨hx, hb, hml, hown, hts, hlk, hKn, hbs⟩ := C0
  intro H locs lsC hI
  unfold ll at h
  split at h
  · rename_i y x r
    obtain ⟨oy, o2⟩ := ok1 hI.2.2.1
    obtain ⟨ox, o3⟩ := ok1 o2
    have ox : InL x := ox
    have oy : InL y := oy
    obtain ⟨hg, hz⟩ := h
    refine lv_lmul (ls := lsC) hx hb hd ?_
    rw [← i64_mul]
    exact hk _ hz H locs lsC (hI.st (okc (hg) o3))
  · exact absurd h.1 id
theorem c_idiv {p : Program} {l : Launch} {e : Env} {R : Room} {s : State} {m : MethodId} {args : Array Value} {below : List Frame} {meth : Method} {c : Code} {Q : State → Prop} {E : EnvT} {own : String} {cc : ByteArray} {nL : Nat} {B : Nat × Nat} {cnt0 : Nat → Nat} (C0 : Cx p s m args meth c E own cc nL) {call : CallT} {post : Option AV → AS → Prop} {k : Cfg → Prop} {pc : Nat} {ls st : List AV} {σ : AS} (hd : decode cc pc = .ok (.idiv, 1)) (hk : ∀ z, k z → PW p l e R s m args below meth c Q E nL B cnt0 z) (h : wE call post k (ii σ st (fun x y r => gx (0 ≤ x ∧ 0 < y) (pc + 1) ls (.inl (x / y) :: r) σ))) : PW p l e R s m args below meth c Q E nL B cnt0 (pc, ls, st, σ) := by
  obtain ⟨hx, hb, hml, hown, hts, hlk, hKn, hbs⟩ := C0
  intro H locs lsC hI
  unfold ii at h
  split at h
  · rename_i y x r
    obtain ⟨oy, o2⟩ := ok1 hI.2.2.1
    obtain ⟨ox, o3⟩ := ok1 o2
    have ox : InI x := ox
    have oy : InI y := oy
    obtain ⟨hg, hz⟩ := h
    refine lv_idiv (ls := lsC) hx hb hd (fun z => absurd ((i32_inj oy (show InI 0 by omega)).mp z) (by omega)) ?_
    rw [← i32_div hg ox oy]
    exact hk _ hz H locs lsC (hI.st (okc (show InI (x / y) from ⟨Int.le_trans (by decide) (Int.ediv_nonneg hg.1 (Int.le_of_lt hg.2)), Int.le_trans (Int.ediv_le_self _ hg.1) ox.2⟩) o3))
  · exact absurd h.1 id
theorem c_ldiv {p : Program} {l : Launch} {e : Env} {R : Room} {s : State} {m : MethodId} {args : Array Value} {below : List Frame} {meth : Method} {c : Code} {Q : State → Prop} {E : EnvT} {own : String} {cc : ByteArray} {nL : Nat} {B : Nat × Nat} {cnt0 : Nat → Nat} (C0 : Cx p s m args meth c E own cc nL) {call : CallT} {post : Option AV → AS → Prop} {k : Cfg → Prop} {pc : Nat} {ls st : List AV} {σ : AS} (hd : decode cc pc = .ok (.ldiv, 1)) (hk : ∀ z, k z → PW p l e R s m args below meth c Q E nL B cnt0 z) (h : wE call post k (ll σ st (fun x y r => gx (0 ≤ x ∧ 0 < y) (pc + 1) ls (.inr (.inl (x / y)) :: r) σ))) : PW p l e R s m args below meth c Q E nL B cnt0 (pc, ls, st, σ) := by
  obtain ⟨hx, hb, hml, hown, hts, hlk, hKn, hbs⟩ := C0
  intro H locs lsC hI
  unfold ll at h
  split at h
  · rename_i y x r
    obtain ⟨oy, o2⟩ := ok1 hI.2.2.1
    obtain ⟨ox, o3⟩ := ok1 o2
    have ox : InL x := ox
    have oy : InL y := oy
    obtain ⟨hg, hz⟩ := h
    refine lv_ldiv (ls := lsC) hx hb hd (fun z => by have z2 := congrArg Int64.toInt z; rw [i64_to oy] at z2; have z3 : y = 0 := z2; omega) ?_
    rw [← i64_div hg ox oy]
    exact hk _ hz H locs lsC (hI.st (okc (show InL (x / y) from ⟨Int.le_trans (by decide) (Int.ediv_nonneg hg.1 (Int.le_of_lt hg.2)), Int.le_trans (Int.ediv_le_self _ hg.1) ox.2⟩) o3))
  · exact absurd h.1 id
theorem c_irem {p : Program} {l : Launch} {e : Env} {R : Room} {s : State} {m : MethodId} {args : Array Value} {below : List Frame} {meth : Method} {c : Code} {Q : State → Prop} {E : EnvT} {own : String} {cc : ByteArray} {nL : Nat} {B : Nat × Nat} {cnt0 : Nat → Nat} (C0 : Cx p s m args meth c E own cc nL) {call : CallT} {post : Option AV → AS → Prop} {k : Cfg → Prop} {pc : Nat} {ls st : List AV} {σ : AS} (hd : decode cc pc = .ok (.irem, 1)) (hk : ∀ z, k z → PW p l e R s m args below meth c Q E nL B cnt0 z) (h : wE call post k (ii σ st (fun x y r => gx (0 ≤ x ∧ 0 < y) (pc + 1) ls (.inl (x % y) :: r) σ))) : PW p l e R s m args below meth c Q E nL B cnt0 (pc, ls, st, σ) := by
  obtain ⟨hx, hb, hml, hown, hts, hlk, hKn, hbs⟩ := C0
  intro H locs lsC hI
  unfold ii at h
  split at h
  · rename_i y x r
    obtain ⟨oy, o2⟩ := ok1 hI.2.2.1
    obtain ⟨ox, o3⟩ := ok1 o2
    have ox : InI x := ox
    have oy : InI y := oy
    obtain ⟨hg, hz⟩ := h
    refine lv_irem (ls := lsC) hx hb hd (fun z => absurd ((i32_inj oy (show InI 0 by omega)).mp z) (by omega)) ?_
    rw [← i32_rem hg ox oy]
    exact hk _ hz H locs lsC (hI.st (okc (show InI (x % y) from ⟨Int.le_trans (by decide) (Int.emod_nonneg _ (by omega)), Int.le_trans (Int.le_of_lt (Int.emod_lt_of_pos _ hg.2)) oy.2⟩) o3))
  · exact absurd h.1 id
theorem c_iand {p : Program} {l : Launch} {e : Env} {R : Room} {s : State} {m : MethodId} {args : Array Value} {below : List Frame} {meth : Method} {c : Code} {Q : State → Prop} {E : EnvT} {own : String} {cc : ByteArray} {nL : Nat} {B : Nat × Nat} {cnt0 : Nat → Nat} (C0 : Cx p s m args meth c E own cc nL) {call : CallT} {post : Option AV → AS → Prop} {k : Cfg → Prop} {pc : Nat} {ls st : List AV} {σ : AS} (hd : decode cc pc = .ok (.iand, 1)) (hk : ∀ z, k z → PW p l e R s m args below meth c Q E nL B cnt0 z) (h : wE call post k (ii σ st (fun x y r => nx (pc + 1) ls (.inl (andv x y) :: r) σ))) : PW p l e R s m args below meth c Q E nL B cnt0 (pc, ls, st, σ) := by
  obtain ⟨hx, hb, hml, hown, hts, hlk, hKn, hbs⟩ := C0
  intro H locs lsC hI
  unfold ii at h
  split at h
  · rename_i y x r
    obtain ⟨oy, o2⟩ := ok1 hI.2.2.1
    obtain ⟨ox, o3⟩ := ok1 o2
    have ox : InI x := ox
    have oy : InI y := oy
    have hz := h
    refine lv_iand (ls := lsC) hx hb hd ?_
    rw [← show i32 (andv x y) = _ from i32_of _]
    exact hk _ hz H locs lsC (hI.st (okc (i32_in _) o3))
  · exact absurd h.1 id
theorem c_ior {p : Program} {l : Launch} {e : Env} {R : Room} {s : State} {m : MethodId} {args : Array Value} {below : List Frame} {meth : Method} {c : Code} {Q : State → Prop} {E : EnvT} {own : String} {cc : ByteArray} {nL : Nat} {B : Nat × Nat} {cnt0 : Nat → Nat} (C0 : Cx p s m args meth c E own cc nL) {call : CallT} {post : Option AV → AS → Prop} {k : Cfg → Prop} {pc : Nat} {ls st : List AV} {σ : AS} (hd : decode cc pc = .ok (.ior, 1)) (hk : ∀ z, k z → PW p l e R s m args below meth c Q E nL B cnt0 z) (h : wE call post k (ii σ st (fun x y r => nx (pc + 1) ls (.inl (orv x y) :: r) σ))) : PW p l e R s m args below meth c Q E nL B cnt0 (pc, ls, st, σ) := by
  obtain ⟨hx, hb, hml, hown, hts, hlk, hKn, hbs⟩ := C0
  intro H locs lsC hI
  unfold ii at h
  split at h
  · rename_i y x r
    obtain ⟨oy, o2⟩ := ok1 hI.2.2.1
    obtain ⟨ox, o3⟩ := ok1 o2
    have ox : InI x := ox
    have oy : InI y := oy
    have hz := h
    refine lv_ior (ls := lsC) hx hb hd ?_
    rw [← show i32 (orv x y) = _ from i32_of _]
    exact hk _ hz H locs lsC (hI.st (okc (i32_in _) o3))
  · exact absurd h.1 id
theorem c_ixor {p : Program} {l : Launch} {e : Env} {R : Room} {s : State} {m : MethodId} {args : Array Value} {below : List Frame} {meth : Method} {c : Code} {Q : State → Prop} {E : EnvT} {own : String} {cc : ByteArray} {nL : Nat} {B : Nat × Nat} {cnt0 : Nat → Nat} (C0 : Cx p s m args meth c E own cc nL) {call : CallT} {post : Option AV → AS → Prop} {k : Cfg → Prop} {pc : Nat} {ls st : List AV} {σ : AS} (hd : decode cc pc = .ok (.ixor, 1)) (hk : ∀ z, k z → PW p l e R s m args below meth c Q E nL B cnt0 z) (h : wE call post k (ii σ st (fun x y r => nx (pc + 1) ls (.inl (xorv x y) :: r) σ))) : PW p l e R s m args below meth c Q E nL B cnt0 (pc, ls, st, σ) := by
  obtain ⟨hx, hb, hml, hown, hts, hlk, hKn, hbs⟩ := C0
  intro H locs lsC hI
  unfold ii at h
  split at h
  · rename_i y x r
    obtain ⟨oy, o2⟩ := ok1 hI.2.2.1
    obtain ⟨ox, o3⟩ := ok1 o2
    have ox : InI x := ox
    have oy : InI y := oy
    have hz := h
    refine lv_ixor (ls := lsC) hx hb hd ?_
    rw [← show i32 (xorv x y) = _ from i32_of _]
    exact hk _ hz H locs lsC (hI.st (okc (i32_in _) o3))
  · exact absurd h.1 id
theorem c_ishl {p : Program} {l : Launch} {e : Env} {R : Room} {s : State} {m : MethodId} {args : Array Value} {below : List Frame} {meth : Method} {c : Code} {Q : State → Prop} {E : EnvT} {own : String} {cc : ByteArray} {nL : Nat} {B : Nat × Nat} {cnt0 : Nat → Nat} (C0 : Cx p s m args meth c E own cc nL) {call : CallT} {post : Option AV → AS → Prop} {k : Cfg → Prop} {pc : Nat} {ls st : List AV} {σ : AS} (hd : decode cc pc = .ok (.ishl, 1)) (hk : ∀ z, k z → PW p l e R s m args below meth c Q E nL B cnt0 z) (h : wE call post k (ii σ st (fun x y r => nx (pc + 1) ls (.inl (shlv x y) :: r) σ))) : PW p l e R s m args below meth c Q E nL B cnt0 (pc, ls, st, σ) := by
  obtain ⟨hx, hb, hml, hown, hts, hlk, hKn, hbs⟩ := C0
  intro H locs lsC hI
  unfold ii at h
  split at h
  · rename_i y x r
    obtain ⟨oy, o2⟩ := ok1 hI.2.2.1
    obtain ⟨ox, o3⟩ := ok1 o2
    have ox : InI x := ox
    have oy : InI y := oy
    have hz := h
    refine lv_ishl (ls := lsC) hx hb hd ?_
    rw [← show i32 (shlv x y) = _ from i32_of _]
    exact hk _ hz H locs lsC (hI.st (okc (i32_in _) o3))
  · exact absurd h.1 id
theorem c_ishr {p : Program} {l : Launch} {e : Env} {R : Room} {s : State} {m : MethodId} {args : Array Value} {below : List Frame} {meth : Method} {c : Code} {Q : State → Prop} {E : EnvT} {own : String} {cc : ByteArray} {nL : Nat} {B : Nat × Nat} {cnt0 : Nat → Nat} (C0 : Cx p s m args meth c E own cc nL) {call : CallT} {post : Option AV → AS → Prop} {k : Cfg → Prop} {pc : Nat} {ls st : List AV} {σ : AS} (hd : decode cc pc = .ok (.ishr, 1)) (hk : ∀ z, k z → PW p l e R s m args below meth c Q E nL B cnt0 z) (h : wE call post k (ii σ st (fun x y r => nx (pc + 1) ls (.inl (shrv x y) :: r) σ))) : PW p l e R s m args below meth c Q E nL B cnt0 (pc, ls, st, σ) := by
  obtain ⟨hx, hb, hml, hown, hts, hlk, hKn, hbs⟩ := C0
  intro H locs lsC hI
  unfold ii at h
  split at h
  · rename_i y x r
    obtain ⟨oy, o2⟩ := ok1 hI.2.2.1
    obtain ⟨ox, o3⟩ := ok1 o2
    have ox : InI x := ox
    have oy : InI y := oy
    have hz := h
    refine lv_ishr (ls := lsC) hx hb hd ?_
    rw [← show i32 (shrv x y) = _ from i32_of _]
    exact hk _ hz H locs lsC (hI.st (okc (i32_in _) o3))
  · exact absurd h.1 id
theorem c_iushr {p : Program} {l : Launch} {e : Env} {R : Room} {s : State} {m : MethodId} {args : Array Value} {below : List Frame} {meth : Method} {c : Code} {Q : State → Prop} {E : EnvT} {own : String} {cc : ByteArray} {nL : Nat} {B : Nat × Nat} {cnt0 : Nat → Nat} (C0 : Cx p s m args meth c E own cc nL) {call : CallT} {post : Option AV → AS → Prop} {k : Cfg → Prop} {pc : Nat} {ls st : List AV} {σ : AS} (hd : decode cc pc = .ok (.iushr, 1)) (hk : ∀ z, k z → PW p l e R s m args below meth c Q E nL B cnt0 z) (h : wE call post k (ii σ st (fun x y r => nx (pc + 1) ls (.inl (ushrv x y) :: r) σ))) : PW p l e R s m args below meth c Q E nL B cnt0 (pc, ls, st, σ) := by
  obtain ⟨hx, hb, hml, hown, hts, hlk, hKn, hbs⟩ := C0
  intro H locs lsC hI
  unfold ii at h
  split at h
  · rename_i y x r
    obtain ⟨oy, o2⟩ := ok1 hI.2.2.1
    obtain ⟨ox, o3⟩ := ok1 o2
    exact lv_iushr (v := i32 (ushrv x y)) (ls := lsC) hx hb hd (i32_of _).symm (hk _ h H locs lsC (hI.st (okc (i32_in _) o3)))
  · exact absurd h.1 id
theorem c_lshr {p : Program} {l : Launch} {e : Env} {R : Room} {s : State} {m : MethodId} {args : Array Value} {below : List Frame} {meth : Method} {c : Code} {Q : State → Prop} {E : EnvT} {own : String} {cc : ByteArray} {nL : Nat} {B : Nat × Nat} {cnt0 : Nat → Nat} (C0 : Cx p s m args meth c E own cc nL) {call : CallT} {post : Option AV → AS → Prop} {k : Cfg → Prop} {pc : Nat} {ls st : List AV} {σ : AS} (hd : decode cc pc = .ok (.lshr, 1)) (hk : ∀ z, k z → PW p l e R s m args below meth c Q E nL B cnt0 z) (h : wE call post k (match st with | .inl y :: .inr (.inl x) :: r => nx (pc + 1) ls (.inr (.inl (lshrv x y)) :: r) σ | _ => bad σ)) : PW p l e R s m args below meth c Q E nL B cnt0 (pc, ls, st, σ) := by
  obtain ⟨hx, hb, hml, hown, hts, hlk, hKn, hbs⟩ := C0
  intro H locs lsC hI
  split at h
  · rename_i y x r
    obtain ⟨oy, o2⟩ := ok1 hI.2.2.1
    obtain ⟨ox, o3⟩ := ok1 o2
    exact lv_lshr (v := i64 (lshrv x y)) (ls := lsC) hx hb hd (i64_of _).symm (hk _ h H locs lsC (hI.st (okc (i64_in _) o3)))
  · exact absurd h.1 id
theorem c_lcmp {p : Program} {l : Launch} {e : Env} {R : Room} {s : State} {m : MethodId} {args : Array Value} {below : List Frame} {meth : Method} {c : Code} {Q : State → Prop} {E : EnvT} {own : String} {cc : ByteArray} {nL : Nat} {B : Nat × Nat} {cnt0 : Nat → Nat} (C0 : Cx p s m args meth c E own cc nL) {call : CallT} {post : Option AV → AS → Prop} {k : Cfg → Prop} {pc : Nat} {ls st : List AV} {σ : AS} (hd : decode cc pc = .ok (.lcmp, 1)) (hk : ∀ z, k z → PW p l e R s m args below meth c Q E nL B cnt0 z) (h : wE call post k (ll σ st (fun x y r => nx (pc + 1) ls (.inl (lcmpv x y) :: r) σ))) : PW p l e R s m args below meth c Q E nL B cnt0 (pc, ls, st, σ) := by
  obtain ⟨hx, hb, hml, hown, hts, hlk, hKn, hbs⟩ := C0
  intro H locs lsC hI
  unfold ll at h
  split at h
  · rename_i y x r
    obtain ⟨oy, o2⟩ := ok1 hI.2.2.1
    obtain ⟨ox, o3⟩ := ok1 o2
    have ox : InL x := ox
    have oy : InL y := oy
    have hz := hk _ h H locs lsC (hI.st (okc (show InI (lcmpv x y) by unfold lcmpv; split <;> (try split) <;> omega) o3))
    refine W.lcmp (ls := lsC) hx hb hd ?_
    have e : lg_cmp (i64 x) (i64 y) = i32 (lcmpv x y) := by
      unfold lg_cmp lcmpv
      have h1 : i64 x < i64 y ↔ x < y := by rw [Int64.lt_iff_toInt_lt, i64_to ox, i64_to oy]
      have h2 : i64 x = i64 y ↔ x = y := ⟨fun z => by have z2 := congrArg Int64.toInt z; rwa [i64_to ox, i64_to oy] at z2, fun z => by rw [z]⟩
      have h3 : i64 y < i64 x ↔ y < x := by rw [Int64.lt_iff_toInt_lt, i64_to ox, i64_to oy]
      simp only [h1, h2, h3]
      rcases Int.lt_trichotomy x y with q | q | q
      · simp [q, show ¬ x = y by omega, show ¬ y < x by omega]; rfl
      · simp [q]; rfl
      · simp [q, show ¬ x = y by omega, show ¬ x < y by omega]; rfl
    rw [e]
    exact hz
  · exact absurd h.1 id
theorem c_ineg {p : Program} {l : Launch} {e : Env} {R : Room} {s : State} {m : MethodId} {args : Array Value} {below : List Frame} {meth : Method} {c : Code} {Q : State → Prop} {E : EnvT} {own : String} {cc : ByteArray} {nL : Nat} {B : Nat × Nat} {cnt0 : Nat → Nat} (C0 : Cx p s m args meth c E own cc nL) {call : CallT} {post : Option AV → AS → Prop} {k : Cfg → Prop} {pc : Nat} {ls st : List AV} {σ : AS} (hd : decode cc pc = .ok (.ineg, 1)) (hk : ∀ z, k z → PW p l e R s m args below meth c Q E nL B cnt0 z) (h : wE call post k (i1 σ st (fun x r => gx (InI (-x)) (pc + 1) ls (.inl (-x) :: r) σ))) : PW p l e R s m args below meth c Q E nL B cnt0 (pc, ls, st, σ) := by
  obtain ⟨hx, hb, hml, hown, hts, hlk, hKn, hbs⟩ := C0
  intro H locs lsC hI
  unfold i1 at h
  split at h
  · rename_i x r
    obtain ⟨ox, o3⟩ := ok1 hI.2.2.1
    have ox : InI x := ox
    obtain ⟨hg, hz⟩ := h
    refine lv_ineg (ls := lsC) hx hb hd ?_
    have e : (0 : Int32) - i32 x = i32 (-x) := by rw [i32_neg, Int32.zero_sub]
    first | (rw [e]; exact hk _ hz H locs lsC (hI.st (okc hg o3))) | (rw [← i32_neg]; exact hk _ hz H locs lsC (hI.st (okc hg o3)))
  · exact absurd h.1 id
theorem c_lneg {p : Program} {l : Launch} {e : Env} {R : Room} {s : State} {m : MethodId} {args : Array Value} {below : List Frame} {meth : Method} {c : Code} {Q : State → Prop} {E : EnvT} {own : String} {cc : ByteArray} {nL : Nat} {B : Nat × Nat} {cnt0 : Nat → Nat} (C0 : Cx p s m args meth c E own cc nL) {call : CallT} {post : Option AV → AS → Prop} {k : Cfg → Prop} {pc : Nat} {ls st : List AV} {σ : AS} (hd : decode cc pc = .ok (.lneg, 1)) (hk : ∀ z, k z → PW p l e R s m args below meth c Q E nL B cnt0 z) (h : wE call post k (l1 σ st (fun x r => gx (InL (-x)) (pc + 1) ls (.inr (.inl (-x)) :: r) σ))) : PW p l e R s m args below meth c Q E nL B cnt0 (pc, ls, st, σ) := by
  obtain ⟨hx, hb, hml, hown, hts, hlk, hKn, hbs⟩ := C0
  intro H locs lsC hI
  unfold l1 at h
  split at h
  · rename_i x r
    obtain ⟨ox, o3⟩ := ok1 hI.2.2.1
    have ox : InL x := ox
    obtain ⟨hg, hz⟩ := h
    refine lv_lneg (ls := lsC) hx hb hd ?_
    have e : (0 : Int64) - i64 x = i64 (-x) := by rw [i64_neg, Int64.zero_sub]
    first | (rw [e]; exact hk _ hz H locs lsC (hI.st (okc hg o3))) | (rw [← i64_neg]; exact hk _ hz H locs lsC (hI.st (okc hg o3)))
  · exact absurd h.1 id
theorem c_i2l {p : Program} {l : Launch} {e : Env} {R : Room} {s : State} {m : MethodId} {args : Array Value} {below : List Frame} {meth : Method} {c : Code} {Q : State → Prop} {E : EnvT} {own : String} {cc : ByteArray} {nL : Nat} {B : Nat × Nat} {cnt0 : Nat → Nat} (C0 : Cx p s m args meth c E own cc nL) {call : CallT} {post : Option AV → AS → Prop} {k : Cfg → Prop} {pc : Nat} {ls st : List AV} {σ : AS} (hd : decode cc pc = .ok (.i2l, 1)) (hk : ∀ z, k z → PW p l e R s m args below meth c Q E nL B cnt0 z) (h : wE call post k (i1 σ st (fun x r => nx (pc + 1) ls (.inr (.inl x) :: r) σ))) : PW p l e R s m args below meth c Q E nL B cnt0 (pc, ls, st, σ) := by
  obtain ⟨hx, hb, hml, hown, hts, hlk, hKn, hbs⟩ := C0
  intro H locs lsC hI
  unfold i1 at h
  split at h
  · rename_i x r
    obtain ⟨ox, o3⟩ := ok1 hI.2.2.1
    have ox : InI x := ox
    have hz := h
    refine lv_i2l (v := i64 x) (ls := lsC) hx hb hd ?_ (hk _ hz H locs lsC (hI.st (okc (show InL x by omega) o3)))
    refine Int64.toInt_inj.mp ?_
    rw [i64_to (by omega), Int32.toInt_toInt64, i32_to ox]
  · exact absurd h.1 id
theorem c_l2i {p : Program} {l : Launch} {e : Env} {R : Room} {s : State} {m : MethodId} {args : Array Value} {below : List Frame} {meth : Method} {c : Code} {Q : State → Prop} {E : EnvT} {own : String} {cc : ByteArray} {nL : Nat} {B : Nat × Nat} {cnt0 : Nat → Nat} (C0 : Cx p s m args meth c E own cc nL) {call : CallT} {post : Option AV → AS → Prop} {k : Cfg → Prop} {pc : Nat} {ls st : List AV} {σ : AS} (hd : decode cc pc = .ok (.l2i, 1)) (hk : ∀ z, k z → PW p l e R s m args below meth c Q E nL B cnt0 z) (h : wE call post k (l1 σ st (fun x r => gx (InI x) (pc + 1) ls (.inl x :: r) σ))) : PW p l e R s m args below meth c Q E nL B cnt0 (pc, ls, st, σ) := by
  obtain ⟨hx, hb, hml, hown, hts, hlk, hKn, hbs⟩ := C0
  intro H locs lsC hI
  unfold l1 at h
  split at h
  · rename_i x r
    obtain ⟨ox, o3⟩ := ok1 hI.2.2.1
    have ox : InL x := ox
    obtain ⟨hg, hz⟩ := h
    refine lv_l2i (v := i32 x) (ls := lsC) hx hb hd ?_ (hk _ hz H locs lsC (hI.st (okc hg o3)))
    refine Int32.toInt_inj.mp ?_
    rw [i32_to hg, Int64.toInt_toInt32, i64_to ox, Int.bmod_eq_of_le (by omega) (by omega)]
  · exact absurd h.1 id
theorem c_i2b {p : Program} {l : Launch} {e : Env} {R : Room} {s : State} {m : MethodId} {args : Array Value} {below : List Frame} {meth : Method} {c : Code} {Q : State → Prop} {E : EnvT} {own : String} {cc : ByteArray} {nL : Nat} {B : Nat × Nat} {cnt0 : Nat → Nat} (C0 : Cx p s m args meth c E own cc nL) {call : CallT} {post : Option AV → AS → Prop} {k : Cfg → Prop} {pc : Nat} {ls st : List AV} {σ : AS} (hd : decode cc pc = .ok (.i2b, 1)) (hk : ∀ z, k z → PW p l e R s m args below meth c Q E nL B cnt0 z) (h : wE call post k (i1 σ st (fun x r => nx (pc + 1) ls (.inl (i2bv x) :: r) σ))) : PW p l e R s m args below meth c Q E nL B cnt0 (pc, ls, st, σ) := by
  obtain ⟨hx, hb, hml, hown, hts, hlk, hKn, hbs⟩ := C0
  intro H locs lsC hI
  unfold i1 at h
  split at h
  · rename_i x r
    obtain ⟨ox, o3⟩ := ok1 hI.2.2.1
    have ox : InI x := ox
    have hz := h
    exact lv_i2b (v := i32 (i2bv x)) (ls := lsC) hx hb hd (i32_of _).symm (hk _ hz H locs lsC (hI.st (okc (i32_in _) o3)))
  · exact absurd h.1 id
theorem c_i2c {p : Program} {l : Launch} {e : Env} {R : Room} {s : State} {m : MethodId} {args : Array Value} {below : List Frame} {meth : Method} {c : Code} {Q : State → Prop} {E : EnvT} {own : String} {cc : ByteArray} {nL : Nat} {B : Nat × Nat} {cnt0 : Nat → Nat} (C0 : Cx p s m args meth c E own cc nL) {call : CallT} {post : Option AV → AS → Prop} {k : Cfg → Prop} {pc : Nat} {ls st : List AV} {σ : AS} (hd : decode cc pc = .ok (.i2c, 1)) (hk : ∀ z, k z → PW p l e R s m args below meth c Q E nL B cnt0 z) (h : wE call post k (i1 σ st (fun x r => nx (pc + 1) ls (.inl (i2cv x) :: r) σ))) : PW p l e R s m args below meth c Q E nL B cnt0 (pc, ls, st, σ) := by
  obtain ⟨hx, hb, hml, hown, hts, hlk, hKn, hbs⟩ := C0
  intro H locs lsC hI
  unfold i1 at h
  split at h
  · rename_i x r
    obtain ⟨ox, o3⟩ := ok1 hI.2.2.1
    have ox : InI x := ox
    have hz := h
    exact lv_i2c (v := i32 (i2cv x)) (ls := lsC) hx hb hd (i32_of _).symm (hk _ hz H locs lsC (hI.st (okc (i32_in _) o3)))
  · exact absurd h.1 id
theorem kill_f {ls : List AV} {n : Nat} (h : isL (nth ls n) = false) : kill ls (n + 1) = ls := by
  simp only [kill, h]
theorem kill_t {ls : List AV} {n : Nat} (h : isL (nth ls n) = true) : kill ls (n + 1) = ls.set n vx := by
  simp only [kill, h]
theorem kill_len (ls : List AV) : ∀ n, (kill ls n).length = ls.length
  | 0 => rfl
  | n + 1 => by
    cases hl : isL (nth ls n) with
    | false => rw [kill_f hl]
    | true => rw [kill_t hl, List.length_set]
theorem kill_at {ls : List AV} {n i : Nat} {v : AV} (h : (kill ls n)[i]? = some v) (hx : isX v = false) : ls[i]? = some v ∧ ¬ (i + 1 = n ∧ isL v = true) := by
  cases n with
  | zero => exact ⟨h, fun z => by omega⟩
  | succ n =>
    cases hl : isL (nth ls n) with
    | false =>
      rw [kill_f hl] at h
      refine ⟨h, fun z => ?_⟩
      have e : i = n := by omega
      subst e
      have hn : nth ls i = v := by
        clear hl hx z
        induction ls generalizing i with
        | nil => cases h
        | cons a l ih =>
          cases i with
          | zero => exact Option.some.inj h
          | succ i => exact ih (by simpa using h)
      rw [hn] at hl
      rw [hl] at z
      exact absurd z.2 (by decide)
    | true =>
      rw [kill_t hl] at h
      by_cases e : i = n
      · subst e
        have hlt : i < ls.length := by
          have := (List.getElem?_eq_some_iff.mp h).1
          simpa using this
        simp only [List.getElem?_set_self hlt] at h
        cases h
        cases hx
      · simp only [List.getElem?_set_ne (Ne.symm e)] at h
        exact ⟨h, fun z => e (by omega)⟩
theorem cv_cat1 (E : EnvT) {v : AV} (h : isL v = false) : (cv E v).category = 1 := by
  rcases v with a | a | a | a
  · rfl
  · cases h
  · cases a <;> rfl
  · rfl
theorem cv_cat2 (E : EnvT) {v : AV} (h : (cv E v).category = 2) : isL v = true := by
  cases hl : isL v with
  | true => rfl
  | false => rw [cv_cat1 E hl] at h; cases h
def asc (E : EnvT) (als : List AV) : List (Nat × Value) := (List.range als.length).filterMap (fun i => match als[i]? with
  | some v => if isX v = false then some (i, cv E v) else none
  | none => none)
theorem asc_in {E : EnvT} {als : List AV} {i : Nat} {v : AV} (h : als[i]? = some v) (hx : isX v = false) : (i, cv E v) ∈ asc E als :=
  List.mem_filterMap.mpr ⟨i, List.mem_range.mpr (List.getElem?_eq_some_iff.mp h).1, by simp [h, hx]⟩
theorem LR.has {E : EnvT} {als : List AV} {ls : Array Slot} {nL : Nat} (h : LR E als ls nL) : lv_has ls nL (asc E als) := by
  refine ⟨h.1, h.2.2.1, fun q hq => ?_⟩
  obtain ⟨i, -, hi⟩ := List.mem_filterMap.mp hq
  split at hi
  · rename_i v hv
    split at hi
    · rename_i hx
      cases hi
      exact h.2.2.2 i v hv hx
    · cases hi
  · cases hi
theorem LR.put {E : EnvT} {als : List AV} {ls ls' : Array Slot} {nL n : Nat} {v : AV} (h : LR E als ls nL) (hn : n < nL) (h2 : lv_has ls' nL ((n, cv E v) :: (asc E als).filter (fun q => !(q.1 == n) && !(q.1 + 1 == n && q.2.category == 2)))) : LR E (lput als n v) ls' nL := by
  refine ⟨h2.1, by rw [lput, List.length_set, kill_len]; exact h.2.1, h2.2.1, fun i w hi hx => ?_⟩
  unfold lput at hi
  by_cases e : i = n
  · subst e
    rw [List.getElem?_set_self (by rw [kill_len, h.2.1]; exact hn)] at hi
    cases hi
    exact h2.2.2 _ List.mem_cons_self
  · rw [List.getElem?_set_ne (Ne.symm e)] at hi
    obtain ⟨a1, a2⟩ := kill_at hi hx
    refine h2.2.2 (i, cv E w) (List.mem_cons_of_mem _ (List.mem_filter.mpr ⟨asc_in a1 hx, ?_⟩))
    simp only [Bool.and_eq_true, Bool.not_eq_true', beq_eq_false_iff_ne, Bool.and_eq_false_imp, beq_iff_eq]
    exact ⟨e, fun z => fun z2 => a2 ⟨z, cv_cat2 E z2⟩⟩
theorem LR.put2 {E : EnvT} {als : List AV} {ls ls' : Array Slot} {nL n : Nat} {v : AV} (h : LR E als ls nL) (hn : n + 1 < nL) (h2 : lv_has ls' nL ((n, cv E v) :: (asc E als).filter (fun q => !(q.1 == n) && (!(q.1 == n + 1) && !(q.1 + 1 == n && q.2.category == 2))))) : LR E (lput2 als n v) ls' nL := by
  refine ⟨h2.1, by rw [lput2, List.length_set, List.length_set, kill_len]; exact h.2.1, h2.2.1, fun i w hi hx => ?_⟩
  unfold lput2 at hi
  by_cases e2 : i = n + 1
  · subst e2
    rw [List.getElem?_set_self (by rw [List.length_set, kill_len, h.2.1]; exact hn)] at hi
    cases hi
    cases hx
  rw [List.getElem?_set_ne (Ne.symm e2)] at hi
  by_cases e : i = n
  · subst e
    rw [List.getElem?_set_self (by rw [kill_len, h.2.1]; omega)] at hi
    cases hi
    exact h2.2.2 _ List.mem_cons_self
  · rw [List.getElem?_set_ne (Ne.symm e)] at hi
    obtain ⟨a1, a2⟩ := kill_at hi hx
    refine h2.2.2 (i, cv E w) (List.mem_cons_of_mem _ (List.mem_filter.mpr ⟨asc_in a1 hx, ?_⟩))
    simp only [Bool.and_eq_true, Bool.not_eq_true', beq_eq_false_iff_ne, Bool.and_eq_false_imp, beq_iff_eq]
    exact ⟨e, e2, fun z => fun z2 => a2 ⟨z, cv_cat2 E z2⟩⟩
theorem ok_kill {m : Nat → Nat} {ls : List AV} (h : ∀ v ∈ ls, okv m v) (n : Nat) : ∀ v ∈ kill ls n, okv m v := by
  intro v hv
  cases n with
  | zero => exact h v hv
  | succ n =>
    cases hl : isL (nth ls n) with
    | false => rw [kill_f hl] at hv; exact h v hv
    | true =>
      rw [kill_t hl] at hv
      rcases List.mem_or_eq_of_mem_set hv with q | q
      · exact h v q
      · rw [q]; trivial
theorem ok_put {m : Nat → Nat} {ls : List AV} (h : ∀ v ∈ ls, okv m v) (n : Nat) {w : AV} (hw : okv m w) : ∀ v ∈ lput ls n w, okv m v := by
  intro v hv
  rcases List.mem_or_eq_of_mem_set hv with q | q
  · exact ok_kill h n v q
  · rw [q]; exact hw
theorem ok_put2 {m : Nat → Nat} {ls : List AV} (h : ∀ v ∈ ls, okv m v) (n : Nat) {w : AV} (hw : okv m w) : ∀ v ∈ lput2 ls n w, okv m v := by
  intro v hv
  rcases List.mem_or_eq_of_mem_set hv with q | q
  · rcases List.mem_or_eq_of_mem_set q with q | q
    · exact ok_kill h n v q
    · rw [q]; exact hw
  · rw [q]; trivial
theorem Inv.lp {s : State} {E : EnvT} {nL : Nat} {B : Nat × Nat} {cnt0 : Nat → Nat} {pc pc' n : Nat} {ls st st' : List AV} {v : AV} {σ : AS} {H : Heap} {locs : List Loc} {lsC ls' : Array Slot} (h : Inv s E nL B cnt0 (pc, ls, st, σ) H locs lsC) (hn : n < nL) (ho : okv σ.2.1 v) (hst : ∀ w ∈ st', okv σ.2.1 w) (h2 : lv_has ls' nL ((n, cv E v) :: (asc E ls).filter (fun q => !(q.1 == n) && !(q.1 + 1 == n && q.2.category == 2)))) : Inv s E nL B cnt0 (pc', lput ls n v, st', σ) H locs ls' :=
  ⟨h.1, ok_put h.2.1 n ho, hst, h.2.2.2.1, h.2.2.2.2.1, h.2.2.2.2.2.1, h.2.2.2.2.2.2.1, LR.put h.2.2.2.2.2.2.2 hn h2⟩
theorem Inv.lp2 {s : State} {E : EnvT} {nL : Nat} {B : Nat × Nat} {cnt0 : Nat → Nat} {pc pc' n : Nat} {ls st st' : List AV} {v : AV} {σ : AS} {H : Heap} {locs : List Loc} {lsC ls' : Array Slot} (h : Inv s E nL B cnt0 (pc, ls, st, σ) H locs lsC) (hn : n + 1 < nL) (ho : okv σ.2.1 v) (hst : ∀ w ∈ st', okv σ.2.1 w) (h2 : lv_has ls' nL ((n, cv E v) :: (asc E ls).filter (fun q => !(q.1 == n) && (!(q.1 == n + 1) && !(q.1 + 1 == n && q.2.category == 2))))) : Inv s E nL B cnt0 (pc', lput2 ls n v, st', σ) H locs ls' :=
  ⟨h.1, ok_put2 h.2.1 n ho, hst, h.2.2.2.1, h.2.2.2.2.1, h.2.2.2.2.2.1, h.2.2.2.2.2.2.1, LR.put2 h.2.2.2.2.2.2.2 hn h2⟩
theorem c_istore {p : Program} {l : Launch} {e : Env} {R : Room} {s : State} {m : MethodId} {args : Array Value} {below : List Frame} {meth : Method} {c : Code} {Q : State → Prop} {E : EnvT} {own : String} {cc : ByteArray} {nL : Nat} {B : Nat × Nat} {cnt0 : Nat → Nat} (C0 : Cx p s m args meth c E own cc nL) {call : CallT} {post : Option AV → AS → Prop} {k : Cfg → Prop} {pc : Nat} {ls st : List AV} {σ : AS} {n : Nat} (hn : n < nL) (hd : decode cc pc = .ok (.istore n, 2)) (hk : ∀ z, k z → PW p l e R s m args below meth c Q E nL B cnt0 z) (h : wE call post k (i1 σ st (fun x r => nx (pc + 2) (lput ls n (.inl x)) r σ))) : PW p l e R s m args below meth c Q E nL B cnt0 (pc, ls, st, σ) := by
  obtain ⟨hx, hb, hml, hown, hts, hlk, hKn, hbs⟩ := C0
  intro H locs lsC hI
  unfold i1 at h
  split at h
  · rename_i x r
    obtain ⟨ox, o3⟩ := ok1 hI.2.2.1
    exact lv_istore (ls := lsC) hx hb hd hI.2.2.2.2.2.2.2.has hn rfl (fun ls' hl => hk _ h H locs ls' (hI.lp (v := .inl x) hn ox o3 hl))
  · exact absurd h.1 id
theorem c_lstore {p : Program} {l : Launch} {e : Env} {R : Room} {s : State} {m : MethodId} {args : Array Value} {below : List Frame} {meth : Method} {c : Code} {Q : State → Prop} {E : EnvT} {own : String} {cc : ByteArray} {nL : Nat} {B : Nat × Nat} {cnt0 : Nat → Nat} (C0 : Cx p s m args meth c E own cc nL) {call : CallT} {post : Option AV → AS → Prop} {k : Cfg → Prop} {pc : Nat} {ls st : List AV} {σ : AS} {n : Nat} (hn : n + 1 < nL) (hd : decode cc pc = .ok (.lstore n, 2)) (hk : ∀ z, k z → PW p l e R s m args below meth c Q E nL B cnt0 z) (h : wE call post k (l1 σ st (fun x r => nx (pc + 2) (lput2 ls n (.inr (.inl x))) r σ))) : PW p l e R s m args below meth c Q E nL B cnt0 (pc, ls, st, σ) := by
  obtain ⟨hx, hb, hml, hown, hts, hlk, hKn, hbs⟩ := C0
  intro H locs lsC hI
  unfold l1 at h
  split at h
  · rename_i x r
    obtain ⟨ox, o3⟩ := ok1 hI.2.2.1
    exact lv_lstore (ls := lsC) hx hb hd hI.2.2.2.2.2.2.2.has hn rfl (fun ls' hl => hk _ h H locs ls' (hI.lp2 (v := .inr (.inl x)) hn ox o3 hl))
  · exact absurd h.1 id
theorem c_astore {p : Program} {l : Launch} {e : Env} {R : Room} {s : State} {m : MethodId} {args : Array Value} {below : List Frame} {meth : Method} {c : Code} {Q : State → Prop} {E : EnvT} {own : String} {cc : ByteArray} {nL : Nat} {B : Nat × Nat} {cnt0 : Nat → Nat} (C0 : Cx p s m args meth c E own cc nL) {call : CallT} {post : Option AV → AS → Prop} {k : Cfg → Prop} {pc : Nat} {ls st : List AV} {σ : AS} {n : Nat} (hn : n < nL) (hd : decode cc pc = .ok (.astore n, 2)) (hk : ∀ z, k z → PW p l e R s m args below meth c Q E nL B cnt0 z) (h : wE call post k (a1 σ st (fun x r => nx (pc + 2) (lput ls n (.inr (.inr (.inl x)))) r σ))) : PW p l e R s m args below meth c Q E nL B cnt0 (pc, ls, st, σ) := by
  obtain ⟨hx, hb, hml, hown, hts, hlk, hKn, hbs⟩ := C0
  intro H locs lsC hI
  unfold a1 at h
  split at h
  · rename_i x r
    obtain ⟨ox, o3⟩ := ok1 hI.2.2.1
    rcases x with _ | q
    · exact lv_astoreN (ls := lsC) hx hb hd hI.2.2.2.2.2.2.2.has hn rfl (fun ls' hl => hk _ h H locs ls' (hI.lp (v := .inr (.inr (.inl none))) hn ox o3 hl))
    · exact lv_astore (ls := lsC) hx hb hd hI.2.2.2.2.2.2.2.has hn rfl (fun ls' hl => hk _ h H locs ls' (hI.lp (v := .inr (.inr (.inl (some q)))) hn ox o3 hl))
  · exact absurd h.1 id
theorem c_istore_n {p : Program} {l : Launch} {e : Env} {R : Room} {s : State} {m : MethodId} {args : Array Value} {below : List Frame} {meth : Method} {c : Code} {Q : State → Prop} {E : EnvT} {own : String} {cc : ByteArray} {nL : Nat} {B : Nat × Nat} {cnt0 : Nat → Nat} (C0 : Cx p s m args meth c E own cc nL) {call : CallT} {post : Option AV → AS → Prop} {k : Cfg → Prop} {pc : Nat} {ls st : List AV} {σ : AS} {n : Fin 4} (hn : n.val < nL) (hd : decode cc pc = .ok (.istore_n n, 1)) (hk : ∀ z, k z → PW p l e R s m args below meth c Q E nL B cnt0 z) (h : wE call post k (i1 σ st (fun x r => nx (pc + 1) (lput ls n.val (.inl x)) r σ))) : PW p l e R s m args below meth c Q E nL B cnt0 (pc, ls, st, σ) := by
  obtain ⟨hx, hb, hml, hown, hts, hlk, hKn, hbs⟩ := C0
  intro H locs lsC hI
  unfold i1 at h
  split at h
  · rename_i x r
    obtain ⟨ox, o3⟩ := ok1 hI.2.2.1
    exact lv_istore_n (ls := lsC) hx hb hd rfl hI.2.2.2.2.2.2.2.has hn rfl (fun ls' hl => hk _ h H locs ls' (hI.lp (v := .inl x) hn ox o3 hl))
  · exact absurd h.1 id
theorem c_lstore_n {p : Program} {l : Launch} {e : Env} {R : Room} {s : State} {m : MethodId} {args : Array Value} {below : List Frame} {meth : Method} {c : Code} {Q : State → Prop} {E : EnvT} {own : String} {cc : ByteArray} {nL : Nat} {B : Nat × Nat} {cnt0 : Nat → Nat} (C0 : Cx p s m args meth c E own cc nL) {call : CallT} {post : Option AV → AS → Prop} {k : Cfg → Prop} {pc : Nat} {ls st : List AV} {σ : AS} {n : Fin 4} (hn : n.val + 1 < nL) (hd : decode cc pc = .ok (.lstore_n n, 1)) (hk : ∀ z, k z → PW p l e R s m args below meth c Q E nL B cnt0 z) (h : wE call post k (l1 σ st (fun x r => nx (pc + 1) (lput2 ls n.val (.inr (.inl x))) r σ))) : PW p l e R s m args below meth c Q E nL B cnt0 (pc, ls, st, σ) := by
  obtain ⟨hx, hb, hml, hown, hts, hlk, hKn, hbs⟩ := C0
  intro H locs lsC hI
  unfold l1 at h
  split at h
  · rename_i x r
    obtain ⟨ox, o3⟩ := ok1 hI.2.2.1
    exact lv_lstore_n (ls := lsC) hx hb hd rfl hI.2.2.2.2.2.2.2.has hn rfl (fun ls' hl => hk _ h H locs ls' (hI.lp2 (v := .inr (.inl x)) hn ox o3 hl))
  · exact absurd h.1 id
theorem c_astore_n {p : Program} {l : Launch} {e : Env} {R : Room} {s : State} {m : MethodId} {args : Array Value} {below : List Frame} {meth : Method} {c : Code} {Q : State → Prop} {E : EnvT} {own : String} {cc : ByteArray} {nL : Nat} {B : Nat × Nat} {cnt0 : Nat → Nat} (C0 : Cx p s m args meth c E own cc nL) {call : CallT} {post : Option AV → AS → Prop} {k : Cfg → Prop} {pc : Nat} {ls st : List AV} {σ : AS} {n : Fin 4} (hn : n.val < nL) (hd : decode cc pc = .ok (.astore_n n, 1)) (hk : ∀ z, k z → PW p l e R s m args below meth c Q E nL B cnt0 z) (h : wE call post k (a1 σ st (fun x r => nx (pc + 1) (lput ls n.val (.inr (.inr (.inl x)))) r σ))) : PW p l e R s m args below meth c Q E nL B cnt0 (pc, ls, st, σ) := by
  obtain ⟨hx, hb, hml, hown, hts, hlk, hKn, hbs⟩ := C0
  intro H locs lsC hI
  unfold a1 at h
  split at h
  · rename_i x r
    obtain ⟨ox, o3⟩ := ok1 hI.2.2.1
    rcases x with _ | q
    · exact lv_astore_nN (ls := lsC) hx hb hd rfl hI.2.2.2.2.2.2.2.has hn rfl (fun ls' hl => hk _ h H locs ls' (hI.lp (v := .inr (.inr (.inl none))) hn ox o3 hl))
    · exact lv_astore_n (ls := lsC) hx hb hd rfl hI.2.2.2.2.2.2.2.has hn rfl (fun ls' hl => hk _ h H locs ls' (hI.lp (v := .inr (.inr (.inl (some q)))) hn ox o3 hl))
  · exact absurd h.1 id
theorem asc_at {E : EnvT} {als : List AV} {i : Nat} {v : AV} (h : nth als i = v) (hx : isX v = false) : ∃ k : Nat, (asc E als)[k]? = some (i, cv E v) := by
  subst h
  exact List.getElem?_of_mem (asc_in (nth_get als i hx) hx)
theorem c_iinc {p : Program} {l : Launch} {e : Env} {R : Room} {s : State} {m : MethodId} {args : Array Value} {below : List Frame} {meth : Method} {c : Code} {Q : State → Prop} {E : EnvT} {own : String} {cc : ByteArray} {nL : Nat} {B : Nat × Nat} {cnt0 : Nat → Nat} (C0 : Cx p s m args meth c E own cc nL) {call : CallT} {post : Option AV → AS → Prop} {k : Cfg → Prop} {pc : Nat} {ls st : List AV} {σ : AS} {n : Nat} {k0 : Int} (hn : n < nL) (hd : decode cc pc = .ok (.iinc n k0, 3)) (hk : ∀ z, k z → PW p l e R s m args below meth c Q E nL B cnt0 z) (h : wE call post k (ldI σ (nth ls n) (fun v => match v with | .inl x => gx (InI (x + k0)) (pc + 3) (lput ls n (.inl (x + k0))) st σ | _ => bad σ))) : PW p l e R s m args below meth c Q E nL B cnt0 (pc, ls, st, σ) := by
  obtain ⟨hx, hb, hml, hown, hts, hlk, hKn, hbs⟩ := C0
  intro H locs lsC hI
  generalize hv : nth ls n = v at h
  unfold ldI at h
  split at h
  · rename_i x
    obtain ⟨hg, hz⟩ := h
    obtain ⟨q, hq⟩ := asc_at (E := E) hv rfl
    exact lv_iinc (k := q) (v := i32 (x + k0)) (ls := lsC) hx hb hd hI.2.2.2.2.2.2.2.has hq (i32_add _ _).symm hn rfl (fun ls' hl => hk _ hz H locs ls' (hI.lp (v := .inl (x + k0)) hn hg hI.2.2.1 hl))
  · exact absurd h.1 id
theorem tgt_ok {pc : Nat} {off : Int} (h : 0 ≤ (pc : Int) + off) : (pc : Int) + off = ((tgt pc off : Nat) : Int) := by
  unfold tgt
  omega
theorem c_ifCond {p : Program} {l : Launch} {e : Env} {R : Room} {s : State} {m : MethodId} {args : Array Value} {below : List Frame} {meth : Method} {c : Code} {Q : State → Prop} {E : EnvT} {own : String} {cc : ByteArray} {nL : Nat} {B : Nat × Nat} {cnt0 : Nat → Nat} (C0 : Cx p s m args meth c E own cc nL) {call : CallT} {post : Option AV → AS → Prop} {k : Cfg → Prop} {pc : Nat} {ls st : List AV} {σ : AS} {cd : ClassFile.Cond} {off : Int} (ht : 0 ≤ (pc : Int) + off) (hd : decode cc pc = .ok (.ifCond cd off, 3)) (hk : ∀ z, k z → PW p l e R s m args below meth c Q E nL B cnt0 z) (h : wE call post k (i1 σ st (fun x r => br (cndI cd x 0) (tgt pc off) (pc + 3) ls r σ))) : PW p l e R s m args below meth c Q E nL B cnt0 (pc, ls, st, σ) := by
  obtain ⟨hx, hb, hml, hown, hts, hlk, hKn, hbs⟩ := C0
  intro H locs lsC hI
  unfold i1 at h
  split at h
  · rename_i x r
    obtain ⟨ox, o3⟩ := ok1 hI.2.2.1
    have ox : InI x := ox
    have oy : InI 0 := by omega
    have z0 : i32 0 = 0 := rfl
    obtain ⟨h1, h2⟩ := h
    cases cd
    · refine lv_if_eq (tgt := tgt pc off) (ls := lsC) hx hb hd (tgt_ok ht) (fun q => hk _ (h1 ?_) H locs lsC (hI.st o3)) (fun q => hk _ (h2 ?_) H locs lsC (hI.st o3))
      · rw [← z0] at q
        have hc := i32_inj ox oy
        unfold cndI
        first | exact hc.mp q | exact hc.mpr q | (simp only [hc] at q; simpa using q) | omega
      · rw [← z0] at q
        have hc := i32_inj ox oy
        unfold cndI
        first | exact (not_congr hc).mp q | exact fun z => (hc.mpr z) q | (simp only [hc] at q; simpa using q) | omega
    · refine lv_if_ne (tgt := tgt pc off) (ls := lsC) hx hb hd (tgt_ok ht) (fun q => hk _ (h1 ?_) H locs lsC (hI.st o3)) (fun q => hk _ (h2 ?_) H locs lsC (hI.st o3))
      · rw [← z0] at q
        have hc := not_congr (i32_inj ox oy)
        unfold cndI
        first | exact hc.mp q | exact hc.mpr q | (simp only [hc] at q; simpa using q) | omega
      · rw [← z0] at q
        have hc := not_congr (i32_inj ox oy)
        unfold cndI
        first | exact (not_congr hc).mp q | exact fun z => (hc.mpr z) q | (simp only [hc] at q; simpa using q) | omega
    · refine lv_if_lt (tgt := tgt pc off) (ls := lsC) hx hb hd (tgt_ok ht) (fun q => hk _ (h1 ?_) H locs lsC (hI.st o3)) (fun q => hk _ (h2 ?_) H locs lsC (hI.st o3))
      · rw [← z0] at q
        have hc := i32_lt ox oy
        unfold cndI
        first | exact hc.mp q | exact hc.mpr q | (simp only [hc] at q; simpa using q) | omega
      · rw [← z0] at q
        have hc := i32_lt ox oy
        unfold cndI
        first | exact (not_congr hc).mp q | exact fun z => (hc.mpr z) q | (simp only [hc] at q; simpa using q) | omega
    · refine lv_if_ge (tgt := tgt pc off) (ls := lsC) hx hb hd (tgt_ok ht) (fun q => hk _ (h1 ?_) H locs lsC (hI.st o3)) (fun q => hk _ (h2 ?_) H locs lsC (hI.st o3))
      · rw [← z0] at q
        have hc := i32_le oy ox
        unfold cndI
        first | exact hc.mp q | exact hc.mpr q | (simp only [hc] at q; simpa using q) | omega
      · rw [← z0] at q
        have hc := i32_le oy ox
        unfold cndI
        first | exact (not_congr hc).mp q | exact fun z => (hc.mpr z) q | (simp only [hc] at q; simpa using q) | omega
    · refine lv_if_gt (tgt := tgt pc off) (ls := lsC) hx hb hd (tgt_ok ht) (fun q => hk _ (h1 ?_) H locs lsC (hI.st o3)) (fun q => hk _ (h2 ?_) H locs lsC (hI.st o3))
      · rw [← z0] at q
        have hc := i32_lt oy ox
        unfold cndI
        first | exact hc.mp q | exact hc.mpr q | (simp only [hc] at q; simpa using q) | omega
      · rw [← z0] at q
        have hc := i32_lt oy ox
        unfold cndI
        first | exact (not_congr hc).mp q | exact fun z => (hc.mpr z) q | (simp only [hc] at q; simpa using q) | omega
    · refine lv_if_le (tgt := tgt pc off) (ls := lsC) hx hb hd (tgt_ok ht) (fun q => hk _ (h1 ?_) H locs lsC (hI.st o3)) (fun q => hk _ (h2 ?_) H locs lsC (hI.st o3))
      · rw [← z0] at q
        have hc := i32_le ox oy
        unfold cndI
        first | exact hc.mp q | exact hc.mpr q | (simp only [hc] at q; simpa using q) | omega
      · rw [← z0] at q
        have hc := i32_le ox oy
        unfold cndI
        first | exact (not_congr hc).mp q | exact fun z => (hc.mpr z) q | (simp only [hc] at q; simpa using q) | omega
  · exact absurd h.1 id
theorem c_if_icmp {p : Program} {l : Launch} {e : Env} {R : Room} {s : State} {m : MethodId} {args : Array Value} {below : List Frame} {meth : Method} {c : Code} {Q : State → Prop} {E : EnvT} {own : String} {cc : ByteArray} {nL : Nat} {B : Nat × Nat} {cnt0 : Nat → Nat} (C0 : Cx p s m args meth c E own cc nL) {call : CallT} {post : Option AV → AS → Prop} {k : Cfg → Prop} {pc : Nat} {ls st : List AV} {σ : AS} {cd : ClassFile.Cond} {off : Int} (ht : 0 ≤ (pc : Int) + off) (hd : decode cc pc = .ok (.if_icmp cd off, 3)) (hk : ∀ z, k z → PW p l e R s m args below meth c Q E nL B cnt0 z) (h : wE call post k (ii σ st (fun x y r => br (cndI cd x y) (tgt pc off) (pc + 3) ls r σ))) : PW p l e R s m args below meth c Q E nL B cnt0 (pc, ls, st, σ) := by
  obtain ⟨hx, hb, hml, hown, hts, hlk, hKn, hbs⟩ := C0
  intro H locs lsC hI
  unfold ii at h
  split at h
  · rename_i y x r
    obtain ⟨oy, o2⟩ := ok1 hI.2.2.1
    obtain ⟨ox, o3⟩ := ok1 o2
    have ox : InI x := ox
    have oy : InI y := oy
    obtain ⟨h1, h2⟩ := h
    cases cd
    · refine lv_icmp_eq (tgt := tgt pc off) (ls := lsC) hx hb hd (tgt_ok ht) (fun q => hk _ (h1 ?_) H locs lsC (hI.st o3)) (fun q => hk _ (h2 ?_) H locs lsC (hI.st o3))
      · have hc := i32_inj ox oy
        unfold cndI
        first | exact hc.mp q | (simp only [hc] at q; simpa using q) | omega
      · have hc := i32_inj ox oy
        unfold cndI
        first | exact (not_congr hc).mp q | exact fun z => (hc.mpr z) q | (simp only [hc] at q; simpa using q) | omega
    · refine lv_icmp_ne (tgt := tgt pc off) (ls := lsC) hx hb hd (tgt_ok ht) (fun q => hk _ (h1 ?_) H locs lsC (hI.st o3)) (fun q => hk _ (h2 ?_) H locs lsC (hI.st o3))
      · have hc := not_congr (i32_inj ox oy)
        unfold cndI
        first | exact hc.mp q | (simp only [hc] at q; simpa using q) | omega
      · have hc := not_congr (i32_inj ox oy)
        unfold cndI
        first | exact (not_congr hc).mp q | exact fun z => (hc.mpr z) q | (simp only [hc] at q; simpa using q) | omega
    · refine lv_icmp_lt (tgt := tgt pc off) (ls := lsC) hx hb hd (tgt_ok ht) (fun q => hk _ (h1 ?_) H locs lsC (hI.st o3)) (fun q => hk _ (h2 ?_) H locs lsC (hI.st o3))
      · have hc := i32_lt ox oy
        unfold cndI
        first | exact hc.mp q | (simp only [hc] at q; simpa using q) | omega
      · have hc := i32_lt ox oy
        unfold cndI
        first | exact (not_congr hc).mp q | exact fun z => (hc.mpr z) q | (simp only [hc] at q; simpa using q) | omega
    · refine lv_icmp_ge (tgt := tgt pc off) (ls := lsC) hx hb hd (tgt_ok ht) (fun q => hk _ (h1 ?_) H locs lsC (hI.st o3)) (fun q => hk _ (h2 ?_) H locs lsC (hI.st o3))
      · have hc := i32_le oy ox
        unfold cndI
        first | exact hc.mp q | (simp only [hc] at q; simpa using q) | omega
      · have hc := i32_le oy ox
        unfold cndI
        first | exact (not_congr hc).mp q | exact fun z => (hc.mpr z) q | (simp only [hc] at q; simpa using q) | omega
    · refine lv_icmp_gt (tgt := tgt pc off) (ls := lsC) hx hb hd (tgt_ok ht) (fun q => hk _ (h1 ?_) H locs lsC (hI.st o3)) (fun q => hk _ (h2 ?_) H locs lsC (hI.st o3))
      · have hc := i32_lt oy ox
        unfold cndI
        first | exact hc.mp q | (simp only [hc] at q; simpa using q) | omega
      · have hc := i32_lt oy ox
        unfold cndI
        first | exact (not_congr hc).mp q | exact fun z => (hc.mpr z) q | (simp only [hc] at q; simpa using q) | omega
    · refine lv_icmp_le (tgt := tgt pc off) (ls := lsC) hx hb hd (tgt_ok ht) (fun q => hk _ (h1 ?_) H locs lsC (hI.st o3)) (fun q => hk _ (h2 ?_) H locs lsC (hI.st o3))
      · have hc := i32_le ox oy
        unfold cndI
        first | exact hc.mp q | (simp only [hc] at q; simpa using q) | omega
      · have hc := i32_le ox oy
        unfold cndI
        first | exact (not_congr hc).mp q | exact fun z => (hc.mpr z) q | (simp only [hc] at q; simpa using q) | omega
  · exact absurd h.1 id
theorem c_goto {p : Program} {l : Launch} {e : Env} {R : Room} {s : State} {m : MethodId} {args : Array Value} {below : List Frame} {meth : Method} {c : Code} {Q : State → Prop} {E : EnvT} {own : String} {cc : ByteArray} {nL : Nat} {B : Nat × Nat} {cnt0 : Nat → Nat} (C0 : Cx p s m args meth c E own cc nL) {call : CallT} {post : Option AV → AS → Prop} {k : Cfg → Prop} {pc : Nat} {ls st : List AV} {σ : AS} {off : Int} (ht : 0 ≤ (pc : Int) + off) (hd : decode cc pc = .ok (.goto off, 3)) (hk : ∀ z, k z → PW p l e R s m args below meth c Q E nL B cnt0 z) (h : wE call post k (nx (tgt pc off) ls st σ)) : PW p l e R s m args below meth c Q E nL B cnt0 (pc, ls, st, σ) := by
  obtain ⟨hx, hb, hml, hown, hts, hlk, hKn, hbs⟩ := C0
  intro H locs lsC hI
  exact lv_goto (ls := lsC) hx hb hd (tgt_ok ht) (hk _ h H locs lsC (hI.st hI.2.2.1))
theorem c_ifnull {p : Program} {l : Launch} {e : Env} {R : Room} {s : State} {m : MethodId} {args : Array Value} {below : List Frame} {meth : Method} {c : Code} {Q : State → Prop} {E : EnvT} {own : String} {cc : ByteArray} {nL : Nat} {B : Nat × Nat} {cnt0 : Nat → Nat} (C0 : Cx p s m args meth c E own cc nL) {call : CallT} {post : Option AV → AS → Prop} {k : Cfg → Prop} {pc : Nat} {ls st : List AV} {σ : AS} {off : Int} (ht : 0 ≤ (pc : Int) + off) (hd : decode cc pc = .ok (.ifnull off, 3)) (hk : ∀ z, k z → PW p l e R s m args below meth c Q E nL B cnt0 z) (h : wE call post k (a1 σ st (fun x r => br (x = none) (tgt pc off) (pc + 3) ls r σ))) : PW p l e R s m args below meth c Q E nL B cnt0 (pc, ls, st, σ) := by
  obtain ⟨hx, hb, hml, hown, hts, hlk, hKn, hbs⟩ := C0
  intro H locs lsC hI
  unfold a1 at h
  split at h
  · rename_i x r
    obtain ⟨ox, o3⟩ := ok1 hI.2.2.1
    obtain ⟨h1, h2⟩ := h
    rcases x with _ | q
    · exact lv_ifnullN (ls := lsC) hx hb hd (tgt_ok ht) (hk _ (h1 rfl) H locs lsC (hI.st o3))
    · exact lv_ifnull (ls := lsC) hx hb hd (hk _ (h2 (fun z => by cases z)) H locs lsC (hI.st o3))
  · exact absurd h.1 id
theorem c_ifnonnull {p : Program} {l : Launch} {e : Env} {R : Room} {s : State} {m : MethodId} {args : Array Value} {below : List Frame} {meth : Method} {c : Code} {Q : State → Prop} {E : EnvT} {own : String} {cc : ByteArray} {nL : Nat} {B : Nat × Nat} {cnt0 : Nat → Nat} (C0 : Cx p s m args meth c E own cc nL) {call : CallT} {post : Option AV → AS → Prop} {k : Cfg → Prop} {pc : Nat} {ls st : List AV} {σ : AS} {off : Int} (ht : 0 ≤ (pc : Int) + off) (hd : decode cc pc = .ok (.ifnonnull off, 3)) (hk : ∀ z, k z → PW p l e R s m args below meth c Q E nL B cnt0 z) (h : wE call post k (a1 σ st (fun x r => br (¬ x = none) (tgt pc off) (pc + 3) ls r σ))) : PW p l e R s m args below meth c Q E nL B cnt0 (pc, ls, st, σ) := by
  obtain ⟨hx, hb, hml, hown, hts, hlk, hKn, hbs⟩ := C0
  intro H locs lsC hI
  unfold a1 at h
  split at h
  · rename_i x r
    obtain ⟨ox, o3⟩ := ok1 hI.2.2.1
    obtain ⟨h1, h2⟩ := h
    rcases x with _ | q
    · exact lv_ifnonnullN (ls := lsC) hx hb hd (hk _ (h2 (fun z => z rfl)) H locs lsC (hI.st o3))
    · exact lv_ifnonnull (ls := lsC) hx hb hd (tgt_ok ht) (hk _ (h1 (fun z => by cases z)) H locs lsC (hI.st o3))
  · exact absurd h.1 id
theorem c_dup {p : Program} {l : Launch} {e : Env} {R : Room} {s : State} {m : MethodId} {args : Array Value} {below : List Frame} {meth : Method} {c : Code} {Q : State → Prop} {E : EnvT} {own : String} {cc : ByteArray} {nL : Nat} {B : Nat × Nat} {cnt0 : Nat → Nat} (C0 : Cx p s m args meth c E own cc nL) {call : CallT} {post : Option AV → AS → Prop} {k : Cfg → Prop} {pc : Nat} {ls st : List AV} {σ : AS} (hd : decode cc pc = .ok (.dup, 1)) (hk : ∀ z, k z → PW p l e R s m args below meth c Q E nL B cnt0 z) (h : wE call post k (dupE σ st (fun v r => nx (pc + 1) ls (v :: v :: r) σ))) : PW p l e R s m args below meth c Q E nL B cnt0 (pc, ls, st, σ) := by
  obtain ⟨hx, hb, hml, hown, hts, hlk, hKn, hbs⟩ := C0
  intro H locs lsC hI
  unfold dupE at h
  split at h
  · rename_i x r
    obtain ⟨ov, o3⟩ := ok1 hI.2.2.1
    exact lv_dup (ls := lsC) hx hb hd rfl (hk _ h H locs lsC (hI.st (okc ov (okc ov o3))))
  · rename_i x r
    obtain ⟨ov, o3⟩ := ok1 hI.2.2.1
    exact lv_dup (ls := lsC) hx hb hd (by cases x <;> rfl) (hk _ h H locs lsC (hI.st (okc ov (okc ov o3))))
  · exact absurd h.1 id
theorem c_pop {p : Program} {l : Launch} {e : Env} {R : Room} {s : State} {m : MethodId} {args : Array Value} {below : List Frame} {meth : Method} {c : Code} {Q : State → Prop} {E : EnvT} {own : String} {cc : ByteArray} {nL : Nat} {B : Nat × Nat} {cnt0 : Nat → Nat} (C0 : Cx p s m args meth c E own cc nL) {call : CallT} {post : Option AV → AS → Prop} {k : Cfg → Prop} {pc : Nat} {ls st : List AV} {σ : AS} (hd : decode cc pc = .ok (.pop, 1)) (hk : ∀ z, k z → PW p l e R s m args below meth c Q E nL B cnt0 z) (h : wE call post k (dupE σ st (fun v r => nx (pc + 1) ls r σ))) : PW p l e R s m args below meth c Q E nL B cnt0 (pc, ls, st, σ) := by
  obtain ⟨hx, hb, hml, hown, hts, hlk, hKn, hbs⟩ := C0
  intro H locs lsC hI
  unfold dupE at h
  split at h
  · rename_i x r
    obtain ⟨ov, o3⟩ := ok1 hI.2.2.1
    exact lv_pop (ls := lsC) hx hb hd rfl (hk _ h H locs lsC (hI.st (o3)))
  · rename_i x r
    obtain ⟨ov, o3⟩ := ok1 hI.2.2.1
    exact lv_pop (ls := lsC) hx hb hd (by cases x <;> rfl) (hk _ h H locs lsC (hI.st (o3)))
  · exact absurd h.1 id
theorem c_dup2 {p : Program} {l : Launch} {e : Env} {R : Room} {s : State} {m : MethodId} {args : Array Value} {below : List Frame} {meth : Method} {c : Code} {Q : State → Prop} {E : EnvT} {own : String} {cc : ByteArray} {nL : Nat} {B : Nat × Nat} {cnt0 : Nat → Nat} (C0 : Cx p s m args meth c E own cc nL) {call : CallT} {post : Option AV → AS → Prop} {k : Cfg → Prop} {pc : Nat} {ls st : List AV} {σ : AS} (hd : decode cc pc = .ok (.dup2, 1)) (hk : ∀ z, k z → PW p l e R s m args below meth c Q E nL B cnt0 z) (h : wE call post k (match st with | .inl y :: .inr (.inr (.inl x)) :: r => nx (pc + 1) ls (.inl y :: .inr (.inr (.inl x)) :: .inl y :: .inr (.inr (.inl x)) :: r) σ | _ => bad σ)) : PW p l e R s m args below meth c Q E nL B cnt0 (pc, ls, st, σ) := by
  obtain ⟨hx, hb, hml, hown, hts, hlk, hKn, hbs⟩ := C0
  intro H locs lsC hI
  split at h
  · rename_i y x r
    obtain ⟨oy, o2⟩ := ok1 hI.2.2.1
    obtain ⟨ox, o3⟩ := ok1 o2
    exact lv_dup2_11 (ls := lsC) hx hb hd rfl (by cases x <;> rfl) (hk _ h H locs lsC (hI.st (okc oy (okc ox (okc oy (okc ox o3))))))
  · exact absurd h.1 id
theorem c_pop2 {p : Program} {l : Launch} {e : Env} {R : Room} {s : State} {m : MethodId} {args : Array Value} {below : List Frame} {meth : Method} {c : Code} {Q : State → Prop} {E : EnvT} {own : String} {cc : ByteArray} {nL : Nat} {B : Nat × Nat} {cnt0 : Nat → Nat} (C0 : Cx p s m args meth c E own cc nL) {call : CallT} {post : Option AV → AS → Prop} {k : Cfg → Prop} {pc : Nat} {ls st : List AV} {σ : AS} (hd : decode cc pc = .ok (.pop2, 1)) (hk : ∀ z, k z → PW p l e R s m args below meth c Q E nL B cnt0 z) (h : wE call post k (l1 σ st (fun _ r => nx (pc + 1) ls r σ))) : PW p l e R s m args below meth c Q E nL B cnt0 (pc, ls, st, σ) := by
  obtain ⟨hx, hb, hml, hown, hts, hlk, hKn, hbs⟩ := C0
  intro H locs lsC hI
  unfold l1 at h
  split at h
  · rename_i x r
    obtain ⟨ox, o3⟩ := ok1 hI.2.2.1
    exact lv_pop2_2 (ls := lsC) hx hb hd rfl (hk _ h H locs lsC (hI.st o3))
  · exact absurd h.1 id
