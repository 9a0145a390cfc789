/-! SOUNDNESS, 10: every row; every method -/
theorem ckF_ok {own : String} {idx a b pos : Nat} (h : ckF own idx a b pos = true) : rowF own idx a b := by
  unfold ckF at h
  simp only [Bool.and_eq_true] at h
  obtain ⟨⟨⟨⟨⟨⟨h1, h2⟩, h3⟩, h4⟩, h5⟩, h6⟩, h7⟩ := h
  refine ⟨blt_lt h1, blt_lt h2, beq_t h3, ?_, lwF_in h5, fun e => ?_, fun e => ?_⟩
  · have h4 := eq_of_beq h4
    rw [h4]
    exact ⟨fun z => beq_t z, fun z => by rw [z]; rfl⟩
  · rw [e] at h6
    exact h6
  · rw [e] at h7
    cases h7
theorem closure {p : Program} {l : Launch} {e : Env} {R : Room} {s : State} {m : MethodId} {args : Array Value} {below : List Frame} {meth : Method} {c : Code} {Q : State → Prop} {E : EnvT} {own : String} {cc : ByteArray} {nL : Nat} {B : Nat × Nat} {cnt0 : Nat → Nat} (C0 : Cx p s m args meth c E own cc nL) {call : CallT} {post : Option AV → AS → Prop} {tbl : List (List (Nat × Row))} {ret : Option FieldType} {init : Bool} {d : Nat}
    (hrow : ∀ pc r, look tbl pc = some r → ckR valid own nL init ret cc (pc, r) = true) (hinit : init = true → meth.name = "<init>")
    (hcall : ∀ j, j ∈ allJ → ∀ as τ P, call j as τ P → Ok τ → (∀ v ∈ as, okv τ.2.1 v) → τ.1.2 = (0, 0) → Ctr l E d j as τ P)
    (hR : d + 1 ≤ R.frames ∧ 37 * d + 36 ≤ R.locals) (hRB : R.cells = B.1 ∧ R.slots = B.2) (hS : ∀ j, InI ((esc E).1.2 j)) (hL : (esc E).1.1 < 2147483648) (hF : ∀ cnt, okr cnt (esc E).2)
    (hir : ∀ pc ls x σ k, decode cc pc = .ok (.ireturn, 1) → (ret = some .int ∨ ret = some .boolean ∨ ret = some .byte ∨ ret = some .char) → wE call post k (retE (rkOf ret) x σ) → PW p l e R s m args below meth c Q E nL B cnt0 (pc, ls, [.inl x], σ))
    (hlr : ∀ pc ls x σ, decode cc pc = .ok (.lreturn, 1) → ret = some .long → post (some (.inr (.inl x))) σ → PW p l e R s m args below meth c Q E nL B cnt0 (pc, ls, [.inr (.inl x)], σ))
    (har : ∀ pc ls x σ rt, decode cc pc = .ok (.areturn, 1) → ret = some rt → ((∃ n, rt = .object n) ∨ ∃ t, rt = .array t) → post (some (.inr (.inr (.inl x)))) σ → PW p l e R s m args below meth c Q E nL B cnt0 (pc, ls, [.inr (.inr (.inl x))], σ))
    (hvr : ∀ pc ls σ, decode cc pc = .ok (.return_, 1) → ret = none → post none σ → PW p l e R s m args below meth c Q E nL B cnt0 (pc, ls, [], σ)) :
    ∀ (y : Cfg) (k : Cfg → Prop), (∀ z, k z → PW p l e R s m args below meth c Q E nL B cnt0 z) → wE call post k (stepE (esc E) (look tbl) (rkOf ret) B y) → PW p l e R s m args below meth c Q E nL B cnt0 y := by
  rintro ⟨pc, ls, st, σ⟩ k hk h
  unfold stepE at h
  cases hl : look tbl pc with
  | none =>
    simp only [hl] at h
    exact absurd h.1 id
  | some row =>
  obtain ⟨ins, len, a, b, pos⟩ := row
  have ck := hrow pc _ hl
  simp only [hl] at h
  unfold ckR at ck
  simp only [Bool.and_eq_true] at ck
  obtain ⟨⟨ck1, ck2⟩, ck3⟩ := ck
  have hd : decode cc pc = .ok (ins, len) := of_decide_eq_true ck1
  clear ck1 hl hrow
  have hlen : isTs ins = false → len = lenOf ins := fun z => by rw [z, Bool.false_or] at ck2; exact beq_t ck2
  clear ck2
  cases ins with
  | iload n =>
    have e := hlen rfl
    simp only [lenOf] at e
    subst e
    exact c_iload C0 hd hk h
  | iload_n n =>
    have e := hlen rfl
    simp only [lenOf] at e
    subst e
    exact c_iload_n C0 hd hk h
  | lload n =>
    have e := hlen rfl
    simp only [lenOf] at e
    subst e
    exact c_lload C0 hd hk h
  | lload_n n =>
    have e := hlen rfl
    simp only [lenOf] at e
    subst e
    exact c_lload_n C0 hd hk h
  | aload n =>
    have e := hlen rfl
    simp only [lenOf] at e
    subst e
    exact c_aload C0 hd hk h
  | aload_n n =>
    have e := hlen rfl
    simp only [lenOf] at e
    subst e
    exact c_aload_n C0 hd hk h
  | istore n =>
    have e := hlen rfl
    simp only [lenOf] at e
    subst e
    exact c_istore C0 (blt_lt ck3) hd hk h
  | istore_n n =>
    have e := hlen rfl
    simp only [lenOf] at e
    subst e
    exact c_istore_n C0 (blt_lt ck3) hd hk h
  | astore n =>
    have e := hlen rfl
    simp only [lenOf] at e
    subst e
    exact c_astore C0 (blt_lt ck3) hd hk h
  | astore_n n =>
    have e := hlen rfl
    simp only [lenOf] at e
    subst e
    exact c_astore_n C0 (blt_lt ck3) hd hk h
  | lstore n =>
    have e := hlen rfl
    simp only [lenOf] at e
    subst e
    exact c_lstore C0 (blt_lt ck3) hd hk h
  | lstore_n n =>
    have e := hlen rfl
    simp only [lenOf] at e
    subst e
    exact c_lstore_n C0 (blt_lt ck3) hd hk h
  | iconst v =>
    have e := hlen rfl
    simp only [lenOf] at e
    subst e
    exact c_iconst C0 (of_decide_eq_true ck3) hd hk h
  | bipush v =>
    have e := hlen rfl
    simp only [lenOf] at e
    subst e
    exact c_bipush C0 (of_decide_eq_true ck3) hd hk h
  | sipush v =>
    have e := hlen rfl
    simp only [lenOf] at e
    subst e
    exact c_sipush C0 (of_decide_eq_true ck3) hd hk h
  | lconst v =>
    have e := hlen rfl
    simp only [lenOf] at e
    subst e
    exact c_lconst C0 hd hk h
  | ldc2_w i =>
    have e := hlen rfl
    simp only [lenOf] at e
    subst e
    exact c_ldc2_w C0 (of_decide_eq_true (and_l ck3)) (lwI_in (and_r ck3)) hd hk h
  | ldc_w i =>
    have e := hlen rfl
    simp only [lenOf] at e
    subst e
    exact c_ldc_w C0 (of_decide_eq_true (and_l ck3)) (lwI_in (and_r ck3)) hd hk h
  | ldc i =>
    have e := hlen rfl
    simp only [lenOf] at e
    subst e
    exact c_ldc C0 (blt_lt (and_l (and_l ck3))) (beq_t (and_r (and_l ck3))) (of_decide_eq_true (and_r ck3)) hd hk h
  | aconst_null =>
    have e := hlen rfl
    simp only [lenOf] at e
    subst e
    exact c_aconst_null C0 hd hk h
  | iadd =>
    have e := hlen rfl
    simp only [lenOf] at e
    subst e
    exact c_iadd C0 hd hk h
  | isub =>
    have e := hlen rfl
    simp only [lenOf] at e
    subst e
    exact c_isub C0 hd hk h
  | imul =>
    have e := hlen rfl
    simp only [lenOf] at e
    subst e
    exact c_imul C0 hd hk h
  | idiv =>
    have e := hlen rfl
    simp only [lenOf] at e
    subst e
    exact c_idiv C0 hd hk h
  | irem =>
    have e := hlen rfl
    simp only [lenOf] at e
    subst e
    exact c_irem C0 hd hk h
  | ineg =>
    have e := hlen rfl
    simp only [lenOf] at e
    subst e
    exact c_ineg C0 hd hk h
  | ladd =>
    have e := hlen rfl
    simp only [lenOf] at e
    subst e
    exact c_ladd C0 hd hk h
  | lsub =>
    have e := hlen rfl
    simp only [lenOf] at e
    subst e
    exact c_lsub C0 hd hk h
  | lmul =>
    have e := hlen rfl
    simp only [lenOf] at e
    subst e
    exact c_lmul C0 hd hk h
  | ldiv =>
    have e := hlen rfl
    simp only [lenOf] at e
    subst e
    exact c_ldiv C0 hd hk h
  | lneg =>
    have e := hlen rfl
    simp only [lenOf] at e
    subst e
    exact c_lneg C0 hd hk h
  | iand =>
    have e := hlen rfl
    simp only [lenOf] at e
    subst e
    exact c_iand C0 hd hk h
  | ior =>
    have e := hlen rfl
    simp only [lenOf] at e
    subst e
    exact c_ior C0 hd hk h
  | ixor =>
    have e := hlen rfl
    simp only [lenOf] at e
    subst e
    exact c_ixor C0 hd hk h
  | ishl =>
    have e := hlen rfl
    simp only [lenOf] at e
    subst e
    exact c_ishl C0 hd hk h
  | ishr =>
    have e := hlen rfl
    simp only [lenOf] at e
    subst e
    exact c_ishr C0 hd hk h
  | iushr =>
    have e := hlen rfl
    simp only [lenOf] at e
    subst e
    exact c_iushr C0 hd hk h
  | lshr =>
    have e := hlen rfl
    simp only [lenOf] at e
    subst e
    exact c_lshr C0 hd hk h
  | i2l =>
    have e := hlen rfl
    simp only [lenOf] at e
    subst e
    exact c_i2l C0 hd hk h
  | l2i =>
    have e := hlen rfl
    simp only [lenOf] at e
    subst e
    exact c_l2i C0 hd hk h
  | i2b =>
    have e := hlen rfl
    simp only [lenOf] at e
    subst e
    exact c_i2b C0 hd hk h
  | i2c =>
    have e := hlen rfl
    simp only [lenOf] at e
    subst e
    exact c_i2c C0 hd hk h
  | lcmp =>
    have e := hlen rfl
    simp only [lenOf] at e
    subst e
    exact c_lcmp C0 hd hk h
  | dup =>
    have e := hlen rfl
    simp only [lenOf] at e
    subst e
    exact c_dup C0 hd hk h
  | pop =>
    have e := hlen rfl
    simp only [lenOf] at e
    subst e
    exact c_pop C0 hd hk h
  | dup2 =>
    have e := hlen rfl
    simp only [lenOf] at e
    subst e
    exact c_dup2 C0 hd hk h
  | pop2 =>
    have e := hlen rfl
    simp only [lenOf] at e
    subst e
    exact c_pop2 C0 hd hk h
  | laload =>
    have e := hlen rfl
    simp only [lenOf] at e
    subst e
    exact c_laload C0 hd hk h
  | aaload =>
    have e := hlen rfl
    simp only [lenOf] at e
    subst e
    exact c_aaload C0 hd hk h
  | iastore =>
    have e := hlen rfl
    simp only [lenOf] at e
    subst e
    exact c_iastore C0 hd hk h
  | bastore =>
    have e := hlen rfl
    simp only [lenOf] at e
    subst e
    exact c_bastore C0 hd hk h
  | lastore =>
    have e := hlen rfl
    simp only [lenOf] at e
    subst e
    exact c_lastore C0 hd hk h
  | aastore =>
    have e := hlen rfl
    simp only [lenOf] at e
    subst e
    exact c_aastore C0 hd hk h
  | iaload =>
    have e := hlen rfl
    simp only [lenOf] at e
    subst e
    exact c_iaload C0 hS hd hk h
  | baload =>
    have e := hlen rfl
    simp only [lenOf] at e
    subst e
    exact c_baload C0 hS hd hk h
  | arraylength =>
    have e := hlen rfl
    simp only [lenOf] at e
    subst e
    exact c_arraylength C0 hS hL hd hk h
  | ifCond cd off =>
    have e := hlen rfl
    simp only [lenOf] at e
    subst e
    exact c_ifCond C0 (of_decide_eq_true ck3) hd hk h
  | if_icmp cd off =>
    have e := hlen rfl
    simp only [lenOf] at e
    subst e
    exact c_if_icmp C0 (of_decide_eq_true ck3) hd hk h
  | if_acmp cd off =>
    have e := hlen rfl
    simp only [lenOf] at e
    subst e
    exact c_if_acmp C0 (of_decide_eq_true ck3) hd hk h
  | ifnull off =>
    have e := hlen rfl
    simp only [lenOf] at e
    subst e
    exact c_ifnull C0 (of_decide_eq_true ck3) hd hk h
  | ifnonnull off =>
    have e := hlen rfl
    simp only [lenOf] at e
    subst e
    exact c_ifnonnull C0 (of_decide_eq_true ck3) hd hk h
  | goto off =>
    have e := hlen rfl
    simp only [lenOf] at e
    subst e
    exact c_goto C0 (of_decide_eq_true ck3) hd hk h
  | iinc n k0 =>
    have e := hlen rfl
    simp only [lenOf] at e
    subst e
    exact c_iinc C0 (blt_lt ck3) hd hk h
  | getfield i =>
    have e := hlen rfl
    simp only [lenOf] at e
    subst e
    have ck3 : (bif Nat.beq a 100 then lwI pos (.fieldLink own i "java/lang/String" (bif Nat.beq b 4 then "value" else "coder") (bif Nat.beq b 4 then "[B" else "B")) else ckF own i a b pos) = true := ck3
    cases q : Nat.beq a 100 with
    | true =>
      rw [q] at ck3
      have e := beq_t q
      subst e
      exact c_getfieldS C0 (lwI_in ck3) hd hk h
    | false =>
      rw [q] at ck3
      exact c_getfield C0 (ckF_ok ck3) hd hk (getf_eq (b := b) (beq_f q) h)
  | putfield i =>
    have e := hlen rfl
    simp only [lenOf] at e
    subst e
    have ck3 : (ckF own i a b pos && (!(Tn a (b / 8)).2.2.2 || (init && decide ((Tn a (b / 8)).1 = own) && lwI pos (.fieldLink own i (Tn a (b / 8)).1 (Tn a (b / 8)).2.1 (Tn a (b / 8)).2.2.1)))) = true := ck3
    refine c_putfield C0 (ckF_ok (and_l ck3)) ?_ hd hk h
    have q := and_r ck3
    cases hf : (Tn a (b / 8)).2.2.2 with
    | false => exact Or.inl rfl
    | true =>
      rw [hf, Bool.not_true, Bool.false_or] at q
      exact Or.inr ⟨hinit (and_l (and_l q)), of_decide_eq_true (and_r (and_l q)), lwI_in (and_r q)⟩
  | getstatic i =>
    have e := hlen rfl
    simp only [lenOf] at e
    subst e
    have ck3 : (bif Nat.beq a 0 then lwI pos (.fieldLink own i "java/lang/String" "COMPACT_STRINGS" "Z") else bif Nat.beq a 1 then Nat.blt b 4 && lwI pos (.fieldLink own i "EchoValley$Reader" (nmS b) "[I") else lwI pos (.fieldLink own i "jdk/internal/util/Preconditions" "SIOOBE_FORMATTER" "Ljava/util/function/BiFunction;")) = true := ck3
    refine c_getstatic C0 (hF _) ?_ hd hk h
    cases q : Nat.beq a 0 with
    | true => rw [q] at ck3; exact lwI_in ck3
    | false =>
      rw [q] at ck3
      cases q2 : Nat.beq a 1 with
      | true => rw [q2] at ck3; exact ⟨blt_lt (and_l ck3), lwI_in (and_r ck3)⟩
      | false => rw [q2] at ck3; exact lwI_in ck3
  | new i =>
    have e := hlen rfl
    simp only [lenOf] at e
    subst e
    exact c_new C0 (blt_lt (and_l ck3)) (lwI_in (and_r ck3)) hRB hd hk h
  | newarray t =>
    have e := hlen rfl
    simp only [lenOf] at e
    subst e
    have ck3 : (Nat.ble 20 a && Nat.blt a 100 && Nat.beq (aty a) (tyN t) && Nat.ble (aty a) 3) = true := ck3
    have h3 := Nat.le_of_ble_eq_true (and_r ck3)
    have ht := beq_t (and_r (and_l ck3))
    refine c_newarray C0 (Nat.le_of_ble_eq_true (and_l (and_l (and_l ck3)))) (blt_lt (and_r (and_l (and_l ck3)))) ?_ h3 hRB hd hk h
    rw [ht] at h3 ⊢
    cases t <;> first | rfl | (exact absurd h3 (by decide))
  | anewarray i =>
    have e := hlen rfl
    simp only [lenOf] at e
    subst e
    have ck3 : (Nat.ble 20 a && Nat.blt a 100 && ((Nat.beq (aty a) 4 && lwI pos (.classLink own i "EchoValley$Wall")) || (Nat.beq (aty a) 5 && lwI pos (.classLink own i "EchoValley$Slot")))) = true := ck3
    refine c_anewarray C0 (Nat.le_of_ble_eq_true (and_l (and_l ck3))) (blt_lt (and_r (and_l ck3))) ?_ hRB hd hk h
    have q := and_r ck3
    cases q1 : (Nat.beq (aty a) 4 && lwI pos (.classLink own i "EchoValley$Wall")) with
    | true => exact Or.inl ⟨beq_t (and_l q1), lwI_in (and_r q1)⟩
    | false => rw [q1, Bool.false_or] at q; exact Or.inr ⟨beq_t (and_l q), lwI_in (and_r q)⟩
  | invokevirtual i =>
    have e := hlen rfl
    simp only [lenOf] at e
    subst e
    have ck3 : (valid a && Nat.beq (mK a) 1 && Nat.beq (mN a) b && lwM own i (mY a) pos) = true := ck3
    have hj := valid_in (and_l (and_l (and_l ck3)))
    exact c_invV C0 hj (beq_t (and_r (and_l ck3))) (lwM_in (and_r ck3)) (hcall a hj) hR hRB (beq_t (and_r (and_l (and_l ck3)))) hd hk h
  | invokespecial i =>
    have e := hlen rfl
    simp only [lenOf] at e
    subst e
    have ck3 : (bif Nat.beq a 999999 then lwI pos (.methodLink own i Lib.objectInit) else valid a && Nat.beq (mK a) 2 && Nat.beq (mN a) b && lwM own i (mY a) pos) = true := ck3
    have h : wE call post k (match (generalizing := false) Nat.beq a 999999 with | true => o1 σ st (fun _ _ r => when σ (Nat.ble (cats r) 8) (nx (pc + 3) ls r σ)) | false => invE B a b pc ls st σ) := h
    cases q : Nat.beq a 999999 with
    | true =>
      rw [q] at ck3 h
      exact c_objInit C0 (lwI_in ck3) ⟨Nat.le_trans (Nat.le_add_left 1 d) hR.1, by omega⟩ hd hk h
    | false =>
      rw [q] at ck3 h
      have hj := valid_in (and_l (and_l (and_l ck3)))
      exact c_invI C0 hj (beq_t (and_r (and_l ck3))) (lwM_in (and_r ck3)) (hcall a hj) hR hRB (beq_t (and_r (and_l (and_l ck3)))) hd hk h
  | invokestatic i =>
    have e := hlen rfl
    simp only [lenOf] at e
    subst e
    have ck3 : (valid a && Nat.beq (mK a) 0 && Nat.beq (mN a) b && lwM own i (mY a) pos) = true := ck3
    have hj := valid_in (and_l (and_l (and_l ck3)))
    exact c_invS C0 hj (beq_t (and_r (and_l ck3))) (lwM_in (and_r ck3)) (hcall a hj) hR hRB (beq_t (and_r (and_l (and_l ck3)))) hd hk h
  | tableswitch d0 lo hi offs =>
    have ck3 : (decide (hi = lo + (offs.size : Int) - 1) && tOK pc d0 && offs.toList.all (fun o => tOK pc o)) = true := ck3
    exact c_tableswitch C0 (of_decide_eq_true (and_l (and_l ck3))) (of_decide_eq_true (and_r (and_l ck3))) (fun o ho => of_decide_eq_true (List.all_eq_true.mp (and_r ck3) o ho)) hd hk h
  | ireturn =>
    have e := hlen rfl
    simp only [lenOf] at e
    subst e
    have h : wE call post k (match (generalizing := false) st with | [.inl x] => retE (rkOf ret) x σ | _ => bad σ) := h
    split at h
    · exact hir _ _ _ _ _ hd (of_decide_eq_true ck3) h
    · exact absurd h.1 id
  | lreturn =>
    have e := hlen rfl
    simp only [lenOf] at e
    subst e
    have h : wE call post k (match (generalizing := false) st with | [.inr (.inl x)] => (none, .inl (.inr (.inl (some (.inr (.inl x)), σ)))) | _ => bad σ) := h
    split at h
    · exact hlr _ _ _ _ hd (of_decide_eq_true ck3) h
    · exact absurd h.1 id
  | areturn =>
    have e := hlen rfl
    simp only [lenOf] at e
    subst e
    have h : wE call post k (match (generalizing := false) st with | [.inr (.inr (.inl r))] => (none, .inl (.inr (.inl (some (.inr (.inr (.inl r))), σ)))) | _ => bad σ) := h
    have ck3 : (match (generalizing := false) ret with | some (.object _) => true | some (.array _) => true | _ => false) = true := ck3
    split at h
    · split at ck3
      · exact har _ _ _ _ _ hd rfl (Or.inl ⟨_, rfl⟩) h
      · exact har _ _ _ _ _ hd rfl (Or.inr ⟨_, rfl⟩) h
      · cases ck3
    · exact absurd h.1 id
  | return_ =>
    have e := hlen rfl
    simp only [lenOf] at e
    subst e
    have h : wE call post k (match (generalizing := false) st with | [] => (none, .inl (.inr (.inl (none, σ)))) | _ => bad σ) := h
    split at h
    · exact hvr _ _ _ hd (of_decide_eq_true ck3) h
    · exact absurd h.1 id
  | _ => exact absurd h.1 id
theorem argL_len {E : EnvT} : ∀ as : List AV, (lg_sl (as.map (cv E))).length = (argL as).length
  | [] => rfl
  | v :: l => by
    have ih := argL_len (E := E) l
    have e : lg_sl ((v :: l).map (cv E)) = (if (cv E v).category = 2 then [.val (cv E v), .second] else [.val (cv E v)]) ++ lg_sl (l.map (cv E)) := by
      simp only [List.map_cons, lg_sl, List.flatMap_cons]
    rw [e]
    cases q : isL v with
    | true =>
      have hc : (cv E v).category = 2 := by
        rcases v with x | x | x | x <;> first | (cases q; done) | rfl
      simp only [argL, q, hc, if_true, List.length_append, List.length_cons, List.length_nil, ih]
      omega
    | false =>
      have hc := cv_cat1 E q
      have hc2 : ¬ (cv E v).category = 2 := by omega
      simp only [argL, q, hc2, if_false, List.length_append, List.length_cons, List.length_nil, ih]
      omega
theorem argL_at {E : EnvT} : ∀ (as : List AV) (off i : Nat) (v : AV), (argL as)[i]? = some v → isX v = false → (off + i, cv E v) ∈ lv_args off (as.map (cv E))
  | [], off, i, v, h, _ => by cases h
  | w :: l, off, i, v, h, hx => by
    cases q : isL w with
    | true =>
      have hc : (cv E w).category = 2 := by
        rcases w with x | x | x | x <;> first | (cases q; done) | rfl
      simp only [argL, q] at h
      simp only [List.map_cons, lv_args, hc, if_true]
      rcases i with _ | _ | i
      · have e : w = v := by simpa using h
        rw [e]
        exact List.mem_cons_self
      · have e : vx = v := by simpa using h
        rw [← e] at hx
        cases hx
      · have := argL_at (E := E) l (off + 2) i v (by simpa using h) hx
        rw [show off + (i + 1 + 1) = off + 2 + i by omega]
        exact List.mem_cons_of_mem _ this
    | false =>
      have hc2 : ¬ (cv E w).category = 2 := by rw [cv_cat1 E q]; decide
      simp only [argL, q] at h
      simp only [List.map_cons, lv_args, hc2, if_false]
      rcases i with _ | i
      · have e : w = v := by simpa using h
        rw [e]
        exact List.mem_cons_self
      · have := argL_at (E := E) l (off + 1) i v (by simpa using h) hx
        rw [show off + (i + 1) = off + 1 + i by omega]
        exact List.mem_cons_of_mem _ this
theorem argL_ok {n : Nat → Nat} : ∀ as : List AV, (∀ v ∈ as, okv n v) → ∀ v ∈ argL as, okv n v
  | [], _, v, h => by cases h
  | w :: l, ha, v, h => by
    obtain ⟨h1, h2⟩ := ok1 ha
    cases q : isL w with
    | true =>
      simp only [argL, q] at h
      rcases List.mem_cons.mp h with rfl | h
      · exact h1
      · rcases List.mem_cons.mp h with rfl | h
        · trivial
        · exact argL_ok l h2 v h
    | false =>
      simp only [argL, q] at h
      rcases List.mem_cons.mp h with rfl | h
      · exact h1
      · exact argL_ok l h2 v h
theorem entL_LR {E : EnvT} {as : List AV} {n : Nat} {ls : Array Slot} (hlen : (argL as).length ≤ n) (hl : lv_has ls n (lv_args 0 (as.map (cv E)))) : LR E (entL n as) ls n := by
  refine ⟨hl.1, by unfold entL; simp; omega, hl.2.1, fun i v hi hx => ?_⟩
  unfold entL at hi
  by_cases q : i < (argL as).length
  · rw [List.getElem?_append_left q] at hi
    have := argL_at (E := E) as 0 i v hi hx
    rw [Nat.zero_add] at this
    exact hl.2.2 _ this
  · rw [List.getElem?_append_right (by omega)] at hi
    have e := List.eq_of_mem_replicate (List.mem_of_getElem? hi)
    rw [e] at hx
    cases hx
theorem entL_ok {m : Nat → Nat} {as : List AV} {n : Nat} (h : ∀ v ∈ as, okv m v) : ∀ v ∈ entL n as, okv m v := by
  intro v hv
  rcases List.mem_append.mp hv with q | q
  · exact argL_ok as h v q
  · rw [List.eq_of_mem_replicate q]
    trivial
theorem ctr_all (l : Launch) (E : EnvT) (hS : ∀ j, InI ((esc E).1.2 j)) (hL : (esc E).1.1 < 2147483648) (hF : ∀ cnt, okr cnt (esc E).2) : ∀ (d j : Nat), j ∈ allJ → ∀ (as : List AV) (τ : AS) (P : Option AV → AS → Prop), RM (esc E) d j as τ P → Ok τ → (∀ v ∈ as, okv τ.2.1 v) → τ.1.2 = (0, 0) → Ctr l E d j as τ P
  | 0, _, _, _, _, _, h, _, _, _ => absurd h id
  | d + 1, j, hj, as, τ, P, h, hO, hv, h0 => by
    obtain ⟨f1, f2, f3, f4, f5, f6, f7, f8, f9⟩ := mf_all j hj
    unfold Ctr
    refine va_MetF (cc := mB j) (maxL := mL j) (ret := mR j) f3 rfl ?_
    intro p e s m args below meth c s₁ B hml hpre
    obtain ⟨rfl, hpic, hKn⟩ := hpre
    have hts := atoms_spec (ws := wsJ j) B.pre
    have hown : s.vm.findClass (mY j).cls = some m.cls := findClass_of_methodNamed B.named
    have C0 : Cx p s m ((as.map (cv E)).toArray) meth c E (mY j).cls (mB j) (mL j) := ⟨B.exec, B.bytes, hml, hown, fun w hw => hts w (List.mem_cons_of_mem _ hw), B.notSynchronized, hKn, by rw [hpic.1]; omega⟩
    have hr := B.returns
    have hl := lv_entry (as.map (cv E)) (n := mL j) (by rw [argL_len]; exact h.1)
    rw [lg_entry_eq]
    generalize (lg_sl (as.map (cv E)) ++ List.replicate (mL j - (lg_sl (as.map (cv E))).length) Slot.unset).toArray = lsC at hl ⊢
    have key := h.2 (PW p l e (rmD (d + 1) j) s m ((as.map (cv E)).toArray) below meth c (MQ below (QG E τ P) ((as.map (cv E)).toArray) s (bud j).1 (bud j).2 (aE E)) E (mL j) (bud j) τ.2.1)
      (closure C0 (d := d) f9 (fun z => by have := (f8 (beq_t z)).2.1; rw [(name_of_methodNamed B.named B.method).1]; exact this) (fun j' hj' => ctr_all l E hS hL hF d j' hj') ⟨Nat.le_refl _, by show 37 * d + 36 ≤ 37 * (d + 1); omega⟩ ⟨rfl, rfl⟩ hS hL hF
        (fun pc ls x σ k hd hret hw => c_ireturn C0 hr hret hd hw) (fun pc ls x σ hd hret hw => c_lreturn C0 (hr.trans hret) hd hw) (fun pc ls x σ rt hd hret hrt hw => c_areturn C0 (hr.trans hret) hrt hd hw) (fun pc ls σ hd hret hw => c_return C0 (hr.trans hret) hd hw))
    have := key s.heap [] lsC ⟨hO, entL_ok hv, (fun v hv => by cases hv), fun _ => Nat.le_refl _, by show τ.1.2.1 ≤ _ ∧ τ.1.2.2 ≤ _; rw [h0]; exact ⟨Nat.zero_le _, Nat.zero_le _⟩, hpic, va_S.rf, entL_LR h.1 hl⟩
    have e1 : τ.1.2.1 = 0 := by rw [h0]
    have e2 : τ.1.2.2 = 0 := by rw [h0]
    simp only [e1, e2] at this
    exact this
