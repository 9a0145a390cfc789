/-! SOUNDNESS, 7: strings, statics, switches, makers -/
theorem getf_eq {call : CallT} {post : Option AV → AS → Prop} {k : Cfg → Prop} {σ : AS} {st : List AV} {a b : Nat} {f : Nat → Nat → List AV → Eff} {g : Nat → Nat → List AV → Eff} (ha : ¬ a = 100) (h : wE call post k (o1 σ st (fun c i r => when σ (Nat.beq c a) (match Nat.beq c 100 with | true => f c i r | false => g c i r)))) : wE call post k (o1 σ st (fun c i r => when σ (Nat.beq c a) (g c i r))) := by
  obtain ⟨u, i, r, rfl, g1⟩ := o1_inv h
  obtain ⟨hq, g2⟩ := when_inv g1
  have e := beq_t hq
  subst e
  have e2 : Nat.beq u 100 = false := by
    cases q : Nat.beq u 100 with
    | false => rfl
    | true => exact absurd (beq_t q) ha
  rw [e2] at g2
  show wE call post k (when σ (Nat.beq u u) (g u i r))
  rw [hq]
  exact g2
theorem c_getfieldS {p : Program} {l : Launch} {e : Env} {R : Room} {s : State} {m : MethodId} {args : Array Value} {below : List Frame} {meth : Method} {c : Code} {Q : State → Prop} {E : EnvT} {own : String} {cc : ByteArray} {nL : Nat} {B : Nat × Nat} {cnt0 : Nat → Nat} (C0 : Cx p s m args meth c E own cc nL) {call : CallT} {post : Option AV → AS → Prop} {k : Cfg → Prop} {pc : Nat} {ls st : List AV} {σ : AS} {idx b : Nat} (hl : Jvm.Cond.fieldLink own idx "java/lang/String" (bif Nat.beq b 4 then "value" else "coder") (bif Nat.beq b 4 then "[B" else "B") ∈ lw_tbl) {g : Nat → Nat → List AV → Eff} (hd : decode cc pc = .ok (.getfield idx, 3)) (hk : ∀ z, k z → PW p l e R s m args below meth c Q E nL B cnt0 z) (h : wE call post k (o1 σ st (fun c i r => when σ (Nat.beq c 100) (match Nat.beq c 100 with | true => (match Nat.beq b 4 with | true => nx (pc + 3) ls (.inr (.inr (.inl (some (101, i)))) :: r) σ | false => nx (pc + 3) ls (.inl 0 :: r) σ) | false => g c i r)))) : PW p l e R s m args below meth c Q E nL B cnt0 (pc, ls, st, σ) := by
  obtain ⟨hx, hb, hml, hown, hts, hlk, hKn, hbs⟩ := C0
  intro H locs lsC hI
  obtain ⟨u, i, r, rfl, g1⟩ := o1_inv h
  obtain ⟨hq, g2⟩ := when_inv g1
  clear h g1
  obtain ⟨ox, o3⟩ := ok1 hI.2.2.1
  rw [hq] at g2
  have e := beq_t hq
  subst e
  have hi : i < 10 := by
    rcases (ox 100 i rfl).2 (Nat.le_refl _) with ⟨-, q⟩ | ⟨q, -⟩ | ⟨q, -⟩ | ⟨q, -⟩ | ⟨q, -⟩ <;> first | exact q | (exact absurd q (by decide))
  obtain ⟨s1, s2, s3, s4⟩ := hKn.2.2.1.1 i hi
  have pass : ∀ {n d : String} {v : Value}, va_OF "java/lang/String" n d v (eR E 100 i) (aE E) s (eH E) → Jvm.Cond.fieldLink own idx "java/lang/String" n d ∈ lw_tbl → W p l e R s m args below meth c H locs σ.1.2.1 σ.1.2.2 Q (F0 m (pc + 3) lsC (v :: r.map (cv E))) → W p l e R s m args below meth c H locs σ.1.2.1 σ.1.2.2 Q (F0 m pc lsC (.ref (adE E 100 i) :: r.map (cv E))) := by
    intro n d v hOF hl2 hz
    obtain ⟨cf, kf, fi, f, cell, h1, h2, h3, h4, h5, h6⟩ := hOF
    exact W.getf (g := F0 m pc lsC _) hx hb hown (hts _ (tb_in hl2 rfl)) h1 h2 (show H[eR E 100 i]? = some cell by rw [hI.2.2.2.2.2.1.2.1 _ (Nat.not_le.mp h6)]; exact h3) h4 h5 rfl rfl hd hz
  cases hb4 : Nat.beq b 4 with
  | true =>
    rw [hb4] at g2 hl
    refine pass s3 hl (hk _ g2 H locs lsC (hI.st (okc ?_ o3)))
    intro c2 i2 e2
    cases e2
    exact ⟨fun z => absurd z (by omega), fun _ => Or.inr (Or.inl ⟨rfl, hi⟩)⟩
  | false =>
    rw [hb4] at g2 hl
    exact pass s2 hl (hk _ g2 H locs lsC (hI.st (okc (show InI 0 by omega) o3)))
theorem c_getstatic {p : Program} {l : Launch} {e : Env} {R : Room} {s : State} {m : MethodId} {args : Array Value} {below : List Frame} {meth : Method} {c : Code} {Q : State → Prop} {E : EnvT} {own : String} {cc : ByteArray} {nL : Nat} {B : Nat × Nat} {cnt0 : Nat → Nat} (C0 : Cx p s m args meth c E own cc nL) {call : CallT} {post : Option AV → AS → Prop} {k : Cfg → Prop} {pc : Nat} {ls st : List AV} {σ : AS} {idx a b : Nat} (hF : okr σ.2.1 (esc E).2) (hl : bif Nat.beq a 0 then Jvm.Cond.fieldLink own idx "java/lang/String" "COMPACT_STRINGS" "Z" ∈ lw_tbl else bif Nat.beq a 1 then (b < 4 ∧ Jvm.Cond.fieldLink own idx "EchoValley$Reader" (nmS b) "[I" ∈ lw_tbl) else Jvm.Cond.fieldLink own idx "jdk/internal/util/Preconditions" "SIOOBE_FORMATTER" "Ljava/util/function/BiFunction;" ∈ lw_tbl) (hd : decode cc pc = .ok (.getstatic idx, 3)) (hk : ∀ z, k z → PW p l e R s m args below meth c Q E nL B cnt0 z) (h : wE call post k (match Nat.beq a 0 with | true => nx (pc + 3) ls (.inl 1 :: st) σ | false => match Nat.beq a 1 with | true => nx (pc + 3) ls (.inr (.inr (.inl (some (102, b)))) :: st) σ | false => nx (pc + 3) ls (.inr (.inr (.inl (esc E).2)) :: st) σ)) : PW p l e R s m args below meth c Q E nL B cnt0 (pc, ls, st, σ) := by
  obtain ⟨hx, hb, hml, hown, hts, hlk, hKn, hbs⟩ := C0
  intro H locs lsC hI
  have pass : ∀ {C n d : String} {v : Value}, va_Z C n d v (aE E) s (eH E) → Jvm.Cond.fieldLink own idx C n d ∈ lw_tbl → W p l e R s m args below meth c H locs σ.1.2.1 σ.1.2.2 Q (F0 m (pc + 3) lsC (v :: st.map (cv E))) → W p l e R s m args below meth c H locs σ.1.2.1 σ.1.2.2 Q (F0 m pc lsC (st.map (cv E))) := by
    intro C n d v hZ hl2 hz
    obtain ⟨cf, kf, fi, f, a, cell, h1, h2, h3, h4, h5, h6, h7, h8⟩ := hZ
    exact W.gets (g := F0 m pc lsC _) hx hb hown (hts _ (tb_in hl2 rfl)) h1 h2 h3 h4 (show H[a]? = some cell by rw [hI.2.2.2.2.2.1.2.1 _ (Nat.not_le.mp h8)]; exact h5) (fun e => by rw [e] at h6; cases h6) h7 rfl hd hz
  cases h0 : Nat.beq a 0 with
  | true =>
    rw [h0] at h hl
    exact pass hKn.2.2.2.2.1 hl (hk _ h H locs lsC (hI.st (okc (show InI 1 by omega) hI.2.2.1)))
  | false =>
    rw [h0] at h hl
    cases h1 : Nat.beq a 1 with
    | true =>
      rw [h1] at h hl
      refine pass (hKn.2.2.2.2.2.2.1 b hl.1).1 hl.2 (hk _ h H locs lsC (hI.st (okc ?_ hI.2.2.1)))
      intro c2 i2 e2
      cases e2
      exact ⟨fun z => absurd z (by omega), fun _ => Or.inr (Or.inr (Or.inl ⟨rfl, hl.1⟩))⟩
    | false =>
      rw [h1] at h hl
      exact pass hKn.2.2.2.2.2.1 hl (hk _ h H locs lsC (hI.st (okc hF hI.2.2.1)))
theorem c_ldc_w {p : Program} {l : Launch} {e : Env} {R : Room} {s : State} {m : MethodId} {args : Array Value} {below : List Frame} {meth : Method} {c : Code} {Q : State → Prop} {E : EnvT} {own : String} {cc : ByteArray} {nL : Nat} {B : Nat × Nat} {cnt0 : Nat → Nat} (C0 : Cx p s m args meth c E own cc nL) {call : CallT} {post : Option AV → AS → Prop} {k : Cfg → Prop} {pc : Nat} {ls st : List AV} {σ : AS} {i : Nat} {v : Int} (hv : InI v) (hw : Jvm.Cond.constant own i (i32 v) ∈ lw_tbl) (hd : decode cc pc = .ok (.ldc_w i, 3)) (hk : ∀ z, k z → PW p l e R s m args below meth c Q E nL B cnt0 z) (h : wE call post k (nx (pc + 3) ls (.inl v :: st) σ)) : PW p l e R s m args below meth c Q E nL B cnt0 (pc, ls, st, σ) := by
  obtain ⟨hx, hb, hml, hown, hts, hlk, hKn, hbs⟩ := C0
  intro H locs lsC hI
  exact lv_ldcw (ls := lsC) hx hb hown (hts _ (tb_in hw rfl)) hd (hk _ h H locs lsC (hI.st (okc hv hI.2.2.1)))
theorem swL_at {call : CallT} {post : Option AV → AS → Prop} {k : Cfg → Prop} {x : Int} {pc : Nat} {ls st : List AV} {σ : AS} {d lo0 : Int} : ∀ (offs : List Int) (lo : Int), wL call post k (swL x pc ls st σ d lo0 lo offs) → ((x < lo0 ∨ lo + (offs.length : Int) ≤ x) → k (tgt pc d, ls, st, σ)) ∧ ∀ (n : Nat) (o : Int), offs[n]? = some o → x = lo + (n : Int) → k (tgt pc o, ls, st, σ)
  | [], lo, h => ⟨fun z => h (by simpa using z), fun n o e => by cases e⟩
  | o :: os, lo, h => by
    have hne : ∃ q t, swL x pc ls st σ d lo0 (lo + 1) os = q :: t := by
      cases os with
      | nil => exact ⟨_, _, rfl⟩
      | cons a l => exact ⟨_, _, rfl⟩
    obtain ⟨q, t, e⟩ := hne
    have h' : wL call post k ((x = lo, .inl (tgt pc o, ls, st, σ)) :: swL x pc ls st σ d lo0 (lo + 1) os) := h
    rw [e] at h'
    obtain ⟨h1, h2⟩ := h'
    rw [← e] at h2
    obtain ⟨i1, i2⟩ := swL_at os (lo + 1) h2
    refine ⟨fun z => i1 ?_, fun n o' e2 e3 => ?_⟩
    · rcases z with z | z
      · exact Or.inl z
      · refine Or.inr ?_
        have : ((o :: os).length : Int) = (os.length : Int) + 1 := by simp
        omega
    · cases n with
      | zero => cases e2; exact h1 (by simpa using e3)
      | succ n => exact i2 n o' (by simpa using e2) (by omega)
theorem c_tableswitch {p : Program} {l : Launch} {e : Env} {R : Room} {s : State} {m : MethodId} {args : Array Value} {below : List Frame} {meth : Method} {c : Code} {Q : State → Prop} {E : EnvT} {own : String} {cc : ByteArray} {nL : Nat} {B : Nat × Nat} {cnt0 : Nat → Nat} (C0 : Cx p s m args meth c E own cc nL) {call : CallT} {post : Option AV → AS → Prop} {k : Cfg → Prop} {pc : Nat} {ls st : List AV} {σ : AS} {len : Nat} {d lo hi : Int} {offs : Array Int} (hhi : hi = lo + (offs.size : Int) - 1) (ht : 0 ≤ (pc : Int) + d) (hto : ∀ o ∈ offs.toList, 0 ≤ (pc : Int) + o) (hd : decode cc pc = .ok (.tableswitch d lo hi offs, len)) (hk : ∀ z, k z → PW p l e R s m args below meth c Q E nL B cnt0 z) (h : wE call post k (i1 σ st (fun x r => (none, .inr (swL x pc ls r σ d lo lo offs.toList))))) : PW p l e R s m args below meth c Q E nL B cnt0 (pc, ls, st, σ) := by
  obtain ⟨hx, hb, hml, hown, hts, hlk, hKn, hbs⟩ := C0
  intro H locs lsC hI
  obtain ⟨x, r, rfl, g⟩ := i1_inv h
  clear h
  obtain ⟨ox, o3⟩ := ok1 hI.2.2.1
  have ox : InI x := ox
  obtain ⟨h1, h2⟩ := swL_at offs.toList lo g
  have hl : (offs.toList.length : Int) = (offs.size : Int) := by simp
  by_cases q : x < lo ∨ hi < x
  · refine lv_tableOut (ls := lsC) hx hb hd (by rw [i32_to ox]; exact q) (tgt_ok ht) (hk _ (h1 ?_) H locs lsC (hI.st o3))
    rcases q with q | q
    · exact Or.inl q
    · exact Or.inr (by omega)
  · have q1 : ¬ x < lo := fun z => q (Or.inl z)
    have q2 : ¬ hi < x := fun z => q (Or.inr z)
    have hlt : (x - lo).toNat < offs.size := by omega
    have ho : offs.toList[(x - lo).toNat]? = some offs[(x - lo).toNat] := by simp [hlt]
    refine lv_tableIn (off := offs[(x - lo).toNat]) (ls := lsC) hx hb hd (by rw [i32_to ox]; exact q1) (by rw [i32_to ox]; exact q2) (by rw [i32_to ox]; simp [hlt]) (tgt_ok (hto _ (List.mem_of_getElem? ho))) (hk _ (h2 _ _ ho (by omega)) H locs lsC (hI.st o3))
theorem cats_le {E : EnvT} : ∀ r : List AV, ((r.map (cv E)).map fun v => v.category).sum ≤ cats r
  | [] => Nat.le_refl 0
  | v :: r => by
    have h := cats_le (E := E) r
    show (cv E v).category + ((r.map (cv E)).map fun v => v.category).sum ≤ (match isL v with | true => 2 | false => 1) + cats r
    cases q : isL v with
    | true =>
      have : (cv E v).category ≤ 2 := by rcases lv_cat (cv E v) with z | z <;> omega
      simp only []
      omega
    | false =>
      have := cv_cat1 E q
      simp only []
      omega
theorem oi_inst : Jvm.Cond.instanceMethod Lib.objectInit ∈ lw_tbl := List.mem_of_getElem? (i := 162) (by decide +kernel)
theorem oi_code : Jvm.Cond.code Lib.objectInit ⟨#[0xb1]⟩ 1 none ∈ lw_tbl := List.mem_of_getElem? (i := 163) (by decide +kernel)
theorem c_objInit {p : Program} {l : Launch} {e : Env} {R : Room} {s : State} {m : MethodId} {args : Array Value} {below : List Frame} {meth : Method} {c : Code} {Q : State → Prop} {E : EnvT} {own : String} {cc : ByteArray} {nL : Nat} {B : Nat × Nat} {cnt0 : Nat → Nat} (C0 : Cx p s m args meth c E own cc nL) {call : CallT} {post : Option AV → AS → Prop} {k : Cfg → Prop} {pc : Nat} {ls st : List AV} {σ : AS} {idx : Nat} (hl : Jvm.Cond.methodLink own idx Lib.objectInit ∈ lw_tbl) (hR : 1 ≤ R.frames ∧ 20 ≤ R.locals) (hd : decode cc pc = .ok (.invokespecial idx, 3)) (hk : ∀ z, k z → PW p l e R s m args below meth c Q E nL B cnt0 z) (h : wE call post k (o1 σ st (fun _ _ r => when σ (Nat.ble (cats r) 8) (nx (pc + 3) ls r σ)))) : PW p l e R s m args below meth c Q E nL B cnt0 (pc, ls, st, σ) := by
  obtain ⟨hx, hb, hml, hown, hts, hlk, hKn, hbs⟩ := C0
  intro H locs lsC hI
  obtain ⟨u, i, r, rfl, g1⟩ := o1_inv h
  obtain ⟨hq, g2⟩ := when_inv g1
  clear h g1
  obtain ⟨ox, o3⟩ := ok1 hI.2.2.1
  have hc := cats_le (E := E) r
  have h8 := Nat.le_of_ble_eq_true hq
  refine W.objInit (g := F0 m pc lsC _) hx hb hown (hts _ (tb_in hl rfl)) (hts _ (tb_in oi_inst rfl)) (hts _ (tb_in oi_code rfl)) rfl ?_ rfl hd hR.1 ?_ (hk _ g2 H locs lsC (hI.st o3))
  · show lsC.size = c.maxLocals
    rw [hml]
    exact hI.2.2.2.2.2.2.2.1
  · show 2 * 0 + ((r.map (cv E)).map fun v => v.category).sum + 12 ≤ R.locals
    omega
