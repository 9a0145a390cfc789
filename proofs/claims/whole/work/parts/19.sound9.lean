/-! SOUNDNESS, 9: calls and answers -/
def QG (E : EnvT) (τ : AS) (P : Option AV → AS → Prop) : Array Value → State → Outcome → State → Prop := fun _ st oc t => (∃ (r : Option AV) (υ : AS), oc = .returned (r.map (cv E)) ∧ P r υ ∧ Pic E υ t.heap ∧ Ok υ ∧ (∀ c, τ.2.1 c ≤ υ.2.1 c) ∧ ∀ v, r = some v → okv υ.2.1 v) ∧ va_F (aE E) st t
def PCt (E : EnvT) (as : List AV) (τ : AS) : Array Value → State → Prop := va_Pc (as.map (cv E)) (fun U => Pic E τ U.heap ∧ Kn E U)
def rmD (d j : Nat) : Room := { frames := d, cells := (bud j).1, slots := (bud j).2, locals := 37 * d }
def wsJ (j : Nat) : List Jvm.Cond := Jvm.Cond.code (mY j) (mB j) (mL j) (mR j) :: TB
def Ctr (l : Launch) (E : EnvT) (d j : Nat) (as : List AV) (τ : AS) (P : Option AV → AS → Prop) : Prop := Met l (mY j) (wsJ j) (rmD d j) (PCt E as τ) (QG E τ P) (bud j).1 (bud j).2 (aE E)
theorem callG {p : Program} {l : Launch} {e : Env} {R : Room} {s : State} {m : MethodId} {args : Array Value} {below : List Frame} {meth : Method} {c : Code} {Q : State → Prop} {E : EnvT}  {pc : Nat} {lsC : Array Slot} {rest st0 : List Value} {H : Heap} {locs : List Loc} {cells slots mc ms : Nat} {a : Array Value} {τ : AS} {P : Option AV → AS → Prop} (hr : va_Run p l e R s m args below meth c H locs cells slots mc ms (F0 m pc lsC st0) rest (QG E τ P a) (aE E)) (hS : va_S (aE E) s.heap H locs)
    (kk : ∀ (r : Option AV) (υ : AS) (H1 : Heap) (locs1 : List Loc), P r υ → Pic E υ H1 → Ok υ → (∀ c, τ.2.1 c ≤ υ.2.1 c) → (∀ v, r = some v → okv υ.2.1 v) → va_S (aE E) s.heap H1 locs1 → W p l e R s m args below meth c H1 locs1 (cells + mc) (slots + ms) Q (F0 m (pc + 3) lsC ((r.map (cv E)).toList ++ rest))) : W p l e R s m args below meth c H locs cells slots Q (F0 m pc lsC st0) := by
  intro T hT X
  obtain ⟨v, st₀, t, T', L, h0, X', hL, e1, e2, ⟨⟨r, υ, hv, hp, hpic, hok, hmono, hov⟩, hz, hk⟩, st⟩ := hr T hT X
  cases hv
  rw [h0] at hz hk
  obtain ⟨t2, a1, b1⟩ := kk r υ T'.heap (locs ++ L) hp (by rw [e1]; exact hpic) hok hmono hov
    ⟨Nat.le_trans hS.1 (by rw [e1]; exact hz), fun q h1 h2 => by rw [e1, hk q (Nat.lt_of_lt_of_le h1 hS.1) h2]; exact hS.2.1 q h1 h2, fun q hq => by
      rcases List.mem_append.mp hq with h | h
      · exact hS.2.2 q h
      · exact hL q h⟩ T' rfl X'
  exact ⟨t2, st t2 a1, b1⟩
theorem tomap {E : EnvT} (r : Option AV) (rest : List AV) : (r.toList ++ rest).map (cv E) = (r.map (cv E)).toList ++ rest.map (cv E) := by
  cases r <;> rfl
theorem c_callE {p : Program} {l : Launch} {e : Env} {R : Room} {s : State} {m : MethodId} {args : Array Value} {below : List Frame} {meth : Method} {c : Code} {Q : State → Prop} {E : EnvT} {nL : Nat} {B : Nat × Nat} {cnt0 : Nat → Nat} {call : CallT} {post : Option AV → AS → Prop} {k : Cfg → Prop} {pc : Nat} {ls st : List AV} {σ : AS} {st0 : List Value} {as rest : List AV} {j : Nat} {H : Heap} {locs : List Loc} {lsC : Array Slot} {a : Array Value} (hk : ∀ z, k z → PW p l e R s m args below meth c Q E nL B cnt0 z) (hI : Inv s E nL B cnt0 (pc, ls, st, σ) H locs lsC) (hrest : ∀ v ∈ rest, okv σ.2.1 v) (hRB : R.cells = B.1 ∧ R.slots = B.2)
    (run : ∀ P, call j as ((σ.1.1, 0, 0), σ.2) P → cats rest ≤ 8 → (σ.1.2.1 + (bud j).1 ≤ R.cells ∧ σ.1.2.2 + (bud j).2 ≤ R.slots) → va_Run p l e R s m args below meth c H locs σ.1.2.1 σ.1.2.2 (bud j).1 (bud j).2 (F0 m pc lsC st0) (rest.map (cv E)) (QG E ((σ.1.1, 0, 0), σ.2) P a) (aE E))
    (h : wE call post k (callE B j as rest pc ls σ)) : W p l e R s m args below meth c H locs σ.1.2.1 σ.1.2.2 Q (F0 m pc lsC st0) := by
  unfold callE at h
  obtain ⟨h8, g⟩ := when_inv h
  clear h
  have h8 := Nat.le_of_ble_eq_true h8
  have fin : ∀ (acc : Nat × Nat), acc.1 ≤ B.1 ∧ acc.2 ≤ B.2 → acc = (σ.1.2.1 + (bud j).1, σ.1.2.2 + (bud j).2) → call j as ((σ.1.1, 0, 0), σ.2) (fun r τ => k (pc + 3, ls, r.toList ++ rest, ((τ.1.1, acc), τ.2))) → W p l e R s m args below meth c H locs σ.1.2.1 σ.1.2.2 Q (F0 m pc lsC st0) := by
    intro acc hb2 ha hc
    subst ha
    refine callG (run _ hc h8 ⟨by rw [hRB.1]; exact hb2.1, by rw [hRB.2]; exact hb2.2⟩) hI.2.2.2.2.2.2.1 (fun r υ H1 locs1 hz hpic hok hm hov hS1 => ?_)
    rw [← tomap]
    refine hk _ hz H1 locs1 lsC ⟨hok, fun v hv => (hI.2.1 v hv).mono hm, fun v hv => ?_, fun c => Nat.le_trans (hI.2.2.2.1 c) (hm c), hb2, hpic, hS1, hI.2.2.2.2.2.2.2⟩
    rcases List.mem_append.mp hv with q | q
    · exact hov v (by cases r with | none => cases q | some w => rw [List.mem_singleton.mp q])
    · exact (hrest v q).mono hm
  cases hb0 : (Nat.beq (bud j).1 0 && Nat.beq (bud j).2 0) with
  | true =>
    rw [hb0] at g
    have z1 := beq_t (and_l hb0)
    have z2 := beq_t (and_r hb0)
    exact fin σ.1.2 hI.2.2.2.2.1 (by rw [z1, z2]; rfl) g
  | false =>
    rw [hb0] at g
    exact fin _ g.1 rfl g.2
def LinkM (own : String) (idx j : Nat) : Prop := Jvm.Cond.methodLink own idx (mY j) ∈ lw_tbl ∨ ∃ host, Jvm.Cond.methodLinkNest own idx (mY j) host ∈ lw_tbl
def mF (j : Nat) : Prop := codeW j ∧ Jvm.Cond.initialized (mY j).cls ∈ lw_tbl ∧ plainFor (mY j) = true ∧ ((mY j).cls ≠ "java/lang/invoke/MethodHandle" ∧ (mY j).cls ≠ "java/lang/invoke/VarHandle" ∧ (parseMethodDescriptor (mY j).desc).map (fun d => d.parameters.length) = some (mN j)) ∧ mL j ≤ 17 ∧ (mK j = 0 → Jvm.Cond.static (mY j) ∈ lw_tbl) ∧ (mK j = 1 → Jvm.Cond.instanceMethod (mY j) ∈ lw_tbl ∧ Jvm.Cond.selects (mY j).cls (mY j) (mY j) ∈ lw_tbl ∧ (mY j).cls = Rn (j / 1000)) ∧ (mK j = 2 → Jvm.Cond.instanceMethod (mY j) ∈ lw_tbl ∧ (mY j).name = "<init>" ∧ mR j = none ∧ (mY j).cls = Rn (j / 1000)) ∧ ∀ pc r, look (mT j) pc = some r → ckR valid (mY j).cls (mL j) (Nat.beq (mK j) 2) (mR j) (mB j) (pc, r) = true
theorem mf_all (j : Nat) (hj : j ∈ allJ) : mF j := by
  have h := ck_all j hj
  unfold ckM at h
  simp only [Bool.and_eq_true] at h
  obtain ⟨⟨⟨⟨⟨⟨⟨h1, h2⟩, h3⟩, h4⟩, h5⟩, h6⟩, h7⟩, h8⟩ := h
  refine ⟨cw_all j hj, lwI_in h1, h2, ⟨of_decide_eq_true h3, of_decide_eq_true h4, of_decide_eq_true h5⟩, Nat.le_of_ble_eq_true h6, fun e => ?_, fun e => ?_, fun e => ?_, fun pc r hl => ?_⟩
  · rw [e] at h7
    exact lwI_in h7
  · rw [e] at h7
    simp only [Bool.and_eq_true] at h7
    exact ⟨lwI_in h7.1.1, lwI_in h7.1.2, of_decide_eq_true h7.2⟩
  · rw [e] at h7
    simp only [Bool.and_eq_true] at h7
    exact ⟨lwI_in h7.1.1.1, of_decide_eq_true h7.1.1.2, of_decide_eq_true h7.1.2, of_decide_eq_true h7.2⟩
  · obtain ⟨q, hq, hm⟩ := look_in hl
    exact List.all_eq_true.mp (List.all_eq_true.mp h8 q hq) _ hm
theorem good_ws {j : Nat} (h : codeW j) : GoodIn TB (wsJ j) := by
  intro w hw
  rcases List.mem_cons.mp hw with rfl | hw
  · exact tb_good _ (tb_in h rfl)
  · exact tb_good _ hw
theorem obj_cls : ∀ j ∈ allJ, mK j ≠ 0 → j / 1000 < 12 ∨ j / 1000 = 100 := by decide +kernel
theorem rn_ok : ∀ c, c < 12 → cl[c]? = some (Rn c, Tn c, nfl c) := fun c h => (cls_ok c h).1
/-- the receiver stands there, of its class -/
theorem recv_ok {s : State} {E : EnvT} {σ : AS} {H : Heap} (hKn : Kn E s) (hP : Pic E σ H) {u i : Nat} (hu : u < 12 ∨ u = 100) (hr : okr σ.2.1 (some (u, i))) : ∃ cell : Cell, H[adE E u i]? = some cell ∧ cell.vm.isStatics = false ∧ s.vm.findClass (Rn u) = some cell.cls := by
  rcases hu with hu | rfl
  · have hcel := hP.2.2 u i (by omega) (okr_some hr (by omega))
    rw [celE_ob (by omega)] at hcel
    have hP1 : va_P (eD E) cl [(adE E u i, .inr (u, (List.range (nfl u)).map (fvE E σ u i)))] H := fun k q hk => by
      have hz : k < 1 := (List.getElem?_eq_some_iff.mp hk).1
      rw [show k = 0 by omega] at hk
      cases hk
      exact hcel
    exact va_recv hKn.1 hP1 (rn_ok u hu) (q0 := 0) rfl
  · have hi : i < 10 := by
      rcases (hr 100 i rfl).2 (Nat.le_refl _) with ⟨-, q⟩ | ⟨q, -⟩ | ⟨q, -⟩ | ⟨q, -⟩ | ⟨q, -⟩ <;> first | exact q | (exact absurd q (by decide))
    obtain ⟨⟨cell, h1, h2, h3, h4⟩, -⟩ := hKn.2.2.1.1 i hi
    exact ⟨cell, by rw [adE_hi (by omega), hP.2.1 _ (Nat.not_le.mp h4)]; exact h1, h2, h3⟩
theorem blindP {E : EnvT} {as : List AV} {τ : AS} : FrameBlind (PCt E as τ) := fun a U g mk q => ⟨q.1, q.2.1, Kn.same (u := U) (U := U.calling g mk a) rfl q.2.2⟩
theorem rest8 {E : EnvT} {rest : List AV} (h : cats rest ≤ 8) : ((rest.map (cv E)).map fun v => v.category).sum ≤ 8 := Nat.le_trans (cats_le rest) h
theorem c_invV {p : Program} {l : Launch} {e : Env} {R : Room} {s : State} {m : MethodId} {args : Array Value} {below : List Frame} {meth : Method} {c : Code} {Q : State → Prop} {E : EnvT} {own : String} {cc : ByteArray} {nL : Nat} {B : Nat × Nat} {cnt0 : Nat → Nat} (C0 : Cx p s m args meth c E own cc nL) {call : CallT} {post : Option AV → AS → Prop} {k : Cfg → Prop} {pc : Nat} {ls st : List AV} {σ : AS} {j n idx d : Nat} (hj : j ∈ allJ) (hn : mN j = n) (hl : LinkM own idx j) (hcall : ∀ as τ P, call j as τ P → Ok τ → (∀ v ∈ as, okv τ.2.1 v) → τ.1.2 = (0, 0) → Ctr l E d j as τ P) (hR : d + 1 ≤ R.frames ∧ 37 * d + 36 ≤ R.locals) (hRB : R.cells = B.1 ∧ R.slots = B.2) (hkd : mK j = 1) (hd : decode cc pc = .ok (.invokevirtual idx, 3)) (hk : ∀ z, k z → PW p l e R s m args below meth c Q E nL B cnt0 z) (h : wE call post k (invE B j n pc ls st σ)) : PW p l e R s m args below meth c Q E nL B cnt0 (pc, ls, st, σ) := by
  obtain ⟨hx, hb, hml, hown, hts, hlk, hKn, hbs⟩ := C0
  obtain ⟨f1, f2, f3, f4, f5, f6, f7, f8, f9⟩ := mf_all j hj
  have hdd := f4
  rw [hn] at hdd
  have hroom : (rmD d j).frames + 1 ≤ R.frames ∧ 8 + (mL j + 11) + (rmD d j).locals ≤ R.locals := ⟨hR.1, by show 8 + (mL j + 11) + 37 * d ≤ R.locals; omega⟩
  obtain ⟨v1, v2, v3⟩ := f7 hkd
  intro H locs lsC hI
  unfold invE at h
  obtain ⟨hle, g1⟩ := when_inv h
  obtain ⟨u, i, rest, hdr, g2⟩ := o1_inv g1
  obtain ⟨hq, g3⟩ := when_inv g2
  clear h g1 g2
  have hle := Nat.le_of_ble_eq_true hle
  have hu := beq_t hq
  have est : st = ((st.take n).reverse).reverse ++ (.inr (.inr (.inl (some (u, i)))) :: rest) := by rw [List.reverse_reverse, ← hdr, List.take_append_drop]
  have hst : ∀ v ∈ (.inr (.inr (.inl (some (u, i)))) : AV) :: rest, okv σ.2.1 v := fun v hv => hI.2.2.1 v (by show v ∈ st; rw [est]; exact List.mem_append_right _ hv)
  obtain ⟨ou, orest⟩ := ok1 hst
  have oas : ∀ v ∈ (.inr (.inr (.inl (some (u, i)))) : AV) :: (st.take n).reverse, okv σ.2.1 v := okc ou (fun v hv => hI.2.2.1 v (List.mem_of_mem_take (List.mem_reverse.mp hv)))
  have hlen : ((st.take n).reverse.map (cv E)).length = n := by simp [hle]
  have hrv := recv_ok hKn hI.2.2.2.2.2.1 (hu ▸ obj_cls j hj (by omega)) ou
  have estk : (st.map (cv E)) = ((st.take n).reverse.map (cv E)).reverse ++ .ref (adE E u i) :: rest.map (cv E) := by
    conv => lhs; rw [est]
    rw [List.map_append, List.map_reverse]
    rfl
  refine c_callE hk hI orest hRB (fun P hc h8 hf => ?_) g3 (a := (((.inr (.inr (.inl (some (u, i)))) : AV) :: (st.take n).reverse).map (cv E)).toArray)
  have hM := hcall _ _ P hc hI.1 oas rfl
  have hpre : PreV s H (mY j).cls (adE E u i) (PCt E (.inr (.inr (.inl (some (u, i)))) :: (st.take n).reverse) ((σ.1.1, 0, 0), σ.2)) ((st.take n).reverse.map (cv E)) := ⟨blindP, by rw [v3, ← hu]; exact hrv, fun U hU hW => ⟨rfl, by rw [hU]; exact hI.2.2.2.2.2.1, Kn.warm hW hKn⟩⟩
  rcases hl with hl | ⟨host, hl⟩
  · refine va_runV (C := (mY j).cls) (As := (st.take n).reverse.map (cv E)) (rest := rest.map (cv E)) ⟨hx, hb, hml, hown, hts⟩ hM (cwV n hts (fun w hw => ?_) rfl rfl rfl ⟨rfl, hdd⟩ hroom) hpre rfl hlen hI.2.2.2.2.2.2.2.1 estk (lv_room (rest8 h8)) hd hf
    unfold wsV at hw
    rcases List.mem_append.mp hw with q | q
    · simp only [List.mem_cons, List.not_mem_nil, or_false] at q
      rcases q with rfl | rfl | rfl | rfl
      · exact tb_good _ (tb_in hl rfl)
      · exact tb_good _ (tb_in v1 rfl)
      · exact tb_good _ (tb_in v2 rfl)
      · exact tb_good _ (tb_in f2 rfl)
    · exact good_ws f1 w q
  · exact va_runVN (C := (mY j).cls) (As := (st.take n).reverse.map (cv E)) (rest := rest.map (cv E)) ⟨hx, hb, hml, hown, hts⟩ hM ⟨va_cnB n hts (good_ws f1) rfl rfl rfl (hKn.2.1 _ hl rfl) (hts _ (tb_in f2 rfl)) hdd hroom, hts _ (tb_in v1 rfl), hts _ (tb_in v2 rfl)⟩ hpre rfl hlen hI.2.2.2.2.2.2.2.1 estk (lv_room (rest8 h8)) hd hf
theorem c_invI {p : Program} {l : Launch} {e : Env} {R : Room} {s : State} {m : MethodId} {args : Array Value} {below : List Frame} {meth : Method} {c : Code} {Q : State → Prop} {E : EnvT} {own : String} {cc : ByteArray} {nL : Nat} {B : Nat × Nat} {cnt0 : Nat → Nat} (C0 : Cx p s m args meth c E own cc nL) {call : CallT} {post : Option AV → AS → Prop} {k : Cfg → Prop} {pc : Nat} {ls st : List AV} {σ : AS} {j n idx d : Nat} (hj : j ∈ allJ) (hn : mN j = n) (hl : LinkM own idx j) (hcall : ∀ as τ P, call j as τ P → Ok τ → (∀ v ∈ as, okv τ.2.1 v) → τ.1.2 = (0, 0) → Ctr l E d j as τ P) (hR : d + 1 ≤ R.frames ∧ 37 * d + 36 ≤ R.locals) (hRB : R.cells = B.1 ∧ R.slots = B.2) (hkd : mK j = 2) (hd : decode cc pc = .ok (.invokespecial idx, 3)) (hk : ∀ z, k z → PW p l e R s m args below meth c Q E nL B cnt0 z) (h : wE call post k (invE B j n pc ls st σ)) : PW p l e R s m args below meth c Q E nL B cnt0 (pc, ls, st, σ) := by
  obtain ⟨hx, hb, hml, hown, hts, hlk, hKn, hbs⟩ := C0
  obtain ⟨f1, f2, f3, f4, f5, f6, f7, f8, f9⟩ := mf_all j hj
  have hdd := f4
  rw [hn] at hdd
  have hroom : (rmD d j).frames + 1 ≤ R.frames ∧ 8 + (mL j + 11) + (rmD d j).locals ≤ R.locals := ⟨hR.1, by show 8 + (mL j + 11) + 37 * d ≤ R.locals; omega⟩
  obtain ⟨v1, v2, v3, v4⟩ := f8 hkd
  intro H locs lsC hI
  unfold invE at h
  obtain ⟨hle, g1⟩ := when_inv h
  obtain ⟨u, i, rest, hdr, g2⟩ := o1_inv g1
  obtain ⟨hq, g3⟩ := when_inv g2
  clear h g1 g2
  have hle := Nat.le_of_ble_eq_true hle
  have hu := beq_t hq
  have est : st = ((st.take n).reverse).reverse ++ (.inr (.inr (.inl (some (u, i)))) :: rest) := by rw [List.reverse_reverse, ← hdr, List.take_append_drop]
  have hst : ∀ v ∈ (.inr (.inr (.inl (some (u, i)))) : AV) :: rest, okv σ.2.1 v := fun v hv => hI.2.2.1 v (by show v ∈ st; rw [est]; exact List.mem_append_right _ hv)
  obtain ⟨ou, orest⟩ := ok1 hst
  have oas : ∀ v ∈ (.inr (.inr (.inl (some (u, i)))) : AV) :: (st.take n).reverse, okv σ.2.1 v := okc ou (fun v hv => hI.2.2.1 v (List.mem_of_mem_take (List.mem_reverse.mp hv)))
  have hlen : ((st.take n).reverse.map (cv E)).length = n := by simp [hle]
  have hrv := recv_ok hKn hI.2.2.2.2.2.1 (hu ▸ obj_cls j hj (by omega)) ou
  have estk : (st.map (cv E)) = ((st.take n).reverse.map (cv E)).reverse ++ .ref (adE E u i) :: rest.map (cv E) := by
    conv => lhs; rw [est]
    rw [List.map_append, List.map_reverse]
    rfl
  refine c_callE hk hI orest hRB (fun P hc h8 hf => ?_) g3 (a := (((.inr (.inr (.inl (some (u, i)))) : AV) :: (st.take n).reverse).map (cv E)).toArray)
  have hM := hcall _ _ P hc hI.1 oas rfl
  have hpre : PreS s H (PCt E (.inr (.inr (.inl (some (u, i)))) :: (st.take n).reverse) ((σ.1.1, 0, 0), σ.2)) (.ref (adE E u i) :: (st.take n).reverse.map (cv E)) := ⟨blindP, fun U hU hW => ⟨rfl, by rw [hU]; exact hI.2.2.2.2.2.1, Kn.warm hW hKn⟩⟩
  have hws : wsJ j = Jvm.Cond.code (mY j) (mB j) (mL j) none :: TB := by unfold wsJ; rw [v3]
  rcases hl with hl | ⟨host, hl⟩
  · exact va_runI (As := (st.take n).reverse.map (cv E)) (rest := rest.map (cv E)) ⟨hx, hb, hml, hown, hts⟩ hM (cwI n hts (good_ws f1) hws rfl rfl (hts _ (tb_in f2 rfl)) (hts _ (tb_in hl rfl)) (hts _ (tb_in v1 rfl)) v2 hdd hroom) hpre rfl hlen hI.2.2.2.2.2.2.2.1 estk (lv_room (rest8 h8)) hd hf
  · exact va_runIN (As := (st.take n).reverse.map (cv E)) (rest := rest.map (cv E)) ⟨hx, hb, hml, hown, hts⟩ hM ⟨va_cnB n hts (good_ws f1) hws rfl rfl (hKn.2.1 _ hl rfl) (hts _ (tb_in f2 rfl)) hdd hroom, v2, hts _ (tb_in v1 rfl)⟩ hpre rfl hlen hI.2.2.2.2.2.2.2.1 estk (lv_room (rest8 h8)) hd hf
theorem c_invS {p : Program} {l : Launch} {e : Env} {R : Room} {s : State} {m : MethodId} {args : Array Value} {below : List Frame} {meth : Method} {c : Code} {Q : State → Prop} {E : EnvT} {own : String} {cc : ByteArray} {nL : Nat} {B : Nat × Nat} {cnt0 : Nat → Nat} (C0 : Cx p s m args meth c E own cc nL) {call : CallT} {post : Option AV → AS → Prop} {k : Cfg → Prop} {pc : Nat} {ls st : List AV} {σ : AS} {j n idx d : Nat} (hj : j ∈ allJ) (hn : mN j = n) (hl : LinkM own idx j) (hcall : ∀ as τ P, call j as τ P → Ok τ → (∀ v ∈ as, okv τ.2.1 v) → τ.1.2 = (0, 0) → Ctr l E d j as τ P) (hR : d + 1 ≤ R.frames ∧ 37 * d + 36 ≤ R.locals) (hRB : R.cells = B.1 ∧ R.slots = B.2) (hkd : mK j = 0) (hd : decode cc pc = .ok (.invokestatic idx, 3)) (hk : ∀ z, k z → PW p l e R s m args below meth c Q E nL B cnt0 z) (h : wE call post k (invS B j n pc ls st σ)) : PW p l e R s m args below meth c Q E nL B cnt0 (pc, ls, st, σ) := by
  obtain ⟨hx, hb, hml, hown, hts, hlk, hKn, hbs⟩ := C0
  obtain ⟨f1, f2, f3, f4, f5, f6, f7, f8, f9⟩ := mf_all j hj
  have hdd := f4
  rw [hn] at hdd
  have hroom : (rmD d j).frames + 1 ≤ R.frames ∧ 8 + (mL j + 11) + (rmD d j).locals ≤ R.locals := ⟨hR.1, by show 8 + (mL j + 11) + 37 * d ≤ R.locals; omega⟩
  have v1 := f6 hkd
  intro H locs lsC hI
  unfold invS at h
  obtain ⟨hle, g3⟩ := when_inv h
  clear h
  have hle := Nat.le_of_ble_eq_true hle
  have est : st = ((st.take n).reverse).reverse ++ st.drop n := by rw [List.reverse_reverse, List.take_append_drop]
  have orest : ∀ v ∈ st.drop n, okv σ.2.1 v := fun v hv => hI.2.2.1 v (List.mem_of_mem_drop hv)
  have oas : ∀ v ∈ (st.take n).reverse, okv σ.2.1 v := fun v hv => hI.2.2.1 v (List.mem_of_mem_take (List.mem_reverse.mp hv))
  have hlen : ((st.take n).reverse.map (cv E)).length = n := by simp [hle]
  have estk : (st.map (cv E)) = ((st.take n).reverse.map (cv E)).reverse ++ (st.drop n).map (cv E) := by
    conv => lhs; rw [est]
    rw [List.map_append, List.map_reverse]
  refine c_callE hk hI orest hRB (fun P hc h8 hf => ?_) g3 (a := (((st.take n).reverse).map (cv E)).toArray)
  have hM := hcall _ _ P hc hI.1 oas rfl
  have hpre : PreS s H (PCt E ((st.take n).reverse) ((σ.1.1, 0, 0), σ.2)) ((st.take n).reverse.map (cv E)) := ⟨blindP, fun U hU hW => ⟨rfl, by rw [hU]; exact hI.2.2.2.2.2.1, Kn.warm hW hKn⟩⟩
  rcases hl with hl | ⟨host, hl⟩
  · refine va_runS (As := (st.take n).reverse.map (cv E)) (rest := (st.drop n).map (cv E)) ⟨hx, hb, hml, hown, hts⟩ hM (va_cwS n hts (fun w hw => ?_) rfl rfl rfl hdd hroom) hpre rfl hlen hI.2.2.2.2.2.2.2.1 estk (lv_room (rest8 h8)) hd hf
    unfold va_wsS at hw
    rcases List.mem_append.mp hw with q | q
    · simp only [List.mem_cons, List.not_mem_nil, or_false] at q
      rcases q with rfl | rfl | rfl
      · exact tb_good _ (tb_in hl rfl)
      · exact tb_good _ (tb_in v1 rfl)
      · exact tb_good _ (tb_in f2 rfl)
    · exact good_ws f1 w q
  · exact va_runSN (As := (st.take n).reverse.map (cv E)) (rest := (st.drop n).map (cv E)) ⟨hx, hb, hml, hown, hts⟩ hM ⟨va_cnB n hts (good_ws f1) rfl rfl rfl (hKn.2.1 _ hl rfl) (hts _ (tb_in f2 rfl)) hdd hroom, hts _ (tb_in v1 rfl), trivial⟩ hpre rfl hlen hI.2.2.2.2.2.2.2.1 estk (lv_room (rest8 h8)) hd hf
theorem c_ireturn {p : Program} {l : Launch} {e : Env} {R : Room} {s : State} {m : MethodId} {args : Array Value} {below : List Frame} {meth : Method} {c : Code} {E : EnvT} {own : String} {cc : ByteArray} {nL : Nat} {B : Nat × Nat} {τ : AS} {post : Option AV → AS → Prop} {pc : Nat} {ls : List AV} {σ : AS} (C0 : Cx p s m args meth c E own cc nL) {ret : Option FieldType} (hr : meth.sig.returnType = ret) (hret : ret = some .int ∨ ret = some .boolean ∨ ret = some .byte ∨ ret = some .char) {x : Int} {call : CallT} {k : Cfg → Prop} (hd : decode cc pc = .ok (.ireturn, 1)) (h : wE call post k (retE (rkOf ret) x σ)) : PW p l e R s m args below meth c (MQ below (QG E τ post) args s B.1 B.2 (aE E)) E nL B τ.2.1 (pc, ls, [.inl x], σ) := by
  obtain ⟨hx, hb, hml, hown, hts, hlk, hKn, hbs⟩ := C0
  intro H locs lsC hI
  obtain ⟨ox, -⟩ := ok1 hI.2.2.1
  have ox : InI x := ox
  have go : ∀ ty : FieldType, ret = some ty → narrow ty (.int (i32 x)) = .int (i32 x) → post (some (.inl x)) σ → W p l e R s m args below meth c H locs σ.1.2.1 σ.1.2.2 (MQ below (QG E τ post) args s B.1 B.2 (aE E)) (F0 m pc lsC [.int (i32 x)]) := by
    intro ty hty hn hp
    refine W.widen hI.2.2.2.2.1.1 hI.2.2.2.2.1.2 ?_
    exact W.zret (v := i32 x) hx hb (hr.trans hty) hn (fun t ht hW => ⟨⟨some (.inl x), σ, rfl, hp, by rw [ht]; exact hI.2.2.2.2.2.1, hI.1, hI.2.2.2.1, fun v hv => by cases hv; exact ox⟩, hI.2.2.2.2.2.2.1.F ht⟩) hI.2.2.2.2.2.2.1.2.2 hd
  rcases hret with rfl | rfl | rfl | rfl
  · exact go .int rfl rfl h
  · refine go .boolean rfl ?_ h.2
    rcases h.1 with q | q <;> (rw [q]; rfl)
  · refine go .byte rfl ?_ h.2
    have hxb : -128 ≤ x ∧ x ≤ 127 := h.1
    show Value.int (i32 x).toInt8.toInt32 = _
    congr 1
    refine Int32.toInt_inj.mp ?_
    rw [Int8.toInt_toInt32, Int32.toInt_toInt8, i32_to ox, Int.bmod_eq_of_le (by omega) (by omega)]
  · refine go .char rfl ?_ h.2
    have hxc : 0 ≤ x ∧ x ≤ 65535 := h.1
    obtain ⟨q, rfl⟩ := Int.eq_ofNat_of_zero_le hxc.1
    exact (pk_charN (q := q) (by omega)).1
theorem c_lreturn {p : Program} {l : Launch} {e : Env} {R : Room} {s : State} {m : MethodId} {args : Array Value} {below : List Frame} {meth : Method} {c : Code} {E : EnvT} {own : String} {cc : ByteArray} {nL : Nat} {B : Nat × Nat} {τ : AS} {post : Option AV → AS → Prop} {pc : Nat} {ls : List AV} {σ : AS} (C0 : Cx p s m args meth c E own cc nL) (hr : meth.sig.returnType = some .long) {x : Int} (hd : decode cc pc = .ok (.lreturn, 1)) (h : post (some (.inr (.inl x))) σ) : PW p l e R s m args below meth c (MQ below (QG E τ post) args s B.1 B.2 (aE E)) E nL B τ.2.1 (pc, ls, [.inr (.inl x)], σ) := by
  obtain ⟨hx, hb, hml, hown, hts, hlk, hKn, hbs⟩ := C0
  intro H locs lsC hI
  obtain ⟨ox, -⟩ := ok1 hI.2.2.1
  refine W.widen hI.2.2.2.2.1.1 hI.2.2.2.2.1.2 ?_
  exact W.lret (v := i64 x) hx hb hr (fun t ht hW => ⟨⟨some (.inr (.inl x)), σ, rfl, h, by rw [ht]; exact hI.2.2.2.2.2.1, hI.1, hI.2.2.2.1, fun v hv => by cases hv; exact ox⟩, hI.2.2.2.2.2.2.1.F ht⟩) hI.2.2.2.2.2.2.1.2.2 hd
theorem c_areturn {p : Program} {l : Launch} {e : Env} {R : Room} {s : State} {m : MethodId} {args : Array Value} {below : List Frame} {meth : Method} {c : Code} {E : EnvT} {own : String} {cc : ByteArray} {nL : Nat} {B : Nat × Nat} {τ : AS} {post : Option AV → AS → Prop} {pc : Nat} {ls : List AV} {σ : AS} (C0 : Cx p s m args meth c E own cc nL) {rt : FieldType} (hr : meth.sig.returnType = some rt) (hrt : (∃ n, rt = .object n) ∨ ∃ t, rt = .array t) {x : AR} (hd : decode cc pc = .ok (.areturn, 1)) (h : post (some (.inr (.inr (.inl x)))) σ) : PW p l e R s m args below meth c (MQ below (QG E τ post) args s B.1 B.2 (aE E)) E nL B τ.2.1 (pc, ls, [.inr (.inr (.inl x))], σ) := by
  obtain ⟨hx, hb, hml, hown, hts, hlk, hKn, hbs⟩ := C0
  intro H locs lsC hI
  obtain ⟨ox, -⟩ := ok1 hI.2.2.1
  refine W.widen hI.2.2.2.2.1.1 hI.2.2.2.2.1.2 ?_
  exact W.aret (v := rfE E x) hx hb hr hrt (by cases x with | none => exact Or.inl rfl | some q => exact Or.inr ⟨_, rfl⟩) (fun t ht hW => ⟨⟨some (.inr (.inr (.inl x))), σ, rfl, h, by rw [ht]; exact hI.2.2.2.2.2.1, hI.1, hI.2.2.2.1, fun v hv => by cases hv; exact ox⟩, hI.2.2.2.2.2.2.1.F ht⟩) hI.2.2.2.2.2.2.1.2.2 hd
theorem c_return {p : Program} {l : Launch} {e : Env} {R : Room} {s : State} {m : MethodId} {args : Array Value} {below : List Frame} {meth : Method} {c : Code} {E : EnvT} {own : String} {cc : ByteArray} {nL : Nat} {B : Nat × Nat} {τ : AS} {post : Option AV → AS → Prop} {pc : Nat} {ls : List AV} {σ : AS} (C0 : Cx p s m args meth c E own cc nL) (hr : meth.sig.returnType = none) (hd : decode cc pc = .ok (.return_, 1)) (h : post none σ) : PW p l e R s m args below meth c (MQ below (QG E τ post) args s B.1 B.2 (aE E)) E nL B τ.2.1 (pc, ls, [], σ) := by
  obtain ⟨hx, hb, hml, hown, hts, hlk, hKn, hbs⟩ := C0
  intro H locs lsC hI
  refine W.widen hI.2.2.2.2.1.1 hI.2.2.2.2.1.2 ?_
  exact W.vret hx hb hr (fun t ht hW => ⟨⟨none, σ, rfl, h, by rw [ht]; exact hI.2.2.2.2.2.1, hI.1, hI.2.2.2.1, fun v hv => by cases hv⟩, hI.2.2.2.2.2.2.1.F ht⟩) hI.2.2.2.2.2.2.1.2.2 hd
