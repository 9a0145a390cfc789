/-! SOUNDNESS, 4: writes, arrays, statics -/
theorem Cx.rd {p : Program} {s : State} {m : MethodId} {args : Array Value} {meth : Method} {c : Code} {E : EnvT} {own : String} {cc : ByteArray} {nL : Nat} (C0 : Cx p s m args meth c E own cc nL) : p.tables.exec = Jvm.exec ∧ c.code = cc ∧ c.maxLocals = nL ∧ s.vm.findClass own = some m.cls ∧ (∀ w ∈ TB, w.before args s = true) ∧ meth.locks = false ∧ Kn E s ∧ (eH E).size ≤ s.heap.size := C0
theorem W_put {p : Program} {l : Launch} {e : Env} {R : Room} {s : State} {m : MethodId} {args : Array Value} {below : List Frame} {meth : Method} {c : Code} {Q : State → Prop} {E : EnvT} {own : String} {cc : ByteArray} {nL : Nat} {B : Nat × Nat} {cnt0 : Nat → Nat} (C0 : Cx p s m args meth c E own cc nL) {pc idx u k a : Nat} {lsC : Array Slot} {rest : List Value} {v : Value} {H : Heap} {locs : List Loc} {cells slots : Nat} (hu : u < 12) (hk : k < nfl u) (hl : LinkF own idx u k) (hfin : (Tn u k).2.2.2 = false ∨ (meth.name = "<init>" ∧ (Tn u k).1 = own ∧ Jvm.Cond.fieldLink own idx (Tn u k).1 (Tn u k).2.1 (Tn u k).2.2.1 ∈ lw_tbl)) {V : Nat → Value}
    (hcel : va_at (eD E) cl (a, .inr (u, (List.range (nfl u)).map V)) H) (hn : narrow (Yn u k) v = v) (hf : fits (Yn u k) v = true) (hd : decode cc pc = .ok (.putfield idx, 3))
    (kk : ∀ (H1 : Heap) (sl : Nat), va_at (eD E) cl (a, .inr (u, (List.range (nfl u)).map (fun j => if j = k then v else V j))) H1 → H1.size = H.size → (∀ q : Nat, q ≠ a → H1[q]? = H[q]?) → W p l e R s m args below meth c H1 (locs ++ [⟨a, sl⟩]) cells slots Q (F0 m (pc + 3) lsC rest)) : W p l e R s m args below meth c H locs cells slots Q (F0 m pc lsC (v :: .ref a :: rest)) := by
  obtain ⟨hx, hb, hml, hown, hts, hlk, hKn, hbs⟩ := C0
  obtain ⟨k1, k2, k3, k4⟩ := cls_ok u hu
  have hK := hKn.1
  have hap := va_apart (D := eD E) (own := own) hts k4 (Yn u) k2 k3 hK k1
  obtain ⟨r, h1, cell, q1, q2, q3, q4⟩ := hcel
  have hr : r = (Rn u, Tn u, nfl u) := Option.some.inj (h1.symm.trans k1)
  subst hr
  obtain ⟨hS, hfc, kC, hkC, hkind⟩ := hK.1 u _ k1
  obtain ⟨cf, kf, fi, f, hi, hsl⟩ := hS k hk
  have fin : ∀ H' : Heap, H'[a]? = some (cell.setSlot f.slot v) → H'.size = H.size → (∀ q, q ≠ a → H'[q]? = H[q]?) → W p l e R s m args below meth c H' (locs ++ [⟨a, f.slot⟩]) cells slots Q (F0 m (pc + 3) lsC rest) := by
    intro H' e1 e2 e3
    rw [hsl] at e1 ⊢
    refine kk H' _ ⟨_, k1, t_OB.to (V := updV (vp_V ((List.range (nfl u)).map V)) k v) ⟨_, e1, q2, q3, t_set q4 hap hk v⟩ (fun j hj => ?_)⟩ e2 e3
    rw [vpV_at hj]
    unfold updV
    split
    · rfl
    · exact vpV_at hj
  have hst := (u_facts hfc hkC (u_lays hts k4 hk) hi).1
  rcases hfin with hfin | ⟨hin2, hdecl, hlink⟩
  · have hlay := hts _ (k4 _ (u_in_lay hk))
    unfold u_lay at hlay
    rw [if_neg (by rw [hfin]; decide)] at hlay
    have h6 := u_store hfc hkC hkind hlay hi (k2 k hk) hn hf
    rcases hl with hl | ⟨host, hl⟩
    · exact W.putK hx hb (f := f) (g := F0 m pc lsC (v :: .ref a :: rest)) ⟨hown, hts _ (tb_in hl rfl), ⟨_, _, _, hi⟩, hst⟩ (by rw [q2]; exact h6) q1 q3 (by rw [hsl]; exact k2_hasslot (q4 k hk)) rfl rfl hd fin
    · exact va_WputK hx hb (f := f) (g := F0 m pc lsC (v :: .ref a :: rest)) hown (va_Nw.use rfl (hKn.2.1 _ hl rfl)) hi hst (by rw [q2]; exact h6) q1 q3 (by rw [hsl]; exact k2_hasslot (q4 k hk)) rfl rfl hd fin
  · have hlay := hts _ (k4 _ (u_in_lay hk))
    unfold u_lay at hlay
    split at hlay
    · have hcf : m.cls = cf := by
        obtain ⟨_, _, c', _, _, _, -, -, hf', -, -, -, hown2, -⟩ := Cond.laysFinal_spec hlay
        have e1 : c' = cf := by have := hi.symm.trans hf'; simp at this; exact this.1.symm
        rw [hdecl] at hown2
        rw [← e1]; exact Option.some.inj (hown.symm.trans hown2)
      have h6 := u_fits hfc hkC hkind (Or.inr hlay) hi (k2 k hk) hn hf
      exact W.putFinK hx hb (g := F0 m pc lsC (v :: .ref a :: rest)) hown (hts _ (tb_in hlink rfl)) hi hst hcf hin2 (by rw [q2]; exact h6) q1 q3 (by rw [hsl]; exact k2_hasslot (q4 k hk)) rfl rfl hd fin
    · have h6 := u_store hfc hkC hkind hlay hi (k2 k hk) hn hf
      exact W.putK hx hb (f := f) (g := F0 m pc lsC (v :: .ref a :: rest)) ⟨hown, hts _ (tb_in hlink rfl), ⟨_, _, _, hi⟩, hst⟩ (by rw [q2]; exact h6) q1 q3 (by rw [hsl]; exact k2_hasslot (q4 k hk)) rfl rfl hd fin
theorem nf_ref {ty : FieldType} (h : ty.isReference = true) (E : EnvT) (r : AR) : narrow ty (rfE E r) = rfE E r ∧ fits ty (rfE E r) = true := by
  cases ty <;> first | (cases h; done) | (rcases r with _ | q <;> exact ⟨rfl, rfl⟩)
theorem yn_int {u k : Nat} (h : fty u k = 0) : Yn u k = .int := by
  unfold fty at h
  split at h <;> first | assumption | (cases h; done)
theorem yn_bool {u k : Nat} (h : fty u k = 1) : Yn u k = .boolean := by
  unfold fty at h
  split at h <;> first | assumption | (cases h; done)
theorem yn_long {u k : Nat} (h : fty u k = 3) : Yn u k = .long := by
  unfold fty at h
  split at h <;> first | assumption | (cases h; done)
theorem fty_le (u k : Nat) : fty u k ≤ 4 := by
  unfold fty
  split <;> decide
theorem Ok.setM {σ : AS} (h : Ok σ) {u : Nat} (i k : Nat) {x : Int} (h1 : isLg u = true → InL x) (h2 : isLg u = false → InI x) : Ok (setM σ u i k x) := by
  refine ⟨h.1, h.2.1, fun c' i' k' => ?_⟩
  show (isLg c' = true → InL (wr σ.2.2.2 u i k x c' i' k')) ∧ (isLg c' = false → InI (wr σ.2.2.2 u i k x c' i' k'))
  unfold wr
  split
  · rename_i q
    rw [q.1]
    exact ⟨h1, h2⟩
  · exact h.2.2 c' i' k'
theorem Ok.setR {σ : AS} (h : Ok σ) {u : Nat} (i k : Nat) {x : AR} (h1 : okr σ.2.1 x) : Ok (setR σ u i k x) := by
  refine ⟨h.1, fun c' i' k' hi' => ?_, h.2.2⟩
  show okr σ.2.1 (wrR σ.2.2.1 u i k x c' i' k')
  unfold wrR
  split
  · exact h1
  · exact h.2.1 c' i' k' hi'
theorem setM_off {σ : AS} {u i k : Nat} {x : Int} : ∀ c' i', ¬ (c' = u ∧ i' = i) → (setM σ u i k x).2.2.1 c' i' = σ.2.2.1 c' i' ∧ (setM σ u i k x).2.2.2 c' i' = σ.2.2.2 c' i' := fun c' i' h => ⟨rfl, wr_ne h⟩
theorem setR_off {σ : AS} {u i k : Nat} {x : AR} : ∀ c' i', ¬ (c' = u ∧ i' = i) → (setR σ u i k x).2.2.1 c' i' = σ.2.2.1 c' i' ∧ (setR σ u i k x).2.2.2 c' i' = σ.2.2.2 c' i' := fun c' i' h => ⟨wrR_ne h, rfl⟩
theorem c_putfield {p : Program} {l : Launch} {e : Env} {R : Room} {s : State} {m : MethodId} {args : Array Value} {below : List Frame} {meth : Method} {c : Code} {Q : State → Prop} {E : EnvT} {own : String} {cc : ByteArray} {nL : Nat} {B : Nat × Nat} {cnt0 : Nat → Nat} (C0 : Cx p s m args meth c E own cc nL) {call : CallT} {post : Option AV → AS → Prop} {k : Cfg → Prop} {pc : Nat} {ls st : List AV} {σ : AS} {idx a b : Nat} (hr : rowF own idx a b) (hfin : (Tn a (b / 8)).2.2.2 = false ∨ (meth.name = "<init>" ∧ (Tn a (b / 8)).1 = own ∧ Jvm.Cond.fieldLink own idx (Tn a (b / 8)).1 (Tn a (b / 8)).2.1 (Tn a (b / 8)).2.2.1 ∈ lw_tbl)) (hd : decode cc pc = .ok (.putfield idx, 3)) (hk : ∀ z, k z → PW p l e R s m args below meth c Q E nL B cnt0 z) (h : wE call post k (match (generalizing := false) st with | v :: st1 => o1 σ st1 (fun c i r => when σ (Nat.beq c a) (putE (b % 8) c i (b / 8) v (pc + 3) ls r σ)) | _ => bad σ)) : PW p l e R s m args below meth c Q E nL B cnt0 (pc, ls, st, σ) := by
  obtain ⟨hx, hb, hml, hown, hts, hlk, hKn, hbs⟩ := C0
  have C0 : Cx p s m args meth c E own cc nL := ⟨hx, hb, hml, hown, hts, hlk, hKn, hbs⟩
  obtain ⟨r1, r2, r3, r4, r5, r6, r7⟩ := hr
  intro H locs lsC hI
  split at h
  case h_2 => exact absurd h.1 id
  rename_i v st1
  obtain ⟨u, i, r, rfl, g1⟩ := o1_inv h
  obtain ⟨hq, g2⟩ := when_inv g1
  clear h g1
  obtain ⟨ov, o2⟩ := ok1 hI.2.2.1
  obtain ⟨ox, o3⟩ := ok1 o2
  have e := beq_t hq
  subst e
  have hic : i < σ.2.1 u := okr_some ox (by omega)
  have hcel := hI.2.2.2.2.2.1.2.2 u i (by omega) hic
  rw [celE_ob (by omega)] at hcel
  have go : ∀ (w : AV) (τ : AS), v = w → τ.1 = σ.1 → τ.2.1 = σ.2.1 → Ok τ → (∀ c' i', ¬ (c' = u ∧ i' = i) → τ.2.2.1 c' i' = σ.2.2.1 c' i' ∧ τ.2.2.2 c' i' = σ.2.2.2 c' i') → (∀ j, fvE E τ u i j = if j = b / 8 then cv E w else fvE E σ u i j) → narrow (Yn u (b / 8)) (cv E w) = cv E w → fits (Yn u (b / 8)) (cv E w) = true → PW p l e R s m args below meth c Q E nL B cnt0 (pc + 3, ls, r, τ) → W p l e R s m args below meth c H locs σ.1.2.1 σ.1.2.2 Q (F0 m pc lsC ((v :: (.inr (.inr (.inl (some (u, i)))) : AV) :: r).map (cv E))) := by
    intro w τ hw t1 t2 hO hoff hfv hn hf hz
    subst hw
    refine W_put (B := B) (cnt0 := cnt0) (a := adE E u i) C0 r1 r2 r5 hfin hcel hn hf hd (fun H1 sl e1 e2 e3 => ?_)
    have hPic : Pic E τ H1 := hI.2.2.2.2.2.1.put hI.1 (by omega) hic (by rw [t1]) t2 hoff e2 e3 (by rw [celE_ob (by omega), show fvE E τ u i = fun j => if j = b / 8 then cv E v else fvE E σ u i j from funext hfv]; exact e1)
    have := hz H1 (locs ++ [⟨adE E u i, sl⟩]) lsC ⟨hO, by rw [t2]; exact hI.2.1, by rw [t2]; exact o3, by rw [t2]; exact hI.2.2.2.1, by rw [t1]; exact hI.2.2.2.2.1, hPic, hI.2.2.2.2.2.2.1.put e2 e3 (show (eH E).size ≤ adE E u i by rw [adE_lo (by omega)]; omega), hI.2.2.2.2.2.2.2⟩
    rw [t1] at this
    exact this
  unfold putE at g2
  cases h4 : Nat.beq (b % 8) 4 with
  | true =>
    rw [h4] at g2
    have f4 := beq_t h4
    unfold ldA at g2
    rcases v with x | x | x | x
    · exact absurd g2.1 id
    · exact absurd g2.1 id
    · refine go (.inr (.inr (.inl x))) (setR σ u i (b / 8) x) rfl rfl rfl (hI.1.setR i (b / 8) ov) setR_off (fun j => ?_) (nf_ref (r6 f4) E x).1 (nf_ref (r6 f4) E x).2 (hk _ g2)
      by_cases hj : j = b / 8
      · subst hj
        rw [if_pos rfl]
        unfold fvE
        rw [r3, if_pos f4]
        show rfE E (wrR σ.2.2.1 u i (b / 8) x u i (b / 8)) = rfE E x
        unfold wrR
        rw [if_pos ⟨rfl, rfl, rfl⟩]
      · rw [if_neg hj]
        unfold fvE
        have e : (setR σ u i (b / 8) x).2.2.1 u i j = σ.2.2.1 u i j := if_neg (fun z => hj z.2.2)
        rw [e]
        rfl
    · exact absurd g2.1 id
  | false =>
    rw [h4] at g2
    have f4 := beq_f h4
    have wj : ∀ (x : Int) (j : Nat), j ≠ b / 8 → fvE E (setM σ u i (b / 8) x) u i j = fvE E σ u i j := by
      intro x j hj
      unfold fvE
      have e : (setM σ u i (b / 8) x).2.2.2 u i j = σ.2.2.2 u i j := if_neg (fun z => hj z.2.2)
      rw [e]
      rfl
    have ws : ∀ x : Int, wr σ.2.2.2 u i (b / 8) x u i (b / 8) = x := fun x => by
      unfold wr
      rw [if_pos ⟨rfl, rfl, rfl⟩]
    cases h3 : Nat.beq (b % 8) 3 with
    | true =>
      rw [h3] at g2
      have f3 := beq_t h3
      unfold ldL at g2
      rcases v with x | x | x | x
      · exact absurd g2.1 id
      · refine go (.inr (.inl x)) (setM σ u i (b / 8) x) rfl rfl rfl (hI.1.setM i (b / 8) (fun _ => ov) (fun z => absurd (r4.mpr f3) (by rw [z]; decide))) setM_off (fun j => ?_) (by rw [yn_long (r3.trans f3)]; rfl) (by rw [yn_long (r3.trans f3)]; rfl) (hk _ g2)
        by_cases hj : j = b / 8
        · subst hj
          rw [if_pos rfl]
          unfold fvE
          rw [r3, if_neg f4, if_pos f3]
          show Value.long (i64 (wr σ.2.2.2 u i (b / 8) x u i (b / 8))) = _
          rw [ws]
          rfl
        · rw [if_neg hj]
          exact wj x j hj
      · exact absurd g2.1 id
      · exact absurd g2.1 id
    | false =>
      rw [h3] at g2
      have f3 := beq_f h3
      unfold ldI at g2
      rcases v with x | x | x | x
      · have nl : isLg u = false := by
          cases q : isLg u with
          | false => rfl
          | true => exact absurd (r4.mp q) f3
        have hfv : ∀ j, fvE E (setM σ u i (b / 8) x) u i j = if j = b / 8 then cv E (.inl x) else fvE E σ u i j := by
          intro j
          by_cases hj : j = b / 8
          · subst hj
            rw [if_pos rfl]
            unfold fvE
            rw [r3, if_neg f4, if_neg f3]
            show Value.int (i32 (wr σ.2.2.2 u i (b / 8) x u i (b / 8))) = _
            rw [ws]
            rfl
          · rw [if_neg hj]
            exact wj x j hj
        have hO := hI.1.setM (u := u) i (b / 8) (x := x) (fun z => absurd z (by rw [nl]; decide)) (fun _ => ov)
        unfold gB at g2
        cases h1 : Nat.beq (b % 8) 1 with
        | true =>
          rw [h1] at g2
          have ty := yn_bool (r3.trans (beq_t h1))
          refine go (.inl x) (setM σ u i (b / 8) x) rfl rfl rfl hO setM_off hfv ?_ ?_ (hk _ g2.2)
          · rw [ty]
            rcases g2.1 with q | q <;> (rw [q]; rfl)
          · rw [ty]
            rcases g2.1 with q | q <;> (rw [q]; rfl)
        | false =>
          rw [h1] at g2
          have ty : Yn u (b / 8) = .int := yn_int (by have := fty_le u (b / 8); have := beq_f h1; omega)
          exact go (.inl x) (setM σ u i (b / 8) x) rfl rfl rfl hO setM_off hfv (by rw [ty]; rfl) (by rw [ty]; rfl) (hk _ g2)
      · exact absurd g2.1 id
      · exact absurd g2.1 id
      · exact absurd g2.1 id
