/-! SOUNDNESS, 6: further arrays, statics, references -/
theorem and_l {a b : Bool} (h : (a && b) = true) : a = true := by cases a; · cases h
                                                                  · rfl
theorem and_r {a b : Bool} (h : (a && b) = true) : b = true := by cases a; · cases h
                                                                  · exact h
theorem blt_lt {a b : Nat} (h : Nat.blt a b = true) : a < b := Nat.le_of_ble_eq_true h
theorem upd_eq {E : EnvT} {σ : AS} {u i k : Nat} {x : Int} (j : Nat) : (setM σ u i k x).2.2.2 u i j = if j = k then x else σ.2.2.2 u i j := by
  show wr σ.2.2.2 u i k x u i j = _
  unfold wr
  by_cases q : j = k
  · rw [if_pos ⟨rfl, rfl, q⟩, if_pos q]
  · rw [if_neg (fun z => q z.2.2), if_neg q]
theorem updR_eq {σ : AS} {u i k : Nat} {x : AR} (j : Nat) : (setR σ u i k x).2.2.1 u i j = if j = k then x else σ.2.2.1 u i j := by
  show wrR σ.2.2.1 u i k x u i j = _
  unfold wrR
  by_cases q : j = k
  · rw [if_pos ⟨rfl, rfl, q⟩, if_pos q]
  · rw [if_neg (fun z => q z.2.2), if_neg q]
/-- the cell of an own array -/
theorem arr_own {s : State} {E : EnvT} {σ : AS} {H : Heap} (hKn : Kn E s) (hP : Pic E σ H) {u i : Nat} (h20 : 20 ≤ u) (hu : u < 100) (hi : i < σ.2.1 u) : H[adE E u i]? = some (vp_cell (ecA E (aty u)) (slen u i, payE E σ u i)) ∧ ArrOfT s (ecA E (aty u)) (tyA (aty u)) := by
  have hc := hP.2.2 u i hu hi
  rw [celE_ar h20] at hc
  exact ⟨hc, (hKn.1.2 (aty u) _ (tyk E _ (aty_le u hu))).1⟩
theorem pay_i {E : EnvT} {σ : AS} {u i : Nat} (h : aty u ≤ 2) : payE E σ u i = .inl (fun j => i32 (σ.2.2.2 u i j)) := by unfold payE; rw [if_neg (by omega), if_neg (by omega)]
theorem pay_l {E : EnvT} {σ : AS} {u i : Nat} (h : aty u = 3) : payE E σ u i = .inr (.inl (fun j => i64 (σ.2.2.2 u i j))) := by unfold payE; rw [if_neg (by omega), if_pos h]
theorem pay_q {E : EnvT} {σ : AS} {u i : Nat} (h : 4 ≤ aty u) : payE E σ u i = .inr (.inr (.inr (.inr (fun j => (σ.2.2.1 u i j).map (fun q => adE E q.1 q.2))))) := by unfold payE; rw [if_pos h]
/-- an own array's cell has been written: the world behind it -/
theorem arr_put {s : State} {E : EnvT} {σ τ : AS} {H H1 : Heap} {locs : List Loc} {nL : Nat} {B : Nat × Nat} {cnt0 : Nat → Nat} {pc pc' : Nat} {ls st r : List AV} {lsC : Array Slot} {u i j : Nat} (hI : Inv s E nL B cnt0 (pc, ls, st, σ) H locs lsC) (h20 : 20 ≤ u) (hu : u < 100) (hi : i < σ.2.1 u) (t1 : τ.1 = σ.1) (t2 : τ.2.1 = σ.2.1) (hO : Ok τ) (hoff : ∀ c' i', ¬ (c' = u ∧ i' = i) → τ.2.2.1 c' i' = σ.2.2.1 c' i' ∧ τ.2.2.2 c' i' = σ.2.2.2 c' i') (hr : ∀ v ∈ r, okv σ.2.1 v)
    (e1 : H1[adE E u i]? = some (vp_cell (ecA E (aty u)) (slen u i, payE E τ u i))) (z : H1.size = H.size) (oq : ∀ q : Nat, q ≠ adE E u i → H1[q]? = H[q]?) : Inv s E nL B cnt0 (pc', ls, r, τ) H1 (locs ++ [⟨adE E u i, j⟩]) lsC := by
  have hPic : Pic E τ H1 := hI.2.2.2.2.2.1.put hI.1 hu hi (by rw [t1]) t2 hoff z oq (by rw [celE_ar h20]; exact e1)
  exact ⟨hO, by rw [t2]; exact hI.2.1, by rw [t2]; exact hr, by rw [t2]; exact hI.2.2.2.1, by rw [t1]; exact hI.2.2.2.2.1, hPic, hI.2.2.2.2.2.2.1.put z oq (show (eH E).size ≤ adE E u i by rw [adE_lo hu]; omega), hI.2.2.2.2.2.2.2⟩
theorem c_laload {p : Program} {l : Launch} {e : Env} {R : Room} {s : State} {m : MethodId} {args : Array Value} {below : List Frame} {meth : Method} {c : Code} {Q : State → Prop} {E : EnvT} {own : String} {cc : ByteArray} {nL : Nat} {B : Nat × Nat} {cnt0 : Nat → Nat} (C0 : Cx p s m args meth c E own cc nL) {call : CallT} {post : Option AV → AS → Prop} {k : Cfg → Prop} {pc : Nat} {ls st : List AV} {σ : AS} (hd : decode cc pc = .ok (.laload, 1)) (hk : ∀ z, k z → PW p l e R s m args below meth c Q E nL B cnt0 z) (h : wE call post k (i1 σ st (fun j st1 => o1 σ st1 (fun c i r => when σ (Nat.blt c 100 && Nat.beq (aty c) 3) (gx (0 ≤ j ∧ j < ((slen c i : Nat) : Int)) (pc + 1) ls (.inr (.inl (σ.2.2.2 c i j.toNat)) :: r) σ))))) : PW p l e R s m args below meth c Q E nL B cnt0 (pc, ls, st, σ) := by
  obtain ⟨hx, hb, hml, hown, hts, hlk, hKn, hbs⟩ := C0
  intro H locs lsC hI
  obtain ⟨j, st1, rfl, g1⟩ := i1_inv h
  obtain ⟨u, i, r, rfl, g2⟩ := o1_inv g1
  obtain ⟨hq, g3⟩ := when_inv g2
  clear h g1 g2
  obtain ⟨oj, o2⟩ := ok1 hI.2.2.1
  obtain ⟨ox, o3⟩ := ok1 o2
  have oj : InI j := oj
  obtain ⟨hg, hz⟩ := g3
  have hu : u < 100 := blt_lt (and_l hq)
  have ht : aty u = 3 := beq_t (and_r hq)
  have h20 : 20 ≤ u := aty_20 u hu (by omega)
  obtain ⟨a1, a2⟩ := arr_own hKn hI.2.2.2.2.2.1 h20 hu (okr_some ox hu)
  have a1 : H[adE E u i]? = some (vp_cell (ecA E (aty u)) (slen u i, payE E σ u i)) := a1
  rw [pay_l ht, vp_cell_l] at a1
  rw [ht] at a2
  have a2 : ArrOfT s (ecA E 3) .long := a2
  rw [ht] at a1
  obtain ⟨b1, b2, b3⟩ := sz_in (n := slen u i) (cell := arrV (ecA E 3) (slen u i) fun j => .long (i64 (σ.2.2.2 u i j))) (by rw [arrV_size]; exact Nat.le_refl _) oj hg
  exact W.lald (v := .long (i64 (σ.2.2.2 u i j.toNat))) (g := F0 m pc lsC _) hx hb a1 (a2 _ _) (fun q => by cases q) b1 (by rw [b2, arrV_read _ _ b3]) rfl rfl hd (hk _ hz H locs lsC (hI.st (okc (show okv σ.2.1 (.inr (.inl (σ.2.2.2 u i j.toNat))) from (hI.1.2.2 u i j.toNat).1 ((aty_lg u hu h20).mpr ht)) o3)))
theorem c_aaload {p : Program} {l : Launch} {e : Env} {R : Room} {s : State} {m : MethodId} {args : Array Value} {below : List Frame} {meth : Method} {c : Code} {Q : State → Prop} {E : EnvT} {own : String} {cc : ByteArray} {nL : Nat} {B : Nat × Nat} {cnt0 : Nat → Nat} (C0 : Cx p s m args meth c E own cc nL) {call : CallT} {post : Option AV → AS → Prop} {k : Cfg → Prop} {pc : Nat} {ls st : List AV} {σ : AS} (hd : decode cc pc = .ok (.aaload, 1)) (hk : ∀ z, k z → PW p l e R s m args below meth c Q E nL B cnt0 z) (h : wE call post k (i1 σ st (fun j st1 => o1 σ st1 (fun c i r => when σ (Nat.blt c 100 && Nat.ble 4 (aty c)) (gx (0 ≤ j ∧ j < ((slen c i : Nat) : Int)) (pc + 1) ls (.inr (.inr (.inl (σ.2.2.1 c i j.toNat))) :: r) σ))))) : PW p l e R s m args below meth c Q E nL B cnt0 (pc, ls, st, σ) := by
  obtain ⟨hx, hb, hml, hown, hts, hlk, hKn, hbs⟩ := C0
  intro H locs lsC hI
  obtain ⟨j, st1, rfl, g1⟩ := i1_inv h
  obtain ⟨u, i, r, rfl, g2⟩ := o1_inv g1
  obtain ⟨hq, g3⟩ := when_inv g2
  clear h g1 g2
  obtain ⟨oj, o2⟩ := ok1 hI.2.2.1
  obtain ⟨ox, o3⟩ := ok1 o2
  have oj : InI j := oj
  obtain ⟨hg, hz⟩ := g3
  have hu : u < 100 := blt_lt (and_l hq)
  have ht : 4 ≤ aty u := Nat.le_of_ble_eq_true (and_r hq)
  have h20 : 20 ≤ u := aty_20 u hu (by omega)
  obtain ⟨a1, a2⟩ := arr_own hKn hI.2.2.2.2.2.1 h20 hu (okr_some ox hu)
  have a1 : H[adE E u i]? = some (vp_cell (ecA E (aty u)) (slen u i, payE E σ u i)) := a1
  rw [pay_q ht, vp_cell_q] at a1
  obtain ⟨b1, b2, b3⟩ := sz_in (n := slen u i) (cell := arrV (ecA E (aty u)) (slen u i) fun j => va_rf ((σ.2.2.1 u i j).map (fun q => adE E q.1 q.2))) (by rw [arrV_size]; exact Nat.le_refl _) oj hg
  have hrf : (tyA (aty u)).isReference = true := by
    have := aty_le u hu
    rcases (by omega : aty u = 4 ∨ aty u = 5) with q | q <;> rw [q] <;> rfl
  exact W.aald (v := rfE E (σ.2.2.1 u i j.toNat)) (g := F0 m pc lsC _) hx hb a1 (a2 _ _) hrf (fun q => by cases q) b1 (by rw [b2, arrV_read _ _ b3]; rfl) rfl rfl hd (hk _ hz H locs lsC (hI.st (okc (show okv σ.2.1 (.inr (.inr (.inl (σ.2.2.1 u i j.toNat)))) from hI.1.2.1 u i j.toNat (okr_some ox hu)) o3)))
theorem c_iastore {p : Program} {l : Launch} {e : Env} {R : Room} {s : State} {m : MethodId} {args : Array Value} {below : List Frame} {meth : Method} {c : Code} {Q : State → Prop} {E : EnvT} {own : String} {cc : ByteArray} {nL : Nat} {B : Nat × Nat} {cnt0 : Nat → Nat} (C0 : Cx p s m args meth c E own cc nL) {call : CallT} {post : Option AV → AS → Prop} {k : Cfg → Prop} {pc : Nat} {ls st : List AV} {σ : AS} (hd : decode cc pc = .ok (.iastore, 1)) (hk : ∀ z, k z → PW p l e R s m args below meth c Q E nL B cnt0 z) (h : wE call post k (i1 σ st (fun x st0 => i1 σ st0 (fun j st1 => o1 σ st1 (fun c i r => when σ (Nat.blt c 100 && (Nat.ble 20 c && Nat.beq (aty c) 0)) (gx (0 ≤ j ∧ j < ((slen c i : Nat) : Int)) (pc + 1) ls r (setM σ c i j.toNat x))))))) : PW p l e R s m args below meth c Q E nL B cnt0 (pc, ls, st, σ) := by
  obtain ⟨hx, hb, hml, hown, hts, hlk, hKn, hbs⟩ := C0
  intro H locs lsC hI
  obtain ⟨x, st0, rfl, g0⟩ := i1_inv h
  obtain ⟨j, st1, rfl, g1⟩ := i1_inv g0
  obtain ⟨u, i, r, rfl, g2⟩ := o1_inv g1
  obtain ⟨hq, g3⟩ := when_inv g2
  clear h g0 g1 g2
  obtain ⟨ov, o1_⟩ := ok1 hI.2.2.1
  obtain ⟨oj, o2⟩ := ok1 o1_
  obtain ⟨ox, o3⟩ := ok1 o2
  have oj : InI j := oj
  obtain ⟨hg, hz⟩ := g3
  have hu : u < 100 := blt_lt (and_l hq)
  have h20 : 20 ≤ u := Nat.le_of_ble_eq_true (and_l (and_r hq))
  have ht : aty u = 0 := beq_t (and_r (and_r hq))
  have hic := okr_some ox hu
  obtain ⟨a1, a2⟩ := arr_own hKn hI.2.2.2.2.2.1 h20 hu hic
  have a1 : H[adE E u i]? = some (vp_cell (ecA E (aty u)) (slen u i, payE E σ u i)) := a1
  rw [pay_i (by omega), vp_cell_i] at a1
  obtain ⟨b1, b2, b3⟩ := sz_in (n := slen u i) (cell := arrV (ecA E (aty u)) (slen u i) fun j => .int (i32 (σ.2.2.2 u i j))) (by rw [arrV_size]; exact Nat.le_refl _) oj hg
  have hnl : isLg u = false := by cases q : isLg u with
    | false => rfl
    | true => have := (aty_lg u hu h20).mp q; omega
  refine W.iast (x := i32 x) (g := F0 m pc lsC _) hx hb a1 (by have := a2 (slen u i) (fun j => .int (i32 (σ.2.2.2 u i j))); rw [ht] at this ⊢; exact this) (fun q => by cases q) b1 rfl rfl hd (fun H1 e z oq => hk _ hz H1 _ lsC (arr_put hI h20 hu hic rfl rfl (hI.1.setM i j.toNat (fun z => absurd z (by rw [hnl]; decide)) (fun _ => ov)) setM_off o3 ?_ z oq))
  rw [e, b2, arrV_store, pay_i (by omega), vp_cell_i]
  congr 2
  funext q
  rw [upd_eq (E := E)]
  unfold updV
  split <;> rfl
theorem c_lastore {p : Program} {l : Launch} {e : Env} {R : Room} {s : State} {m : MethodId} {args : Array Value} {below : List Frame} {meth : Method} {c : Code} {Q : State → Prop} {E : EnvT} {own : String} {cc : ByteArray} {nL : Nat} {B : Nat × Nat} {cnt0 : Nat → Nat} (C0 : Cx p s m args meth c E own cc nL) {call : CallT} {post : Option AV → AS → Prop} {k : Cfg → Prop} {pc : Nat} {ls st : List AV} {σ : AS} (hd : decode cc pc = .ok (.lastore, 1)) (hk : ∀ z, k z → PW p l e R s m args below meth c Q E nL B cnt0 z) (h : wE call post k (l1 σ st (fun x st0 => i1 σ st0 (fun j st1 => o1 σ st1 (fun c i r => when σ (Nat.blt c 100 && Nat.beq (aty c) 3) (gx (0 ≤ j ∧ j < ((slen c i : Nat) : Int)) (pc + 1) ls r (setM σ c i j.toNat x))))))) : PW p l e R s m args below meth c Q E nL B cnt0 (pc, ls, st, σ) := by
  obtain ⟨hx, hb, hml, hown, hts, hlk, hKn, hbs⟩ := C0
  intro H locs lsC hI
  obtain ⟨x, st0, rfl, g0⟩ := l1_inv h
  obtain ⟨j, st1, rfl, g1⟩ := i1_inv g0
  obtain ⟨u, i, r, rfl, g2⟩ := o1_inv g1
  obtain ⟨hq, g3⟩ := when_inv g2
  clear h g0 g1 g2
  obtain ⟨ov, o1_⟩ := ok1 hI.2.2.1
  obtain ⟨oj, o2⟩ := ok1 o1_
  obtain ⟨ox, o3⟩ := ok1 o2
  have oj : InI j := oj
  obtain ⟨hg, hz⟩ := g3
  have hu : u < 100 := blt_lt (and_l hq)
  have ht : aty u = 3 := beq_t (and_r hq)
  have h20 : 20 ≤ u := aty_20 u hu (by omega)
  have hic := okr_some ox hu
  obtain ⟨a1, a2⟩ := arr_own hKn hI.2.2.2.2.2.1 h20 hu hic
  have a1 : H[adE E u i]? = some (vp_cell (ecA E (aty u)) (slen u i, payE E σ u i)) := a1
  rw [pay_l ht, vp_cell_l] at a1
  obtain ⟨b1, b2, b3⟩ := sz_in (n := slen u i) (cell := arrV (ecA E (aty u)) (slen u i) fun j => .long (i64 (σ.2.2.2 u i j))) (by rw [arrV_size]; exact Nat.le_refl _) oj hg
  refine W.last (x := i64 x) (g := F0 m pc lsC _) hx hb a1 (by have := a2 (slen u i) (fun j => .long (i64 (σ.2.2.2 u i j))); rw [ht] at this ⊢; exact this) (fun q => by cases q) b1 rfl rfl hd (fun H1 e z oq => hk _ hz H1 _ lsC (arr_put hI h20 hu hic rfl rfl (hI.1.setM i j.toNat (fun _ => ov) (fun z => absurd ((aty_lg u hu h20).mpr ht) (by rw [z]; decide))) setM_off o3 ?_ z oq))
  rw [e, b2, arrV_store, pay_l ht, vp_cell_l]
  congr 2
  funext q
  rw [upd_eq (E := E)]
  unfold updV
  split <;> rfl
theorem c_bastore {p : Program} {l : Launch} {e : Env} {R : Room} {s : State} {m : MethodId} {args : Array Value} {below : List Frame} {meth : Method} {c : Code} {Q : State → Prop} {E : EnvT} {own : String} {cc : ByteArray} {nL : Nat} {B : Nat × Nat} {cnt0 : Nat → Nat} (C0 : Cx p s m args meth c E own cc nL) {call : CallT} {post : Option AV → AS → Prop} {k : Cfg → Prop} {pc : Nat} {ls st : List AV} {σ : AS} (hd : decode cc pc = .ok (.bastore, 1)) (hk : ∀ z, k z → PW p l e R s m args below meth c Q E nL B cnt0 z) (h : wE call post k (i1 σ st (fun x st0 => i1 σ st0 (fun j st1 => o1 σ st1 (fun c i r => when σ (Nat.blt c 100) (match Nat.beq (aty c) 1 with | true => gx ((0 ≤ j ∧ j < ((slen c i : Nat) : Int)) ∧ (x = 0 ∨ x = 1)) (pc + 1) ls r (setM σ c i j.toNat x) | false => when σ (Nat.beq (aty c) 2) (gx ((0 ≤ j ∧ j < ((slen c i : Nat) : Int)) ∧ (-128 ≤ x ∧ x ≤ 127)) (pc + 1) ls r (setM σ c i j.toNat x)))))))) : PW p l e R s m args below meth c Q E nL B cnt0 (pc, ls, st, σ) := by
  obtain ⟨hx, hb, hml, hown, hts, hlk, hKn, hbs⟩ := C0
  intro H locs lsC hI
  obtain ⟨x, st0, rfl, g0⟩ := i1_inv h
  obtain ⟨j, st1, rfl, g1⟩ := i1_inv g0
  obtain ⟨u, i, r, rfl, g2⟩ := o1_inv g1
  obtain ⟨hq, g3⟩ := when_inv g2
  clear h g0 g1 g2
  obtain ⟨ov, o1_⟩ := ok1 hI.2.2.1
  obtain ⟨oj, o2⟩ := ok1 o1_
  obtain ⟨ox, o3⟩ := ok1 o2
  have oj : InI j := oj
  have hu : u < 100 := blt_lt hq
  have ov : InI x := ov
  have main : ∀ (t : Nat), aty u = t → (t = 1 ∨ t = 2) → (0 ≤ j ∧ j < ((slen u i : Nat) : Int)) → narrow (tyA t) (.int (i32 x)) = .int (i32 x) → k (pc + 1, ls, r, setM σ u i j.toNat x) → W p l e R s m args below meth c H locs σ.1.2.1 σ.1.2.2 Q (F0 m pc lsC (((.inl x : AV) :: .inl j :: .inr (.inr (.inl (some (u, i)))) :: r).map (cv E))) := by
    intro t ht htt hg hnar hz
    have h20 : 20 ≤ u := aty_20 u hu (by omega)
    have hic := okr_some ox hu
    obtain ⟨a1, a2⟩ := arr_own hKn hI.2.2.2.2.2.1 h20 hu hic
    have a1 : H[adE E u i]? = some (vp_cell (ecA E (aty u)) (slen u i, payE E σ u i)) := a1
    rw [pay_i (by omega), vp_cell_i] at a1
    obtain ⟨b1, b2, b3⟩ := sz_in (n := slen u i) (cell := arrV (ecA E (aty u)) (slen u i) fun j => .int (i32 (σ.2.2.2 u i j))) (by rw [arrV_size]; exact Nat.le_refl _) oj hg
    have hnl : isLg u = false := by cases q : isLg u with
      | false => rfl
      | true => have := (aty_lg u hu h20).mp q; omega
    have fin : ∀ H1 : Heap, H1[adE E u i]? = some ((arrV (ecA E (aty u)) (slen u i) fun j => .int (i32 (σ.2.2.2 u i j))).setSlot (i32 j).toNatClampNeg (narrow (tyA t) (.int (i32 x)))) → H1.size = H.size → (∀ q : Nat, q ≠ adE E u i → H1[q]? = H[q]?) → W p l e R s m args below meth c H1 (locs ++ [⟨adE E u i, (i32 j).toNatClampNeg⟩]) σ.1.2.1 σ.1.2.2 Q (F0 m (pc + 1) lsC (r.map (cv E))) := by
      intro H1 e z oq
      refine hk _ hz H1 _ lsC (arr_put hI h20 hu hic rfl rfl (hI.1.setM i j.toNat (fun z => absurd z (by rw [hnl]; decide)) (fun _ => ov)) setM_off o3 ?_ z oq)
      rw [e, b2, hnar, arrV_store, pay_i (by omega), vp_cell_i]
      congr 2
      funext q
      rw [upd_eq (E := E)]
      unfold updV
      split <;> rfl
    have a3 := a2 (slen u i) (fun j => .int (i32 (σ.2.2.2 u i j)))
    rcases htt with rfl | rfl
    · exact W.zast (x := i32 x) (g := F0 m pc lsC _) hx hb a1 (by rw [ht] at a3 ⊢; exact a3) (fun q => by cases q) b1 rfl rfl hd fin
    · exact W.bast (x := i32 x) (g := F0 m pc lsC _) hx hb a1 (by rw [ht] at a3 ⊢; exact a3) (fun q => by cases q) b1 rfl rfl hd fin
  cases h1 : Nat.beq (aty u) 1 with
  | true =>
    rw [h1] at g3
    obtain ⟨⟨hg, hx01⟩, hz⟩ := g3
    exact main 1 (beq_t h1) (Or.inl rfl) hg (by rcases hx01 with q | q <;> (rw [q]; rfl)) hz
  | false =>
    rw [h1] at g3
    obtain ⟨h2, g4⟩ := when_inv g3
    obtain ⟨⟨hg, hxb⟩, hz⟩ := g4
    refine main 2 (beq_t h2) (Or.inr rfl) hg ?_ hz
    show Value.int (i32 x).toInt8.toInt32 = _
    congr 1
    refine Int32.toInt_inj.mp ?_
    rw [Int8.toInt_toInt32, Int32.toInt_toInt8, i32_to ov, Int.bmod_eq_of_le (by omega) (by omega)]
theorem c_aastore {p : Program} {l : Launch} {e : Env} {R : Room} {s : State} {m : MethodId} {args : Array Value} {below : List Frame} {meth : Method} {c : Code} {Q : State → Prop} {E : EnvT} {own : String} {cc : ByteArray} {nL : Nat} {B : Nat × Nat} {cnt0 : Nat → Nat} (C0 : Cx p s m args meth c E own cc nL) {call : CallT} {post : Option AV → AS → Prop} {k : Cfg → Prop} {pc : Nat} {ls st : List AV} {σ : AS} (hd : decode cc pc = .ok (.aastore, 1)) (hk : ∀ z, k z → PW p l e R s m args below meth c Q E nL B cnt0 z) (h : wE call post k (o1 σ st (fun c2 i2 st0 => i1 σ st0 (fun j st1 => o1 σ st1 (fun c i r => when σ (Nat.blt c 100 && ((Nat.beq (aty c) 4 && Nat.beq c2 9) || (Nat.beq (aty c) 5 && Nat.beq c2 6))) (gx (0 ≤ j ∧ j < ((slen c i : Nat) : Int)) (pc + 1) ls r (setR σ c i j.toNat (some (c2, i2))))))))) : PW p l e R s m args below meth c Q E nL B cnt0 (pc, ls, st, σ) := by
  obtain ⟨hx, hb, hml, hown, hts, hlk, hKn, hbs⟩ := C0
  intro H locs lsC hI
  obtain ⟨w, i2, st0, rfl, g0⟩ := o1_inv h
  obtain ⟨j, st1, rfl, g1⟩ := i1_inv g0
  obtain ⟨u, i, r, rfl, g2⟩ := o1_inv g1
  obtain ⟨hq, g3⟩ := when_inv g2
  clear h g0 g1 g2
  obtain ⟨ov, o1_⟩ := ok1 hI.2.2.1
  obtain ⟨oj, o2⟩ := ok1 o1_
  obtain ⟨ox, o3⟩ := ok1 o2
  have oj : InI j := oj
  obtain ⟨hg, hz⟩ := g3
  have hu : u < 100 := blt_lt (and_l hq)
  have hqq : (aty u = 4 ∧ w = 9) ∨ (aty u = 5 ∧ w = 6) := by
    have q := and_r hq
    cases q1 : (Nat.beq (aty u) 4 && Nat.beq w 9) with
    | true => exact Or.inl ⟨beq_t (and_l q1), beq_t (and_r q1)⟩
    | false => rw [q1, Bool.false_or] at q; exact Or.inr ⟨beq_t (and_l q), beq_t (and_r q)⟩
  have ht : 4 ≤ aty u := by omega
  have hw12 : w < 12 := by omega
  have h20 : 20 ≤ u := aty_20 u hu (by omega)
  have hic := okr_some ox hu
  have hiw : i2 < σ.2.1 w := okr_some ov (by omega)
  obtain ⟨a1, a2⟩ := arr_own hKn hI.2.2.2.2.2.1 h20 hu hic
  have a1 : H[adE E u i]? = some (vp_cell (ecA E (aty u)) (slen u i, payE E σ u i)) := a1
  rw [pay_q ht, vp_cell_q] at a1
  obtain ⟨b1, b2, b3⟩ := sz_in (n := slen u i) (cell := arrV (ecA E (aty u)) (slen u i) fun j => va_rf ((σ.2.2.1 u i j).map (fun q => adE E q.1 q.2))) (by rw [arrV_size]; exact Nat.le_refl _) oj hg
  have hcw := hI.2.2.2.2.2.1.2.2 w i2 (by omega) hiw
  rw [celE_ob (by omega)] at hcw
  obtain ⟨r', hr', cellV, y1, y2, y3, -⟩ := hcw
  obtain ⟨k1, -⟩ := cls_ok w hw12
  have hcls := (hKn.1.1 w _ k1).2
  have hra := (hKn.1.2 (aty u) _ (tyk E _ (aty_le u hu))).2
  have hra : ∃ (kA : Class) (comp : ClassId), s.vm.classes[ecA E (aty u)]? = some kA ∧ kA.kind = .array comp (tyA (aty u)) ∧ (tyA (aty u)).isReference = true ∧ s.vm.findClass (Rn w) = some comp := by
    rcases hqq with ⟨q1, q2⟩ | ⟨q1, q2⟩
    · rw [q1] at hra ⊢
      obtain ⟨kA, comp, z1, z2, z3, -⟩ := hra
      exact ⟨kA, comp, z1, z2, rfl, by rw [q2]; exact z3⟩
    · rw [q1] at hra ⊢
      obtain ⟨kA, comp, z1, z2, z3, -⟩ := hra
      exact ⟨kA, comp, z1, z2, rfl, by rw [q2]; exact z3⟩
  obtain ⟨kA, comp, z1, z2, z3, z4⟩ := hra
  have hcomp : comp = (eD E).1 w := Option.some.inj (z4.symm.trans hcls.1)
  subst hcomp
  have hcls2 := hcls
  obtain ⟨kC, hkC, -⟩ := hcls2.2
  refine W.aast (v := adE E w i2) (g := F0 m pc lsC _) hx hb a1 (fun q h => by cases h) (fun h => by cases h) z1 z2 z3 hkC ⟨fun q => b1 (Or.inl q), by rw [arrV_size, b2]; exact b3⟩ y1 (fun q h => by rw [y3] at h; cases h) (by rw [y2]; exact hkC) (by rw [y2]; exact va_assign hcls) rfl rfl hd (fun H1 e z oq => hk _ hz H1 _ lsC (arr_put hI h20 hu hic rfl rfl (hI.1.setR i j.toNat ov) setR_off o3 ?_ z oq))
  rw [e, b2, arrV_store, pay_q ht, vp_cell_q]
  congr 2
  funext q
  rw [updR_eq]
  unfold updV
  by_cases hqj : q = j.toNat
  · rw [if_pos hqj, if_pos hqj]
    rfl
  · rw [if_neg hqj, if_neg hqj]
theorem c_if_acmp {p : Program} {l : Launch} {e : Env} {R : Room} {s : State} {m : MethodId} {args : Array Value} {below : List Frame} {meth : Method} {c : Code} {Q : State → Prop} {E : EnvT} {own : String} {cc : ByteArray} {nL : Nat} {B : Nat × Nat} {cnt0 : Nat → Nat} (C0 : Cx p s m args meth c E own cc nL) {call : CallT} {post : Option AV → AS → Prop} {k : Cfg → Prop} {pc : Nat} {ls st : List AV} {σ : AS} {cd : ClassFile.ACond} {off : Int} (ht : 0 ≤ (pc : Int) + off) (hd : decode cc pc = .ok (.if_acmp cd off, 3)) (hk : ∀ z, k z → PW p l e R s m args below meth c Q E nL B cnt0 z) (h : wE call post k (match (generalizing := false) st with | .inr (.inr (.inl y)) :: .inr (.inr (.inl x)) :: r => when σ (isOb x && isOb y) (match (generalizing := false) cd with | .eq => br (x = y) (tgt pc off) (pc + 3) ls r σ | .ne => br (¬ x = y) (tgt pc off) (pc + 3) ls r σ) | _ => bad σ)) : PW p l e R s m args below meth c Q E nL B cnt0 (pc, ls, st, σ) := by
  obtain ⟨hx, hb, hml, hown, hts, hlk, hKn, hbs⟩ := C0
  intro H locs lsC hI
  split at h
  case h_2 => exact absurd h.1 id
  rename_i y x r
  obtain ⟨hq, g⟩ := when_inv h
  clear h
  obtain ⟨oy, o2⟩ := ok1 hI.2.2.1
  obtain ⟨ox, o3⟩ := ok1 o2
  have lo : ∀ (r : AR), okr σ.2.1 r → isOb r = true → ∀ c i, r = some (c, i) → c < 100 ∧ i < cF c := by
    intro r hr hb2 c i e
    subst e
    have hc : c < 100 := blt_lt hb2
    exact ⟨hc, Nat.lt_of_lt_of_le (okr_some hr hc) (hI.1.1 c hc)⟩
  have hxy : x.map (fun q => adE E q.1 q.2) = y.map (fun q => adE E q.1 q.2) ↔ x = y := by
    refine ⟨fun z => ?_, fun z => by rw [z]⟩
    rcases x with _ | ⟨c1, i1⟩ <;> rcases y with _ | ⟨c2, i2⟩
    · rfl
    · cases z
    · cases z
    · have z := Option.some.inj z
      obtain ⟨p1, p2⟩ := lo _ ox (and_l hq) c1 i1 rfl
      obtain ⟨p3, p4⟩ := lo _ oy (and_r hq) c2 i2 rfl
      have z : adE E c1 i1 = adE E c2 i2 := z
      rw [adE_lo p1, adE_lo p3] at z
      obtain ⟨rfl, rfl⟩ := ord_inj p1 p2 p3 p4 (by omega)
      rfl
  cases cd with
  | eq =>
    obtain ⟨h1, h2⟩ := g
    exact lv_acmp_eq (rx := x.map (fun q => adE E q.1 q.2)) (ry := y.map (fun q => adE E q.1 q.2)) (ls := lsC) hx hb hd (tgt_ok ht) (fun q => hk _ (h1 (hxy.mp q)) H locs lsC (hI.st o3)) (fun q => hk _ (h2 (fun z => q (hxy.mpr z))) H locs lsC (hI.st o3))
  | ne =>
    obtain ⟨h1, h2⟩ := g
    exact lv_acmp_ne (rx := x.map (fun q => adE E q.1 q.2)) (ry := y.map (fun q => adE E q.1 q.2)) (ls := lsC) hx hb hd (tgt_ok ht) (fun q => hk _ (h1 (fun z => q (hxy.mpr z))) H locs lsC (hI.st o3)) (fun q => hk _ (h2 (fun z => z (hxy.mp q))) H locs lsC (hI.st o3))
