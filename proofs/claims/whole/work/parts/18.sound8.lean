/-! SOUNDNESS, 8: new objects and arrays -/
def newP (c : Nat) : Prop := Jvm.Cond.instantiable (Rn c) (nfl c) ∈ lw_tbl ∧ Jvm.Cond.initialized (Rn c) ∈ lw_tbl
theorem new_ok : ∀ c, c < 12 → newP c
  | 0, _ => ⟨List.mem_of_getElem? (i := 157) (by decide +kernel), List.mem_of_getElem? (i := 137) (by decide +kernel)⟩
  | 1, _ => ⟨List.mem_of_getElem? (i := 229) (by decide +kernel), List.mem_of_getElem? (i := 140) (by decide +kernel)⟩
  | 2, _ => ⟨List.mem_of_getElem? (i := 436) (by decide +kernel), List.mem_of_getElem? (i := 146) (by decide +kernel)⟩
  | 3, _ => ⟨List.mem_of_getElem? (i := 237) (by decide +kernel), List.mem_of_getElem? (i := 141) (by decide +kernel)⟩
  | 4, _ => ⟨List.mem_of_getElem? (i := 181) (by decide +kernel), List.mem_of_getElem? (i := 139) (by decide +kernel)⟩
  | 5, _ => ⟨List.mem_of_getElem? (i := 404) (by decide +kernel), List.mem_of_getElem? (i := 145) (by decide +kernel)⟩
  | 6, _ => ⟨List.mem_of_getElem? (i := 449) (by decide +kernel), List.mem_of_getElem? (i := 147) (by decide +kernel)⟩
  | 7, _ => ⟨List.mem_of_getElem? (i := 357) (by decide +kernel), List.mem_of_getElem? (i := 144) (by decide +kernel)⟩
  | 8, _ => ⟨List.mem_of_getElem? (i := 165) (by decide +kernel), List.mem_of_getElem? (i := 138) (by decide +kernel)⟩
  | 9, _ => ⟨List.mem_of_getElem? (i := 260) (by decide +kernel), List.mem_of_getElem? (i := 142) (by decide +kernel)⟩
  | 10, _ => ⟨List.mem_of_getElem? (i := 351) (by decide +kernel), List.mem_of_getElem? (i := 143) (by decide +kernel)⟩
  | 11, _ => ⟨List.mem_of_getElem? (i := 1082) (by decide +kernel), List.mem_of_getElem? (i := 148) (by decide +kernel)⟩
  | n + 12, h => absurd h (by omega)
theorem def_ok : ∀ c, c < 12 → ∀ k, k < nfl c → defaultValue (Yn c k) = (if fty c k = 4 then .null else if fty c k = 3 then .long 0 else .int 0) := by decide +kernel
theorem arrC (t : Nat) (h : t ≤ 3) : Jvm.Cond.arrayClass (tyA t) ∈ lw_tbl := by
  rcases (by omega : t = 0 ∨ t = 1 ∨ t = 2 ∨ t = 3) with rfl | rfl | rfl | rfl
  · exact List.mem_of_getElem? (i := 227) (by decide +kernel)
  · exact List.mem_of_getElem? (i := 1372) (by decide +kernel)
  · exact List.mem_of_getElem? (i := 179) (by decide +kernel)
  · exact List.mem_of_getElem? (i := 1371) (by decide +kernel)
theorem arrW : Jvm.Cond.arrayOver (.object "EchoValley$Wall") ∈ lw_tbl := List.mem_of_getElem? (i := 235) (by decide +kernel)
theorem arrS : Jvm.Cond.arrayOver (.object "EchoValley$Slot") ∈ lw_tbl := List.mem_of_getElem? (i := 434) (by decide +kernel)
abbrev born_ (σ : AS) (c n : Nat) : AS := born σ c n
theorem slen_le (u i : Nat) : slen u i ≤ 10000 := by
  unfold slen
  have all : ∀ (L : List (List Nat)), L.all (fun l => l.all (fun x => decide (x ≤ 10000))) = true → ((L.getD (u - 20) []).getD i 0) ≤ 10000 := by
    intro L hL
    rw [List.getD_eq_getElem?_getD, List.getD_eq_getElem?_getD]
    cases h1 : L[u - 20]? with
    | none => rw [show ((none : Option (List Nat)).getD [])[i]? = none from List.getElem?_nil]; decide
    | some l =>
      show l[i]?.getD 0 ≤ _
      cases h2 : l[i]? with
      | none => decide
      | some x => exact of_decide_eq_true (List.all_eq_true.mp (List.all_eq_true.mp hL l (List.mem_of_getElem? h1)) x (List.mem_of_getElem? h2))
  exact all lenT (by decide +kernel)
theorem inc_le (n : Nat → Nat) (u c : Nat) : n c ≤ inc n u c := by
  unfold inc
  split <;> omega
theorem Pic.born {E : EnvT} {σ : AS} {H H1 : Heap} {u n : Nat} (hP : Pic E σ H) (hu : u < 100) (hord : ord u (σ.2.1 u) = σ.1.1) (z : H1.size = H.size + 1) (o1 : ∀ q : Nat, q < H.size → H1[q]? = H[q]?) (hnew : va_at (eD E) cl (H.size, celE E (born σ u n) u (σ.2.1 u)) H1) : Pic E (born σ u n) H1 := by
  have hs := hP.1
  refine ⟨?_, fun q hq => ?_, fun c i hc hi => ?_⟩
  · show H1.size = (eH E).size + (σ.1.1 + 1)
    omega
  · rw [o1 q (by omega)]
    exact hP.2.1 q hq
  · by_cases e : c = u ∧ i = σ.2.1 u
    · obtain ⟨rfl, rfl⟩ := e
      rw [adE_lo hc, hord, ← hs]
      exact hnew
    · have hi2 : i < σ.2.1 c := by
        have hi : i < inc σ.2.1 u c := hi
        unfold inc at hi
        by_cases q : c = u
        · rw [if_pos q] at hi
          have : i ≠ σ.2.1 u := fun z => e ⟨q, z⟩
          rw [← q] at this
          omega
        · rw [if_neg q] at hi
          exact hi
      have hold := hP.2.2 c i hc hi2
      have hcel : celE E (born_ σ u n) c i = celE E σ c i := celE_congr (funext fun k => if_neg e) (funext fun k => if_neg e)
      rw [hcel]
      exact hold.kept (o1 _ hold.lt)
theorem Ok.born {σ : AS} (h : Ok σ) {u n : Nat} (hlt : σ.2.1 u < cF u) : Ok (born σ u n) := by
  refine ⟨fun c hc => ?_, fun c i k hi => ?_, fun c i k => ?_⟩
  · show inc σ.2.1 u c ≤ cF c
    unfold inc
    split
    · rename_i q
      rw [q]
      omega
    · exact h.1 c hc
  · show okr (inc σ.2.1 u) (zrR σ.2.2.1 u (σ.2.1 u) c i k)
    unfold zrR
    split
    · exact okr_none _
    · rename_i q
      refine (h.2.1 c i k ?_).mono (inc_le _ _)
      have hi : i < inc σ.2.1 u c := hi
      unfold inc at hi
      by_cases q2 : c = u
      · rw [if_pos q2] at hi
        have : i ≠ σ.2.1 u := fun z => q ⟨q2, z⟩
        rw [← q2] at this
        omega
      · rw [if_neg q2] at hi
        exact hi
  · show (isLg c = true → InL (zr σ.2.2.2 u (σ.2.1 u) c i k)) ∧ (isLg c = false → InI (zr σ.2.2.2 u (σ.2.1 u) c i k))
    unfold zr
    split
    · exact ⟨fun _ => ⟨by decide, by decide⟩, fun _ => ⟨by decide, by decide⟩⟩
    · exact h.2.2 c i k
theorem Inv.born {s : State} {E : EnvT} {nL : Nat} {B : Nat × Nat} {cnt0 : Nat → Nat} {pc pc' : Nat} {ls st r : List AV} {σ : AS} {H H1 : Heap} {locs : List Loc} {lsC : Array Slot} {u n : Nat} (hI : Inv s E nL B cnt0 (pc, ls, st, σ) H locs lsC) (hR : roomE B σ u n) (hu : u < 100) (hr : ∀ v ∈ r, okv σ.2.1 v) (hbs : (eH E).size ≤ s.heap.size) (z : H1.size = H.size + 1) (o1 : ∀ q : Nat, q < H.size → H1[q]? = H[q]?) (hnew : va_at (eD E) cl (H.size, celE E (born_ σ u n) u (σ.2.1 u)) H1) :
    Inv s E nL B cnt0 (pc', ls, .inr (.inr (.inl (some (u, σ.2.1 u)))) :: r, born_ σ u n) H1 locs lsC := by
  obtain ⟨r1, r2, r3, r4⟩ := hR
  have hm := inc_le σ.2.1 u
  have hS := hI.2.2.2.2.2.2.1
  refine ⟨hI.1.born r3, fun v hv => (hI.2.1 v hv).mono hm, okc ?_ (fun v hv => (hr v hv).mono hm), fun c => Nat.le_trans (hI.2.2.2.1 c) (hm c), ⟨r1, r2⟩, hI.2.2.2.2.2.1.born hu r4 z o1 hnew, ⟨Nat.le_trans hS.1 (by omega), fun q h1 h2 => (o1 q (Nat.lt_of_lt_of_le h1 hS.1)).trans (hS.2.1 q h1 h2), hS.2.2⟩, hI.2.2.2.2.2.2.2⟩
  intro c i e
  cases e
  refine ⟨fun _ => ?_, fun z => absurd z (by omega)⟩
  show σ.2.1 u < inc σ.2.1 u u
  unfold inc
  rw [if_pos rfl]
  omega
theorem c_new {p : Program} {l : Launch} {e : Env} {R : Room} {s : State} {m : MethodId} {args : Array Value} {below : List Frame} {meth : Method} {c : Code} {Q : State → Prop} {E : EnvT} {own : String} {cc : ByteArray} {nL : Nat} {B : Nat × Nat} {cnt0 : Nat → Nat} (C0 : Cx p s m args meth c E own cc nL) {call : CallT} {post : Option AV → AS → Prop} {k : Cfg → Prop} {pc : Nat} {ls st : List AV} {σ : AS} {idx a : Nat} (ha : a < 12) (hl : Jvm.Cond.classLink own idx (Rn a) ∈ lw_tbl) (hRB : R.cells = B.1 ∧ R.slots = B.2) (hd : decode cc pc = .ok (.new idx, 3)) (hk : ∀ z, k z → PW p l e R s m args below meth c Q E nL B cnt0 z) (h : wE call post k (gx (roomE B σ a (nfl a)) (pc + 3) ls (.inr (.inr (.inl (some (a, σ.2.1 a)))) :: st) (born σ a (nfl a)))) : PW p l e R s m args below meth c Q E nL B cnt0 (pc, ls, st, σ) := by
  obtain ⟨hx, hb, hml, hown, hts, hlk, hKn, hbs⟩ := C0
  obtain ⟨hg, hz⟩ := h
  intro H locs lsC hI
  obtain ⟨k1, k2, k3, k4⟩ := cls_ok a ha
  obtain ⟨n1, n2⟩ := new_ok a ha
  have hKn1 := hKn.1.1 a _ k1
  have hsz : adE E a (σ.2.1 a) = H.size := by rw [adE_lo (by omega), hg.2.2.2]; exact hI.2.2.2.2.2.1.1.symm
  refine W.newcK (g := F0 m pc lsC _) hx hb hown (hts _ (tb_in hl rfl)) (hts _ (tb_in n1 rfl)) (hts _ (tb_in n2 rfl)) rfl hd (by rw [hRB.1]; exact hg.1) (by rw [hRB.2]; exact hg.2.1) hKn1.2.1 rfl (fun H1 kC hkC e1 z1 q1 => ?_)
  have hb1 := u_born (Yn a) hts k4 hKn1 hkC e1 k2
  have := hk _ hz H1 locs lsC (hI.born hg (by omega) hI.2.2.1 hbs z1 q1 ?_)
  · rw [← hsz]
    exact this
  · rw [celE_ob (by omega)]
    refine ⟨_, k1, hb1.to (fun k hk => ?_)⟩
    rw [vpV_at hk, def_ok a ha k hk]
    unfold fvE
    have e1 : (born σ a (nfl a)).2.2.1 a (σ.2.1 a) k = none := if_pos ⟨rfl, rfl⟩
    have e2 : (born σ a (nfl a)).2.2.2 a (σ.2.1 a) k = 0 := if_pos ⟨rfl, rfl⟩
    rw [e1, e2]
    rfl
theorem c_newarray {p : Program} {l : Launch} {e : Env} {R : Room} {s : State} {m : MethodId} {args : Array Value} {below : List Frame} {meth : Method} {c : Code} {Q : State → Prop} {E : EnvT} {own : String} {cc : ByteArray} {nL : Nat} {B : Nat × Nat} {cnt0 : Nat → Nat} (C0 : Cx p s m args meth c E own cc nL) {call : CallT} {post : Option AV → AS → Prop} {k : Cfg → Prop} {pc : Nat} {ls st : List AV} {σ : AS} {t : ArrayType} {a : Nat} (h20 : 20 ≤ a) (hu : a < 100) (hat : newarray.typeOf t = tyA (aty a)) (h3 : aty a ≤ 3) (hRB : R.cells = B.1 ∧ R.slots = B.2) (hd : decode cc pc = .ok (.newarray t, 2)) (hk : ∀ z, k z → PW p l e R s m args below meth c Q E nL B cnt0 z) (h : wE call post k (i1 σ st (fun x r => gx (x = ((slen a (σ.2.1 a) : Nat) : Int) ∧ roomE B σ a (slen a (σ.2.1 a))) (pc + 2) ls (.inr (.inr (.inl (some (a, σ.2.1 a)))) :: r) (born σ a (slen a (σ.2.1 a)))))) : PW p l e R s m args below meth c Q E nL B cnt0 (pc, ls, st, σ) := by
  obtain ⟨hx, hb, hml, hown, hts, hlk, hKn, hbs⟩ := C0
  intro H locs lsC hI
  obtain ⟨x, r, rfl, g⟩ := i1_inv h
  clear h
  obtain ⟨⟨ex, hg⟩, hz⟩ := g
  obtain ⟨ox, o3⟩ := ok1 hI.2.2.1
  have hle := slen_le a (σ.2.1 a)
  have hin : InI ((slen a (σ.2.1 a) : Nat) : Int) := by omega
  have hsz : adE E a (σ.2.1 a) = H.size := by rw [adE_lo hu, hg.2.2.2]; exact hI.2.2.2.2.2.1.1.symm
  have hN : (i32 x).toNatClampNeg = slen a (σ.2.1 a) := by
    rw [ex, ← Int32.toNat_toInt, i32_to hin]
    omega
  have hneg : ¬ i32 x < 0 := by
    rw [ex, Int32.lt_iff_toInt_lt, i32_to hin, Int32.toInt_zero]
    omega
  have hcb : ∀ t : Nat, t ≤ 3 → componentBytes (tyA t) ≤ 8 := by decide +kernel
  refine va_newaK (atype := t) (N := slen a (σ.2.1 a)) (g := F0 m pc lsC _) hx hb (by rw [hat]; exact hts _ (tb_in (arrC _ h3) rfl)) rfl hd rfl hneg hN (by rw [hat]; exact Nat.le_trans (Nat.mul_le_mul hle (hcb _ h3)) (by decide)) (by rw [hRB.1]; exact hg.1) (by rw [hRB.2]; exact hg.2.1) rfl (fun H1 cA e1 z1 q1 hAr hNm => ?_)
  have hcA : cA = ecA E (aty a) := by
    have hra := (hKn.1.2 (aty a) _ (tyk E _ (aty_le a hu))).2
    rw [hat] at hNm
    have key : ∀ t : Nat, t ≤ 3 → va_RA s (ecA E t) (tyA t) → s.vm.findClass ("[" ++ (tyA t).toString) = some (ecA E t) := by
      intro t ht h
      rcases (by omega : t = 0 ∨ t = 1 ∨ t = 2 ∨ t = 3) with rfl | rfl | rfl | rfl <;> exact h
    exact Option.some.inj (hNm.symm.trans (key _ h3 hra))
  have := hk _ hz H1 locs lsC (hI.born hg hu o3 hbs z1 q1 ?_)
  · rw [← hsz]
    exact this
  · rw [celE_ar h20]
    show H1[H.size]? = some (vp_cell _ _)
    rw [e1, hcA, hat]
    have e2 : ∀ k, (born σ a (slen a (σ.2.1 a))).2.2.2 a (σ.2.1 a) k = 0 := fun k => if_pos ⟨rfl, rfl⟩
    by_cases q3 : aty a = 3
    · rw [pay_l q3, vp_cell_l, q3]
      simp only [e2]
      rfl
    · rw [pay_i (by omega), vp_cell_i]
      simp only [e2]
      have key : ∀ t : Nat, t ≤ 2 → defaultValue (tyA t) = .int (i32 0) := by
        intro t ht
        rcases (by omega : t = 0 ∨ t = 1 ∨ t = 2) with rfl | rfl | rfl <;> rfl
      rw [key _ (by omega)]
theorem c_anewarray {p : Program} {l : Launch} {e : Env} {R : Room} {s : State} {m : MethodId} {args : Array Value} {below : List Frame} {meth : Method} {c : Code} {Q : State → Prop} {E : EnvT} {own : String} {cc : ByteArray} {nL : Nat} {B : Nat × Nat} {cnt0 : Nat → Nat} (C0 : Cx p s m args meth c E own cc nL) {call : CallT} {post : Option AV → AS → Prop} {k : Cfg → Prop} {pc : Nat} {ls st : List AV} {σ : AS} {idx a : Nat} (h20 : 20 ≤ a) (hu : a < 100) (h45 : (aty a = 4 ∧ Jvm.Cond.classLink own idx "EchoValley$Wall" ∈ lw_tbl) ∨ (aty a = 5 ∧ Jvm.Cond.classLink own idx "EchoValley$Slot" ∈ lw_tbl)) (hRB : R.cells = B.1 ∧ R.slots = B.2) (hd : decode cc pc = .ok (.anewarray idx, 3)) (hk : ∀ z, k z → PW p l e R s m args below meth c Q E nL B cnt0 z) (h : wE call post k (i1 σ st (fun x r => gx (x = ((slen a (σ.2.1 a) : Nat) : Int) ∧ roomE B σ a (slen a (σ.2.1 a))) (pc + 3) ls (.inr (.inr (.inl (some (a, σ.2.1 a)))) :: r) (born σ a (slen a (σ.2.1 a)))))) : PW p l e R s m args below meth c Q E nL B cnt0 (pc, ls, st, σ) := by
  obtain ⟨hx, hb, hml, hown, hts, hlk, hKn, hbs⟩ := C0
  intro H locs lsC hI
  obtain ⟨x, r, rfl, g⟩ := i1_inv h
  clear h
  obtain ⟨⟨ex, hg⟩, hz⟩ := g
  obtain ⟨ox, o3⟩ := ok1 hI.2.2.1
  have hle := slen_le a (σ.2.1 a)
  have hin : InI ((slen a (σ.2.1 a) : Nat) : Int) := by omega
  have hsz : adE E a (σ.2.1 a) = H.size := by rw [adE_lo hu, hg.2.2.2]; exact hI.2.2.2.2.2.1.1.symm
  have hN : (i32 x).toNatClampNeg = slen a (σ.2.1 a) := by
    rw [ex, ← Int32.toNat_toInt, i32_to hin]
    omega
  have hneg : ¬ i32 x < 0 := by
    rw [ex, Int32.lt_iff_toInt_lt, i32_to hin, Int32.toInt_zero]
    omega
  have go : ∀ (C : String) (t : Nat), aty a = t → 4 ≤ t → tyA t = .object C → Jvm.Cond.classLink own idx C ∈ lw_tbl → Jvm.Cond.arrayOver (.object C) ∈ lw_tbl → W p l e R s m args below meth c H locs σ.1.2.1 σ.1.2.2 Q (F0 m pc lsC (((.inl x : AV) :: r).map (cv E))) := by
    intro C t hat h4 hty hl hov
    refine W.anew (g := F0 m pc lsC _) hx hb hown (hts _ (tb_in hl rfl)) (va_AO.use (hKn.2.1 _ hov rfl)) rfl hd rfl hneg (by rw [hN]; omega) (by rw [hRB.1]; exact hg.1) (by rw [hRB.2, hN]; exact hg.2.1) (fun cA kA comp f1 f2 f3 f4 => ?_)
    rw [hN]
    have hcA : cA = ecA E (aty a) := by
      have hra := (hKn.1.2 (aty a) _ (tyk E _ (aty_le a hu))).2
      rw [hat] at hra ⊢
      have hra : va_RA s (ecA E t) (tyA t) := hra
      rw [hty] at hra
      obtain ⟨_, _, _, _, _, q4⟩ := hra
      exact Option.some.inj (f1.symm.trans q4)
    generalize hH1 : H.push ({ cls := cA, slots := Array.replicate (slen a (σ.2.1 a)) .null, vm := .none } : Cell) = H1
    have z1 : H1.size = H.size + 1 := by rw [← hH1, Array.size_push]
    have e1 : H1[H.size]? = some (arrV cA (slen a (σ.2.1 a)) (fun _ => .null)) := by rw [← hH1, Array.getElem?_push_size, ← arrV_new]
    have q1 : ∀ q : Nat, q < H.size → H1[q]? = H[q]? := fun q hq => by rw [← hH1, Array.getElem?_push, if_neg (Nat.ne_of_lt hq)]
    have := hk _ hz H1 locs lsC (hI.born hg hu o3 hbs z1 q1 ?_)
    · rw [← hsz]
      exact this
    · rw [celE_ar h20]
      show H1[H.size]? = some (vp_cell _ _)
      rw [e1, hcA, pay_q (by omega), vp_cell_q]
      have e2 : ∀ k, (born σ a (slen a (σ.2.1 a))).2.2.1 a (σ.2.1 a) k = none := fun k => if_pos ⟨rfl, rfl⟩
      simp only [e2]
      rfl
  rcases h45 with ⟨q1, q2⟩ | ⟨q1, q2⟩
  · exact go "EchoValley$Wall" 4 q1 (Nat.le_refl _) rfl q2 arrW
  · exact go "EchoValley$Slot" 5 q1 (by omega) rfl q2 arrS
