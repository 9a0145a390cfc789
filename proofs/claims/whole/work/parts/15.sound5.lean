/-! SOUNDNESS, 5: arrays, statics -/
theorem aty_le : ∀ c, c < 100 → aty c ≤ 5 := by decide +kernel
theorem aty_20 : ∀ c, c < 100 → aty c ≠ 0 → 20 ≤ c := by decide +kernel
theorem aty_lg : ∀ c, c < 100 → 20 ≤ c → (isLg c = true ↔ aty c = 3) := by decide +kernel
theorem tyk (E : EnvT) : ∀ t, t ≤ 5 → (tysE E)[t]? = some (ecA E t, tyA t)
  | 0, _ => rfl
  | 1, _ => rfl
  | 2, _ => rfl
  | 3, _ => rfl
  | 4, _ => rfl
  | 5, _ => rfl
  | n + 6, h => absurd h (by omega)
theorem getD_map0 {α β : Type} (f : α → β) (l : List α) (n : Nat) (d : α) : (l.map f).getD n (f d) = f (l.getD n d) := by
  rw [List.getD_eq_getElem?_getD, List.getD_eq_getElem?_getD, List.getElem?_map]
  cases l[n]? <;> rfl
theorem ro_101 {E : EnvT} {s : State} (h : Kn E s) {i : Nat} (hi : i < 10) : va_T .byte (eR E 101 i) (rlen 101 i) (fun j => .int (i32 (rom 101 i j))) (aE E) s (eH E) := by
  have h1 := (h.2.2.1.1 i hi).2.2.2
  have e1 : (strT.map List.length).getD i 0 = rlen 101 i := getD_map0 List.length strT i []
  have e2 : ∀ j, ((strT.map (List.map i32)).getD i []).getD j 0 = i32 (rom 101 i j) := fun j => by
    have e3 : (strT.map (List.map i32)).getD i [] = (strT.getD i []).map i32 := getD_map0 (List.map i32) strT i []
    rw [e3]
    exact getD_map0 i32 _ j 0
  rw [e1] at h1
  simp only [e2] at h1
  exact h1
theorem nble_f {a b : Nat} (h : b < a) : Nat.ble a b = false := by
  cases q : Nat.ble a b with
  | false => rfl
  | true => exact absurd (Nat.le_of_ble_eq_true q) (by omega)
theorem nble_t {a b : Nat} (h : a ≤ b) : Nat.ble a b = true := Nat.ble_eq_true_of_le h
/-- an array that can be read: own or given -/
theorem arr_rd {s : State} {E : EnvT} {σ : AS} {H : Heap} (hKn : Kn E s) (hP : Pic E σ H) {u i : Nat} (h20 : 20 ≤ u) (hv : (u < 100 → i < σ.2.1 u) ∧ (100 ≤ u → roV u i)) (ht : atc u ≤ 2) :
    ∃ cell : Cell, H[adE E u i]? = some cell ∧ s.isArrayOf cell (tyA (atc u)) ∧ cell.vm ≠ .unknown ∧ alen (esc E) u i ≤ cell.slots.size ∧ cell.slots.size.toInt32 = Int32.ofNat (alen (esc E) u i) ∧ ∀ j, j < alen (esc E) u i → cell.slots[j]? = some (.int (i32 (ard (esc E) σ u i j))) := by
  have fromT : ∀ {ty : FieldType} {N : Nat} {f : Nat → Value}, va_T ty (adE E u i) N f (aE E) s (eH E) → ∃ cell : Cell, H[adE E u i]? = some cell ∧ s.isArrayOf cell ty ∧ cell.vm ≠ .unknown ∧ N ≤ cell.slots.size ∧ cell.slots.size.toInt32 = Int32.ofNat N ∧ ∀ j, j < N → cell.slots[j]? = some (f j) := by
    intro ty N f hT
    obtain ⟨cell, h1, h2, h3, h4, h5, h6, h7⟩ := hT
    exact ⟨cell, by rw [hP.2.1 _ (Nat.not_le.mp h7)]; exact h1, h2, h3, h4, h5, h6⟩
  by_cases hu : u < 100
  · have e1 : atc u = aty u := by unfold atc; rw [nble_f hu]
    have e2 : alen (esc E) u i = slen u i := by unfold alen; rw [nble_f hu]
    have e3 : ∀ j, ard (esc E) σ u i j = σ.2.2.2 u i j := fun j => by unfold ard; rw [nble_f hu]
    rw [e1] at ht ⊢
    rw [e2]
    have hc := hP.2.2 u i hu (hv.1 hu)
    rw [celE_ar h20] at hc
    have hc : H[adE E u i]? = some (vp_cell (ecA E (aty u)) (slen u i, payE E σ u i)) := hc
    have hp : payE E σ u i = .inl (fun j => i32 (σ.2.2.2 u i j)) := by unfold payE; rw [if_neg (by omega), if_neg (by omega)]
    rw [hp, vp_cell_i] at hc
    refine ⟨_, hc, (hKn.1.2 (aty u) _ (tyk E _ (aty_le u hu))).1 _ _, (fun q => by cases q), by rw [arrV_size]; exact Nat.le_refl _, by rw [arrV_size] <;> rfl, fun j hj => ?_⟩
    rw [arrV_read _ _ hj, e3]
  · have hu' : 100 ≤ u := by omega
    have hro := hv.2 hu'
    have e1 : adE E u i = eR E u i := adE_hi hu'
    rcases hro with ⟨rfl, hi⟩ | ⟨rfl, hi⟩ | ⟨rfl, hi⟩ | ⟨rfl, hi⟩ | ⟨rfl, hi⟩
    · exact absurd ht (by decide)
    · have hT := ro_101 hKn hi
      rw [← e1] at hT
      exact fromT hT
    · have hT := (hKn.2.2.2.2.2.2.1 i hi).2
      rw [← e1] at hT
      exact fromT hT
    · subst hi
      have hT := hKn.2.2.2.2.2.2.2
      rw [← e1] at hT
      exact fromT hT
    · exact absurd ht (by decide)
theorem sz_in {n : Nat} {cell : Cell} {j : Int} (h1 : n ≤ cell.slots.size) (h0 : InI j) (h : 0 ≤ j ∧ j < (n : Int)) : ¬ (i32 j < 0 ∨ cell.slots.size ≤ (i32 j).toNatClampNeg) ∧ (i32 j).toNatClampNeg = j.toNat ∧ j.toNat < n := by
  obtain ⟨q1, q2⟩ := i32_clamp h0 h
  refine ⟨fun q => ?_, q2, by omega⟩
  rcases q with q | q
  · exact q1 (Or.inl q)
  · rw [q2] at q
    omega
theorem ard_in {E : EnvT} {s : State} {σ : AS} (hO : Ok σ) (hS : ∀ j, InI ((esc E).1.2 j)) {u i : Nat} (h20 : 20 ≤ u) (ht : atc u ≤ 2) (j : Nat) : InI (ard (esc E) σ u i j) := by
  unfold ard
  by_cases hu : u < 100
  · rw [nble_f hu]
    have e1 : atc u = aty u := by unfold atc; rw [nble_f hu]
    refine (hO.2.2 u i j).2 ?_
    cases q : isLg u with
    | false => rfl
    | true => have := (aty_lg u hu h20).mp q; omega
  · rw [nble_t (by omega)]
    show InI (match Nat.beq u 103 with | true => (esc E).1.2 j | false => rom u i j)
    cases Nat.beq u 103 with
    | true => exact hS j
    | false =>
      show InI (rom u i j)
      unfold rom romT
      have all : ∀ (L : List (List Int)), L.all (fun l => l.all (fun x => decide (InI x))) = true → InI ((L.getD i []).getD j 0) := by
        intro L hL
        rw [List.getD_eq_getElem?_getD, List.getD_eq_getElem?_getD]
        cases h1 : L[i]? with
        | none => rw [show ((none : Option (List Int)).getD [])[j]? = none from List.getElem?_nil]; exact ⟨by decide, by decide⟩
        | some l =>
          show InI (l[j]?.getD 0)
          cases h2 : l[j]? with
          | none => exact ⟨by decide, by decide⟩
          | some x => exact of_decide_eq_true (List.all_eq_true.mp (List.all_eq_true.mp hL l (List.mem_of_getElem? h1)) x (List.mem_of_getElem? h2))
      cases Nat.beq u 101 with
      | true => exact all strT (by decide +kernel)
      | false => exact all staT (by decide +kernel)
theorem c_iaload {p : Program} {l : Launch} {e : Env} {R : Room} {s : State} {m : MethodId} {args : Array Value} {below : List Frame} {meth : Method} {c : Code} {Q : State → Prop} {E : EnvT} {own : String} {cc : ByteArray} {nL : Nat} {B : Nat × Nat} {cnt0 : Nat → Nat} (C0 : Cx p s m args meth c E own cc nL) {call : CallT} {post : Option AV → AS → Prop} {k : Cfg → Prop} {pc : Nat} {ls st : List AV} {σ : AS} (hS : ∀ j, InI ((esc E).1.2 j)) (hd : decode cc pc = .ok (.iaload, 1)) (hk : ∀ z, k z → PW p l e R s m args below meth c Q E nL B cnt0 z) (h : wE call post k (i1 σ st (fun j st1 => o1 σ st1 (fun c i r => when σ (Nat.ble 20 c && Nat.beq (atc c) 0) (gx (0 ≤ j ∧ j < ((alen (esc E) c i : Nat) : Int)) (pc + 1) ls (.inl (ard (esc E) σ c i j.toNat) :: r) σ))))) : PW p l e R s m args below meth c Q E nL B cnt0 (pc, ls, st, σ) := by
  obtain ⟨hx, hb, hml, hown, hts, hlk, hKn, hbs⟩ := C0
  intro H locs lsC hI
  obtain ⟨j, st1, rfl, g1⟩ := i1_inv h
  obtain ⟨u, i, r, rfl, g2⟩ := o1_inv g1
  obtain ⟨hq, g3⟩ := when_inv g2
  clear h g1 g2
  obtain ⟨oj, o2⟩ := ok1 hI.2.2.1
  obtain ⟨ox, o3⟩ := ok1 o2
  have oj : InI j := oj
  obtain ⟨hg, hz⟩ := g3
  have h20 : 20 ≤ u := Nat.le_of_ble_eq_true (by cases q : Nat.ble 20 u with | true => rfl | false => rw [q] at hq; cases hq)
  have ht : atc u = 0 := beq_t (by cases q : Nat.beq (atc u) 0 with | true => rfl | false => rw [q, Bool.and_false] at hq; cases hq)
  have hz := hk _ hz H locs lsC (hI.st (okc (show okv σ.2.1 (.inl (ard (esc E) σ u i j.toNat)) from ard_in (s := s) hI.1 hS h20 (by omega) j.toNat) o3))
  obtain ⟨cell, a1, a2, a3, a4, a5, a6⟩ := arr_rd hKn hI.2.2.2.2.2.1 h20 (ox u i rfl) (by omega)
  obtain ⟨b1, b2, b3⟩ := sz_in a4 oj hg
  rw [ht] at a2
  exact W.iald (g := F0 m pc lsC _) hx hb a1 a2 a3 b1 (by rw [b2]; exact a6 _ b3) rfl rfl hd hz
theorem c_baload {p : Program} {l : Launch} {e : Env} {R : Room} {s : State} {m : MethodId} {args : Array Value} {below : List Frame} {meth : Method} {c : Code} {Q : State → Prop} {E : EnvT} {own : String} {cc : ByteArray} {nL : Nat} {B : Nat × Nat} {cnt0 : Nat → Nat} (C0 : Cx p s m args meth c E own cc nL) {call : CallT} {post : Option AV → AS → Prop} {k : Cfg → Prop} {pc : Nat} {ls st : List AV} {σ : AS} (hS : ∀ j, InI ((esc E).1.2 j)) (hd : decode cc pc = .ok (.baload, 1)) (hk : ∀ z, k z → PW p l e R s m args below meth c Q E nL B cnt0 z) (h : wE call post k (i1 σ st (fun j st1 => o1 σ st1 (fun c i r => when σ (Nat.beq (atc c) 1 || Nat.beq (atc c) 2) (gx (0 ≤ j ∧ j < ((alen (esc E) c i : Nat) : Int)) (pc + 1) ls (.inl (ard (esc E) σ c i j.toNat) :: r) σ))))) : PW p l e R s m args below meth c Q E nL B cnt0 (pc, ls, st, σ) := by
  obtain ⟨hx, hb, hml, hown, hts, hlk, hKn, hbs⟩ := C0
  intro H locs lsC hI
  obtain ⟨j, st1, rfl, g1⟩ := i1_inv h
  obtain ⟨u, i, r, rfl, g2⟩ := o1_inv g1
  obtain ⟨hq, g3⟩ := when_inv g2
  clear h g1 g2
  obtain ⟨oj, o2⟩ := ok1 hI.2.2.1
  obtain ⟨ox, o3⟩ := ok1 o2
  have oj : InI j := oj
  obtain ⟨hg, hz⟩ := g3
  have ht : atc u = 1 ∨ atc u = 2 := by
    cases q : Nat.beq (atc u) 1 with
    | true => exact Or.inl (beq_t q)
    | false => rw [q, Bool.false_or] at hq; exact Or.inr (beq_t hq)
  have h20 : 20 ≤ u := by
    by_cases hu : u < 100
    · have e1 : atc u = aty u := by unfold atc; rw [nble_f hu]
      exact aty_20 u hu (by omega)
    · omega
  have hz := hk _ hz H locs lsC (hI.st (okc (show okv σ.2.1 (.inl (ard (esc E) σ u i j.toNat)) from ard_in (s := s) hI.1 hS h20 (by omega) j.toNat) o3))
  obtain ⟨cell, a1, a2, a3, a4, a5, a6⟩ := arr_rd hKn hI.2.2.2.2.2.1 h20 (ox u i rfl) (by omega)
  obtain ⟨b1, b2, b3⟩ := sz_in a4 oj hg
  rcases ht with ht | ht
  · rw [ht] at a2
    exact W.zald (g := F0 m pc lsC _) hx hb a1 a2 a3 b1 (by rw [b2]; exact a6 _ b3) rfl rfl hd hz
  · rw [ht] at a2
    exact W.bald (g := F0 m pc lsC _) hx hb a1 a2 a3 b1 (by rw [b2]; exact a6 _ b3) rfl rfl hd hz
theorem c_arraylength {p : Program} {l : Launch} {e : Env} {R : Room} {s : State} {m : MethodId} {args : Array Value} {below : List Frame} {meth : Method} {c : Code} {Q : State → Prop} {E : EnvT} {own : String} {cc : ByteArray} {nL : Nat} {B : Nat × Nat} {cnt0 : Nat → Nat} (C0 : Cx p s m args meth c E own cc nL) {call : CallT} {post : Option AV → AS → Prop} {k : Cfg → Prop} {pc : Nat} {ls st : List AV} {σ : AS} (hS : ∀ j, InI ((esc E).1.2 j)) (hL : (esc E).1.1 < 2147483648) (hd : decode cc pc = .ok (.arraylength, 1)) (hk : ∀ z, k z → PW p l e R s m args below meth c Q E nL B cnt0 z) (h : wE call post k (o1 σ st (fun c i r => when σ (Nat.ble 20 c && (Nat.blt c 100 || (Nat.beq c 101 || (Nat.beq c 102 || Nat.beq c 103)))) (nx (pc + 1) ls (.inl ((alen (esc E) c i : Nat) : Int) :: r) σ)))) : PW p l e R s m args below meth c Q E nL B cnt0 (pc, ls, st, σ) := by
  obtain ⟨hx, hb, hml, hown, hts, hlk, hKn, hbs⟩ := C0
  intro H locs lsC hI
  obtain ⟨u, i, r, rfl, g2⟩ := o1_inv h
  obtain ⟨hq, g3⟩ := when_inv g2
  clear h g2
  obtain ⟨ox, o3⟩ := ok1 hI.2.2.1
  simp only [Bool.and_eq_true, Bool.or_eq_true] at hq
  have h20 : 20 ≤ u := Nat.le_of_ble_eq_true hq.1
  have bnd : alen (esc E) u i < 2147483648 := by
    unfold alen
    cases Nat.ble 100 u with
    | false =>
      show slen u i < _
      unfold slen
      have all : ∀ (L : List (List Nat)), L.all (fun l => l.all (fun x => decide (x < 2147483648))) = true → ((L.getD (u - 20) []).getD i 0) < 2147483648 := by
        intro L hL
        rw [List.getD_eq_getElem?_getD, List.getD_eq_getElem?_getD]
        cases h1 : L[u - 20]? with
        | none => rw [show ((none : Option (List Nat)).getD [])[i]? = none from List.getElem?_nil]; decide
        | some l =>
          show l[i]?.getD 0 < _
          cases h2 : l[i]? with
          | none => decide
          | some x => exact of_decide_eq_true (List.all_eq_true.mp (List.all_eq_true.mp hL l (List.mem_of_getElem? h1)) x (List.mem_of_getElem? h2))
      exact all lenT (by decide +kernel)
    | true =>
      show (match Nat.beq u 103 with | true => (esc E).1.1 | false => rlen u i) < _
      cases Nat.beq u 103 with
      | true => exact hL
      | false =>
        show rlen u i < _
        unfold rlen romT
        have all : ∀ (L : List (List Int)), L.all (fun l => decide (l.length < 2147483648)) = true → (L.getD i []).length < 2147483648 := by
          intro L hL
          rw [List.getD_eq_getElem?_getD]
          cases h1 : L[i]? with
          | none => decide
          | some l => exact of_decide_eq_true (List.all_eq_true.mp hL l (List.mem_of_getElem? h1))
        cases Nat.beq u 101 with
        | true => exact all strT (by decide +kernel)
        | false => exact all staT (by decide +kernel)
  have hz := hk _ g3 H locs lsC (hI.st (okc (show InI ((alen (esc E) u i : Nat) : Int) by omega) o3))
  have ei : i32 ((alen (esc E) u i : Nat) : Int) = Int32.ofNat (alen (esc E) u i) := rfl
  have own_ : u < 100 → W p l e R s m args below meth c H locs σ.1.2.1 σ.1.2.2 Q (F0 m pc lsC (((.inr (.inr (.inl (some (u, i)))) : AV) :: r).map (cv E))) := by
    intro hu
    have e2 : alen (esc E) u i = slen u i := by unfold alen; rw [nble_f hu]
    have hc := hI.2.2.2.2.2.1.2.2 u i hu ((ox u i rfl).1 hu)
    rw [celE_ar h20] at hc
    have hP1 : va_P (eD E) cl [(adE E u i, .inl (ecA E (aty u), slen u i, payE E σ u i))] H := fun k q hk => by
      have hz : k < 1 := (List.getElem?_eq_some_iff.mp hk).1
      rw [show k = 0 by omega] at hk
      cases hk
      exact hc
    refine va_alen (ls := lsC) hx hb hKn.1 hP1 0 (aty u) rfl (tyk E _ (aty_le u hu)) (v := i32 ((alen (esc E) u i : Nat) : Int)) (by rw [ei, e2]) hd hz
  by_cases hu : u < 100
  · exact own_ hu
  · have ht : atc u ≤ 2 := by
      have hq2 := hq.2
      rcases hq2 with q | q | q | q
      · exact absurd (Nat.le_of_ble_eq_true q) (by omega)
      · rw [beq_t q]; decide
      · rw [beq_t q]; decide
      · rw [beq_t q]; decide
    obtain ⟨cell, a1, a2, a3, a4, a5, a6⟩ := arr_rd hKn hI.2.2.2.2.2.1 h20 (ox u i rfl) ht
    exact W.alen (n := i32 ((alen (esc E) u i : Nat) : Int)) (g := F0 m pc lsC _) hx hb a1 a2 (by rw [a5, ei]) rfl rfl hd hz
