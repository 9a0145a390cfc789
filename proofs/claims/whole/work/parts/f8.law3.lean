/-! THE LAW, 3: what stands at its entry -/
abbrev lwFl : List Jvm.Cond := flatC (Jvm.Cond.and given_1 narrow_1)
abbrev tmS (i : Nat) : Jvm.Term := Jvm.Term.string "EchoValley$Reader" (idxS i)
abbrev tmT (k : Nat) : Jvm.Term := Jvm.Term.static "EchoValley$Reader" (nmS k) "[I"
abbrev lenS : List Nat := strT.map List.length
abbrev bytS : List (List Int32) := strT.map (List.map i32)
theorem fl_ex : ∀ i, i < 10 → Cond.exactly (tmS i) "java/lang/String" ∈ lwFl := by decide +kernel
theorem fl_co : ∀ i, i < 10 → Cond.eq (.field (tmS i) "java/lang/String" "coder" "B") (.int 0) ∈ lwFl := by decide +kernel
theorem fl_ar : ∀ i, i < 10 → Cond.arrayOf (.field (tmS i) "java/lang/String" "value" "[B") .byte ∈ lwFl := by decide +kernel
theorem fl_le : ∀ i, i < 10 → Cond.eq (.length (.field (tmS i) "java/lang/String" "value" "[B")) (.int (Int32.ofNat (lenS.getD i 0))) ∈ lwFl := by decide +kernel
theorem fl_el : ∀ i, i < 10 → ∀ j, j < lenS.getD i 0 → Cond.eq (.elem (.field (tmS i) "java/lang/String" "value" "[B") (.int (Int32.ofNat j))) (.int ((bytS.getD i []).getD j 0)) ∈ lwFl := by decide +kernel
theorem fl_ne : ∀ i, i < 10 → ∀ j, j < 10 → i < j → Cond.not (Cond.eq (tmS i) (tmS j)) ∈ lwFl := by decide +kernel
theorem fl_ta : ∀ k, k < 4 → Cond.arrayOf (tmT k) .int ∈ lwFl := by decide +kernel
theorem fl_tl : ∀ k, k < 4 → Cond.eq (.length (tmT k)) (.int (Int32.ofNat (rlen 102 k))) ∈ lwFl := by decide +kernel
theorem fl_te : ∀ k, k < 4 → ∀ j, j < rlen 102 k → Cond.eq (.elem (tmT k) (.int (Int32.ofNat j))) (.int (i32 (rom 102 k j))) ∈ lwFl := by decide +kernel
theorem fl_cs : Cond.eq (.static "java/lang/String" "COMPACT_STRINGS" "Z") (.int 1) ∈ lwFl := by decide +kernel
theorem fl_si : Cond.isRef (.static "jdk/internal/util/Preconditions" "SIOOBE_FORMATTER" "Ljava/util/function/BiFunction;") ∈ lwFl := by decide +kernel
theorem str_in : ∀ k, k < 10 → Cond.stringRef "EchoValley$Reader" (idxS k) (txS k) ∈ lw_tbl
  | 0, _ => List.mem_of_getElem? (i := 554) (by decide +kernel)
  | 1, _ => List.mem_of_getElem? (i := 607) (by decide +kernel)
  | 2, _ => List.mem_of_getElem? (i := 608) (by decide +kernel)
  | 3, _ => List.mem_of_getElem? (i := 609) (by decide +kernel)
  | 4, _ => List.mem_of_getElem? (i := 610) (by decide +kernel)
  | 5, _ => List.mem_of_getElem? (i := 611) (by decide +kernel)
  | 6, _ => List.mem_of_getElem? (i := 612) (by decide +kernel)
  | 7, _ => List.mem_of_getElem? (i := 613) (by decide +kernel)
  | 8, _ => List.mem_of_getElem? (i := 614) (by decide +kernel)
  | 9, _ => List.mem_of_getElem? (i := 615) (by decide +kernel)
  | n + 10, h => absurd h (by omega)
theorem tab_in : ∀ k, k < 4 → Cond.laysStatic "EchoValley$Reader" (nmS k) "[I" ∈ lw_tbl
  | 0, _ => List.mem_of_getElem? (i := 628) (by decide +kernel)
  | 1, _ => List.mem_of_getElem? (i := 638) (by decide +kernel)
  | 2, _ => List.mem_of_getElem? (i := 660) (by decide +kernel)
  | 3, _ => List.mem_of_getElem? (i := 662) (by decide +kernel)
  | n + 4, h => absurd h (by omega)
theorem w_csl : Cond.laysStatic "java/lang/String" "COMPACT_STRINGS" "Z" ∈ lw_tbl := List.mem_of_getElem? (i := 568) (by decide +kernel)
theorem w_csi : Cond.initialized "java/lang/String" ∈ lw_tbl := List.mem_of_getElem? (i := 150) (by decide +kernel)
theorem w_sil : Cond.laysStatic "jdk/internal/util/Preconditions" "SIOOBE_FORMATTER" "Ljava/util/function/BiFunction;" ∈ lw_tbl := List.mem_of_getElem? (i := 584) (by decide +kernel)
theorem w_sii : Cond.initialized "jdk/internal/util/Preconditions" ∈ lw_tbl := List.mem_of_getElem? (i := 152) (by decide +kernel)
theorem w_rdi : Cond.initialized "EchoValley$Reader" ∈ lw_tbl := List.mem_of_getElem? (i := 139) (by decide +kernel)
theorem nest_ok {s : State} {A : Array Value} (hts : ∀ w ∈ lw_tbl, w.before A s = true) : ∀ w ∈ lw_tbl, isNest w = true → va_Nw w s := by
  intro w hw hn
  have h := hts w hw
  cases w
  case arrayOver ty =>
    cases ty
    case object C => exact va_AO.of h
    all_goals (simp [isNest] at hn)
  all_goals first | exact va_Nw.of rfl h | (simp [isNest] at hn)
theorem cls_K {s : State} {A : Array Value} (hts : ∀ w ∈ lw_tbl, w.before A s = true) : ∃ (dC : Nat → ClassId) (dI : Nat → Nat → Nat), ∀ (c : Nat) (q : vw_C), cl[c]? = some q → u_Kn s q.1 q.2.1 q.2.2 (dC c) (dI c) := by
  have h0 : ∀ c : Nat, ∃ x : ClassId × (Nat → Nat), ∀ q : vw_C, cl[c]? = some q → u_Kn s q.1 q.2.1 q.2.2 x.1 x.2 := by
    intro c
    by_cases hc : c < 12
    · obtain ⟨k1, k2, k3, k4⟩ := cls_ok c hc
      obtain ⟨cC, iS, h⟩ := u_known (ws := TB) (C := Rn c) (T := Tn c) (N := nfl c) (fun w hw => hts w (List.mem_filter.mp hw).1) k4 (hts _ (new_ok c hc).1)
      refine ⟨(cC, iS), fun q hq => ?_⟩
      cases k1.symm.trans hq
      exact h
    · refine ⟨(Classical.choice (by
        obtain ⟨cC, iS, h⟩ := u_known (ws := TB) (C := Rn 0) (T := Tn 0) (N := nfl 0) (fun w hw => hts w (List.mem_filter.mp hw).1) (cls_ok 0 (by decide)).2.2.2 (hts _ (new_ok 0 (by decide)).1)
        exact ⟨cC⟩), fun _ => 0), fun q hq => ?_⟩
      rw [List.getElem?_eq_none (by show 12 ≤ c; omega)] at hq
      cases hq
  obtain ⟨f, hf⟩ := Classical.axiomOfChoice h0
  exact ⟨fun c => (f c).1, fun c => (f c).2, fun c q hq => hf c q hq⟩
theorem arr_K {s : State} {A : Array Value} (hts : ∀ w ∈ lw_tbl, w.before A s = true) : ∃ ea : Nat → ClassId, ∀ t, t ≤ 5 → ArrOfT s (ea t) (tyA t) ∧ va_RA s (ea t) (tyA t) := by
  have prim : ∀ t, t ≤ 3 → ∃ cA, ArrOfT s cA (tyA t) ∧ va_RA s cA (tyA t) := by
    intro t ht
    obtain ⟨cA, kA, comp, h1, h2, h3⟩ := Cond.arrayClass_spec (hts _ (arrC t ht))
    refine ⟨cA, fun n z => ⟨(fun k h => by cases h), kA, h2, comp, h3⟩, ?_⟩
    rcases (by omega : t = 0 ∨ t = 1 ∨ t = 2 ∨ t = 3) with rfl | rfl | rfl | rfl <;> exact h1
  have obj : ∀ C : String, Jvm.Cond.arrayOver (.object C) ∈ lw_tbl → ∃ cA, ArrOfT s cA (.object C) ∧ va_RA s cA (.object C) := by
    intro C hC
    obtain ⟨comp, cA, kA, h1, h2, h3, h4, h5⟩ := Cond.arrayOver_spec (hts _ hC)
    exact ⟨cA, fun n z => ⟨(fun k h => by cases h), kA, h3, comp, h4⟩, kA, comp, h3, h4, h1, h5⟩
  have h0 : ∀ t : Nat, ∃ cA : ClassId, t ≤ 5 → ArrOfT s cA (tyA t) ∧ va_RA s cA (tyA t) := by
    intro t
    by_cases h3 : t ≤ 3
    · obtain ⟨cA, h⟩ := prim t h3
      exact ⟨cA, fun _ => h⟩
    · by_cases h4 : t = 4
      · subst h4
        obtain ⟨cA, h⟩ := obj _ arrW
        exact ⟨cA, fun _ => h⟩
      · obtain ⟨cA, h⟩ := obj _ arrS
        refine ⟨cA, fun h5 => ?_⟩
        have : t = 5 := by omega
        subst this
        exact h
  obtain ⟨f, hf⟩ := Classical.axiomOfChoice h0
  exact ⟨f, hf⟩
theorem lw_env {s : State} {b L : Nat} {xs : Nat → Int32} (hL : L ≤ 4096) (hts : ∀ w ∈ lw_tbl, w.before #[Value.ref b] s = true) (hX : va_X b L xs s s.heap) (hbl : b < s.heap.size) (hgv : (Jvm.Cond.and given_1 narrow_1).before #[Value.ref b] s = true) : ∃ E : EnvT, Kn E s ∧ eH E = s.heap ∧ (esc E).1 = (L, fun j => (xs j).toInt) ∧ ((esc E).2 = none ∨ (esc E).2 = some (105, 0)) ∧ eR E 103 0 = b := by
  have hg : ∀ w ∈ lwFl, w.before #[Value.ref b] s = true := flat_of_before _ hgv
  obtain ⟨dC, dI, hK⟩ := cls_K hts
  obtain ⟨ea, hA⟩ := arr_K hts
  have hh : ∀ a : Nat, a < s.heap.size → ¬ (fun q : Nat => s.heap.size ≤ q) a := fun a h => Nat.not_le.mpr h
  obtain ⟨adK, adV, hS, hSe⟩ := vk_Sof (args := #[Value.ref b]) (s := s) (N := 10) (tm := tmS) (len := lenS) (byt := bytS) (A := fun q : Nat => s.heap.size ≤ q) (by decide) (fun i hi => hg _ (fl_ex i hi)) (fun i hi => hg _ (fl_co i hi)) (fun i hi => hg _ (fl_ar i hi)) (fun i hi => hg _ (fl_le i hi)) (fun i hi j hj => hg _ (fl_el i hi j hj)) (fun i j hi hj hij => by
    rcases Nat.lt_or_gt_of_ne hij with q | q
    · exact Or.inl (hg _ (fl_ne i hi j hj q))
    · exact Or.inr (hg _ (fl_ne j hj i hi q))) hh
  have hT : ∀ k : Nat, ∃ t : Nat, k < 4 → va_Z "EchoValley$Reader" (nmS k) "[I" (.ref t) (fun q : Nat => s.heap.size ≤ q) s s.heap ∧ va_T .int t (rlen 102 k) (fun j => .int (i32 (rom 102 k j))) (fun q : Nat => s.heap.size ≤ q) s s.heap := by
    intro k
    by_cases hk : k < 4
    · have hr : ∀ k, k < 4 → rlen 102 k < 2 ^ 31 := by decide
      obtain ⟨t, ht, hT⟩ := va_Tof (args := #[Value.ref b]) (s := s) (tm := tmT k) (ty := .int) (N := rlen 102 k) (f := fun j => .int (i32 (rom 102 k j))) (A := fun q : Nat => s.heap.size ≤ q) (hr k hk) (hg _ (fl_ta k hk)) (va_eqt (hg _ (fl_tl k hk))) (fun j hj => va_eqt (hg _ (fl_te k hk j hj))) hh
      exact ⟨t, fun _ => ⟨va_Zref (hts _ (tab_in k hk)) (hts _ w_rdi) ht hh, hT⟩⟩
    · exact ⟨0, fun z => absurd z hk⟩
  obtain ⟨tb, hTb⟩ := Classical.axiomOfChoice hT
  have hC : va_Z "java/lang/String" "COMPACT_STRINGS" "Z" (.int 1) (fun q : Nat => s.heap.size ≤ q) s s.heap := va_Zof (hts _ w_csl) (hts _ w_csi) (va_eqi (hg _ fl_cs)) hh
  have hF : ∃ (r : AR) (fa : Nat), (r = none ∨ r = some (105, 0)) ∧ va_Z "jdk/internal/util/Preconditions" "SIOOBE_FORMATTER" "Ljava/util/function/BiFunction;" (va_rf (r.map (fun _ => fa))) (fun q : Nat => s.heap.size ≤ q) s s.heap := by
    rcases va_Zqof (hts _ w_sil) (hts _ w_sii) (hg _ fl_si) hh with h | ⟨fa, h⟩
    · exact ⟨none, 0, Or.inl rfl, h⟩
    · exact ⟨some (105, 0), fa, Or.inr rfl, h⟩
  obtain ⟨r, fa, hr, hF⟩ := hF
  have hXT : va_T .int b L (fun j => .int (i32 ((xs j).toInt))) (fun q : Nat => s.heap.size ≤ q) s s.heap := by
    obtain ⟨scr, h1, h2, h3, h4, h5⟩ := hX
    refine ⟨scr, h1, h2, h3, by omega, by rw [h4], fun j hj => ?_, hh b hbl⟩
    show scr.slots[j]? = some (Value.int (i32 (xs j).toInt))
    rw [i32_of]
    exact h5 j hj
  refine ⟨(dC, dI, ea, (fun c i => if c = 100 then adK i else if c = 101 then adV i else if c = 102 then tb i else if c = 103 then b else fa), s.heap, ((L, fun j => (xs j).toInt), r)), ⟨⟨hK, fun k q hq => ?_⟩, nest_ok hts, ⟨hS, fun k hk => vk_R.of (hts _ (str_in k hk)) (hSe k hk), hC, ?_, fun k hk => hTb k hk, hXT⟩⟩, rfl, rfl, hr, rfl⟩
  · have hk : k < 6 := (List.getElem?_eq_some_iff.mp hq).1
    rcases (by omega : k = 0 ∨ k = 1 ∨ k = 2 ∨ k = 3 ∨ k = 4 ∨ k = 5) with rfl | rfl | rfl | rfl | rfl | rfl <;> (cases hq; exact hA _ (by decide))
  · rcases hr with rfl | rfl
    · exact hF
    · exact hF
