/-! THE CLAIM OUT OF ONE WALK OF THE LAW'S BODY. Your part is whole_start (and what it stands on); all else here is the same for every law, but numbers. -/
def R_law : String := "EchoValleyLaw"
def lw_P (b : Addr) (xs : List Int32) (args : Array Value) (s : State) : Prop := args = #[.ref b] ∧ s.IntsAt b xs ∧ xs.length ≤ 4096 ∧ (Jvm.Cond.and given_1 narrow_1).before args s = true
def lw_Q (_ : Array Value) (s : State) (o : Outcome) (t : State) : Prop := o = .returned (some (.int 1)) ∧ Framed s o t [] 600000 7302250
def lw_Z (below : List Frame) (a : Array Value) (s : State) : State → Prop := fun t => ∃ o, t.status = .running ∧ Ended t below o ∧ lw_Q a s o t
/-- the law's own end, with 1 on the stack, nothing written that was there before, its room as the claim has it -/
theorem lw_ret {p : Program} {l : Launch} {e : Env} {s : State} {m : MethodId} {below : List Frame} {meth : Method} {c : Code} {b : Nat} (hx : p.tables.exec = Jvm.exec) (hb : c.code = code) (hr : meth.sig.returnType = ret) (hlocks : meth.locks = false) {pc : Nat} {H : Heap} {ls : Array Slot} (hdg : decode code pc = .ok (.ireturn, 1)) : W p l e room_1 s m #[Value.ref b] below meth c H [] 600000 7302250 (lw_Z below #[Value.ref b] s) (F0 m pc ls [.int 1]) := by
  intro T hT X
  obtain ⟨fs, hret, hrun, hended, hW, hframe⟩ := X.leave (v := some (.int 1)) (hlocks := hlocks) (fun h => by rw [hr] at h; cases h)
  have hmeth' : T.vm.method? m = some meth := X.method'
  refine ⟨T.setFrames fs, ?_, .returned (some (.int 1)), hrun, hended, rfl, ⟨_, rfl⟩, hW, hframe⟩
  jvm_step X.here [X.here.top, hx, hb, hdg, hmeth', hr, ret, narrow_b1]
  (try refine ⟨rfl, ?_⟩); (try refine ⟨rfl, ?_⟩)
  first | (intro acts; rw [hret _ acts rfl rfl rfl]) | rw [hret _ _ rfl rfl rfl]
  exact Steps.refl _
/-- what holds at the law's entry: the machine, the code, the tables' words (any of lw_tbl by 'hts w (by decide +kernel)'), the script of L ints xs at the cell b, what the Statement gives of the start (any of its parts by flat_of_before) -/
def lw_At (p : Program) (s : State) (m : MethodId) (meth : Method) (c : Code) (b L : Nat) (xs : Nat → Int32) : Prop :=
  p.tables.exec = Jvm.exec ∧ c.code = code ∧ meth.sig.returnType = ret ∧ c.maxLocals = 4 ∧ s.vm.findClass R_law = some m.cls ∧ (∀ w ∈ lw_tbl, w.before #[Value.ref b] s = true) ∧ va_X b L xs s s.heap ∧ b < s.heap.size ∧ meth.locks = false ∧ (Jvm.Cond.and given_1 narrow_1).before #[Value.ref b] s = true
/-! THE LAW, 4: its walk -/
/-- from the entry to the end -/
theorem whole_start {p : Program} {e : Env} {s : State} {m : MethodId} {below : List Frame} {meth : Method} {c : Code} (l : Launch) (hflags : l.flags = flags0) {b L : Nat} {xs : Nat → Int32} (hL : L ≤ 4096) (C0 : lw_At p s m meth c b L xs) : W p l e room_1 s m #[Value.ref b] below meth c s.heap [] 0 0 (lw_Z below #[Value.ref b] s) (entryFrame m ([Value.ref b] : List Value).toArray 4) := by
  obtain ⟨hx, hb, hr, hml, hown, hts, hX, hbl, hlk, hgv⟩ := id C0
  obtain ⟨E, hKn, eh, e1, e2, e3⟩ := lw_env hL hts hX hbl hgv
  have hS : ∀ j, InI ((esc E).1.2 j) := by
    rw [e1]
    exact fun j => i32_in _
  have eL : (esc E).1.1 = L := by rw [e1]
  have hF : ∀ cnt, okr cnt (esc E).2 := by
    intro cnt c i z
    rcases e2 with e2 | e2
    · rw [e2] at z
      cases z
    · rw [e2] at z
      cases z
      exact ⟨fun z => absurd z (by decide), fun _ => Or.inr (Or.inr (Or.inr (Or.inr ⟨rfl, rfl⟩)))⟩
  have C1 : Cx p s m #[Value.ref b] meth c E "EchoValleyLaw" code 4 := ⟨hx, hb, hml, hown, fun w hw => hts w (List.mem_filter.mp hw).1, hlk, hKn, by rw [eh]; exact Nat.le_refl _⟩
  have run := lw_made (sc := esc E) (P := fun r _ => r = some (.inl 1)) (lw_loop (sc := esc E) (P := fun r _ => r = some (.inl 1)) (by rw [eL]; omega) hS (fun _ => rfl) 4097 0 μ00 (by decide) (by rw [eL]; omega) lw_sim)
  have key := run (PW p l e room_1 s m #[Value.ref b] below meth c (lw_Z below #[Value.ref b] s) E 4 (600000, 7302250) (fun _ => 0))
    (closure C1 (d := 13) (tbl := kd_120000) (ret := some .boolean) (init := false) (fun pc r h => by
      obtain ⟨l, hl, hin⟩ := look_in h
      exact List.all_eq_true.mp (law_rows l hl) _ hin) (fun z => by cases z) (fun j hj as τ P h h1 h2 h3 => ctr_all l E hS (by rw [eL]; omega) hF 13 j hj as τ P h h1 h2 h3) ⟨by decide, by decide⟩ ⟨rfl, rfl⟩ hS (by rw [eL]; omega) hF
      (fun pc ls x σ k hd hret hw => by
        obtain ⟨-, e⟩ : (x = 0 ∨ x = 1) ∧ (some (.inl x) : Option AV) = some (.inl 1) := hw
        cases e
        intro H locs lsC hI
        have ec : cv E (.inl 1) = Value.int 1 := congrArg Value.int (show i32 1 = 1 by decide)
        have hS2 := hI.2.2.2.2.2.2.1.2.2
        have hB := hI.2.2.2.2.1
        refine va_forget (fun q hq => ?_) (W.widen (k := 600000) (n := 7302250) hB.1 hB.2 ?_)
        · have := hS2 q hq
          rw [← eh]
          exact this
        · show W p l e room_1 s m #[Value.ref b] below meth c H [] 600000 7302250 (lw_Z below #[Value.ref b] s) (F0 m pc lsC [cv E (.inl 1)])
          rw [ec]
          exact lw_ret hx hb hr hlk hd)
      (fun pc ls x σ hd hret hw => by cases hret) (fun pc ls x σ rt hd hret hrt hw => by
        cases hret
        rcases hrt with ⟨n, hn⟩ | ⟨n, hn⟩ <;> cases hn) (fun pc ls σ hd hret hw => by cases hret))
  have ev : ([.inr (.inr (.inl (some (103, 0))))] : List AV).map (cv E) = [Value.ref b] := by
    show [Value.ref (eR E 103 0)] = _
    rw [e3]
  have hl := lv_entry ([Value.ref b]) (n := 4) (Nat.le_of_ble_eq_true rfl)
  rw [lg_entry_eq]
  generalize (lg_sl ([Value.ref b]) ++ List.replicate (4 - (lg_sl ([Value.ref b])).length) Slot.unset).toArray = lsC at hl ⊢
  rw [← ev] at hl
  have fin := key s.heap [] lsC ⟨⟨fun c _ => Nat.zero_le _, fun c i k hi => absurd hi (Nat.not_lt_zero _), fun c i k => ⟨fun _ => (⟨by decide, by decide⟩ : InL 0), fun _ => (⟨by decide, by decide⟩ : InI 0)⟩⟩, entL_ok (fun v hv => by
      rcases List.mem_cons.mp hv with rfl | hv
      · intro c i z
        cases z
        exact ⟨fun z => absurd z (by decide), fun _ => Or.inr (Or.inr (Or.inr (Or.inl ⟨rfl, rfl⟩)))⟩
      · cases hv), (fun v hv => by cases hv), fun _ => Nat.le_refl _, ⟨Nat.zero_le _, Nat.zero_le _⟩, ⟨by rw [eh]; rfl, fun q _ => by rw [eh], fun c i _ hi => absurd hi (Nat.not_lt_zero _)⟩, va_S.rf, entL_LR (by decide) hl⟩
  exact fin
