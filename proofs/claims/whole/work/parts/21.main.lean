/-! MAIN MODE: all is made; the references stand fast -/
def rF : Rfs := fun c i k => match c with
  | 0 => (match k with | 0 => some (8, 0) | 1 => some (4, 0) | 2 => some (1, 0) | 3 => some (10, 0) | 4 => some (5, 0) | 5 => some (3, 3) | 6 => some (3, 4) | 7 => some (37, i) | 8 => some (2, 0) | 9 => some (2, 1) | 10 => some (38, i) | _ => none)
  | 1 => (match k with | 0 => some (26, i) | 2 => some (3, 0) | 3 => some (3, 1) | 4 => some (3, 2) | _ => none)
  | 2 => (match k with | 0 => some (36, i) | _ => none)
  | 3 => (match k with | 0 => some (27, i) | 1 => some (28, i) | 2 => some (29, i) | 3 => some (30, i) | _ => none)
  | 4 => (match k with | 0 => some (8, 0) | 1 => some (21, i) | 2 => some (22, i) | 3 => some (23, i) | 4 => some (24, i) | 5 => some (25, i) | _ => none)
  | 5 => (match k with | 0 => some (31, i) | 1 => some (32, i) | 2 => some (33, i) | 3 => some (34, i) | _ => none)
  | 6 => (match k with | 0 => some (35, i) | _ => none)
  | 8 => (match k with | 0 => some (20, i) | _ => none)
  | 10 => (match k with | 0 => some (1, 0) | 1 => some (7, 0) | 2 => some (7, 1) | 3 => some (7, 2) | 4 => some (7, 3) | 5 => some (7, 4) | 6 => some (7, 5) | 7 => some (7, 6) | _ => none)
  | 11 => (match k with | 1 => some (40, i) | 3 => some (41, i) | 5 => some (42, i) | 6 => some (43, i) | 7 => some (44, i) | 8 => some (45, i) | 9 => some (46, i) | 21 => some (47, i) | 22 => some (48, i) | 23 => some (49, i) | 24 => some (50, i) | 25 => some (51, i) | 26 => some (52, i) | 27 => some (53, i) | 28 => some (54, i) | 29 => some (55, i) | 30 => some (56, i) | 31 => some (57, i) | 32 => some (58, i) | 33 => some (59, i) | 34 => some (60, i) | 35 => some (61, i) | 36 => some (62, i) | 37 => some (63, i) | 38 => some (64, i) | 39 => some (65, i) | 40 => some (66, i) | 41 => some (67, i) | 42 => some (68, i) | 43 => some (69, i) | 44 => some (70, i) | 46 => some (71, i) | 47 => some (72, i) | 53 => some (73, i) | 54 => some (74, i) | 65 => some (75, i) | 66 => some (76, i) | 67 => some (77, i) | 68 => some (78, i) | 72 => some (79, i) | 73 => some (80, i) | 74 => some (81, i) | 75 => some (82, i) | 76 => some (83, i) | 78 => some (84, i) | 81 => some (85, i) | 82 => some (86, i) | 83 => some (87, i) | 84 => some (88, i) | 85 => some (89, i) | 87 => some (90, i) | 88 => some (91, i) | 89 => some (92, i) | 90 => some (93, i) | _ => none)
  | 26 => if k < 9 then some (9, k) else none
  | 37 => if k < 3 then some (6, k) else none
  | _ => none
theorem rF_wall {k : Nat} (h : k < 9) : rF 26 0 k = some (9, k) := if_pos h
theorem rF_slot {k : Nat} (h : k < 3) : rF 37 0 k = some (6, k) := if_pos h
abbrev fs (a : Acc) (μ : Mem) : AS := (a, cF, rF, μ)
def RMi (sc : Scr) (d j : Nat) (as : List AV) (a : Acc) (μ : Mem) (Q : Int → Mem → Prop) : Prop := RM sc d j as (fs (a.1, 0, 0) μ) (fun r τ => ∃ v μ', r = some (.inl v) ∧ τ = fs (a.1, 0, 0) μ' ∧ Q v μ')
def RMl (sc : Scr) (d j : Nat) (as : List AV) (a : Acc) (μ : Mem) (Q : Int → Mem → Prop) : Prop := RM sc d j as (fs (a.1, 0, 0) μ) (fun r τ => ∃ v μ', r = some (.inr (.inl v)) ∧ τ = fs (a.1, 0, 0) μ' ∧ Q v μ')
def RMr (sc : Scr) (d j : Nat) (as : List AV) (a : Acc) (μ : Mem) (Q : AR → Mem → Prop) : Prop := RM sc d j as (fs (a.1, 0, 0) μ) (fun r τ => ∃ v μ', r = some (.inr (.inr (.inl v))) ∧ τ = fs (a.1, 0, 0) μ' ∧ Q v μ')
def RMv (sc : Scr) (d j : Nat) (as : List AV) (a : Acc) (μ : Mem) (Q : Mem → Prop) : Prop := RM sc d j as (fs (a.1, 0, 0) μ) (fun r τ => ∃ μ', r = none ∧ τ = fs (a.1, 0, 0) μ' ∧ Q μ')
section MM
variable {sc : Scr} {d j pc : Nat} {as ls rest : List AV} {a : Acc} {μ : Mem} {k : Cfg → Prop}
theorem RMi_to (h : RMi sc d j as a μ (fun v μ1 => k (pc, ls, .inl v :: rest, fs a μ1))) : RM sc d j as (((fs a μ).1.1, 0, 0), (fs a μ).2) (fun r τ => k (pc, ls, r.toList ++ rest, ((τ.1.1, (fs a μ).1.2), τ.2))) :=
  RM_mono d j as _ _ _ (fun r τ z => by obtain ⟨v, μ', e1, e2, q⟩ := z; subst e1; subst e2; exact q) h
theorem RMl_to (h : RMl sc d j as a μ (fun v μ1 => k (pc, ls, .inr (.inl v) :: rest, fs a μ1))) : RM sc d j as (((fs a μ).1.1, 0, 0), (fs a μ).2) (fun r τ => k (pc, ls, r.toList ++ rest, ((τ.1.1, (fs a μ).1.2), τ.2))) :=
  RM_mono d j as _ _ _ (fun r τ z => by obtain ⟨v, μ', e1, e2, q⟩ := z; subst e1; subst e2; exact q) h
theorem RMr_to (h : RMr sc d j as a μ (fun v μ1 => k (pc, ls, .inr (.inr (.inl v)) :: rest, fs a μ1))) : RM sc d j as (((fs a μ).1.1, 0, 0), (fs a μ).2) (fun r τ => k (pc, ls, r.toList ++ rest, ((τ.1.1, (fs a μ).1.2), τ.2))) :=
  RM_mono d j as _ _ _ (fun r τ z => by obtain ⟨v, μ', e1, e2, q⟩ := z; subst e1; subst e2; exact q) h
theorem RMv_to (h : RMv sc d j as a μ (fun μ1 => k (pc, ls, rest, fs a μ1))) : RM sc d j as (((fs a μ).1.1, 0, 0), (fs a μ).2) (fun r τ => k (pc, ls, r.toList ++ rest, ((τ.1.1, (fs a μ).1.2), τ.2))) :=
  RM_mono d j as _ _ _ (fun r τ z => by obtain ⟨μ', e1, e2, q⟩ := z; subst e1; subst e2; exact q) h
end MM
theorem RMi_mono {sc : Scr} {d j : Nat} {as : List AV} {a : Acc} {μ : Mem} {Q Q' : Int → Mem → Prop} (h : RMi sc d j as a μ Q) (hq : ∀ v μ1, Q v μ1 → Q' v μ1) : RMi sc d j as a μ Q' := RM_mono d j as _ _ _ (fun r τ z => by obtain ⟨v, μ', e1, e2, q⟩ := z; exact ⟨v, μ', e1, e2, hq _ _ q⟩) h
theorem RMl_mono {sc : Scr} {d j : Nat} {as : List AV} {a : Acc} {μ : Mem} {Q Q' : Int → Mem → Prop} (h : RMl sc d j as a μ Q) (hq : ∀ v μ1, Q v μ1 → Q' v μ1) : RMl sc d j as a μ Q' := RM_mono d j as _ _ _ (fun r τ z => by obtain ⟨v, μ', e1, e2, q⟩ := z; exact ⟨v, μ', e1, e2, hq _ _ q⟩) h
theorem RMr_mono {sc : Scr} {d j : Nat} {as : List AV} {a : Acc} {μ : Mem} {Q Q' : AR → Mem → Prop} (h : RMr sc d j as a μ Q) (hq : ∀ v μ1, Q v μ1 → Q' v μ1) : RMr sc d j as a μ Q' := RM_mono d j as _ _ _ (fun r τ z => by obtain ⟨v, μ', e1, e2, q⟩ := z; exact ⟨v, μ', e1, e2, hq _ _ q⟩) h
theorem RMv_mono {sc : Scr} {d j : Nat} {as : List AV} {a : Acc} {μ : Mem} {Q Q' : Mem → Prop} (h : RMv sc d j as a μ Q) (hq : ∀ μ1, Q μ1 → Q' μ1) : RMv sc d j as a μ Q' := RM_mono d j as _ _ _ (fun r τ z => by obtain ⟨μ', e1, e2, q⟩ := z; exact ⟨μ', e1, e2, hq _ q⟩) h
def runN (stp : Cfg → Eff) (call : CallT) (post : Option AV → AS → Prop) : Nat → Cfg → Prop
  | 0 => Rp stp call post
  | n + 1 => fun x => wE call post (runN stp call post n) (stp x)
theorem Rp_run {sc : Scr} {d : Nat} {stp : Cfg → Eff} {post : Option AV → AS → Prop} : ∀ (n : Nat) (x : Cfg), runN stp (RM sc d) post n x → Rp stp (RM sc d) post x
  | 0, _, h => h
  | n + 1, _, h => Rp.intro (wE_mono (fun j a s P P' => RM_mono d j a s P P') (fun _ _ z => z) (fun y hy => Rp_run n y hy) _ h)
