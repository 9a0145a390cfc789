/-! THE LAW, 2: the cases of its switch -/
abbrev lwLx (x3 : Int) : List AV := [.inr (.inr (.inl (some (103, 0)))), .inr (.inr (.inl (some (0, 0)))), .inr (.inr (.inl (some (11, 0)))), .inl x3]
theorem PR.go {sc : Scr} {μ : Mem} {j jm : Nat} {as : List AV} {Q : Int → Mem → Prop} (hp : PR sc 125 μ j jm as) (h : ∀ v μ1, RMi sc 13 jm (rfc 11 0 :: as) lwAc μ1 (fun v' μ2 => v = v' ∧ Sim μ2) → Q v μ1) : RMi sc 13 j (rfc 0 0 :: as) lwAc μ Q := RMi_mono (a := lwAc) hp h
theorem lc_0 {sc : Scr} {P : Option AV → AS → Prop} {μ : Mem} {x3 : Int} (hi : 0 ≤ x3) (hj : x3 + 8 ≤ ((sc.1.1 : Nat) : Int)) (hL : ((sc.1.1 : Nat) : Int) ≤ 4096) (hx : ∀ j, InI (sc.1.2 j)) (hS : Sim μ) (h : ∀ μ', Sim μ' → Rp (stp_120000 sc) (RM sc 13) P (1724, lwLx x3, [], fs lwAc μ')) : Rp (stp_120000 sc) (RM sc 13) P (192, lwLx x3, [], fs lwAc μ) := by
  refine b_120000_192 ⟨by omega, by omega, by omega, by omega, by omega, by omega, by omega, by omega, ?_⟩
  refine b_120000_214 ⟨by omega, by omega, PR.go (p_feed hS) fun v μ1 h1 => ?_⟩
  refine b_120000_221 ⟨by omega, by omega, by omega, by omega, by omega, by omega, by omega, by omega, ?_⟩
  refine b_120000_243 ⟨by omega, by omega, RMi_mono h1 fun v' μ2 h2 => ?_⟩
  obtain ⟨e, S2⟩ := h2
  subst e
  refine b_120000_250 ⟨fun _ => ?_, fun z => absurd rfl z⟩
  exact h _ S2
theorem lc_1 {sc : Scr} {P : Option AV → AS → Prop} {μ : Mem} {x3 : Int} (hi : 0 ≤ x3) (hj : x3 + 8 ≤ ((sc.1.1 : Nat) : Int)) (hL : ((sc.1.1 : Nat) : Int) ≤ 4096) (hx : ∀ j, InI (sc.1.2 j)) (hS : Sim μ) (h : ∀ μ', Sim μ' → Rp (stp_120000 sc) (RM sc 13) P (1724, lwLx x3, [], fs lwAc μ')) : Rp (stp_120000 sc) (RM sc 13) P (255, lwLx x3, [], fs lwAc μ) := by
  refine b_120000_255 ⟨by omega, by omega, PR.go (p_back hS) fun v μ1 h1 => ?_⟩
  refine b_120000_264 ⟨by omega, by omega, RMi_mono h1 fun v' μ2 h2 => ?_⟩
  obtain ⟨e, S2⟩ := h2
  subst e
  refine b_120000_273 ⟨fun _ => ?_, fun z => absurd rfl z⟩
  exact h _ S2
theorem lc_2 {sc : Scr} {P : Option AV → AS → Prop} {μ : Mem} {x3 : Int} (hi : 0 ≤ x3) (hj : x3 + 8 ≤ ((sc.1.1 : Nat) : Int)) (hL : ((sc.1.1 : Nat) : Int) ≤ 4096) (hx : ∀ j, InI (sc.1.2 j)) (hS : Sim μ) (h : ∀ μ', Sim μ' → Rp (stp_120000 sc) (RM sc 13) P (1724, lwLx x3, [], fs lwAc μ')) : Rp (stp_120000 sc) (RM sc 13) P (278, lwLx x3, [], fs lwAc μ) := by
  refine b_120000_278 (PR.go (p_read hS) fun v μ1 h1 => ?_)
  refine b_120000_282 (RMi_mono h1 fun v' μ2 h2 => ?_)
  obtain ⟨e, S2⟩ := h2
  subst e
  refine b_120000_286 ⟨fun _ => ?_, fun z => absurd rfl z⟩
  exact h _ S2
theorem lc_3 {sc : Scr} {P : Option AV → AS → Prop} {μ : Mem} {x3 : Int} (hi : 0 ≤ x3) (hj : x3 + 8 ≤ ((sc.1.1 : Nat) : Int)) (hL : ((sc.1.1 : Nat) : Int) ≤ 4096) (hx : ∀ j, InI (sc.1.2 j)) (hS : Sim μ) (h : ∀ μ', Sim μ' → Rp (stp_120000 sc) (RM sc 13) P (1724, lwLx x3, [], fs lwAc μ')) : Rp (stp_120000 sc) (RM sc 13) P (291, lwLx x3, [], fs lwAc μ) := by
  refine b_120000_291 (PR.go (p_place hS) fun v μ1 h1 => ?_)
  refine b_120000_295 (RMi_mono h1 fun v' μ2 h2 => ?_)
  obtain ⟨e, S2⟩ := h2
  subst e
  refine b_120000_299 ⟨fun _ => ?_, fun z => absurd rfl z⟩
  exact h _ S2
theorem lc_4 {sc : Scr} {P : Option AV → AS → Prop} {μ : Mem} {x3 : Int} (hi : 0 ≤ x3) (hj : x3 + 8 ≤ ((sc.1.1 : Nat) : Int)) (hL : ((sc.1.1 : Nat) : Int) ≤ 4096) (hx : ∀ j, InI (sc.1.2 j)) (hS : Sim μ) (h : ∀ μ', Sim μ' → Rp (stp_120000 sc) (RM sc 13) P (1724, lwLx x3, [], fs lwAc μ')) : Rp (stp_120000 sc) (RM sc 13) P (304, lwLx x3, [], fs lwAc μ) := by
  refine b_120000_304 ⟨by omega, by omega, by omega, by omega, PR.go (p_wall hS) fun v μ1 h1 => ?_⟩
  refine b_120000_318 ⟨by omega, by omega, by omega, by omega, RMi_mono h1 fun v' μ2 h2 => ?_⟩
  obtain ⟨e, S2⟩ := h2
  subst e
  refine b_120000_332 ⟨fun _ => ?_, fun z => absurd rfl z⟩
  exact h _ S2
theorem lc_5 {sc : Scr} {P : Option AV → AS → Prop} {μ : Mem} {x3 : Int} (hi : 0 ≤ x3) (hj : x3 + 8 ≤ ((sc.1.1 : Nat) : Int)) (hL : ((sc.1.1 : Nat) : Int) ≤ 4096) (hx : ∀ j, InI (sc.1.2 j)) (hS : Sim μ) (h : ∀ μ', Sim μ' → Rp (stp_120000 sc) (RM sc 13) P (1724, lwLx x3, [], fs lwAc μ')) : Rp (stp_120000 sc) (RM sc 13) P (337, lwLx x3, [], fs lwAc μ) := by
  refine b_120000_337 ⟨by omega, by omega, by omega, by omega, fun z0 => ?_, fun z0 => ?_⟩
  · refine b_120000_355 ?_
    refine b_120000_356 (PR.go (p_stands (by omega) hS) fun v μ1 h1 => ?_)
    refine b_120000_359 ⟨by omega, by omega, by omega, by omega, fun _ => ?_, fun z => absurd z0 z⟩
    refine b_120000_377 ?_
    refine b_120000_378 (RMi_mono h1 fun v' μ2 h2 => ?_)
    obtain ⟨e, S2⟩ := h2
    subst e
    refine b_120000_381 ⟨fun _ => ?_, fun z => absurd rfl z⟩
    exact h _ S2
  · refine b_120000_351 ?_
    refine b_120000_356 (PR.go (p_stands (by omega) hS) fun v μ1 h1 => ?_)
    refine b_120000_359 ⟨by omega, by omega, by omega, by omega, fun z => absurd z z0, fun _ => ?_⟩
    refine b_120000_373 ?_
    refine b_120000_378 (RMi_mono h1 fun v' μ2 h2 => ?_)
    obtain ⟨e, S2⟩ := h2
    subst e
    refine b_120000_381 ⟨fun _ => ?_, fun z => absurd rfl z⟩
    exact h _ S2
theorem lc_6 {sc : Scr} {P : Option AV → AS → Prop} {μ : Mem} {x3 : Int} (hi : 0 ≤ x3) (hj : x3 + 8 ≤ ((sc.1.1 : Nat) : Int)) (hL : ((sc.1.1 : Nat) : Int) ≤ 4096) (hx : ∀ j, InI (sc.1.2 j)) (hS : Sim μ) (h : ∀ μ', Sim μ' → Rp (stp_120000 sc) (RM sc 13) P (1724, lwLx x3, [], fs lwAc μ')) : Rp (stp_120000 sc) (RM sc 13) P (386, lwLx x3, [], fs lwAc μ) := by
  refine b_120000_386 ⟨by omega, by omega, by omega, by omega, PR.go (p_move hS) fun v μ1 h1 => ?_⟩
  refine b_120000_400 ⟨by omega, by omega, by omega, by omega, RMi_mono h1 fun v' μ2 h2 => ?_⟩
  obtain ⟨e, S2⟩ := h2
  subst e
  refine b_120000_414 ⟨fun _ => ?_, fun z => absurd rfl z⟩
  exact h _ S2
theorem lc_7 {sc : Scr} {P : Option AV → AS → Prop} {μ : Mem} {x3 : Int} (hi : 0 ≤ x3) (hj : x3 + 8 ≤ ((sc.1.1 : Nat) : Int)) (hL : ((sc.1.1 : Nat) : Int) ≤ 4096) (hx : ∀ j, InI (sc.1.2 j)) (hS : Sim μ) (h : ∀ μ', Sim μ' → Rp (stp_120000 sc) (RM sc 13) P (1724, lwLx x3, [], fs lwAc μ')) : Rp (stp_120000 sc) (RM sc 13) P (419, lwLx x3, [], fs lwAc μ) := by
  refine b_120000_419 ⟨by omega, by omega, PR.go (p_pace hS) fun v μ1 h1 => ?_⟩
  refine b_120000_428 ⟨by omega, by omega, RMi_mono h1 fun v' μ2 h2 => ?_⟩
  obtain ⟨e, S2⟩ := h2
  subst e
  refine b_120000_437 ⟨fun _ => ?_, fun z => absurd rfl z⟩
  exact h _ S2
theorem lc_8 {sc : Scr} {P : Option AV → AS → Prop} {μ : Mem} {x3 : Int} (hi : 0 ≤ x3) (hj : x3 + 8 ≤ ((sc.1.1 : Nat) : Int)) (hL : ((sc.1.1 : Nat) : Int) ≤ 4096) (hx : ∀ j, InI (sc.1.2 j)) (hS : Sim μ) (h : ∀ μ', Sim μ' → Rp (stp_120000 sc) (RM sc 13) P (1724, lwLx x3, [], fs lwAc μ')) : Rp (stp_120000 sc) (RM sc 13) P (442, lwLx x3, [], fs lwAc μ) := by
  refine b_120000_442 ⟨by omega, by omega, by omega, by omega, by omega, by omega, by omega, by omega, ?_⟩
  refine b_120000_464 ⟨by omega, by omega, PR.go (p_returns hS) fun v μ1 h1 => ?_⟩
  refine b_120000_471 ⟨by omega, by omega, by omega, by omega, by omega, by omega, by omega, by omega, ?_⟩
  refine b_120000_493 ⟨by omega, by omega, RMi_mono h1 fun v' μ2 h2 => ?_⟩
  obtain ⟨e, S2⟩ := h2
  subst e
  refine b_120000_500 ⟨fun _ => ?_, fun z => absurd rfl z⟩
  exact h _ S2
theorem lc_9 {sc : Scr} {P : Option AV → AS → Prop} {μ : Mem} {x3 : Int} (hi : 0 ≤ x3) (hj : x3 + 8 ≤ ((sc.1.1 : Nat) : Int)) (hL : ((sc.1.1 : Nat) : Int) ≤ 4096) (hx : ∀ j, InI (sc.1.2 j)) (hS : Sim μ) (h : ∀ μ', Sim μ' → Rp (stp_120000 sc) (RM sc 13) P (1724, lwLx x3, [], fs lwAc μ')) : Rp (stp_120000 sc) (RM sc 13) P (505, lwLx x3, [], fs lwAc μ) := by
  refine b_120000_505 ⟨by omega, by omega, by omega, by omega, by omega, by omega, by omega, by omega, ?_⟩
  refine b_120000_527 ⟨by omega, by omega, by omega, by omega, by omega, by omega, PR.go (p_at hS) fun v μ1 h1 => ?_⟩
  refine b_120000_546 ⟨by omega, by omega, by omega, by omega, by omega, by omega, by omega, by omega, ?_⟩
  refine b_120000_568 ⟨by omega, by omega, by omega, by omega, by omega, by omega, RMi_mono h1 fun v' μ2 h2 => ?_⟩
  obtain ⟨e, S2⟩ := h2
  subst e
  refine b_120000_587 ⟨fun _ => ?_, fun z => absurd rfl z⟩
  exact h _ S2
theorem lc_10 {sc : Scr} {P : Option AV → AS → Prop} {μ : Mem} {x3 : Int} (hi : 0 ≤ x3) (hj : x3 + 8 ≤ ((sc.1.1 : Nat) : Int)) (hL : ((sc.1.1 : Nat) : Int) ≤ 4096) (hx : ∀ j, InI (sc.1.2 j)) (hS : Sim μ) (h : ∀ μ', Sim μ' → Rp (stp_120000 sc) (RM sc 13) P (1724, lwLx x3, [], fs lwAc μ')) : Rp (stp_120000 sc) (RM sc 13) P (592, lwLx x3, [], fs lwAc μ) := by
  refine b_120000_592 ⟨by omega, by omega, by omega, by omega, by omega, by omega, by omega, by omega, ?_⟩
  refine b_120000_614 ⟨by omega, by omega, by omega, by omega, by omega, by omega, fun z0 => ?_, fun z0 => ?_⟩
  · refine b_120000_637 ?_
    refine b_120000_638 (PR.go (p_touch (by omega) (hx _).2 hS) fun v μ1 h1 => ?_)
    refine b_120000_641 ⟨by omega, by omega, by omega, by omega, by omega, by omega, by omega, by omega, ?_⟩
    refine b_120000_663 ⟨by omega, by omega, by omega, by omega, by omega, by omega, fun _ => ?_, fun z => absurd z0 z⟩
    refine b_120000_686 ?_
    refine b_120000_687 (RMi_mono h1 fun v' μ2 h2 => ?_)
    obtain ⟨e, S2⟩ := h2
    subst e
    refine b_120000_690 ⟨fun _ => ?_, fun z => absurd rfl z⟩
    exact h _ S2
  · refine b_120000_633 ?_
    refine b_120000_638 (PR.go (p_touch (by omega) (hx _).2 hS) fun v μ1 h1 => ?_)
    refine b_120000_641 ⟨by omega, by omega, by omega, by omega, by omega, by omega, by omega, by omega, ?_⟩
    refine b_120000_663 ⟨by omega, by omega, by omega, by omega, by omega, by omega, fun z => absurd z z0, fun _ => ?_⟩
    refine b_120000_682 ?_
    refine b_120000_687 (RMi_mono h1 fun v' μ2 h2 => ?_)
    obtain ⟨e, S2⟩ := h2
    subst e
    refine b_120000_690 ⟨fun _ => ?_, fun z => absurd rfl z⟩
    exact h _ S2
theorem lc_11 {sc : Scr} {P : Option AV → AS → Prop} {μ : Mem} {x3 : Int} (hi : 0 ≤ x3) (hj : x3 + 8 ≤ ((sc.1.1 : Nat) : Int)) (hL : ((sc.1.1 : Nat) : Int) ≤ 4096) (hx : ∀ j, InI (sc.1.2 j)) (hS : Sim μ) (h : ∀ μ', Sim μ' → Rp (stp_120000 sc) (RM sc 13) P (1724, lwLx x3, [], fs lwAc μ')) : Rp (stp_120000 sc) (RM sc 13) P (695, lwLx x3, [], fs lwAc μ) := by
  refine b_120000_695 ⟨by omega, by omega, by omega, by omega, PR.go (p_heard hS) fun v μ1 h1 => ?_⟩
  refine b_120000_709 ⟨by omega, by omega, by omega, by omega, RMi_mono h1 fun v' μ2 h2 => ?_⟩
  obtain ⟨e, S2⟩ := h2
  subst e
  refine b_120000_723 ⟨fun _ => ?_, fun z => absurd rfl z⟩
  exact h _ S2
theorem lc_12 {sc : Scr} {P : Option AV → AS → Prop} {μ : Mem} {x3 : Int} (hi : 0 ≤ x3) (hj : x3 + 8 ≤ ((sc.1.1 : Nat) : Int)) (hL : ((sc.1.1 : Nat) : Int) ≤ 4096) (hx : ∀ j, InI (sc.1.2 j)) (hS : Sim μ) (h : ∀ μ', Sim μ' → Rp (stp_120000 sc) (RM sc 13) P (1724, lwLx x3, [], fs lwAc μ')) : Rp (stp_120000 sc) (RM sc 13) P (728, lwLx x3, [], fs lwAc μ) := by
  refine b_120000_728 ⟨by omega, by omega, by omega, by omega, PR.go (p_drowned hS) fun v μ1 h1 => ?_⟩
  refine b_120000_742 ⟨by omega, by omega, by omega, by omega, RMi_mono h1 fun v' μ2 h2 => ?_⟩
  obtain ⟨e, S2⟩ := h2
  subst e
  refine b_120000_756 ⟨fun _ => ?_, fun z => absurd rfl z⟩
  exact h _ S2
theorem lc_13 {sc : Scr} {P : Option AV → AS → Prop} {μ : Mem} {x3 : Int} (hi : 0 ≤ x3) (hj : x3 + 8 ≤ ((sc.1.1 : Nat) : Int)) (hL : ((sc.1.1 : Nat) : Int) ≤ 4096) (hx : ∀ j, InI (sc.1.2 j)) (hS : Sim μ) (h : ∀ μ', Sim μ' → Rp (stp_120000 sc) (RM sc 13) P (1724, lwLx x3, [], fs lwAc μ')) : Rp (stp_120000 sc) (RM sc 13) P (761, lwLx x3, [], fs lwAc μ) := by
  refine b_120000_761 ⟨by omega, by omega, by omega, by omega, by omega, by omega, by omega, by omega, PR.go (p_beats hS) fun v μ1 h1 => ?_⟩
  refine b_120000_785 ⟨by omega, by omega, by omega, by omega, by omega, by omega, by omega, by omega, RMi_mono h1 fun v' μ2 h2 => ?_⟩
  obtain ⟨e, S2⟩ := h2
  subst e
  refine b_120000_809 ⟨fun _ => ?_, fun z => absurd rfl z⟩
  exact h _ S2
theorem lc_14 {sc : Scr} {P : Option AV → AS → Prop} {μ : Mem} {x3 : Int} (hi : 0 ≤ x3) (hj : x3 + 8 ≤ ((sc.1.1 : Nat) : Int)) (hL : ((sc.1.1 : Nat) : Int) ≤ 4096) (hx : ∀ j, InI (sc.1.2 j)) (hS : Sim μ) (h : ∀ μ', Sim μ' → Rp (stp_120000 sc) (RM sc 13) P (1724, lwLx x3, [], fs lwAc μ')) : Rp (stp_120000 sc) (RM sc 13) P (814, lwLx x3, [], fs lwAc μ) := by
  refine b_120000_814 ⟨by omega, by omega, by omega, by omega, by omega, by omega, by omega, by omega, PR.go (p_stand hS) fun v μ1 h1 => ?_⟩
  refine b_120000_838 ⟨by omega, by omega, by omega, by omega, by omega, by omega, by omega, by omega, RMi_mono h1 fun v' μ2 h2 => ?_⟩
  obtain ⟨e, S2⟩ := h2
  subst e
  refine b_120000_862 ⟨fun _ => ?_, fun z => absurd rfl z⟩
  exact h _ S2
theorem lc_15 {sc : Scr} {P : Option AV → AS → Prop} {μ : Mem} {x3 : Int} (hi : 0 ≤ x3) (hj : x3 + 8 ≤ ((sc.1.1 : Nat) : Int)) (hL : ((sc.1.1 : Nat) : Int) ≤ 4096) (hx : ∀ j, InI (sc.1.2 j)) (hS : Sim μ) (h : ∀ μ', Sim μ' → Rp (stp_120000 sc) (RM sc 13) P (1724, lwLx x3, [], fs lwAc μ')) : Rp (stp_120000 sc) (RM sc 13) P (867, lwLx x3, [], fs lwAc μ) := by
  refine b_120000_867 ⟨by omega, by omega, by omega, by omega, PR.go (p_deaf hS) fun v μ1 h1 => ?_⟩
  refine b_120000_881 ⟨by omega, by omega, by omega, by omega, RMi_mono h1 fun v' μ2 h2 => ?_⟩
  obtain ⟨e, S2⟩ := h2
  subst e
  refine b_120000_895 ⟨fun _ => ?_, fun z => absurd rfl z⟩
  exact h _ S2
theorem lc_16 {sc : Scr} {P : Option AV → AS → Prop} {μ : Mem} {x3 : Int} (hi : 0 ≤ x3) (hj : x3 + 8 ≤ ((sc.1.1 : Nat) : Int)) (hL : ((sc.1.1 : Nat) : Int) ≤ 4096) (hx : ∀ j, InI (sc.1.2 j)) (hS : Sim μ) (h : ∀ μ', Sim μ' → Rp (stp_120000 sc) (RM sc 13) P (1724, lwLx x3, [], fs lwAc μ')) : Rp (stp_120000 sc) (RM sc 13) P (900, lwLx x3, [], fs lwAc μ) := by
  refine b_120000_900 ⟨by omega, by omega, by omega, by omega, PR.go (p_louder (hx _).2 hS) fun v μ1 h1 => ?_⟩
  refine b_120000_914 ⟨by omega, by omega, by omega, by omega, RMi_mono h1 fun v' μ2 h2 => ?_⟩
  obtain ⟨e, S2⟩ := h2
  subst e
  refine b_120000_928 ⟨fun _ => ?_, fun z => absurd rfl z⟩
  exact h _ S2
theorem lc_17 {sc : Scr} {P : Option AV → AS → Prop} {μ : Mem} {x3 : Int} (hi : 0 ≤ x3) (hj : x3 + 8 ≤ ((sc.1.1 : Nat) : Int)) (hL : ((sc.1.1 : Nat) : Int) ≤ 4096) (hx : ∀ j, InI (sc.1.2 j)) (hS : Sim μ) (h : ∀ μ', Sim μ' → Rp (stp_120000 sc) (RM sc 13) P (1724, lwLx x3, [], fs lwAc μ')) : Rp (stp_120000 sc) (RM sc 13) P (933, lwLx x3, [], fs lwAc μ) := by
  refine b_120000_933 ⟨by omega, by omega, by omega, by omega, by omega, by omega, by omega, by omega, ?_⟩
  refine b_120000_955 ⟨by omega, by omega, PR.go (p_canon hS) fun v μ1 h1 => ?_⟩
  refine b_120000_962 ⟨by omega, by omega, by omega, by omega, by omega, by omega, by omega, by omega, ?_⟩
  refine b_120000_984 ⟨by omega, by omega, RMi_mono h1 fun v' μ2 h2 => ?_⟩
  obtain ⟨e, S2⟩ := h2
  subst e
  refine b_120000_991 ⟨fun _ => ?_, fun z => absurd rfl z⟩
  exact h _ S2
theorem lc_18 {sc : Scr} {P : Option AV → AS → Prop} {μ : Mem} {x3 : Int} (hi : 0 ≤ x3) (hj : x3 + 8 ≤ ((sc.1.1 : Nat) : Int)) (hL : ((sc.1.1 : Nat) : Int) ≤ 4096) (hx : ∀ j, InI (sc.1.2 j)) (hS : Sim μ) (h : ∀ μ', Sim μ' → Rp (stp_120000 sc) (RM sc 13) P (1724, lwLx x3, [], fs lwAc μ')) : Rp (stp_120000 sc) (RM sc 13) P (996, lwLx x3, [], fs lwAc μ) := by
  refine b_120000_996 ⟨by omega, by omega, by omega, by omega, by omega, by omega, by omega, by omega, PR.go (p_put hS) fun v μ1 h1 => ?_⟩
  refine b_120000_1020 ⟨by omega, by omega, by omega, by omega, by omega, by omega, by omega, by omega, RMi_mono h1 fun v' μ2 h2 => ?_⟩
  obtain ⟨e, S2⟩ := h2
  subst e
  refine b_120000_1044 ⟨fun _ => ?_, fun z => absurd rfl z⟩
  exact h _ S2
theorem lc_19 {sc : Scr} {P : Option AV → AS → Prop} {μ : Mem} {x3 : Int} (hi : 0 ≤ x3) (hj : x3 + 8 ≤ ((sc.1.1 : Nat) : Int)) (hL : ((sc.1.1 : Nat) : Int) ≤ 4096) (hx : ∀ j, InI (sc.1.2 j)) (hS : Sim μ) (h : ∀ μ', Sim μ' → Rp (stp_120000 sc) (RM sc 13) P (1724, lwLx x3, [], fs lwAc μ')) : Rp (stp_120000 sc) (RM sc 13) P (1049, lwLx x3, [], fs lwAc μ) := by
  refine b_120000_1049 ⟨by omega, by omega, by omega, by omega, PR.go (p_hush hS) fun v μ1 h1 => ?_⟩
  refine b_120000_1063 ⟨by omega, by omega, by omega, by omega, RMi_mono h1 fun v' μ2 h2 => ?_⟩
  obtain ⟨e, S2⟩ := h2
  subst e
  refine b_120000_1077 ⟨fun _ => ?_, fun z => absurd rfl z⟩
  exact h _ S2
theorem lc_20 {sc : Scr} {P : Option AV → AS → Prop} {μ : Mem} {x3 : Int} (hi : 0 ≤ x3) (hj : x3 + 8 ≤ ((sc.1.1 : Nat) : Int)) (hL : ((sc.1.1 : Nat) : Int) ≤ 4096) (hx : ∀ j, InI (sc.1.2 j)) (hS : Sim μ) (h : ∀ μ', Sim μ' → Rp (stp_120000 sc) (RM sc 13) P (1724, lwLx x3, [], fs lwAc μ')) : Rp (stp_120000 sc) (RM sc 13) P (1082, lwLx x3, [], fs lwAc μ) := by
  refine b_120000_1082 ⟨by omega, by omega, by omega, by omega, PR.go (p_whose hS) fun v μ1 h1 => ?_⟩
  refine b_120000_1096 ⟨by omega, by omega, by omega, by omega, RMi_mono h1 fun v' μ2 h2 => ?_⟩
  obtain ⟨e, S2⟩ := h2
  subst e
  refine b_120000_1110 ⟨fun _ => ?_, fun z => absurd rfl z⟩
  exact h _ S2
theorem lc_21 {sc : Scr} {P : Option AV → AS → Prop} {μ : Mem} {x3 : Int} (hi : 0 ≤ x3) (hj : x3 + 8 ≤ ((sc.1.1 : Nat) : Int)) (hL : ((sc.1.1 : Nat) : Int) ≤ 4096) (hx : ∀ j, InI (sc.1.2 j)) (hS : Sim μ) (h : ∀ μ', Sim μ' → Rp (stp_120000 sc) (RM sc 13) P (1724, lwLx x3, [], fs lwAc μ')) : Rp (stp_120000 sc) (RM sc 13) P (1115, lwLx x3, [], fs lwAc μ) := by
  refine b_120000_1115 ⟨by omega, by omega, by omega, by omega, by omega, by omega, by omega, by omega, ?_⟩
  refine b_120000_1137 ⟨by omega, by omega, by omega, by omega, PR.go (p_along hS) fun v μ1 h1 => ?_⟩
  refine b_120000_1150 ⟨by omega, by omega, by omega, by omega, by omega, by omega, by omega, by omega, ?_⟩
  refine b_120000_1172 ⟨by omega, by omega, by omega, by omega, RMi_mono h1 fun v' μ2 h2 => ?_⟩
  obtain ⟨e, S2⟩ := h2
  subst e
  refine b_120000_1185 ⟨fun _ => ?_, fun z => absurd rfl z⟩
  exact h _ S2
theorem lc_22 {sc : Scr} {P : Option AV → AS → Prop} {μ : Mem} {x3 : Int} (hi : 0 ≤ x3) (hj : x3 + 8 ≤ ((sc.1.1 : Nat) : Int)) (hL : ((sc.1.1 : Nat) : Int) ≤ 4096) (hx : ∀ j, InI (sc.1.2 j)) (hS : Sim μ) (h : ∀ μ', Sim μ' → Rp (stp_120000 sc) (RM sc 13) P (1724, lwLx x3, [], fs lwAc μ')) : Rp (stp_120000 sc) (RM sc 13) P (1190, lwLx x3, [], fs lwAc μ) := by
  refine b_120000_1190 ⟨by omega, by omega, by omega, by omega, by omega, by omega, by omega, by omega, ?_⟩
  refine b_120000_1212 ⟨by omega, by omega, by omega, by omega, PR.go (p_nearest hS) fun v μ1 h1 => ?_⟩
  refine b_120000_1225 ⟨by omega, by omega, by omega, by omega, by omega, by omega, by omega, by omega, ?_⟩
  refine b_120000_1247 ⟨by omega, by omega, by omega, by omega, RMi_mono h1 fun v' μ2 h2 => ?_⟩
  obtain ⟨e, S2⟩ := h2
  subst e
  refine b_120000_1260 ⟨fun _ => ?_, fun z => absurd rfl z⟩
  exact h _ S2
theorem lc_23 {sc : Scr} {P : Option AV → AS → Prop} {μ : Mem} {x3 : Int} (hi : 0 ≤ x3) (hj : x3 + 8 ≤ ((sc.1.1 : Nat) : Int)) (hL : ((sc.1.1 : Nat) : Int) ≤ 4096) (hx : ∀ j, InI (sc.1.2 j)) (hS : Sim μ) (h : ∀ μ', Sim μ' → Rp (stp_120000 sc) (RM sc 13) P (1724, lwLx x3, [], fs lwAc μ')) : Rp (stp_120000 sc) (RM sc 13) P (1265, lwLx x3, [], fs lwAc μ) := by
  refine b_120000_1265 ⟨by omega, by omega, by omega, by omega, by omega, by omega, PR.go (p_first hS) fun v μ1 h1 => ?_⟩
  refine b_120000_1284 ⟨by omega, by omega, by omega, by omega, by omega, by omega, RMi_mono h1 fun v' μ2 h2 => ?_⟩
  obtain ⟨e, S2⟩ := h2
  subst e
  refine b_120000_1303 ⟨fun _ => ?_, fun z => absurd rfl z⟩
  exact h _ S2
theorem lc_24 {sc : Scr} {P : Option AV → AS → Prop} {μ : Mem} {x3 : Int} (hi : 0 ≤ x3) (hj : x3 + 8 ≤ ((sc.1.1 : Nat) : Int)) (hL : ((sc.1.1 : Nat) : Int) ≤ 4096) (hx : ∀ j, InI (sc.1.2 j)) (hS : Sim μ) (h : ∀ μ', Sim μ' → Rp (stp_120000 sc) (RM sc 13) P (1724, lwLx x3, [], fs lwAc μ')) : Rp (stp_120000 sc) (RM sc 13) P (1308, lwLx x3, [], fs lwAc μ) := by
  refine b_120000_1308 ⟨by omega, by omega, by omega, by omega, by omega, by omega, by omega, by omega, PR.go (p_cross hS) fun v μ1 h1 => ?_⟩
  refine b_120000_1332 ⟨by omega, by omega, by omega, by omega, by omega, by omega, by omega, by omega, RMi_mono h1 fun v' μ2 h2 => ?_⟩
  obtain ⟨e, S2⟩ := h2
  subst e
  refine b_120000_1356 ⟨fun _ => ?_, fun z => absurd rfl z⟩
  exact h _ S2
theorem lc_25 {sc : Scr} {P : Option AV → AS → Prop} {μ : Mem} {x3 : Int} (hi : 0 ≤ x3) (hj : x3 + 8 ≤ ((sc.1.1 : Nat) : Int)) (hL : ((sc.1.1 : Nat) : Int) ≤ 4096) (hx : ∀ j, InI (sc.1.2 j)) (hS : Sim μ) (h : ∀ μ', Sim μ' → Rp (stp_120000 sc) (RM sc 13) P (1724, lwLx x3, [], fs lwAc μ')) : Rp (stp_120000 sc) (RM sc 13) P (1361, lwLx x3, [], fs lwAc μ) := by
  refine b_120000_1361 ⟨by omega, by omega, by omega, by omega, by omega, by omega, PR.go (p_chirp hS) fun v μ1 h1 => ?_⟩
  refine b_120000_1380 ⟨by omega, by omega, by omega, by omega, by omega, by omega, RMi_mono h1 fun v' μ2 h2 => ?_⟩
  obtain ⟨e, S2⟩ := h2
  subst e
  refine b_120000_1399 ⟨fun _ => ?_, fun z => absurd rfl z⟩
  exact h _ S2
theorem lc_26 {sc : Scr} {P : Option AV → AS → Prop} {μ : Mem} {x3 : Int} (hi : 0 ≤ x3) (hj : x3 + 8 ≤ ((sc.1.1 : Nat) : Int)) (hL : ((sc.1.1 : Nat) : Int) ≤ 4096) (hx : ∀ j, InI (sc.1.2 j)) (hS : Sim μ) (h : ∀ μ', Sim μ' → Rp (stp_120000 sc) (RM sc 13) P (1724, lwLx x3, [], fs lwAc μ')) : Rp (stp_120000 sc) (RM sc 13) P (1404, lwLx x3, [], fs lwAc μ) := by
  refine b_120000_1404 ⟨by omega, by omega, by omega, by omega, by omega, by omega, by omega, by omega, PR.go (p_tell hS) fun v μ1 h1 => ?_⟩
  refine b_120000_1428 ⟨by omega, by omega, by omega, by omega, by omega, by omega, by omega, by omega, RMi_mono h1 fun v' μ2 h2 => ?_⟩
  obtain ⟨e, S2⟩ := h2
  subst e
  refine b_120000_1452 ⟨fun _ => ?_, fun z => absurd rfl z⟩
  exact h _ S2
theorem lc_27 {sc : Scr} {P : Option AV → AS → Prop} {μ : Mem} {x3 : Int} (hi : 0 ≤ x3) (hj : x3 + 8 ≤ ((sc.1.1 : Nat) : Int)) (hL : ((sc.1.1 : Nat) : Int) ≤ 4096) (hx : ∀ j, InI (sc.1.2 j)) (hS : Sim μ) (h : ∀ μ', Sim μ' → Rp (stp_120000 sc) (RM sc 13) P (1724, lwLx x3, [], fs lwAc μ')) : Rp (stp_120000 sc) (RM sc 13) P (1457, lwLx x3, [], fs lwAc μ) := by
  refine b_120000_1457 (PR.go (p_forget hS) fun v μ1 h1 => ?_)
  refine b_120000_1461 (RMi_mono h1 fun v' μ2 h2 => ?_)
  obtain ⟨e, S2⟩ := h2
  subst e
  refine b_120000_1465 ⟨fun _ => ?_, fun z => absurd rfl z⟩
  exact h _ S2
theorem lc_28 {sc : Scr} {P : Option AV → AS → Prop} {μ : Mem} {x3 : Int} (hi : 0 ≤ x3) (hj : x3 + 8 ≤ ((sc.1.1 : Nat) : Int)) (hL : ((sc.1.1 : Nat) : Int) ≤ 4096) (hx : ∀ j, InI (sc.1.2 j)) (hS : Sim μ) (h : ∀ μ', Sim μ' → Rp (stp_120000 sc) (RM sc 13) P (1724, lwLx x3, [], fs lwAc μ')) : Rp (stp_120000 sc) (RM sc 13) P (1470, lwLx x3, [], fs lwAc μ) := by
  refine b_120000_1470 ⟨by omega, by omega, by omega, by omega, PR.go (p_hidden hS) fun v μ1 h1 => ?_⟩
  refine b_120000_1484 ⟨by omega, by omega, by omega, by omega, RMi_mono h1 fun v' μ2 h2 => ?_⟩
  obtain ⟨e, S2⟩ := h2
  subst e
  refine b_120000_1498 ⟨fun _ => ?_, fun z => absurd rfl z⟩
  exact h _ S2
theorem lc_29 {sc : Scr} {P : Option AV → AS → Prop} {μ : Mem} {x3 : Int} (hi : 0 ≤ x3) (hj : x3 + 8 ≤ ((sc.1.1 : Nat) : Int)) (hL : ((sc.1.1 : Nat) : Int) ≤ 4096) (hx : ∀ j, InI (sc.1.2 j)) (hS : Sim μ) (h : ∀ μ', Sim μ' → Rp (stp_120000 sc) (RM sc 13) P (1724, lwLx x3, [], fs lwAc μ')) : Rp (stp_120000 sc) (RM sc 13) P (1503, lwLx x3, [], fs lwAc μ) := by
  refine b_120000_1503 ⟨by omega, by omega, by omega, by omega, PR.go (p_next hS) fun v μ1 h1 => ?_⟩
  refine b_120000_1517 ⟨by omega, by omega, by omega, by omega, RMi_mono h1 fun v' μ2 h2 => ?_⟩
  obtain ⟨e, S2⟩ := h2
  subst e
  refine b_120000_1531 ⟨fun _ => ?_, fun z => absurd rfl z⟩
  exact h _ S2
theorem lc_30 {sc : Scr} {P : Option AV → AS → Prop} {μ : Mem} {x3 : Int} (hi : 0 ≤ x3) (hj : x3 + 8 ≤ ((sc.1.1 : Nat) : Int)) (hL : ((sc.1.1 : Nat) : Int) ≤ 4096) (hx : ∀ j, InI (sc.1.2 j)) (hS : Sim μ) (h : ∀ μ', Sim μ' → Rp (stp_120000 sc) (RM sc 13) P (1724, lwLx x3, [], fs lwAc μ')) : Rp (stp_120000 sc) (RM sc 13) P (1536, lwLx x3, [], fs lwAc μ) := by
  refine b_120000_1536 ⟨by omega, by omega, by omega, by omega, by omega, by omega, by omega, by omega, PR.go (p_shout hS) fun v μ1 h1 => ?_⟩
  refine b_120000_1560 ⟨by omega, by omega, by omega, by omega, by omega, by omega, by omega, by omega, RMi_mono h1 fun v' μ2 h2 => ?_⟩
  obtain ⟨e, S2⟩ := h2
  subst e
  refine b_120000_1584 ⟨fun _ => ?_, fun z => absurd rfl z⟩
  exact h _ S2
theorem lc_31 {sc : Scr} {P : Option AV → AS → Prop} {μ : Mem} {x3 : Int} (hi : 0 ≤ x3) (hj : x3 + 8 ≤ ((sc.1.1 : Nat) : Int)) (hL : ((sc.1.1 : Nat) : Int) ≤ 4096) (hx : ∀ j, InI (sc.1.2 j)) (hS : Sim μ) (h : ∀ μ', Sim μ' → Rp (stp_120000 sc) (RM sc 13) P (1724, lwLx x3, [], fs lwAc μ')) : Rp (stp_120000 sc) (RM sc 13) P (1589, lwLx x3, [], fs lwAc μ) := by
  refine b_120000_1589 ⟨by omega, by omega, by omega, by omega, PR.go (p_fitting hS) fun v μ1 h1 => ?_⟩
  refine b_120000_1603 ⟨by omega, by omega, by omega, by omega, RMi_mono h1 fun v' μ2 h2 => ?_⟩
  obtain ⟨e, S2⟩ := h2
  subst e
  refine b_120000_1617 ⟨fun _ => ?_, fun z => absurd rfl z⟩
  exact h _ S2
theorem lc_32 {sc : Scr} {P : Option AV → AS → Prop} {μ : Mem} {x3 : Int} (hi : 0 ≤ x3) (hj : x3 + 8 ≤ ((sc.1.1 : Nat) : Int)) (hL : ((sc.1.1 : Nat) : Int) ≤ 4096) (hx : ∀ j, InI (sc.1.2 j)) (hS : Sim μ) (h : ∀ μ', Sim μ' → Rp (stp_120000 sc) (RM sc 13) P (1724, lwLx x3, [], fs lwAc μ')) : Rp (stp_120000 sc) (RM sc 13) P (1622, lwLx x3, [], fs lwAc μ) := by
  refine b_120000_1622 ⟨by omega, by omega, by omega, by omega, PR.go (p_step hS) fun v μ1 h1 => ?_⟩
  refine b_120000_1636 ⟨by omega, by omega, by omega, by omega, RMi_mono h1 fun v' μ2 h2 => ?_⟩
  obtain ⟨e, S2⟩ := h2
  subst e
  refine b_120000_1650 ⟨fun _ => ?_, fun z => absurd rfl z⟩
  exact h _ S2
theorem lc_33 {sc : Scr} {P : Option AV → AS → Prop} {μ : Mem} {x3 : Int} (hi : 0 ≤ x3) (hj : x3 + 8 ≤ ((sc.1.1 : Nat) : Int)) (hL : ((sc.1.1 : Nat) : Int) ≤ 4096) (hx : ∀ j, InI (sc.1.2 j)) (hS : Sim μ) (h : ∀ μ', Sim μ' → Rp (stp_120000 sc) (RM sc 13) P (1724, lwLx x3, [], fs lwAc μ')) : Rp (stp_120000 sc) (RM sc 13) P (1655, lwLx x3, [], fs lwAc μ) := by
  refine b_120000_1655 ⟨by omega, by omega, PR.go (p_hold hS) fun v μ1 h1 => ?_⟩
  refine b_120000_1664 ⟨by omega, by omega, RMi_mono h1 fun v' μ2 h2 => ?_⟩
  obtain ⟨e, S2⟩ := h2
  subst e
  refine b_120000_1673 ⟨fun _ => ?_, fun z => absurd rfl z⟩
  exact h _ S2
theorem lc_34 {sc : Scr} {P : Option AV → AS → Prop} {μ : Mem} {x3 : Int} (hi : 0 ≤ x3) (hj : x3 + 8 ≤ ((sc.1.1 : Nat) : Int)) (hL : ((sc.1.1 : Nat) : Int) ≤ 4096) (hx : ∀ j, InI (sc.1.2 j)) (hS : Sim μ) (h : ∀ μ', Sim μ' → Rp (stp_120000 sc) (RM sc 13) P (1724, lwLx x3, [], fs lwAc μ')) : Rp (stp_120000 sc) (RM sc 13) P (1678, lwLx x3, [], fs lwAc μ) := by
  refine b_120000_1678 ⟨by omega, by omega, PR.go (p_restore hS) fun v μ1 h1 => ?_⟩
  refine b_120000_1687 ⟨by omega, by omega, RMi_mono h1 fun v' μ2 h2 => ?_⟩
  obtain ⟨e, S2⟩ := h2
  subst e
  refine b_120000_1696 ⟨fun _ => ?_, fun z => absurd rfl z⟩
  exact h _ S2
theorem lc_35 {sc : Scr} {P : Option AV → AS → Prop} {μ : Mem} {x3 : Int} (hi : 0 ≤ x3) (hj : x3 + 8 ≤ ((sc.1.1 : Nat) : Int)) (hL : ((sc.1.1 : Nat) : Int) ≤ 4096) (hx : ∀ j, InI (sc.1.2 j)) (hS : Sim μ) (h : ∀ μ', Sim μ' → Rp (stp_120000 sc) (RM sc 13) P (1724, lwLx x3, [], fs lwAc μ')) : Rp (stp_120000 sc) (RM sc 13) P (1701, lwLx x3, [], fs lwAc μ) := by
  refine b_120000_1701 ⟨by omega, by omega, PR.go (p_count hS) fun v μ1 h1 => ?_⟩
  refine b_120000_1710 ⟨by omega, by omega, RMi_mono h1 fun v' μ2 h2 => ?_⟩
  obtain ⟨e, S2⟩ := h2
  subst e
  refine b_120000_1719 ⟨fun _ => ?_, fun z => absurd rfl z⟩
  exact h _ S2
theorem lw_loop {sc : Scr} {P : Option AV → AS → Prop} (hL : ((sc.1.1 : Nat) : Int) ≤ 4096) (hx : ∀ j, InI (sc.1.2 j)) (hP : ∀ μ', P (some (.inl 1)) (fs lwAc μ')) : ∀ (m : Nat) (x3 : Int) (μ : Mem), 0 ≤ x3 → ((sc.1.1 : Nat) : Int) < x3 + (m : Int) → Sim μ → Rp (stp_120000 sc) (RM sc 13) P (18, lwLx x3, [], fs lwAc μ) := by
  intro m
  induction m with
  | zero =>
    intro x3 μ h0 hm hS
    refine b_120000_18 ⟨by omega, fun z => ?_, fun z => absurd (by omega) z⟩
    exact b_120000_1730 ⟨Or.inr rfl, hP _⟩
  | succ m ih =>
    intro x3 μ h0 hm hS
    refine b_120000_18 ⟨by omega, fun z => ?_, fun z => ?_⟩
    · exact b_120000_1730 ⟨Or.inr rfl, hP _⟩
    · have nx : ∀ μ', Sim μ' → Rp (stp_120000 sc) (RM sc 13) P (1724, lwLx x3, [], fs lwAc μ') := fun μ' S' => b_120000_1724 ⟨by omega, ih (x3 + 8) μ' (by omega) (by omega) S'⟩
      exact b_120000_27 ⟨by omega, fun _ => lc_0 h0 (by omega) hL hx hS nx, fun _ => lc_1 h0 (by omega) hL hx hS nx, fun _ => lc_2 h0 (by omega) hL hx hS nx, fun _ => lc_3 h0 (by omega) hL hx hS nx, fun _ => lc_4 h0 (by omega) hL hx hS nx, fun _ => lc_5 h0 (by omega) hL hx hS nx, fun _ => lc_6 h0 (by omega) hL hx hS nx, fun _ => lc_7 h0 (by omega) hL hx hS nx, fun _ => lc_8 h0 (by omega) hL hx hS nx, fun _ => lc_9 h0 (by omega) hL hx hS nx, fun _ => lc_10 h0 (by omega) hL hx hS nx, fun _ => lc_11 h0 (by omega) hL hx hS nx, fun _ => lc_12 h0 (by omega) hL hx hS nx, fun _ => lc_13 h0 (by omega) hL hx hS nx, fun _ => lc_14 h0 (by omega) hL hx hS nx, fun _ => lc_15 h0 (by omega) hL hx hS nx, fun _ => lc_16 h0 (by omega) hL hx hS nx, fun _ => lc_17 h0 (by omega) hL hx hS nx, fun _ => lc_18 h0 (by omega) hL hx hS nx, fun _ => lc_19 h0 (by omega) hL hx hS nx, fun _ => lc_20 h0 (by omega) hL hx hS nx, fun _ => lc_21 h0 (by omega) hL hx hS nx, fun _ => lc_22 h0 (by omega) hL hx hS nx, fun _ => lc_23 h0 (by omega) hL hx hS nx, fun _ => lc_24 h0 (by omega) hL hx hS nx, fun _ => lc_25 h0 (by omega) hL hx hS nx, fun _ => lc_26 h0 (by omega) hL hx hS nx, fun _ => lc_27 h0 (by omega) hL hx hS nx, fun _ => lc_28 h0 (by omega) hL hx hS nx, fun _ => lc_29 h0 (by omega) hL hx hS nx, fun _ => lc_30 h0 (by omega) hL hx hS nx, fun _ => lc_31 h0 (by omega) hL hx hS nx, fun _ => lc_32 h0 (by omega) hL hx hS nx, fun _ => lc_33 h0 (by omega) hL hx hS nx, fun _ => lc_34 h0 (by omega) hL hx hS nx, fun _ => lc_35 h0 (by omega) hL hx hS nx, fun _ => nx _ hS⟩
