/-! MATHEMATICS, 32: returns, at -/
noncomputable abbrev RT (μ : Mem) (s x y u v : Int) : Lst := rets (μ 9) (μ 1 0 7) (μ 1 0 8) s x y u v
abbrev Pm (μ : Mem) (x y : Int) : Prop := (0 ≤ x ∧ x < μ 1 0 5) ∧ (0 ≤ y ∧ y < μ 1 0 6)
abbrev Ld (s : Int) : Prop := 1 ≤ s ∧ s ≤ 99
theorem SW.gq {μ : Mem} (h : SW μ) : Gq (μ 9) (gM μ) := by
  obtain ⟨l, n, n8, wl', wn, g8, fl⟩ := h
  intro w hw
  by_cases c : (w : Int) < μ 1 0 1
  · obtain ⟨a, b, _, _⟩ := wl' w c
    refine ⟨?_, fun _ => a⟩
    rw [b]
    unfold gM
    rw [if_pos rfl, if_pos (Or.inl (by rw [n]; exact c))]
  · have z := wn w hw (by omega)
    refine ⟨?_, fun t => absurd z t⟩
    rw [z]
    unfold gM
    rw [if_pos rfl]
    by_cases q : w = 8
    · subst q
      rw [if_pos (Or.inr rfl)]
      exact g8.symm
    · rw [if_neg (by rw [n]; omega)]
theorem Sim.co {μ : Mem} (h : Sim μ) : CO μ := by
  obtain ⟨⟨l, n, n8, wl', wn, g8, fl⟩, ⟨⟨_, p⟩, ⟨_, f⟩, _⟩, _⟩ := h
  refine ⟨fun k hk t => ?_, p, f⟩
  by_cases c : (k : Int) < μ 1 0 1
  · exact (wl' k c).2.2
  · exact absurd (wn k hk (by omega)) t
theorem Sim.gq {μ : Mem} (h : Sim μ) : Gq (μ 9) (gM μ) := h.1.gq
theorem gok_c {g g' : Gf} {w : Nat} (h : ∀ k, k < 5 → g w k = g' w k) (hg : gok g w) : gok g' w := by
  unfold gok at *
  rw [← h 0 (by decide), ← h 1 (by decide), ← h 2 (by decide), ← h 3 (by decide)]
  exact hg
theorem MO_of {μ : Mem} (l : liv μ) (hg : Gq (μ 9) (gM μ)) (hC : CO μ) (n : 0 ≤ μ 48 0 (lvM μ) ∧ μ 48 0 (lvM μ) ≤ 8) (fl : ∀ j, j < 18 → μ 54 0 j = 0 ∨ μ 54 0 j = 1) (e7 : μ 11 0 48 = μ 1 0 7) (e8 : fallM μ = μ 1 0 8) : MO μ := by
  have l' := l
  unfold liv at l'
  refine ⟨⟨l, n, fun w hw => fl _ (by omega), fun w hw t => ?_⟩, fun w hw t => ?_, by rw [e7]; exact hC.2.1, by rw [e8]; exact hC.2.2⟩
  · have t' : μ 9 w 5 ≠ 0 := by rw [(hg w hw).1]; exact t
    exact gok_c ((hg w hw).2 t') (hC.1 w hw t').1
  · have t' : μ 9 w 5 ≠ 0 := by rw [(hg w hw).1]; exact t
    rw [← (hg w hw).2 t' 4 (by decide)]
    exact (hC.1 w hw t').2
theorem Sim.mo {μ : Mem} (h : Sim μ) : MO μ := MO_of h.1.1 h.gq h.co (by rw [h.1.2.1]; exact h.1.2.2.1) h.1.2.2.2.2.2.2 h.2.1.1.1 h.2.1.2.1.1
theorem Sim.rets {μ : Mem} (h : Sim μ) (s x y u v : Int) : rets (gM μ) (μ 11 0 48) (fallM μ) s x y u v = RT μ s x y u v := by
  have e1 : μ 11 0 48 = μ 1 0 7 := h.2.1.1.1
  have e2 : fallM μ = μ 1 0 8 := h.2.1.2.1.1
  rw [e1, e2, ← h.gq.rets]
theorem Sim.pl {μ : Mem} (h : Sim μ) {x y : Int} (p : Pm μ x y) : Pl x y := by
  have a := h.2.1.2.2.2.1.2
  have b := h.2.1.2.2.2.2.2
  unfold Pm at p
  omega
theorem CO.tb {μ : Mem} (h : CO μ) {s x y u v : Int} (p : Pl x y) (q : Pl u v) : Tb (RT μ s x y u v) := rets_t (g := μ 9) (fun w hw t => (h.1 w hw t).1) p q h.2.1.1
theorem sp_holds {sc : Scr} {d t : Nat} {μ : Mem} {Q : Int → Mem → Prop} {x y : Int} (h1 : Pm μ x y → Q 1 μ) (h0 : ¬ Pm μ x y → Q 0 μ) : RMi sc (d + 1) 1006 [rfc 1 0, .inl x, .inl y] (t, 0, 0) μ Q := by
  refine m_1006 ⟨fun c => h0 (by omega), fun c => ⟨fun c2 => h0 (by omega), fun c2 => ⟨fun c3 => h0 (by omega), fun c3 => ⟨fun c4 => h0 (by omega), fun c4 => h1 (by omega)⟩⟩⟩⟩
theorem sp_in {sc : Scr} {d t : Nat} {μ : Mem} {Q : Int → Mem → Prop} {x a b : Int} (h1 : a ≤ x ∧ x ≤ b → Q 1 μ) (h0 : ¬ (a ≤ x ∧ x ≤ b) → Q 0 μ) : RMi sc (d + 1) 11031 [.inl x, .inl a, .inl b] (t, 0, 0) μ Q :=
  m_11031 ⟨fun c => h0 (by omega), fun c => ⟨fun c2 => h0 (by omega), fun c2 => h1 (by omega)⟩⟩
theorem sp_isPlace {sc : Scr} {d t : Nat} {μ : Mem} {Q : Int → Mem → Prop} {x y : Int} (hl : liv μ) (hN : SN μ) (h1 : Pm μ x y → Q 1 μ) (h0 : ¬ Pm μ x y → Q 0 μ) : RMi sc (d + 2) 11036 [rfc 11 0, .inl x, .inl y] (t, 0, 0) μ Q := by
  have a := hN.2.2.2.1
  have b := hN.2.2.2.2
  unfold liv at hl
  unfold lvM at a b
  refine m_11036 ⟨by omega, by omega, sp_in (fun c => ⟨fun z => absurd z (by decide), fun _ => ⟨by omega, by omega, sp_in (fun c2 => ⟨fun z => absurd z (by decide), fun _ => h1 (by omega)⟩) (fun c2 => ⟨fun _ => h0 (by omega), fun z => absurd rfl z⟩)⟩⟩) (fun c => ⟨fun _ => h0 (by omega), fun z => absurd rfl z⟩)⟩
theorem sp_isLoud {sc : Scr} {d t : Nat} {μ : Mem} {Q : Int → Mem → Prop} {s : Int} (h1 : Ld s → Q 1 μ) (h0 : ¬ Ld s → Q 0 μ) : RMi sc (d + 1) 14 [.inl s] (t, 0, 0) μ Q :=
  m_14 ⟨fun c => h0 (by omega), fun c => ⟨fun c2 => h0 (by omega), fun c2 => h1 (by omega)⟩⟩
theorem sp_isLoudM {sc : Scr} {d t : Nat} {μ : Mem} {Q : Int → Mem → Prop} {s : Int} (h1 : Ld s → Q 1 μ) (h0 : ¬ Ld s → Q 0 μ) : RMi sc (d + 2) 11037 [.inl s] (t, 0, 0) μ Q :=
  m_11037 (sp_in (fun c => ⟨Or.inr rfl, h1 c⟩) (fun c => ⟨Or.inl rfl, h0 c⟩))
theorem Ld.b {s : Int} (h : Ld s) : 0 ≤ s ∧ s ≤ 99 := by omega
abbrev VR (μ : Mem) (x y u v s : Int) : Prop := Pm μ x y ∧ Pm μ u v ∧ Ld s
theorem sp_13 {sc : Scr} {d t : Nat} {μ : Mem} {Q : Int → Mem → Prop} {x y u v s : Int} (hS : Sim μ) (h1 : VR μ x y u v s → ∀ μ', FW μ μ' → LCl μ' (RT μ s x y u v) → Q ((RT μ s x y u v).2 : Int) μ') (h0 : ¬ VR μ x y u v s → Q (-1) μ) : RMi sc (d + 5) 13 [rfc 0 0, .inl x, .inl y, .inl u, .inl v, .inl s] (t, 0, 0) μ Q := by
  refine m_13 (sp_holds (fun p => ⟨fun z => absurd z (by decide), fun _ => sp_holds (fun q => ⟨fun z => absurd z (by decide), fun _ => sp_isLoud (fun l => ⟨fun _ => ?_, fun z => absurd (by decide) z⟩) (fun l => ⟨fun z => absurd rfl z, fun _ => h0 fun z => l z.2.2⟩)⟩) (fun q => ⟨fun _ => h0 fun z => q z.2.1, fun z => absurd rfl z⟩)⟩) (fun p => ⟨fun _ => h0 fun z => p z.1, fun z => absurd rfl z⟩))
  refine sp_span fun μ1 F1 s1 => sp_gather (hS.co.f8 F1) (hS.pl p) (hS.pl q) s1 l.b fun μ2 F2 L2 => ?_
  have e9 : μ1 9 = μ 9 := F1.c (by decide)
  have e1 : μ1 1 = μ 1 := F1.c (by decide)
  rw [e9, e1] at L2
  rw [L2.1]
  exact h1 ⟨p, q, l⟩ μ2 (F1.fw.trans F2.fw) L2
theorem sp_13M {sc : Scr} {d t : Nat} {μ : Mem} {Q : Int → Mem → Prop} {x y u v s : Int} (hS : Sim μ) (h1 : VR μ x y u v s → ∀ μ', FW μ μ' → LMl μ' (RT μ s x y u v) → Q ((RT μ s x y u v).2 : Int) μ') (h0 : ¬ VR μ x y u v s → Q (-1) μ) : RMi sc (d + 6) 11035 [rfc 11 0, .inl x, .inl y, .inl u, .inl v, .inl s] (t, 0, 0) μ Q := by
  have l := hS.1.1
  have n := hS.2.1
  refine m_11035 (sp_isPlace l n (fun p => ⟨fun z => absurd z (by decide), fun _ => sp_isPlace l n (fun q => ⟨fun z => absurd z (by decide), fun _ => sp_isLoudM (fun l => ⟨fun _ => ?_, fun z => absurd (by decide) z⟩) (fun l => ⟨fun z => absurd rfl z, fun _ => h0 fun z => l z.2.2⟩)⟩) (fun q => ⟨fun _ => h0 fun z => q z.2.1, fun z => absurd rfl z⟩)⟩) (fun p => ⟨fun _ => h0 fun z => p z.1, fun z => absurd rfl z⟩))
  refine sp_fills hS.mo (hS.pl p) (hS.pl q) l.b fun μ2 F2 L2 => ?_
  rw [hS.rets] at L2
  rw [L2.1]
  exact h1 ⟨p, q, l⟩ μ2 F2.fw L2
/-- what holds of the two in one call -/
def PR (sc : Scr) (t : Nat) (μ : Mem) (j jm : Nat) (as : List AV) : Prop := RMi sc 13 j (rfc 0 0 :: as) (t, 0, 0) μ (fun v μ1 => RMi sc 13 jm (rfc 11 0 :: as) (t, 0, 0) μ1 (fun v' μ2 => v = v' ∧ Sim μ2))
theorem FW.rt {μ μ' : Mem} (h : FW μ μ') (hS : Sim μ) (s x y u v : Int) : RT μ' s x y u v = RT μ s x y u v := by
  have e1 : μ' 1 = μ 1 := h.1 1 (by unfold Kp; omega)
  unfold RT
  rw [e1]
  refine Gq.rets (fun w hw => ?_) _ _ _ _ _ _ _
  by_cases q : w = 8
  · subst q
    refine ⟨h.2.2.2.1, fun z => absurd ?_ z⟩
    rw [h.2.2.2.1]
    exact hS.1.2.2.2.2.1 8 (by decide) hS.1.2.2.1.2
  · rw [h.2.2.1 w (by omega)]
    exact ⟨Eq.refl _, fun _ _ _ => Eq.refl _⟩
theorem FW.pm {μ μ' : Mem} (h : FW μ μ') (x y : Int) : Pm μ' x y ↔ Pm μ x y := by
  unfold Pm
  rw [h.1 1 (by unfold Kp; omega)]
theorem p_returns {sc : Scr} {t : Nat} {μ : Mem} {x y u v s : Int} (hS : Sim μ) : PR sc t μ 13 11035 [.inl x, .inl y, .inl u, .inl v, .inl s] := by
  refine sp_13 hS (fun c μ1 F1 L1 => ?_) (fun c => sp_13M hS (fun c2 => absurd c2 c) (fun _ => ⟨rfl, hS⟩))
  have S1 := hS.fw F1
  refine sp_13M S1 (fun c2 μ2 F2 L2 => ⟨by rw [F1.rt hS], S1.fw F2⟩) (fun c2 => absurd ⟨(F1.pm _ _).mpr c.1, (F1.pm _ _).mpr c.2.1, c.2.2⟩ c2)
theorem p_at {sc : Scr} {t : Nat} {μ : Mem} {x y u v s i k : Int} (hS : Sim μ) : PR sc t μ 17 11057 [.inl x, .inl y, .inl u, .inl v, .inl s, .inl i, .inl k] := by
  have M : ∀ (μ : Mem) (Q : Int → Mem → Prop), Sim μ → (VR μ x y u v s → 0 ≤ k ∧ k ≤ 3 → ∀ n : Nat, i = (n : Int) → n < (RT μ s x y u v).2 → ∀ μ', FW μ μ' → Q (if k = 0 then ((RT μ s x y u v).1 n).1 else if k = 1 then ((RT μ s x y u v).1 n).2.1 else if k = 2 then ((RT μ s x y u v).1 n).2.2.1 else ((RT μ s x y u v).1 n).2.2.2) μ') → ((¬ VR μ x y u v s ∨ ¬ (0 ≤ k ∧ k ≤ 3) ∨ ¬ (0 ≤ i ∧ i < ((RT μ s x y u v).2 : Int))) → ∀ μ', FW μ μ' → Q (-1) μ') → RMi sc 13 11057 [rfc 11 0, .inl x, .inl y, .inl u, .inl v, .inl s, .inl i, .inl k] (t, 0, 0) μ Q := by
    intro μ Q hS h1 h0
    have l := hS.1.1
    have n := hS.2.1
    refine m_11057 (sp_isPlace l n (fun p => ⟨fun z => absurd z (by decide), fun _ => sp_isPlace l n (fun q => ⟨fun z => absurd z (by decide), fun _ => sp_isLoudM (fun l => ⟨fun z => absurd z (by decide), fun _ => sp_in (fun ck => ⟨fun _ => ?_, fun z => absurd (by decide) z⟩) (fun ck => ⟨fun z => absurd rfl z, fun _ => h0 (Or.inr (Or.inl ck)) _ FW.rfl⟩)⟩) (fun l => ⟨fun _ => h0 (Or.inl fun z => l z.2.2) _ FW.rfl, fun z => absurd rfl z⟩)⟩) (fun q => ⟨fun _ => h0 (Or.inl fun z => q z.2.1) _ FW.rfl, fun z => absurd rfl z⟩)⟩) (fun p => ⟨fun _ => h0 (Or.inl fun z => p z.1) _ FW.rfl, fun z => absurd rfl z⟩))
    refine sp_fills hS.mo (hS.pl p) (hS.pl q) l.b fun μ2 F2 L2 => ?_
    rw [hS.rets] at L2
    have h82 := (hS.co.tb (s := s) (hS.pl p) (hS.pl q)).1
    have e64 := L2.1
    refine ⟨by omega, sp_in (fun ci => ⟨fun _ => ?_, fun z => absurd (by decide) z⟩) (fun ci => ⟨fun z => absurd rfl z, fun _ => h0 (Or.inr (Or.inr (by omega))) _ F2.fw⟩)⟩
    obtain ⟨m, rfl⟩ := Int.eq_ofNat_of_zero_le ci.1
    obtain ⟨a0, a1, a2, a3⟩ := L2.e (i := m) (by omega)
    have r := h1 ⟨p, q, l⟩ ck m rfl (by omega) μ2 F2.fw
    rw [Int.toNat_natCast, a0, a1, a2, a3]
    refine ⟨fun c0 => ⟨fun c1 => ⟨fun c2 => ⟨by omega, ?_⟩, fun c2 => ⟨by omega, ?_⟩⟩, fun c1 => ⟨by omega, ?_⟩⟩, fun c0 => ⟨by omega, ?_⟩⟩
    · rw [if_neg c0, if_neg c1, if_neg c2] at r
      exact r
    · rw [if_neg c0, if_neg c1, if_pos (by omega)] at r
      exact r
    · rw [if_neg c0, if_pos (by omega)] at r
      exact r
    · rw [if_pos (by omega)] at r
      exact r
  have fin1 : (VR μ x y u v s → 0 ≤ k ∧ k ≤ 3 → ∀ n : Nat, i = (n : Int) → n < (RT μ s x y u v).2 → ∀ μ1, FW μ μ1 → RMi sc 13 11057 [rfc 11 0, .inl x, .inl y, .inl u, .inl v, .inl s, .inl i, .inl k] (t, 0, 0) μ1 (fun v' μ2 => (if k = 0 then ((RT μ s x y u v).1 n).1 else if k = 1 then ((RT μ s x y u v).1 n).2.1 else if k = 2 then ((RT μ s x y u v).1 n).2.2.1 else ((RT μ s x y u v).1 n).2.2.2) = v' ∧ Sim μ2)) := by
    intro c ck n hn hn2 μ1 F1
    have S1 := hS.fw F1
    refine M μ1 _ S1 (fun _ _ n' hn' _ μ2 F2 => ⟨?_, S1.fw F2⟩) (fun c2 => ?_)
    · have : n' = n := by omega
      rw [F1.rt hS, this]
    · rw [F1.rt hS] at c2
      rcases c2 with c2 | c2 | c2
      · exact absurd ⟨(F1.pm _ _).mpr c.1, (F1.pm _ _).mpr c.2.1, c.2.2⟩ c2
      · exact absurd ck c2
      · omega
  have fin0 : (¬ VR μ x y u v s ∨ ¬ (0 ≤ k ∧ k ≤ 3) ∨ ¬ (0 ≤ i ∧ i < ((RT μ s x y u v).2 : Int))) → ∀ μ1, FW μ μ1 → RMi sc 13 11057 [rfc 11 0, .inl x, .inl y, .inl u, .inl v, .inl s, .inl i, .inl k] (t, 0, 0) μ1 (fun v' μ2 => -1 = v' ∧ Sim μ2) := by
    intro c μ1 F1
    have S1 := hS.fw F1
    refine M μ1 _ S1 (fun c2 ck n' hn' hn2 μ2 F2 => ?_) (fun _ μ2 F2 => ⟨rfl, S1.fw F2⟩)
    rw [F1.rt hS] at hn2
    rcases c with c | c | c
    · exact absurd ⟨(F1.pm _ _).mp c2.1, (F1.pm _ _).mp c2.2.1, c2.2.2⟩ c
    · exact absurd ck c
    · omega
  refine m_17 (sp_13 hS (fun c μ1 F1 L1 => ⟨fun ci => fin0 (by omega) μ1 F1, fun ci => ⟨fun ci2 => ?_, fun ci2 => fin0 (by omega) μ1 F1⟩⟩) (fun c => ⟨fun _ => fin0 (Or.inl c) _ FW.rfl, fun _ => ⟨fun ci => absurd ci (by omega), fun _ => fin0 (Or.inl c) _ FW.rfl⟩⟩))
  obtain ⟨m, rfl⟩ := Int.eq_ofNat_of_zero_le (by omega : 0 ≤ i)
  obtain ⟨a0, a1, a2, a3⟩ := L1.e (i := m) (by omega)
  have h82 := (hS.co.tb (s := s) (hS.pl c.1) (hS.pl c.2.1)).1
  rw [Int.toNat_natCast, a0, a1, a2, a3]
  refine ⟨fun ck => ⟨by omega, ?_⟩, fun ck => ⟨by omega, ?_⟩, fun ck => ⟨by omega, ?_⟩, fun ck => ⟨by omega, ?_⟩, fun ck => fin0 (by omega) μ1 F1⟩
  · have r := fin1 c (by omega) m rfl (by omega) μ1 F1
    rw [if_pos ck] at r
    exact r
  · have r := fin1 c (by omega) m rfl (by omega) μ1 F1
    rw [if_neg (by omega), if_pos ck] at r
    exact r
  · have r := fin1 c (by omega) m rfl (by omega) μ1 F1
    rw [if_neg (by omega), if_neg (by omega), if_pos ck] at r
    exact r
  · have r := fin1 c (by omega) m rfl (by omega) μ1 F1
    rw [if_neg (by omega), if_neg (by omega), if_neg (by omega)] at r
    exact r
