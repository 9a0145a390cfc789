/-! MATHEMATICS, 44: tell, shout -/
theorem sp_isTold {sc : Scr} {d t : Nat} {μ : Mem} {Q : Int → Mem → Prop} {s : Int} (h1 : 0 ≤ s ∨ s = -2 → Q 1 μ) (h0 : ¬ (0 ≤ s ∨ s = -2) → Q 0 μ) : RMi sc (d + 1) 48 [.inl s] (t, 0, 0) μ Q :=
  m_48 ⟨fun c => h1 (Or.inl c), fun c => ⟨fun c2 => h0 (by omega), fun c2 => h1 (by omega)⟩⟩
abbrev VT (μ : Mem) (x y l tm : Int) : Prop := Pm μ x y ∧ Ld l ∧ (0 ≤ tm ∨ tm = -2)
theorem sp_tellM {sc : Scr} {d t : Nat} {μ : Mem} {Q : Int → Mem → Prop} {x y l tm : Int} {N : Nat} (hl : liv μ) (hN : SN μ) (h71 : μ 11 0 71 = (N : Int)) (hn : N ≤ 20) (h1 : N < 20 → VT μ x y l tm → Q (N : Int) (pM μ 71 79 80 81 82 N x y l tm)) (h0 : (¬ N < 20 ∨ ¬ VT μ x y l tm) → Q (-1) μ) : RMi sc (d + 3) 11089 [rfc 11 0, .inl x, .inl y, .inl l, .inl tm] (t, 0, 0) μ Q := by
  have r1 : ∀ (m : Mem) (i k : Nat) (v : Int), wr m 79 i k v 11 = m 11 := fun _ _ _ _ => wr_c (by decide)
  have r2 : ∀ (m : Mem) (i k : Nat) (v : Int), wr m 80 i k v 11 = m 11 := fun _ _ _ _ => wr_c (by decide)
  have r3 : ∀ (m : Mem) (i k : Nat) (v : Int), wr m 81 i k v 11 = m 11 := fun _ _ _ _ => wr_c (by decide)
  have r4 : ∀ (m : Mem) (i k : Nat) (v : Int), wr m 82 i k v 11 = m 11 := fun _ _ _ _ => wr_c (by decide)
  refine m_11089 ⟨fun z => h0 (Or.inl (by omega)), fun z => sp_isPlace hl hN (fun p => ⟨fun z => absurd z (by decide), fun _ => sp_isLoudM (fun ll => ⟨fun z => absurd z (by decide), fun _ => ?_⟩) (fun ll => ⟨fun _ => h0 (Or.inr fun z => ll z.2.1), fun z => absurd rfl z⟩)⟩) (fun p => ⟨fun _ => h0 (Or.inr fun z => p z.1), fun z => absurd rfl z⟩)⟩
  simp only [r1, r2, r3, r4, h71, Int.toNat_natCast, wr_same]
  have r := h1 (by omega)
  have e : (N : Int) + 1 - 1 = N := by omega
  rw [e]
  refine ⟨fun c => ⟨by omega, by omega, by omega, by omega, by omega, by omega, r ⟨p, ll, Or.inr c⟩⟩, fun c => ⟨fun c2 => ⟨by omega, by omega, by omega, by omega, by omega, by omega, r ⟨p, ll, Or.inl (by omega)⟩⟩, fun c2 => h0 (Or.inr fun z => ?_)⟩⟩
  have := z.2.2
  omega
abbrev VS (x y l tm : Int) : Prop := (-40 ≤ x ∧ x ≤ 40) ∧ (-40 ≤ y ∧ y ≤ 40) ∧ Ld l ∧ (0 ≤ tm ∨ tm = -2)
theorem sp_shoutM {sc : Scr} {d t : Nat} {μ : Mem} {Q : Int → Mem → Prop} {x y l tm : Int} {N : Nat} (h71 : μ 11 0 80 = (N : Int)) (hn : N ≤ 20) (h1 : N < 20 → VS x y l tm → Q (N : Int) (pM μ 80 85 86 87 88 N x y l tm)) (h0 : (¬ N < 20 ∨ ¬ VS x y l tm) → Q (-1) μ) : RMi sc (d + 3) 11098 [rfc 11 0, .inl x, .inl y, .inl l, .inl tm] (t, 0, 0) μ Q := by
  have r1 : ∀ (m : Mem) (i k : Nat) (v : Int), wr m 85 i k v 11 = m 11 := fun _ _ _ _ => wr_c (by decide)
  have r2 : ∀ (m : Mem) (i k : Nat) (v : Int), wr m 86 i k v 11 = m 11 := fun _ _ _ _ => wr_c (by decide)
  have r3 : ∀ (m : Mem) (i k : Nat) (v : Int), wr m 87 i k v 11 = m 11 := fun _ _ _ _ => wr_c (by decide)
  have r4 : ∀ (m : Mem) (i k : Nat) (v : Int), wr m 88 i k v 11 = m 11 := fun _ _ _ _ => wr_c (by decide)
  refine m_11098 ⟨fun z => h0 (Or.inl (by omega)), fun z => sp_in (fun p => ⟨fun z => absurd z (by decide), fun _ => sp_in (fun q => ⟨fun z => absurd z (by decide), fun _ => sp_isLoudM (fun ll => ⟨fun z => absurd z (by decide), fun _ => ?_⟩) (fun ll => ⟨fun _ => h0 (Or.inr fun z => ll z.2.2.1), fun z => absurd rfl z⟩)⟩) (fun p => ⟨fun _ => h0 (Or.inr fun z => p z.2.1), fun z => absurd rfl z⟩)⟩) (fun p => ⟨fun _ => h0 (Or.inr fun z => p z.1), fun z => absurd rfl z⟩)⟩
  simp only [r1, r2, r3, r4, h71, Int.toNat_natCast, wr_same]
  have r := h1 (by omega)
  have e : (N : Int) + 1 - 1 = N := by omega
  rw [e]
  refine ⟨fun c => ⟨by omega, by omega, by omega, by omega, by omega, by omega, r ⟨p, q, ll, Or.inr c⟩⟩, fun c => ⟨fun c2 => ⟨by omega, by omega, by omega, by omega, by omega, by omega, r ⟨p, q, ll, Or.inl (by omega)⟩⟩, fun c2 => h0 (Or.inr fun z => ?_)⟩⟩
  have := z.2.2.2
  omega
theorem pC_c {μ : Mem} {o N c : Nat} {x y l tm : Int} (h3 : c ≠ 3) (h : ¬ (27 ≤ c ∧ c ≤ 30)) : pC μ o N x y l tm c = μ c := by
  unfold pC
  rw [wr_c (by omega), wr_c (by omega), wr_c (by omega), wr_c (by omega), wr_c (by omega)]
theorem pC_o {μ : Mem} {o N c o' : Nat} {x y l tm : Int} (h : o' ≠ o) : pC μ o N x y l tm c o' = μ c o' := by
  unfold pC
  rw [wr_i h, wr_i h, wr_i h, wr_i h, wr_i h]
theorem pM_c {μ : Mem} {f c1 c2 c3 c4 N c : Nat} {x y l tm : Int} (h : c ≠ 11) (h1 : c ≠ c1) (h2 : c ≠ c2) (h3 : c ≠ c3) (h4 : c ≠ c4) : pM μ f c1 c2 c3 c4 N x y l tm c = μ c := by
  unfold pM
  rw [wr_c h, wr_c h4, wr_c h3, wr_c h2, wr_c h1]
theorem pM_f {μ : Mem} {f c1 c2 c3 c4 N k : Nat} {x y l tm : Int} (h : k ≠ f) (h1 : 78 < c1 ∧ 78 < c2 ∧ 78 < c3 ∧ 78 < c4) : pM μ f c1 c2 c3 c4 N x y l tm 11 0 k = μ 11 0 k := by
  unfold pM
  rw [wr_k h, wr_c (by omega), wr_c (by omega), wr_c (by omega), wr_c (by omega)]
theorem pC_same {μ : Mem} {o N c : Nat} {x y l tm : Int} (h : c = 27 ∨ c = 28 ∨ c = 29 ∨ c = 30) (k : Nat) : pC μ o N x y l tm c o k = if k = N then (if c = 27 then x else if c = 28 then y else if c = 29 then l else tm) else μ c o k := by
  unfold pC
  rw [wr_c (by omega)]
  by_cases q : k = N
  · subst q
    rw [if_pos rfl]
    rcases h with rfl | rfl | rfl | rfl
    · rw [wr_c (by decide), wr_c (by decide), wr_c (by decide), wr_same]; rfl
    · rw [wr_c (by decide), wr_c (by decide), wr_same]; rfl
    · rw [wr_c (by decide), wr_same]; rfl
    · rw [wr_same]; rfl
  · rw [if_neg q, wr_k q, wr_k q, wr_k q, wr_k q]
theorem Sim.tl {μ : Mem} (hS : Sim μ) {x y l tm : Int} {N : Nat} (hN : μ 3 3 4 = (N : Int)) (hn : N < 20) (v : VT μ x y l tm) : Sim (pM (pC μ 3 N x y l tm) 71 79 80 81 82 N x y l tm) := by
  obtain ⟨sw, sn, sf, st, sh, sp⟩ := hS
  obtain ⟨t1, t2, t3, t4⟩ := st
  generalize hν : pM (pC μ 3 N x y l tm) 71 79 80 81 82 N x y l tm = ν
  have A : Tk ν 3 71 79 80 81 82 := by rw [← hν]; exact t1.add hN hn (by decide) (by decide) v.2.1
  have c : ∀ c, c ≠ 3 → ¬ (27 ≤ c ∧ c ≤ 30) → c ≠ 11 → ¬ (79 ≤ c ∧ c ≤ 82) → ν c = μ c := fun c h1 h2 h3 h4 => by rw [← hν, pM_c h3 (by omega) (by omega) (by omega) (by omega), pC_c h1 h2]
  have f : ∀ k, k ≠ 71 → ν 11 0 k = μ 11 0 k := fun k hk => by rw [← hν, pM_f hk (by decide), pC_c (by decide) (by decide)]
  have o : ∀ c o', c = 3 ∨ (27 ≤ c ∧ c ≤ 30) → o' ≠ 3 → ν c o' = μ c o' := fun c o' hc ho => by rw [← hν, pM_c (by omega) (by omega) (by omega) (by omega) (by omega), pC_o ho]
  have s : ∀ c k, c = 27 ∨ c = 28 ∨ c = 29 ∨ c = 30 → ν c 3 k = if k = N then (if c = 27 then x else if c = 28 then y else if c = 29 then l else tm) else μ c 3 k := fun c k hc => by rw [← hν, pM_c (by omega) (by omega) (by omega) (by omega) (by omega), pC_same hc]
  have n3 : ν 3 3 4 = (N : Int) + 1 := by rw [← hν, pM_c (by decide) (by decide) (by decide) (by decide) (by decide)]; exact wr_same _ _ _ _ _
  have c1 := c 1 (by decide) (by decide) (by decide) (by decide)
  refine ⟨sw.x (f 18 (by decide)) (by rw [c1]) (c 9 (by decide) (by decide) (by decide) (by decide)) (fun k hk => c k (by omega) (by omega) (by omega) (by omega)), sn.x (f 18 (by decide)) (f 48 (by decide)) (fun k _ => by rw [c1]) (fun k hk => c k (by omega) (by omega) (by omega) (by omega)), sf.x (f 18 (by decide)) (by rw [c1]) (by rw [c1]) (fun o' ho => by rw [o 3 o' (by decide) (by omega)]) (fun k o' hk ho => o k o' (by omega) (by omega)) (fun k hk => c k (by omega) (by omega) (by omega) (by omega)), ⟨A, t2.x (f 80 (by decide)) (by rw [o 3 4 (by decide) (by decide)]) (fun k hk => o k 4 (by omega) (by decide)) (c 85 (by decide) (by decide) (by decide) (by decide)) (c 86 (by decide) (by decide) (by decide) (by decide)) (c 87 (by decide) (by decide) (by decide) (by decide)) (c 88 (by decide) (by decide) (by decide) (by decide)), fun i hi => ?_, fun i hi => ?_⟩, sh.x (by rw [c1]) (fun k hk => c k (by omega) (by omega) (by omega) (by omega)), sp.x (by rw [c 0 (by decide) (by decide) (by decide) (by decide)]) (f 17 (by decide)) (f 2 (by decide)) (by rw [c 8 (by decide) (by decide) (by decide) (by decide)]) (fun k hk => c k (by omega) (by omega) (by omega) (by omega))⟩
  · rw [s 27 i (by decide), s 28 i (by decide), c1]
    by_cases q : i = N
    · rw [if_pos q, if_pos q]
      exact v.1
    · rw [if_neg q, if_neg q]
      exact t3 i (by omega)
  · rw [o 3 4 (by decide) (by decide)] at hi
    rw [o 27 4 (by decide) (by decide), o 28 4 (by decide) (by decide)]
    exact t4 i hi
theorem Sim.sh {μ : Mem} (hS : Sim μ) {x y l tm : Int} {N : Nat} (hN : μ 3 4 4 = (N : Int)) (hn : N < 20) (v : VS x y l tm) : Sim (pM (pC μ 4 N x y l tm) 80 85 86 87 88 N x y l tm) := by
  obtain ⟨sw, sn, sf, st, sh, sp⟩ := hS
  obtain ⟨t1, t2, t3, t4⟩ := st
  generalize hν : pM (pC μ 4 N x y l tm) 80 85 86 87 88 N x y l tm = ν
  have A : Tk ν 4 80 85 86 87 88 := by rw [← hν]; exact t2.add hN hn (by decide) (by decide) v.2.2.1
  have c : ∀ c, c ≠ 3 → ¬ (27 ≤ c ∧ c ≤ 30) → c ≠ 11 → ¬ (85 ≤ c ∧ c ≤ 88) → ν c = μ c := fun c h1 h2 h3 h4 => by rw [← hν, pM_c h3 (by omega) (by omega) (by omega) (by omega), pC_c h1 h2]
  have f : ∀ k, k ≠ 80 → ν 11 0 k = μ 11 0 k := fun k hk => by rw [← hν, pM_f hk (by decide), pC_c (by decide) (by decide)]
  have o : ∀ c o', c = 3 ∨ (27 ≤ c ∧ c ≤ 30) → o' ≠ 4 → ν c o' = μ c o' := fun c o' hc ho => by rw [← hν, pM_c (by omega) (by omega) (by omega) (by omega) (by omega), pC_o ho]
  have s : ∀ c k, c = 27 ∨ c = 28 ∨ c = 29 ∨ c = 30 → ν c 4 k = if k = N then (if c = 27 then x else if c = 28 then y else if c = 29 then l else tm) else μ c 4 k := fun c k hc => by rw [← hν, pM_c (by omega) (by omega) (by omega) (by omega) (by omega), pC_same hc]
  have n3 : ν 3 4 4 = (N : Int) + 1 := by rw [← hν, pM_c (by decide) (by decide) (by decide) (by decide) (by decide)]; exact wr_same _ _ _ _ _
  have c1 := c 1 (by decide) (by decide) (by decide) (by decide)
  refine ⟨sw.x (f 18 (by decide)) (by rw [c1]) (c 9 (by decide) (by decide) (by decide) (by decide)) (fun k hk => c k (by omega) (by omega) (by omega) (by omega)), sn.x (f 18 (by decide)) (f 48 (by decide)) (fun k _ => by rw [c1]) (fun k hk => c k (by omega) (by omega) (by omega) (by omega)), sf.x (f 18 (by decide)) (by rw [c1]) (by rw [c1]) (fun o' ho => by rw [o 3 o' (by decide) (by omega)]) (fun k o' hk ho => o k o' (by omega) (by omega)) (fun k hk => c k (by omega) (by omega) (by omega) (by omega)), ⟨t1.x (f 71 (by decide)) (by rw [o 3 3 (by decide) (by decide)]) (fun k hk => o k 3 (by omega) (by decide)) (c 79 (by decide) (by decide) (by decide) (by decide)) (c 80 (by decide) (by decide) (by decide) (by decide)) (c 81 (by decide) (by decide) (by decide) (by decide)) (c 82 (by decide) (by decide) (by decide) (by decide)), A, fun i hi => ?_, fun i hi => ?_⟩, sh.x (by rw [c1]) (fun k hk => c k (by omega) (by omega) (by omega) (by omega)), sp.x (by rw [c 0 (by decide) (by decide) (by decide) (by decide)]) (f 17 (by decide)) (f 2 (by decide)) (by rw [c 8 (by decide) (by decide) (by decide) (by decide)]) (fun k hk => c k (by omega) (by omega) (by omega) (by omega))⟩
  · rw [o 3 3 (by decide) (by decide)] at hi
    rw [o 27 3 (by decide) (by decide), o 28 3 (by decide) (by decide), c1]
    exact t3 i hi
  · rw [s 27 i (by decide), s 28 i (by decide)]
    by_cases q : i = N
    · rw [if_pos q, if_pos q]
      exact ⟨v.1, v.2.1⟩
    · rw [if_neg q, if_neg q]
      exact t4 i (by omega)
theorem p_tell {sc : Scr} {t : Nat} {μ : Mem} {x y l tm : Int} (hS : Sim μ) : PR sc t μ 47 11089 [.inl x, .inl y, .inl l, .inl tm] := by
  have st := hS.2.2.2.1
  obtain ⟨N, hN⟩ := Int.eq_ofNat_of_zero_le st.1.2.1.1
  have h20 := st.1.2.1.2
  have h71 : μ 11 0 71 = (N : Int) := by rw [st.1.1, hN]
  have no : (¬ N < 20 ∨ ¬ VT μ x y l tm) → RMi sc 13 11089 [rfc 11 0, .inl x, .inl y, .inl l, .inl tm] (t, 0, 0) μ (fun v' μ2 => -1 = v' ∧ Sim μ2) := fun z => sp_tellM hS.1.1 hS.2.1 h71 (by omega) (fun a b => z.elim (fun w => absurd a w) (fun w => absurd b w)) (fun _ => ⟨rfl, hS⟩)
  refine m_47 (sp_holds (fun p => ⟨fun z => absurd z (by decide), fun _ => sp_isLoud (fun ll => ⟨fun z => absurd z (by decide), fun _ => sp_isTold (fun tt => ⟨fun _ => sp_addPost (K := 20) rfl rfl rfl rfl (by decide) hN (fun hn => ?_) (fun hn => no (Or.inl hn)), fun z => absurd (by decide) z⟩) (fun tt => ⟨fun z => absurd rfl z, fun _ => no (Or.inr fun z => tt z.2.2)⟩)⟩) (fun ll => ⟨fun _ => no (Or.inr fun z => ll z.2.1), fun z => absurd rfl z⟩)⟩) (fun p => ⟨fun _ => no (Or.inr fun z => p z.1), fun z => absurd rfl z⟩))
  have v : VT μ x y l tm := ⟨p, ll, tt⟩
  have c1 : pC μ 3 N x y l tm 1 = μ 1 := pC_c (by decide) (by decide)
  have c11 : pC μ 3 N x y l tm 11 = μ 11 := pC_c (by decide) (by decide)
  refine sp_tellM ?_ (hS.2.1.x (by rw [c11]) (by rw [c11]) (fun k _ => by rw [c1]) (fun c hc => pC_c (by omega) (by omega))) (by rw [c11]; exact h71) (by omega) (fun _ _ => ⟨rfl, hS.tl hN hn v⟩) (fun z => ?_)
  · have l := hS.1.1
    unfold liv at *
    rw [c11]
    exact l
  · rcases z with z | z
    · exact absurd hn z
    · refine absurd ?_ z
      unfold VT Pm at *
      rw [c1]
      exact v
theorem p_shout {sc : Scr} {t : Nat} {μ : Mem} {x y l tm : Int} (hS : Sim μ) : PR sc t μ 54 11098 [.inl x, .inl y, .inl l, .inl tm] := by
  have st := hS.2.2.2.1
  obtain ⟨N, hN⟩ := Int.eq_ofNat_of_zero_le st.2.1.2.1.1
  have h20 := st.2.1.2.1.2
  have h71 : μ 11 0 80 = (N : Int) := by rw [st.2.1.1, hN]
  have no : (¬ N < 20 ∨ ¬ VS x y l tm) → RMi sc 13 11098 [rfc 11 0, .inl x, .inl y, .inl l, .inl tm] (t, 0, 0) μ (fun v' μ2 => -1 = v' ∧ Sim μ2) := fun z => sp_shoutM h71 (by omega) (fun a b => z.elim (fun w => absurd a w) (fun w => absurd b w)) (fun _ => ⟨rfl, hS⟩)
  refine m_54 (sp_isStep (fun p => ⟨fun z => absurd z (by decide), fun _ => sp_isStep (fun q => ⟨fun z => absurd z (by decide), fun _ => sp_isLoud (fun ll => ⟨fun z => absurd z (by decide), fun _ => sp_isTold (fun tt => ⟨fun _ => sp_addPost (K := 20) rfl rfl rfl rfl (by decide) hN (fun hn => ?_) (fun hn => no (Or.inl hn)), fun z => absurd (by decide) z⟩) (fun tt => ⟨fun z => absurd rfl z, fun _ => no (Or.inr fun z => tt z.2.2.2)⟩)⟩) (fun ll => ⟨fun _ => no (Or.inr fun z => ll z.2.2.1), fun z => absurd rfl z⟩)⟩) (fun q => ⟨fun _ => no (Or.inr fun z => q z.2.1), fun z => absurd rfl z⟩)⟩) (fun p => ⟨fun _ => no (Or.inr fun z => p z.1), fun z => absurd rfl z⟩))
  have v : VS x y l tm := ⟨p, q, ll, tt⟩
  have c11 : pC μ 4 N x y l tm 11 = μ 11 := pC_c (by decide) (by decide)
  refine sp_shoutM (by rw [c11]; exact h71) (by omega) (fun _ _ => ⟨rfl, hS.sh hN hn v⟩) (fun z => ?_)
  rcases z with z | z
  · exact absurd hn z
  · exact absurd v z
