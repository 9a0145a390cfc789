/-! MATHEMATICS, 43: count, tell, shout -/
theorem sp_full {sc : Scr} {d t : Nat} {μ : Mem} {Q : Int → Mem → Prop} (h : Q ((if μ 6 0 3 = 0 then 0 else 1) + (if μ 6 1 3 = 0 then 0 else 1) + (if μ 6 2 3 = 0 then 0 else 1)) μ) : RMi sc (d + 1) 12 [rfc 0 0] (t, 0, 0) μ Q := by
  have stp : ∀ (k : Nat) (x1 : Int) (q5 : AV) (P : Option AV → AS → Prop), k < 3 → (0 ≤ x1 ∧ x1 ≤ 3) → (∀ q5, R_12 sc d P t 13 [rfc 0 0, .inl (x1 + (if μ 6 k 3 = 0 then 0 else 1)), rfc 37 0, .inl 3, .inl ((k : Int) + 1), q5] [] μ) → R_12 sc d P t 13 [rfc 0 0, .inl x1, rfc 37 0, .inl 3, .inl (k : Int), q5] [] μ := by
    intro k x1 q5 P hk hx hh
    refine m_12_13 ⟨fun c => absurd c (by omega), fun _ => ⟨by omega, ?_⟩⟩
    rw [Int.toNat_natCast, rF_slot hk]
    refine m_12_23 ⟨fun c => ⟨by omega, ?_⟩, fun c => ⟨by omega, by omega, ?_⟩⟩
    · have r := hh (rfc 6 k)
      rw [if_pos c, Int.add_zero] at r
      exact r
    · have r := hh (rfc 6 k)
      rw [if_neg c] at r
      exact r
  refine m_12 (stp 0 0 _ _ (by decide) (by decide) fun q5 => stp 1 _ _ _ (by decide) (by split <;> decide) fun q5 => stp 2 _ _ _ (by decide) (by split <;> split <;> decide) fun q5 => m_12_13 ⟨fun _ => PI_mk ?_, fun c => absurd (by decide) c⟩)
  simpa using h
theorem p_count {sc : Scr} {t : Nat} {μ : Mem} {k : Int} (hS : Sim μ) : PR sc t μ 11 11105 [.inl k] := by
  obtain ⟨sw, sn, sf, st, sh, sp⟩ := hS
  have hS : Sim μ := ⟨sw, sn, sf, st, sh, sp⟩
  have lb : 0 ≤ μ 11 0 18 ∧ μ 11 0 18 < 2 := by
    have l := sw.1
    unfold liv at l
    omega
  have a0 := sw.2.1
  have a1 := sf.1.1
  have a2 := sf.2.1.1
  have a3 := sf.2.2.1.1
  obtain ⟨⟨a6, _⟩, ⟨a7, _⟩, ⟨a8, _⟩, ⟨a4, _⟩, a5, _⟩ := sn
  have a9 := st.1.1
  have a10 := st.2.1.1
  have a11 := sp.2.1
  have s0 := (sh.1 0 (by decide)).1
  have s1 := (sh.1 1 (by decide)).1
  have s2 := (sh.1 2 (by decide)).1
  unfold lvM at a0 a1 a2 a3 a4 a5 a7 a8
  have M : ∀ (Q : Int → Mem → Prop), (k = 0 → Q (μ 1 0 1) μ) → (k = 1 → Q (μ 3 0 4) μ) → (k = 2 → Q (μ 3 1 4) μ) → (k = 3 → Q (μ 3 2 4) μ) → (k = 4 → Q (μ 1 0 5) μ) → (k = 5 → Q (μ 1 0 6) μ) → (k = 6 → Q (μ 1 0 7) μ) → (k = 7 → Q (μ 1 0 8) μ) → (k = 8 → Q (μ 1 0 9) μ) → (k = 9 → Q (μ 3 3 4) μ) → (k = 10 → Q (μ 3 4 4) μ) → (k = 11 → Q (μ 8 0 1) μ) → (k = 12 → Q ((if μ 6 0 3 = 0 then 0 else 1) + (if μ 6 1 3 = 0 then 0 else 1) + (if μ 6 2 3 = 0 then 0 else 1)) μ) → (k < 0 ∨ 13 ≤ k → Q (-1) μ) → RMi sc 13 11105 [rfc 11 0, .inl k] (t, 0, 0) μ Q := by
    intro Q q0 q1 q2 q3 q4 q5 q6 q7 q8 q9 q10 q11 q12 q13
    refine m_11105 ?_
    rw [a0, a1, a2, a3, a4, a5, a6, a7, a8, a9, a10, ← a11, ← s0, ← s1]
    refine ⟨fun z => ⟨lb, q0 z⟩, fun z => ⟨lb, q1 z⟩, fun z => ⟨lb, q2 z⟩, fun z => ⟨lb, q3 z⟩, fun z => ⟨lb, q4 z⟩, fun z => ⟨lb, q5 z⟩, q6, fun z => ⟨lb, q7 z⟩, fun z => ⟨lb, q8 z⟩, q9, q10, q11, fun z => ?_, q13⟩
    have q := q12 z
    have T : ∀ u v : Int, (u = 0 ∨ u = 1) → (v = 0 ∨ v = 1) → Q (u + v + (if μ 6 2 3 = 0 then 0 else 1)) μ → R_11105 sc 12 (PI t Q) t 196 [rfc 11 0, .inl k] [.inl v, .inl u] μ := by
      intro u v hu hv hq
      refine m_11105_196 ?_
      rw [← s2]
      refine ⟨by omega, fun c => ⟨by omega, ?_⟩, fun c => ⟨by omega, ?_⟩⟩
      · rw [if_pos c] at hq
        exact PI_mk hq
      · rw [if_neg c] at hq
        exact PI_mk hq
    refine ⟨fun c => ⟨fun c2 => T 0 0 (by decide) (by decide) ?_, fun c2 => T 0 1 (by decide) (by decide) ?_⟩, fun c => ⟨fun c2 => T 1 0 (by decide) (by decide) ?_, fun c2 => T 1 1 (by decide) (by decide) ?_⟩⟩
    · rw [if_pos c, if_pos c2] at q
      exact q
    · rw [if_pos c, if_neg c2] at q
      exact q
    · rw [if_neg c, if_pos c2] at q
      exact q
    · rw [if_neg c, if_neg c2] at q
      exact q
  refine m_11 ⟨fun z => ?_, fun z => ?_, fun z => ?_, fun z => ?_, fun z => ?_, fun z => ?_, fun z => ?_, fun z => ?_, fun z => ?_, fun z => ?_, fun z => ?_, fun z => ?_, fun z => sp_full ?_, fun z => ?_⟩ <;> refine M _ (fun _ => ?_) (fun _ => ?_) (fun _ => ?_) (fun _ => ?_) (fun _ => ?_) (fun _ => ?_) (fun _ => ?_) (fun _ => ?_) (fun _ => ?_) (fun _ => ?_) (fun _ => ?_) (fun _ => ?_) (fun _ => ?_) (fun _ => ?_) <;> first | exact ⟨rfl, hS⟩ | (exfalso; omega)
/-- one more post, in the class -/
def pC (μ : Mem) (o N : Nat) (x y l tm : Int) : Mem := wr (wr (wr (wr (wr μ 27 o N x) 28 o N y) 29 o N l) 30 o N tm) 3 o 4 ((N : Int) + 1)
theorem sp_addPost {sc : Scr} {d t : Nat} {μ : Mem} {Q : Int → Mem → Prop} {o N K : Nat} {x y l tm : Int} (e1 : slen 27 o = K) (e2 : slen 28 o = K) (e3 : slen 29 o = K) (e4 : slen 30 o = K) (hK : K ≤ 20) (hN : μ 3 o 4 = (N : Int)) (h1 : N < K → Q (N : Int) (pC μ o N x y l tm)) (h0 : ¬ N < K → Q (-1) μ) : RMi sc (d + 1) 3001 [rfc 3 o, .inl x, .inl y, .inl l, .inl tm] (t, 0, 0) μ Q := by
  have r27 : ∀ (m : Mem) (i k : Nat) (v : Int), wr m 27 i k v 3 = m 3 := fun _ _ _ _ => wr_c (by decide)
  have r28 : ∀ (m : Mem) (i k : Nat) (v : Int), wr m 28 i k v 3 = m 3 := fun _ _ _ _ => wr_c (by decide)
  have r29 : ∀ (m : Mem) (i k : Nat) (v : Int), wr m 29 i k v 3 = m 3 := fun _ _ _ _ => wr_c (by decide)
  have r30 : ∀ (m : Mem) (i k : Nat) (v : Int), wr m 30 i k v 3 = m 3 := fun _ _ _ _ => wr_c (by decide)
  refine m_3001 ?_
  rw [e1, e2, e3, e4]
  simp only [r27, r28, r29, r30, hN, Int.toNat_natCast, wr_same]
  refine ⟨fun c => ⟨by omega, by omega, by omega, by omega, by omega, by omega, ?_⟩, fun c => h0 (by omega)⟩
  have r := h1 (by omega)
  rw [show (N : Int) + 1 - 1 = N by omega]
  exact r
def pM (μ : Mem) (f c1 c2 c3 c4 N : Nat) (x y l tm : Int) : Mem := wr (wr (wr (wr (wr μ c1 0 N x) c2 0 N y) c3 0 N l) c4 0 N tm) 11 0 f ((N : Int) + 1)
theorem Tk.add {μ : Mem} {o f cx cy cl ct N : Nat} {x y l tm : Int} (h : Tk μ o f cx cy cl ct) (hN : μ 3 o 4 = (N : Int)) (hN2 : N < 20) (hd : cx ≠ cy ∧ cx ≠ cl ∧ cx ≠ ct ∧ cy ≠ cl ∧ cy ≠ ct ∧ cl ≠ ct) (hx : 78 < cx ∧ 78 < cy ∧ 78 < cl ∧ 78 < ct) (ll : 1 ≤ l ∧ l ≤ 99) : Tk (pM (pC μ o N x y l tm) f cx cy cl ct N x y l tm) o f cx cy cl ct := by
  obtain ⟨h1, h2, h3⟩ := h
  unfold Tk pM pC
  have a3 : ∀ c : Nat, c = 3 ∨ (27 ≤ c ∧ c ≤ 30) → (wr (wr (wr (wr (wr (wr (wr (wr (wr (wr μ 27 o N x) 28 o N y) 29 o N l) 30 o N tm) 3 o 4 ((N : Int) + 1)) cx 0 N x) cy 0 N y) cl 0 N l) ct 0 N tm) 11 0 f ((N : Int) + 1)) c = (wr (wr (wr (wr (wr μ 27 o N x) 28 o N y) 29 o N l) 30 o N tm) 3 o 4 ((N : Int) + 1)) c := by
    intro c hc
    rw [wr_c (by omega), wr_c (by omega), wr_c (by omega), wr_c (by omega), wr_c (by omega)]
  rw [a3 3 (by decide), a3 27 (by decide), a3 28 (by decide), a3 29 (by decide), a3 30 (by decide)]
  have b27 : (wr (wr (wr (wr (wr μ 27 o N x) 28 o N y) 29 o N l) 30 o N tm) 3 o 4 ((N : Int) + 1)) 27 = (wr μ 27 o N x) 27 := by rw [wr_c (by decide), wr_c (by decide), wr_c (by decide), wr_c (by decide)]
  have b28 : (wr (wr (wr (wr (wr μ 27 o N x) 28 o N y) 29 o N l) 30 o N tm) 3 o 4 ((N : Int) + 1)) 28 = (wr (wr μ 27 o N x) 28 o N y) 28 := by rw [wr_c (by decide), wr_c (by decide), wr_c (by decide)]
  have b29 : (wr (wr (wr (wr (wr μ 27 o N x) 28 o N y) 29 o N l) 30 o N tm) 3 o 4 ((N : Int) + 1)) 29 = (wr (wr (wr μ 27 o N x) 28 o N y) 29 o N l) 29 := by rw [wr_c (by decide), wr_c (by decide)]
  have b30 : (wr (wr (wr (wr (wr μ 27 o N x) 28 o N y) 29 o N l) 30 o N tm) 3 o 4 ((N : Int) + 1)) 30 = (wr (wr (wr (wr μ 27 o N x) 28 o N y) 29 o N l) 30 o N tm) 30 := by rw [wr_c (by decide)]
  rw [b27, b28, b29, b30, wr_same, wr_same]
  generalize hν : (wr (wr (wr (wr (wr μ 27 o N x) 28 o N y) 29 o N l) 30 o N tm) 3 o 4 ((N : Int) + 1)) = ν
  have c : ∀ c, 78 < c → ν c = μ c := by
    intro c hc
    rw [← hν, wr_c (by omega), wr_c (by omega), wr_c (by omega), wr_c (by omega), wr_c (by omega)]
  refine ⟨rfl, by omega, fun i hi => ?_⟩
  rw [wr_c (c := 11) (c' := cx) (by omega), wr_c (c := ct) (c' := cx) (by omega), wr_c (c := cl) (c' := cx) (by omega), wr_c (c := cy) (c' := cx) (by omega), wr_c (c := 11) (c' := cy) (by omega), wr_c (c := ct) (c' := cy) (by omega), wr_c (c := cl) (c' := cy) (by omega), wr_c (c := 11) (c' := cl) (by omega), wr_c (c := ct) (c' := cl) (by omega), wr_c (c := 11) (c' := ct) (by omega)]
  by_cases q : i = N
  · subst q
    rw [wr_same, wr_same, wr_same, wr_same, wr_same, wr_same, wr_same, wr_same]
    exact ⟨⟨rfl, rfl, rfl, rfl⟩, ll⟩
  · obtain ⟨⟨d1, d2, d3, d4⟩, d5⟩ := h3 i (by omega)
    have w27 : wr μ 27 o N x 27 o i = μ 27 o i := wr_k q
    have w28 : wr (wr μ 27 o N x) 28 o N y 28 o i = μ 28 o i := by rw [wr_k q, wr_c (by decide)]
    have w29 : wr (wr (wr μ 27 o N x) 28 o N y) 29 o N l 29 o i = μ 29 o i := by rw [wr_k q, wr_c (by decide), wr_c (by decide)]
    have w30 : wr (wr (wr (wr μ 27 o N x) 28 o N y) 29 o N l) 30 o N tm 30 o i = μ 30 o i := by rw [wr_k q, wr_c (by decide), wr_c (by decide), wr_c (by decide)]
    have v1 : wr ν cx 0 N x cx 0 i = μ cx 0 i := by rw [wr_k q, c cx hx.1]
    have v2 : wr (wr ν cx 0 N x) cy 0 N y cy 0 i = μ cy 0 i := by rw [wr_k q, wr_c (by omega), c cy hx.2.1]
    have v3 : wr (wr (wr ν cx 0 N x) cy 0 N y) cl 0 N l cl 0 i = μ cl 0 i := by rw [wr_k q, wr_c (by omega), wr_c (by omega), c cl hx.2.2.1]
    have v4 : wr (wr (wr (wr ν cx 0 N x) cy 0 N y) cl 0 N l) ct 0 N tm ct 0 i = μ ct 0 i := by rw [wr_k q, wr_c (by omega), wr_c (by omega), wr_c (by omega), c ct hx.2.2.2]
    rw [w27, w28, w29, w30, v1, v2, v3, v4]
    exact ⟨⟨d1, d2, d3, d4⟩, d5⟩
