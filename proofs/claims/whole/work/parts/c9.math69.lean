/-! MATHEMATICS, 69: the form of a text -/
def nmd (w : Int) : Int := if w ≤ 10 then 1 else 0
def sid (w : Int) : Int := if w = 7 then 1 else 0
def its (w : Int) : Int := rom 102 0 (w - 7).toNat
def mst (w : Int) : Int := rom 102 1 (w - 7).toNat
theorem tb_its : ∀ i : Nat, i < 8 → 1 ≤ rom 102 0 i ∧ rom 102 0 i ≤ 4 ∧ 6 ≤ rom 102 1 i ∧ rom 102 1 i ≤ 400 := by decide
theorem its_b {w : Int} (h : 7 ≤ w ∧ w ≤ 14) : 1 ≤ its w ∧ its w ≤ 4 ∧ 6 ≤ mst w ∧ mst w ≤ 400 := tb_its _ (by omega)
/-- whether a token of kind k may be the s-th behind a word -/
def gO (k w s : Int) : Prop := (s = 0 ∧ 7 ≤ k) ∨ (s ≠ 0 ∧ ((s ≤ nmd w ∧ k = 2) ∨ (nmd w < s ∧ s ≤ nmd w + sid w ∧ (k = 5 ∨ k = 6)) ∨ (nmd w + sid w < s ∧ s ≤ nmd w + sid w + its w ∧ k = 3) ∨ (nmd w + sid w + its w < s ∧ k = 4)))
theorem sp_goesOn {sc : Scr} {d t : Nat} {μ : Mem} {Q : Int → Mem → Prop} {k w s : Int} (ek : μ 4 0 10 = k) (hs : 0 ≤ s ∧ s ≤ 401) (hw : s = 0 ∨ (7 ≤ w ∧ w ≤ 14)) (h1 : gO k w s → Q 1 μ) (h0 : ¬ gO k w s → Q 0 μ) : RMi sc (d + 1) 4011 [rfc 4 0, .inl w, .inl s] (t, 0, 0) μ Q := by
  unfold gO at h1 h0
  refine m_4011 ⟨fun c => ?_, fun c => ?_⟩
  · have hw' : 7 ≤ w ∧ w ≤ 14 := by omega
    have ib := its_b hw'
    have L146 : ∀ (a b : Int) (x3 x4 x5 x6 : Int), ((a = b) ↔ ((nmd w + sid w < s ∧ s ≤ nmd w + sid w + its w ∧ k = 3) ∨ (nmd w + sid w + its w < s ∧ k = 4))) → nmd w < s → nmd w + sid w < s → R_4011 sc d (PI t Q) t 146 [rfc 4 0, .inl w, .inl s, .inl x3, .inl x4, .inl x5, .inl x6] [.inl b, .inl a] μ := by
      intro a b x3 x4 x5 x6 e hn hn2
      exact m_4011_146 ⟨fun z => PI_mk (h0 fun y => z (e.mpr (by omega))), fun z => PI_mk (h1 (by have := e.mp (by omega); omega))⟩
    have L42 : ∀ (nd sd : Int), nd = nmd w → sd = sid w → R_4011 sc d (PI t Q) t 42 [rfc 4 0, .inl w, .inl s, .inl nd, vx, vx, vx] [.inl sd] μ := by
      intro nd sd e1 e2
      have b1 : 0 ≤ nd ∧ nd ≤ 1 := by rw [e1]; unfold nmd; split <;> decide
      have b2 : 0 ≤ sd ∧ sd ≤ 1 := by rw [e2]; unfold sid; split <;> decide
      have ei : rom 102 0 (w - 7).toNat = its w := rfl
      refine m_4011_42 ?_
      rw [ek, ei]
      refine ⟨fun z => ⟨by omega, fun z2 => ⟨by omega, fun z3 => absurd z3 (by omega), fun _ => ⟨fun z3 => absurd z3 (by omega), fun _ => ⟨by omega, by omega, by omega, fun z4 => L146 _ _ _ _ _ _ (by omega) (by omega) (by omega), fun z4 => L146 _ _ _ _ _ _ (by omega) (by omega) (by omega)⟩⟩⟩, fun z2 => ⟨fun z3 => PI_mk (h1 (by omega)), fun z3 => ⟨fun z4 => PI_mk (h0 (by omega)), fun z4 => PI_mk (h1 (by omega))⟩⟩⟩, fun z => ⟨fun z2 => PI_mk (h0 (by omega)), fun z2 => PI_mk (h1 (by omega))⟩⟩
    refine ⟨fun z => ⟨fun z2 => L42 0 0 ?_ ?_, fun z2 => L42 0 1 ?_ ?_⟩, fun z => ⟨fun z2 => L42 1 0 ?_ ?_, fun z2 => L42 1 1 ?_ ?_⟩⟩
    · unfold nmd; rw [if_neg (by omega)]
    · unfold sid; rw [if_neg z2]
    · unfold nmd; rw [if_neg (by omega)]
    · unfold sid; rw [if_pos (by omega)]
    · unfold nmd; rw [if_pos (by omega)]
    · unfold sid; rw [if_neg z2]
    · unfold nmd; rw [if_pos (by omega)]
    · unfold sid; rw [if_pos (by omega)]
  · rw [ek]
    exact ⟨fun z => h0 (by omega), fun z => h1 (by omega)⟩
