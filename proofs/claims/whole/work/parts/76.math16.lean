/-! MATHEMATICS, 16: the class's images -/
theorem sp_mirror {sc : Scr} {d t : Nat} {μ : Mem} {Q : Mem → Prop} {a o1 o2 : Nat} (ga : Wok μ a) (bx : -1000 ≤ μ 7 o1 0 ∧ μ 7 o1 0 ≤ 1000) (by' : -1000 ≤ μ 7 o1 1 ∧ μ 7 o1 1 ≤ 1000)
    (h : ∀ μ', FO 7 o2 μ μ' → μ' 7 o2 0 = lyX (μ 9) a (μ 7 o1 0) → μ' 7 o2 1 = lyY (μ 9) a (μ 7 o1 1) → μ' 7 o2 2 = 1 → Q μ') : RMv sc (d + 1) 9002 [rfc 9 a, rfc 7 o1, rfc 7 o2] (t, 0, 0) μ Q := by
  have g1 := ga.2.1
  have L : ∀ x, x = lyX (μ 9) a (μ 7 o1 0) → R_9002 sc d (PV t Q) t 29 [rfc 9 a, rfc 7 o1, rfc 7 o2] [.inr (.inl x), rfc 7 o2] μ := by
    intro x hx
    refine m_9002_29 ?_
    rw [wr_c (c := 7) (c' := 9) (by decide), wr_k (c := 7) (k := 0) (k' := 1) (by decide)]
    refine ⟨fun c => PV_mk (h _ FO.w3 ?_ ?_ (wr_same _ _ _ _ _)), fun c => ⟨by omega, by omega, PV_mk (h _ FO.w3 ?_ ?_ (wr_same _ _ _ _ _))⟩⟩
    · rw [wr_k (by decide), wr_k (by decide), wr_same, hx]
    · unfold lyY
      rw [wr_k (by decide), wr_same, if_pos c]
    · rw [wr_k (by decide), wr_k (by decide), wr_same, hx]
    · unfold lyY
      rw [wr_k (by decide), wr_same, if_neg c]
  refine m_9002 ⟨fun c => ⟨by omega, by omega, L _ ?_⟩, fun c => L _ ?_⟩
  · unfold lyX
    rw [if_pos c]
  · unfold lyX
    rw [if_neg c]
theorem sp_setWhole {sc : Scr} {d t : Nat} {μ : Mem} {Q : Mem → Prop} {o : Nat} {x y : Int} (h : ∀ μ', FO 7 o μ μ' → μ' 7 o 0 = x → μ' 7 o 1 = y → μ' 7 o 2 = 1 → Q μ') : RMv sc (d + 1) 7001 [rfc 7 o, .inr (.inl x), .inr (.inl y)] (t, 0, 0) μ Q := by
  refine m_7001 (h _ FO.w3 ?_ ?_ (wr_same _ _ _ _ _))
  · rw [wr_k (by decide), wr_k (by decide), wr_same]
  · rw [wr_k (by decide), wr_same]
