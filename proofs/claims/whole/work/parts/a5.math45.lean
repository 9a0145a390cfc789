/-! MATHEMATICS, 45: bits -/
set_option maxRecDepth 100000 in
theorem tb_or : ∀ k : Nat, k < 8 → ∀ a : Nat, a < 2 ^ k → orv ((a : Nat) : Int) (shlv 1 ((k : Nat) : Int)) = ((a + 2 ^ k : Nat) : Int) := by decide
set_option maxRecDepth 100000 in
theorem tb_sh : ∀ w : Nat, w < 8 → ∀ v : Nat, v < 256 → andv (shrv ((v : Nat) : Int) ((w : Nat) : Int)) 1 = ((v / 2 ^ w % 2 : Nat) : Int) := by decide
set_option maxRecDepth 100000 in
theorem tb_dg : ∀ k : Nat, k < 8 → ∀ s : Nat, s < 2 ^ k → (∀ w : Nat, w < k → (s + 2 ^ k) / 2 ^ w % 2 = s / 2 ^ w % 2) ∧ (s + 2 ^ k) / 2 ^ k % 2 = 1 ∧ s / 2 ^ k % 2 = 0 := by decide
def pcN (a : Nat) : Nat := a % 2 + a / 2 % 2 + a / 4 % 2 + a / 8 % 2 + a / 16 % 2 + a / 32 % 2 + a / 64 % 2 + a / 128 % 2
abbrev bc1 (a : Int) : Int := a - (andv (ushrv a 1) 1431655765)
abbrev bc2 (a : Int) : Int := (andv a 858993459) + (andv (ushrv a 2) 858993459)
abbrev bc3 (a : Int) : Int := andv (a + (ushrv a 4)) 252645135
abbrev bc4 (a : Int) : Int := a + (ushrv a 8)
abbrev bc5 (a : Int) : Int := a + (ushrv a 16)
set_option maxRecDepth 100000 in
theorem tb_bc : ∀ a : Nat, a < 256 → InI (bc1 ((a : Nat) : Int)) ∧ InI (bc2 (bc1 ((a : Nat) : Int))) ∧ InI (bc2 (bc1 ((a : Nat) : Int)) + (ushrv (bc2 (bc1 ((a : Nat) : Int))) 4)) ∧ InI (bc4 (bc3 (bc2 (bc1 ((a : Nat) : Int))))) ∧ InI (bc5 (bc4 (bc3 (bc2 (bc1 ((a : Nat) : Int)))))) ∧ andv (bc5 (bc4 (bc3 (bc2 (bc1 ((a : Nat) : Int)))))) 63 = ((pcN a : Nat) : Int) := by decide
theorem sp_bitCount {sc : Scr} {d t : Nat} {μ : Mem} {Q : Int → Mem → Prop} {a : Nat} (ha : a < 256) (h : Q ((pcN a : Nat) : Int) μ) : RMi sc (d + 1) 100009 [.inl (a : Int)] (t, 0, 0) μ Q := by
  obtain ⟨h1, h2, h3, h4, h5, h6⟩ := tb_bc a ha
  rw [← h6] at h
  exact m_100009 ⟨h1, h2, h3, h4, h5, h⟩
set_option maxRecDepth 100000 in
theorem tb_pb : ∀ a : Nat, a < 256 → (((0 + (a / 2 ^ 0 % 2)) + (a / 2 ^ 1 % 2) + (a / 2 ^ 2 % 2) + (a / 2 ^ 3 % 2) + (a / 2 ^ 4 % 2) + (a / 2 ^ 5 % 2) + (a / 2 ^ 6 % 2) + (a / 2 ^ 7 % 2) : Nat)) = pcN a := by decide
theorem L79 {sc : Scr} {d t : Nat} {μ : Mem} {P : Option AV → AS → Prop} {a : Nat} (ha : a < 256) (k : Nat) (hk : k < 8) (s : Nat) (hs : s ≤ 8) (h : R_11079 sc d P t 4 [.inl (a : Int), .inl ((s + a / 2 ^ k % 2 : Nat) : Int), .inl ((k + 1 : Nat) : Int)] [] μ) : R_11079 sc d P t 4 [.inl (a : Int), .inl (s : Int), .inl (k : Int)] [] μ := by
  refine m_11079_4 ⟨fun c => absurd c (by omega), fun _ => ?_⟩
  rw [tb_sh k hk a ha]
  refine ⟨by omega, by omega, ?_⟩
  have e : ((s : Nat) : Int) + ((a / 2 ^ k % 2 : Nat) : Int) = ((s + a / 2 ^ k % 2 : Nat) : Int) := by omega
  rw [e]
  exact h
theorem sp_bitsM {sc : Scr} {d t : Nat} {μ : Mem} {Q : Int → Mem → Prop} {a : Nat} (ha : a < 256) (h : Q ((pcN a : Nat) : Int) μ) : RMi sc (d + 1) 11079 [.inl (a : Int)] (t, 0, 0) μ Q := by
  have e := tb_pb a ha
  have b : ∀ k : Nat, a / 2 ^ k % 2 ≤ 1 := fun k => by omega
  have b0 := b 0
  have b1 := b 1
  have b2 := b 2
  have b3 := b 3
  have b4 := b 4
  have b5 := b 5
  have b6 := b 6
  rw [← e] at h
  refine m_11079 (L79 ha 0 (by decide) 0 (by decide) (L79 ha 1 (by decide) _ (by omega) (L79 ha 2 (by decide) _ (by omega) (L79 ha 3 (by decide) _ (by omega) (L79 ha 4 (by decide) _ (by omega) (L79 ha 5 (by decide) _ (by omega) (L79 ha 6 (by decide) _ (by omega) (L79 ha 7 (by decide) _ (by omega) (m_11079_4 ⟨fun _ => PI_mk h, fun c => absurd (by decide) c⟩)))))))))
/-- bits of what stands -/
def sbN (p : Nat → Int) : Nat → Nat
  | 0 => 0
  | k + 1 => if p k = 0 then sbN p k else sbN p k + 2 ^ k
theorem sbN_lt (p : Nat → Int) : ∀ k, sbN p k < 2 ^ k
  | 0 => by unfold sbN; decide
  | k + 1 => by
    have := sbN_lt p k
    unfold sbN
    rw [Nat.pow_succ]
    split <;> omega
theorem sbN_d (p : Nat → Int) : ∀ k, k ≤ 8 → ∀ w, w < k → sbN p k / 2 ^ w % 2 = if p w = 0 then 0 else 1
  | 0, _, w, hw => absurd hw (by omega)
  | k + 1, hk, w, hw => by
    obtain ⟨t1, t2, t3⟩ := tb_dg k (by omega) (sbN p k) (sbN_lt p k)
    unfold sbN
    by_cases q : w = k
    · subst q
      by_cases c : p w = 0
      · rw [if_pos c, if_pos c]; exact t3
      · rw [if_neg c, if_neg c]; exact t2
    · have ih := sbN_d p k (by omega) w (by omega)
      by_cases c : p k = 0
      · rw [if_pos c]; exact ih
      · rw [if_neg c, t1 w (by omega)]; exact ih
theorem sbN_256 (p : Nat → Int) {k : Nat} (hk : k ≤ 8) : sbN p k < 256 := by
  have h := sbN_lt p k
  have : 2 ^ k ≤ 2 ^ 8 := Nat.pow_le_pow_right (by decide) hk
  omega
abbrev Cn (μ : Mem) : Nat := (μ 1 0 1).toNat
theorem sp_standing {sc : Scr} {d t : Nat} {μ : Mem} {Q : Int → Mem → Prop} (h8 : 0 ≤ μ 1 0 1 ∧ μ 1 0 1 ≤ 8) (h : Q ((sbN (fun w => μ 9 w 5) (Cn μ) : Nat) : Int) μ) : RMi sc (d + 1) 1004 [rfc 1 0] (t, 0, 0) μ Q := by
  have lp : ∀ (n k : Nat), n + k = Cn μ → R_1004 sc d (PI t Q) t 4 [rfc 1 0, .inl ((sbN (fun w => μ 9 w 5) k : Nat) : Int), .inl (k : Int)] [] μ := by
    intro n
    induction n with
    | zero =>
      intro k hk
      have : k = Cn μ := by omega
      subst this
      exact m_1004_4 ⟨fun _ => PI_mk h, fun c => absurd (by unfold Cn; omega) c⟩
    | succ n ih =>
      intro k hk
      unfold Cn at hk
      have r := ih (k + 1) (by unfold Cn; omega)
      unfold sbN at r
      refine m_1004_4 ⟨fun c => absurd c (by omega), fun _ => ⟨by omega, ?_⟩⟩
      rw [Int.toNat_natCast, rF_wall (by omega)]
      refine m_1004_18 ⟨fun c => ⟨by omega, ?_⟩, fun c => ⟨by omega, ?_⟩⟩
      · rw [if_pos c] at r
        exact r
      · rw [if_neg c] at r
        rw [tb_or k (by omega) _ (sbN_lt _ k)]
        exact r
  exact m_1004 (lp _ 0 rfl)
/-- only whether the first n walls stand has changed -/
def F95 (n : Nat) (μ μ' : Mem) : Prop := ∀ c i k, ¬ (c = 9 ∧ i < n ∧ k = 5) → μ' c i k = μ c i k
theorem sp_setStanding {sc : Scr} {d t : Nat} {μ : Mem} {Q : Mem → Prop} {v : Nat} (hv : v < 256) (h8 : 0 ≤ μ 1 0 1 ∧ μ 1 0 1 ≤ 8) (h : ∀ μ', F95 (Cn μ) μ μ' → (∀ w, w < Cn μ → μ' 9 w 5 = ((v / 2 ^ w % 2 : Nat) : Int)) → Q μ') : RMv sc (d + 1) 1005 [rfc 1 0, .inl (v : Int)] (t, 0, 0) μ Q := by
  have lp : ∀ (n k : Nat) (μ' : Mem), n + k = Cn μ → F95 (Cn μ) μ μ' → (∀ w, w < k → μ' 9 w 5 = ((v / 2 ^ w % 2 : Nat) : Int)) → R_1005 sc d (PV t Q) t 2 [rfc 1 0, .inl (v : Int), .inl (k : Int)] [] μ' := by
    intro n
    induction n with
    | zero =>
      intro k μ' hk hF hw
      have : k = Cn μ := by omega
      subst this
      have e1 : μ' 1 0 1 = μ 1 0 1 := hF 1 0 1 (by omega)
      exact m_1005_2 ⟨fun _ => PV_mk (h μ' hF hw), fun c => absurd (by rw [e1]; unfold Cn; omega) c⟩
    | succ n ih =>
      intro k μ' hk hF hw
      have e1 : μ' 1 0 1 = μ 1 0 1 := hF 1 0 1 (by omega)
      have hk' := hk
      unfold Cn at hk'
      have wr5 : ∀ x : Int, x = ((v / 2 ^ k % 2 : Nat) : Int) → R_1005 sc d (PV t Q) t 2 [rfc 1 0, .inl (v : Int), .inl ((k : Int) + 1)] [] (wr μ' 9 k 5 x) := by
        intro x hx
        refine ih (k + 1) _ (by omega) (fun c i j hc => ?_) (fun w hw2 => ?_)
        · rw [← hF c i j hc]
          unfold wr
          rw [if_neg]
          intro z
          exact hc ⟨z.1, by rw [z.2.1]; omega, z.2.2⟩
        · by_cases q : w = k
          · subst q
            rw [wr_same]
            exact hx
          · rw [wr_i q]
            exact hw w (by omega)
      refine m_1005_2 ⟨fun c => absurd c (by omega), fun _ => ⟨by omega, ?_⟩⟩
      rw [tb_sh k (by omega) v hv, Int.toNat_natCast, rF_wall (by omega)]
      exact ⟨fun c => m_1005_30 ⟨Or.inl rfl, by omega, wr5 0 (by omega)⟩, fun c => m_1005_30 ⟨Or.inr rfl, by omega, wr5 1 (by omega)⟩⟩
  exact m_1005 (lp _ 0 μ rfl (fun _ _ _ _ => rfl) fun w hw => absurd hw (by omega))
