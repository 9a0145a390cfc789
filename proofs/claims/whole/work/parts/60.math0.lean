/-! MATHEMATICS, 0: numbers and memories -/
theorem lc_ge (a b : Int) : (0 ≤ lcmpv a b) ↔ b ≤ a := by unfold lcmpv; split <;> (try split) <;> omega
theorem lc_le (a b : Int) : (lcmpv a b ≤ 0) ↔ a ≤ b := by unfold lcmpv; split <;> (try split) <;> omega
theorem lc_gt (a b : Int) : (0 < lcmpv a b) ↔ b < a := by unfold lcmpv; split <;> (try split) <;> omega
theorem lc_lt (a b : Int) : (lcmpv a b < 0) ↔ a < b := by unfold lcmpv; split <;> (try split) <;> omega
theorem lc_eq (a b : Int) : (lcmpv a b = 0) ↔ a = b := by unfold lcmpv; split <;> (try split) <;> omega
def b2i (p : Prop) [Decidable p] : Int := if p then 1 else 0
theorem b2i_t {p : Prop} [Decidable p] (h : p) : b2i p = 1 := if_pos h
theorem b2i_f {p : Prop} [Decidable p] (h : ¬ p) : b2i p = 0 := if_neg h
theorem b2i_1 {p : Prop} [Decidable p] : b2i p = 0 ↔ ¬ p := by unfold b2i; split <;> simp_all
theorem b2i_c {p q : Prop} [Decidable p] [Decidable q] (h : p ↔ q) : b2i p = b2i q := by
  by_cases hp : p
  · rw [b2i_t hp, b2i_t (h.mp hp)]
  · rw [b2i_f hp, b2i_f (fun z => hp (h.mpr z))]
/-- whole square root -/
def isq : Nat → Nat
  | 0 => 0
  | n + 1 => if (isq n + 1) * (isq n + 1) ≤ n + 1 then isq n + 1 else isq n
theorem isq_ok : ∀ n, isq n * isq n ≤ n ∧ n < (isq n + 1) * (isq n + 1)
  | 0 => by decide
  | n + 1 => by
    obtain ⟨h1, h2⟩ := isq_ok n
    unfold isq
    split
    · rename_i h
      refine ⟨h, ?_⟩
      have : (isq n + 1 + 1) * (isq n + 1 + 1) = (isq n + 1) * (isq n + 1) + 2 * (isq n + 1) + 1 := by
        simp only [Nat.mul_add, Nat.add_mul]
        omega
      omega
    · rename_i h
      exact ⟨by omega, by omega⟩
theorem isq_un {n r : Nat} (h1 : r * r ≤ n) (h2 : n < (r + 1) * (r + 1)) : isq n = r := by
  obtain ⟨h3, h4⟩ := isq_ok n
  have a1 : isq n < r + 1 := Nat.lt_of_not_le fun q => absurd (Nat.mul_le_mul q q) (by omega)
  have a2 : r < isq n + 1 := Nat.lt_of_not_le fun q => absurd (Nat.mul_le_mul q q) (by omega)
  omega
theorem isq_mono {a b : Nat} (h : a ≤ b) : isq a ≤ isq b := by
  obtain ⟨h1, h2⟩ := isq_ok a
  obtain ⟨h3, h4⟩ := isq_ok b
  have a1 : isq a < isq b + 1 := Nat.lt_of_not_le fun q => absurd (Nat.mul_le_mul q q) (by omega)
  omega
/-- of a whole number -/
def rt (x : Int) : Int := ((isq x.toNat : Nat) : Int)
theorem rt_nn (x : Int) : 0 ≤ rt x := Int.natCast_nonneg _
theorem rt_un {x r : Int} (h0 : 0 ≤ r) (h1 : r * r ≤ x) (h2 : x < (r + 1) * (r + 1)) : rt x = r := by
  obtain ⟨n, rfl⟩ := Int.eq_ofNat_of_zero_le h0
  have hx : 0 ≤ x := Int.le_trans (Int.mul_nonneg h0 h0) h1
  obtain ⟨m, rfl⟩ := Int.eq_ofNat_of_zero_le hx
  unfold rt
  have : isq m = n := isq_un (by exact_mod_cast h1) (by exact_mod_cast h2)
  rw [Int.toNat_natCast, this]
theorem rt_ok {x : Int} (hx : 0 ≤ x) : rt x * rt x ≤ x ∧ x < (rt x + 1) * (rt x + 1) := by
  obtain ⟨m, rfl⟩ := Int.eq_ofNat_of_zero_le hx
  unfold rt
  rw [Int.toNat_natCast]
  obtain ⟨h1, h2⟩ := isq_ok m
  exact ⟨by exact_mod_cast h1, by exact_mod_cast h2⟩
theorem rt_mono {a b : Int} (h : a ≤ b) : rt a ≤ rt b := by
  unfold rt
  have : isq a.toNat ≤ isq b.toNat := isq_mono (by omega)
  omega
theorem rt_le {x r : Int} (hx : 0 ≤ x) (h : x < (r + 1) * (r + 1)) (hr : 0 ≤ r) : rt x ≤ r := by
  obtain ⟨h1, -⟩ := rt_ok hx
  have := rt_nn x
  rcases Int.lt_or_le r (rt x) with q | q
  · have : (r + 1) * (r + 1) ≤ rt x * rt x := Int.mul_le_mul (by omega) (by omega) (by omega) (by omega)
    omega
  · exact q
/-! memories -/
theorem wr_same (μ : Mem) (c i k : Nat) (v : Int) : wr μ c i k v c i k = v := if_pos ⟨rfl, rfl, rfl⟩
theorem wr_c {μ : Mem} {c i k c' : Nat} {v : Int} (h : c' ≠ c) : wr μ c i k v c' = μ c' := by
  funext i' k'
  exact if_neg (fun z => h z.1)
theorem wr_i {μ : Mem} {c i k c' i' : Nat} {v : Int} (h : i' ≠ i) : wr μ c i k v c' i' = μ c' i' := by
  funext k'
  exact if_neg (fun z => h z.2.1)
theorem wr_k {μ : Mem} {c i k c' i' k' : Nat} {v : Int} (h : k' ≠ k) : wr μ c i k v c' i' k' = μ c' i' k' := if_neg (fun z => h z.2.2)
/-- nothing outside these kinds has changed -/
def Fr (S : List Nat) (μ μ' : Mem) : Prop := ∀ c, c ∉ S → μ' c = μ c
theorem Fr.rfl {S : List Nat} {μ : Mem} : Fr S μ μ := fun _ _ => Eq.refl _
theorem Fr.trans {S : List Nat} {μ μ' μ'' : Mem} (h : Fr S μ μ') (h2 : Fr S μ' μ'') : Fr S μ μ'' := fun c hc => (h2 c hc).trans (h c hc)
theorem Fr.mono {S S' : List Nat} {μ μ' : Mem} (h : Fr S μ μ') (hs : ∀ c ∈ S, c ∈ S') : Fr S' μ μ' := fun c hc => h c (fun z => hc (hs c z))
theorem Fr.wr {S : List Nat} {μ : Mem} {c i k : Nat} {v : Int} (h : c ∈ S) : Fr S μ (wr μ c i k v) := fun c' hc => wr_c (fun z => hc (z ▸ h))
