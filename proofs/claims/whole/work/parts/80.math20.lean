/-! MATHEMATICS, 20: insertion of a return, reference -/
def FRm (μ μ' : Mem) : Prop := ∀ c i k, ¬ (75 ≤ c ∧ c ≤ 78) → ¬ (c = 11 ∧ k = 64) → μ' c i k = μ c i k
theorem FRm.w {μ : Mem} {c i k : Nat} {v : Int} (h : 75 ≤ c ∧ c ≤ 78) : FRm μ (wr μ c i k v) := fun c' i' k' h1 _ => if_neg fun z => h1 (by have := z.1; omega)
theorem FRm.w64 {μ : Mem} {v : Int} : FRm μ (wr μ 11 0 64 v) := fun c' i' k' _ h2 => if_neg fun z => h2 ⟨z.1, z.2.2⟩
theorem FRm.trans {μ μ' μ'' : Mem} (h : FRm μ μ') (h2 : FRm μ' μ'') : FRm μ μ'' := fun c i k a b => (h2 c i k a b).trans (h c i k a b)
theorem mE_wr {μ : Mem} {i k : Nat} {a b c e : Int} : mE (wr (wr (wr (wr μ 75 0 i a) 76 0 i b) 77 0 i c) 78 0 i e) k = if k = i then (a, b, c, e) else mE μ k := by
  unfold mE
  by_cases h : k = i
  · subst h
    rw [if_pos rfl]
    simp [wr]
  · rw [if_neg h]
    simp [wr, h]
