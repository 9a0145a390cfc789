/-! MATHEMATICS, 61: masks -/
set_option maxRecDepth 1000000 in
theorem tb_an : ∀ a : Nat, a < 256 → ∀ b : Nat, b < 256 → andv ((a : Nat) : Int) (xorv ((b : Nat) : Int) (-1)) = ((Nat.land a (255 - b) : Nat) : Int) := by decide +kernel
set_option maxRecDepth 1000000 in
theorem tb_pc : ∀ a : Nat, a < 256 → ∀ b : Nat, b < 256 → Nat.land a (255 - b) = 0 → a ≠ b → a < b ∧ pcN a < pcN b := by decide +kernel
set_option maxRecDepth 1000000 in
theorem tb_lt : ∀ a : Nat, a < 256 → ∀ b : Nat, b < 256 → Nat.land a (255 - b) < 256 := by decide +kernel
set_option maxRecDepth 1000000 in
theorem tb_ss : ∀ a : Nat, a < 256 → Nat.land a (255 - a) = 0 := by decide +kernel
