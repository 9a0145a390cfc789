/-! MATHEMATICS, 42: bytes -/
theorem i32_self (y : Int32) : i32 y.toInt = y := by
  unfold i32
  simp
theorem byt_eq (x : Int) (s : Nat) (hs : s = 24 ∨ s = 16 ∨ s = 8 ∨ s = 0) : i2bv (ushrv x (s : Int)) = i2bv (shrv x (s : Int)) := by
  unfold i2bv ushrv shrv
  rw [i32_self, i32_self]
  congr 2
  apply Int8.toBitVec_inj.mp
  generalize i32 x = y
  rcases hs with rfl | rfl | rfl | rfl
  · simp [i32]
    sorry
  · sorry
  · sorry
  · sorry
theorem i2bv_b (a : Int) : -128 ≤ i2bv a ∧ i2bv a ≤ 127 := by
  unfold i2bv
  rw [Int8.toInt_toInt32]
  have h1 := Int8.toInt_lt (i32 a).toInt8
  have h2 := Int8.le_toInt (i32 a).toInt8
  omega
