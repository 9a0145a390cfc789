/-! THE LAW ROWS, CHECKED -/
def ckL (l : List (Nat × Row)) : Bool := l.all (ckR valid "EchoValleyLaw" 4 false (some .boolean) code)
theorem lr_0 : ckL (kd_120000.getD 0 []) = true := by decide +kernel
theorem lr_1 : ckL (kd_120000.getD 1 []) = true := by decide +kernel
theorem lr_2 : ckL (kd_120000.getD 2 []) = true := by decide +kernel
theorem lr_3 : ckL (kd_120000.getD 3 []) = true := by decide +kernel
theorem lr_4 : ckL (kd_120000.getD 4 []) = true := by decide +kernel
theorem lr_5 : ckL (kd_120000.getD 5 []) = true := by decide +kernel
theorem lr_6 : ckL (kd_120000.getD 6 []) = true := by decide +kernel
theorem lr_7 : ckL (kd_120000.getD 7 []) = true := by decide +kernel
theorem lr_8 : ckL (kd_120000.getD 8 []) = true := by decide +kernel
theorem lr_9 : ckL (kd_120000.getD 9 []) = true := by decide +kernel
theorem lr_10 : ckL (kd_120000.getD 10 []) = true := by decide +kernel
theorem lr_11 : ckL (kd_120000.getD 11 []) = true := by decide +kernel
theorem lr_12 : ckL (kd_120000.getD 12 []) = true := by decide +kernel
theorem lr_13 : ckL (kd_120000.getD 13 []) = true := by decide +kernel
theorem lr_14 : ckL (kd_120000.getD 14 []) = true := by decide +kernel
theorem lr_15 : ckL (kd_120000.getD 15 []) = true := by decide +kernel
theorem lr_16 : ckL (kd_120000.getD 16 []) = true := by decide +kernel
theorem lr_17 : ckL (kd_120000.getD 17 []) = true := by decide +kernel
theorem lr_18 : ckL (kd_120000.getD 18 []) = true := by decide +kernel
theorem lr_19 : ckL (kd_120000.getD 19 []) = true := by decide +kernel
theorem lr_20 : ckL (kd_120000.getD 20 []) = true := by decide +kernel
theorem lr_21 : ckL (kd_120000.getD 21 []) = true := by decide +kernel
theorem lr_22 : ckL (kd_120000.getD 22 []) = true := by decide +kernel
theorem lr_23 : ckL (kd_120000.getD 23 []) = true := by decide +kernel
theorem lr_24 : ckL (kd_120000.getD 24 []) = true := by decide +kernel
theorem lr_25 : ckL (kd_120000.getD 25 []) = true := by decide +kernel
theorem lr_26 : ckL (kd_120000.getD 26 []) = true := by decide +kernel
theorem lr_27 : ckL (kd_120000.getD 27 []) = true := by decide +kernel
theorem lr_28 : ckL (kd_120000.getD 28 []) = true := by decide +kernel
theorem lr_29 : ckL (kd_120000.getD 29 []) = true := by decide +kernel
theorem lr_30 : ckL (kd_120000.getD 30 []) = true := by decide +kernel
theorem lr_31 : ckL (kd_120000.getD 31 []) = true := by decide +kernel
theorem lr_32 : ckL (kd_120000.getD 32 []) = true := by decide +kernel
theorem lr_33 : ckL (kd_120000.getD 33 []) = true := by decide +kernel
theorem lr_34 : ckL (kd_120000.getD 34 []) = true := by decide +kernel
theorem lr_35 : ckL (kd_120000.getD 35 []) = true := by decide +kernel
theorem lr_36 : ckL (kd_120000.getD 36 []) = true := by decide +kernel
theorem lr_37 : ckL (kd_120000.getD 37 []) = true := by decide +kernel
theorem lr_38 : ckL (kd_120000.getD 38 []) = true := by decide +kernel
theorem lr_39 : ckL (kd_120000.getD 39 []) = true := by decide +kernel
theorem lr_40 : ckL (kd_120000.getD 40 []) = true := by decide +kernel
theorem lr_41 : ckL (kd_120000.getD 41 []) = true := by decide +kernel
theorem lr_42 : ckL (kd_120000.getD 42 []) = true := by decide +kernel
theorem lr_43 : ckL (kd_120000.getD 43 []) = true := by decide +kernel
theorem lr_44 : ckL (kd_120000.getD 44 []) = true := by decide +kernel
theorem lr_45 : ckL (kd_120000.getD 45 []) = true := by decide +kernel
theorem lr_46 : ckL (kd_120000.getD 46 []) = true := by decide +kernel
theorem lr_47 : ckL (kd_120000.getD 47 []) = true := by decide +kernel
theorem lr_48 : ckL (kd_120000.getD 48 []) = true := by decide +kernel
theorem lr_49 : ckL (kd_120000.getD 49 []) = true := by decide +kernel
theorem lr_50 : ckL (kd_120000.getD 50 []) = true := by decide +kernel
theorem lr_51 : ckL (kd_120000.getD 51 []) = true := by decide +kernel
theorem lr_52 : ckL (kd_120000.getD 52 []) = true := by decide +kernel
theorem lr_53 : ckL (kd_120000.getD 53 []) = true := by decide +kernel
theorem lr_54 : ckL (kd_120000.getD 54 []) = true := by decide +kernel
theorem law_rows : ∀ l ∈ kd_120000, ckL l = true := by
  intro l hl
  obtain ⟨k, hk⟩ := List.getElem?_of_mem hl
  have hlt : k < 55 := (List.getElem?_eq_some_iff.mp hk).1
  have e : kd_120000.getD k [] = l := by rw [List.getD_eq_getElem?_getD, hk]; rfl
  rw [← e]
  clear e hk hl
  revert k
  intro k hlt
  match k, hlt with
  | 0, _ => exact lr_0
  | 1, _ => exact lr_1
  | 2, _ => exact lr_2
  | 3, _ => exact lr_3
  | 4, _ => exact lr_4
  | 5, _ => exact lr_5
  | 6, _ => exact lr_6
  | 7, _ => exact lr_7
  | 8, _ => exact lr_8
  | 9, _ => exact lr_9
  | 10, _ => exact lr_10
  | 11, _ => exact lr_11
  | 12, _ => exact lr_12
  | 13, _ => exact lr_13
  | 14, _ => exact lr_14
  | 15, _ => exact lr_15
  | 16, _ => exact lr_16
  | 17, _ => exact lr_17
  | 18, _ => exact lr_18
  | 19, _ => exact lr_19
  | 20, _ => exact lr_20
  | 21, _ => exact lr_21
  | 22, _ => exact lr_22
  | 23, _ => exact lr_23
  | 24, _ => exact lr_24
  | 25, _ => exact lr_25
  | 26, _ => exact lr_26
  | 27, _ => exact lr_27
  | 28, _ => exact lr_28
  | 29, _ => exact lr_29
  | 30, _ => exact lr_30
  | 31, _ => exact lr_31
  | 32, _ => exact lr_32
  | 33, _ => exact lr_33
  | 34, _ => exact lr_34
  | 35, _ => exact lr_35
  | 36, _ => exact lr_36
  | 37, _ => exact lr_37
  | 38, _ => exact lr_38
  | 39, _ => exact lr_39
  | 40, _ => exact lr_40
  | 41, _ => exact lr_41
  | 42, _ => exact lr_42
  | 43, _ => exact lr_43
  | 44, _ => exact lr_44
  | 45, _ => exact lr_45
  | 46, _ => exact lr_46
  | 47, _ => exact lr_47
  | 48, _ => exact lr_48
  | 49, _ => exact lr_49
  | 50, _ => exact lr_50
  | 51, _ => exact lr_51
  | 52, _ => exact lr_52
  | 53, _ => exact lr_53
  | 54, _ => exact lr_54
  | n + 55, h => exact absurd h (by omega)
