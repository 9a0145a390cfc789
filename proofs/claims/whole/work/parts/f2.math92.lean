/-! MAKERS, 3: the law's beginning, run -/
def lwX0 : CS := (0, entL 4 [.inr (.inr (.inl (some (103, 0))))], [], ((0, 0, 0), []))
def lwY (n : Nat) : Option CS := stpN (evS 13) (look kd_120000) (600000, 7302250) n lwX0
def lwGx : List Ev := [.inr (.inr (46, 0, 9, 5146)), .inr (.inr (46, 0, 8, 119163)), .inr (.inr (46, 0, 7, 315743)), .inr (.inr (46, 0, 6, 9520)), .inr (.inr (46, 0, 5, 43347)), .inr (.inr (46, 0, 4, 3690)), .inr (.inr (46, 0, 3, 9518)), .inr (.inr (46, 0, 2, 126893)), .inr (.inr (46, 0, 1, 583)), .inr (.inr (46, 0, 0, 453774)), .inr (.inr (11, 0, 48, 10)), .inr (.inr (54, 0, 8, 0)), .inr (.inr (70, 0, 0, 100)), .inr (.inr (69, 0, 0, 10)), .inr (.inr (68, 0, 0, 10)), .inr (.inr (67, 0, 0, 20)), .inr (.inr (66, 0, 0, 20)), .inr (.inr (62, 0, 0, 0)), .inr (.inr (59, 0, 0, 0)), .inr (.inr (55, 0, 0, 0)), .inr (.inr (48, 0, 0, 0)), .inr (.inl (11, 0, 90, some (93, 0))), .inl 93, .inr (.inl (11, 0, 89, some (92, 0))), .inl 92, .inr (.inl (11, 0, 88, some (91, 0))), .inl 91, .inr (.inl (11, 0, 87, some (90, 0))), .inl 90, .inr (.inl (11, 0, 85, some (89, 0))), .inl 89, .inr (.inl (11, 0, 84, some (88, 0))), .inl 88, .inr (.inl (11, 0, 83, some (87, 0))), .inl 87, .inr (.inl (11, 0, 82, some (86, 0))), .inl 86, .inr (.inl (11, 0, 81, some (85, 0))), .inl 85, .inr (.inl (11, 0, 78, some (84, 0))), .inl 84, .inr (.inl (11, 0, 76, some (83, 0))), .inl 83, .inr (.inl (11, 0, 75, some (82, 0))), .inl 82, .inr (.inl (11, 0, 74, some (81, 0))), .inl 81, .inr (.inl (11, 0, 73, some (80, 0))), .inl 80, .inr (.inl (11, 0, 72, some (79, 0))), .inl 79, .inr (.inl (11, 0, 68, some (78, 0))), .inl 78, .inr (.inl (11, 0, 67, some (77, 0))), .inl 77, .inr (.inl (11, 0, 66, some (76, 0))), .inl 76, .inr (.inl (11, 0, 65, some (75, 0))), .inl 75, .inr (.inl (11, 0, 54, some (74, 0))), .inl 74, .inr (.inl (11, 0, 53, some (73, 0))), .inl 73, .inr (.inl (11, 0, 47, some (72, 0))), .inl 72, .inr (.inl (11, 0, 46, some (71, 0))), .inl 71, .inr (.inl (11, 0, 44, some (70, 0))), .inl 70, .inr (.inl (11, 0, 43, some (69, 0))), .inl 69, .inr (.inl (11, 0, 42, some (68, 0))), .inl 68, .inr (.inl (11, 0, 41, some (67, 0))), .inl 67, .inr (.inl (11, 0, 40, some (66, 0))), .inl 66, .inr (.inl (11, 0, 39, some (65, 0))), .inl 65, .inr (.inl (11, 0, 38, some (64, 0))), .inl 64, .inr (.inl (11, 0, 37, some (63, 0))), .inl 63, .inr (.inl (11, 0, 36, some (62, 0))), .inl 62, .inr (.inl (11, 0, 35, some (61, 0))), .inl 61, .inr (.inl (11, 0, 34, some (60, 0))), .inl 60, .inr (.inl (11, 0, 33, some (59, 0))), .inl 59, .inr (.inl (11, 0, 32, some (58, 0))), .inl 58, .inr (.inl (11, 0, 31, some (57, 0))), .inl 57, .inr (.inl (11, 0, 30, some (56, 0))), .inl 56, .inr (.inl (11, 0, 29, some (55, 0))), .inl 55, .inr (.inl (11, 0, 28, some (54, 0))), .inl 54, .inr (.inl (11, 0, 27, some (53, 0))), .inl 53, .inr (.inl (11, 0, 26, some (52, 0))), .inl 52, .inr (.inl (11, 0, 25, some (51, 0))), .inl 51, .inr (.inl (11, 0, 24, some (50, 0))), .inl 50, .inr (.inl (11, 0, 23, some (49, 0))), .inl 49, .inr (.inl (11, 0, 22, some (48, 0))), .inl 48, .inr (.inl (11, 0, 21, some (47, 0))), .inl 47, .inr (.inr (11, 0, 17, (-1))), .inr (.inl (11, 0, 9, some (46, 0))), .inl 46, .inr (.inl (11, 0, 8, some (45, 0))), .inl 45, .inr (.inl (11, 0, 7, some (44, 0))), .inl 44, .inr (.inl (11, 0, 6, some (43, 0))), .inl 43, .inr (.inl (11, 0, 5, some (42, 0))), .inl 42, .inr (.inl (11, 0, 3, some (41, 0))), .inl 41, .inr (.inl (11, 0, 1, some (40, 0))), .inl 40, .inl 11, .inr (.inl (37, 0, 2, some (6, 2))), .inr (.inl (6, 2, 0, some (35, 2))), .inl 35, .inl 6, .inr (.inl (37, 0, 1, some (6, 1))), .inr (.inl (6, 1, 0, some (35, 1))), .inl 35, .inl 6, .inr (.inl (37, 0, 0, some (6, 0))), .inr (.inl (6, 0, 0, some (35, 0))), .inl 35, .inl 6, .inr (.inr (0, 0, 11, (-1))), .inr (.inl (0, 0, 10, some (38, 0))), .inl 38, .inr (.inl (0, 0, 9, some (2, 1))), .inr (.inl (2, 1, 0, some (36, 1))), .inl 36, .inl 2, .inr (.inl (0, 0, 8, some (2, 0))), .inr (.inl (2, 0, 0, some (36, 0))), .inl 36, .inl 2, .inr (.inl (0, 0, 7, some (37, 0))), .inl 37, .inr (.inl (0, 0, 6, some (3, 4))), .inr (.inl (3, 4, 3, some (30, 4))), .inl 30, .inr (.inl (3, 4, 2, some (29, 4))), .inl 29, .inr (.inl (3, 4, 1, some (28, 4))), .inl 28, .inr (.inl (3, 4, 0, some (27, 4))), .inl 27, .inl 3, .inr (.inl (0, 0, 5, some (3, 3))), .inr (.inl (3, 3, 3, some (30, 3))), .inl 30, .inr (.inl (3, 3, 2, some (29, 3))), .inl 29, .inr (.inl (3, 3, 1, some (28, 3))), .inl 28, .inr (.inl (3, 3, 0, some (27, 3))), .inl 27, .inl 3, .inr (.inl (0, 0, 4, some (5, 0))), .inr (.inl (5, 0, 3, some (34, 0))), .inl 34, .inr (.inl (5, 0, 2, some (33, 0))), .inl 33, .inr (.inl (5, 0, 1, some (32, 0))), .inl 32, .inr (.inl (5, 0, 0, some (31, 0))), .inl 31, .inl 5, .inr (.inl (0, 0, 3, some (10, 0))), .inr (.inl (10, 0, 0, some (1, 0))), .inr (.inl (10, 0, 7, some (7, 6))), .inr (.inr (7, 6, 2, 1)), .inl 7, .inr (.inl (10, 0, 6, some (7, 5))), .inr (.inr (7, 5, 2, 1)), .inl 7, .inr (.inl (10, 0, 5, some (7, 4))), .inr (.inr (7, 4, 2, 1)), .inl 7, .inr (.inl (10, 0, 4, some (7, 3))), .inr (.inr (7, 3, 2, 1)), .inl 7, .inr (.inl (10, 0, 3, some (7, 2))), .inr (.inr (7, 2, 2, 1)), .inl 7, .inr (.inl (10, 0, 2, some (7, 1))), .inr (.inr (7, 1, 2, 1)), .inl 7, .inr (.inl (10, 0, 1, some (7, 0))), .inr (.inr (7, 0, 2, 1)), .inl 7, .inl 10, .inr (.inl (0, 0, 2, some (1, 0))), .inr (.inr (1, 0, 9, 100)), .inr (.inr (1, 0, 8, 10)), .inr (.inr (1, 0, 7, 10)), .inr (.inr (1, 0, 6, 20)), .inr (.inr (1, 0, 5, 20)), .inr (.inr (3, 2, 4, 0)), .inr (.inr (3, 1, 4, 0)), .inr (.inr (3, 0, 4, 0)), .inr (.inr (1, 0, 1, 0)), .inr (.inr (9, 8, 5, 0)), .inr (.inr (9, 7, 5, 0)), .inr (.inr (9, 6, 5, 0)), .inr (.inr (9, 5, 5, 0)), .inr (.inr (9, 4, 5, 0)), .inr (.inr (9, 3, 5, 0)), .inr (.inr (9, 2, 5, 0)), .inr (.inr (9, 1, 5, 0)), .inr (.inr (9, 0, 5, 0)), .inr (.inl (26, 0, 8, some (9, 8))), .inl 9, .inr (.inl (26, 0, 7, some (9, 7))), .inl 9, .inr (.inl (26, 0, 6, some (9, 6))), .inl 9, .inr (.inl (26, 0, 5, some (9, 5))), .inl 9, .inr (.inl (26, 0, 4, some (9, 4))), .inl 9, .inr (.inl (26, 0, 3, some (9, 3))), .inl 9, .inr (.inl (26, 0, 2, some (9, 2))), .inl 9, .inr (.inl (26, 0, 1, some (9, 1))), .inl 9, .inr (.inl (26, 0, 0, some (9, 0))), .inl 9, .inr (.inl (1, 0, 4, some (3, 2))), .inr (.inl (3, 2, 3, some (30, 2))), .inl 30, .inr (.inl (3, 2, 2, some (29, 2))), .inl 29, .inr (.inl (3, 2, 1, some (28, 2))), .inl 28, .inr (.inl (3, 2, 0, some (27, 2))), .inl 27, .inl 3, .inr (.inl (1, 0, 3, some (3, 1))), .inr (.inl (3, 1, 3, some (30, 1))), .inl 30, .inr (.inl (3, 1, 2, some (29, 1))), .inl 29, .inr (.inl (3, 1, 1, some (28, 1))), .inl 28, .inr (.inl (3, 1, 0, some (27, 1))), .inl 27, .inl 3, .inr (.inl (1, 0, 2, some (3, 0))), .inr (.inl (3, 0, 3, some (30, 0))), .inl 30, .inr (.inl (3, 0, 2, some (29, 0))), .inl 29, .inr (.inl (3, 0, 1, some (28, 0))), .inl 28, .inr (.inl (3, 0, 0, some (27, 0))), .inl 27, .inl 3, .inr (.inl (1, 0, 0, some (26, 0))), .inl 26, .inl 1, .inr (.inl (0, 0, 1, some (4, 0))), .inr (.inl (4, 0, 0, some (8, 0))), .inr (.inl (4, 0, 5, some (25, 0))), .inl 25, .inr (.inl (4, 0, 4, some (24, 0))), .inl 24, .inr (.inl (4, 0, 3, some (23, 0))), .inl 23, .inr (.inl (4, 0, 2, some (22, 0))), .inl 22, .inr (.inl (4, 0, 1, some (21, 0))), .inl 21, .inl 4, .inr (.inl (0, 0, 0, some (8, 0))), .inr (.inl (8, 0, 0, some (20, 0))), .inl 20, .inl 8, .inl 0]
def lwAc : Acc := (125, 125, 18847)
def eqAR : AR → AR → Bool
  | none, none => true
  | some p, some q => Nat.beq p.1 q.1 && Nat.beq p.2 q.2
  | _, _ => false
theorem eqAR_e : ∀ {a b : AR}, eqAR a b = true → a = b
  | none, none, _ => rfl
  | some (a, b), some (c, d), h => by
    rw [show a = c from Nat.eq_of_beq_eq_true (and_l h), show b = d from Nat.eq_of_beq_eq_true (and_r h)]
  | none, some _, h => by cases h
  | some _, none, h => by cases h
def eqEv : Ev → Ev → Bool
  | .inl u, .inl v => Nat.beq u v
  | .inr (.inl p), .inr (.inl q) => Nat.beq p.1 q.1 && (Nat.beq p.2.1 q.2.1 && (Nat.beq p.2.2.1 q.2.2.1 && eqAR p.2.2.2 q.2.2.2))
  | .inr (.inr p), .inr (.inr q) => Nat.beq p.1 q.1 && (Nat.beq p.2.1 q.2.1 && (Nat.beq p.2.2.1 q.2.2.1 && decide (p.2.2.2 = q.2.2.2)))
  | _, _ => false
theorem eqEv_e : ∀ {a b : Ev}, eqEv a b = true → a = b
  | .inl u, .inl v, h => by rw [show u = v from Nat.eq_of_beq_eq_true h]
  | .inr (.inl (a, b, c, d)), .inr (.inl (a', b', c', d')), h => by
    rw [show a = a' from Nat.eq_of_beq_eq_true (and_l h), show b = b' from Nat.eq_of_beq_eq_true (and_l (and_r h)), show c = c' from Nat.eq_of_beq_eq_true (and_l (and_r (and_r h))), show d = d' from eqAR_e (and_r (and_r (and_r h)))]
  | .inr (.inr (a, b, c, d)), .inr (.inr (a', b', c', d')), h => by
    rw [show a = a' from Nat.eq_of_beq_eq_true (and_l h), show b = b' from Nat.eq_of_beq_eq_true (and_l (and_r h)), show c = c' from Nat.eq_of_beq_eq_true (and_l (and_r (and_r h))), show d = d' from of_decide_eq_true (and_r (and_r (and_r h)))]
  | .inl _, .inr _, h => by cases h
  | .inr (.inl _), .inl _, h => by cases h
  | .inr (.inr _), .inl _, h => by cases h
  | .inr (.inl _), .inr (.inr _), h => by cases h
  | .inr (.inr _), .inr (.inl _), h => by cases h
def eqLg : List Ev → List Ev → Bool
  | [], [] => true
  | a :: l, b :: m => eqEv a b && eqLg l m
  | _, _ => false
theorem eqLg_e : ∀ {l m : List Ev}, eqLg l m = true → l = m
  | [], [], _ => rfl
  | a :: l, b :: m, h => by rw [eqEv_e (and_l h), eqLg_e (and_r h)]
  | [], _ :: _, h => by cases h
  | _ :: _, [], h => by cases h
abbrev lwL4 : List AV := [.inr (.inr (.inl (some (103, 0)))), .inr (.inr (.inl (some (0, 0)))), .inr (.inr (.inl (some (11, 0)))), .inl 0]
def ckE : Option CS → Bool
  | some y => Nat.beq y.1 18 && (decide (y.2.1 = lwL4) && (decide (y.2.2.1 = []) && (Nat.beq y.2.2.2.1.1 125 && (Nat.beq y.2.2.2.1.2.1 125 && (Nat.beq y.2.2.2.1.2.2 18847 && eqLg y.2.2.2.2 lwGx)))))
  | none => false
theorem ckE_e {o : Option CS} (h : ckE o = true) : o = some (18, lwL4, [], (lwAc, lwGx)) := by
  cases o with
  | none => cases h
  | some y =>
    obtain ⟨pc, ls, st, ⟨t, uc, us⟩, L⟩ := y
    have h1 : pc = 18 := Nat.eq_of_beq_eq_true (and_l h)
    have h := and_r h
    have h2 : ls = lwL4 := of_decide_eq_true (and_l h)
    have h := and_r h
    have h3 : st = [] := of_decide_eq_true (and_l h)
    have h := and_r h
    have h4 : t = 125 := Nat.eq_of_beq_eq_true (and_l h)
    have h := and_r h
    have h5 : uc = 125 := Nat.eq_of_beq_eq_true (and_l h)
    have h := and_r h
    have h6 : us = 18847 := Nat.eq_of_beq_eq_true (and_l h)
    have h7 : L = lwGx := eqLg_e (and_r h)
    rw [h1, h2, h3, h4, h5, h6, h7]
    rfl
theorem lw_ck : ckE (lwY 10) = true := by decide +kernel
