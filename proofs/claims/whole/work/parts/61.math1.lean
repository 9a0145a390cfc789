/-! MATHEMATICS, 1: roots and times -/
def bt : Nat → Int
  | 0 => 0
  | n + 1 => 2 ^ n
theorem bt_half : ∀ n, n < 21 → lshrv (bt (n + 1)) 1 = bt n := by
  have h : ∀ n, n < 21 → lshrv ((2 : Int) ^ n) 1 = bt n := by decide +kernel
  exact h
theorem bt_le : ∀ n, n < 22 → 0 ≤ bt n ∧ bt n ≤ 1048576 ∧ (n = 0 ∨ 1 ≤ bt n) := by decide +kernel
theorem bt_dbl : ∀ n, n < 21 → (2 : Int) ^ (n + 1) = 2 ^ n + 2 ^ n := by decide +kernel
theorem sq_le {y : Int} (h0 : 0 ≤ y) (h : y ≤ 3000000) : y * y ≤ 9000000000000 := by
  have := Int.mul_le_mul h h h0 (by omega : (0:Int) ≤ 3000000)
  omega
theorem L15 {sc : Scr} {d t : Nat} {μ : Mem} {P : Option AV → AS → Prop} {x0 : Int} (hP : P (some (.inr (.inl (rt x0)))) (fs (t, 0, 0) μ)) : ∀ (n : Nat) (x2 : Int), n ≤ 21 → 0 ≤ x2 → x2 + 2 ^ n ≤ 2097152 → x2 * x2 ≤ x0 → x0 < (x2 + 2 ^ n) * (x2 + 2 ^ n) →
    R_15 sc d P t 7 [.inr (.inl x0), vx, .inr (.inl x2), vx, .inr (.inl (bt n)), vx] [] μ := by
  intro n
  induction n with
  | zero =>
    intro x2 hn h0 hle h1 h2
    refine m_15_7 ⟨fun _ => ?_, fun c => ?_⟩
    · rw [rt_un h0 h1 (by simpa using h2)] at hP
      exact hP
    · exact absurd ((lc_le _ _).mpr (Int.le_refl _)) c
  | succ n ih =>
    intro x2 hn h0 hle h1 h2
    have hb := bt_le (n + 1) (by omega)
    have hd := bt_dbl n (by omega)
    have e : bt (n + 1) = 2 ^ n := rfl
    have hh := bt_half n (by omega)
    refine m_15_7 ⟨fun c => ?_, fun c => ?_⟩
    · rw [lc_le] at c
      omega
    · have hs := sq_le (y := x2 + bt (n + 1)) (by omega) (by omega)
      have hs0 : 0 ≤ (x2 + bt (n + 1)) * (x2 + bt (n + 1)) := Int.mul_nonneg (by omega) (by omega)
      refine ⟨by omega, by omega, by omega, fun c2 => ?_, fun c2 => ⟨by omega, ?_⟩⟩
      · rw [lc_gt] at c2
        rw [hh]
        exact ih x2 (by omega) h0 (by omega) h1 (by rw [← e]; exact c2)
      · rw [lc_gt] at c2
        rw [hh]
        refine ih (x2 + bt (n + 1)) (by omega) (by omega) (by omega) (by omega) ?_
        rw [e, Int.add_assoc, ← hd]
        exact h2
theorem sp_root {sc : Scr} {d t : Nat} {μ : Mem} {Q : Int → Mem → Prop} {x0 : Int} (h0 : 0 ≤ x0) (h1 : x0 < 4398046511104) (h : Q (rt x0) μ) : RMl sc (d + 1) 15 [.inr (.inl x0)] (t, 0, 0) μ Q := by
  refine m_15 ?_
  exact L15 (PJ_mk h) 21 0 (Nat.le_refl _) (Int.le_refl _) (by decide) (by omega) (by
    have : ((0 : Int) + 2 ^ 21) * (0 + 2 ^ 21) = 4398046511104 := by decide +kernel
    omega)
theorem sp_quot {sc : Scr} {d t : Nat} {μ : Mem} {Q : Int → Mem → Prop} {x0 x2 : Int} (h0 : 0 ≤ x0) (h1 : 0 < x2) (h : Q (x0 / x2) μ) : RMl sc (d + 1) 16 [.inr (.inl x0), .inr (.inl x2)] (t, 0, 0) μ Q := by
  refine m_16 ⟨fun c => ⟨⟨h0, h1⟩, h⟩, fun c => ?_⟩
  rw [lc_ge] at c
  omega
theorem L11054 {sc : Scr} {d t : Nat} {μ : Mem} {P : Option AV → AS → Prop} {x0 : Int} (hP : P (some (.inr (.inl (rt x0)))) (fs (t, 0, 0) μ)) : ∀ (n : Nat) (x2 x4 : Int) (q6 : AV), x4 - x2 ≤ (n : Int) + 1 → 0 ≤ x2 → x2 < x4 → x4 ≤ 3000000 → x2 * x2 ≤ x0 → x0 < x4 * x4 →
    R_11054 sc d P t 7 [.inr (.inl x0), vx, .inr (.inl x2), vx, .inr (.inl x4), vx, q6, vx] [] μ := by
  intro n
  induction n with
  | zero =>
    intro x2 x4 q6 hm h0 hlt hle h1 h2
    have e : x4 = x2 + 1 := by omega
    subst e
    refine m_11054_7 ⟨by omega, fun _ => ?_, fun c => ?_⟩
    · rw [rt_un h0 h1 h2] at hP
      exact hP
    · rw [lc_le] at c
      omega
  | succ n ih =>
    intro x2 x4 q6 hm h0 hlt hle h1 h2
    refine m_11054_7 ⟨by omega, fun c => ?_, fun c => ?_⟩
    · rw [lc_le] at c
      have e : x4 = x2 + 1 := by omega
      subst e
      rw [rt_un h0 h1 h2] at hP
      exact hP
    · rw [lc_le] at c
      have hs := sq_le (y := (x2 + x4) / 2) (by omega) (by omega)
      have hs0 : 0 ≤ ((x2 + x4) / 2) * ((x2 + x4) / 2) := Int.mul_nonneg (by omega) (by omega)
      refine ⟨by omega, by omega, by omega, fun c2 => ?_, fun c2 => ?_⟩
      · rw [lc_gt] at c2
        exact ih _ _ _ (by omega) h0 (by omega) (by omega) h1 c2
      · rw [lc_gt] at c2
        exact ih _ _ _ (by omega) (by omega) (by omega) hle (by omega) h2
theorem sp_rootM {sc : Scr} {d t : Nat} {μ : Mem} {Q : Int → Mem → Prop} {x0 : Int} (h0 : 0 ≤ x0) (h1 : x0 < 9000000000000) (h : Q (rt x0) μ) : RMl sc (d + 1) 11054 [.inr (.inl x0)] (t, 0, 0) μ Q := by
  refine m_11054 ?_
  exact L11054 (PJ_mk h) 3000000 0 3000000 vx (by omega) (Int.le_refl _) (by omega) (Int.le_refl _) (by omega) (by omega)
/-- a way's time by its square and the pace -/
def tmv (pace sq : Int) : Int := rt (1000000 * sq) / pace
theorem rt_div {n p : Int} (hn : 0 ≤ n) (hp : 0 < p) : rt (n / (p * p)) = rt n / p := by
  obtain ⟨h1, h2⟩ := rt_ok hn
  have h0 := rt_nn n
  have hpp : 0 < p * p := Int.mul_pos hp hp
  have q0 : 0 ≤ rt n / p := Int.ediv_nonneg h0 (Int.le_of_lt hp)
  have e1 : rt n / p * p ≤ rt n := Int.ediv_mul_le _ (by omega)
  have e2 : rt n < (rt n / p + 1) * p := Int.lt_ediv_add_one_mul_self _ hp
  generalize rt n / p = q at *
  refine rt_un q0 ?_ ?_
  · rw [Int.le_ediv_iff_mul_le hpp]
    have : q * p * (q * p) ≤ rt n * rt n := Int.mul_le_mul e1 e1 (Int.mul_nonneg q0 (by omega)) h0
    have e3 : q * q * (p * p) = q * p * (q * p) := by grind
    omega
  · rw [Int.ediv_lt_iff_lt_mul hpp]
    have : (rt n + 1) * (rt n + 1) ≤ (q + 1) * p * ((q + 1) * p) := Int.mul_le_mul (by omega) (by omega) (by omega) (Int.mul_nonneg (by omega) (by omega))
    have e3 : (q + 1) * (q + 1) * (p * p) = (q + 1) * p * ((q + 1) * p) := by grind
    omega
theorem sp_timeOf {sc : Scr} {d t : Nat} {μ : Mem} {Q : Int → Mem → Prop} {sq : Int} (hs : -1 ≤ sq) (hs2 : sq < 4000000) (hp : 1 ≤ μ 1 0 7) (h : Q (if sq < 0 then -2 else tmv (μ 1 0 7) sq) μ) : RMi sc (d + 2) 1007 [.inr (.inr (.inl (some (1, 0)))), .inr (.inl sq)] (t, 0, 0) μ Q := by
  refine m_1007 ⟨fun c => ?_, fun c => ?_⟩
  · rw [lc_ge] at c
    rw [if_neg (by omega)] at h
    refine ⟨by omega, sp_root (by omega) (by omega) (sp_quot (rt_nn _) (by omega) ⟨?_, h⟩)⟩
    have b1 : rt (1000000 * sq) ≤ 2000000 := rt_le (by omega) (by omega) (by omega)
    have b2 : 0 ≤ rt (1000000 * sq) / μ 1 0 7 := Int.ediv_nonneg (rt_nn _) (by omega)
    have b3 : rt (1000000 * sq) / μ 1 0 7 ≤ rt (1000000 * sq) := Int.ediv_le_self _ (rt_nn _)
    omega
  · rw [lc_ge] at c
    rw [if_pos (by omega)] at h
    exact h
theorem sp_timeOfM {sc : Scr} {d t : Nat} {μ : Mem} {Q : Int → Mem → Prop} {sq : Int} (hs : 0 ≤ sq) (hs2 : sq < 4000000) (hp : 1 ≤ μ 11 0 48 ∧ μ 11 0 48 ≤ 99) (h : Q (tmv (μ 11 0 48) sq) μ) : RMi sc (d + 2) 11055 [.inr (.inr (.inl (some (11, 0)))), .inr (.inl sq)] (t, 0, 0) μ Q := by
  have p1 : 1 ≤ μ 11 0 48 * μ 11 0 48 := by have := Int.mul_le_mul hp.1 hp.1 (by decide) (by omega); omega
  have p2 : μ 11 0 48 * μ 11 0 48 ≤ 9801 := by have := Int.mul_le_mul hp.2 hp.2 (by omega) (by decide); omega
  have q1 : 0 ≤ sq * 1000000 / (μ 11 0 48 * μ 11 0 48) := Int.ediv_nonneg (by omega) (by omega)
  have q2 : sq * 1000000 / (μ 11 0 48 * μ 11 0 48) ≤ sq * 1000000 := Int.ediv_le_self _ (by omega)
  refine m_11055 ⟨by omega, by omega, by omega, sp_rootM q1 (by omega) ?_⟩
  rw [rt_div (by omega) (by omega), Int.mul_comm sq]
  refine ⟨?_, h⟩
  have b1 : rt (1000000 * sq) ≤ 2000000 := rt_le (by omega) (by omega) (by omega)
  have b2 : 0 ≤ rt (1000000 * sq) / μ 11 0 48 := Int.ediv_nonneg (rt_nn _) (by omega)
  have b3 : rt (1000000 * sq) / μ 11 0 48 ≤ rt (1000000 * sq) := Int.ediv_le_self _ (rt_nn _)
  omega
