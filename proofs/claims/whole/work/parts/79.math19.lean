/-! MATHEMATICS, 19: the order of returns -/
abbrev E4 : Type := Int × Int × Int × Int
abbrev behE (x e : E4) : Prop := (x.2.1 ≠ e.2.1 ∧ e.2.1 < x.2.1) ∨ (x.2.1 = e.2.1 ∧ ((x.2.2.1 ≠ e.2.2.1 ∧ x.2.2.1 < e.2.2.1) ∨ (x.2.2.1 = e.2.2.1 ∧ e.1 < x.1)))
def xE (μ : Mem) (i : Nat) : E4 := ⟨μ 31 0 i, μ 32 0 i, μ 33 0 i, μ 34 0 i⟩
def mE (μ : Mem) (i : Nat) : E4 := ⟨μ 75 0 i, μ 76 0 i, μ 77 0 i, μ 78 0 i⟩
theorem sp_behind {sc : Scr} {d t : Nat} {μ : Mem} {Q : Int → Mem → Prop} {i : Nat} {n tm l len : Int} (hi : i < 82) (h1 : behE (xE μ i) (n, tm, l, len) → Q 1 μ) (h0 : ¬ behE (xE μ i) (n, tm, l, len) → Q 0 μ) : RMi sc (d + 1) 5002 [rfc 5 0, .inl (i : Int), .inl n, .inl tm, .inl l] (t, 0, 0) μ Q := by
  unfold behE xE at h1 h0
  simp only [] at h1 h0
  refine m_5002 ?_
  rw [Int.toNat_natCast]
  refine ⟨by omega, fun c => ⟨by omega, fun c2 => ⟨by omega, fun c3 => h0 (by omega), fun c3 => h1 (by omega)⟩, fun c2 => ⟨by omega, fun c3 => h0 (by omega), fun c3 => h1 (by omega)⟩⟩, fun c => ⟨by omega, fun c3 => h0 (by omega), fun c3 => h1 (by omega)⟩⟩
theorem sp_ahead {sc : Scr} {d t : Nat} {μ : Mem} {Q : Int → Mem → Prop} {i : Nat} {n tm l len : Int} (hi : i < 90) (hne : μ 75 0 i ≠ n) (h1 : behE (mE μ i) (n, tm, l, len) → Q 0 μ) (h0 : ¬ behE (mE μ i) (n, tm, l, len) → Q 1 μ) : RMi sc (d + 1) 11056 [rfc 11 0, .inl (i : Int), .inl tm, .inl l, .inl n] (t, 0, 0) μ Q := by
  unfold behE mE at h1 h0
  simp only [] at h1 h0
  refine m_11056 ?_
  rw [Int.toNat_natCast]
  refine ⟨by omega, fun c => ⟨by omega, fun c2 => ⟨by omega, fun c3 => h1 (by omega), fun c3 => h0 (by omega)⟩, fun c2 => ⟨by omega, fun c3 => h1 (by omega), fun c3 => h0 (by omega)⟩⟩, fun c => ⟨by omega, fun c3 => h1 (by omega), fun c3 => h0 (by omega)⟩⟩
/-- where a return comes to lie -/
def posE (f : Nat → E4) (e : E4) : Nat → Nat
  | 0 => 0
  | n + 1 => if behE (f n) e then posE f e n else n + 1
def insE (f : Nat → E4) (e : E4) (n i : Nat) : E4 := if i < posE f e n then f i else if i = posE f e n then e else f (i - 1)
theorem posE_le (f : Nat → E4) (e : E4) : ∀ n, posE f e n ≤ n
  | 0 => Nat.le_refl _
  | n + 1 => by
    unfold posE
    split
    · exact Nat.le_succ_of_le (posE_le f e n)
    · exact Nat.le_refl _
/-- changed: only the kinds 31..34 and fields of 5 -/
def FR (μ μ' : Mem) : Prop := ∀ c, ¬ (31 ≤ c ∧ c ≤ 34) → c ≠ 5 → μ' c = μ c
theorem xE_wr {μ : Mem} {i k : Nat} {a b c e : Int} : xE (wr (wr (wr (wr μ 31 0 i a) 32 0 i b) 33 0 i c) 34 0 i e) k = if k = i then (a, b, c, e) else xE μ k := by
  unfold xE
  by_cases h : k = i
  · subst h
    rw [if_pos rfl]
    simp [wr]
  · rw [if_neg h]
    simp [wr, h]
