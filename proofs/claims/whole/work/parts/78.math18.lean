/-! MATHEMATICS, 18: loudness -/
def lvl (fall s sq f : Int) : Int := s - rt sq / fall - f
theorem rt_q {sq fall : Int} (h0 : 0 ≤ sq) (h1 : sq < 4000000) (hf : 0 < fall) : 0 ≤ rt sq ∧ rt sq ≤ 2000 ∧ 0 ≤ rt sq / fall ∧ rt sq / fall ≤ 2000 := by
  have b1 : rt sq ≤ 2000 := rt_le h0 (by omega) (by omega)
  have b2 : 0 ≤ rt sq / fall := Int.ediv_nonneg (rt_nn _) (by omega)
  have b3 : rt sq / fall ≤ rt sq := Int.ediv_le_self _ (rt_nn _)
  have := rt_nn sq
  omega
section LD
variable {sc : Scr} {d t : Nat} {μ : Mem} {Q : Int → Mem → Prop} {sq s : Int} {a b : Nat}
theorem sp_loud0 (h0 : 0 ≤ sq) (h1 : sq < 4000000) (hf : 0 < μ 1 0 8) (hs : 0 ≤ s ∧ s ≤ 99) (h : Q (lvl (μ 1 0 8) s sq 0) μ) : RMi sc (d + 2) 10005 [rfc 10 0, .inr (.inl sq), rfn, rfn, .inl s] (t, 0, 0) μ Q := by
  have q := rt_q h0 h1 hf
  unfold lvl at h
  rw [Int.sub_zero] at h
  exact m_10005 (sp_root h0 (by omega) (sp_quot q.1 hf ⟨by omega, by omega, fun _ => ⟨fun _ => h, fun c => absurd rfl c⟩, fun c => absurd rfl c⟩))
theorem sp_loud1 (h0 : 0 ≤ sq) (h1 : sq < 4000000) (hf : 0 < μ 1 0 8) (hs : 0 ≤ s ∧ s ≤ 99) (ha : 0 ≤ μ 9 a 4 ∧ μ 9 a 4 ≤ 99) (h : Q (lvl (μ 1 0 8) s sq (μ 9 a 4)) μ) : RMi sc (d + 2) 10005 [rfc 10 0, .inr (.inl sq), rfc 9 a, rfn, .inl s] (t, 0, 0) μ Q := by
  have q := rt_q h0 h1 hf
  unfold lvl at h
  exact m_10005 (sp_root h0 (by omega) (sp_quot q.1 hf ⟨by omega, by omega, fun c => absurd c (by simp), fun _ => m_10005_25 ⟨by omega, fun _ => PI_mk h, fun c => absurd rfl c⟩⟩))
theorem sp_loud2 (h0 : 0 ≤ sq) (h1 : sq < 4000000) (hf : 0 < μ 1 0 8) (hs : 0 ≤ s ∧ s ≤ 99) (ha : 0 ≤ μ 9 a 4 ∧ μ 9 a 4 ≤ 99) (hb : 0 ≤ μ 9 b 4 ∧ μ 9 b 4 ≤ 99) (h : Q (lvl (μ 1 0 8) s sq (μ 9 a 4 + μ 9 b 4)) μ) : RMi sc (d + 2) 10005 [rfc 10 0, .inr (.inl sq), rfc 9 a, rfc 9 b, .inl s] (t, 0, 0) μ Q := by
  have q := rt_q h0 h1 hf
  unfold lvl at h
  rw [← Int.sub_sub] at h
  exact m_10005 (sp_root h0 (by omega) (sp_quot q.1 hf ⟨by omega, by omega, fun c => absurd c (by simp), fun _ => m_10005_25 ⟨by omega, fun c => absurd c (by simp), fun _ => m_10005_39 ⟨by omega, PI_mk h⟩⟩⟩))
end LD
theorem lvl_M (fall s sq f1 f2 : Int) : s - f1 - f2 - rt sq / fall = lvl fall s sq (f1 + f2) := by
  unfold lvl
  omega
theorem sp_softN {sc : Scr} {d t : Nat} {μ : Mem} {Q : Int → Mem → Prop} (h : Q 0 μ) : RMi sc (d + 1) 11053 [rfc 11 0, .inl (-1)] (t, 0, 0) μ Q := m_11053 ⟨fun c => absurd rfl c, fun _ => h⟩
theorem sp_softW {sc : Scr} {d t : Nat} {μ : Mem} {Q : Int → Mem → Prop} {a : Nat} (hl : liv μ) (ha : a < 9) (h : Q (gM μ a 4) μ) : RMi sc (d + 1) 11053 [rfc 11 0, .inl (a : Int)] (t, 0, 0) μ Q := by
  unfold liv at hl
  rw [gM_k _ _ (by decide)] at h
  exact m_11053 ⟨fun _ => ⟨by omega, by omega, by omega, h⟩, fun c => absurd (by omega) c⟩
/-- soft of a wall or of none -/
def sfO (g : Nat → Nat → Int) (x : Int) : Int := if x = -1 then 0 else g x.toNat 4
theorem sp_softO {sc : Scr} {d t : Nat} {μ : Mem} {Q : Int → Mem → Prop} {x : Int} (hl : liv μ) (hx : -1 ≤ x ∧ x < 9) (h : Q (sfO (gM μ) x) μ) : RMi sc (d + 1) 11053 [rfc 11 0, .inl x] (t, 0, 0) μ Q := by
  unfold sfO at h
  by_cases e : x = -1
  · rw [if_pos e] at h
    subst e
    exact sp_softN h
  · rw [if_neg e] at h
    obtain ⟨n, rfl⟩ := Int.eq_ofNat_of_zero_le (by omega : 0 ≤ x)
    rw [Int.toNat_natCast] at h
    exact sp_softW hl (by omega) h
theorem sp_loudM {sc : Scr} {d t : Nat} {μ : Mem} {Q : Int → Mem → Prop} {sq s : Int} (hl : liv μ) (h0 : 0 ≤ sq) (h1 : sq < 4000000) (hf : 0 < μ 69 0 (μ 11 0 18).toNat) (hs : 0 ≤ s ∧ s ≤ 99) (hx : -1 ≤ μ 11 0 56 ∧ μ 11 0 56 < 9) (hy : -1 ≤ μ 11 0 57 ∧ μ 11 0 57 < 9) (bx : 0 ≤ sfO (gM μ) (μ 11 0 56) ∧ sfO (gM μ) (μ 11 0 56) ≤ 99) (by' : 0 ≤ sfO (gM μ) (μ 11 0 57) ∧ sfO (gM μ) (μ 11 0 57) ≤ 99)
    (h : Q (lvl (μ 69 0 (μ 11 0 18).toNat) s sq (sfO (gM μ) (μ 11 0 56) + sfO (gM μ) (μ 11 0 57))) μ) : RMi sc (d + 2) 11052 [rfc 11 0, .inl s, .inr (.inl sq)] (t, 0, 0) μ Q := by
  have q := rt_q h0 h1 hf
  rw [← lvl_M] at h
  have hl' := hl
  unfold liv at hl'
  exact m_11052 (sp_softO hl hx ⟨by omega, sp_softO hl hy ⟨by omega, sp_rootM h0 (by omega) ⟨by omega, by omega, ⟨by omega, hf⟩, by omega, h⟩⟩⟩)
