/-! MATHEMATICS, 18: loudness -/
def lvl (fall s sq f : Int) : Int := s - rt sq / fall - f
theorem rt_q {sq fall : Int} (h0 : 0 ≤ sq) (h1 : sq < 4000000) (hf : 0 < fall) : 0 ≤ rt sq ∧ rt sq ≤ 2000 ∧ 0 ≤ rt sq / fall ∧ rt sq / fall ≤ 2000 := by
  have b1 : rt sq ≤ 2000 := rt_le h0 (by omega) (by omega)
  have b2 : 0 ≤ rt sq / fall := Int.ediv_nonneg (rt_nn _) (by omega)
  have b3 : rt sq / fall ≤ rt sq := Int.ediv_le_self _ (rt_nn _)
  have := rt_nn sq
  omega
section LD
variable {sc : Scr} {d t : Nat} {μ : Mem} {Q : Int → Mem → Prop} {sq s : Int} {a b : Nat}
theorem sp_loud0 (h0 : 0 ≤ sq) (h1 : sq < 4000000) (hf : 0 < μ 1 0 8) (hs : 0 ≤ s ∧ s ≤ 99) (h : Q (lvl (μ 1 0 8) s sq 0) μ) : RMi sc (d + 2) 10005 [rfc 10 0, .inr (.inl sq), rfn, rfn, .inl s] (t, 0, 0) μ Q := by
  have q := rt_q h0 h1 hf
  unfold lvl at h
  rw [Int.sub_zero] at h
  exact m_10005 (sp_root h0 (by omega) (sp_quot q.1 hf ⟨by omega, by omega, fun _ => ⟨fun _ => h, fun c => absurd rfl c⟩, fun c => absurd rfl c⟩))
theorem sp_loud1 (h0 : 0 ≤ sq) (h1 : sq < 4000000) (hf : 0 < μ 1 0 8) (hs : 0 ≤ s ∧ s ≤ 99) (ha : 0 ≤ μ 9 a 4 ∧ μ 9 a 4 ≤ 99) (h : Q (lvl (μ 1 0 8) s sq (μ 9 a 4)) μ) : RMi sc (d + 2) 10005 [rfc 10 0, .inr (.inl sq), rfc 9 a, rfn, .inl s] (t, 0, 0) μ Q := by
  have q := rt_q h0 h1 hf
  unfold lvl at h
  exact m_10005 (sp_root h0 (by omega) (sp_quot q.1 hf ⟨by omega, by omega, fun c => absurd c (by simp), fun _ => m_10005_25 ⟨by omega, fun _ => PI_mk h, fun c => absurd rfl c⟩⟩))
theorem sp_loud2 (h0 : 0 ≤ sq) (h1 : sq < 4000000) (hf : 0 < μ 1 0 8) (hs : 0 ≤ s ∧ s ≤ 99) (ha : 0 ≤ μ 9 a 4 ∧ μ 9 a 4 ≤ 99) (hb : 0 ≤ μ 9 b 4 ∧ μ 9 b 4 ≤ 99) (h : Q (lvl (μ 1 0 8) s sq (μ 9 a 4 + μ 9 b 4)) μ) : RMi sc (d + 2) 10005 [rfc 10 0, .inr (.inl sq), rfc 9 a, rfc 9 b, .inl s] (t, 0, 0) μ Q := by
  have q := rt_q h0 h1 hf
  unfold lvl at h
  rw [← Int.sub_sub] at h
  exact m_10005 (sp_root h0 (by omega) (sp_quot q.1 hf ⟨by omega, by omega, fun c => absurd c (by simp), fun _ => m_10005_25 ⟨by omega, fun c => absurd c (by simp), fun _ => m_10005_39 ⟨by omega, PI_mk h⟩⟩⟩))
end LD
