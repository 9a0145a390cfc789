/-! MATHEMATICS, 20: insertion of a return, reference -/
def FRm (μ μ' : Mem) : Prop := ∀ c i k, ¬ (75 ≤ c ∧ c ≤ 78) → ¬ (c = 11 ∧ k = 64) → μ' c i k = μ c i k
theorem FRm.w {μ : Mem} {c i k : Nat} {v : Int} (h : 75 ≤ c ∧ c ≤ 78) : FRm μ (wr μ c i k v) := fun c' i' k' h1 _ => if_neg fun z => h1 (by have := z.1; omega)
theorem FRm.w64 {μ : Mem} {v : Int} : FRm μ (wr μ 11 0 64 v) := fun c' i' k' _ h2 => if_neg fun z => h2 ⟨z.1, z.2.2⟩
theorem FRm.trans {μ μ' μ'' : Mem} (h : FRm μ μ') (h2 : FRm μ' μ'') : FRm μ μ'' := fun c i k a b => (h2 c i k a b).trans (h c i k a b)
theorem mE_wr {μ : Mem} {i k : Nat} {a b c e : Int} : mE (wr (wr (wr (wr μ 75 0 i a) 76 0 i b) 77 0 i c) 78 0 i e) k = if k = i then (a, b, c, e) else mE μ k := by
  unfold mE
  by_cases h : k = i
  · subst h
    rw [if_pos rfl]
    simp [wr]
  · rw [if_neg h]
    simp [wr, h]
theorem L11050 {sc : Scr} {d t : Nat} {μ : Mem} {P : Option AV → AS → Prop} {n tm l sq x2 : Int} {N : Nat} {f : Nat → E4} (hN : N < 90) (hs : 0 ≤ sq ∧ sq < 4000000) (hd : ∀ i, i < N → (f i).1 ≠ n)
    (h : ∀ μ', FRm μ μ' → (∀ i, i ≤ N → mE μ' i = insE f (n, tm, l, rt sq) N i) → μ' 11 0 64 = (N : Int) + 1 → P none (fs (t, 0, 0) μ')) :
    ∀ (k : Nat) (μ' : Mem), k ≤ N → FRm μ μ' → μ' 11 0 64 = (N : Int) → (∀ i, i < k → mE μ' i = f i) → (∀ i, k < i → i ≤ N → mE μ' i = f (i - 1)) → posE f (n, tm, l, rt sq) N = posE f (n, tm, l, rt sq) k →
    R_11050 sc (d + 1) P t 33 [rfc 11 0, .inl n, .inl x2, .inr (.inl sq), vx, .inl l, .inl tm, .inl (k : Int)] [] μ' := by
  have hr : rt sq ≤ 2000 := rt_le hs.1 (by omega) (by decide)
  have hr0 := rt_nn sq
  have fin : ∀ (k : Nat) (μ' : Mem), k ≤ N → FRm μ μ' → μ' 11 0 64 = (N : Int) → (∀ i, i < k → mE μ' i = f i) → (∀ i, k < i → i ≤ N → mE μ' i = f (i - 1)) → posE f (n, tm, l, rt sq) N = k →
      P none (fs (t, 0, 0) (wr (wr (wr (wr (wr μ' 75 0 k n) 76 0 k tm) 77 0 k l) 78 0 k (rt sq)) 11 0 64 ((wr (wr (wr (wr μ' 75 0 k n) 76 0 k tm) 77 0 k l) 78 0 k (rt sq)) 11 0 64 + 1))) := by
    intro k μ' hk hF h4 hlo hhi hpos
    refine h _ (hF.trans (FRm.trans (FRm.trans (FRm.trans (FRm.trans (FRm.w (by decide)) (FRm.w (by decide))) (FRm.w (by decide))) (FRm.w (by decide))) FRm.w64)) (fun i hi => ?_) ?_
    · have e : mE (wr (wr (wr (wr (wr μ' 75 0 k n) 76 0 k tm) 77 0 k l) 78 0 k (rt sq)) 11 0 64 ((wr (wr (wr (wr μ' 75 0 k n) 76 0 k tm) 77 0 k l) 78 0 k (rt sq)) 11 0 64 + 1)) i = mE (wr (wr (wr (wr μ' 75 0 k n) 76 0 k tm) 77 0 k l) 78 0 k (rt sq)) i := by
        unfold mE
        rw [wr_c (c := 11) (c' := 75) (by decide), wr_c (c := 11) (c' := 76) (by decide), wr_c (c := 11) (c' := 77) (by decide), wr_c (c := 11) (c' := 78) (by decide)]
      rw [e, mE_wr]
      unfold insE
      rw [hpos]
      by_cases q : i < k
      · rw [if_pos q, if_neg (by omega), hlo i q]
      · rw [if_neg q]
        by_cases q2 : i = k
        · rw [if_pos q2, if_pos q2]
        · rw [if_neg q2, if_neg q2, hhi i (by omega) hi]
    · rw [wr_same, wr_c (by decide), wr_c (by decide), wr_c (by decide), wr_c (by decide), h4]
  have e4 : ∀ (μ' : Mem) (k : Nat) (v : Int), (wr (wr (wr (wr μ' 75 0 k n) 76 0 k tm) 77 0 k l) 78 0 k v) 11 0 64 = μ' 11 0 64 := by
    intro μ' k v
    rw [wr_c (by decide), wr_c (by decide), wr_c (by decide), wr_c (by decide)]
  intro k
  induction k with
  | zero =>
    intro μ' hk hF h4 hlo hhi hpos
    refine m_11050_33 ⟨fun _ => ⟨by omega, by omega, by omega, sp_rootM hs.1 (by omega) ⟨by omega, by omega, ?_, ?_⟩⟩, fun c => absurd (by omega) c⟩
    · rw [e4, h4]; omega
    · exact fin 0 μ' hk hF h4 hlo hhi hpos
  | succ k ih =>
    intro μ' hk hF h4 hlo hhi hpos
    have e1 : ((k + 1 : Nat) : Int) - 1 = (k : Int) := by omega
    have e2 : ((k + 1 : Nat) : Int) + (-1) = (k : Int) := by omega
    refine m_11050_33 ⟨fun c => absurd c (by omega), fun _ => ?_⟩
    rw [e1, e2]
    have hk0 := hlo k (Nat.lt_succ_self k)
    have hne : μ' 75 0 k ≠ n := by
      have := hd k (by omega)
      rw [← hk0] at this
      exact this
    refine ⟨by omega, sp_ahead (len := rt sq) (by omega) hne (fun hb => ⟨fun c => absurd rfl c, fun _ => ?_⟩) (fun hb => ⟨fun _ => ⟨by omega, by omega, by omega, sp_rootM hs.1 (by omega) ⟨by omega, by omega, ?_, ?_⟩⟩, fun c => absurd (by decide) c⟩)⟩
    · rw [Int.toNat_natCast, Int.toNat_natCast]
      refine ⟨by omega, by omega, by omega, by omega, by omega, by omega, by omega, by omega, by omega, by omega, by omega, by omega, by omega, ?_⟩
      rw [hk0] at hb
      rw [wr_c (c := 75) (c' := 76) (by decide), wr_c (c := 76) (c' := 77) (by decide), wr_c (c := 75) (c' := 77) (by decide), wr_c (c := 77) (c' := 78) (by decide), wr_c (c := 76) (c' := 78) (by decide), wr_c (c := 75) (c' := 78) (by decide)]
      refine ih _ (by omega) (hF.trans (FRm.trans (FRm.trans (FRm.trans (FRm.w (by decide)) (FRm.w (by decide))) (FRm.w (by decide))) (FRm.w (by decide)))) ?_ (fun i hi => ?_) (fun i hi hi2 => ?_) ?_
      · rw [wr_c (by decide), wr_c (by decide), wr_c (by decide), wr_c (by decide), h4]
      · rw [mE_wr, if_neg (by omega), hlo i (by omega)]
      · rw [mE_wr]
        by_cases q : i = k + 1
        · rw [if_pos q, q]
          exact hk0
        · rw [if_neg q, hhi i (by omega) hi2]
      · rw [hpos]
        unfold posE
        rw [if_pos hb]
        cases k <;> rfl
    · rw [e4, h4]; omega
    · rw [hk0] at hb
      refine fin (k + 1) μ' hk hF h4 hlo hhi ?_
      rw [hpos]
      unfold posE
      rw [if_neg hb]
theorem sp_square {sc : Scr} {d t : Nat} {μ : Mem} {Q : Int → Mem → Prop} {w : Wy} (hW : Way μ w) (hw : Wbd w) (h : Q (sqw w) μ) : RMl sc (d + 1) 11051 [rfc 11 0] (t, 0, 0) μ Q := by
  obtain ⟨e1, e2, e3, e4⟩ := hW
  have b := hw
  have sb := sqw_bd hw
  have m1 := mul_bd (A := 474) (B := 474) (a := w.2.2.1 - w.1) (b := w.2.2.1 - w.1) (by omega) (by omega)
  have m2 := mul_bd (A := 474) (B := 474) (a := w.2.2.2 - w.2.1) (b := w.2.2.2 - w.2.1) (by omega) (by omega)
  refine m_11051 ?_
  rw [e1, e2, e3, e4]
  unfold sqw at h sb
  exact ⟨by omega, by omega, by omega, by omega, by omega, h⟩
/-- a return comes to the reference's list -/
theorem sp_adds {sc : Scr} {d t : Nat} {μ : Mem} {Q : Mem → Prop} {w : Wy} {n s : Int} {N : Nat} (hW : Way μ w) (hw : Wbd w) (hN : N < 90) (h64 : μ 11 0 64 = (N : Int)) (hd : ∀ i, i < N → (mE μ i).1 ≠ n)
    (hl : liv μ) (hf : 0 < μ 69 0 (μ 11 0 18).toNat) (hp : 1 ≤ μ 11 0 48 ∧ μ 11 0 48 ≤ 99) (hs : 0 ≤ s ∧ s ≤ 99) (hx : -1 ≤ μ 11 0 56 ∧ μ 11 0 56 < 9) (hy : -1 ≤ μ 11 0 57 ∧ μ 11 0 57 < 9) (bx : 0 ≤ sfO (gM μ) (μ 11 0 56) ∧ sfO (gM μ) (μ 11 0 56) ≤ 99) (by' : 0 ≤ sfO (gM μ) (μ 11 0 57) ∧ sfO (gM μ) (μ 11 0 57) ≤ 99)
    (h1 : 1 ≤ lvl (μ 69 0 (μ 11 0 18).toNat) s (sqw w) (sfO (gM μ) (μ 11 0 56) + sfO (gM μ) (μ 11 0 57)) → ∀ μ', FRm μ μ' → (∀ i, i ≤ N → mE μ' i = insE (mE μ) (n, tmv (μ 11 0 48) (sqw w), lvl (μ 69 0 (μ 11 0 18).toNat) s (sqw w) (sfO (gM μ) (μ 11 0 56) + sfO (gM μ) (μ 11 0 57)), rt (sqw w)) N i) → μ' 11 0 64 = (N : Int) + 1 → Q μ')
    (h0 : ¬ 1 ≤ lvl (μ 69 0 (μ 11 0 18).toNat) s (sqw w) (sfO (gM μ) (μ 11 0 56) + sfO (gM μ) (μ 11 0 57)) → Q μ) : RMv sc (d + 3) 11050 [rfc 11 0, .inl n, .inl s] (t, 0, 0) μ Q := by
  have sb := sqw_bd hw
  refine m_11050 (sp_square hW hw (sp_loudM hl sb.1 (by omega) hf hs hx hy bx by' ⟨fun c => sp_timeOfM sb.1 (by omega) hp ?_, h0⟩))
  rw [h64]
  exact L11050 (f := mE μ) hN ⟨sb.1, by omega⟩ hd (fun μ' a b e => PV_mk (h1 c μ' a b e)) N μ (Nat.le_refl _) (fun _ _ _ _ _ => rfl) h64 (fun _ _ => rfl) (fun i a b => absurd a (by omega)) rfl
