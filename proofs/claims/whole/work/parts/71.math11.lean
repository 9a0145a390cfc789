/-! MATHEMATICS, 11: the reference's loop over walls -/
def MOK (μ : Mem) : Prop := liv μ ∧ (0 ≤ μ 48 0 (μ 11 0 18).toNat ∧ μ 48 0 (μ 11 0 18).toNat ≤ 8) ∧ (∀ w : Nat, w < 9 → μ 54 0 ((9 * (μ 11 0 18)) + (w : Int)).toNat = 0 ∨ μ 54 0 ((9 * (μ 11 0 18)) + (w : Int)).toNat = 1) ∧ ∀ w, w < 9 → gM μ w 5 ≠ 0 → gok (gM μ) w
theorem FMp.mok {p q : Nat} {μ μ' : Mem} (h : FMp p q μ μ') (hp : 18 < p) (hM : MOK μ) : MOK μ' := by
  unfold MOK liv
  rw [h.g hp, h.f (k := 18) (by omega), h.c (c := 48) (by decide), h.c (c := 54) (by decide)]
  exact hM
theorem sp_isWall {sc : Scr} {d t : Nat} {μ : Mem} {Q : Int → Mem → Prop} {w : Nat} (hM : MOK μ) (hw : w < 9) (h1 : gM μ w 5 ≠ 0 → Q 1 μ) (h0 : gM μ w 5 = 0 → Q 0 μ) : RMi sc (d + 2) 11047 [rfc 11 0, .inl (w : Int)] (t, 0, 0) μ Q := by
  obtain ⟨hl, hn, hf, -⟩ := hM
  have hl' := hl
  unfold liv at hl
  have f := hf w hw
  have L19 : ((w : Int) < μ 48 0 (μ 11 0 18).toNat ∨ w = 8) → R_11047 sc (d + 1) (PI t Q) t 19 [rfc 11 0, .inl (w : Int)] [] μ := by
    intro c
    have e : gM μ w 5 = μ 54 0 ((9 * (μ 11 0 18)) + (w : Int)).toNat := by
      unfold gM
      rw [if_pos rfl, if_pos c]
    refine m_11047_19 (m_11048 ⟨by omega, by omega, by omega, f, fun z => PI_mk (h0 (e.trans z)), fun z => PI_mk (h1 (by rw [e]; exact z))⟩)
  refine m_11047 ⟨by omega, fun c => L19 (Or.inl c), fun c => ⟨fun c2 => h0 ?_, fun c2 => L19 (Or.inr (by omega))⟩⟩
  unfold gM
  rw [if_pos rfl, if_neg (by omega)]
theorem sp_wallMost {sc : Scr} {d t : Nat} {μ : Mem} {Q : Int → Mem → Prop} (hM : MOK μ) (h : ∀ v : Int, 0 ≤ v → v ≤ 9 → (∀ w : Nat, w < 9 → v ≤ w → gM μ w 5 = 0) → Q v μ) : RMi sc (d + 1) 11046 [rfc 11 0] (t, 0, 0) μ Q := by
  obtain ⟨hl, hn, hf, -⟩ := hM
  unfold liv at hl
  refine m_11046 ⟨by omega, by omega, by omega, fun c => ⟨by omega, h _ hn.1 (by omega) fun w hw hv => ?_⟩, fun c => h 9 (by decide) (by decide) fun w hw hv => by omega⟩
  unfold gM
  rw [if_pos rfl]
  by_cases e : w = 8
  · subst e
    rw [if_pos (Or.inr rfl)]
    exact c
  · rw [if_neg (by omega)]
theorem L11039_183 {sc : Scr} {d t : Nat} {μ : Mem} {P : Option AV → AS → Prop} {x1 x2 x3 x4 : Int} {k : Nat} {H : Nat → Prop} (hM : MOK μ) (hk : k < 3)
    (hbl : ∀ (w : Nat) (μ' : Mem) (Q : Int → Mem → Prop), w < 9 → gM μ w 5 ≠ 0 → FMp 58 63 μ μ' → (H w → ∀ μ'', FMp 58 63 μ' μ'' → Q 1 μ'') → (¬ H w → ∀ μ'', FMp 58 63 μ' μ'' → Q 0 μ'') → RMi sc (d + 2) 11049 [rfc 11 0, .inl (k : Int), .inl (w : Int)] (t, 0, 0) μ' Q)
    (hz : (∃ w, w < 9 ∧ gM μ w 5 ≠ 0 ∧ H w) → ∀ μ', FMp 58 63 μ μ' → P (some (.inl 0)) (fs (t, 0, 0) μ'))
    (hn : (∀ w, w < 9 → gM μ w 5 ≠ 0 → ¬ H w) → ∀ μ' q6, FMp 58 63 μ μ' → R_11039 sc (d + 2) P t 171 [rfc 11 0, .inl x1, .inl x2, .inl x3, .inl x4, .inl ((k : Int) + 1), q6] [] μ') :
    ∀ (n x6 : Nat) (μ' : Mem), n + x6 = 9 → FMp 58 63 μ μ' → (∀ w, w < x6 → gM μ w 5 ≠ 0 → ¬ H w) → R_11039 sc (d + 2) P t 183 [rfc 11 0, .inl x1, .inl x2, .inl x3, .inl x4, .inl (k : Int), .inl (x6 : Int)] [] μ' := by
  intro n
  induction n with
  | zero =>
    intro x6 μ' hx hF hall
    have eg := hF.g (by decide)
    refine m_11039_183 (sp_wallMost (hF.mok (by decide) hM) fun v v0 v9 vw => ⟨fun c => ⟨by omega, hn (fun w hw => hall w (by omega)) μ' _ hF⟩, fun c => absurd c (by omega)⟩)
  | succ n ih =>
    intro x6 μ' hx hF hall
    have eg := hF.g (by decide)
    have nx : ∀ μ'', FMp 58 63 μ μ'' → (gM μ x6 5 ≠ 0 → ¬ H x6) → InI ((x6 : Int) + 1) ∧ R_11039 sc (d + 2) P t 183 [rfc 11 0, .inl x1, .inl x2, .inl x3, .inl x4, .inl (k : Int), .inl ((x6 : Int) + 1)] [] μ'' := by
      intro μ'' hF2 hq
      refine ⟨by omega, ih (x6 + 1) μ'' (by omega) hF2 fun w hw h5 => ?_⟩
      rcases Nat.lt_succ_iff_lt_or_eq.mp hw with q | q
      · exact hall w q h5
      · subst q
        exact hq h5
    refine m_11039_183 (sp_wallMost (hF.mok (by decide) hM) fun v v0 v9 vw => ⟨fun c => ⟨by omega, hn (fun w hw h5 => ?_) μ' _ hF⟩, fun c => ?_⟩)
    · by_cases q : w < x6
      · exact hall w q h5
      · rw [← eg] at h5
        exact absurd (vw w hw (by omega)) h5
    · refine sp_isWall (hF.mok (by decide) hM) (by omega) (fun h5 => ⟨fun c2 => absurd c2 (by decide), fun _ => ?_⟩) (fun h5 => ⟨fun _ => nx μ' hF fun z => absurd (by rw [← eg]; exact h5) z, fun c2 => absurd rfl c2⟩)
      rw [eg] at h5
      exact hbl x6 μ' _ (by omega) h5 hF (fun hh μ'' hF2 => ⟨fun c2 => absurd c2 (by decide), fun _ => hz ⟨x6, by omega, h5, hh⟩ μ'' (hF.trans hF2)⟩) (fun hh μ'' hF2 => ⟨fun _ => nx μ'' (hF.trans hF2) fun _ => hh, fun c2 => absurd rfl c2⟩)
