/-! MATHEMATICS, 53: a wall that is guessed -/
def w8v (c k : Nat) : Int := if k = 0 then (if c < 40 then 0 else 1) else if k = 1 then ((c % 40 : Nat) : Int) else if k = 2 then 0 else if k = 3 then 99 else if k = 4 then 0 else 1
def gsG (g : Gf) (c : Nat) : Gf := fun w k => if w = 8 then w8v c k else g w k
theorem Gq.gs {g g' : Gf} (h : Gq g g') (c : Nat) : Gq (gsG g c) (gsG g' c) := by
  intro w hw
  unfold gsG
  by_cases q : w = 8
  · subst q
    simp
  · simp only [if_neg q]
    exact h w hw
theorem w8_ok (c : Nat) : (w8v c 0 = 0 ∨ w8v c 0 = 1) ∧ (0 ≤ w8v c 1 ∧ w8v c 1 ≤ 99) ∧ (0 ≤ w8v c 2 ∧ w8v c 2 ≤ 99) ∧ (0 ≤ w8v c 3 ∧ w8v c 3 ≤ 99) ∧ (0 ≤ w8v c 4 ∧ w8v c 4 ≤ 99) := by
  have e0 : w8v c 0 = if c < 40 then 0 else 1 := rfl
  have e1 : w8v c 1 = ((c % 40 : Nat) : Int) := rfl
  have e2 : w8v c 2 = 0 := rfl
  have e3 : w8v c 3 = 99 := rfl
  have e4 : w8v c 4 = 0 := rfl
  rw [e0, e1, e2, e3, e4]
  refine ⟨by split <;> simp, by omega, by decide, by decide, by decide⟩
noncomputable abbrev RG (μ : Mem) (c : Nat) (s x y u v : Int) : Lst := rets (gsG (μ 9) c) (μ 1 0 7) (μ 1 0 8) s x y u v
/-- the class's world while it guesses -/
def FG (μ0 μ : Mem) : Prop := ∀ c i k, ¬ (c = 9 ∧ i = 8) → c ≠ 7 → c ≠ 2 → c ≠ 36 → μ c i k = μ0 c i k
def W8 (μ : Mem) (c : Nat) : Prop := ∀ k, k < 6 → μ 9 8 k = w8v c k
theorem FG.c {μ0 μ : Mem} (h : FG μ0 μ) {c : Nat} (h1 : c ≠ 9) (h2 : c ≠ 7) (h3 : c ≠ 2) (h4 : c ≠ 36) : μ c = μ0 c := by
  funext i k
  exact h c i k (by omega) h2 h3 h4
theorem FG.f8 {μ0 μ μ' : Mem} (h : FG μ0 μ) (h2 : F8 μ μ') : FG μ0 μ' := fun c i k a b e f => (h2 c i k b).trans (h c i k a b e f)
theorem W8.f8 {μ μ' : Mem} {c : Nat} (h : W8 μ c) (h2 : F8 μ μ') : W8 μ' c := fun k hk => (h2 9 8 k (by decide)).trans (h k hk)
theorem FG.gq {μ0 μ : Mem} {c : Nat} (h : FG μ0 μ) (w : W8 μ c) : Gq (μ 9) (gsG (μ0 9) c) := by
  intro v hv
  unfold gsG
  by_cases q : v = 8
  · subst q
    simp only [if_pos]
    exact ⟨w 5 (by decide), fun _ k hk => w k (by omega)⟩
  · simp only [if_neg q]
    rw [h 9 v 5 (by omega) (by decide) (by decide) (by decide)]
    exact ⟨rfl, fun _ k _ => h 9 v k (by omega) (by decide) (by decide) (by decide)⟩
theorem FG.co {μ0 μ : Mem} {c : Nat} (h : FG μ0 μ) (w : W8 μ c) (hC : CO μ0) : CO μ := by
  have ok := w8_ok c
  refine ⟨fun v hv t => ?_, by rw [h.c (c := 1) (by decide) (by decide) (by decide) (by decide)]; exact hC.2.1, by rw [h.c (c := 1) (by decide) (by decide) (by decide) (by decide)]; exact hC.2.2⟩
  by_cases q : v = 8
  · subst q
    unfold Wok
    rw [w 0 (by decide), w 1 (by decide), w 2 (by decide), w 3 (by decide), w 4 (by decide)]
    exact ⟨⟨ok.1, ok.2.1, ok.2.2.1, ok.2.2.2.1⟩, ok.2.2.2.2⟩
  · have e : μ 9 v = μ0 9 v := by
      funext k
      exact h 9 v k (by omega) (by decide) (by decide) (by decide)
    unfold Wok
    rw [e] at t ⊢
    exact hC.1 v hv t
theorem FG.rg {μ0 μ : Mem} {c : Nat} (h : FG μ0 μ) (w : W8 μ c) (s x y u v : Int) : rets (μ 9) (μ 1 0 7) (μ 1 0 8) s x y u v = RG μ0 c s x y u v := by
  rw [h.c (c := 1) (by decide) (by decide) (by decide) (by decide)]
  exact (h.gq w).rets _ _ _ _ _ _ _
/-- the code of a guess -/
def cdH (c : Nat) : Int := if c < 40 then (c : Int) else (c : Int) + 60
theorem sp_guess {sc : Scr} {d t : Nat} {μ0 μ : Mem} {Q : Mem → Prop} {c : Nat} {x : Int} (hc : c < 80) (hx : x = cdH c) (hF : FG μ0 μ) (h : ∀ μ', (∀ c i k, ¬ (c = 9 ∧ i = 8) → μ' c i k = μ c i k) → FG μ0 μ' → W8 μ' c → Q μ') : RMv sc (d + 2) 1008 [rfc 1 0, .inl x] (t, 0, 0) μ Q := by
  have w0 : ∀ (m : Mem) (k : Nat) (v : Int) (c i j : Nat), ¬ (c = 9 ∧ i = 8) → wr m 9 8 k v c i j = m c i j := fun m k v c i j hc => if_neg fun z => hc ⟨z.1, z.2.1⟩
  have fin : ∀ fl : Int, fl = w8v c 0 → R_1008 sc (d + 1) (PV t Q) t 18 [rfc 1 0, .inl x] [.inl fl, rfc 9 8] μ := by
    intro fl hfl
    have ok := w8_ok c
    have hm : x % 100 = ((c % 40 : Nat) : Int) := by
      rw [hx]
      unfold cdH
      split <;> omega
    have x0 : 0 ≤ x := by
      rw [hx]
      unfold cdH
      split <;> omega
    refine m_1008_18 ⟨by omega, m_9001 ⟨by rw [hfl]; exact ok.1, PV_mk ?_⟩⟩
    have FF : ∀ c i k, ¬ (c = 9 ∧ i = 8) → (wr (wr (wr (wr (wr (wr μ 9 8 0 fl) 9 8 1 (x % 100)) 9 8 2 0) 9 8 3 99) 9 8 4 0) 9 8 5 1) c i k = μ c i k := fun c i k hc => by rw [w0 _ _ _ _ _ _ hc, w0 _ _ _ _ _ _ hc, w0 _ _ _ _ _ _ hc, w0 _ _ _ _ _ _ hc, w0 _ _ _ _ _ _ hc, w0 _ _ _ _ _ _ hc]
    refine h _ FF (fun c i k a b e f => (FF c i k a).trans (hF c i k a b e f)) (fun k hk => ?_)
    have hk6 : k = 0 ∨ k = 1 ∨ k = 2 ∨ k = 3 ∨ k = 4 ∨ k = 5 := by omega
    rcases hk6 with rfl | rfl | rfl | rfl | rfl | rfl
    · rw [wr_k (by decide), wr_k (by decide), wr_k (by decide), wr_k (by decide), wr_k (by decide), wr_same]
      exact hfl
    · rw [wr_k (by decide), wr_k (by decide), wr_k (by decide), wr_k (by decide), wr_same]
      exact hm
    · rw [wr_k (by decide), wr_k (by decide), wr_k (by decide), wr_same]
      rfl
    · rw [wr_k (by decide), wr_k (by decide), wr_same]
      rfl
    · rw [wr_k (by decide), wr_same]
      rfl
    · rw [wr_same]
      rfl
  have e8 : rF 26 0 8 = some (9, 8) := rF_wall (by decide)
  have e0 : w8v c 0 = if c < 40 then 0 else 1 := rfl
  have hx2 : x < 100 ↔ c < 40 := by
    rw [hx]
    unfold cdH
    split <;> omega
  refine m_1008 ⟨fun z => ?_, fun z => ?_⟩
  · rw [e8]
    exact fin 0 (by rw [e0, if_pos (hx2.mp z)])
  · rw [e8]
    exact fin 1 (by rw [e0, if_neg fun w => z (hx2.mpr w)])
theorem sp_endGuess {sc : Scr} {d t : Nat} {μ : Mem} {Q : Mem → Prop} (h : Q (wr μ 9 8 5 0)) : RMv sc (d + 1) 1009 [rfc 1 0] (t, 0, 0) μ Q := by
  have e8 : rF 26 0 8 = some (9, 8) := rF_wall (by decide)
  refine m_1009 ?_
  rw [e8]
  exact m_1009_7 (PV_mk h)
/-- the guesses that fit -/
def hidJ (μ : Mem) (c j : Nat) : Prop := ech (RG μ c (μ 29 3 j) (μ 27 3 j) (μ 28 3 j) (μ 27 3 j) (μ 28 3 j)) = μ 30 3 j
def PdH (μ : Mem) (k : Int) (c : Nat) : Prop := ∀ j : Nat, (j : Int) < k → hidJ μ c j
abbrev Nq : Type := (Nat → Nat) × Nat
def snN (S : Nq) (v : Nat) : Nq := (fun i => if i = S.2 then v else S.1 i, S.2 + 1)
noncomputable def hsN (Pd : Nat → Prop) : Nat → Nq
  | 0 => (fun _ => 0, 0)
  | c + 1 => ic (Pd c) (snN (hsN Pd c) c) (hsN Pd c)
theorem hsN_s (Pd : Nat → Prop) (c : Nat) : hsN Pd (c + 1) = ic (Pd c) (snN (hsN Pd c) c) (hsN Pd c) := rfl
theorem hsN_le (Pd : Nat → Prop) : ∀ c, (hsN Pd c).2 ≤ c ∧ ∀ i, i < (hsN Pd c).2 → (hsN Pd c).1 i < c
  | 0 => ⟨Nat.le_refl _, fun i hi => absurd hi (by unfold hsN; simp)⟩
  | c + 1 => by
    obtain ⟨h1, h2⟩ := hsN_le Pd c
    rw [hsN_s]
    by_cases q : Pd c
    · rw [ic_t q]
      unfold snN
      simp only []
      refine ⟨by omega, fun i hi => ?_⟩
      by_cases z : i = (hsN Pd c).2
      · rw [if_pos z]; omega
      · rw [if_neg z]
        have := h2 i (by omega)
        omega
    · rw [ic_f q]
      exact ⟨by omega, fun i hi => by have := h2 i hi; omega⟩
theorem hsN_c {Pd Pd' : Nat → Prop} : ∀ {n : Nat}, (∀ c, c < n → (Pd c ↔ Pd' c)) → hsN Pd n = hsN Pd' n
  | 0, _ => rfl
  | n + 1, h => by
    rw [hsN_s, hsN_s, hsN_c fun c hc => h c (by omega)]
    exact ic_c (h n (by omega))
/-- in the class by their codes, in the reference as they are -/
def SCh (μ : Mem) (S : Nq) : Prop := μ 2 0 1 = (S.2 : Int) ∧ ∀ i, i < S.2 → μ 36 0 i = cdH (S.1 i)
def SMh (μ : Mem) (S : Nq) : Prop := μ 11 0 77 = (S.2 : Int) ∧ ∀ i, i < S.2 → μ 83 0 i = ((S.1 i : Nat) : Int)
noncomputable def hidS (μ : Mem) (k : Int) : Nq := hsN (PdH μ k) 80
theorem sp_addh {sc : Scr} {d t : Nat} {μ0 μ : Mem} {Q : Mem → Prop} {S : Nq} {c : Nat} {v : Int} (hv : v = cdH c) (hF : FG μ0 μ) (hS : SCh μ S) (hn : S.2 < 1600) (h : ∀ μ', FG μ0 μ' → SCh μ' (snN S c) → Q μ') : RMv sc (d + 1) 2001 [rfc 2 0, .inl v] (t, 0, 0) μ Q := by
  have e : slen 36 0 = 1600 := rfl
  have h1 := hS.1
  refine m_2001 ⟨fun z => absurd z (by omega), fun _ => ⟨by omega, ?_, ?_⟩⟩
  · rw [wr_c (by decide), h1]; omega
  · rw [h1, Int.toNat_natCast]
    refine h _ (fun c i k a b e f => ?_) ⟨?_, fun i hi => ?_⟩
    · rw [wr_c e, wr_c f]
      exact hF c i k a b e f
    · rw [wr_same, wr_c (by decide), h1]
      unfold snN
      simp
    · rw [wr_c (by decide)]
      unfold snN at hi ⊢
      simp only [] at hi ⊢
      by_cases q : i = S.2
      · rw [if_pos q, q, wr_same]
        exact hv
      · rw [if_neg q, wr_k (by omega)]
        exact hS.2 i (by omega)
theorem SCh.f8 {μ μ' : Mem} {S : Nq} (h : F8 μ μ') (hS : SCh μ S) : SCh μ' S := by
  unfold SCh
  rw [h.c (c := 2) (by decide), h.c (c := 36) (by decide)]
  exact hS
theorem Sim.at3 {μ : Mem} (h : Sim μ) {j : Nat} (hj : (j : Int) < μ 3 3 4) : Pl (μ 27 3 j) (μ 28 3 j) ∧ Ld (μ 29 3 j) ∧ (μ 79 0 j = μ 27 3 j ∧ μ 80 0 j = μ 28 3 j ∧ μ 81 0 j = μ 29 3 j ∧ μ 82 0 j = μ 30 3 j) := by
  obtain ⟨⟨a, b, c, d⟩, e⟩ := h.2.2.2.1.1.2.2 j hj
  have f := h.2.2.2.1.2.2.1 j hj
  exact ⟨h.pl f, e, a.symm, b.symm, c.symm, d.symm⟩
/-- the class looks for hidden walls -/
theorem sp_findHid {sc : Scr} {d t : Nat} {μ : Mem} {Q : Mem → Prop} {k : Int} (hS : Sim μ) (hk : 0 ≤ k ∧ k ≤ μ 3 3 4) (h : ∀ μ', FG μ μ' → μ' 9 8 5 = 0 → SCh μ' (hidS μ k) → Q μ') : RMv sc (d + 7) 51 [rfc 0 0, .inl k] (t, 0, 0) μ Q := by
  have h20 := hS.2.2.2.1.1.2.1.2
  have lp : ∀ (m c : Nat) (μ' : Mem) (q3 q4 q5 : AV), m + c = 80 → FG μ μ' → SCh μ' (hsN (PdH μ k) c) → R_51 sc (d + 6) (PV t Q) t 10 [rfc 0 0, .inl k, .inl (c : Int), q3, q4, q5] [] μ' := by
    intro m
    induction m with
    | zero =>
      intro c μ' q3 q4 q5 hc hF hC
      have : c = 80 := by omega
      subst this
      refine m_51_10 ⟨fun _ => sp_endGuess (PV_mk (h _ (fun c i k a b e f => ?_) (wr_same _ _ _ _ _) ?_)), fun z => absurd (by decide) z⟩
      · unfold wr
        rw [if_neg fun z => a ⟨z.1, z.2.1⟩]
        exact hF c i k a b e f
      · unfold SCh
        rw [wr_c (by decide), wr_c (by decide)]
        exact hC
    | succ m ih =>
      intro c μ' q3 q4 q5 hc hF hC
      obtain ⟨n1, n2⟩ := hsN_le (PdH μ k) c
      have tail : ∀ μ2, (∀ c i k, ¬ (c = 9 ∧ i = 8) → μ2 c i k = μ' c i k) → FG μ μ2 → W8 μ2 c → R_51 sc (d + 6) (PV t Q) t 48 [rfc 0 0, .inl k, .inl (c : Int), .inl (cdH c), .inl 1, .inl 0] [] μ2 := by
        intro μ2 f2 F2 w2
        have C2 : SCh μ2 (hsN (PdH μ k) c) := by
          unfold SCh
          rw [f2 2 0 1 (by omega)]
          exact ⟨hC.1, fun i hi => by rw [f2 36 0 i (by omega)]; exact hC.2 i hi⟩
        have out0 : ∀ (j : Nat) (μ3 : Mem), FG μ μ3 → SCh μ3 (hsN (PdH μ k) c) → ¬ PdH μ k c → R_51 sc (d + 6) (PV t Q) t 10 [rfc 0 0, .inl k, .inl ((c : Int) + 1), .inl (cdH c), .inl 0, .inl (j : Int)] [] μ3 := by
          intro j μ3 F3 C3 n
          refine ih (c + 1) μ3 _ _ _ (by omega) F3 ?_
          rw [hsN_s, ic_f n]
          exact C3
        have out1 : ∀ (v : Int) (j : Nat) (μ3 : Mem), FG μ μ3 → SCh μ3 (hsN (PdH μ k) c) → PdH μ k c → RMv sc (d + 6) 2001 [rfc 2 0, .inl (cdH c)] (t, 0, 0) μ3 (fun μ4 => (InI ((c : Int) + 1)) ∧ (R_51 sc (d + 6) (PV t Q) t 10 [rfc 0 0, .inl k, .inl ((c : Int) + 1), .inl (cdH c), .inl v, .inl (j : Int)] [] μ4)) := by
          intro v j μ3 F3 C3 n
          refine sp_addh rfl F3 C3 (by omega) fun μ4 F4 C4 => ⟨by omega, ih (c + 1) μ4 _ _ _ (by omega) F4 ?_⟩
          rw [hsN_s, ic_t n]
          exact C4
        have lj : ∀ (n j : Nat) (v : Int) (μ3 : Mem), n + j = k.toNat → FG μ μ3 → W8 μ3 c → SCh μ3 (hsN (PdH μ k) c) → ((v = 0 ∧ ¬ PdH μ k c) ∨ (v ≠ 0 ∧ ∀ i, i < j → hidJ μ c i)) → R_51 sc (d + 6) (PV t Q) t 48 [rfc 0 0, .inl k, .inl (c : Int), .inl (cdH c), .inl v, .inl (j : Int)] [] μ3 := by
          intro n
          induction n with
          | zero =>
            intro j v μ3 hj F3 w3 C3 hv
            refine m_51_48 ⟨fun _ => ⟨fun z => ⟨by omega, ?_⟩, fun z => ?_⟩, fun z => absurd (by omega) z⟩
            · rcases hv with hv | hv
              · have r := out0 j μ3 F3 C3 hv.2
                rw [← z] at r
                exact r
              · exact absurd z hv.1
            · rcases hv with hv | hv
              · exact absurd hv.1 z
              · exact out1 v j μ3 F3 C3 fun i hi => hv.2 i (by omega)
          | succ n ihn =>
            intro j v μ3 hj F3 w3 C3 hv
            have e3 : μ3 3 = μ 3 := F3.c (by decide) (by decide) (by decide) (by decide)
            have e27 : μ3 27 = μ 27 := F3.c (by decide) (by decide) (by decide) (by decide)
            have e28 : μ3 28 = μ 28 := F3.c (by decide) (by decide) (by decide) (by decide)
            have e29 : μ3 29 = μ 29 := F3.c (by decide) (by decide) (by decide) (by decide)
            have e30 : μ3 30 = μ 30 := F3.c (by decide) (by decide) (by decide) (by decide)
            have hj3 : Nm μ3 3 (j : Int) := by unfold Nm; rw [e3]; omega
            have N20 : μ3 3 3 4 ≤ ((20 : Nat) : Int) := by rw [e3]; omega
            obtain ⟨pl, ll, -⟩ := hS.at3 (j := j) (by omega)
            refine m_51_48 ⟨fun z => absurd z (by omega), fun _ => ⟨fun z => ⟨fun _ => ⟨by omega, ?_⟩, fun z2 => absurd z z2⟩, fun z => sp_xAt (N := 20) rfl N20 hj3 (sp_yAt (N := 20) rfl rfl N20 hj3 (sp_lAt (N := 20) rfl rfl N20 hj3 ?_))⟩⟩
            · rcases hv with hv | hv
              · have r := out0 j μ3 F3 C3 hv.2
                rw [← z] at r
                exact r
              · exact absurd z hv.1
            · rw [Int.toNat_natCast, e27, e28, e29]
              refine sp_echoTime (F3.co w3 hS.co) pl ll.b fun μ4 F4 => ?_
              have F4' := F3.f8 F4
              have e3' : μ4 3 = μ 3 := F4'.c (by decide) (by decide) (by decide) (by decide)
              refine sp_tAt (N := 20) rfl rfl (by rw [e3']; omega) (by rw [e3']; omega) ?_
              rw [Int.toNat_natCast, F4'.c (c := 30) (by decide) (by decide) (by decide) (by decide), F3.rg w3]
              have hv2 : ∀ i, i < j → hidJ μ c i := by
                rcases hv with hv | hv
                · exact absurd hv.1 z
                · exact hv.2
              refine ⟨fun y => ⟨by omega, ihn (j + 1) 0 μ4 (by omega) F4' (w3.f8 F4) (C3.f8 F4) (Or.inl ⟨rfl, fun w => y (w j (by omega))⟩)⟩, fun y => ⟨by omega, ihn (j + 1) 1 μ4 (by omega) F4' (w3.f8 F4) (C3.f8 F4) (Or.inr ⟨by decide, fun i hi => ?_⟩)⟩⟩
              by_cases q : i = j
              · subst q
                have y2 := Decidable.not_not.mp y
                exact y2
              · exact hv2 i (by omega)
        exact lj k.toNat 0 1 μ2 (by omega) F2 w2 C2 (Or.inr ⟨by decide, fun i hi => absurd hi (by omega)⟩)
      refine m_51_10 ⟨fun z => absurd z (by omega), fun _ => ⟨fun z => ⟨by omega, by omega, ?_⟩, fun z => ?_⟩⟩
      · have e : 100 + (c : Int) - 40 = cdH c := by unfold cdH; rw [if_neg (by omega)]; omega
        rw [e]
        exact sp_guess (c := c) (by omega) rfl hF tail
      · have e : (c : Int) = cdH c := by unfold cdH; rw [if_pos (by omega)]
        refine sp_guess (c := c) (by omega) e hF fun μ2 f2 F2 w2 => ?_
        have r := tail μ2 f2 F2 w2
        rw [← e] at r
        exact r
  refine m_51 (lp 80 0 _ _ _ _ rfl (fun c i k a b e f => wr_c e ▸ rfl) ⟨wr_same _ _ _ _ _, fun i hi => absurd hi (by unfold hsN; simp)⟩)
