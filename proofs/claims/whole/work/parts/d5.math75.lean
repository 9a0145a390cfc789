/-! MATHEMATICS, 75: the class fills the land, whole -/
theorem LQ.add {μ : Mem} {o N : Nat} {x y l tm x' y' l' tm' : Nat → Int} {X Y L T : Int} (h : LQ μ o N x y l tm) (ex : ∀ k, k < N → x' k = x k) (ey : ∀ k, k < N → y' k = y k) (el : ∀ k, k < N → l' k = l k) (et : ∀ k, k < N → tm' k = tm k) (eX : x' N = X) (eY : y' N = Y) (eL : l' N = L) (eT : tm' N = T) : LQ (pC μ o N X Y L T) o (N + 1) x' y' l' tm' := by
  unfold LQ pC at *
  refine ⟨by rw [wr_same]; omega, fun k hk => ?_⟩
  rw [wr_c (show (27 : Nat) ≠ 3 by decide), wr_c (show (28 : Nat) ≠ 3 by decide), wr_c (show (29 : Nat) ≠ 3 by decide), wr_c (show (30 : Nat) ≠ 3 by decide), wr_c (show (27 : Nat) ≠ 30 by decide), wr_c (show (28 : Nat) ≠ 30 by decide), wr_c (show (29 : Nat) ≠ 30 by decide), wr_c (show (27 : Nat) ≠ 29 by decide), wr_c (show (28 : Nat) ≠ 29 by decide), wr_c (show (27 : Nat) ≠ 28 by decide)]
  by_cases q : k = N
  · subst q
    rw [wr_same, wr_same, wr_same, wr_same, eX, eY, eL, eT]
    exact ⟨rfl, rfl, rfl, rfl⟩
  · rw [ex k (by omega), ey k (by omega), el k (by omega), et k (by omega)]
    obtain ⟨r1, r2, r3, r4⟩ := h.2 k (by omega)
    refine ⟨?_, ?_, ?_, ?_⟩
    · rw [wr_k q]; exact r1
    · rw [wr_k q, wr_c (by decide)]; exact r2
    · rw [wr_k q, wr_c (by decide), wr_c (by decide)]; exact r3
    · rw [wr_k q, wr_c (by decide), wr_c (by decide), wr_c (by decide)]; exact r4
theorem pQ_o {μ : Mem} {o N c i : Nat} {x y l tm : Int} (h : c ≠ 3) (h2 : ¬ ((27 ≤ c ∧ c ≤ 30) ∧ i = o)) : pC μ o N x y l tm c i = μ c i := by
  unfold pC
  rw [wr_c h]
  by_cases q : 27 ≤ c ∧ c ≤ 30
  · rw [wr_i (by omega), wr_i (by omega), wr_i (by omega), wr_i (by omega)]
  · rw [wr_c (by omega), wr_c (by omega), wr_c (by omega), wr_c (by omega)]
theorem pC_3 {μ : Mem} {o N i k : Nat} {x y l tm : Int} (h : i ≠ o) : pC μ o N x y l tm 3 i k = μ 3 i k := by
  unfold pC
  rw [wr_i h, wr_c (by decide), wr_c (by decide), wr_c (by decide), wr_c (by decide)]
theorem pC_f {μ : Mem} {o N : Nat} {x y l tm : Int} (ho : o < 3) : Ff μ (pC μ o N x y l tm) := by
  unfold pC
  exact ((((Ff.w (by omega)).trans (Ff.w (by omega))).trans (Ff.w (by omega))).trans (Ff.w (by omega))).trans (Ff.w (by omega))
theorem LQ.o {μ : Mem} {o o' N N' M : Nat} {x y l tm x' y' l' tm' : Nat → Int} {X Y L T : Int} (h : LQ μ o N x y l tm) (ho : o ≠ o') (eN : N' = N) (ex : ∀ k, x' k = x k) (ey : ∀ k, y' k = y k) (el : ∀ k, l' k = l k) (et : ∀ k, tm' k = tm k) : LQ (pC μ o' M X Y L T) o N' x' y' l' tm' :=
  h.e eN ex ey el et (pC_3 ho) fun c hc => pQ_o (by omega) (by omega)
theorem sp_addWall {sc : Scr} {d t : Nat} {μ : Mem} {Q : Mem → Prop} {N : Nat} {f a1 a2 a3 a4 : Int} (hN : μ 1 0 1 = (N : Int)) (h8 : N < 8) (hf : f = 0 ∨ f = 1) (h : Q (wr (wr (wr (wr (wr (wr (wr μ 9 N 0 f) 9 N 1 a1) 9 N 2 a2) 9 N 3 a3) 9 N 4 a4) 9 N 5 1) 1 0 1 ((N : Int) + 1))) : RMv sc (d + 2) 1002 [rfc 1 0, .inl f, .inl a1, .inl a2, .inl a3, .inl a4] (t, 0, 0) μ Q := by
  refine m_1002 ⟨fun z => absurd z (by omega), fun _ => ⟨by omega, ?_⟩⟩
  rw [hN, Int.toNat_natCast, rF_wall (by omega)]
  refine m_1002_18 (m_9001 ⟨hf, ?_⟩)
  have r9 : ∀ (m : Mem) (i k : Nat) (v : Int), wr m 9 i k v 1 = m 1 := fun _ _ _ _ => wr_c (by decide)
  simp only [r9, hN]
  exact ⟨by omega, PV_mk h⟩
/-- a word that is told whole -/
theorem sp_tellLand {sc : Scr} {d t : Nat} {μ : Mem} {Q : Mem → Prop} {b : Nat → Int} {n u : Nat} {w f : Int} (h : OKp b n (u + 1)) (k4 : tK b n u = 4) (hL : LCa μ b n u) (ew : w = (wiT b n u).1) (ef : f = flT b n u) (hn : ∀ j : Nat, j < 4 → (j : Int) < (wiT b n u).2 → μ 25 0 j = nuT b n j u) (hQ : ∀ μ', Ff μ μ' → μ' 25 = μ 25 → LCa μ' b n (u + 1) → Q μ') : RMv sc (d + 3) 4021 [rfc 4 0, rfc 1 0, .inl w, .inl f] (t, 0, 0) μ Q := by
  obtain ⟨w', w7, wi1, wi2, au1, au2, nu, fl, ub⟩ := sem_nu h k4
  have h0 := h.le (Nat.le_succ u)
  have ib := its_b w7
  rw [wi1] at ew
  subst ew
  rw [wi2] at hn
  have yes : tK b n u = 4 ∧ (aut b n u).1 = w := ⟨k4, au1⟩
  obtain ⟨y1, y2, y3, y4⟩ := ye_s yes
  have q : ∀ v, v ≠ w → ¬ (tK b n u = 4 ∧ (aut b n u).1 = v) := fun v hv z => hv (by rw [← z.2, au1])
  have cl := cS_lt h0 w7 au2 au1
  obtain ⟨La, Lb, Lc, Ld', Le⟩ := hL
  refine m_4021 ⟨fun z => ?_, fun z => ?_, fun z => ?_, fun z => ?_, fun z => ?_, fun z => ?_, fun z => ?_, fun z => ?_, fun z => absurd z (by omega)⟩
  · subst z
    have i4 : its 7 = 4 := rfl
    have m8 : mst 7 = 8 := rfl
    rw [i4] at hn nu
    rw [m8] at cl
    have e0 := (hn 0 (by omega) (by omega)).trans (nu 0 4 rfl (by omega))
    have e1 := (hn 1 (by omega) (by omega)).trans (nu 1 4 rfl (by omega))
    have e2 := (hn 2 (by omega) (by omega)).trans (nu 2 4 rfl (by omega))
    have e3 := (hn 3 (by omega) (by omega)).trans (nu 3 4 rfl (by omega))
    rw [e0, e1, e2, e3, ef, fl rfl]
    refine sp_addWall (N := cS b n 7 u) La.1 (by omega) (flA_b _ _ _) (hQ _ ((((((((Ff.w (by omega)).trans (Ff.w (by omega))).trans (Ff.w (by omega))).trans (Ff.w (by omega))).trans (Ff.w (by omega)))).trans (Ff.w (by omega))).trans (Ff.w (by omega))) (by rw [wr_c (by decide), wr_c (by decide), wr_c (by decide), wr_c (by decide), wr_c (by decide), wr_c (by decide), wr_c (by decide)]) ⟨?_, Lb.e (no_s (q 8 (by decide))).1 (fun k => by rw [(no_s (q 8 (by decide))).2.1]) (fun k => by rw [(no_s (q 8 (by decide))).2.1]) (fun k => by rw [(no_s (q 8 (by decide))).2.1]) (fun _ => rfl) rfl (fun c hc => ?_), Lc.e (no_s (q 9 (by decide))).1 (fun k => by rw [(no_s (q 9 (by decide))).2.1]) (fun k => by rw [(no_s (q 9 (by decide))).2.1]) (fun _ => rfl) (fun _ => rfl) rfl (fun c hc => ?_), Ld'.e (no_s (q 10 (by decide))).1 (fun k => by rw [(no_s (q 10 (by decide))).2.1]) (fun k => by rw [(no_s (q 10 (by decide))).2.1]) (fun _ => rfl) (fun k => by rw [(no_s (q 10 (by decide))).2.1]) rfl (fun c hc => ?_), ?_⟩)
    · rw [y1]
      unfold LW
      refine ⟨by rw [wr_same]; omega, fun k hk => ?_, fun k hk hk2 => ?_⟩
      · rw [wr_c (by decide)]
        by_cases qk : k = cS b n 7 u
        · subst qk
          rw [y2]
          refine ⟨?_, ?_, ?_, ?_, ?_, ?_⟩
          · rw [wr_k (by decide), wr_k (by decide), wr_k (by decide), wr_k (by decide), wr_k (by decide), wr_same]
          · rw [wr_k (by decide), wr_k (by decide), wr_k (by decide), wr_k (by decide), wr_same]; rfl
          · rw [wr_k (by decide), wr_k (by decide), wr_k (by decide), wr_same]; congr 1; omega
          · rw [wr_k (by decide), wr_k (by decide), wr_same]; congr 1; omega
          · rw [wr_k (by decide), wr_same]; congr 1; omega
          · rw [wr_same]
        · rw [wr_i qk, wr_i qk, wr_i qk, wr_i qk, wr_i qk, wr_i qk, y3 k (by omega)]
          exact La.2.1 k (by omega)
      · have qk : k ≠ cS b n 7 u := by omega
        rw [wr_c (by decide), wr_i qk, wr_i qk, wr_i qk, wr_i qk, wr_i qk, wr_i qk]
        exact La.2.2 k hk (by omega)
    · rw [wr_c (by omega), wr_c (by omega), wr_c (by omega), wr_c (by omega), wr_c (by omega), wr_c (by omega), wr_c (by omega)]
    · rw [wr_c (by omega), wr_c (by omega), wr_c (by omega), wr_c (by omega), wr_c (by omega), wr_c (by omega), wr_c (by omega)]
    · rw [wr_c (by omega), wr_c (by omega), wr_c (by omega), wr_c (by omega), wr_c (by omega), wr_c (by omega), wr_c (by omega)]
    · unfold LN at Le ⊢
      rw [(no_s (q 11 (by decide))).2.2, (no_s (q 11 (by decide))).2.2, (no_s (q 12 (by decide))).2.2, (no_s (q 13 (by decide))).2.2, (no_s (q 14 (by decide))).2.2]
      exact Le
  · subst z
    have i4 : its 8 = 3 := rfl
    have m8 : mst 8 = 6 := rfl
    rw [i4] at hn nu
    rw [m8] at cl
    have e0 := (hn 0 (by omega) (by omega)).trans (nu 0 3 rfl (by omega))
    have e1 := (hn 1 (by omega) (by omega)).trans (nu 1 3 rfl (by omega))
    have e2 := (hn 2 (by omega) (by omega)).trans (nu 2 3 rfl (by omega))
    rw [e0, e1, e2]
    refine sp_addPost (N := cS b n 8 u) (K := 6) rfl rfl rfl rfl (by decide) Lb.1 (fun _ => hQ _ (pC_f (by decide)) (by funext i; exact pQ_o (by decide) (by omega)) ⟨La.e (no_s (q 7 (by decide))).1 (no_s (q 7 (by decide))).2.1 (by rw [pQ_o (by decide) (by omega)]) (by funext i; rw [pQ_o (by decide) (by omega)]), ?_, Lc.o (by decide) (no_s (q 9 (by decide))).1 (fun k => by rw [(no_s (q 9 (by decide))).2.1]) (fun k => by rw [(no_s (q 9 (by decide))).2.1]) (fun _ => rfl) (fun _ => rfl), Ld'.o (by decide) (no_s (q 10 (by decide))).1 (fun k => by rw [(no_s (q 10 (by decide))).2.1]) (fun k => by rw [(no_s (q 10 (by decide))).2.1]) (fun _ => rfl) (fun k => by rw [(no_s (q 10 (by decide))).2.1]), ?_⟩) (fun z => absurd (by omega) z)
    · rw [y1]
      exact Lb.add (fun k hk => by rw [y3 k hk]) (fun k hk => by rw [y3 k hk]) (fun k hk => by rw [y3 k hk]) (fun k hk => rfl) (by rw [y2]; congr 1) (by rw [y2]; congr 1; omega) (by rw [y2]; congr 1; omega) rfl
    · unfold LN at Le ⊢
      rw [pQ_o (by decide) (by omega), (no_s (q 11 (by decide))).2.2, (no_s (q 11 (by decide))).2.2, (no_s (q 12 (by decide))).2.2, (no_s (q 13 (by decide))).2.2, (no_s (q 14 (by decide))).2.2]
      exact Le
  · subst z
    have i4 : its 9 = 2 := rfl
    have m8 : mst 9 = 6 := rfl
    rw [i4] at hn nu
    rw [m8] at cl
    have e0 := (hn 0 (by omega) (by omega)).trans (nu 0 2 rfl (by omega))
    have e1 := (hn 1 (by omega) (by omega)).trans (nu 1 2 rfl (by omega))
    rw [e0, e1]
    refine sp_addPost (N := cS b n 9 u) (K := 6) rfl rfl rfl rfl (by decide) Lc.1 (fun _ => hQ _ (pC_f (by decide)) (by funext i; exact pQ_o (by decide) (by omega)) ⟨La.e (no_s (q 7 (by decide))).1 (no_s (q 7 (by decide))).2.1 (by rw [pQ_o (by decide) (by omega)]) (by funext i; rw [pQ_o (by decide) (by omega)]), Lb.o (by decide) (no_s (q 8 (by decide))).1 (fun k => by rw [(no_s (q 8 (by decide))).2.1]) (fun k => by rw [(no_s (q 8 (by decide))).2.1]) (fun k => by rw [(no_s (q 8 (by decide))).2.1]) (fun _ => rfl), ?_, Ld'.o (by decide) (no_s (q 10 (by decide))).1 (fun k => by rw [(no_s (q 10 (by decide))).2.1]) (fun k => by rw [(no_s (q 10 (by decide))).2.1]) (fun _ => rfl) (fun k => by rw [(no_s (q 10 (by decide))).2.1]), ?_⟩) (fun z => absurd (by omega) z)
    · rw [y1]
      exact Lc.add (fun k hk => by rw [y3 k hk]) (fun k hk => by rw [y3 k hk]) (fun k hk => rfl) (fun k hk => rfl) (by rw [y2]; congr 1) (by rw [y2]; congr 1; omega) rfl rfl
    · unfold LN at Le ⊢
      rw [pQ_o (by decide) (by omega), (no_s (q 11 (by decide))).2.2, (no_s (q 11 (by decide))).2.2, (no_s (q 12 (by decide))).2.2, (no_s (q 13 (by decide))).2.2, (no_s (q 14 (by decide))).2.2]
      exact Le
  · subst z
    have i4 : its 10 = 3 := rfl
    have m8 : mst 10 = 6 := rfl
    rw [i4] at hn nu
    rw [m8] at cl
    have e0 := (hn 0 (by omega) (by omega)).trans (nu 0 3 rfl (by omega))
    have e1 := (hn 1 (by omega) (by omega)).trans (nu 1 3 rfl (by omega))
    have e2 := (hn 2 (by omega) (by omega)).trans (nu 2 3 rfl (by omega))
    rw [e0, e1, e2]
    refine sp_addPost (N := cS b n 10 u) (K := 6) rfl rfl rfl rfl (by decide) Ld'.1 (fun _ => hQ _ (pC_f (by decide)) (by funext i; exact pQ_o (by decide) (by omega)) ⟨La.e (no_s (q 7 (by decide))).1 (no_s (q 7 (by decide))).2.1 (by rw [pQ_o (by decide) (by omega)]) (by funext i; rw [pQ_o (by decide) (by omega)]), Lb.o (by decide) (no_s (q 8 (by decide))).1 (fun k => by rw [(no_s (q 8 (by decide))).2.1]) (fun k => by rw [(no_s (q 8 (by decide))).2.1]) (fun k => by rw [(no_s (q 8 (by decide))).2.1]) (fun _ => rfl), Lc.o (by decide) (no_s (q 9 (by decide))).1 (fun k => by rw [(no_s (q 9 (by decide))).2.1]) (fun k => by rw [(no_s (q 9 (by decide))).2.1]) (fun _ => rfl) (fun _ => rfl), ?_, ?_⟩) (fun z => absurd (by omega) z)
    · rw [y1]
      exact Ld'.add (fun k hk => by rw [y3 k hk]) (fun k hk => by rw [y3 k hk]) (fun k hk => rfl) (fun k hk => by rw [y3 k hk]) (by rw [y2]; congr 1) (by rw [y2]; congr 1; omega) rfl (by rw [y2]; congr 1; omega)
    · unfold LN at Le ⊢
      rw [pQ_o (by decide) (by omega), (no_s (q 11 (by decide))).2.2, (no_s (q 11 (by decide))).2.2, (no_s (q 12 (by decide))).2.2, (no_s (q 13 (by decide))).2.2, (no_s (q 14 (by decide))).2.2]
      exact Le
  all_goals
    have L7 := fun (m : Mem) (e1 : m 1 0 1 = μ 1 0 1) (e9 : m 9 = μ 9) (z : (7 : Int) ≠ w) => La.e (μ' := m) (no_s (q 7 z)).1 (no_s (q 7 z)).2.1 e1 e9
    have L8 := fun (m : Mem) (e3 : m 3 0 4 = μ 3 0 4) (ec : ∀ c, 27 ≤ c ∧ c ≤ 30 → m c 0 = μ c 0) (z : (8 : Int) ≠ w) => Lb.e (μ' := m) (x' := fun k => tV b n (pS b n 8 (u + 1) k - 3)) (y' := fun k => tV b n (pS b n 8 (u + 1) k - 2)) (l' := fun k => tV b n (pS b n 8 (u + 1) k - 1)) (tm' := fun _ => 0) (no_s (q 8 z)).1 (fun k => by rw [(no_s (q 8 z)).2.1]) (fun k => by rw [(no_s (q 8 z)).2.1]) (fun k => by rw [(no_s (q 8 z)).2.1]) (fun _ => rfl) e3 ec
    have L9 := fun (m : Mem) (e3 : m 3 1 4 = μ 3 1 4) (ec : ∀ c, 27 ≤ c ∧ c ≤ 30 → m c 1 = μ c 1) (z : (9 : Int) ≠ w) => Lc.e (μ' := m) (x' := fun k => tV b n (pS b n 9 (u + 1) k - 2)) (y' := fun k => tV b n (pS b n 9 (u + 1) k - 1)) (l' := fun _ => 0) (tm' := fun _ => 0) (no_s (q 9 z)).1 (fun k => by rw [(no_s (q 9 z)).2.1]) (fun k => by rw [(no_s (q 9 z)).2.1]) (fun _ => rfl) (fun _ => rfl) e3 ec
    have L10 := fun (m : Mem) (e3 : m 3 2 4 = μ 3 2 4) (ec : ∀ c, 27 ≤ c ∧ c ≤ 30 → m c 2 = μ c 2) (z : (10 : Int) ≠ w) => Ld'.e (μ' := m) (x' := fun k => tV b n (pS b n 10 (u + 1) k - 3)) (y' := fun k => tV b n (pS b n 10 (u + 1) k - 2)) (l' := fun _ => 99) (tm' := fun k => tV b n (pS b n 10 (u + 1) k - 1)) (no_s (q 10 z)).1 (fun k => by rw [(no_s (q 10 z)).2.1]) (fun k => by rw [(no_s (q 10 z)).2.1]) (fun _ => rfl) (fun k => by rw [(no_s (q 10 z)).2.1]) e3 ec
  · subst z
    have i4 : its 11 = 2 := rfl
    rw [i4] at hn nu
    have e0 := (hn 0 (by omega) (by omega)).trans (nu 0 2 rfl (by omega))
    have e1 := (hn 1 (by omega) (by omega)).trans (nu 1 2 rfl (by omega))
    rw [wr_c (show (25 : Nat) ≠ 1 by decide), e0, e1]
    refine hQ _ ((Ff.w (by omega)).trans (Ff.w (by omega))) (by rw [wr_c (by decide), wr_c (by decide)]) ⟨L7 _ (by rw [wr_k (by decide), wr_k (by decide)]) (by rw [wr_c (by decide), wr_c (by decide)]) (by decide), L8 _ (by rw [wr_c (by decide), wr_c (by decide)]) (fun c hc => by rw [wr_c (by omega), wr_c (by omega)]) (by decide), L9 _ (by rw [wr_c (by decide), wr_c (by decide)]) (fun c hc => by rw [wr_c (by omega), wr_c (by omega)]) (by decide), L10 _ (by rw [wr_c (by decide), wr_c (by decide)]) (fun c hc => by rw [wr_c (by omega), wr_c (by omega)]) (by decide), ?_⟩
    unfold LN at Le ⊢
    rw [y4, y4, (no_s (q 12 (by decide))).2.2, (no_s (q 13 (by decide))).2.2, (no_s (q 14 (by decide))).2.2, wr_same, wr_k (by decide), wr_same, wr_k (by decide), wr_k (by decide), wr_k (by decide), wr_k (by decide), wr_k (by decide), wr_k (by decide)]
    exact ⟨rfl, by congr 1; omega, Le.2.2⟩
  · subst z
    have i4 : its 12 = 1 := rfl
    rw [i4] at hn nu
    have e0 := (hn 0 (by omega) (by omega)).trans (nu 0 1 rfl (by omega))
    rw [e0]
    refine hQ _ (Ff.w (by omega)) (wr_c (by decide)) ⟨L7 _ (by rw [wr_k (by decide)]) (by rw [wr_c (by decide)]) (by decide), L8 _ (by rw [wr_c (by decide)]) (fun c hc => by rw [wr_c (by omega)]) (by decide), L9 _ (by rw [wr_c (by decide)]) (fun c hc => by rw [wr_c (by omega)]) (by decide), L10 _ (by rw [wr_c (by decide)]) (fun c hc => by rw [wr_c (by omega)]) (by decide), ?_⟩
    unfold LN at Le ⊢
    rw [y4, (no_s (q 11 (by decide))).2.2, (no_s (q 11 (by decide))).2.2, (no_s (q 13 (by decide))).2.2, (no_s (q 14 (by decide))).2.2, wr_same, wr_k (by decide), wr_k (by decide), wr_k (by decide), wr_k (by decide)]
    exact ⟨Le.1, Le.2.1, rfl, Le.2.2.2⟩
  · subst z
    have i4 : its 13 = 1 := rfl
    rw [i4] at hn nu
    have e0 := (hn 0 (by omega) (by omega)).trans (nu 0 1 rfl (by omega))
    rw [e0]
    refine hQ _ (Ff.w (by omega)) (wr_c (by decide)) ⟨L7 _ (by rw [wr_k (by decide)]) (by rw [wr_c (by decide)]) (by decide), L8 _ (by rw [wr_c (by decide)]) (fun c hc => by rw [wr_c (by omega)]) (by decide), L9 _ (by rw [wr_c (by decide)]) (fun c hc => by rw [wr_c (by omega)]) (by decide), L10 _ (by rw [wr_c (by decide)]) (fun c hc => by rw [wr_c (by omega)]) (by decide), ?_⟩
    unfold LN at Le ⊢
    rw [y4, (no_s (q 11 (by decide))).2.2, (no_s (q 11 (by decide))).2.2, (no_s (q 12 (by decide))).2.2, (no_s (q 14 (by decide))).2.2, wr_same, wr_k (by decide), wr_k (by decide), wr_k (by decide), wr_k (by decide)]
    exact ⟨Le.1, Le.2.1, Le.2.2.1, rfl, Le.2.2.2.2⟩
  · subst z
    have i4 : its 14 = 1 := rfl
    rw [i4] at hn nu
    have e0 := (hn 0 (by omega) (by omega)).trans (nu 0 1 rfl (by omega))
    rw [e0]
    refine hQ _ (Ff.w (by omega)) (wr_c (by decide)) ⟨L7 _ (by rw [wr_k (by decide)]) (by rw [wr_c (by decide)]) (by decide), L8 _ (by rw [wr_c (by decide)]) (fun c hc => by rw [wr_c (by omega)]) (by decide), L9 _ (by rw [wr_c (by decide)]) (fun c hc => by rw [wr_c (by omega)]) (by decide), L10 _ (by rw [wr_c (by decide)]) (fun c hc => by rw [wr_c (by omega)]) (by decide), ?_⟩
    unfold LN at Le ⊢
    rw [y4, (no_s (q 11 (by decide))).2.2, (no_s (q 11 (by decide))).2.2, (no_s (q 12 (by decide))).2.2, (no_s (q 13 (by decide))).2.2, wr_same, wr_k (by decide), wr_k (by decide), wr_k (by decide), wr_k (by decide)]
    exact ⟨Le.1, Le.2.1, Le.2.2.1, Le.2.2.2.1, rfl⟩
/-- an empty land -/
theorem sp_clear {sc : Scr} {d t : Nat} {μ : Mem} {Q : Mem → Prop} {b : Nat → Int} {n : Nat} (h : ∀ μ', Ff μ μ' → LCa μ' b n 0 → Q μ') : RMv sc (d + 1) 1001 [rfc 1 0] (t, 0, 0) μ Q := by
  have lp : ∀ (m j : Nat) (q4 : AV) (μ' : Mem), m + j = 9 → Ff μ μ' → (∀ k, k < j → μ' 9 k 5 = 0) → R_1001 sc d (PV t Q) t 10 [rfc 1 0, rfc 26 0, .inl 9, .inl (j : Int), q4] [] μ' := by
    intro m
    induction m with
    | zero =>
      intro j q4 μ' hj hF hz
      have : j = 9 := by omega
      subst this
      refine m_1001_10 ⟨fun _ => PV_mk (h _ (hF.trans (((((((((Ff.w (by omega)).trans (Ff.w (by omega))).trans (Ff.w (by omega))).trans (Ff.w (by omega))).trans (Ff.w (by omega))).trans (Ff.w (by omega))).trans (Ff.w (by omega))).trans (Ff.w (by omega))).trans (Ff.w (by omega)))) ⟨⟨?_, fun k hk => absurd hk (by unfold cS; omega), fun k hk _ => ?_⟩, ⟨?_, fun k hk => absurd hk (by unfold cS; omega)⟩, ⟨?_, fun k hk => absurd hk (by unfold cS; omega)⟩, ⟨?_, fun k hk => absurd hk (by unfold cS; omega)⟩, ?_⟩), fun z => absurd (by decide) z⟩
      · rfl
      · rw [wr_c (by decide), wr_c (by decide), wr_c (by decide), wr_c (by decide), wr_c (by decide), wr_c (by decide), wr_c (by decide), wr_c (by decide), wr_c (by decide)]
        exact hz k hk
      · rfl
      · rfl
      · rfl
      · exact ⟨rfl, rfl, rfl, rfl, rfl⟩
    | succ m ih =>
      intro j q4 μ' hj hF hz
      refine m_1001_10 ⟨fun z => absurd z (by omega), fun _ => ⟨by omega, ?_⟩⟩
      rw [Int.toNat_natCast, rF_wall (by omega)]
      refine m_1001_18 ⟨by omega, ih (j + 1) _ _ (by omega) (hF.trans (Ff.w (by omega))) fun k hk => ?_⟩
      by_cases q : k = j
      · rw [q, wr_same]
      · rw [wr_i q]
        exact hz k (by omega)
  exact m_1001 (lp 9 0 vx μ rfl Ff.rfl' fun k hk => absurd hk (by omega))
theorem sp_fillLand {sc : Scr} {d t : Nat} {μ : Mem} {Q : Mem → Prop} {b : Nat → Int} {n T : Nat} (hK : Kept μ b n T) (hO : OKp b n T) (h : ∀ μ', Ff μ μ' → LCa μ' b n T → Q μ') : RMv sc (d + 4) 4020 [rfc 4 0, rfc 1 0] (t, 0, 0) μ Q := by
  have T4 := hO.m
  have lp : ∀ (m u : Nat) (μ' : Mem), m + u = T → Ff μ μ' → LCa μ' b n u → (∀ j : Nat, j < 4 → (j : Int) < (wiT b n u).2 → μ' 25 0 j = nuT b n j u) → R_4020 sc (d + 3) (PV t Q) t 14 [rfc 4 0, rfc 1 0, .inl (wiT b n u).1, .inl (wiT b n u).2, .inl (flT b n u), .inl (u : Int)] [] μ' := by
    intro m
    induction m with
    | zero =>
      intro u μ' hu hF hL hn
      have : u = T := by omega
      subst this
      have K := hF.kept hK
      exact m_4020_14 ⟨fun _ => PV_mk (h _ hF hL), fun z => absurd (by rw [K.1]; exact Int.le_refl _) z⟩
    | succ m ih =>
      intro u μ' hu hF hL hn
      have K := hF.kept hK
      obtain ⟨a1, a2, a3⟩ := K.2 u (by omega)
      obtain ⟨w1, w2⟩ := wiT_b b n u
      have hO1 : OKp b n (u + 1) := hO.le (by omega)
      have i0 := ih (u + 1)
      have same : ¬ tK b n u = 4 → ¬ tK b n u = 3 → tK b n u < 7 → R_4020 sc (d + 3) (PV t Q) t 14 [rfc 4 0, rfc 1 0, .inl (wiT b n u).1, .inl (wiT b n u).2, .inl (flT b n (u + 1)), .inl ((u : Int) + 1)] [] μ' := by
        intro k4 k3 k7
        have r := i0 μ' (by omega) hF (hL.n k4 rfl rfl rfl (fun _ _ => rfl)) (fun j hj hj2 => by
          rw [wiT_s, if_neg (by omega), if_neg k3] at hj2
          rw [nuT_s, if_neg fun z => k3 z.1]
          exact hn j hj hj2)
        rw [wiT_s, if_neg (by omega), if_neg k3] at r
        exact r
      have semi : tK b n u = 4 → RMv sc (d + 3) 4021 [rfc 4 0, rfc 1 0, .inl (wiT b n u).1, .inl (flT b n u)] (t, 0, 0) μ' (fun μ2 => ((-2147483648 : Int) ≤ (u : Int) + 1 ∧ (u : Int) + 1 ≤ 2147483647) ∧ R_4020 sc (d + 3) (PV t Q) t 14 [rfc 4 0, rfc 1 0, .inl (wiT b n u).1, .inl (wiT b n u).2, .inl (flT b n u), .inl ((u : Int) + 1)] [] μ2) := by
        intro k4
        refine sp_tellLand hO1 k4 hL rfl rfl hn fun μ2 F2 e25 L2 => ⟨by omega, ?_⟩
        have r := i0 μ2 (by omega) (hF.trans F2) L2 (fun j hj hj2 => ?_)
        · rw [wiT_s, if_neg (by omega), if_neg (by omega), flT_s, if_neg (by omega), if_neg (by omega)] at r
          exact r
        · rw [wiT_s, if_neg (by omega), if_neg (by omega)] at hj2
          rw [e25, nuT_s, if_neg fun z => absurd z.1 (by omega)]
          exact hn j hj hj2
      refine m_4020_14 ⟨fun z => absurd (K.1 ▸ z) (by omega), fun _ => ?_⟩
      rw [Int.toNat_natCast, a1, a3]
      have f71 : tK b n u = 5 ∨ tK b n u = 6 → R_4020 sc (d + 3) (PV t Q) t 71 [rfc 4 0, rfc 1 0, .inl (wiT b n u).1, .inl (wiT b n u).2, .inl (flT b n u), .inl (u : Int)] [] μ' := by
        intro k56
        have s := same (by omega) (by omega) (by omega)
        refine m_4020_71 ?_
        rw [Int.toNat_natCast, a1]
        rw [flT_s] at s
        refine ⟨by omega, fun z => ⟨by omega, ?_⟩, fun z => ⟨by omega, ?_⟩⟩
        · rw [if_pos (by omega)] at s
          exact s
        · rw [if_neg (by omega), if_pos (by omega)] at s
          exact s
      refine ⟨by omega, fun k7 => ⟨by omega, fun k5 => f71 (Or.inl k5), fun k5 => ⟨by omega, fun k6 => ⟨by omega, fun k3 => ⟨by omega, fun k4 => ⟨by omega, ?_⟩, fun k4 => semi (by omega)⟩, fun k3 => ?_⟩, fun k6 => f71 (by omega)⟩⟩, fun k7 => ⟨by omega, by omega, ?_⟩⟩
      · have s := same k4 k3 k7
        rw [flT_s, if_neg k5, if_neg k6] at s
        exact s
      · have k3' := Decidable.not_not.mp k3
        obtain ⟨w, S, hp, w7, wi1, wi2, sb1, sb2⟩ := at_int hO1 k3'
        have ib := its_b w7
        refine ⟨fun z => absurd z (by omega), fun _ => ⟨by omega, by omega, by omega, by omega, ?_⟩⟩
        have r := i0 (wr μ' 25 0 (wiT b n u).2.toNat (tV b n u)) (by omega) (hF.trans (Ff.w (by omega))) (hL.n (by omega) (wr_c (by decide)) (wr_c (by decide)) (wr_c (by decide)) (fun c hc => wr_c (by omega))) (fun j hj hj2 => ?_)
        · rw [wiT_s, if_neg (by omega), if_pos k3', flT_s, if_neg k5, if_neg k6] at r
          exact r
        · rw [wiT_s, if_neg (by omega), if_pos k3'] at hj2
          simp only [] at hj2
          rw [nuT_s]
          by_cases q : (wiT b n u).2 = (j : Int)
          · rw [if_pos ⟨k3', q⟩, show (wiT b n u).2.toNat = j by omega, wr_same]
          · rw [if_neg fun z => q z.2, wr_k (by omega)]
            exact hn j hj (by omega)
      · have r := i0 μ' (by omega) hF (hL.n (by omega) rfl rfl rfl (fun _ _ => rfl)) (fun j hj hj2 => absurd hj2 (by rw [wiT_s, if_pos (by omega)]; simp only []; omega))
        rw [wiT_s, if_pos (by omega), flT_s, if_neg (by omega), if_neg (by omega)] at r
        exact r
  exact m_4020 (sp_clear fun μ1 F1 L1 => lp T 0 μ1 (by omega) F1 L1 fun j _ hj => absurd hj (by unfold wiT; simp only []; omega))
