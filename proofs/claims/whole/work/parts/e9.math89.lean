/-! MATHEMATICS, 89: read alike, whole -/
theorem tb_w7 : ∀ i : Nat, i < 4 → lst 7 (i : Int) = 0 ∧ gst 7 (i : Int) = 99 := by decide
theorem rd_good {μ μ1 μ' μ2 : Mem} {n u : Nat} {sd : Int} (hS : Sim μ) (hs : sd = 0 ∨ sd = 1) (R : RdGood μ μ1 n) (fo : form (byC μ) n = (0, u)) (hO : OKp (byC μ) n u) (hw0 : (wsT (byC μ) n u).1 = 0) (ho : ouT (byC μ) n (nS (byC μ) n 11 2 20 u) (nS (byC μ) n 11 1 20 u) u = (0, 0)) (F : FrM sd μ1 μ') (h2 : μ' 11 0 2 = 0) (L : LMa μ' (byC μ) n sd u) (G : RgM sd μ' μ2) : Sim μ2 := by
  obtain ⟨R1, r8, r0, r33, r34, r6, RL⟩ := R
  rw [fo] at RL
  have RL' : LCa μ1 (byC μ) n u := RL
  clear RL fo
  have ho1 : (ouT (byC μ) n (nS (byC μ) n 11 2 20 u) (nS (byC μ) n 11 1 20 u) u).1 = 0 := by rw [ho]
  clear ho
  generalize byC μ = b at *
  obtain ⟨LWh, LM, LE, LB, LNh⟩ := RL'
  obtain ⟨MWh, MM, ME, MB, MNh⟩ := L
  obtain ⟨G1, g17, g18, g48, g71, g80, g90⟩ := G
  have Cc : ∀ c, c ≤ 40 → c ≠ 11 → μ2 c = μ1 c := fun c h1 h3 => by
    funext i k
    exact (G1 c i k (by omega) (by omega)).trans (F.1 c i k (by omega) (by omega) (by unfold insd; omega))
  have Rc : ∀ c, 48 ≤ c ∧ c ≤ 70 → μ2 c = μ' c := fun c hc => by
    funext i k
    exact G1 c i k (by omega) (by omega)
  have Oc : ∀ c, c = 46 ∨ c = 92 → μ2 c = μ c := fun c hc => by
    funext i k
    exact (G1 c i k (by omega) (by omega)).trans ((F.1 c i k (by omega) (by omega) (by unfold insd; omega)).trans (R1 c i k (by omega) (by omega) (by omega) (by omega) (by omega) (by omega) (by omega) (by omega) (by omega)))
  obtain ⟨-, -, -, -, ⟨-, h92⟩, ⟨-, -, -, -, p5⟩⟩ := hS
  have f2 : μ2 11 0 2 = 0 := (G1 11 0 2 (by decide) (by decide)).trans h2
  obtain ⟨a1, a2, a3, a4, a5⟩ := LNh
  obtain ⟨m1, m2, m3, m4, m5⟩ := MNh
  have bW : 1 ≤ nS b n 11 2 20 u ∧ nS b n 11 2 20 u ≤ 40 := nS_b (i := 0) hO hw0 (by decide) (by decide) (by decide) (by decide) (by decide)
  have bH : 1 ≤ nS b n 11 1 20 u ∧ nS b n 11 1 20 u ≤ 40 := nS_b (i := 1) hO hw0 (by decide) (by decide) (by decide) (by decide) (by decide)
  have b12 : 1 ≤ nS b n 12 1 10 u ∧ nS b n 12 1 10 u ≤ 99 := nS_b (i := 0) hO hw0 (by decide) (by decide) (by decide) (by decide) (by decide)
  have b13 : 1 ≤ nS b n 13 1 10 u ∧ nS b n 13 1 10 u ≤ 99 := nS_b (i := 0) hO hw0 (by decide) (by decide) (by decide) (by decide) (by decide)
  have b14 : 0 ≤ nS b n 14 1 100 u ∧ nS b n 14 1 100 u ≤ 9999 := nS_b (i := 0) hO hw0 (by decide) (by decide) (by decide) (by decide) (by decide)
  have bd : ∀ (w : Int) (a : Nat), 8 ≤ w ∧ w ≤ 10 → (a : Int) = its w → 2 ≤ a → lst w 0 = 0 → lst w 1 = 0 → ∀ k, k < cS b n w u → (0 ≤ tV b n (pS b n w u k - a) ∧ tV b n (pS b n w u k - a) < nS b n 11 2 20 u) ∧ (0 ≤ tV b n (pS b n w u k - (a - 1)) ∧ tV b n (pS b n w u k - (a - 1)) < nS b n 11 1 20 u) := by
    intro w a hw ha a2 l0 l1 k hk
    obtain ⟨hp, k4, ew⟩ := pS_p hk
    have c0 := st_b hO hw0 hp k4 ew 0 a (by omega) (by omega)
    have c1 := st_b hO hw0 hp k4 ew 1 (a - 1) (by omega) (by omega)
    have l0' : lst w ((0 : Nat) : Int) = 0 := l0
    have l1' : lst w ((1 : Nat) : Int) = 0 := l1
    obtain ⟨s1, s2⟩ := st_p hO ho1 hp k4 ew hw
    exact ⟨⟨by omega, s1 a ha⟩, ⟨by omega, s2 (a - 1) (by omega) (by omega)⟩⟩
  have fk : ∀ (o c cx cy cz N : Nat) (x y z l tm : Nat → Int), LQ μ1 o N x y l tm → MP μ' sd c cx cy cz N x y z → (48 ≤ c ∧ c ≤ 70) → (48 ≤ cx ∧ cx ≤ 70) → (48 ≤ cy ∧ cy ≤ 70) → N ≤ 6 → (∀ k, k < N → (0 ≤ x k ∧ x k < nS b n 11 2 20 u) ∧ (0 ≤ y k ∧ y k < nS b n 11 1 20 u)) → Fk μ2 o c cx cy := by
    intro o c cx cy cz N x y z l tm q1 q2 hc hx hy hN hb
    obtain ⟨q1a, q1b⟩ := q1
    obtain ⟨q2a, q2b⟩ := q2
    unfold Fk lvM ix6
    rw [g18, Cc 3 (by decide) (by decide), Cc 27 (by decide) (by decide), Cc 28 (by decide) (by decide), Cc 1 (by decide) (by decide), Rc c hc, Rc cx hx, Rc cy hy, q1a, q2a, a1, a2]
    refine ⟨rfl, by omega, fun i hi => ?_⟩
    obtain ⟨u1, u2, -, -⟩ := q1b i (by omega)
    obtain ⟨v1, v2, -⟩ := q2b i (by omega)
    rw [u1, u2]
    exact ⟨⟨v1.symm, v2.symm⟩, hb i (by omega)⟩
  have n7 : ((cS b n 7 u : Nat) : Int) ≤ 8 := cS_le hO (by decide)
  have n8 : ((cS b n 8 u : Nat) : Int) ≤ 6 := cS_le hO (by decide)
  have n9 : ((cS b n 9 u : Nat) : Int) ≤ 6 := cS_le hO (by decide)
  have n10 : ((cS b n 10 u : Nat) : Int) ≤ 6 := cS_le hO (by decide)
  have e31 : μ2 1 0 1 = ((cS b n 7 u : Nat) : Int) := by rw [Cc 1 (by decide) (by decide)]; exact LWh.1
  have e30 : μ2 3 0 4 = ((cS b n 8 u : Nat) : Int) := by rw [Cc 3 (by decide) (by decide)]; exact LM.1
  have e32 : μ2 3 2 4 = ((cS b n 10 u : Nat) : Int) := by rw [Cc 3 (by decide) (by decide)]; exact LB.1
  refine ⟨⟨?_, ?_, ?_, ?_, ?_, ?_, ?_⟩, ⟨⟨?_, ?_⟩, ⟨?_, ?_⟩, ⟨?_, ?_⟩, ⟨?_, ?_⟩, ⟨?_, ?_⟩⟩, ⟨fk 0 55 56 57 58 _ _ _ _ _ _ LM MM (by decide) (by decide) (by decide) (by omega) (bd 8 3 (by decide) (by decide) (by decide) (by decide) (by decide)), fk 1 59 60 61 61 _ _ _ _ _ _ LE ME (by decide) (by decide) (by decide) (by omega) (bd 9 2 (by decide) (by decide) (by decide) (by decide) (by decide)), fk 2 62 63 64 65 _ _ _ _ _ _ LB MB (by decide) (by decide) (by decide) (by omega) (bd 10 3 (by decide) (by decide) (by decide) (by decide) (by decide)), fun i hi => ?_, fun i hi => ?_⟩, ?_, ⟨fun s hs3 => ?_, ?_⟩, ⟨?_, ?_, ?_, fun i hi => ?_, fun k hk => ?_⟩⟩
  · unfold liv
    rw [g18]; exact hs
  · unfold lvM
    rw [g18, Rc 48 (by decide), e31]; exact MWh.1
  · rw [e31]; omega
  · intro w hw
    rw [e31] at hw
    obtain ⟨w0, w1, w2, w3, w4, w5⟩ := LWh.2.1 w (by omega)
    obtain ⟨x0, x1, x2, x3, x4, x5⟩ := MWh.2.1 w (by omega)
    have c9 : μ2 9 = μ1 9 := Cc 9 (by decide) (by decide)
    obtain ⟨hp, k4, ew⟩ := pS_p (b := b) (n := n) (w := 7) (t := u) (k := w) (by omega)
    have wb : ∀ i j : Nat, i + j = 4 → 1 ≤ j → 0 ≤ tV b n (pS b n 7 u w - j) ∧ tV b n (pS b n 7 u w - j) ≤ 99 := fun i j hij hj => by
      have s := st_b hO hw0 hp k4 ew i j (by have : its 7 = 4 := by decide
                                             omega) hj
      have t7 := tb_w7 i (by omega)
      omega
    refine ⟨fun k hk => ?_, ?_, ?_, ?_⟩
    · rw [gM_k _ _ hk, g18, Rc (49 + k) (by omega), c9]
      have : k = 0 ∨ k = 1 ∨ k = 2 ∨ k = 3 ∨ k = 4 := by omega
      rcases this with rfl | rfl | rfl | rfl | rfl
      · exact w0.trans x0.symm
      · exact w1.trans x1.symm
      · exact w2.trans x2.symm
      · exact w3.trans x3.symm
      · exact w4.trans x4.symm
    · unfold ix9
      rw [c9, g18, Rc 54 (by decide), w5]
      exact x5.symm
    · unfold Wok
      rw [c9, w0, w1, w2, w3]
      exact ⟨flA_b _ _ _, wb 0 4 (by decide) (by decide), wb 1 3 (by decide) (by decide), wb 2 2 (by decide) (by decide)⟩
    · rw [c9, w4]
      exact wb 3 1 (by decide) (by decide)
  · intro w hw hc
    rw [e31] at hc
    rw [Cc 9 (by decide) (by decide)]
    exact LWh.2.2 w hw (by omega)
  · unfold ix9
    rw [g18, Rc 54 (by decide)]
    exact MWh.2.2.1
  · rw [Rc 54 (by decide)]
    exact MWh.2.2.2
  · rw [g48, Cc 1 (by decide) (by decide), m3, a3]
  · rw [Cc 1 (by decide) (by decide), a3]; exact b12
  · unfold lvM
    rw [g18, Rc 69 (by decide), Cc 1 (by decide) (by decide), m4, a4]
  · rw [Cc 1 (by decide) (by decide), a4]; exact b13
  · unfold lvM
    rw [g18, Rc 70 (by decide), Cc 1 (by decide) (by decide), m5, a5]
  · rw [Cc 1 (by decide) (by decide), a5]; exact b14
  · unfold lvM
    rw [g18, Rc 66 (by decide), Cc 1 (by decide) (by decide), m1, a1]
  · rw [Cc 1 (by decide) (by decide), a1]; exact bW
  · unfold lvM
    rw [g18, Rc 67 (by decide), Cc 1 (by decide) (by decide), m2, a2]
  · rw [Cc 1 (by decide) (by decide), a2]; exact bH
  · rw [e30] at hi
    obtain ⟨-, -, u3, -⟩ := LM.2 i (by omega)
    obtain ⟨-, -, v3⟩ := MM.2 i (by omega)
    obtain ⟨hp, k4, ew⟩ := pS_p (b := b) (n := n) (w := 8) (t := u) (k := i) (by omega)
    have s : 1 ≤ tV b n (pS b n 8 u i - 1) ∧ tV b n (pS b n 8 u i - 1) ≤ 99 := st_b hO hw0 hp k4 ew 2 1 (by decide) (by decide)
    unfold ix6
    rw [Cc 29 (by decide) (by decide), g18, Rc 58 (by decide), u3]
    exact ⟨v3.symm, s⟩
  · rw [e32] at hi
    obtain ⟨-, -, u3, u4⟩ := LB.2 i (by omega)
    obtain ⟨-, -, v3⟩ := MB.2 i (by omega)
    obtain ⟨hp, k4, ew⟩ := pS_p (b := b) (n := n) (w := 10) (t := u) (k := i) (by omega)
    have s : 0 ≤ tV b n (pS b n 10 u i - 1) ∧ tV b n (pS b n 10 u i - 1) ≤ 9999 := st_b hO hw0 hp k4 ew 2 1 (by decide) (by decide)
    unfold ix6
    rw [Cc 29 (by decide) (by decide), Cc 30 (by decide) (by decide), g18, Rc 65 (by decide), u3, u4]
    exact ⟨rfl, v3.symm, s⟩
  · have z3 : μ2 3 3 4 = 0 := by rw [Cc 3 (by decide) (by decide)]; exact r33
    have z4 : μ2 3 4 4 = 0 := by rw [Cc 3 (by decide) (by decide)]; exact r34
    unfold ST Tk
    rw [z3, z4, g71, g80]
    exact ⟨⟨rfl, by decide, fun i hi => absurd hi (by omega)⟩, ⟨rfl, by decide, fun i hi => absurd hi (by omega)⟩, fun i hi => absurd hi (by omega), fun i hi => absurd hi (by omega)⟩
  · rw [Cc 6 (by decide) (by decide), r6 s hs3, g90 s hs3]
    exact ⟨rfl, Or.inl rfl, fun z => absurd rfl z⟩
  · rw [Oc 92 (by decide)]; exact h92
  · rw [g17, Cc 0 (by decide) (by decide)]; exact r0
  · rw [f2, Cc 8 (by decide) (by decide)]; exact r8
  · rw [Cc 8 (by decide) (by decide), r8]; decide
  · rw [Cc 8 (by decide) (by decide), r8] at hi
    omega
  · rw [Oc 46 (by decide)]; exact p5 k hk
theorem p_read {sc : Scr} {t : Nat} {μ : Mem} (hS : Sim μ) : PR sc t μ 3 11007 [] := by
  have hS' := hS
  obtain ⟨⟨l, -, -, -, -, -, fl⟩, -, -, -, -, ⟨-, p2, p3, p4, p5⟩⟩ := hS'
  unfold liv at l
  obtain ⟨n, en⟩ := Int.eq_ofNat_of_zero_le p3.1
  have hT : TO μ n := ⟨en, by omega, fun i hi => (p4 i (by omega)).2⟩
  refine sp_readC (d := 2) hT (fun v μ1 R => ?_) (fun v f0 μ1 R => ?_)
  · have E : ∀ c k, c = 11 ∨ c = 40 ∨ c = 46 ∨ c = 54 → μ1 c 0 k = μ c 0 k := fun c k hc => R.1 c 0 k (by omega) (by omega) (by omega) (by omega)
    refine sp_readM (d := 6) (b := byC μ) (n := n) (sd := 1 - μ 11 0 18) (by rw [E 11 2 (by decide), ← p2]; exact en) (by omega) (fun i hi => ?_) (fun k hk => by rw [E 46 k (by decide)]; exact p5 k hk) (by rw [E 11 18 (by decide)]; omega) (by omega) (fun j hj => by rw [E 54 j (by decide)]; exact fl j hj) (fun v' μ2 F2 z2 z17 => ⟨rfl, rd_bad hS R F2 z2 z17⟩) (fun v' => absurd v' v)
    obtain ⟨x1, x2⟩ := p4 i (by omega)
    rw [E 40 i (by decide), ← x1]
    exact ⟨x2, rfl⟩
  · have E : ∀ c k, c = 11 ∨ c = 40 ∨ c = 46 ∨ c = 54 → μ1 c 0 k = μ c 0 k := fun c k hc => R.1 c 0 k (by omega) (by omega) (by omega) (by omega) (by omega) (by omega) (by omega) (by omega) (by omega)
    refine sp_readM (d := 6) (b := byC μ) (n := n) (sd := 1 - μ 11 0 18) (by rw [E 11 2 (by decide), ← p2]; exact en) (by omega) (fun i hi => ?_) (fun k hk => by rw [E 46 k (by decide)]; exact p5 k hk) (by rw [E 11 18 (by decide)]; omega) (by omega) (fun j hj => by rw [E 54 j (by decide)]; exact fl j hj) (fun v' => absurd v v') (fun v' u fo hO w0 o0 μ2 μ3 F2 z2 L2 G => ⟨rfl, rd_good hS (by omega) R fo hO w0 o0 F2 z2 L2 G⟩)
    obtain ⟨x1, x2⟩ := p4 i (by omega)
    rw [E 40 i (by decide), ← x1]
    exact ⟨x2, rfl⟩
