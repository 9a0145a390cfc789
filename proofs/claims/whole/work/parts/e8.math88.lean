/-! MATHEMATICS, 88: read alike -/
theorem rd_bad {μ μ1 μ2 : Mem} {n : Nat} (hS : Sim μ) (R : RdBad μ μ1 n) (F : FrM (1 - μ 11 0 18) μ1 μ2) (h2 : μ2 11 0 2 = 0) (h17 : μ2 11 0 17 = ((stt (byC μ) n (vdC (byC μ) n).2 : Nat) : Int)) : Sim μ2 := by
  obtain ⟨R1, R2, R3⟩ := R
  obtain ⟨F1, F2⟩ := F
  have E : ∀ c i k, ¬ c = 4 → ¬ (21 ≤ c ∧ c ≤ 25) → ¬ (c = 0 ∧ i = 0 ∧ k = 11) → ¬ (c = 8 ∧ i = 0 ∧ k = 1) → ¬ (c = 11 ∧ i = 0 ∧ (k = 2 ∨ k = 4 ∨ (10 ≤ k ∧ k ≤ 17) ∨ k = 19 ∨ k = 20 ∨ k = 45)) → ¬ ((41 ≤ c ∧ c ≤ 45) ∨ c = 47 ∨ c = 71 ∨ c = 72) → ¬ (i = 0 ∧ insd (1 - μ 11 0 18) c k) → μ2 c i k = μ c i k := fun c i k a1 a2 a3 a4 a5 a6 a7 => (F1 c i k a5 a6 a7).trans (R1 c i k (fun z => a1 z.1) a2 a3 a4)
  have Ec : ∀ c, ¬ (c = 0 ∨ c = 4 ∨ c = 8 ∨ c = 11 ∨ (21 ≤ c ∧ c ≤ 25) ∨ (41 ≤ c ∧ c ≤ 45) ∨ (47 ≤ c ∧ c ≤ 72)) → μ2 c = μ c := fun c hc => by
    funext i k
    exact E c i k (by omega) (by omega) (by omega) (by omega) (by omega) (by omega) (by unfold insd; omega)
  have Ef : ∀ k, ¬ (k = 2 ∨ k = 4 ∨ (10 ≤ k ∧ k ≤ 17) ∨ k = 19 ∨ k = 20 ∨ k = 45) → μ2 11 0 k = μ 11 0 k := fun k hk => E 11 0 k (by decide) (by decide) (by omega) (by omega) (by omega) (by decide) (by unfold insd; omega)
  obtain ⟨⟨l, nn, n8, wl', wn, g8, fl⟩, SNh, ⟨f1, f2, f3, f4, f5⟩, SThh, SHh, ⟨p1, p2, p3, p4, p5⟩⟩ := hS
  have e18 : μ2 11 0 18 = μ 11 0 18 := Ef 18 (by decide)
  have l' := l
  unfold liv at l'
  have El : ∀ c k, 48 ≤ c ∧ c ≤ 70 → ¬ insd (1 - μ 11 0 18) c k → μ2 c 0 k = μ c 0 k := fun c k hc hk => E c 0 k (by omega) (by omega) (by omega) (by omega) (by omega) (by omega) (fun z => hk z.2)
  have el : ∀ c, c = 48 ∨ c = 55 ∨ c = 59 ∨ c = 62 ∨ (66 ≤ c ∧ c ≤ 70) → μ2 c 0 (μ 11 0 18).toNat = μ c 0 (μ 11 0 18).toNat := fun c hc => El c _ (by omega) (by unfold insd; omega)
  have e9 : ∀ c (w : Nat), 49 ≤ c ∧ c ≤ 54 → w < 9 → μ2 c 0 ((9 * (μ 11 0 18)) + (w : Int)).toNat = μ c 0 ((9 * (μ 11 0 18)) + (w : Int)).toNat := fun c w hc hw => El c _ (by omega) (by unfold insd; omega)
  have e6 : ∀ c (w : Nat), (56 ≤ c ∧ c ≤ 58) ∨ (60 ≤ c ∧ c ≤ 61) ∨ (63 ≤ c ∧ c ≤ 65) → w < 6 → μ2 c 0 ((6 * (μ 11 0 18)) + (w : Int)).toNat = μ c 0 ((6 * (μ 11 0 18)) + (w : Int)).toNat := fun c w hc hw => El c _ (by omega) (by unfold insd; omega)
  have fk : ∀ o cm cx cy, Fk μ o cm cx cy → (cm = 55 ∨ cm = 59 ∨ cm = 62) → ((56 ≤ cx ∧ cx ≤ 58) ∨ (60 ≤ cx ∧ cx ≤ 61) ∨ (63 ≤ cx ∧ cx ≤ 65)) → ((56 ≤ cy ∧ cy ≤ 58) ∨ (60 ≤ cy ∧ cy ≤ 61) ∨ (63 ≤ cy ∧ cy ≤ 65)) → Fk μ2 o cm cx cy := fun o cm cx cy h hm hx hy => by
    unfold Fk lvM ix6 at *
    obtain ⟨q1, q2, q3⟩ := h
    rw [e18, el cm (by omega), Ec 3 (by decide), Ec 27 (by decide), Ec 28 (by decide), Ec 1 (by decide)]
    refine ⟨q1, q2, fun i hi => ?_⟩
    rw [e6 cx i hx (by omega), e6 cy i hy (by omega)]
    exact q3 i hi
  refine ⟨⟨?_, ?_, ?_, ?_, ?_, ?_, ?_⟩, ?_, ⟨fk _ _ _ _ f1 (by decide) (by decide) (by decide), fk _ _ _ _ f2 (by decide) (by decide) (by decide), fk _ _ _ _ f3 (by decide) (by decide) (by decide), fun i hi => ?_, fun i hi => ?_⟩, ?_, ?_, ⟨?_, ?_, ?_, fun i hi => ?_, fun k hk => ?_⟩⟩
  · unfold liv
    rw [e18]; exact l
  · unfold lvM at *
    rw [e18, el 48 (by decide), Ec 1 (by decide)]; exact nn
  · rw [Ec 1 (by decide)]; exact n8
  · intro w hw
    rw [Ec 1 (by decide)] at hw
    obtain ⟨a, bb, c, e⟩ := wl' w hw
    refine ⟨fun k hk => ?_, ?_, ?_, ?_⟩
    · rw [Ec 9 (by decide), a k hk, gM_k _ _ hk, gM_k _ _ hk, e18, e9 (49 + k) w (by omega) (by omega)]
    · unfold ix9 at *
      rw [Ec 9 (by decide), e18, e9 54 w (by decide) (by omega)]; exact bb
    · unfold Wok
      rw [Ec 9 (by decide)]; exact c
    · rw [Ec 9 (by decide)]; exact e
  · intro w hw hc
    rw [Ec 1 (by decide)] at hc
    rw [Ec 9 (by decide)]
    exact wn w hw hc
  · unfold ix9 at *
    rw [e18, e9 54 8 (by decide) (by decide)]; exact g8
  · intro j hj
    have o : μ1 54 0 j = μ 54 0 j := R1 54 0 j (by omega) (by decide) (by omega) (by omega)
    rcases F2 j with z | z
    · rw [z, o]; exact fl j hj
    · exact z
  · unfold SN lvM at *
    rw [e18, Ef 48 (by decide), Ec 1 (by decide), el 69 (by decide), el 70 (by decide), el 66 (by decide), el 67 (by decide)]
    exact SNh
  · rw [Ec 3 (by decide)] at hi
    have r := f4 i hi
    have b6 := f1.2.1
    unfold ix6 at *
    rw [Ec 29 (by decide), e18, e6 58 i (by decide) (by omega)]
    exact r
  · rw [Ec 3 (by decide)] at hi
    have r := f5 i hi
    have b6 := f3.2.1
    unfold ix6 at *
    rw [Ec 29 (by decide), Ec 30 (by decide), e18, e6 65 i (by decide) (by omega)]
    exact r
  · unfold ST Tk at *
    rw [Ef 71 (by decide), Ef 80 (by decide), Ec 3 (by decide), Ec 27 (by decide), Ec 28 (by decide), Ec 29 (by decide), Ec 30 (by decide), Ec 79 (by decide), Ec 80 (by decide), Ec 81 (by decide), Ec 82 (by decide), Ec 85 (by decide), Ec 86 (by decide), Ec 87 (by decide), Ec 88 (by decide), Ec 1 (by decide)]
    exact SThh
  · unfold SH at *
    rw [Ec 6 (by decide), Ec 90 (by decide), Ec 93 (by decide), Ec 1 (by decide), Ec 35 (by decide), Ec 91 (by decide), Ec 92 (by decide)]
    exact SHh
  · rw [h17, F1 0 0 11 (by decide) (by decide) (by unfold insd; omega)]; exact R3
  · rw [h2, F1 8 0 1 (by decide) (by decide) (by unfold insd; omega)]; exact R2
  · rw [F1 8 0 1 (by decide) (by decide) (by unfold insd; omega), R2]; decide
  · rw [F1 8 0 1 (by decide) (by decide) (by unfold insd; omega), R2] at hi
    omega
  · rw [Ec 46 (by decide)]; exact p5 k hk
