/-! MATHEMATICS, 80: the reference's land, told -/
theorem Pth.z {b : Nat → Int} {n u : Nat} {w : Int} (hp : Pth b n u w 0) (hO : OKp b n (u + 1)) : Pth b n (u + 1) (tK b n u) 1 := by
  obtain ⟨w', S', hp'⟩ := path hO
  obtain ⟨h1, h2, h3⟩ := hO u (by omega)
  have g := Classical.not_not.mp h2
  unfold wNow at g
  rw [hp.1] at g
  simp only [] at g
  unfold gO at g
  have e := hp'.1
  rw [aut_s, hp.1] at e
  simp only [] at e
  rw [if_pos (by rfl : ((0 : Nat) : Int) = 0)] at e g
  rw [Prod.mk.injEq] at e
  obtain ⟨e1, e2⟩ := e
  rw [if_neg (by omega)] at e2
  have : S' = 1 := by omega
  subst this e1
  exact hp'
theorem Pth.g {b : Nat → Int} {n u : Nat} {w : Int} (hp : Pth b n u w 0) : (isE1 b n u ↔ ¬ 7 ≤ tK b n u) := by
  unfold isE1 wNow
  rw [hp.1]
  simp only []
  rw [if_pos (by rfl : ((0 : Nat) : Int) = 0)]
  unfold gO
  omega
theorem cnt_0 {b : Nat → Int} {n u : Nat} {w v : Int} (hp : Pth b n u w 0) (hO : OKp b n u) : cntW b n v u = ((cS b n v u : Nat) : Int) := by
  have r := cnt_cS (w := v) hO
  rw [hp.1] at r
  rw [if_neg fun y => y.1 rfl] at r
  omega
/-- a word, whose room there is -/
theorem sp_word {sc : Scr} {d t : Nat} {μ : Mem} {Q : Mem → Prop} {b : Nat → Int} {n u : Nat} {w k : Int} (hT : TksM μ b n) (hA : AtV μ b n w 0 u u) (hk : tK b n u = k) (k7 : 7 ≤ k) (he : u ≠ 400 → cntW b n k u + 1 ≤ mst k) (h : ∀ μ', Fpm μ μ' → RS μ' b n k 1 (u + 1) → Q μ') : RMv sc (d + 2) 11018 [rfc 11 0] (t, 0, 0) μ Q := by
  obtain ⟨h13, h11, hO, hp, hw, hn, hpl⟩ := hA
  refine sp_adv hT h13 h11 hO (fun z => absurd z.1 (by omega)) (fun z => (hp.g.mp z) (by omega)) (fun hu z => ?_) (fun hO1 => ?_) (fun μ' F' f' => h μ' F' ⟨hT.p F', Or.inl f'⟩)
  · rcases z with z | ⟨z1, z2⟩
    · exact hu z
    · have := he hu
      rw [hk] at z2
      omega
  · have hp1 := hp.z hO1
    rw [hk] at hp1
    have F1 : Fpm μ (wr μ 11 0 11 ((u : Int) + 1)) := Fpm.w (by omega)
    refine h _ F1 ⟨hT.p F1, Or.inr ⟨?_, by rw [wr_same]; omega, hO1, hp1, (hw.s (fun z => absurd z.1 (by omega)) (fun z => absurd z.1 (by omega))).x ?_ ?_, (hn.s (by omega)).x ?_ ?_, (hpl.s (fun z => absurd z.1 (by omega))).x ?_ ?_ ?_⟩⟩
    · rw [wr_k (by decide)]; exact h13
    · rw [wr_k (by decide)]
    · rw [wr_k (by decide)]
    · rw [wr_k (by decide)]
    · rw [wr_c (by decide)]
    · rw [wr_k (by decide)]
    · rw [wr_c (by decide)]
    · rw [wr_c (by decide)]
theorem sp_room {sc : Scr} {d t : Nat} {μ : Mem} {Q : Mem → Prop} {b : Nat → Int} {n u : Nat} {w k x1 x2 : Int} (hT : TksM μ b n) (hA : AtV μ b n w 0 u u) (hk : tK b n u = k) (k7 : 7 ≤ k) (e1 : x1 = ((cS b n k u : Nat) : Int)) (e2 : x2 = mst k) (h : ∀ μ', Fpm μ μ' → RS μ' b n k 1 (u + 1) → Q μ') : RMv sc (d + 3) 11016 [rfc 11 0, .inl x1, .inl x2] (t, 0, 0) μ Q := by
  have kb : 0 ≤ tK b n u ∧ tK b n u ≤ 14 := tkK_b _ _ _
  have hA' := hA
  obtain ⟨h13, h11, hO, hp, hw, hn, hpl⟩ := hA'
  have c0 := cnt_0 (v := k) hp hO
  have cm := cnt_mst (w := k) (by omega) hO
  refine m_11016 ⟨fun z => ⟨fun y => absurd h13 y, fun _ => sp_word hT hA hk k7 (fun _ => by omega) h⟩, fun z => sp_fail hT h13 h11 hO (by decide) (form_e2 hO (fun z => absurd z.1 (by omega)) (fun z => (hp.g.mp z) (by omega)) (Or.inr ⟨by rw [hp.1]; rfl, by rw [hk]; omega⟩)) fun μ' F' f' => ⟨fun _ => h μ' F' ⟨hT.p F', Or.inl f'⟩, fun y => absurd f'.1 (by omega)⟩⟩
/-- through a statement nothing is told whole before its end -/
theorem st_run {b : Nat → Int} {n u : Nat} {w : Int} {L : Nat} (hp : Pth b n (u + L) w L) (hL : 1 ≤ L) (eL : (L : Int) = nmd w + sid w + its w + 1) : ∀ m, m ≤ L → ∀ v, cS b n v (u + m) = cS b n v u ∧ (∀ k, pS b n v (u + m) k = pS b n v u k) ∧ ∀ a d, nS b n v a d (u + m) = nS b n v a d u
  | 0, _, v => ⟨rfl, fun _ => rfl, fun _ _ => rfl⟩
  | m + 1, hm, v => by
    obtain ⟨r1, r2, r3⟩ := st_run hp hL eL m (by omega) v
    obtain ⟨w7, sm, st, wi, wi0, wi1, kw, kg⟩ := hp.2.resolve_left (by omega)
    have k4 : tK b n (u + m) ≠ 4 := by
      by_cases m0 : m = 0
      · subst m0
        rw [show u + L - L = u by omega] at kw
        rw [Nat.add_zero, kw]
        omega
      · have g := kg m (by omega) (by omega)
        rw [show u + L - L + m = u + m by omega] at g
        unfold gO at g
        omega
    obtain ⟨s1, s2, s3⟩ := no_s (b := b) (n := n) (t := u + m) (w := v) (fun z => k4 z.1)
    rw [show u + (m + 1) = (u + m) + 1 by omega]
    exact ⟨by rw [s1, r1], fun k => by rw [s2, r2], fun a d => by rw [s3, r3]⟩
theorem st_end {b : Nat → Int} {n u : Nat} {w : Int} {L : Nat} (hp : Pth b n (u + L) w L) (hL : 1 ≤ L) (eL : (L : Int) = nmd w + sid w + its w + 1) (k4 : tK b n (u + L) = 4) : (cS b n w (u + L + 1) = cS b n w u + 1 ∧ pS b n w (u + L + 1) (cS b n w u) = u + L ∧ (∀ k, k < cS b n w u → pS b n w (u + L + 1) k = pS b n w u k) ∧ ∀ a d, nS b n w a d (u + L + 1) = tV b n (u + L - a)) ∧ ∀ v, v ≠ w → cS b n v (u + L + 1) = cS b n v u ∧ (∀ k, pS b n v (u + L + 1) k = pS b n v u k) ∧ ∀ a d, nS b n v a d (u + L + 1) = nS b n v a d u := by
  have y := ye_s (b := b) (n := n) (t := u + L) (w := w) ⟨k4, by rw [hp.1]⟩
  obtain ⟨y1, y2, y3, y4⟩ := y
  obtain ⟨r1, r2, r3⟩ := st_run hp hL eL L (Nat.le_refl L) w
  rw [r1] at y1 y2 y3
  refine ⟨⟨y1, y2, fun k hk => by rw [y3 k hk, r2], y4⟩, fun v hv => ?_⟩
  obtain ⟨q1, q2, q3⟩ := st_run hp hL eL L (Nat.le_refl L) v
  obtain ⟨s1, s2, s3⟩ := no_s (b := b) (n := n) (t := u + L) (w := v) (fun z => hv (by rw [← z.2, hp.1]))
  exact ⟨by rw [s1, q1], fun k => by rw [s2, q2], fun a d => by rw [s3, q3]⟩
/-- the cells of the land -/
def EL (μ M : Mem) : Prop := ∀ c, 48 ≤ c → c ≤ 70 → μ c = M c
theorem EL.p {μ μ' M : Mem} (h : EL μ M) (hF : Fpm μ μ') : EL μ' M := fun c h1 h2 => (hF.c (by omega) (by omega)).trans (h c h1 h2)
theorem EL.w {μ M : Mem} (h : EL μ M) {c i k : Nat} {v : Int} : EL (wr μ c i k v) (wr M c i k v) := fun c' h1 h2 => by
  funext i' k'
  show (if c' = c ∧ i' = i ∧ k' = k then v else μ c' i' k') = (if c' = c ∧ i' = i ∧ k' = k then v else M c' i' k')
  rw [h c' h1 h2]
abbrev i9 (sd : Int) (k : Nat) : Nat := ((9 * sd) + (k : Int)).toNat
abbrev i6 (sd : Int) (k : Nat) : Nat := ((6 * sd) + (k : Int)).toNat
def MW (μ : Mem) (b : Nat → Int) (n : Nat) (sd : Int) (N : Nat) (P : Nat → Nat) : Prop := μ 48 0 sd.toNat = (N : Int) ∧ (∀ k, k < N → μ 49 0 (i9 sd k) = flA b n (P k - 5) ∧ μ 50 0 (i9 sd k) = tV b n (P k - 4) ∧ μ 51 0 (i9 sd k) = tV b n (P k - 3) ∧ μ 52 0 (i9 sd k) = tV b n (P k - 2) ∧ μ 53 0 (i9 sd k) = tV b n (P k - 1) ∧ μ 54 0 (i9 sd k) = 1) ∧ μ 54 0 (i9 sd 8) = 0 ∧ ∀ j, j < 18 → μ 54 0 j = 0 ∨ μ 54 0 j = 1
def MP (μ : Mem) (sd : Int) (c cx cy cz N : Nat) (x y z : Nat → Int) : Prop := μ c 0 sd.toNat = (N : Int) ∧ ∀ k, k < N → μ cx 0 (i6 sd k) = x k ∧ μ cy 0 (i6 sd k) = y k ∧ μ cz 0 (i6 sd k) = z k
def MN (μ : Mem) (b : Nat → Int) (n : Nat) (sd : Int) (t : Nat) : Prop := μ 66 0 sd.toNat = nS b n 11 2 20 t ∧ μ 67 0 sd.toNat = nS b n 11 1 20 t ∧ μ 68 0 sd.toNat = nS b n 12 1 10 t ∧ μ 69 0 sd.toNat = nS b n 13 1 10 t ∧ μ 70 0 sd.toNat = nS b n 14 1 100 t
def LMa (μ : Mem) (b : Nat → Int) (n : Nat) (sd : Int) (t : Nat) : Prop := MW μ b n sd (cS b n 7 t) (pS b n 7 t) ∧ MP μ sd 55 56 57 58 (cS b n 8 t) (fun k => tV b n (pS b n 8 t k - 3)) (fun k => tV b n (pS b n 8 t k - 2)) (fun k => tV b n (pS b n 8 t k - 1)) ∧ MP μ sd 59 60 61 61 (cS b n 9 t) (fun k => tV b n (pS b n 9 t k - 2)) (fun k => tV b n (pS b n 9 t k - 1)) (fun k => tV b n (pS b n 9 t k - 1)) ∧ MP μ sd 62 63 64 65 (cS b n 10 t) (fun k => tV b n (pS b n 10 t k - 3)) (fun k => tV b n (pS b n 10 t k - 2)) (fun k => tV b n (pS b n 10 t k - 1)) ∧ MN μ b n sd t
theorem MW.e {μ μ' : Mem} {b : Nat → Int} {n N N' : Nat} {sd : Int} {P P' : Nat → Nat} (h : MW μ b n sd N P) (eN : N' = N) (eP : ∀ k, P' k = P k) (ec : ∀ c, 48 ≤ c ∧ c ≤ 54 → μ' c = μ c) : MW μ' b n sd N' P' := by
  have : P' = P := funext eP
  subst eN this
  unfold MW at *
  rw [ec 48 (by decide), ec 49 (by decide), ec 50 (by decide), ec 51 (by decide), ec 52 (by decide), ec 53 (by decide), ec 54 (by decide)]
  exact h
theorem MP.e {μ μ' : Mem} {sd : Int} {c cx cy cz N N' : Nat} {x y z x' y' z' : Nat → Int} (h : MP μ sd c cx cy cz N x y z) (eN : N' = N) (ex : ∀ k, x' k = x k) (ey : ∀ k, y' k = y k) (ez : ∀ k, z' k = z k) (e0 : μ' c = μ c) (e1 : μ' cx = μ cx) (e2 : μ' cy = μ cy) (e3 : μ' cz = μ cz) : MP μ' sd c cx cy cz N' x' y' z' := by
  have h1 : x' = x := funext ex
  have h2 : y' = y := funext ey
  have h3 : z' = z := funext ez
  subst eN h1 h2 h3
  unfold MP at *
  rw [e0, e1, e2, e3]
  exact h
theorem LMa.x {μ M : Mem} {b : Nat → Int} {n t : Nat} {sd : Int} (h : LMa M b n sd t) (e : EL μ M) : LMa μ b n sd t := by
  obtain ⟨a, bb, c, d, f⟩ := h
  refine ⟨a.e rfl (fun _ => rfl) (fun c hc => e c (by omega) (by omega)), bb.e rfl (fun _ => rfl) (fun _ => rfl) (fun _ => rfl) (e _ (by decide) (by decide)) (e _ (by decide) (by decide)) (e _ (by decide) (by decide)) (e _ (by decide) (by decide)), c.e rfl (fun _ => rfl) (fun _ => rfl) (fun _ => rfl) (e _ (by decide) (by decide)) (e _ (by decide) (by decide)) (e _ (by decide) (by decide)) (e _ (by decide) (by decide)), d.e rfl (fun _ => rfl) (fun _ => rfl) (fun _ => rfl) (e _ (by decide) (by decide)) (e _ (by decide) (by decide)) (e _ (by decide) (by decide)) (e _ (by decide) (by decide)), ?_⟩
  unfold MN at *
  rw [e 66 (by decide) (by decide), e 67 (by decide) (by decide), e 68 (by decide) (by decide), e 69 (by decide) (by decide), e 70 (by decide) (by decide)]
  exact f
/-- the same land, at another token, where it is told alike -/
theorem LMa.t {μ μ' : Mem} {b : Nat → Int} {n u u' : Nat} {sd w : Int} (h : LMa μ b n sd u) (hv : ∀ v, v ≠ w → cS b n v u' = cS b n v u ∧ (∀ k, pS b n v u' k = pS b n v u k) ∧ ∀ a d, nS b n v a d u' = nS b n v a d u) : (7 ≠ w → (∀ c, 48 ≤ c ∧ c ≤ 54 → μ' c = μ c) → MW μ' b n sd (cS b n 7 u') (pS b n 7 u')) ∧ (8 ≠ w → (∀ c, 55 ≤ c ∧ c ≤ 58 → μ' c = μ c) → MP μ' sd 55 56 57 58 (cS b n 8 u') (fun k => tV b n (pS b n 8 u' k - 3)) (fun k => tV b n (pS b n 8 u' k - 2)) (fun k => tV b n (pS b n 8 u' k - 1))) ∧ (9 ≠ w → (∀ c, 59 ≤ c ∧ c ≤ 61 → μ' c = μ c) → MP μ' sd 59 60 61 61 (cS b n 9 u') (fun k => tV b n (pS b n 9 u' k - 2)) (fun k => tV b n (pS b n 9 u' k - 1)) (fun k => tV b n (pS b n 9 u' k - 1))) ∧ (10 ≠ w → (∀ c, 62 ≤ c ∧ c ≤ 65 → μ' c = μ c) → MP μ' sd 62 63 64 65 (cS b n 10 u') (fun k => tV b n (pS b n 10 u' k - 3)) (fun k => tV b n (pS b n 10 u' k - 2)) (fun k => tV b n (pS b n 10 u' k - 1))) := by
  obtain ⟨a, bb, c, d, f⟩ := h
  refine ⟨fun z e => a.e (hv 7 z).1 (hv 7 z).2.1 e, fun z e => bb.e (hv 8 z).1 (fun k => by rw [(hv 8 z).2.1]) (fun k => by rw [(hv 8 z).2.1]) (fun k => by rw [(hv 8 z).2.1]) (e 55 (by decide)) (e 56 (by decide)) (e 57 (by decide)) (e 58 (by decide)), fun z e => c.e (hv 9 z).1 (fun k => by rw [(hv 9 z).2.1]) (fun k => by rw [(hv 9 z).2.1]) (fun k => by rw [(hv 9 z).2.1]) (e 59 (by decide)) (e 60 (by decide)) (e 61 (by decide)) (e 61 (by decide)), fun z e => d.e (hv 10 z).1 (fun k => by rw [(hv 10 z).2.1]) (fun k => by rw [(hv 10 z).2.1]) (fun k => by rw [(hv 10 z).2.1]) (e 62 (by decide)) (e 63 (by decide)) (e 64 (by decide)) (e 65 (by decide))⟩
/-- one more of the folk -/
theorem MP.add {μ : Mem} {sd : Int} {c cx cy cz N : Nat} {x y z x' y' z' : Nat → Int} {X Y Z : Int} (h : MP μ sd c cx cy cz N x y z) (hs : sd = 0 ∨ sd = 1) (hd : cx ≠ cy ∧ cx ≠ cz ∧ cy ≠ cz ∧ cx ≠ c ∧ cy ≠ c ∧ cz ≠ c) (ex : ∀ k, k < N → x' k = x k) (ey : ∀ k, k < N → y' k = y k) (ez : ∀ k, k < N → z' k = z k) (eX : x' N = X) (eY : y' N = Y) (eZ : z' N = Z) : MP (wr (wr (wr (wr μ cx 0 (i6 sd N) X) cy 0 (i6 sd N) Y) cz 0 (i6 sd N) Z) c 0 sd.toNat ((N : Int) + 1)) sd c cx cy cz (N + 1) x' y' z' := by
  obtain ⟨d1, d2, d3, d4, d5, d6⟩ := hd
  unfold MP at *
  refine ⟨by rw [wr_same]; omega, fun k hk => ?_⟩
  rw [wr_c d4, wr_c d5, wr_c d6, wr_c d2, wr_c d1, wr_c d3]
  by_cases q : k = N
  · subst q
    rw [wr_same, wr_same, wr_same, eX, eY, eZ]
    exact ⟨rfl, rfl, rfl⟩
  · have qi : i6 sd k ≠ i6 sd N := by unfold i6; omega
    rw [ex k (by omega), ey k (by omega), ez k (by omega)]
    obtain ⟨r1, r2, r3⟩ := h.2 k (by omega)
    refine ⟨?_, ?_, ?_⟩
    · rw [wr_k qi]; exact r1
    · rw [wr_k qi, wr_c (Ne.symm d1)]; exact r2
    · rw [wr_k qi, wr_c (Ne.symm d3), wr_c (Ne.symm d2)]; exact r3
/-- one more of the walls -/
theorem MW.add {μ : Mem} {b : Nat → Int} {n N : Nat} {sd : Int} {P P' : Nat → Nat} {F A B C D : Int} (h : MW μ b n sd N P) (hs : sd = 0 ∨ sd = 1) (hN : N < 8) (eP : ∀ k, k < N → P' k = P k) (e0 : flA b n (P' N - 5) = F) (e1 : tV b n (P' N - 4) = A) (e2 : tV b n (P' N - 3) = B) (e3 : tV b n (P' N - 2) = C) (e4 : tV b n (P' N - 1) = D) : MW (wr (wr (wr (wr (wr (wr (wr μ 49 0 (i9 sd N) F) 50 0 (i9 sd N) A) 51 0 (i9 sd N) B) 52 0 (i9 sd N) C) 53 0 (i9 sd N) D) 54 0 (i9 sd N) 1) 48 0 sd.toNat ((N : Int) + 1)) b n sd (N + 1) P' := by
  unfold MW at *
  obtain ⟨h1, h2, h3, h4⟩ := h
  refine ⟨by rw [wr_same]; omega, fun k hk => ?_, ?_, fun j hj => ?_⟩
  · rw [wr_c (show (49 : Nat) ≠ 48 by decide), wr_c (show (50 : Nat) ≠ 48 by decide), wr_c (show (51 : Nat) ≠ 48 by decide), wr_c (show (52 : Nat) ≠ 48 by decide), wr_c (show (53 : Nat) ≠ 48 by decide), wr_c (show (54 : Nat) ≠ 48 by decide)]
    by_cases q : k = N
    · subst q
      refine ⟨?_, ?_, ?_, ?_, ?_, wr_same _ _ _ _ _⟩
      · rw [wr_c (by decide), wr_c (by decide), wr_c (by decide), wr_c (by decide), wr_c (by decide), wr_same]; exact e0.symm
      · rw [wr_c (by decide), wr_c (by decide), wr_c (by decide), wr_c (by decide), wr_same]; exact e1.symm
      · rw [wr_c (by decide), wr_c (by decide), wr_c (by decide), wr_same]; exact e2.symm
      · rw [wr_c (by decide), wr_c (by decide), wr_same]; exact e3.symm
      · rw [wr_c (by decide), wr_same]; exact e4.symm
    · have qi : i9 sd k ≠ i9 sd N := by unfold i9; omega
      obtain ⟨r0, r1, r2, r3, r4, r5⟩ := h2 k (by omega)
      rw [eP k (by omega)]
      refine ⟨?_, ?_, ?_, ?_, ?_, ?_⟩
      · rw [wr_c (by decide), wr_c (by decide), wr_c (by decide), wr_c (by decide), wr_c (by decide), wr_k qi]; exact r0
      · rw [wr_c (by decide), wr_c (by decide), wr_c (by decide), wr_c (by decide), wr_k qi, wr_c (by decide)]; exact r1
      · rw [wr_c (by decide), wr_c (by decide), wr_c (by decide), wr_k qi, wr_c (by decide), wr_c (by decide)]; exact r2
      · rw [wr_c (by decide), wr_c (by decide), wr_k qi, wr_c (by decide), wr_c (by decide), wr_c (by decide)]; exact r3
      · rw [wr_c (by decide), wr_k qi, wr_c (by decide), wr_c (by decide), wr_c (by decide), wr_c (by decide)]; exact r4
      · rw [wr_k qi, wr_c (by decide), wr_c (by decide), wr_c (by decide), wr_c (by decide), wr_c (by decide)]; exact r5
  · rw [wr_c (by decide), wr_k (by unfold i9; omega), wr_c (by decide), wr_c (by decide), wr_c (by decide), wr_c (by decide), wr_c (by decide)]
    exact h3
  · rw [wr_c (by decide)]
    by_cases q : j = i9 sd N
    · rw [q, wr_same]; exact Or.inr rfl
    · rw [wr_k q, wr_c (by decide), wr_c (by decide), wr_c (by decide), wr_c (by decide), wr_c (by decide)]
      exact h4 j hj
