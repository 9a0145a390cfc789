/-! MATHEMATICS, 59: touch alike -/
noncomputable def tch1 (g : Gf) (px py qx qy : Int) (a : Nat) (hi : Int) : Int := ic (g a 5 ≠ 0 ∧ Op1 g (wy1 g px py qx qy a) a) (tcV Mp.one (wy1 g px py qx qy a) (wl g a) hi) (-2)
noncomputable def tch2 (g : Gf) (px py qx qy : Int) (a b : Nat) (k hi : Int) : Int := ic ((g a 5 ≠ 0 ∧ g b 5 ≠ 0) ∧ Op2 g (wy2 g px py qx qy a b) a b) (if k = 0 then tcV Mp.one (wy2 g px py qx qy a b) (wl g a) hi else tcV (mp1 g a) (wy2 g px py qx qy a b) (ly g a (wl g b)) hi) (-2)
theorem sp_touch1 {sc : Scr} {d t : Nat} {μ : Mem} {Q : Int → Mem → Prop} {px py qx qy hi : Int} {a : Nat} (hC : CO μ) (wa : Wok μ a) (hp : Pl px py) (hq : Pl qx qy) (hs : Spn μ px py qx qy) (h : ∀ μ', F7 μ μ' → Q (tch1 (μ 9) px py qx qy a hi) μ') : RMi sc (d + 3) 10007 [rfc 10 0, rfc 9 a, rfn, .inl 0, .inl hi] (t, 0, 0) μ Q := by
  unfold tch1 at h
  have wb := wy1_bd (g := μ 9) wa hp hq
  refine m_10007 ⟨fun z => absurd z (by simp), fun _ => m_10007_4 ⟨fun z => PI_mk ?_, fun z => ⟨fun _ => m_10007_25 ?_, fun z2 => absurd rfl z2⟩⟩⟩
  · rw [ic_f fun y => y.1 z] at h
    exact h μ F7.rfl
  · refine sp_unfold1 wa hp hq hs fun μ1 F1 r0 r3 r1 => ?_
    have e9 : μ1 9 = μ 9 := F1.fc.c (by decide) (by decide) (by decide)
    have C1 := hC.fc F1.fc
    have wa1 : Wok μ1 a := by unfold Wok at *; rw [e9]; exact wa
    refine sp_isOpen1 (w := wy1 (μ 9) px py qx qy a) (fun k hk h5 => (C1.1 k hk h5).1) wa1 wb r0 r3 (by rw [e9]; exact r1) (fun o μ2 F2 r4 => ⟨fun _ => ⟨fun y => absurd rfl y, fun _ => ?_⟩, fun y => absurd (by decide) y⟩) (fun o μ2 F2 => ⟨fun y => absurd rfl y, fun _ => PI_mk ?_⟩)
    · rw [e9] at o r4
      have r := h μ2 (F1.f7.trans F2.f7)
      rw [ic_t ⟨z, o⟩] at r
      exact L10007q (g := μ 9) (k := a) ok0 (LnR0 _) o.1.1 wa ⟨cLow_pos o.1.1.1, cLow_bd wb⟩ (by decide) r4 (PI_mk r)
    · rw [e9] at o
      have r := h μ2 (F1.f7.trans F2.f7)
      rw [ic_f fun y => o y.2] at r
      exact r
theorem sp_touch2 {sc : Scr} {d t : Nat} {μ : Mem} {Q : Int → Mem → Prop} {px py qx qy k hi : Int} {a b : Nat} (hC : CO μ) (wa : Wok μ a) (wb' : Wok μ b) (hp : Pl px py) (hq : Pl qx qy) (hs : Spn μ px py qx qy) (h : ∀ μ', F7 μ μ' → Q (tch2 (μ 9) px py qx qy a b k hi) μ') : RMi sc (d + 3) 10007 [rfc 10 0, rfc 9 a, rfc 9 b, .inl k, .inl hi] (t, 0, 0) μ Q := by
  unfold tch2 at h
  have wb := wy2_bd (g := μ 9) wa wb' hp hq
  refine m_10007 ⟨fun z => absurd z (by simp), fun _ => m_10007_4 ⟨fun z => PI_mk ?_, fun z => ⟨fun z2 => absurd z2 (by simp), fun _ => m_10007_15 ⟨fun z3 => m_10007_25 ?_, fun z3 => PI_mk ?_⟩⟩⟩⟩
  · rw [ic_f fun y => y.1.1 z] at h
    exact h μ F7.rfl
  · refine sp_unfold2 wa wb' hp hq hs fun μ1 F1 r0 r3 r2 r1 => ?_
    have e9 : μ1 9 = μ 9 := F1.fc.c (by decide) (by decide) (by decide)
    have C1 := hC.fc F1.fc
    have wa1 : Wok μ1 a := by unfold Wok at *; rw [e9]; exact wa
    have wb1 : Wok μ1 b := by unfold Wok at *; rw [e9]; exact wb'
    refine sp_isOpen2 (w := wy2 (μ 9) px py qx qy a b) (fun k hk h5 => (C1.1 k hk h5).1) wa1 wb1 wb r0 r3 (by rw [e9]; exact r2) (by rw [e9]; exact r1) (fun o μ2 F2 r4 r5 => ⟨fun _ => ⟨fun y => ?_, fun y => ?_⟩, fun y => absurd (by decide) y⟩) (fun o μ2 F2 => ⟨fun y => absurd rfl y, fun _ => PI_mk ?_⟩)
    · rw [e9] at o r5
      have r := h μ2 (F1.f7.trans F2.f7)
      rw [ic_t ⟨⟨z, z3⟩, o⟩, if_neg y] at r
      obtain ⟨c, c0, c1, r5⟩ := r5
      exact L10007q (g := μ 9) (k := b) (Mp.ok_rf ok0 _ _) (LnR1 wa.1 wb'.1) o.2.1.1 wb' ⟨cLow_pos o.2.1.1.1, cLow_bd wb⟩ ⟨c0, c1⟩ r5 (PI_mk r)
    · rw [e9] at o r4
      have r := h μ2 (F1.f7.trans F2.f7)
      rw [ic_t ⟨⟨z, z3⟩, o⟩, if_pos (by omega)] at r
      exact L10007q (g := μ 9) (k := a) ok0 (LnR0 _) o.1.1 wa ⟨cLow_pos o.1.1.1, cLow_bd wb⟩ (by decide) r4 (PI_mk r)
    · rw [e9] at o
      have r := h μ2 (F1.f7.trans F2.f7)
      rw [ic_f fun y => o y.2] at r
      exact r
  · rw [ic_f fun y => z3 (by have := y.1.2; exact this)] at h
    exact h μ F7.rfl
/-- in the reference -/
def W56 (μ : Mem) (m : Mp) (k : Int) : Prop := k = 1 → ∃ a : Nat, a < 9 ∧ μ 11 0 56 = (a : Int) ∧ m = mp1 (gM μ) a ∧ gok (gM μ) a
def W0 (m : Mp) (k : Int) : Prop := k = 0 → m = Mp.one
theorem L11059 {sc : Scr} {d t : Nat} {μ : Mem} {Q : Int → Mem → Prop} {m : Mp} {w : Wy} {L : Ln} {u : Nat} {k hi : Int} (hh : hi = 0 ∨ hi = 1) (hk : k = 0 ∨ k = 1) (hl : liv μ) (hu : u < 9) (hm : m.ok) (hL : LnR m L (wl (gM μ) u)) (hO : cOn L w) (hg : gok (gM μ) u) (hlo : 0 < cLow L w ∧ cLow L w ≤ 474) (hup : 0 ≤ cUp L w ∧ cUp L w ≤ 474) (hW : Way μ w) (hw : Wbd w) (hb : Beg μ (k.toNat + 1) (cUp L w) (cLow L w))
    (h56 : W56 μ m k) (h0 : W0 m k) (h : Q (tcV m w L hi) μ) : R_11059 sc (d + 1) (PI t Q) t 15 [rfc 11 0, .inl k, .inl hi, vx, vx, vx, vx, vx, vx] [.inl (u : Int)] μ := by
  obtain ⟨W1, W2, W3, W4⟩ := hW
  obtain ⟨B1, B2⟩ := hb
  obtain ⟨t1, t2, t3, t4⟩ := tch hm hL hO
  obtain ⟨bx, by'⟩ := tch_b hm hL hO hg hlo
  have hl' := hl
  unfold liv at hl'
  have ef : (wl (gM μ) u).1 = gM μ u 0 := rfl
  have ea : (wl (gM μ) u).2.1 = gM μ u 1 := rfl
  have eL : gM μ u 0 = L.1 := hL.1
  rw [ef, ea] at t1
  rw [ef] at t2 t3 t4
  have g0 : μ 49 0 ((9 * (μ 11 0 18)) + (u : Int)).toNat = gM μ u 0 := (gM_k μ u (k := 0) (by decide)).symm
  have g1 : μ 50 0 ((9 * (μ 11 0 18)) + (u : Int)).toNat = gM μ u 1 := (gM_k μ u (k := 1) (by decide)).symm
  have ek : (k + 1).toNat = k.toNat + 1 := by omega
  obtain ⟨hg0, hg1, -, -⟩ := hg
  refine m_11059_15 ?_
  rw [g0, g1, ek, B1, B2, W1, W2, W3, W4]
  have p1 := mul_bd (A := 39) (B := 474) (a := w.1) (b := cLow L w) (by omega) (by omega)
  have p2 := mul_bd (A := 39) (B := 474) (a := w.2.1) (b := cLow L w) (by omega) (by omega)
  have p3 := mul_bd (A := 474) (B := 474) (a := w.2.2.1 - w.1) (b := cUp L w) (by omega) (by omega)
  have p4 := mul_bd (A := 474) (B := 474) (a := w.2.2.2 - w.2.1) (b := cUp L w) (by omega) (by omega)
  unfold tcV at h
  -- along the wall
  have al : ∀ (p q : Int), gM μ u 0 ≠ hi → (hi = 0 → p = w.1 ∧ q = w.2.2.1) → (hi = 1 → p = w.2.1 ∧ q = w.2.2.2) → R_11059 sc (d + 1) (PI t Q) t 114 [rfc 11 0, .inl k, .inl hi, .inl (u : Int), .inl (gM μ u 0), .inl (cUp L w), .inl (cLow L w), .inl p, vx] [.inl q, .inl (p * cLow L w)] μ := by
    intro p q hne e0 e1
    have pq : (-39 ≤ p ∧ p ≤ 39) ∧ (-474 ≤ q - p ∧ q - p ≤ 474) := by
      rcases hh with z | z
      · have := e0 z
        omega
      · have := e1 z
        omega
    have m1 := mul_bd (A := 39) (B := 474) (a := p) (b := cLow L w) pq.1 (by omega)
    have m2 := mul_bd (A := 474) (B := 474) (a := q - p) (b := cUp L w) pq.2 (by omega)
    have ec : p * cLow L w + (q - p) * cUp L w = cO L w := by
      unfold cO cE xt
      rw [← eL]
      rcases hh with z | z
      · have e := e0 z
        rw [if_neg (by omega), if_neg (by omega), e.1, e.2]
      · have e := e1 z
        rw [if_pos (by omega), if_pos (by omega), e.1, e.2]
    have ex : (if hi = 0 then rX m w (cUp L w) (cLow L w) else rY m w (cUp L w) (cLow L w)) = mk' m L.1 * cLow L w + ms' m L.1 * cO L w := by
      rw [← t4]
      unfold xt
      rcases hh with z | z
      · rw [if_pos z, if_neg (by omega)]
      · rw [if_neg (by omega), if_pos (by omega)]
    have nn : 0 ≤ (if hi = 0 then rX m w (cUp L w) (cLow L w) else rY m w (cUp L w) (cLow L w)) ∧ (if hi = 0 then rX m w (cUp L w) (cLow L w) else rY m w (cUp L w) (cLow L w)) ≤ 46926 := by
      split
      · exact bx
      · exact by'
    rw [ex] at h nn
    refine m_11059_114 ?_
    rw [ec]
    refine ⟨by omega, by omega, by omega, fun z => ?_, fun z => ?_⟩
    · have km := h0 (by omega)
      have e : mk' m L.1 * cLow L w + ms' m L.1 * cO L w = cO L w := by
        rw [km]
        unfold mk' ms' xt Mp.one
        split <;> simp
      rw [e] at h nn
      exact ⟨by omega, ⟨by omega, by omega⟩, PI_mk h⟩
    · obtain ⟨a, ha, h56', km, hga⟩ := h56 (by omega)
      obtain ⟨ga0, ga1, -, -⟩ := hga
      have a0 : μ 49 0 ((9 * (μ 11 0 18)) + (a : Int)).toNat = gM μ a 0 := (gM_k μ a (k := 0) (by decide)).symm
      have a1 : μ 50 0 ((9 * (μ 11 0 18)) + (a : Int)).toNat = gM μ a 1 := (gM_k μ a (k := 1) (by decide)).symm
      rw [h56', a0, a1]
      refine ⟨by omega, by omega, by omega, fun z2 => ?_, fun z2 => ?_⟩
      · have e : mk' m L.1 * cLow L w + ms' m L.1 * cO L w = cO L w := by
          rw [km, ← eL, ← z2]
          unfold mk' ms' xt mp1 Mp.one Mp.rf
          split <;> simp
        rw [e] at h nn
        exact ⟨by omega, ⟨by omega, by omega⟩, PI_mk h⟩
      · have e : mk' m L.1 * cLow L w + ms' m L.1 * cO L w = (2 * gM μ a 1) * cLow L w - cO L w := by
          rw [km, ← eL]
          unfold mk' ms' xt mp1 Mp.one Mp.rf
          rcases ga0 with y | y <;> rcases hg0 with y2 | y2
          · exact absurd (y.trans y2.symm) z2
          · rw [y, y2]
            simp
            omega
          · rw [y, y2]
            simp
            omega
          · exact absurd (y.trans y2.symm) z2
        rw [e] at h nn
        have m5 := mul_bd (A := 198) (B := 474) (a := 2 * gM μ a 1) (b := cLow L w) (by omega) (by omega)
        exact ⟨by omega, by omega, by omega, by omega, by omega, by omega, by omega, ⟨by omega, by omega⟩, PI_mk h⟩
  refine ⟨by omega, by omega, by omega, fun z => ⟨by omega, by omega, by omega, by omega, fun z2 => ⟨by omega, fun _ => al _ _ z (fun _ => ⟨rfl, rfl⟩) (fun y => absurd y (by omega)), fun y => absurd z2 y⟩, fun z2 => ⟨by omega, fun y => absurd y z2, fun _ => al _ _ z (fun y => absurd y z2) (fun _ => ⟨rfl, rfl⟩)⟩⟩, fun z => ⟨by omega, by omega, by omega, by omega, PI_mk ?_⟩⟩
  have z' : gM μ u 0 = hi := Decidable.not_not.mp z
  have e : (if hi = 0 then rX m w (cUp L w) (cLow L w) else rY m w (cUp L w) (cLow L w)) = gM μ u 1 * cLow L w := by
    rw [← t1, z']
    unfold xn
    rfl
  rw [e, show 1000 * (gM μ u 1 * cLow L w) = (1000 * gM μ u 1) * cLow L w by grind, Int.mul_ediv_cancel _ (by omega)] at h
  exact h
