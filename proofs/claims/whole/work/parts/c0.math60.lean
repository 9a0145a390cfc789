/-! MATHEMATICS, 60: touch alike, whole -/
theorem Gq.t1 {g g' : Gf} (h : Gq g g') {px py qx qy hi : Int} {a : Nat} (ha : a < 9) : tch1 g px py qx qy a hi = tch1 g' px py qx qy a hi := by
  unfold tch1
  by_cases t : g a 5 = 0
  · rw [ic_f fun z => z.1 t, ic_f fun z => z.1 (by rw [← (h a ha).1]; exact t)]
  · have t' : g' a 5 ≠ 0 := by rw [← (h a ha).1]; exact t
    rw [h.w1 ha t, h.l1 ha t]
    exact ic_c ⟨fun z => ⟨t', h.o1 ha t z.2⟩, fun z => ⟨t, h.symm.o1 ha t' z.2⟩⟩
theorem Gq.t2 {g g' : Gf} (h : Gq g g') {px py qx qy k hi : Int} {a b : Nat} (ha : a < 9) (hb : b < 9) : tch2 g px py qx qy a b k hi = tch2 g' px py qx qy a b k hi := by
  unfold tch2
  by_cases t : g a 5 = 0
  · rw [ic_f fun z => z.1.1 t, ic_f fun z => z.1.1 (by rw [← (h a ha).1]; exact t)]
  · have t' : g' a 5 ≠ 0 := by rw [← (h a ha).1]; exact t
    by_cases s : g b 5 = 0
    · rw [ic_f fun z => z.1.2 s, ic_f fun z => z.1.2 (by rw [← (h b hb).1]; exact s)]
    · have s' : g' b 5 ≠ 0 := by rw [← (h b hb).1]; exact s
      have em : mp1 g a = mp1 g' a := by
        unfold mp1
        rw [(h a ha).2 t 0 (by decide), (h a ha).2 t 1 (by decide)]
      rw [h.w2 ha t hb s, h.l1 ha t, h.l1 hb s, h.l2 ha t, em]
      exact ic_c ⟨fun z => ⟨⟨t', s'⟩, h.o2 ha t hb s z.2⟩, fun z => ⟨⟨t, s⟩, h.symm.o2 ha t' hb s' z.2⟩⟩
theorem FW.gq {μ μ' : Mem} (h : FW μ μ') (hS : Sim μ) : Gq (μ' 9) (μ 9) := by
  intro v hv
  by_cases q : v = 8
  · subst q
    refine ⟨h.2.2.2.1, fun t => absurd ?_ t⟩
    rw [h.2.2.2.1]
    exact hS.z8
  · rw [h.2.2.1 v (by omega)]
    exact ⟨Eq.refl _, fun _ _ _ => Eq.refl _⟩
abbrev T1 (μ : Mem) (x y u v n k : Int) : Prop := Pm μ x y ∧ Pm μ u v ∧ (10 ≤ n ∧ n < 100) ∧ k = 0 ∧ Nw μ (n - 10)
abbrev T2 (μ : Mem) (x y u v n k : Int) : Prop := Pm μ x y ∧ Pm μ u v ∧ 100 ≤ n ∧ (0 ≤ k ∧ k ≤ 1) ∧ Nw μ ((n - 100) / 10) ∧ Nw μ (n % 10) ∧ (n - 100) / 10 ≠ n % 10
noncomputable def F_touch (x y u v n k hi : Int) (μ : Mem) : Int := ic (T1 μ x y u v n k) (tch1 (μ 9) x y u v (n - 10).toNat hi) (ic (T2 μ x y u v n k) (tch2 (μ 9) x y u v ((n - 100) / 10).toNat (n % 10).toNat k hi) (-1))
theorem c_touch {sc : Scr} {t : Nat} {x y u v n k hi : Int} (hn : n ≤ 2147483647) (μ : Mem) (Q : Int → Mem → Prop) (hS : Sim μ) (h : ∀ μ', FW μ μ' → Q (F_touch x y u v n k hi μ) μ') : RMi sc 13 18 [rfc 0 0, .inl x, .inl y, .inl u, .inl v, .inl n, .inl k, .inl hi] (t, 0, 0) μ Q := by
  have no : ¬ T1 μ x y u v n k → ¬ T2 μ x y u v n k → ∀ μ', FW μ μ' → PI t Q (some (.inl (-1))) (fs (t, 0, 0) μ') := by
    intro z1 z2 μ' F
    have r := h μ' F
    unfold F_touch at r
    rw [ic_f z1, ic_f z2] at r
    exact PI_mk r
  have W := hS.1
  have c8 := W.2.2.1
  have wk : ∀ w, Nw μ w → Wok μ w.toNat := fun w hw => (W.2.2.2.1 w.toNat (by omega)).2.2.1
  have go : ∀ bt : Int, (bt = 0 ∧ n < 100) ∨ (bt = 1 ∧ 100 ≤ n) → R_18 sc 12 (PI t Q) t 12 [rfc 0 0, .inl x, .inl y, .inl u, .inl v, .inl n, .inl k, .inl hi, vx, vx, vx] [.inl bt] μ := by
    intro bt hbt
    refine m_18_12 (sp_holds (fun p => ⟨fun z => absurd z (by decide), fun _ => sp_holds (fun q => ⟨fun z => absurd z (by decide), fun _ => ⟨fun z => no (fun y => by have := y.2.2.1; omega) (fun y => by have := y.2.2.1; omega) μ FW.rfl, fun z => ⟨fun z2 => no (fun y => by have := y.2.2.2.1; omega) (fun y => by have := y.2.2.2.1; omega) μ FW.rfl, fun z2 => ?_⟩⟩⟩) (fun q => ⟨fun _ => no (fun y => q y.2.1) (fun y => q y.2.1) μ FW.rfl, fun z => absurd rfl z⟩)⟩) (fun p => ⟨fun _ => no (fun y => p y.1) (fun y => p y.1) μ FW.rfl, fun z => absurd rfl z⟩))
    have pp := hS.pl p
    have pq := hS.pl q
    rcases hbt with ⟨rfl, hb⟩ | ⟨rfl, hb⟩
    · refine ⟨fun _ => m_18_63 ⟨fun z3 => ⟨fun _ => ⟨by omega, m_18_93 (sp_toldW c8.2 (fun hw => ⟨fun _ => m_18_119 ⟨fun y => absurd y (by simp), fun _ => ⟨fun _ => sp_span fun μ1 F1 s1 => ?_, fun y => absurd rfl y⟩⟩, fun y => absurd rfl y⟩) (fun hw => ⟨fun _ => m_18_119 ⟨fun _ => no (fun y => hw y.2.2.2.2) (fun y => by have := y.2.2.1; omega) μ FW.rfl, fun y => absurd rfl y⟩, fun y => absurd rfl y⟩))⟩, fun y => absurd rfl y⟩, fun z3 => no (fun y => by have := y.2.2.2.1; omega) (fun y => by have := y.2.2.1; omega) μ FW.rfl⟩, fun y => absurd rfl y⟩
      have e9 : μ1 9 = μ 9 := F1.c (by decide)
      have k0 : k = 0 := by omega
      rw [k0]
      refine sp_touch1 (hS.co.f8 F1) (by have := wk _ hw; unfold Wok at *; rw [e9]; exact this) pp pq s1 fun μ2 F2 => ?_
      have r := h μ2 (F1.fw.trans F2.f8.fw)
      unfold F_touch at r
      rw [ic_t ⟨p, q, by omega, k0, hw⟩] at r
      rw [e9]
      exact PI_mk r
    · have t1n : ¬ T1 μ x y u v n k := fun y => by have := y.2.2.1; omega
      refine ⟨fun y => absurd y (by decide), fun _ => m_18_63 ⟨fun z3 => ⟨fun y => absurd y (by decide), fun _ => ⟨by omega, by omega, m_18_93 (sp_toldW c8.2 (fun hw => ⟨fun y => absurd y (by decide), fun _ => ⟨by omega, sp_toldW c8.2 (fun hw2 => m_18_119 ⟨fun y => absurd y (by simp), fun _ => ⟨fun y => absurd y (by decide), fun _ => ⟨fun y => absurd y (by simp), fun _ => m_18_136 ⟨fun ne => sp_span fun μ1 F1 s1 => ?_, fun eq => no t1n (fun y => ?_) μ FW.rfl⟩⟩⟩⟩) (fun hw2 => m_18_119 ⟨fun y => absurd y (by simp), fun _ => ⟨fun y => absurd y (by decide), fun _ => ⟨fun _ => no t1n (fun y => hw2 y.2.2.2.2.2.1) μ FW.rfl, fun y => absurd rfl y⟩⟩⟩)⟩⟩) (fun hw => ⟨fun y => absurd y (by decide), fun _ => ⟨by omega, sp_toldW c8.2 (fun hw2 => m_18_119 ⟨fun _ => no t1n (fun y => hw y.2.2.2.2.1) μ FW.rfl, fun y => absurd rfl y⟩) (fun hw2 => m_18_119 ⟨fun _ => no t1n (fun y => hw y.2.2.2.2.1) μ FW.rfl, fun y => absurd rfl y⟩)⟩⟩))⟩⟩, fun z3 => no t1n (fun y => by have := y.2.2.2.1; omega) μ FW.rfl⟩⟩
      · have e9 : μ1 9 = μ 9 := F1.c (by decide)
        refine sp_touch2 (hS.co.f8 F1) (by have := wk _ hw; unfold Wok at *; rw [e9]; exact this) (by have := wk _ hw2; unfold Wok at *; rw [e9]; exact this) pp pq s1 fun μ2 F2 => ?_
        have r := h μ2 (F1.fw.trans F2.f8.fw)
        unfold F_touch at r
        rw [ic_f t1n, ic_t ⟨p, q, hb, by omega, hw, hw2, fun y => ne (by rw [y])⟩] at r
        rw [e9]
        exact PI_mk r
      · have e := Decidable.not_not.mp eq
        simp only [Option.some.injEq, Prod.mk.injEq, true_and] at e
        exact y.2.2.2.2.2.2 (by omega)
  exact m_18 ⟨fun z => go 0 (Or.inl ⟨rfl, z⟩), fun z => go 1 (Or.inr ⟨rfl, by omega⟩)⟩
theorem hit_up {L : Ln} {w : Wy} (h : Hit L w 0 1 1 1) : 0 ≤ cUp L w := by
  have := hit_01 h
  omega
theorem r_touch {sc : Scr} {t : Nat} {x y u v n k hi : Int} (hh : hi = 0 ∨ hi = 1) (hn : n ≤ 2147483647) (μ : Mem) (Q : Int → Mem → Prop) (hS : Sim μ) (h : ∀ μ', FW μ μ' → Q (F_touch x y u v n k hi μ) μ') : RMi sc 13 11058 [rfc 11 0, .inl x, .inl y, .inl u, .inl v, .inl n, .inl k, .inl hi] (t, 0, 0) μ Q := by
  have no' : ¬ T1 μ x y u v n k → ¬ T2 μ x y u v n k → ∀ μ', FW μ μ' → Q (-1) μ' := by
    intro z1 z2 μ' F
    have r := h μ' F
    unfold F_touch at r
    rw [ic_f z1, ic_f z2] at r
    exact r
  have no : ¬ T1 μ x y u v n k → ¬ T2 μ x y u v n k → ∀ μ', FW μ μ' → PI t Q (some (.inl (-1))) (fs (t, 0, 0) μ') := fun z1 z2 μ' F => PI_mk (no' z1 z2 μ' F)
  have W := hS.1
  have l := W.1
  have c8 := W.2.2.1
  have N := hS.2.1
  have hl := l
  unfold liv at hl
  have w0 : ∀ (m : Mem) (k : Nat) (v : Int), 49 ≤ k ∧ k ≤ 64 → Fm 49 m (wr m 11 0 k v) := fun m k v hk c' i' k' _ z => if_neg fun y => z ⟨y.1, by have := y.2.2; omega⟩
  have F0 : Fm 49 μ (wr (wr μ 11 0 49 x) 11 0 50 y) := (w0 _ _ _ (by decide)).trans (w0 _ _ _ (by decide))
  have M0 := hS.mo.fm F0 (by decide)
  have eg := F0.g (by decide)
  have ex : (wr (wr μ 11 0 49 x) 11 0 50 y) 11 0 49 = x := by rw [wr_k (by decide), wr_same]
  have ey : (wr (wr μ 11 0 49 x) 11 0 50 y) 11 0 50 = y := wr_same _ _ _ _ _
  have up : ∀ (a : Int), Nw μ a → ∀ (Q' : Int → Mem → Prop), ((gM μ a.toNat 5 = 0 → Q' 0 μ) ∧ (gM μ a.toNat 5 ≠ 0 → Q' 1 μ)) → RMi sc 12 11048 [rfc 11 0, .inl a] (t, 0, 0) μ Q' := by
    intro a ha Q' hq
    obtain ⟨_, b, _, d, _⟩ := W.at ha
    have g5 : gM μ a.toNat 5 = μ 9 a.toNat 5 := (hS.gq a.toNat (by omega)).1.symm
    have f := W.2.2.2.2.2.2 ((9 * (μ 11 0 18)) + a).toNat (by omega)
    refine m_11048 ⟨by omega, by omega, d, f, ?_⟩
    rcases f with f | f
    · rw [f]
      exact hq.1 (by rw [g5, ← b, f])
    · rw [f]
      exact hq.2 (by rw [g5, ← b, f]; decide)
  have mk : ∀ (x8 x10 : Int) (a : Nat), Pl x y → Pl u v → a < 9 → gM μ a 5 ≠ 0 → x10 = -1 → (T1 μ x y u v n k ∧ (n - 10).toNat = a) → R_11058 sc 12 (PI t Q) t 166 [rfc 11 0, .inl x, .inl y, .inl u, .inl v, .inl n, .inl k, .inl hi, .inl x8, .inl (a : Int), .inl x10] [] μ := by
    intro x8 x10 a pp pq ha ta e10 ⟨hT, en⟩
    have fin : ∀ μ', FW μ μ' → Q (tch1 (gM μ) x y u v a hi) μ' := by
      intro μ' F
      have r := h μ' F
      unfold F_touch at r
      rw [ic_t hT, en, hS.gq.t1 ha] at r
      exact r
    unfold tch1 at fin
    rw [e10]
    refine m_11058_166 ?_
    refine sp_makes1 M0.1 ha (by rw [eg]; exact ta) pp pq ex ey (fun o μ1 F1 W1 e56 e57 B1 => ⟨fun z => absurd z (by decide), fun _ => ?_⟩) (fun o μ1 F1 => ⟨fun _ => ?_, fun z => absurd rfl z⟩)
    · have eg1 : gM μ1 = gM μ := F1.g.trans eg
      have ga := hS.mo.1.2.2.2 a ha ta
      have wb := wy1_bd ga pp pq
      rw [eg] at o W1 B1
      have k0 : k = 0 := hT.2.2.2.1
      have hb := hit_01 o.1
      have lb := cLow_bd (L := wl (gM μ) a) wb
      have fr : FW μ μ1 := (F0.trans (F1.fm.mono (by decide))).fw
      have r := fin μ1 fr
      rw [ic_t ⟨ta, o⟩] at r
      rw [k0]
      refine m_11059 ⟨fun z => absurd rfl z, fun _ => ?_⟩
      rw [e56]
      refine L11059 (m := Mp.one) (u := a) (L := wl (gM μ) a) (w := wy1 (gM μ) x y u v a) hh (Or.inl rfl) ?_ ha ok0 (by rw [eg1]; exact LnR0 _) o.1.1 (by rw [eg1]; exact ga) ⟨by omega, lb⟩ ⟨by omega, by omega⟩ W1 wb B1 (fun z => absurd z (by decide)) (fun _ => rfl) (PI_mk r)
      unfold liv
      rw [F1.f (k := 18) (by decide), F0.f (k := 18) (by decide)]
      exact hl
    · rw [eg] at o
      have r := fin μ1 ((F0.trans (F1.fm.mono (by decide))).fw)
      rw [ic_f fun z => o z.2] at r
      exact PI_mk r
  have mk2 : ∀ (x8 : Int) (a b : Nat), Pl x y → Pl u v → a < 9 → b < 9 → gM μ a 5 ≠ 0 → gM μ b 5 ≠ 0 → (¬ T1 μ x y u v n k) → (T2 μ x y u v n k ∧ ((n - 100) / 10).toNat = a ∧ (n % 10).toNat = b) → R_11058 sc 12 (PI t Q) t 166 [rfc 11 0, .inl x, .inl y, .inl u, .inl v, .inl n, .inl k, .inl hi, .inl x8, .inl (a : Int), .inl (b : Int)] [] μ := by
    intro x8 a b pp pq ha hb' ta tb hT1 ⟨hT, ea, eb⟩
    have fin : ∀ μ', FW μ μ' → Q (tch2 (gM μ) x y u v a b k hi) μ' := by
      intro μ' F
      have r := h μ' F
      unfold F_touch at r
      rw [ic_f hT1, ic_t hT, ea, eb, hS.gq.t2 ha hb'] at r
      exact r
    unfold tch2 at fin
    refine m_11058_166 ?_
    refine sp_makes2 (w := wy2 (gM μ) x y u v a b) (by rw [eg]) M0.1 ha (by rw [eg]; exact ta) hb' (by rw [eg]; exact tb) pp pq ex ey (fun o μ1 F1 W1 e56 e57 B1 B2 => ⟨fun z => absurd z (by decide), fun _ => ?_⟩) (fun o μ1 F1 => ⟨fun _ => ?_, fun z => absurd rfl z⟩)
    · have eg1 : gM μ1 = gM μ := F1.g.trans eg
      have ga := hS.mo.1.2.2.2 a ha ta
      have gb := hS.mo.1.2.2.2 b hb' tb
      have wb := wy2_bd ga gb pp pq
      rw [eg] at o B1 B2
      have hb := hit_01 o.1
      have hb2 := hit_u1 (by omega) (by omega) o.2.1
      have lb := cLow_bd (L := wl (gM μ) a) wb
      have lb2 := cLow_bd (L := ly (gM μ) a (wl (gM μ) b)) wb
      have fr : FW μ μ1 := (F0.trans (F1.fm.mono (by decide))).fw
      have r := fin μ1 fr
      rw [ic_t ⟨⟨ta, tb⟩, o⟩] at r
      have hk := hT.2.2.2.1
      have l1 : liv μ1 := by
        unfold liv
        rw [F1.f (k := 18) (by decide), F0.f (k := 18) (by decide)]
        exact hl
      refine m_11059 ⟨fun z => ?_, fun z => ?_⟩
      · have k1 : k = 1 := by omega
        rw [if_neg z] at r
        rw [e57]
        refine L11059 (m := mp1 (gM μ) a) (u := b) (L := ly (gM μ) a (wl (gM μ) b)) (w := wy2 (gM μ) x y u v a b) hh (Or.inr k1) l1 hb' (Mp.ok_rf ok0 _ _) (by rw [eg1]; exact LnR1 ga.1 gb.1) o.2.1.1 (by rw [eg1]; exact gb) ⟨by omega, lb2⟩ ⟨by omega, by omega⟩ W1 wb (by rw [k1]; exact B2) (fun _ => ⟨a, ha, e56, by rw [eg1], by rw [eg1]; exact ga⟩) (fun z' => absurd z' z) (PI_mk r)
      · have k0 : k = 0 := by omega
        rw [if_pos k0] at r
        rw [e56]
        refine L11059 (m := Mp.one) (u := a) (L := wl (gM μ) a) (w := wy2 (gM μ) x y u v a b) hh (Or.inl k0) l1 ha ok0 (by rw [eg1]; exact LnR0 _) o.1.1 (by rw [eg1]; exact ga) ⟨by omega, lb⟩ ⟨by omega, by omega⟩ W1 wb (by rw [k0]; exact B1) (fun z' => absurd k0 (by omega)) (fun _ => rfl) (PI_mk r)
    · rw [eg] at o
      have r := fin μ1 ((F0.trans (F1.fm.mono (by decide))).fw)
      rw [ic_f fun z => o z.2] at r
      exact PI_mk r
  refine m_11058 (sp_in (fun c1 => sp_isPlace l N (fun p => ⟨fun z => absurd z (by decide), fun _ => sp_isPlace l N (fun q => ⟨fun z => absurd z (by decide), fun _ => ⟨fun _ => ⟨fun z => absurd z (by decide), fun _ => m_11058_61 (sp_in (fun ck => ⟨fun _ => ⟨fun z => absurd z (by decide), fun _ => ⟨by omega, by omega, fun z => absurd z (by decide), fun _ => ⟨by omega, ?_⟩⟩⟩, fun z => absurd (by decide) z⟩) (fun ck => ⟨fun z => absurd rfl z, fun _ => no (fun y => by have := y.2.2.1; omega) (fun y => ck (by have := y.2.2.2.1; omega)) μ FW.rfl⟩))⟩, fun z => absurd (by decide) z⟩⟩) (fun q => ⟨fun _ => no' (fun y => q y.2.1) (fun y => q y.2.1) μ FW.rfl, fun z => absurd rfl z⟩)⟩) (fun p => ⟨fun _ => no' (fun y => p y.1) (fun y => p y.1) μ FW.rfl, fun z => absurd rfl z⟩)) (fun c1 => sp_isPlace l N (fun p => ⟨fun z => absurd z (by decide), fun _ => sp_isPlace l N (fun q => ⟨fun z => absurd z (by decide), fun _ => ⟨fun z => absurd rfl z, fun _ => sp_in (fun c3 => ⟨fun z => absurd z (by decide), fun _ => ⟨fun _ => m_11058_61 (sp_in (fun ck => ⟨fun _ => ⟨fun _ => ⟨by omega, fun _ => ?_, fun z => absurd rfl z⟩, fun z => absurd rfl z⟩, fun z => absurd (by decide) z⟩) (fun ck => ⟨fun z => absurd rfl z, fun _ => no (fun y => ck (by have := y.2.2.2.1; omega)) (fun y => by have := y.2.2.1; omega) μ FW.rfl⟩)), fun z => absurd rfl z⟩⟩) (fun c3 => ⟨fun _ => no' (fun y => c3 (by have := y.2.2.1; have := y.2.2.2.2; omega)) (fun y => by have := y.2.2.1; have := y.2.2.2.2.1; omega) μ FW.rfl, fun z => absurd rfl z⟩)⟩⟩) (fun q => ⟨fun _ => no' (fun y => q y.2.1) (fun y => q y.2.1) μ FW.rfl, fun z => absurd rfl z⟩)⟩) (fun p => ⟨fun _ => no' (fun y => p y.1) (fun y => p y.1) μ FW.rfl, fun z => absurd rfl z⟩)))
  · have t1n : ¬ T1 μ x y u v n k := fun y => by have := y.2.2.1; omega
    refine m_11058_106 (sp_isNumber l W.2.1 c8 (fun hw => ⟨fun z => absurd z (by decide), fun _ => ⟨fun z => absurd z (by decide), fun _ => sp_isNumber l W.2.1 c8 (fun hw2 => ⟨fun z => absurd z (by decide), fun _ => ⟨fun ne => m_11058_140 ?_, fun eq => no t1n (fun y => y.2.2.2.2.2.2 (Decidable.not_not.mp eq)) μ FW.rfl⟩⟩) (fun hw2 => ⟨fun _ => no t1n (fun y => hw2 y.2.2.2.2.2.1) μ FW.rfl, fun z => absurd rfl z⟩)⟩⟩) (fun hw => ⟨fun _ => no t1n (fun y => hw y.2.2.2.2.1) μ FW.rfl, fun z => absurd rfl z⟩))
    have hT : T2 μ x y u v n k := ⟨p, q, by omega, ck, hw, hw2, ne⟩
    have dead : (gM μ ((n - 100) / 10).toNat 5 = 0 ∨ gM μ (n % 10).toNat 5 = 0) → PI t Q (some (.inl (-2))) (fs (t, 0, 0) μ) := by
      intro z
      have r := h μ FW.rfl
      unfold F_touch at r
      rw [ic_f t1n, ic_t hT, hS.gq.t2 (by omega) (by omega)] at r
      unfold tch2 at r
      rw [ic_f fun y => z.elim y.1.1 y.1.2] at r
      exact PI_mk r
    refine up _ hw _ ⟨fun z => ⟨fun _ => dead (Or.inl z), fun y => absurd rfl y⟩, fun ta => ⟨fun y => absurd y (by decide), fun _ => ⟨fun y => absurd y (by decide), fun _ => up _ hw2 _ ⟨fun z => ⟨fun y => absurd rfl y, fun _ => dead (Or.inr z)⟩, fun tb => ⟨fun _ => ?_, fun y => absurd (by decide) y⟩⟩⟩⟩⟩
    have r := mk2 1 ((n - 100) / 10).toNat (n % 10).toNat (hS.pl p) (hS.pl q) (by omega) (by omega) ta tb t1n ⟨hT, rfl, rfl⟩
    rw [show ((((n - 100) / 10).toNat : Nat) : Int) = (n - 100) / 10 by omega, show (((n % 10).toNat : Nat) : Int) = n % 10 by omega] at r
    exact r
  · have t2n : ¬ T2 μ x y u v n k := fun y => by have := y.2.2.1; omega
    refine m_11058_106 (sp_isNumber l W.2.1 c8 (fun hw => ⟨fun z => absurd z (by decide), fun _ => ⟨fun _ => m_11058_140 ?_, fun z => absurd rfl z⟩⟩) (fun hw => ⟨fun _ => no (fun y => hw y.2.2.2.2) t2n μ FW.rfl, fun z => absurd rfl z⟩))
    have hT : T1 μ x y u v n k := ⟨p, q, by omega, by omega, hw⟩
    refine up _ hw _ ⟨fun z => ⟨fun _ => ?_, fun y => absurd rfl y⟩, fun ta => ⟨fun y => absurd y (by decide), fun _ => ⟨fun _ => ?_, fun y => absurd rfl y⟩⟩⟩
    · have r := h μ FW.rfl
      unfold F_touch at r
      rw [ic_t hT, hS.gq.t1 (by omega)] at r
      unfold tch1 at r
      rw [ic_f fun y => y.1 z] at r
      exact PI_mk r
    · have r := mk 0 (-1) (n - 10).toNat (hS.pl p) (hS.pl q) (by omega) ta rfl ⟨hT, rfl⟩
      rw [show (((n - 10).toNat : Nat) : Int) = n - 10 by omega] at r
      exact r
theorem p_touch {sc : Scr} {t : Nat} {μ : Mem} {x y u v n k hi : Int} (hh : hi = 0 ∨ hi = 1) (hn : n ≤ 2147483647) (hS : Sim μ) : PR sc t μ 18 11058 [.inl x, .inl y, .inl u, .inl v, .inl n, .inl k, .inl hi] := by
  refine PR_of (F_touch x y u v n k hi) hS (fun μ1 F1 => ?_) (c_touch hn) (r_touch hh hn)
  have c8 := hS.1.2.2.1
  have e1 : μ1 1 = μ 1 := F1.e1
  unfold F_touch
  have t1 : T1 μ1 x y u v n k ↔ T1 μ x y u v n k := by unfold T1 Pm Nw; rw [e1]
  have t2 : T2 μ1 x y u v n k ↔ T2 μ x y u v n k := by unfold T2 Pm Nw; rw [e1]
  by_cases a : T1 μ x y u v n k
  · rw [ic_t (t1.mpr a), ic_t a]
    exact (F1.gq hS).t1 (by have := a.2.2.2.2; omega)
  · rw [ic_f (fun z => a (t1.mp z)), ic_f a]
    by_cases b : T2 μ x y u v n k
    · rw [ic_t (t2.mpr b), ic_t b]
      exact (F1.gq hS).t2 (by have := b.2.2.2.2.1; omega) (by have := b.2.2.2.2.2.1; omega)
    · rw [ic_f (fun z => b (t2.mp z)), ic_f b]
