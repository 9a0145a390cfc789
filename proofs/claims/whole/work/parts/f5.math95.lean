/-! MATHEMATICS, 95: louder alike -/
theorem Cc_le {g : Gf} {pace fall s px py qx qy : Int} {e : E4} (hf : 1 ≤ fall) (h4 : ∀ a, a < 9 → g a 5 ≠ 0 → 0 ≤ g a 4) (h : Cc g pace fall s px py qx qy e) : e.2.2.1 ≤ s := by
  have lv : ∀ sq f, 0 ≤ f → lvl fall s sq f ≤ s := fun sq f h0 => by
    unfold lvl
    have := Int.ediv_nonneg (rt_nn sq) (by omega : 0 ≤ fall)
    omega
  rcases h with ⟨_, e'⟩ | ⟨a, ha, ta, ⟨_, e'⟩ | ⟨b, hb, _, tb, _, e'⟩⟩
  · rw [e']
    unfold en
    exact lv _ _ (by decide)
  · rw [e']
    unfold en
    exact lv _ _ (h4 a ha ta)
  · rw [e']
    unfold en
    exact lv _ _ (by have := h4 a ha ta; have := h4 b hb tb; omega)
theorem no_L {μ : Mem} (hC : CO μ) {m k : Int} {x y : Nat} (h : μ 29 0 m.toNat < k) : ¬ PdL μ m k x y := by
  rintro ⟨i, hi, ek⟩
  have c := (Mm_rets (μ 9) (μ 1 0 7) (μ 1 0 8) (μ 29 0 m.toNat) (μ 27 0 m.toNat) (μ 28 0 m.toNat) (x : Int) (y : Int)).1 i hi
  have l : ((ML μ m (x : Int) (y : Int)).1 i).2.2.1 ≤ μ 29 0 m.toNat := Cc_le hC.2.2.1 (fun a ha ta => (hC.1 a ha ta).2.1) c
  omega
theorem scx_0 {Pd : Nat → Nat → Prop} {y : Nat} {S : Sq} (h : ∀ k, ¬ Pd k y) : ∀ x, scx Pd y x S = S
  | 0 => rfl
  | x + 1 => by
    unfold scx
    rw [ic_f (h x)]
    exact scx_0 h x
theorem scy_0 {Pd : Nat → Nat → Prop} {W : Nat} (h : ∀ k j, ¬ Pd k j) : ∀ y, (scy Pd W y).2 = 0
  | 0 => rfl
  | y + 1 => by
    unfold scy
    rw [scx_0 fun k => h k y]
    exact scy_0 h y
theorem L75k {sc : Scr} {t : Nat} {μ : Mem} {P : Option AV → AS → Prop} {L : Lst} {m k x y : Int} (hL : LMl μ L) (h82 : L.2 ≤ 82)
    (hy : hasL L k → ∀ x6 : Int, RMv sc 12 11071 [rfc 11 0, .inl x, .inl y] (t, 0, 0) μ (fun μ3 => (InI (x + 1)) ∧ R_11075 sc 12 P t 38 [rfc 11 0, .inl m, .inl k, .inl y, .inl (x + 1), .inl 1, .inl x6] [] μ3))
    (hn : ¬ hasL L k → ∀ x6 : Int, (InI (x + 1)) ∧ R_11075 sc 12 P t 38 [rfc 11 0, .inl m, .inl k, .inl y, .inl (x + 1), .inl 0, .inl x6] [] μ) :
    ∀ (n j : Nat) (b : Int), n + j = L.2 → ((b = 0 ∧ ∀ i, i < j → (L.1 i).2.2.1 < k) ∨ (b = 1 ∧ hasL L k)) → R_11075 sc 12 P t 66 [rfc 11 0, .inl m, .inl k, .inl y, .inl x, .inl b, .inl (j : Int)] [] μ := by
  have e64 := hL.1
  intro n
  induction n with
  | zero =>
    intro j b hj hb
    refine m_11075_66 ⟨fun _ => ⟨fun b0 => ?_, fun b1 => ?_⟩, fun z => absurd (by omega) z⟩
    · rcases hb with ⟨e, h⟩ | ⟨e, h⟩
      · subst e
        exact hn (fun ⟨i, hi, ek⟩ => by have := h i (by omega); omega) _
      · omega
    · rcases hb with ⟨e, h⟩ | ⟨e, h⟩
      · exact absurd e b1
      · subst e
        exact hy h _
  | succ n ih =>
    intro j b hj hb
    refine m_11075_66 ⟨fun z => absurd z (by omega), fun _ => ⟨fun b1 => ⟨by omega, ?_⟩, fun b0 => ⟨by omega, ?_⟩⟩⟩
    · rcases hb with ⟨e, h⟩ | ⟨e, h⟩
      · exact absurd e b1
      · exact ih (j + 1) 1 (by omega) (Or.inr ⟨rfl, h⟩)
    · rw [Int.toNat_natCast, (hL.e (i := j) (by omega)).2.2.1]
      refine ⟨fun c => ⟨by omega, ih (j + 1) 0 (by omega) (Or.inl ⟨rfl, fun i hi => ?_⟩)⟩, fun c => ⟨by omega, ih (j + 1) 1 (by omega) (Or.inr ⟨rfl, j, by omega, by omega⟩)⟩⟩
      rcases hb with ⟨e, h⟩ | ⟨e, h⟩
      · by_cases q : i = j
        · subst q
          exact c
        · exact h i (by omega)
      · omega
theorem L75i {sc : Scr} {t : Nat} {μ : Mem} {P : Option AV → AS → Prop} {m k : Int} {y : Nat} (hS : Sim μ) (hm : Nm μ 0 m) (hy : y < Hg μ)
    (h : ∀ μ' q0 q1 q2, FW μ μ' → SMc μ' (scy (PdL μ m k) (Wd μ) (y + 1)) → R_11075 sc 12 P t 22 [rfc 11 0, .inl m, .inl k, .inl ((y + 1 : Nat) : Int), q0, q1, q2] [] μ') :
    ∀ (nn x : Nat) (μ' : Mem) (q1 q2 : AV), nn + x = Wd μ → FW μ μ' → SMc μ' (scx (PdL μ m k) y x (scy (PdL μ m k) (Wd μ) y)) → R_11075 sc 12 P t 38 [rfc 11 0, .inl m, .inl k, .inl (y : Int), .inl (x : Int), q1, q2] [] μ' := by
  obtain ⟨w1, w2, w3, w4⟩ := hS.wh
  intro nn
  induction nn with
  | zero =>
    intro x μ' q1 q2 hx hF hC
    have : x = Wd μ := by omega
    subst this
    have e1 := hF.e1
    have S' := hS.fw hF
    have l := S'.1.1
    have ew := S'.2.1.2.2.2.1.1
    unfold liv at l
    unfold lvM at ew
    exact m_11075_38 ⟨by omega, fun _ => ⟨by omega, h μ' _ _ _ hF hC⟩, fun c => absurd (by rw [ew, e1]; omega) c⟩
  | succ nn ih =>
    intro x μ' q1 q2 hx hF hC
    have S' := hS.fw hF
    have e1 := hF.e1
    have S' := hS.fw hF
    have l := S'.1.1
    have ew := S'.2.1.2.2.2.1.1
    unfold liv at l
    unfold lvM at ew
    have hp : Pm μ' (x : Int) (y : Int) := by unfold Pm; rw [e1]; omega
    have nb : (scx (PdL μ m k) y x (scy (PdL μ m k) (Wd μ) y)).2 < 1600 := by
      have b1 := scx_le (PdL μ m k) y (scy (PdL μ m k) (Wd μ) y) x
      have b2 := scy_le (PdL μ m k) w3 y
      omega
    have xs : x < 40 := by omega
    have ys : y < 40 := by omega
    have go : ∀ μ2 q1 q2, FW μ' μ2 → SMc μ2 (scx (PdL μ m k) y (x + 1) (scy (PdL μ m k) (Wd μ) y)) → R_11075 sc 12 P t 38 [rfc 11 0, .inl m, .inl k, .inl (y : Int), .inl ((x : Int) + 1), q1, q2] [] μ2 := fun μ2 q1 q2 F2 C2 => ih (x + 1) μ2 q1 q2 (by omega) (hF.trans F2) C2
    refine m_11075_38 ⟨by omega, fun c => absurd c (by rw [ew, e1]; omega), fun _ => ?_⟩
    have hm' := (hF.nm _ _).mpr hm
    have tb := S'.co.tb (s := μ' 29 0 m.toNat) (S'.pl (S'.2.2.1.1.at hm').2.2) (S'.pl hp)
    refine sp_fillFrom S'.gm hm' (S'.pl hp) fun μ2 F2 L2 => ?_
    have C2 := hC.fm F2
    have em : RT μ' (μ' 29 0 m.toNat) (μ' 27 0 m.toNat) (μ' 28 0 m.toNat) (x : Int) (y : Int) = ML μ m (x : Int) (y : Int) := hF.ml hS m (x : Int) (y : Int)
    rw [em] at L2 tb
    refine L75k L2 tb.1 (fun hh x6 => sp_counts xs ys C2 nb fun μ3 F3 C3 => ⟨by omega, go μ3 _ _ (F2.fw.trans F3) ?_⟩) (fun hh x6 => ⟨by omega, go μ2 _ _ F2.fw ?_⟩) _ 0 0 rfl (Or.inl ⟨rfl, fun i hi => absurd hi (by omega)⟩)
    · unfold scx
      rw [ic_t (show PdL μ m k x y from hh)]
      exact C3
    · unfold scx
      rw [ic_f (show ¬ PdL μ m k x y from hh)]
      exact C2
theorem L75 {sc : Scr} {t : Nat} {μ : Mem} {P : Option AV → AS → Prop} {m k : Int} (hS : Sim μ) (hm : Nm μ 0 m)
    (h : ∀ μ', FW μ μ' → P (some (.inl ((scy (PdL μ m k) (Wd μ) (Hg μ)).2 : Int))) (fs (t, 0, 0) μ')) :
    ∀ (nn y : Nat) (μ' : Mem) (q0 q1 q2 : AV), nn + y = Hg μ → FW μ μ' → SMc μ' (scy (PdL μ m k) (Wd μ) y) → R_11075 sc 12 P t 22 [rfc 11 0, .inl m, .inl k, .inl (y : Int), q0, q1, q2] [] μ' := by
  obtain ⟨w1, w2, w3, w4⟩ := hS.wh
  intro nn
  induction nn with
  | zero =>
    intro y μ' q0 q1 q2 hy hF hC
    have : y = Hg μ := by omega
    subst this
    have e1 := hF.e1
    have b2 := scy_le (PdL μ m k) w3 (Hg μ)
    have S' := hS.fw hF
    have l := S'.1.1
    have ew := S'.2.1.2.2.2.2.1
    unfold liv at l
    unfold lvM at ew
    exact m_11075_22 ⟨by omega, fun _ => by rw [hC.1]; exact h μ' hF, fun c => absurd (by rw [ew, e1]; omega) c⟩
  | succ nn ih =>
    intro y μ' q0 q1 q2 hy hF hC
    have e1 := hF.e1
    have S' := hS.fw hF
    have l := S'.1.1
    have ew := S'.2.1.2.2.2.2.1
    unfold liv at l
    unfold lvM at ew
    exact m_11075_22 ⟨by omega, fun c => absurd c (by rw [ew, e1]; omega), fun _ => L75i hS hm (by omega) (fun μ2 q0 q1 q2 F2 C2 => ih (y + 1) μ2 q0 q1 q2 (by omega) F2 C2) (Wd μ) 0 μ' _ _ rfl hF hC⟩
noncomputable def F_louder (m k : Int) (μ : Mem) : Int := ic (Nm μ 0 m ∧ 1 ≤ k) (((scy (PdL μ m k) (Wd μ) (Hg μ)).2 : Nat) : Int) (-1)
theorem p_louder {sc : Scr} {t : Nat} {μ : Mem} {m k : Int} (hk : k ≤ 2147483647) (hS : Sim μ) : PR sc t μ 33 11075 [.inl m, .inl k] := by
  refine PR_of (F_louder m k) hS (fun μ1 F1 => ?_) (fun μ Q hS h => ?_) (fun μ Q hS h => ?_)
  · unfold F_louder Wd Hg Nm
    rw [F1.e1, F1.1 3 (by unfold Kp; omega), scy_c (Pd' := PdL μ m k) fun x y _ _ => by
      unfold PdL
      rw [F1.ml hS]]
  · unfold F_louder at h
    refine m_33 (sp_has (N := 6) rfl hS.2.2.1.1.c6 (fun hm => ⟨fun z => absurd z (by decide), fun _ => ⟨fun ck => ?_, fun ck => ?_⟩⟩) (fun hm => ⟨fun _ => ?_, fun z => absurd rfl z⟩))
    · rw [ic_t ⟨hm, ck⟩] at h
      have ld := (hS.2.2.1.ml hm).2
      refine sp_lAt rfl rfl hS.2.2.1.1.c6 hm ⟨by omega, by omega, fun c => ?_, fun c => ?_⟩
      · exact L33 hS hm ck c rfl (fun μ' F => PI_mk (h μ' F)) (Hg μ) 0 _ _ rfl FW.rfl trivial
      · have r := h μ FW.rfl
        rw [scy_0 (Pd := PdL μ m k) fun x y => no_L hS.co (by omega)] at r
        exact r
    · rw [ic_f fun z => ck z.2] at h
      exact h _ FW.rfl
    · rw [ic_f fun z => hm z.1] at h
      exact h _ FW.rfl
  · unfold F_louder at h
    refine m_11075 (sp_isMan hS.1.1 hS.2.2.1 (fun hm => ⟨fun z => absurd z (by decide), fun _ => ⟨fun ck => ?_, fun ck => ?_⟩⟩) (fun hm => ⟨fun _ => ?_, fun z => absurd rfl z⟩))
    · rw [ic_t ⟨hm, ck⟩] at h
      exact L75 hS hm (fun μ' F => PI_mk (h μ' F)) (Hg μ) 0 _ _ _ _ rfl (FW.w11 (by decide)) ⟨wr_same _ _ _ _ _, fun z => absurd rfl z⟩
    · rw [ic_f fun z => ck z.2] at h
      exact h _ FW.rfl
    · rw [ic_f fun z => hm z.1] at h
      exact h _ FW.rfl
