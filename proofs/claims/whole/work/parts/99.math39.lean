/-! MATHEMATICS, 39: canon, louder -/
noncomputable def caF (L : Lst) (gap b : Int) : Nat → Int
  | 0 => 0
  | k + 1 => ic (hasE L gap (((k + 1 : Nat) : Int) * b)) (caF L gap b k + 1) (caF L gap b k)
theorem caF_b (L : Lst) (gap b : Int) : ∀ k : Nat, 0 ≤ caF L gap b k ∧ caF L gap b k ≤ (k : Int)
  | 0 => by unfold caF; omega
  | k + 1 => by
    have := caF_b L gap b k
    unfold caF
    by_cases c : hasE L gap (((k + 1 : Nat) : Int) * b)
    · rw [ic_t c]; omega
    · rw [ic_f c]; omega
abbrev VC (μ : Mem) (x y s b n : Int) : Prop := Pm μ x y ∧ Ld s ∧ (1 ≤ b ∧ b ≤ 9999) ∧ (1 ≤ n ∧ n ≤ 99)
noncomputable def F_canon (x y s b n : Int) (μ : Mem) : Int := ic (VC μ x y s b n) (caF (RT μ s x y x y) (μ 1 0 9) b n.toNat) (-1)
theorem L76i {sc : Scr} {d t : Nat} {μ : Mem} {P : Option AV → AS → Prop} {L : Lst} {gap x1 x2 x3 b n c : Int} {j : Nat} (hl : liv μ) (eg : μ 70 0 (μ 11 0 18).toNat = gap) (hL : LMl μ L) (hT : Tb L) (hb : 0 ≤ ((j : Nat) : Int) * b ∧ ((j : Nat) : Int) * b ≤ 2000000) (hj : j ≤ 99) (hc : 0 ≤ c ∧ c ≤ 99)
    (h1 : hasE L gap (((j : Nat) : Int) * b) → ∀ q8 q9 q10, R_11076 sc d P t 52 [rfc 11 0, .inl x1, .inl x2, .inl x3, .inl b, .inl n, .inl (c + 1), .inl ((j : Int) + 1), q8, q9, q10] [] μ)
    (h0 : ¬ hasE L gap (((j : Nat) : Int) * b) → ∀ q8 q9 q10, R_11076 sc d P t 52 [rfc 11 0, .inl x1, .inl x2, .inl x3, .inl b, .inl n, .inl c, .inl ((j : Int) + 1), q8, q9, q10] [] μ) :
    ∀ (m i : Nat) (v : Int) (q10 : AV), m + i = L.2 → ((v = 0 ∧ ∀ k, k < i → ¬ ((L.1 k).1 ≠ 0 ∧ ((L.1 k).2.1 - ((j : Nat) : Int) * b = 0 ∨ (0 < (L.1 k).2.1 - ((j : Nat) : Int) * b ∧ (L.1 k).2.1 - ((j : Nat) : Int) * b < gap)))) ∨ (v ≠ 0 ∧ hasE L gap (((j : Nat) : Int) * b))) → R_11076 sc d P t 65 [rfc 11 0, .inl x1, .inl x2, .inl x3, .inl b, .inl n, .inl c, .inl (j : Int), .inl v, .inl (i : Int), q10] [] μ := by
  have h82 := hT.1
  have e64 := hL.1
  unfold liv at hl
  intro m
  induction m with
  | zero =>
    intro i v q10 hi hv
    refine m_11076_65 ⟨fun _ => ⟨fun z => ⟨by omega, h0 (fun hh => ?_) _ _ _⟩, fun z => ⟨by omega, by omega, h1 ?_ _ _ _⟩⟩, fun z => absurd (by omega) z⟩
    · rcases hv with ⟨_, hv⟩ | ⟨hv, _⟩
      · obtain ⟨k, hk, z2⟩ := hh
        exact hv k (by omega) z2
      · exact hv z
    · rcases hv with ⟨hv, _⟩ | ⟨_, hv⟩
      · exact absurd hv z
      · exact hv
  | succ m ih =>
    intro i v q10 hi hv
    obtain ⟨a0, a1, -, -⟩ := hL.e (i := i) (by omega)
    have t1 := hT.2 i (by omega)
    have nx : v = 0 → ¬ ((L.1 i).1 ≠ 0 ∧ ((L.1 i).2.1 - ((j : Nat) : Int) * b = 0 ∨ (0 < (L.1 i).2.1 - ((j : Nat) : Int) * b ∧ (L.1 i).2.1 - ((j : Nat) : Int) * b < gap))) → ∀ q10, R_11076 sc d P t 65 [rfc 11 0, .inl x1, .inl x2, .inl x3, .inl b, .inl n, .inl c, .inl (j : Int), .inl 0, .inl ((i : Int) + 1), q10] [] μ := by
      intro v0 z q10
      refine ih (i + 1) 0 q10 (by omega) (Or.inl ⟨rfl, fun k hk => ?_⟩)
      rcases hv with ⟨_, hv⟩ | ⟨hv, _⟩
      · by_cases q : k = i
        · rw [q]; exact z
        · exact hv k (by omega)
      · exact absurd v0 hv
    have yx : hasE L gap (((j : Nat) : Int) * b) → ∀ q10, R_11076 sc d P t 65 [rfc 11 0, .inl x1, .inl x2, .inl x3, .inl b, .inl n, .inl c, .inl (j : Int), .inl 1, .inl ((i : Int) + 1), q10] [] μ := fun z q10 => ih (i + 1) 1 q10 (by omega) (Or.inr ⟨by decide, z⟩)
    refine m_11076_65 ⟨fun z => absurd z (by omega), fun _ => ?_⟩
    rw [Int.toNat_natCast, a0, a1, eg]
    refine ⟨by omega, by omega, by omega, fun z => ⟨by omega, yx ?_ _⟩, fun z => ⟨by omega, fun z2 => ⟨by omega, nx (by omega) (fun w => w.1 z2) _⟩, fun z2 => ⟨fun z3 => ⟨by omega, yx ⟨i, by omega, z2, Or.inl z3⟩ _⟩, fun z3 => ⟨fun z4 => ⟨by omega, nx (by omega) (fun w => by omega) _⟩, fun z4 => ⟨by omega, fun z5 => ⟨by omega, nx (by omega) (fun w => by omega) _⟩, fun z5 => ⟨by omega, yx ⟨i, by omega, z2, Or.inr ⟨by omega, by omega⟩⟩ _⟩⟩⟩⟩⟩⟩
    rcases hv with ⟨hv, _⟩ | ⟨_, hv⟩
    · exact absurd hv z
    · exact hv
theorem jb_bd {b : Int} {k : Nat} (hb : 1 ≤ b ∧ b ≤ 9999) (hk : k ≤ 99) : 0 ≤ ((k : Nat) : Int) * b ∧ ((k : Nat) : Int) * b ≤ 2000000 := by
  have b1 := mul_bd (A := 99) (B := 9999) (a := ((k : Nat) : Int)) (b := b) (by omega) (by omega)
  have n1 : 0 ≤ ((k : Nat) : Int) * b := Int.mul_nonneg (by omega) (by omega)
  omega
theorem p_canon {sc : Scr} {t : Nat} {μ : Mem} {x y s b n : Int} (hS : Sim μ) : PR sc t μ 34 11076 [.inl x, .inl y, .inl s, .inl b, .inl n] := by
  refine PR_of (F_canon x y s b n) hS (fun μ1 F1 => ?_) (fun μ Q hS h => ?_) (fun μ Q hS h => ?_)
  · unfold F_canon VC Pm
    rw [F1.rt hS, F1.e1]
  · unfold F_canon at h
    have no : ¬ (VC μ x y s b n) → Q (-1) μ := by
      intro z
      rw [ic_f z] at h
      exact h _ FW.rfl
    refine m_34 (sp_holds (fun p => ⟨fun z => absurd z (by decide), fun _ => sp_isLoud (fun l => ⟨fun z => absurd z (by decide), fun _ => sp_isBeat (fun lb => ⟨fun z => absurd z (by decide), fun _ => ⟨fun c => no fun z => by have := z.2.2.2; omega, fun c => ⟨fun c2 => ?_, fun c2 => no fun z => by have := z.2.2.2; omega⟩⟩⟩) (fun lb => ⟨fun _ => no fun z => lb z.2.2.1, fun z => absurd rfl z⟩)⟩) (fun l => ⟨fun _ => no fun z => l z.2.1, fun z => absurd rfl z⟩)⟩) (fun p => ⟨fun _ => no fun z => p z.1, fun z => absurd rfl z⟩))
    rw [ic_t ⟨p, l, lb, by omega, c2⟩] at h
    refine sp_span fun μ1 F1 s1 => sp_gather (hS.co.f8 F1) (hS.pl p) (hS.pl p) s1 l.b fun μ2 F2 L2 => ?_
    rw [F1.c (c := 9) (by decide), F1.c (c := 1) (by decide)] at L2
    have F := F1.fw.trans F2.fw
    have tb := hS.co.tb (s := s) (hS.pl p) (hS.pl p)
    have lp : ∀ (m k : Nat), m + k = n.toNat → R_34 sc 12 (PI t Q) t 71 [rfc 0 0, .inl x, .inl y, .inl s, .inl b, .inl n, .inl (caF (RT μ s x y x y) (μ 1 0 9) b k), .inl ((k + 1 : Nat) : Int)] [] μ2 := by
      intro m
      induction m with
      | zero =>
        intro k hk
        have : k = n.toNat := by omega
        subst this
        exact m_34_71 ⟨fun _ => PI_mk (h μ2 F), fun c => absurd (by omega) c⟩
      | succ m ih =>
        intro k hk
        have cb := caF_b (RT μ s x y x y) (μ 1 0 9) b k
        have jb := jb_bd (k := k + 1) lb (by omega)
        have r := ih (k + 1) (by omega)
        have e9 : μ2 1 0 9 = μ 1 0 9 := by rw [F.e1]
        refine m_34_71 ⟨fun c => absurd c (by omega), fun _ => ⟨by omega, ?_⟩⟩
        rw [e9]
        refine sp_hasE (gap := μ 1 0 9) L2 tb jb (fun z => ⟨fun z' => absurd z' (by decide), fun _ => ⟨by omega, by omega, ?_⟩⟩) (fun z => ⟨fun _ => ⟨by omega, ?_⟩, fun z' => absurd rfl z'⟩)
        · unfold caF at r
          rw [ic_t z] at r
          exact r
        · unfold caF at r
          rw [ic_f z] at r
          exact r
    exact lp _ 0 rfl
  · unfold F_canon at h
    have no : ¬ (VC μ x y s b n) → Q (-1) μ := by
      intro z
      rw [ic_f z] at h
      exact h _ FW.rfl
    refine m_11076 (sp_isPlace hS.1.1 hS.2.1 (fun p => ⟨fun z => absurd z (by decide), fun _ => sp_isLoudM (fun l => ⟨fun z => absurd z (by decide), fun _ => sp_isBeatM (fun lb => ⟨fun z => absurd z (by decide), fun _ => sp_in (fun c => ⟨fun _ => ?_, fun z => absurd (by decide) z⟩) (fun c => ⟨fun z => absurd rfl z, fun _ => no fun z => c z.2.2.2⟩)⟩) (fun lb => ⟨fun _ => no fun z => lb z.2.2.1, fun z => absurd rfl z⟩)⟩) (fun l => ⟨fun _ => no fun z => l z.2.1, fun z => absurd rfl z⟩)⟩) (fun p => ⟨fun _ => no fun z => p z.1, fun z => absurd rfl z⟩))
    rw [ic_t ⟨p, l, lb, c⟩] at h
    refine sp_fills hS.mo (hS.pl p) (hS.pl p) l.b fun μ2 F2 L2 => ?_
    rw [hS.rets] at L2
    have tb := hS.co.tb (s := s) (hS.pl p) (hS.pl p)
    have eg : μ2 70 0 (μ2 11 0 18).toNat = μ 1 0 9 := by
      rw [F2.c (c := 70) (by decide) (by decide), F2.f (k := 18) (by decide)]
      exact hS.gap
    have lv2 := (hS.mo.fm F2 (by decide)).1.1
    have lp : ∀ (m k : Nat) (q8 q9 q10 : AV), m + k = n.toNat → R_11076 sc 12 (PI t Q) t 52 [rfc 11 0, .inl x, .inl y, .inl s, .inl b, .inl n, .inl (caF (RT μ s x y x y) (μ 1 0 9) b k), .inl ((k + 1 : Nat) : Int), q8, q9, q10] [] μ2 := by
      intro m
      induction m with
      | zero =>
        intro k q8 q9 q10 hk
        have : k = n.toNat := by omega
        subst this
        exact m_11076_52 ⟨fun _ => PI_mk (h μ2 F2.fw), fun c => absurd (by omega) c⟩
      | succ m ih =>
        intro k q8 q9 q10 hk
        have cb := caF_b (RT μ s x y x y) (μ 1 0 9) b k
        have jb := jb_bd (k := k + 1) lb (by omega)
        refine m_11076_52 ⟨fun c => absurd c (by omega), fun _ => L76i (gap := μ 1 0 9) (j := k + 1) lv2 eg L2 tb jb (by omega) (by omega) (fun z q8 q9 q10 => ?_) (fun z q8 q9 q10 => ?_) _ 0 0 _ rfl (Or.inl ⟨rfl, fun k hk => absurd hk (by omega)⟩)⟩
        · have r := ih (k + 1) q8 q9 q10 (by omega)
          unfold caF at r
          rw [ic_t z] at r
          exact r
        · have r := ih (k + 1) q8 q9 q10 (by omega)
          unfold caF at r
          rw [ic_f z] at r
          exact r
    exact lp _ 0 _ _ _ rfl
/-- louder -/
def TTs (_ : Mem) (_ : Sq) : Prop := True
def hasL (L : Lst) (k : Int) : Prop := ∃ i, i < L.2 ∧ k ≤ (L.1 i).2.2.1
theorem louder_eq {g : Gf} {pace fall s px py qx qy B k : Int} (hk : 1 ≤ k) (hB : Bst (Tal g fall (s - (k - 1)) px py qx qy) B) : 0 ≤ B ↔ hasL (rets g pace fall s px py qx qy) k := by
  have m := Mm_rets g pace fall s px py qx qy
  have sh : ∀ sq f, lvl fall (s - (k - 1)) sq f = lvl fall s sq f - (k - 1) := by
    intro sq f
    unfold lvl
    omega
  constructor
  · intro h0
    rcases hB with ⟨h1, _⟩ | ⟨_, hT, _⟩
    · omega
    · have : ∃ e, Cc g pace fall s px py qx qy e ∧ k ≤ e.2.2.1 := by
        rcases hT with ⟨⟨o, l⟩, _⟩ | ⟨a, ha, ta, ⟨o, l⟩, _⟩ | ⟨a, ha, ta, b, hb, hab, tb, ⟨o, l⟩, _⟩
        · rw [sh] at l
          exact ⟨_, Or.inl ⟨⟨o, by omega⟩, rfl⟩, by unfold en; simp only []; omega⟩
        · rw [sh] at l
          exact ⟨_, Or.inr ⟨a, ha, ta, Or.inl ⟨⟨o, by omega⟩, rfl⟩⟩, by unfold en; simp only []; omega⟩
        · rw [sh] at l
          exact ⟨_, Or.inr ⟨a, ha, ta, Or.inr ⟨b, hb, hab, tb, ⟨o, by omega⟩, rfl⟩⟩, by unfold en; simp only []; omega⟩
      obtain ⟨e, he, ek⟩ := this
      obtain ⟨i, hi, rfl⟩ := m.2 e he
      exact ⟨i, hi, ek⟩
  · intro ⟨i, hi, ek⟩
    have he := m.1 i hi
    have : ∃ x, Tal g fall (s - (k - 1)) px py qx qy x := by
      rcases he with ⟨⟨o, l⟩, e⟩ | ⟨a, ha, ta, ⟨⟨o, l⟩, e⟩ | ⟨b, hb, hab, tb, ⟨o, l⟩, e⟩⟩
      · rw [e] at ek
        unfold en at ek
        simp only [] at ek
        exact ⟨_, Or.inl ⟨⟨o, by rw [sh]; omega⟩, rfl⟩⟩
      · rw [e] at ek
        unfold en at ek
        simp only [] at ek
        exact ⟨_, Or.inr (Or.inl ⟨a, ha, ta, ⟨o, by rw [sh]; omega⟩, rfl⟩)⟩
      · rw [e] at ek
        unfold en at ek
        simp only [] at ek
        exact ⟨_, Or.inr (Or.inr ⟨a, ha, ta, b, hb, hab, tb, ⟨o, by rw [sh]; omega⟩, rfl⟩)⟩
    obtain ⟨x, hx⟩ := this
    rcases hB with ⟨_, hn⟩ | ⟨h0, _, _⟩
    · exact absurd hx (hn x)
    · exact h0
noncomputable abbrev ML (μ : Mem) (m x y : Int) : Lst := RT μ (μ 29 0 m.toNat) (μ 27 0 m.toNat) (μ 28 0 m.toNat) x y
def PdL (μ : Mem) (m k : Int) (x y : Nat) : Prop := hasL (ML μ m (x : Int) (y : Int)) k
theorem FW.ml {μ μ' : Mem} (h : FW μ μ') (hS : Sim μ) (m x y : Int) : ML μ' m x y = ML μ m x y := by
  unfold ML
  rw [h.rt hS, h.1 27 (by unfold Kp; omega), h.1 28 (by unfold Kp; omega), h.1 29 (by unfold Kp; omega)]
theorem L33i {sc : Scr} {t : Nat} {μ : Mem} {P : Option AV → AS → Prop} {m k s : Int} {y : Nat} (hS : Sim μ) (hm : Nm μ 0 m) (hk : 1 ≤ k) (ls : 1 ≤ s) (es : s = μ 29 0 m.toNat - (k - 1)) (hy : y < Hg μ)
    (h : ∀ μ' q0, FW μ μ' → TTs μ' (scy (PdL μ m k) (Wd μ) (y + 1)) → R_33 sc 12 P t 50 [rfc 0 0, .inl m, .inl k, .inl s, .inl ((scy (PdL μ m k) (Wd μ) (y + 1)).2 : Int), .inl ((y + 1 : Nat) : Int), q0] [] μ') :
    ∀ (nn x : Nat) (μ' : Mem), nn + x = Wd μ → FW μ μ' → TTs μ' (scx (PdL μ m k) y x (scy (PdL μ m k) (Wd μ) y)) → R_33 sc 12 P t 65 [rfc 0 0, .inl m, .inl k, .inl s, .inl ((scx (PdL μ m k) y x (scy (PdL μ m k) (Wd μ) y)).2 : Int), .inl (y : Int), .inl (x : Int)] [] μ' := by
  obtain ⟨w1, w2, w3, w4⟩ := hS.wh
  intro nn
  induction nn with
  | zero =>
    intro x μ'  hx hF hC
    have : x = Wd μ := by omega
    subst this
    have e1 := hF.e1
    exact m_33_65 ⟨fun _ => ⟨by omega, h μ' _ hF hC⟩, fun c => absurd (by rw [e1]; omega) c⟩
  | succ nn ih =>
    intro x μ'  hx hF hC
    have S' := hS.fw hF
    have e1 := hF.e1
    have hp : Pm μ' (x : Int) (y : Int) := by unfold Pm; rw [e1]; omega
    have nb : (scx (PdL μ m k) y x (scy (PdL μ m k) (Wd μ) y)).2 < 1600 := by
      have b1 := scx_le (PdL μ m k) y (scy (PdL μ m k) (Wd μ) y) x
      have b2 := scy_le (PdL μ m k) w3 y
      omega
    have xs : x < 40 := by omega
    have ys : y < 40 := by omega
    have go : ∀ μ2 , FW μ' μ2 → TTs μ2 (scx (PdL μ m k) y (x + 1) (scy (PdL μ m k) (Wd μ) y)) → R_33 sc 12 P t 65 [rfc 0 0, .inl m, .inl k, .inl s, .inl ((scx (PdL μ m k) y (x + 1) (scy (PdL μ m k) (Wd μ) y)).2 : Int), .inl (y : Int), .inl ((x : Int) + 1)] [] μ2 := fun μ2  F2 C2 => ih (x + 1) μ2  (by omega) (hF.trans F2) C2
    refine m_33_65 ⟨fun c => absurd c (by rw [e1]; omega), fun _ => ?_⟩
    have S' := hS.fw hF
    have hm' := (hF.nm _ _).mpr hm
    have hL := (S'.2.2.1.ml hm').2
    have e29 : μ' 29 = μ 29 := hF.1 29 (by unfold Kp; omega)
    refine sp_xAt (N := 6) rfl S'.2.2.1.1.c6 hm' (sp_yAt (N := 6) rfl rfl S'.2.2.1.1.c6 hm' (sp_span fun μ2 F2 s2 => sp_shortA (S'.co.f8 F2) (S'.pl (S'.2.2.1.1.at hm').2.2) (S'.pl hp) s2 (by rw [e29] at hL; omega) fun μ3 B F3 hB hB2 => ?_))
    have F23 := F2.fw.trans F3.fc.fw
    rw [F2.c (c := 9) (by decide), F2.c (c := 1) (by decide), es] at hB
    have q := louder_eq (pace := μ' 1 0 7) hk hB
    rw [← e29] at q
    have q2 : 0 ≤ B ↔ PdL μ m k x y := by
      rw [q]
      unfold PdL
      rw [← hF.ml hS]
    have nb2 : (scx (PdL μ m k) y (x + 1) (scy (PdL μ m k) (Wd μ) y)).2 = (scx (PdL μ m k) y x (scy (PdL μ m k) (Wd μ) y)).2 ∨ True := Or.inr trivial
    rw [lc_lt]
    refine ⟨fun c => ⟨by omega, ?_⟩, fun c => ⟨by omega, by omega, ?_⟩⟩
    · have r := go μ3 F23 trivial
      unfold scx at r
      rw [ic_f fun z => by have := q2.mpr z; omega] at r
      exact r
    · have r := go μ3 F23 trivial
      unfold scx at r
      rw [ic_t (q2.mp (by omega))] at r
      exact r
theorem L33 {sc : Scr} {t : Nat} {μ : Mem} {P : Option AV → AS → Prop} {m k s : Int} (hS : Sim μ) (hm : Nm μ 0 m) (hk : 1 ≤ k) (ls : 1 ≤ s) (es : s = μ 29 0 m.toNat - (k - 1))
    (h : ∀ μ', FW μ μ' → P (some (.inl ((scy (PdL μ m k) (Wd μ) (Hg μ)).2 : Int))) (fs (t, 0, 0) μ')) :
    ∀ (nn y : Nat) (μ' : Mem) (q0 : AV), nn + y = Hg μ → FW μ μ' → TTs μ' (scy (PdL μ m k) (Wd μ) y) → R_33 sc 12 P t 50 [rfc 0 0, .inl m, .inl k, .inl s, .inl ((scy (PdL μ m k) (Wd μ) y).2 : Int), .inl (y : Int), q0] [] μ' := by
  obtain ⟨w1, w2, w3, w4⟩ := hS.wh
  intro nn
  induction nn with
  | zero =>
    intro y μ' q0 hy hF hC
    have : y = Hg μ := by omega
    subst this
    have e1 := hF.e1
    have b2 := scy_le (PdL μ m k) w3 (Hg μ)
    exact m_33_50 ⟨fun _ => h μ' hF, fun c => absurd (by rw [e1]; omega) c⟩
  | succ nn ih =>
    intro y μ' q0 hy hF hC
    have e1 := hF.e1
    exact m_33_50 ⟨fun c => absurd c (by rw [e1]; omega), fun _ => L33i hS hm hk ls es (by omega) (fun μ2 q0 F2 C2 => ih (y + 1) μ2 q0 (by omega) F2 C2) (Wd μ) 0 μ'  rfl hF hC⟩
