/-! MATHEMATICS, 29: heard apart, drowned, an echo at a time -/
def dr (L : Lst) (gap : Int) (i : Nat) : Prop := ∃ j, j < i ∧ (L.1 i).2.1 - (L.1 j).2.1 < gap ∧ (L.1 i).2.2.1 < (L.1 j).2.2.1
noncomputable def apG (L : Lst) (gap : Int) : Nat → Nat → Int → Int → Int
  | 0, _, m, _ => m
  | n + 1, i, m, last => ic (dr L gap i ∨ (m ≠ 0 ∧ (L.1 i).2.1 - last < gap)) (apG L gap n (i + 1) m last) (apG L gap n (i + 1) (m + 1) (L.1 i).2.1)
noncomputable def apart (L : Lst) (gap : Int) : Int := apG L gap L.2 0 0 0
noncomputable def dcG (L : Lst) (gap : Int) : Nat → Nat → Int → Int
  | 0, _, m => m
  | n + 1, i, m => ic (dr L gap i) (dcG L gap n (i + 1) (m + 1)) (dcG L gap n (i + 1) m)
noncomputable def drc (L : Lst) (gap : Int) : Int := dcG L gap L.2 0 0
def hasE (L : Lst) (gap time : Int) : Prop := ∃ i, i < L.2 ∧ (L.1 i).1 ≠ 0 ∧ ((L.1 i).2.1 - time = 0 ∨ (0 < (L.1 i).2.1 - time ∧ (L.1 i).2.1 - time < gap))
/-- times as they may be -/
def Tb (L : Lst) : Prop := L.2 ≤ 82 ∧ ∀ i, i < L.2 → 0 ≤ (L.1 i).2.1 ∧ (L.1 i).2.1 ≤ 2000000
theorem LCl.e {μ : Mem} {L : Lst} (h : LCl μ L) {i : Nat} (hi : i < L.2) : μ 31 0 i = (L.1 i).1 ∧ μ 32 0 i = (L.1 i).2.1 ∧ μ 33 0 i = (L.1 i).2.2.1 ∧ μ 34 0 i = (L.1 i).2.2.2 := by
  rw [← h.2 i hi]
  exact ⟨rfl, rfl, rfl, rfl⟩
theorem LMl.e {μ : Mem} {L : Lst} (h : LMl μ L) {i : Nat} (hi : i < L.2) : μ 75 0 i = (L.1 i).1 ∧ μ 76 0 i = (L.1 i).2.1 ∧ μ 77 0 i = (L.1 i).2.2.1 ∧ μ 78 0 i = (L.1 i).2.2.2 := by
  rw [← h.2 i hi]
  exact ⟨rfl, rfl, rfl, rfl⟩
theorem L5004 {sc : Scr} {d t : Nat} {μ : Mem} {P : Option AV → AS → Prop} {L : Lst} {i : Nat} {gap : Int} (hL : LCl μ L) (hT : Tb L) (hi : i < L.2) (h1 : dr L gap i → P (some (.inl 1)) (fs (t, 0, 0) μ)) (h0 : ¬ dr L gap i → P (some (.inl 0)) (fs (t, 0, 0) μ)) :
    ∀ n j, n + j = i → (∀ k, k < j → ¬ ((L.1 i).2.1 - (L.1 k).2.1 < gap ∧ (L.1 i).2.2.1 < (L.1 k).2.2.1)) → R_5004 sc d P t 2 [rfc 5 0, .inl (i : Int), .inl gap, .inl (j : Int)] [] μ := by
  intro n
  induction n with
  | zero =>
    intro j hj hn
    exact m_5004_2 ⟨fun _ => h0 fun ⟨k, hk, z⟩ => hn k (by omega) z, fun c => absurd (by omega) c⟩
  | succ n ih =>
    intro j hj hn
    obtain ⟨-, a1, a2, -⟩ := hL.e hi
    obtain ⟨-, b1, b2, -⟩ := hL.e (i := j) (by omega)
    have t1 := hT.2 i hi
    have t2 := hT.2 j (by omega)
    have h82 := hT.1
    refine m_5004_2 ⟨fun c => absurd c (by omega), fun _ => ?_⟩
    rw [Int.toNat_natCast, Int.toNat_natCast, a1, a2, b1, b2]
    refine ⟨by omega, by omega, by omega, fun c => ⟨by omega, ih (j + 1) (by omega) fun k hk => ?_⟩, fun c => ⟨by omega, by omega, fun c2 => ⟨by omega, ih (j + 1) (by omega) fun k hk => ?_⟩, fun c2 => h1 ⟨j, by omega, by omega, by omega⟩⟩⟩
    · by_cases q : k = j
      · subst q
        omega
      · exact hn k (by omega)
    · by_cases q : k = j
      · subst q
        omega
      · exact hn k (by omega)
theorem sp_drowned {sc : Scr} {d t : Nat} {μ : Mem} {Q : Int → Mem → Prop} {L : Lst} {i : Nat} {gap : Int} (hL : LCl μ L) (hT : Tb L) (hi : i < L.2) (h1 : dr L gap i → Q 1 μ) (h0 : ¬ dr L gap i → Q 0 μ) : RMi sc (d + 1) 5004 [rfc 5 0, .inl (i : Int), .inl gap] (t, 0, 0) μ Q :=
  m_5004 (L5004 hL hT hi (fun z => PI_mk (h1 z)) (fun z => PI_mk (h0 z)) i 0 rfl fun k hk => absurd hk (by omega))
theorem L11065 {sc : Scr} {d t : Nat} {μ : Mem} {P : Option AV → AS → Prop} {L : Lst} {i : Nat} {gap : Int} (hl : liv μ) (eg : μ 70 0 (μ 11 0 18).toNat = gap) (hL : LMl μ L) (hT : Tb L) (hi : i < L.2) (h1 : dr L gap i → P (some (.inl 1)) (fs (t, 0, 0) μ)) (h0 : ¬ dr L gap i → P (some (.inl 0)) (fs (t, 0, 0) μ)) :
    ∀ n j, n + j = i → (∀ k, k < j → ¬ ((L.1 i).2.1 - (L.1 k).2.1 < gap ∧ (L.1 i).2.2.1 < (L.1 k).2.2.1)) → R_11065 sc d P t 2 [rfc 11 0, .inl (i : Int), .inl (j : Int)] [] μ := by
  intro n
  induction n with
  | zero =>
    intro j hj hn
    exact m_11065_2 ⟨fun _ => h0 fun ⟨k, hk, z⟩ => hn k (by omega) z, fun c => absurd (by omega) c⟩
  | succ n ih =>
    intro j hj hn
    obtain ⟨-, a1, a2, -⟩ := hL.e hi
    obtain ⟨-, b1, b2, -⟩ := hL.e (i := j) (by omega)
    have t1 := hT.2 i hi
    have t2 := hT.2 j (by omega)
    have h82 := hT.1
    unfold liv at hl
    refine m_11065_2 ⟨fun c => absurd c (by omega), fun _ => ?_⟩
    rw [Int.toNat_natCast, Int.toNat_natCast, a1, a2, b1, b2, eg]
    refine ⟨by omega, by omega, by omega, by omega, fun c => ⟨by omega, ih (j + 1) (by omega) fun k hk => ?_⟩, fun c => ⟨by omega, by omega, fun c2 => ⟨by omega, ih (j + 1) (by omega) fun k hk => ?_⟩, fun c2 => h1 ⟨j, by omega, by omega, by omega⟩⟩⟩
    · by_cases q : k = j
      · subst q
        omega
      · exact hn k (by omega)
    · by_cases q : k = j
      · subst q
        omega
      · exact hn k (by omega)
theorem sp_drownedM {sc : Scr} {d t : Nat} {μ : Mem} {Q : Int → Mem → Prop} {L : Lst} {i : Nat} {gap : Int} (hl : liv μ) (eg : μ 70 0 (μ 11 0 18).toNat = gap) (hL : LMl μ L) (hT : Tb L) (hi : i < L.2) (h1 : dr L gap i → Q 1 μ) (h0 : ¬ dr L gap i → Q 0 μ) : RMi sc (d + 1) 11065 [rfc 11 0, .inl (i : Int)] (t, 0, 0) μ Q :=
  m_11065 (L11065 hl eg hL hT hi (fun z => PI_mk (h1 z)) (fun z => PI_mk (h0 z)) i 0 rfl fun k hk => absurd hk (by omega))
theorem L5003 {sc : Scr} {d t : Nat} {μ : Mem} {P : Option AV → AS → Prop} {L : Lst} {gap : Int} (hL : LCl μ L) (hT : Tb L) (h : P (some (.inl (apart L gap))) (fs (t, 0, 0) μ)) :
    ∀ (n i : Nat) (m last : Int), n + i = L.2 → (0 ≤ m ∧ m ≤ i) → (0 ≤ last ∧ last ≤ 2000000) → apG L gap n i m last = apart L gap → R_5003 sc (d + 1) P t 7 [rfc 5 0, .inl gap, .inl m, .inl last, .inl (i : Int)] [] μ := by
  have h82 := hT.1
  intro n
  induction n with
  | zero =>
    intro i m last hi hm hl e
    refine m_5003_7 ⟨fun _ => ?_, fun c => absurd (by rw [hL.1]; omega) c⟩
    rw [← e] at h
    exact h
  | succ n ih =>
    intro i m last hi hm hl e
    have h4 := hL.1
    obtain ⟨-, a1, -, -⟩ := hL.e (i := i) (by omega)
    have t1 := hT.2 i (by omega)
    unfold apG at e
    refine m_5003_7 ⟨fun c => absurd c (by omega), fun _ => sp_drowned hL hT (by omega) (fun z => ⟨fun _ => ⟨by omega, ih (i + 1) m last (by omega) (by omega) hl ?_⟩, fun c => absurd (by decide) c⟩) (fun z => ⟨fun c => absurd rfl c, fun _ => ?_⟩)⟩
    · rw [ic_t (Or.inl z)] at e
      exact e
    · rw [Int.toNat_natCast, a1]
      refine ⟨fun c => ⟨by omega, by omega, by omega, ih (i + 1) (m + 1) _ (by omega) (by omega) t1 ?_⟩, fun c => ⟨by omega, by omega, fun c2 => ⟨by omega, ih (i + 1) m last (by omega) (by omega) hl ?_⟩, fun c2 => ⟨by omega, by omega, by omega, ih (i + 1) (m + 1) _ (by omega) (by omega) t1 ?_⟩⟩⟩
      · rw [ic_f fun y => y.elim z fun u => u.1 c] at e
        exact e
      · rw [ic_t (Or.inr ⟨c, c2⟩)] at e
        exact e
      · rw [ic_f fun y => y.elim z fun u => c2 u.2] at e
        exact e
theorem sp_apart {sc : Scr} {d t : Nat} {μ : Mem} {Q : Int → Mem → Prop} {L : Lst} {gap : Int} (hL : LCl μ L) (hT : Tb L) (h : Q (apart L gap) μ) : RMi sc (d + 2) 5003 [rfc 5 0, .inl gap] (t, 0, 0) μ Q :=
  m_5003 (L5003 hL hT (PI_mk h) L.2 0 0 0 rfl (by omega) (by omega) rfl)
theorem L11064 {sc : Scr} {d t : Nat} {μ : Mem} {P : Option AV → AS → Prop} {L : Lst} {gap : Int} (hv : liv μ) (eg : μ 70 0 (μ 11 0 18).toNat = gap) (hL : LMl μ L) (hT : Tb L) (h : P (some (.inl (apart L gap))) (fs (t, 0, 0) μ)) :
    ∀ (n i : Nat) (m last : Int), n + i = L.2 → (0 ≤ m ∧ m ≤ i) → (0 ≤ last ∧ last ≤ 2000000) → apG L gap n i m last = apart L gap → R_11064 sc (d + 1) P t 6 [rfc 11 0, .inl m, .inl last, .inl (i : Int)] [] μ := by
  have h82 := hT.1
  intro n
  induction n with
  | zero =>
    intro i m last hi hm hl e
    refine m_11064_6 ⟨fun _ => ?_, fun c => absurd (by rw [hL.1]; omega) c⟩
    rw [← e] at h
    exact h
  | succ n ih =>
    intro i m last hi hm hl e
    have h4 := hL.1
    obtain ⟨-, a1, -, -⟩ := hL.e (i := i) (by omega)
    have t1 := hT.2 i (by omega)
    have hv' := hv
    unfold liv at hv'
    unfold apG at e
    refine m_11064_6 ⟨fun c => absurd c (by omega), fun _ => sp_drownedM hv eg hL hT (by omega) (fun z => ⟨fun _ => ⟨by omega, ih (i + 1) m last (by omega) (by omega) hl ?_⟩, fun c => absurd (by decide) c⟩) (fun z => ⟨fun c => absurd rfl c, fun _ => ?_⟩)⟩
    · rw [ic_t (Or.inl z)] at e
      exact e
    · rw [Int.toNat_natCast, a1, eg]
      refine ⟨fun c => ⟨by omega, by omega, by omega, ih (i + 1) (m + 1) _ (by omega) (by omega) t1 ?_⟩, fun c => ⟨by omega, by omega, by omega, fun c2 => ⟨by omega, by omega, by omega, ih (i + 1) (m + 1) _ (by omega) (by omega) t1 ?_⟩, fun c2 => ⟨by omega, ih (i + 1) m last (by omega) (by omega) hl ?_⟩⟩⟩
      · rw [ic_f fun y => y.elim z fun u => u.1 (by omega)] at e
        exact e
      · rw [ic_f fun y => y.elim z fun u => by omega] at e
        exact e
      · rw [ic_t (Or.inr ⟨by omega, by omega⟩)] at e
        exact e
theorem sp_heardNow {sc : Scr} {d t : Nat} {μ : Mem} {Q : Int → Mem → Prop} {L : Lst} {gap : Int} (hv : liv μ) (eg : μ 70 0 (μ 11 0 18).toNat = gap) (hL : LMl μ L) (hT : Tb L) (h : Q (apart L gap) μ) : RMi sc (d + 2) 11064 [rfc 11 0] (t, 0, 0) μ Q :=
  m_11064 (L11064 hv eg hL hT (PI_mk h) L.2 0 0 0 rfl (by omega) (by omega) rfl)
theorem L5005 {sc : Scr} {d t : Nat} {μ : Mem} {P : Option AV → AS → Prop} {L : Lst} {gap : Int} (hL : LCl μ L) (hT : Tb L) (h : P (some (.inl (drc L gap))) (fs (t, 0, 0) μ)) :
    ∀ (n i : Nat) (m : Int), n + i = L.2 → (0 ≤ m ∧ m ≤ i) → dcG L gap n i m = drc L gap → R_5005 sc (d + 1) P t 4 [rfc 5 0, .inl gap, .inl m, .inl (i : Int)] [] μ := by
  have h82 := hT.1
  intro n
  induction n with
  | zero =>
    intro i m hi hm e
    refine m_5005_4 ⟨fun _ => ?_, fun c => absurd (by rw [hL.1]; omega) c⟩
    rw [← e] at h
    exact h
  | succ n ih =>
    intro i m hi hm e
    have h4 := hL.1
    unfold dcG at e
    refine m_5005_4 ⟨fun c => absurd c (by omega), fun _ => sp_drowned hL hT (by omega) (fun z => ⟨fun c => absurd c (by decide), fun _ => ⟨by omega, by omega, ih (i + 1) (m + 1) (by omega) (by omega) ?_⟩⟩) (fun z => ⟨fun _ => ⟨by omega, ih (i + 1) m (by omega) (by omega) ?_⟩, fun c => absurd rfl c⟩)⟩
    · rw [ic_t z] at e
      exact e
    · rw [ic_f z] at e
      exact e
theorem sp_drc {sc : Scr} {d t : Nat} {μ : Mem} {Q : Int → Mem → Prop} {L : Lst} {gap : Int} (hL : LCl μ L) (hT : Tb L) (h : Q (drc L gap) μ) : RMi sc (d + 2) 5005 [rfc 5 0, .inl gap] (t, 0, 0) μ Q :=
  m_5005 (L5005 hL hT (PI_mk h) L.2 0 0 rfl (by omega) rfl)
theorem L11066 {sc : Scr} {d t : Nat} {μ : Mem} {P : Option AV → AS → Prop} {L : Lst} {gap x1 x2 : Int} (hv : liv μ) (eg : μ 70 0 (μ 11 0 18).toNat = gap) (hL : LMl μ L) (hT : Tb L) (h : P (some (.inl (drc L gap))) (fs (t, 0, 0) μ)) :
    ∀ (n i : Nat) (m : Int), n + i = L.2 → (0 ≤ m ∧ m ≤ i) → dcG L gap n i m = drc L gap → R_11066 sc (d + 1) P t 29 [rfc 11 0, .inl x1, .inl x2, .inl m, .inl (i : Int)] [] μ := by
  have h82 := hT.1
  intro n
  induction n with
  | zero =>
    intro i m hi hm e
    refine m_11066_29 ⟨fun _ => ?_, fun c => absurd (by rw [hL.1]; omega) c⟩
    rw [← e] at h
    exact h
  | succ n ih =>
    intro i m hi hm e
    have h4 := hL.1
    unfold dcG at e
    refine m_11066_29 ⟨fun c => absurd c (by omega), fun _ => sp_drownedM hv eg hL hT (by omega) (fun z => ⟨fun c => absurd c (by decide), fun _ => ⟨by omega, by omega, ih (i + 1) (m + 1) (by omega) (by omega) ?_⟩⟩) (fun z => ⟨fun _ => ⟨by omega, ih (i + 1) m (by omega) (by omega) ?_⟩, fun c => absurd rfl c⟩)⟩
    · rw [ic_t z] at e
      exact e
    · rw [ic_f z] at e
      exact e
theorem L5006 {sc : Scr} {d t : Nat} {μ : Mem} {P : Option AV → AS → Prop} {L : Lst} {gap time : Int} (hL : LCl μ L) (hT : Tb L) (hb : 0 ≤ time ∧ time ≤ 2000000) (h1 : hasE L gap time → P (some (.inl 1)) (fs (t, 0, 0) μ)) (h0 : ¬ hasE L gap time → P (some (.inl 0)) (fs (t, 0, 0) μ)) :
    ∀ (n i : Nat) (q4 : AV), n + i = L.2 → (∀ k, k < i → ¬ ((L.1 k).1 ≠ 0 ∧ ((L.1 k).2.1 - time = 0 ∨ (0 < (L.1 k).2.1 - time ∧ (L.1 k).2.1 - time < gap)))) → R_5006 sc (d + 1) P t 2 [rfc 5 0, .inl time, .inl gap, .inl (i : Int), q4] [] μ := by
  have h82 := hT.1
  intro n
  induction n with
  | zero =>
    intro i q4 hi hn
    exact m_5006_2 ⟨fun _ => h0 fun ⟨k, hk, z⟩ => hn k (by omega) z, fun c => absurd (by rw [hL.1]; omega) c⟩
  | succ n ih =>
    intro i q4 hi hn
    have h4 := hL.1
    obtain ⟨a0, a1, -, -⟩ := hL.e (i := i) (by omega)
    have t1 := hT.2 i (by omega)
    have nx : ¬ ((L.1 i).1 ≠ 0 ∧ ((L.1 i).2.1 - time = 0 ∨ (0 < (L.1 i).2.1 - time ∧ (L.1 i).2.1 - time < gap))) → ∀ k, k < i + 1 → ¬ ((L.1 k).1 ≠ 0 ∧ ((L.1 k).2.1 - time = 0 ∨ (0 < (L.1 k).2.1 - time ∧ (L.1 k).2.1 - time < gap))) := by
      intro z k hk
      by_cases q : k = i
      · rw [q]; exact z
      · exact hn k (by omega)
    refine m_5006_2 ⟨fun c => absurd c (by omega), fun _ => ?_⟩
    rw [Int.toNat_natCast, a0, a1]
    refine ⟨by omega, by omega, by omega, fun c => ⟨by omega, ih (i + 1) _ (by omega) (nx fun z => z.1 c)⟩, fun c => ⟨fun c2 => h1 ⟨i, by omega, c, Or.inl c2⟩, fun c2 => ⟨fun c3 => ⟨by omega, ih (i + 1) _ (by omega) (nx fun z => by omega)⟩, fun c3 => ⟨fun c4 => ⟨by omega, ih (i + 1) _ (by omega) (nx fun z => by omega)⟩, fun c4 => h1 ⟨i, by omega, c, Or.inr ⟨by omega, by omega⟩⟩⟩⟩⟩⟩
theorem sp_hasE {sc : Scr} {d t : Nat} {μ : Mem} {Q : Int → Mem → Prop} {L : Lst} {gap time : Int} (hL : LCl μ L) (hT : Tb L) (hb : 0 ≤ time ∧ time ≤ 2000000) (h1 : hasE L gap time → Q 1 μ) (h0 : ¬ hasE L gap time → Q 0 μ) : RMi sc (d + 2) 5006 [rfc 5 0, .inl time, .inl gap] (t, 0, 0) μ Q :=
  m_5006 (L5006 hL hT hb (fun z => PI_mk (h1 z)) (fun z => PI_mk (h0 z)) L.2 0 _ (by omega) fun k hk => absurd hk (by omega))
/-- times of the returns -/
theorem rets_t {g : Gf} {pace fall s px py qx qy : Int} (hg : ∀ w, w < 9 → g w 5 ≠ 0 → gok g w) (hp : Pl px py) (hq : Pl qx qy) (h1 : 1 ≤ pace) : Tb (rets g pace fall s px py qx qy) := by
  refine ⟨rets_le _ _ _ _ _ _ _ _, fun i hi => ?_⟩
  obtain ⟨x, hx, _, ex⟩ := Cc_T ((Mm_rets g pace fall s px py qx qy).1 i hi)
  have sb : 0 ≤ x ∧ x ≤ 449352 := by
    rcases hx with ⟨_, rfl⟩ | ⟨a, ha, ta, _, rfl⟩ | ⟨a, ha, ta, b, hb, _, tb, _, rfl⟩
    · exact sqw_bd (wy0_bd hp hq)
    · exact sqw_bd (wy1_bd (hg a ha ta) hp hq)
    · exact sqw_bd (wy2_bd (hg a ha ta) (hg b hb tb) hp hq)
  rw [ex]
  refine ⟨tmv_nn h1, ?_⟩
  have r1 : rt (1000000 * x) ≤ 1000000 := rt_le (by omega) (by omega) (by decide)
  have r2 := rt_nn (1000000 * x)
  have r3 : rt (1000000 * x) / pace ≤ rt (1000000 * x) := Int.ediv_le_self _ r2
  unfold tmv
  omega
