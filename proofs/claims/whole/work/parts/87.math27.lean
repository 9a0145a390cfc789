/-! MATHEMATICS, 27: the shortest way that comes -/
def F7 (μ μ' : Mem) : Prop := ∀ c i k, ¬ (c = 7 ∧ 2 ≤ i) → μ' c i k = μ c i k
theorem F7.trans {μ μ' μ'' : Mem} (h : F7 μ μ') (h2 : F7 μ' μ'') : F7 μ μ'' := fun c i k a => (h2 c i k a).trans (h c i k a)
theorem F7.rfl {μ : Mem} : F7 μ μ := fun _ _ _ _ => Eq.refl _
theorem F7.fc {μ μ' : Mem} (h : F7 μ μ') : Fc μ μ' := fun c i k a _ _ => h c i k a
theorem Fun2.f7 {μ μ' : Mem} (h : Fun2 μ μ') : F7 μ μ' := fun c i k a => h c i k (by omega)
theorem Fsp.f7 {μ μ' : Mem} (h : Fsp μ μ') : F7 μ μ' := fun c i k a => h c i k (by omega)
def F8 (μ μ' : Mem) : Prop := ∀ c i k, c ≠ 7 → μ' c i k = μ c i k
theorem F8.trans {μ μ' μ'' : Mem} (h : F8 μ μ') (h2 : F8 μ' μ'') : F8 μ μ'' := fun c i k a => (h2 c i k a).trans (h c i k a)
theorem F7.f8 {μ μ' : Mem} (h : F7 μ μ') : F8 μ μ' := fun c i k a => h c i k (by omega)
theorem F8.c {μ μ' : Mem} {c : Nat} (h : F8 μ μ') (h7 : c ≠ 7) : μ' c = μ c := by
  funext i k
  exact h c i k h7
theorem CO.f8 {μ μ' : Mem} (h : F8 μ μ') (hC : CO μ) : CO μ' := by
  unfold CO Wok at *
  rw [h.c (c := 9) (by decide), h.c (c := 1) (by decide)]
  exact hC
theorem sp_span {sc : Scr} {d t : Nat} {μ : Mem} {Q : Mem → Prop} {x y u v : Int} (h : ∀ μ', F8 μ μ' → Spn μ' x y u v → Q μ') : RMv sc (d + 2) 10001 [rfc 10 0, .inl x, .inl y, .inl u, .inl v] (t, 0, 0) μ Q := by
  refine m_10001 (sp_setWhole fun μ1 F1 a1 a2 a3 => sp_setWhole fun μ2 F2 b1 b2 b3 => h μ2 (fun c i k h7 => (F2 c i k (by omega)).trans (F1 c i k (by omega))) ⟨?_, ?_, ?_, b1, b2, b3⟩)
  · rw [F2 7 0 0 (by omega)]; exact a1
  · rw [F2 7 0 1 (by omega)]; exact a2
  · rw [F2 7 0 2 (by omega)]; exact a3
theorem L10009 {sc : Scr} {d t : Nat} {μ : Mem} {P : Option AV → AS → Prop} {r1 r2 : AR} {K O : Prop} {sq l B s : Int} (hK : K ↔ O ∧ 1 ≤ l)
    (hO : ∀ Q : Int → Mem → Prop, (O → ∀ μ', Fsp μ μ' → Q 1 μ') → (¬ O → ∀ μ', Fsp μ μ' → Q 0 μ') → RMi sc d 10006 [rfc 10 0, .inr (.inr (.inl r1)), .inr (.inr (.inl r2))] (t, 0, 0) μ Q)
    (hl : ∀ (μ' : Mem) (Q : Int → Mem → Prop), Fsp μ μ' → Q l μ' → RMi sc d 10005 [rfc 10 0, .inr (.inl sq), .inr (.inr (.inl r1)), .inr (.inr (.inl r2)), .inl s] (t, 0, 0) μ' Q)
    (h1 : K → ∀ μ', Fsp μ μ' → P (some (.inr (.inl sq))) (fs (t, 0, 0) μ')) (h0 : ¬ K → ∀ μ', Fsp μ μ' → P (some (.inr (.inl B))) (fs (t, 0, 0) μ')) :
    R_10009 sc d P t 28 [rfc 10 0, .inr (.inr (.inl r1)), .inr (.inr (.inl r2)), .inl s, .inr (.inl B), vx, .inr (.inl sq), vx, vx] [] μ := by
  refine m_10009_28 (hO _ (fun o μ2 F2 => ⟨fun z => absurd z (by decide), fun _ => hl μ2 _ F2 ⟨fun c => m_10009_55 ⟨fun _ => h0 (fun k => ?_) μ2 F2, fun z => absurd rfl z⟩, fun c => m_10009_55 ⟨fun z => absurd z (by decide), fun _ => h1 (hK.mpr ⟨o, by omega⟩) μ2 F2⟩⟩⟩) (fun o μ2 F2 => ⟨fun _ => m_10009_55 ⟨fun _ => h0 (fun k => o (hK.mp k).1) μ2 F2, fun z => absurd rfl z⟩, fun z => absurd rfl z⟩))
  have := (hK.mp k).2
  omega
theorem Bst.c {T T' : Int → Prop} {B : Int} (h : Bst T B) (e : ∀ x, T x ↔ T' x) : Bst T' B := by
  rcases h with ⟨h1, h2⟩ | ⟨h1, h2, h3⟩
  · exact Or.inl ⟨h1, fun x hx => h2 x ((e x).mpr hx)⟩
  · exact Or.inr ⟨h1, (e B).mp h2, fun x hx => h3 x ((e x).mpr hx)⟩
theorem Bst.n {T T' : Int → Prop} {B q : Int} {K : Prop} (h : Bst T B) (e : ∀ x, T' x ↔ T x ∨ (K ∧ x = q)) (k : ¬ K) : Bst T' B := h.c fun x => ⟨fun z => (e x).mpr (Or.inl z), fun z => ((e x).mp z).elim (fun y => y) fun y => absurd y.1 k⟩
theorem Bst.o {T T' : Int → Prop} {B q : Int} {K : Prop} (h : Bst T B) (e : ∀ x, T' x ↔ T x ∨ (K ∧ x = q)) (k : ¬ (B = -1 ∨ q < B)) : Bst T' B := by
  rcases h with ⟨h1, h2⟩ | ⟨h1, h2, h3⟩
  · exact absurd (Or.inl h1) k
  · refine Or.inr ⟨h1, (e B).mpr (Or.inl h2), fun x hx => ?_⟩
    rcases (e x).mp hx with z | z
    · exact h3 x z
    · omega
theorem Bst.y {T T' : Int → Prop} {B q : Int} {K : Prop} (h : Bst T B) (e : ∀ x, T' x ↔ T x ∨ (K ∧ x = q)) (q0 : 0 ≤ q) (k : K) (l : B = -1 ∨ q < B) : Bst T' q := by
  refine Or.inr ⟨q0, (e q).mpr (Or.inr ⟨k, rfl⟩), fun x hx => ?_⟩
  rcases (e x).mp hx with z | z
  · rcases h with ⟨h1, h2⟩ | ⟨h1, h2, h3⟩
    · exact absurd z (h2 x)
    · have := h3 x z
      omega
  · omega
theorem Bst.b {T : Int → Prop} {B : Int} (h : Bst T B) : -1 ≤ B := by
  rcases h with ⟨h1, h2⟩ | ⟨h1, h2, h3⟩ <;> omega
theorem sp_shorter0 {sc : Scr} {d t : Nat} {μ : Mem} {Q : Int → Mem → Prop} {px py qx qy s B : Int} {T T' : Int → Prop} (hC : CO μ) (hp : Pl px py) (hq : Pl qx qy) (hs : Spn μ px py qx qy) (bs : 0 ≤ s ∧ s ≤ 99) (hB : Bst T B) (hB2 : B < 4000000)
    (e : ∀ x, T' x ↔ T x ∨ (K0 (μ 9) (μ 1 0 8) s px py qx qy ∧ x = sqw (wy0 px py qx qy))) (h : ∀ μ' B', F7 μ μ' → Bst T' B' → B' < 4000000 → Q B' μ') : RMl sc (d + 3) 10009 [rfc 10 0, rfn, rfn, .inl s, .inr (.inl B)] (t, 0, 0) μ Q := by
  have wb := wy0_bd hp hq
  have sb := sqw_bd wb
  refine m_10009 (sp_unfold0 hp hq hs fun μ1 F1 r0 r1 => ?_)
  have e9 : μ1 9 = μ 9 := F1.fc.c (by decide) (by decide) (by decide)
  have e1 : μ1 1 = μ 1 := F1.fc.c (by decide) (by decide) (by decide)
  have C1 := hC.fc F1.fc
  rw [lc_eq, lc_lt]
  have R : (B = -1 ∨ sqw (wy0 px py qx qy) < B) → R_10009 sc (d + 2) (PJ t Q) t 28 [rfc 10 0, rfn, rfn, .inl s, .inr (.inl B), vx, .inr (.inl (sqw (wy0 px py qx qy))), vx, vx] [] μ1 := by
    intro l
    refine L10009 (K := K0 (μ 9) (μ 1 0 8) s px py qx qy) (O := Op0 (μ1 9) (wy0 px py qx qy)) (l := lvl (μ 1 0 8) s (sqw (wy0 px py qx qy)) 0) (by rw [e9]; exact Iff.rfl) (fun Q' a b => sp_isOpen0 (fun k hk h5 => (C1.1 k hk h5).1) wb r0 r1 a b) (fun μ' Q' F a => ?_) (fun k μ' F => PJ_mk (h μ' _ (F1.f7.trans F.f7) (hB.y e sb.1 k l) (by omega))) (fun k μ' F => PJ_mk (h μ' B (F1.f7.trans F.f7) (hB.n e k) hB2))
    have e12 : μ' 1 = μ 1 := (F.fc.c (by decide) (by decide) (by decide)).trans e1
    exact sp_loud0 sb.1 (by omega) (by rw [e12]; have := hC.2.2; omega) bs (by rw [e12]; exact a)
  exact ⟨fun c => R (Or.inl c), fun c => ⟨fun c2 => R (Or.inr c2), fun c2 => h μ1 B F1.f7 (hB.o e (by omega)) hB2⟩⟩
theorem sp_shorter1 {sc : Scr} {d t : Nat} {μ : Mem} {Q : Int → Mem → Prop} {px py qx qy s B : Int} {a : Nat} {T T' : Int → Prop} (ha : a < 9) (ta : μ 9 a 5 ≠ 0) (hC : CO μ) (hp : Pl px py) (hq : Pl qx qy) (hs : Spn μ px py qx qy) (bs : 0 ≤ s ∧ s ≤ 99) (hB : Bst T B) (hB2 : B < 4000000)
    (e : ∀ x, T' x ↔ T x ∨ (K1 (μ 9) (μ 1 0 8) s px py qx qy a ∧ x = sqw (wy1 (μ 9) px py qx qy a))) (h : ∀ μ' B', F7 μ μ' → Bst T' B' → B' < 4000000 → Q B' μ') : RMl sc (d + 3) 10009 [rfc 10 0, rfc 9 a, rfn, .inl s, .inr (.inl B)] (t, 0, 0) μ Q := by
  have wa := hC.1 a ha ta
  have wb := wy1_bd (g := μ 9) wa.1 hp hq
  have sb := sqw_bd wb
  refine m_10009 (sp_unfold1 wa.1 hp hq hs fun μ1 F1 r0 r3 r1 => ?_)
  have e9 : μ1 9 = μ 9 := F1.fc.c (by decide) (by decide) (by decide)
  have e1 : μ1 1 = μ 1 := F1.fc.c (by decide) (by decide) (by decide)
  have C1 := hC.fc F1.fc
  rw [lc_eq, lc_lt]
  have R : (B = -1 ∨ sqw (wy1 (μ 9) px py qx qy a) < B) → R_10009 sc (d + 2) (PJ t Q) t 28 [rfc 10 0, rfc 9 a, rfn, .inl s, .inr (.inl B), vx, .inr (.inl (sqw (wy1 (μ 9) px py qx qy a))), vx, vx] [] μ1 := by
    intro l
    refine L10009 (K := K1 (μ 9) (μ 1 0 8) s px py qx qy a) (O := Op1 (μ1 9) (wy1 (μ 9) px py qx qy a) a) (l := lvl (μ 1 0 8) s (sqw (wy1 (μ 9) px py qx qy a)) (μ 9 a 4)) (by rw [e9]; exact Iff.rfl) (fun Q' y z => sp_isOpen1 (fun k hk h5 => (C1.1 k hk h5).1) (C1.1 a ha (by rw [e9]; exact ta)).1 wb r0 r3 (by rw [e9]; exact r1) (fun o μ' F _ => y o μ' F) z) (fun μ' Q' F y => ?_) (fun k μ' F => PJ_mk (h μ' _ (F1.f7.trans F.f7) (hB.y e sb.1 k l) (by omega))) (fun k μ' F => PJ_mk (h μ' B (F1.f7.trans F.f7) (hB.n e k) hB2))
    have e12 : μ' 1 = μ 1 := (F.fc.c (by decide) (by decide) (by decide)).trans e1
    have e92 : μ' 9 = μ 9 := (F.fc.c (by decide) (by decide) (by decide)).trans e9
    exact sp_loud1 sb.1 (by omega) (by rw [e12]; have := hC.2.2; omega) bs (by rw [e92]; exact wa.2) (by rw [e12, e92]; exact y)
  exact ⟨fun c => R (Or.inl c), fun c => ⟨fun c2 => R (Or.inr c2), fun c2 => h μ1 B F1.f7 (hB.o e (by omega)) hB2⟩⟩
theorem sp_shorter2 {sc : Scr} {d t : Nat} {μ : Mem} {Q : Int → Mem → Prop} {px py qx qy s B : Int} {a b : Nat} {T T' : Int → Prop} (ha : a < 9) (ta : μ 9 a 5 ≠ 0) (hb : b < 9) (tb : μ 9 b 5 ≠ 0) (hC : CO μ) (hp : Pl px py) (hq : Pl qx qy) (hs : Spn μ px py qx qy) (bs : 0 ≤ s ∧ s ≤ 99) (hB : Bst T B) (hB2 : B < 4000000)
    (e : ∀ x, T' x ↔ T x ∨ (K2 (μ 9) (μ 1 0 8) s px py qx qy a b ∧ x = sqw (wy2 (μ 9) px py qx qy a b))) (h : ∀ μ' B', F7 μ μ' → Bst T' B' → B' < 4000000 → Q B' μ') : RMl sc (d + 3) 10009 [rfc 10 0, rfc 9 a, rfc 9 b, .inl s, .inr (.inl B)] (t, 0, 0) μ Q := by
  have wa := hC.1 a ha ta
  have wb' := hC.1 b hb tb
  have wb := wy2_bd (g := μ 9) wa.1 wb'.1 hp hq
  have sb := sqw_bd wb
  refine m_10009 (sp_unfold2 wa.1 wb'.1 hp hq hs fun μ1 F1 r0 r3 r2 r1 => ?_)
  have e9 : μ1 9 = μ 9 := F1.fc.c (by decide) (by decide) (by decide)
  have e1 : μ1 1 = μ 1 := F1.fc.c (by decide) (by decide) (by decide)
  have C1 := hC.fc F1.fc
  rw [lc_eq, lc_lt]
  have R : (B = -1 ∨ sqw (wy2 (μ 9) px py qx qy a b) < B) → R_10009 sc (d + 2) (PJ t Q) t 28 [rfc 10 0, rfc 9 a, rfc 9 b, .inl s, .inr (.inl B), vx, .inr (.inl (sqw (wy2 (μ 9) px py qx qy a b))), vx, vx] [] μ1 := by
    intro l
    refine L10009 (K := K2 (μ 9) (μ 1 0 8) s px py qx qy a b) (O := Op2 (μ1 9) (wy2 (μ 9) px py qx qy a b) a b) (l := lvl (μ 1 0 8) s (sqw (wy2 (μ 9) px py qx qy a b)) (μ 9 a 4 + μ 9 b 4)) (by rw [e9]; exact Iff.rfl) (fun Q' y z => sp_isOpen2 (fun k hk h5 => (C1.1 k hk h5).1) (C1.1 a ha (by rw [e9]; exact ta)).1 (C1.1 b hb (by rw [e9]; exact tb)).1 wb r0 r3 (by rw [e9]; exact r2) (by rw [e9]; exact r1) (fun o μ' F _ _ => y o μ' F) z) (fun μ' Q' F y => ?_) (fun k μ' F => PJ_mk (h μ' _ (F1.f7.trans F.f7) (hB.y e sb.1 k l) (by omega))) (fun k μ' F => PJ_mk (h μ' B (F1.f7.trans F.f7) (hB.n e k) hB2))
    have e12 : μ' 1 = μ 1 := (F.fc.c (by decide) (by decide) (by decide)).trans e1
    have e92 : μ' 9 = μ 9 := (F.fc.c (by decide) (by decide) (by decide)).trans e9
    exact sp_loud2 sb.1 (by omega) (by rw [e12]; have := hC.2.2; omega) bs (by rw [e92]; exact wa.2) (by rw [e92]; exact wb'.2) (by rw [e12, e92]; exact y)
  exact ⟨fun c => R (Or.inl c), fun c => ⟨fun c2 => R (Or.inr c2), fun c2 => h μ1 B F1.f7 (hB.o e (by omega)) hB2⟩⟩
