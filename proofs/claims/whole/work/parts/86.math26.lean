/-! MATHEMATICS, 26: who is in the list -/
def Mm (L : Lst) (S : E4 → Prop) : Prop := (∀ i, i < L.2 → S (L.1 i)) ∧ ∀ e, S e → ∃ i, i < L.2 ∧ L.1 i = e
theorem Mm.add {L : Lst} {S : E4 → Prop} (h : Mm L S) (e : E4) : Mm (addE L e) (fun x => S x ∨ x = e) := by
  constructor
  · intro i hi
    have hi2 : i ≤ L.2 := by
      unfold addE at hi
      simp only [] at hi
      omega
    show S (insE L.1 e L.2 i) ∨ insE L.1 e L.2 i = e
    rcases insE_m L.1 e hi2 with c | ⟨j, hj, c⟩
    · exact Or.inr c
    · rw [c]
      exact Or.inl (h.1 j hj)
  · intro x hx
    rcases hx with hx | hx
    · obtain ⟨j, hj, rfl⟩ := h.2 x hx
      obtain ⟨i, hi, e'⟩ := insE_o L.1 e hj
      exact ⟨i, Nat.lt_succ_of_le hi, e'⟩
    · obtain ⟨i, hi, e'⟩ := insE_e L.1 e L.2
      exact ⟨i, Nat.lt_succ_of_le hi, e'.trans hx.symm⟩
theorem Mm.c {L : Lst} {S S' : E4 → Prop} (h : Mm L S) (e : ∀ x, S x ↔ S' x) : Mm L S' := ⟨fun i hi => (e _).mp (h.1 i hi), fun x hx => h.2 x ((e x).mpr hx)⟩
theorem Mm.ic {L : Lst} {S : E4 → Prop} {p : Prop} {e : E4} (h : Mm L S) : Mm (ic p (addE L e) L) (fun x => S x ∨ (p ∧ x = e)) := by
  by_cases c : p
  · rw [ic_t c]
    exact (h.add e).c fun x => ⟨fun z => z.elim Or.inl fun y => Or.inr ⟨c, y⟩, fun z => z.elim Or.inl fun y => Or.inr y.2⟩
  · rw [ic_f c]
    exact h.c fun x => ⟨Or.inl, fun z => z.elim (fun y => y) fun y => absurd y.1 c⟩
def K0 (g : Gf) (fall s px py qx qy : Int) : Prop := Op0 g (wy0 px py qx qy) ∧ 1 ≤ lvl fall s (sqw (wy0 px py qx qy)) 0
def K1 (g : Gf) (fall s px py qx qy : Int) (a : Nat) : Prop := Op1 g (wy1 g px py qx qy a) a ∧ 1 ≤ lvl fall s (sqw (wy1 g px py qx qy a)) (g a 4)
def K2 (g : Gf) (fall s px py qx qy : Int) (a b : Nat) : Prop := Op2 g (wy2 g px py qx qy a b) a b ∧ 1 ≤ lvl fall s (sqw (wy2 g px py qx qy a b)) (g a 4 + g b 4)
def C0 (g : Gf) (pace fall s px py qx qy : Int) (e : E4) : Prop := K0 g fall s px py qx qy ∧ e = en pace fall s (sqw (wy0 px py qx qy)) 0 0
def C1 (g : Gf) (pace fall s px py qx qy : Int) (a : Nat) (e : E4) : Prop := K1 g fall s px py qx qy a ∧ e = en pace fall s (sqw (wy1 g px py qx qy a)) (g a 4) (10 + (a : Int))
def C2 (g : Gf) (pace fall s px py qx qy : Int) (a b : Nat) (e : E4) : Prop := K2 g fall s px py qx qy a b ∧ e = en pace fall s (sqw (wy2 g px py qx qy a b)) (g a 4 + g b 4) ((100 + (10 * (a : Int))) + (b : Int))
theorem Mm_in {g : Gf} {pace fall s px py qx qy : Int} {a : Nat} {L : Lst} {S : E4 → Prop} (h : Mm L S) : ∀ b, Mm (inL g pace fall s px py qx qy a b L) (fun e => S e ∨ ∃ c, c < b ∧ c ≠ a ∧ g c 5 ≠ 0 ∧ C2 g pace fall s px py qx qy a c e)
  | 0 => h.c fun x => ⟨Or.inl, fun z => z.elim (fun y => y) fun ⟨c, hc, _⟩ => absurd hc (by omega)⟩
  | b + 1 => by
    have ih := Mm_in (g := g) (pace := pace) (fall := fall) (s := s) (px := px) (py := py) (qx := qx) (qy := qy) (a := a) h b
    rw [inL_s]
    by_cases c : b = a ∨ g b 5 = 0
    · rw [if_pos c]
      refine ih.c fun x => ⟨fun z => z.elim Or.inl fun ⟨c', h1, h2⟩ => Or.inr ⟨c', by omega, h2⟩, fun z => z.elim Or.inl fun ⟨c', h1, h2, h3, h4⟩ => Or.inr ⟨c', ?_, h2, h3, h4⟩⟩
      by_cases q : c' = b
      · subst q
        exact absurd c (by omega)
      · omega
    · rw [if_neg c]
      unfold st2
      refine ih.ic.c fun x => ⟨fun z => ?_, fun z => ?_⟩
      · rcases z with (z | ⟨c', h1, h2⟩) | z
        · exact Or.inl z
        · exact Or.inr ⟨c', by omega, h2⟩
        · exact Or.inr ⟨b, by omega, by omega, by omega, z⟩
      · rcases z with z | ⟨c', h1, h2, h3, h4⟩
        · exact Or.inl (Or.inl z)
        · by_cases q : c' = b
          · subst q
            exact Or.inr h4
          · exact Or.inl (Or.inr ⟨c', by omega, h2, h3, h4⟩)
def Ca (g : Gf) (pace fall s px py qx qy : Int) (a : Nat) (e : E4) : Prop := C1 g pace fall s px py qx qy a e ∨ ∃ c, c < 9 ∧ c ≠ a ∧ g c 5 ≠ 0 ∧ C2 g pace fall s px py qx qy a c e
def Cc (g : Gf) (pace fall s px py qx qy : Int) (e : E4) : Prop := C0 g pace fall s px py qx qy e ∨ ∃ a, a < 9 ∧ g a 5 ≠ 0 ∧ Ca g pace fall s px py qx qy a e
theorem Mm_ou {g : Gf} {pace fall s px py qx qy : Int} : ∀ a, Mm (ouL g pace fall s px py qx qy a) (fun e => C0 g pace fall s px py qx qy e ∨ ∃ c, c < a ∧ g c 5 ≠ 0 ∧ Ca g pace fall s px py qx qy c e)
  | 0 => by
    have h : Mm ((fun _ => (0, 0, 0, 0), 0) : Lst) (fun _ => False) := ⟨fun i hi => absurd hi (by simp), fun e he => he.elim⟩
    refine (h.ic (p := (Op0 g (wy0 px py qx qy) ∧ 1 ≤ lvl fall s (sqw (wy0 px py qx qy)) 0)) (e := en pace fall s (sqw (wy0 px py qx qy)) 0 0)).c fun x => ⟨fun z => z.elim (fun y => y.elim) Or.inl, fun z => z.elim (fun y => Or.inr y) fun ⟨c, hc, _⟩ => absurd hc (by omega)⟩
  | a + 1 => by
    have ih := Mm_ou (g := g) (pace := pace) (fall := fall) (s := s) (px := px) (py := py) (qx := qx) (qy := qy) a
    rw [ouL_s]
    by_cases c : g a 5 = 0
    · rw [if_pos c]
      refine ih.c fun x => ⟨fun z => z.elim Or.inl fun ⟨c', h1, h2⟩ => Or.inr ⟨c', by omega, h2⟩, fun z => z.elim Or.inl fun ⟨c', h1, h2, h3⟩ => Or.inr ⟨c', ?_, h2, h3⟩⟩
      by_cases q : c' = a
      · subst q
        exact absurd c h2
      · omega
    · rw [if_neg c]
      have h1 := ih.ic (p := (Op1 g (wy1 g px py qx qy a) a ∧ 1 ≤ lvl fall s (sqw (wy1 g px py qx qy a)) (g a 4))) (e := en pace fall s (sqw (wy1 g px py qx qy a)) (g a 4) (10 + (a : Int)))
      refine (Mm_in h1 9).c fun x => ⟨fun z => ?_, fun z => ?_⟩
      · rcases z with ((z | ⟨c', h1, h2⟩) | z) | z
        · exact Or.inl z
        · exact Or.inr ⟨c', by omega, h2⟩
        · exact Or.inr ⟨a, by omega, c, Or.inl z⟩
        · exact Or.inr ⟨a, by omega, c, Or.inr z⟩
      · rcases z with z | ⟨c', h1, h2, h3⟩
        · exact Or.inl (Or.inl (Or.inl z))
        · by_cases q : c' = a
          · subst q
            exact h3.elim (fun y => Or.inl (Or.inr y)) Or.inr
          · exact Or.inl (Or.inl (Or.inr ⟨c', by omega, h2, h3⟩))
theorem Mm_rets (g : Gf) (pace fall s px py qx qy : Int) : Mm (rets g pace fall s px py qx qy) (Cc g pace fall s px py qx qy) := Mm_ou 9
theorem Srt_rets (g : Gf) (pace fall s px py qx qy : Int) : Srt (rets g pace fall s px py qx qy) := (ouL_n 9 (Nat.le_refl _)).2.1
theorem rets_le (g : Gf) (pace fall s px py qx qy : Int) : (rets g pace fall s px py qx qy).2 ≤ 82 := (ouL_n 9 (Nat.le_refl _)).2.2
/-- the first sound; the first that is not straight -/
def fstT (L : Lst) : Int := if L.2 = 0 then -2 else (L.1 0).2.1
def echG (f : Nat → E4) : Nat → Nat → Int
  | 0, _ => -2
  | n + 1, i => if (f i).1 ≠ 0 then (f i).2.1 else echG f n (i + 1)
def ech (L : Lst) : Int := echG L.1 L.2 0
/-- the squares of the ways that come: with the straight one, without it -/
def Tq (g : Gf) (fall s px py qx qy : Int) (n : Nat) (x : Int) : Prop := ∃ a, a < n ∧ g a 5 ≠ 0 ∧ K1 g fall s px py qx qy a ∧ x = sqw (wy1 g px py qx qy a)
def Tp (g : Gf) (fall s px py qx qy : Int) (a n : Nat) (x : Int) : Prop := ∃ b, b < n ∧ b ≠ a ∧ g b 5 ≠ 0 ∧ K2 g fall s px py qx qy a b ∧ x = sqw (wy2 g px py qx qy a b)
def Tpp (g : Gf) (fall s px py qx qy : Int) (n : Nat) (x : Int) : Prop := ∃ a, a < n ∧ g a 5 ≠ 0 ∧ Tp g fall s px py qx qy a 9 x
def Tns (g : Gf) (fall s px py qx qy : Int) (x : Int) : Prop := Tq g fall s px py qx qy 9 x ∨ Tpp g fall s px py qx qy 9 x
def Tal (g : Gf) (fall s px py qx qy : Int) (x : Int) : Prop := (K0 g fall s px py qx qy ∧ x = sqw (wy0 px py qx qy)) ∨ Tns g fall s px py qx qy x
/-- the least of them, -1 without any -/
def Bst (T : Int → Prop) (B : Int) : Prop := (B = -1 ∧ ∀ x, ¬ T x) ∨ (0 ≤ B ∧ T B ∧ ∀ x, T x → B ≤ x)
theorem tmv_mono {p a b : Int} (hp : 1 ≤ p) (h : a ≤ b) : tmv p a ≤ tmv p b := Int.ediv_le_ediv (by omega) (rt_mono (by omega))
theorem tmv_nn {p a : Int} (hp : 1 ≤ p) : 0 ≤ tmv p a := Int.ediv_nonneg (rt_nn _) (by omega)
theorem Srt_t {L : Lst} (h : Srt L) {i j : Nat} (hij : i ≤ j) (hj : j < L.2) : (L.1 i).2.1 ≤ (L.1 j).2.1 := by
  by_cases c : i = j
  · rw [c]; exact Int.le_refl _
  · have := h i j (by omega) hj
    unfold behE at this
    omega
theorem Cc_T {g : Gf} {pace fall s px py qx qy : Int} {e : E4} (h : Cc g pace fall s px py qx qy e) : ∃ x, Tal g fall s px py qx qy x ∧ (e.1 ≠ 0 → Tns g fall s px py qx qy x) ∧ e.2.1 = tmv pace x := by
  rcases h with ⟨h, rfl⟩ | ⟨a, ha, ta, ⟨h, rfl⟩ | ⟨b, hb, hab, tb, h, rfl⟩⟩
  · exact ⟨_, Or.inl ⟨h, rfl⟩, fun z => absurd rfl z, rfl⟩
  · have : Tns g fall s px py qx qy (sqw (wy1 g px py qx qy a)) := Or.inl ⟨a, ha, ta, h, rfl⟩
    exact ⟨_, Or.inr this, fun _ => this, rfl⟩
  · have : Tns g fall s px py qx qy (sqw (wy2 g px py qx qy a b)) := Or.inr ⟨a, ha, ta, b, hb, hab, tb, h, rfl⟩
    exact ⟨_, Or.inr this, fun _ => this, rfl⟩
theorem Tn_C {g : Gf} {pace fall s px py qx qy x : Int} (h : Tns g fall s px py qx qy x) : ∃ e, Cc g pace fall s px py qx qy e ∧ e.1 ≠ 0 ∧ e.2.1 = tmv pace x := by
  rcases h with ⟨a, ha, ta, k, rfl⟩ | ⟨a, ha, ta, b, hb, hab, tb, k, rfl⟩
  · exact ⟨_, Or.inr ⟨a, ha, ta, Or.inl ⟨k, rfl⟩⟩, by unfold en; simp only []; omega, rfl⟩
  · exact ⟨_, Or.inr ⟨a, ha, ta, Or.inr ⟨b, hb, hab, tb, k, rfl⟩⟩, by unfold en; simp only []; omega, rfl⟩
theorem Ta_C {g : Gf} {pace fall s px py qx qy x : Int} (h : Tal g fall s px py qx qy x) : ∃ e, Cc g pace fall s px py qx qy e ∧ e.2.1 = tmv pace x := by
  rcases h with ⟨k, rfl⟩ | h
  · exact ⟨_, Or.inl ⟨k, rfl⟩, rfl⟩
  · obtain ⟨e, h1, _, h3⟩ := Tn_C (pace := pace) h
    exact ⟨e, h1, h3⟩
theorem fst_eq {g : Gf} {pace fall s px py qx qy B : Int} (hp : 1 ≤ pace) (hB : Bst (Tal g fall s px py qx qy) B) : (if B < 0 then -2 else tmv pace B) = fstT (rets g pace fall s px py qx qy) := by
  have m := Mm_rets g pace fall s px py qx qy
  have hS := Srt_rets g pace fall s px py qx qy
  unfold fstT
  rcases hB with ⟨rfl, hn⟩ | ⟨h0, hT, hle⟩
  · rw [if_pos (by decide)]
    by_cases c : (rets g pace fall s px py qx qy).2 = 0
    · rw [if_pos c]
    · obtain ⟨x, hx, _⟩ := Cc_T (m.1 0 (by omega))
      exact absurd hx (hn x)
  · rw [if_neg (by omega)]
    obtain ⟨e, he, et⟩ := Ta_C (pace := pace) hT
    obtain ⟨i, hi, rfl⟩ := m.2 e he
    rw [if_neg (by omega)]
    obtain ⟨x, hx, _, ex⟩ := Cc_T (m.1 0 (by omega))
    have a1 := Srt_t hS (Nat.zero_le i) hi
    have a2 := tmv_mono hp (hle x hx)
    omega
theorem echG_s {f : Nat → E4} {N B : Int} : ∀ (n i : Nat), (∀ j, i ≤ j → j < i + n → (f j).1 = 0) → echG f n i = -2
  | 0, i, _ => rfl
  | n + 1, i, h => by
    unfold echG
    rw [if_neg (fun z => z (h i (Nat.le_refl _) (by omega)))]
    exact echG_s (N := N) (B := B) n (i + 1) fun j h1 h2 => h j (by omega) (by omega)
theorem echG_m {f : Nat → E4} : ∀ (n i k : Nat), i ≤ k → k < i + n → (f k).1 ≠ 0 → (∀ a b, i ≤ a → a ≤ b → b < i + n → (f a).2.1 ≤ (f b).2.1) → ∃ j, j < i + n ∧ i ≤ j ∧ (f j).1 ≠ 0 ∧ echG f n i = (f j).2.1 ∧ (f j).2.1 ≤ (f k).2.1
  | 0, i, k, h1, h2, _, _ => absurd h2 (by omega)
  | n + 1, i, k, h1, h2, h3, h4 => by
    unfold echG
    by_cases c : (f i).1 ≠ 0
    · rw [if_pos c]
      exact ⟨i, by omega, Nat.le_refl _, c, rfl, h4 i k (Nat.le_refl _) h1 h2⟩
    · rw [if_neg c]
      have : i ≠ k := fun z => c (by rw [z]; exact h3)
      obtain ⟨j, j1, j2, j3⟩ := echG_m n (i + 1) k (by omega) (by omega) h3 fun a b x y z => h4 a b (by omega) y (by omega)
      exact ⟨j, by omega, by omega, j3⟩
theorem ech_eq {g : Gf} {pace fall s px py qx qy B : Int} (hp : 1 ≤ pace) (hB : Bst (Tns g fall s px py qx qy) B) : (if B < 0 then -2 else tmv pace B) = ech (rets g pace fall s px py qx qy) := by
  have m := Mm_rets g pace fall s px py qx qy
  have hS := Srt_rets g pace fall s px py qx qy
  unfold ech
  rcases hB with ⟨rfl, hn⟩ | ⟨h0, hT, hle⟩
  · rw [if_pos (by decide)]
    refine (echG_s (N := 0) (B := 0) _ _ fun j _ hj => ?_).symm
    obtain ⟨x, _, hx, _⟩ := Cc_T (m.1 j (by omega))
    by_cases c : ((rets g pace fall s px py qx qy).1 j).1 = 0
    · exact c
    · exact absurd (hx c) (hn x)
  · rw [if_neg (by omega)]
    obtain ⟨e, he, e0, et⟩ := Tn_C (pace := pace) hT
    obtain ⟨i, hi, rfl⟩ := m.2 e he
    obtain ⟨j, j1, _, j3, j4, j5⟩ := echG_m (f := (rets g pace fall s px py qx qy).1) (rets g pace fall s px py qx qy).2 0 i (Nat.zero_le _) (by omega) e0 fun a b _ h1 h2 => Srt_t hS h1 (by omega)
    obtain ⟨x, _, hx, ex⟩ := Cc_T (m.1 j (by omega))
    have a2 := tmv_mono hp (hle x (hx j3))
    omega
