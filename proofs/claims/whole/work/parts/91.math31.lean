/-! MATHEMATICS, 31: class and reference stand alike -/
abbrev lvM (μ : Mem) : Nat := (μ 11 0 18).toNat
abbrev ix6 (μ : Mem) (i : Nat) : Nat := ((6 * (μ 11 0 18)) + (i : Int)).toNat
abbrev ix9 (μ : Mem) (i : Nat) : Nat := ((9 * (μ 11 0 18)) + (i : Int)).toNat
/-- walls -/
def SW (μ : Mem) : Prop := liv μ ∧ μ 48 0 (lvM μ) = μ 1 0 1 ∧ (0 ≤ μ 1 0 1 ∧ μ 1 0 1 ≤ 8)
  ∧ (∀ w : Nat, (w : Int) < μ 1 0 1 → (∀ k, k < 5 → μ 9 w k = gM μ w k) ∧ μ 9 w 5 = μ 54 0 (ix9 μ w) ∧ Wok μ w ∧ (0 ≤ μ 9 w 4 ∧ μ 9 w 4 ≤ 99))
  ∧ (∀ w : Nat, w < 9 → μ 1 0 1 ≤ (w : Int) → μ 9 w 5 = 0) ∧ μ 54 0 (ix9 μ 8) = 0 ∧ (∀ j, j < 18 → μ 54 0 j = 0 ∨ μ 54 0 j = 1)
/-- numbers of the valley -/
def SN (μ : Mem) : Prop := (μ 11 0 48 = μ 1 0 7 ∧ (1 ≤ μ 1 0 7 ∧ μ 1 0 7 ≤ 99)) ∧ (μ 69 0 (lvM μ) = μ 1 0 8 ∧ (1 ≤ μ 1 0 8 ∧ μ 1 0 8 ≤ 99)) ∧ (μ 70 0 (lvM μ) = μ 1 0 9 ∧ (0 ≤ μ 1 0 9 ∧ μ 1 0 9 ≤ 9999)) ∧ (μ 66 0 (lvM μ) = μ 1 0 5 ∧ (1 ≤ μ 1 0 5 ∧ μ 1 0 5 ≤ 40)) ∧ (μ 67 0 (lvM μ) = μ 1 0 6 ∧ (1 ≤ μ 1 0 6 ∧ μ 1 0 6 ≤ 40))
/-- folk: men, ears, bells -/
def Fk (μ : Mem) (o cm cx cy : Nat) : Prop := μ cm 0 (lvM μ) = μ 3 o 4 ∧ (0 ≤ μ 3 o 4 ∧ μ 3 o 4 ≤ 6) ∧ ∀ i : Nat, (i : Int) < μ 3 o 4 → (μ 27 o i = μ cx 0 (ix6 μ i) ∧ μ 28 o i = μ cy 0 (ix6 μ i)) ∧ (0 ≤ μ 27 o i ∧ μ 27 o i < μ 1 0 5) ∧ (0 ≤ μ 28 o i ∧ μ 28 o i < μ 1 0 6)
def SF (μ : Mem) : Prop := Fk μ 0 55 56 57 ∧ Fk μ 1 59 60 61 ∧ Fk μ 2 62 63 64 ∧ (∀ i : Nat, (i : Int) < μ 3 0 4 → μ 29 0 i = μ 58 0 (ix6 μ i) ∧ (1 ≤ μ 29 0 i ∧ μ 29 0 i ≤ 99)) ∧ (∀ i : Nat, (i : Int) < μ 3 2 4 → μ 29 2 i = 99 ∧ μ 30 2 i = μ 65 0 (ix6 μ i) ∧ (0 ≤ μ 30 2 i ∧ μ 30 2 i ≤ 9999))
/-- what is told: echoes, shouts -/
def Tk (μ : Mem) (o f cx cy cl ct : Nat) : Prop := μ 11 0 f = μ 3 o 4 ∧ (0 ≤ μ 3 o 4 ∧ μ 3 o 4 ≤ 20) ∧ ∀ i : Nat, (i : Int) < μ 3 o 4 → (μ 27 o i = μ cx 0 i ∧ μ 28 o i = μ cy 0 i ∧ μ 29 o i = μ cl 0 i ∧ μ 30 o i = μ ct 0 i) ∧ (1 ≤ μ 29 o i ∧ μ 29 o i ≤ 99)
def ST (μ : Mem) : Prop := Tk μ 3 71 79 80 81 82 ∧ Tk μ 4 80 85 86 87 88 ∧ (∀ i : Nat, (i : Int) < μ 3 3 4 → (0 ≤ μ 27 3 i ∧ μ 27 3 i < μ 1 0 5) ∧ (0 ≤ μ 28 3 i ∧ μ 28 3 i < μ 1 0 6)) ∧ (∀ i : Nat, (i : Int) < μ 3 4 4 → (-40 ≤ μ 27 4 i ∧ μ 27 4 i ≤ 40) ∧ (-40 ≤ μ 28 4 i ∧ μ 28 4 i ≤ 40))
/-- what is held -/
def SH (μ : Mem) : Prop := (∀ s, s < 3 → μ 6 s 3 = μ 90 0 s ∧ (μ 90 0 s = 0 ∨ μ 90 0 s = 1) ∧ (μ 90 0 s ≠ 0 → μ 6 s 2 = μ 93 0 s ∧ (1 ≤ μ 6 s 2 ∧ μ 6 s 2 ≤ 99) ∧ (0 ≤ μ 6 s 1 ∧ μ 6 s 1 < 256) ∧ ∀ w : Nat, (w : Int) < μ 1 0 1 → μ 35 s w = μ 91 0 (8 * s + w) ∧ (0 ≤ μ 35 s w ∧ μ 35 s w ≤ 99) ∧ (andv (shrv (μ 6 s 1) (w : Int)) 1 = 1 ↔ μ 92 0 (8 * s + w) = 1))) ∧ ∀ j, j < 24 → μ 92 0 j = 0 ∨ μ 92 0 j = 1
/-- the tape, the fault's place, the words -/
def kwd : Nat → Int
  | 0 => 453774
  | 1 => 583
  | 2 => 126893
  | 3 => 9518
  | 4 => 3690
  | 5 => 43347
  | 6 => 9520
  | 7 => 315743
  | 8 => 119163
  | _ => 5146
def SP (μ : Mem) : Prop := μ 0 0 11 = μ 11 0 17 ∧ μ 8 0 1 = μ 11 0 2 ∧ (0 ≤ μ 8 0 1 ∧ μ 8 0 1 ≤ 2000) ∧ (∀ i : Nat, (i : Int) < μ 8 0 1 → μ 20 0 i = μ 40 0 i ∧ (-128 ≤ μ 20 0 i ∧ μ 20 0 i ≤ 127)) ∧ ∀ k, k < 10 → μ 46 0 k = kwd k
def Sim (μ : Mem) : Prop := SW μ ∧ SN μ ∧ SF μ ∧ ST μ ∧ SH μ ∧ SP μ
/-- what a question may change -/
def Kp (c : Nat) : Prop := c = 0 ∨ c = 1 ∨ c = 3 ∨ c = 6 ∨ c = 8 ∨ c = 20 ∨ (27 ≤ c ∧ c ≤ 30) ∨ c = 35 ∨ c = 40 ∨ c = 46 ∨ c = 48 ∨ (54 ≤ c ∧ c ≤ 72) ∨ (79 ≤ c ∧ c ≤ 82) ∨ (85 ≤ c ∧ c ≤ 88) ∨ (90 ≤ c ∧ c ≤ 93)
def FW (μ μ' : Mem) : Prop := (∀ c, Kp c → μ' c = μ c) ∧ (∀ k, k ≤ 48 ∨ k = 71 ∨ k = 80 → μ' 11 0 k = μ 11 0 k) ∧ (∀ w, w < 8 → μ' 9 w = μ 9 w) ∧ μ' 9 8 5 = μ 9 8 5 ∧ ∀ c i j, 49 ≤ c ∧ c ≤ 53 → j ≠ 8 → j ≠ 17 → μ' c i j = μ c i j
theorem FW.rfl {μ : Mem} : FW μ μ := ⟨fun _ _ => Eq.refl _, fun _ _ => Eq.refl _, fun _ _ => Eq.refl _, Eq.refl _, fun _ _ _ _ _ _ => Eq.refl _⟩
theorem FW.trans {μ μ' μ'' : Mem} (h : FW μ μ') (h2 : FW μ' μ'') : FW μ μ'' := ⟨fun c k => (h2.1 c k).trans (h.1 c k), fun c k => (h2.2.1 c k).trans (h.2.1 c k), fun c k => (h2.2.2.1 c k).trans (h.2.2.1 c k), h2.2.2.2.1.trans h.2.2.2.1, fun c i j a b e => (h2.2.2.2.2 c i j a b e).trans (h.2.2.2.2 c i j a b e)⟩
theorem Fc.fw {μ μ' : Mem} (h : Fc μ μ') : FW μ μ' := by
  refine ⟨fun c k => ?_, fun k hk => h 11 0 k (by omega) (by decide) (by omega), fun w hw => ?_, h 9 8 5 (by omega) (by decide) (by omega), fun c i j a _ _ => h c i j (by omega) (by omega) (by omega)⟩
  · unfold Kp at k
    exact h.c (by omega) (by omega) (by omega)
  · funext k
    exact h 9 w k (by omega) (by decide) (by omega)
theorem F8.fw {μ μ' : Mem} (h : F8 μ μ') : FW μ μ' := by
  refine ⟨fun c k => ?_, fun k hk => h 11 0 k (by decide), fun w hw => ?_, h 9 8 5 (by decide), fun c i j a _ _ => h c i j (by omega)⟩
  · unfold Kp at k
    exact h.c (by omega)
  · funext k
    exact h 9 w k (by decide)
theorem Fm.fw {μ μ' : Mem} (h : Fm 49 μ μ') : FW μ μ' := by
  refine ⟨fun c k => ?_, fun k hk => h.f (by omega), fun w hw => ?_, h 9 8 5 (by omega) (by omega), fun c i j a _ _ => h c i j (by omega) (by omega)⟩
  · unfold Kp at k
    exact h.c (by omega) (by omega)
  · funext k
    exact h 9 w k (by omega) (by omega)
theorem SW.fw {μ μ' : Mem} (h : FW μ μ') (hS : SW μ) : SW μ' := by
  obtain ⟨h1, h2, h3, h4, h5⟩ := h
  obtain ⟨l, n, n8, wl', wn, g8, fl⟩ := hS
  have l' := l
  unfold liv at l'
  have e18 : μ' 11 0 18 = μ 11 0 18 := h2 18 (by decide)
  have e48 : μ' 48 = μ 48 := h1 48 (by unfold Kp; omega)
  have e54 : μ' 54 = μ 54 := h1 54 (by unfold Kp; omega)
  have e1 : μ' 1 = μ 1 := h1 1 (by unfold Kp; omega)
  unfold SW liv lvM ix9
  rw [e18, e48, e54, e1]
  refine ⟨l, n, n8, fun w hw => ?_, fun w hw hw2 => ?_, g8, fl⟩
  · obtain ⟨a, b, c, d⟩ := wl' w hw
    unfold Wok
    rw [h3 w (by omega)]
    refine ⟨fun k hk => ?_, b, c, d⟩
    rw [a k hk, gM_k _ _ hk, gM_k _ _ hk, e18]
    exact (h5 _ _ _ (by omega) (by omega) (by omega)).symm
  · by_cases q : w = 8
    · subst q
      rw [h4]
      exact wn 8 hw hw2
    · rw [h3 w (by omega)]
      exact wn w hw hw2
theorem SN.fw {μ μ' : Mem} (h : FW μ μ') (hS : SN μ) : SN μ' := by
  unfold SN lvM at *
  rw [h.2.1 18 (by decide), h.2.1 48 (by decide), h.1 1 (by unfold Kp; omega), h.1 69 (by unfold Kp; omega), h.1 70 (by unfold Kp; omega), h.1 66 (by unfold Kp; omega), h.1 67 (by unfold Kp; omega)]
  exact hS
theorem Fk.fw {μ μ' : Mem} {o cm cx cy : Nat} (h : FW μ μ') (h1 : 54 ≤ cm ∧ cm ≤ 72) (h2 : 54 ≤ cx ∧ cx ≤ 72) (h3 : 54 ≤ cy ∧ cy ≤ 72) (hS : Fk μ o cm cx cy) : Fk μ' o cm cx cy := by
  unfold Fk lvM ix6 at *
  rw [h.2.1 18 (by decide), h.1 1 (by unfold Kp; omega), h.1 3 (by unfold Kp; omega), h.1 27 (by unfold Kp; omega), h.1 28 (by unfold Kp; omega), h.1 cm (by unfold Kp; omega), h.1 cx (by unfold Kp; omega), h.1 cy (by unfold Kp; omega)]
  exact hS
theorem SF.fw {μ μ' : Mem} (h : FW μ μ') (hS : SF μ) : SF μ' := by
  obtain ⟨a, b, c, d, e⟩ := hS
  refine ⟨a.fw h (by decide) (by decide) (by decide), b.fw h (by decide) (by decide) (by decide), c.fw h (by decide) (by decide) (by decide), ?_, ?_⟩
  · unfold ix6 at *
    rw [h.2.1 18 (by decide), h.1 3 (by unfold Kp; omega), h.1 29 (by unfold Kp; omega), h.1 58 (by unfold Kp; omega)]
    exact d
  · unfold ix6 at *
    rw [h.2.1 18 (by decide), h.1 3 (by unfold Kp; omega), h.1 29 (by unfold Kp; omega), h.1 30 (by unfold Kp; omega), h.1 65 (by unfold Kp; omega)]
    exact e
theorem Tk.fw {μ μ' : Mem} {o f cx cy cl ct : Nat} (h : FW μ μ') (hf : f = 71 ∨ f = 80) (h1 : Kp cx) (h2 : Kp cy) (h3 : Kp cl) (h4 : Kp ct) (hS : Tk μ o f cx cy cl ct) : Tk μ' o f cx cy cl ct := by
  unfold Tk at *
  rw [h.2.1 f (by omega), h.1 3 (by unfold Kp; omega), h.1 27 (by unfold Kp; omega), h.1 28 (by unfold Kp; omega), h.1 29 (by unfold Kp; omega), h.1 30 (by unfold Kp; omega), h.1 cx h1, h.1 cy h2, h.1 cl h3, h.1 ct h4]
  exact hS
theorem ST.fw {μ μ' : Mem} (h : FW μ μ') (hS : ST μ) : ST μ' := by
  obtain ⟨a, b, c, d⟩ := hS
  refine ⟨a.fw h (by decide) (by unfold Kp; omega) (by unfold Kp; omega) (by unfold Kp; omega) (by unfold Kp; omega), b.fw h (by decide) (by unfold Kp; omega) (by unfold Kp; omega) (by unfold Kp; omega) (by unfold Kp; omega), ?_, ?_⟩
  · rw [h.1 3 (by unfold Kp; omega), h.1 27 (by unfold Kp; omega), h.1 28 (by unfold Kp; omega), h.1 1 (by unfold Kp; omega)]
    exact c
  · rw [h.1 3 (by unfold Kp; omega), h.1 27 (by unfold Kp; omega), h.1 28 (by unfold Kp; omega)]
    exact d
theorem SH.fw {μ μ' : Mem} (h : FW μ μ') (hS : SH μ) : SH μ' := by
  unfold SH at *
  rw [h.1 6 (by unfold Kp; omega), h.1 90 (by unfold Kp; omega), h.1 93 (by unfold Kp; omega), h.1 1 (by unfold Kp; omega), h.1 35 (by unfold Kp; omega), h.1 91 (by unfold Kp; omega), h.1 92 (by unfold Kp; omega)]
  exact hS
theorem SP.fw {μ μ' : Mem} (h : FW μ μ') (hS : SP μ) : SP μ' := by
  unfold SP at *
  rw [h.1 0 (by unfold Kp; omega), h.2.1 17 (by decide), h.2.1 2 (by decide), h.1 8 (by unfold Kp; omega), h.1 20 (by unfold Kp; omega), h.1 40 (by unfold Kp; omega), h.1 46 (by unfold Kp; omega)]
  exact hS
theorem Sim.fw {μ μ' : Mem} (h : FW μ μ') (hS : Sim μ) : Sim μ' := ⟨hS.1.fw h, hS.2.1.fw h, hS.2.2.1.fw h, hS.2.2.2.1.fw h, hS.2.2.2.2.1.fw h, hS.2.2.2.2.2.fw h⟩
