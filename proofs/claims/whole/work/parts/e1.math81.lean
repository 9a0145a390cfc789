/-! MATHEMATICS, 81: the reference reads a statement -/
theorem g2 {w : Int} {S : Nat} (h0 : S ≠ 0) (h : (S : Int) ≤ nmd w) (hs : 0 ≤ sid w ∧ 0 ≤ its w) (x : Int) : gO x w (S : Int) ↔ x = 2 := by unfold gO; omega
theorem g56 {w : Int} {S : Nat} (h0 : S ≠ 0) (h : nmd w < (S : Int) ∧ (S : Int) ≤ nmd w + sid w) (hs : 0 ≤ its w) (x : Int) : gO x w (S : Int) ↔ (x = 5 ∨ x = 6) := by unfold gO; omega
theorem g3 {w : Int} {S : Nat} (h0 : S ≠ 0) (h : nmd w + sid w < (S : Int) ∧ (S : Int) ≤ nmd w + sid w + its w) (hs : 0 ≤ sid w) (x : Int) : gO x w (S : Int) ↔ x = 3 := by unfold gO; omega
theorem g4 {w : Int} {S : Nat} (h0 : S ≠ 0) (h : nmd w + sid w + its w < (S : Int)) (hs : 0 ≤ sid w ∧ 0 ≤ its w) (x : Int) : gO x w (S : Int) ↔ x = 4 := by unfold gO; omega
theorem Pth.i {b : Nat → Int} {n u : Nat} {w : Int} {S : Nat} (hp : Pth b n u w S) (h0 : S ≠ 0) (h : 1 + nmd w + sid w ≤ (S : Int)) : (wiT b n u).1 = w ∧ (wiT b n u).2 = (S : Int) - 1 - nmd w - sid w := by
  obtain ⟨w7, sm, st, wi, wi0, wi1, kw, kg⟩ := hp.2.resolve_left h0
  exact ⟨wi, wi1 h⟩
theorem wrg_e {b : Nat → Int} {n u : Nat} {w i lo hi : Int} {S : Nat} (hp : Pth b n u w S) (h0 : S ≠ 0) (h : 1 + nmd w + sid w ≤ (S : Int)) (hi' : (S : Int) - 1 - nmd w - sid w = i) (hb : 0 ≤ 4 * (w - 7) + i ∧ 4 * (w - 7) + i < 32) (el : lst w i = lo) (eh : gst w i = hi) (h7 : ¬ (w = 7 ∧ i = 2)) : wrg b n (wiT b n u).1 (wiT b n u).2 u ↔ (tV b n u < lo ∨ hi < tV b n u) := by
  obtain ⟨e1, e2⟩ := hp.i h0 h
  rw [e1, e2, hi']
  unfold wrg
  rw [el, eh]
  constructor
  · rintro (z | z | z | z | z)
    · omega
    · omega
    · exact Or.inl z
    · exact Or.inr z
    · exact absurd ⟨z.1, z.2.1⟩ h7
  · rintro (z | z)
    · exact Or.inr (Or.inr (Or.inl z))
    · exact Or.inr (Or.inr (Or.inr (Or.inl z)))
theorem RS.x {μ μ' : Mem} {b : Nat → Int} {n u : Nat} {w : Int} {S : Nat} (h : RS μ b n w S u) (e : ∀ c, c = 11 ∨ (42 ≤ c ∧ c ≤ 47) ∨ c = 71 ∨ c = 72 → μ' c = μ c) : RS μ' b n w S u := by
  obtain ⟨hT, hA⟩ := h
  refine ⟨fun i hi hj => ?_, ?_⟩
  · have r := hT i hi hj
    unfold TkM at r ⊢
    rw [e 42 (by omega), e 43 (by omega), e 44 (by omega), e 45 (by omega)]
    exact r
  · rcases hA with hF | ⟨h13, h11, hO, hp, hws, hn, hpl⟩
    · left
      unfold Flt at *
      rw [e 11 (by omega)]
      exact hF
    · right
      refine ⟨by rw [e 11 (by omega)]; exact h13, by rw [e 11 (by omega)]; exact h11, hO, hp, hws.x (by rw [e 11 (by omega)]) (by rw [e 11 (by omega)]), hn.x (by rw [e 11 (by omega)]) (e 47 (by omega)), hpl.x (by rw [e 11 (by omega)]) (e 71 (by omega)) (e 72 (by omega))⟩
theorem RS.w {μ : Mem} {b : Nat → Int} {n u : Nat} {w : Int} {S c i k : Nat} {v : Int} (h : RS μ b n w S u) (hc : 48 ≤ c ∧ c ≤ 70) : RS (wr μ c i k v) b n w S u := h.x fun c' h' => wr_c (by omega)
/-- a side's own cells -/
def insd (sd : Int) (c k : Nat) : Prop := ((c = 48 ∨ c = 55 ∨ c = 59 ∨ c = 62 ∨ (66 ≤ c ∧ c ≤ 70)) ∧ (k : Int) = sd) ∨ ((49 ≤ c ∧ c ≤ 54) ∧ 9 * sd ≤ (k : Int) ∧ (k : Int) < 9 * sd + 9) ∨ (((56 ≤ c ∧ c ≤ 58) ∨ (60 ≤ c ∧ c ≤ 61) ∨ (63 ≤ c ∧ c ≤ 65)) ∧ 6 * sd ≤ (k : Int) ∧ (k : Int) < 6 * sd + 6)
def Fte (sd : Int) (μ μ' : Mem) : Prop := (∀ c i k, ¬ (c = 11 ∧ i = 0 ∧ (k = 11 ∨ (13 ≤ k ∧ k ≤ 16) ∨ k = 20 ∨ k = 45)) → ¬ (c = 47 ∨ c = 71 ∨ c = 72) → ¬ (i = 0 ∧ insd sd c k) → μ' c i k = μ c i k) ∧ ∀ k, μ' 54 0 k = μ 54 0 k ∨ μ' 54 0 k = 0 ∨ μ' 54 0 k = 1
theorem Fte.rfl' {sd : Int} {μ : Mem} : Fte sd μ μ := ⟨fun _ _ _ _ _ _ => rfl, fun _ => Or.inl rfl⟩
theorem Fte.trans {sd : Int} {μ μ' μ'' : Mem} (h : Fte sd μ μ') (h2 : Fte sd μ' μ'') : Fte sd μ μ'' := ⟨fun c i k a b e => (h2.1 c i k a b e).trans (h.1 c i k a b e), fun k => (h2.2 k).elim (fun z => by rw [z]; exact h.2 k) Or.inr⟩
theorem Fpm.te {sd : Int} {μ μ' : Mem} (h : Fpm μ μ') : Fte sd μ μ' := ⟨fun c i k a b _ => h c i k a b, fun k => Or.inl (h 54 0 k (by omega) (by decide))⟩
theorem Fte.w {sd : Int} {μ : Mem} {c k : Nat} {v : Int} (h : insd sd c k) (hv : c = 54 → v = 0 ∨ v = 1 := by first | exact fun z => absurd z (by decide) | exact fun _ => Or.inr rfl) : Fte sd μ (wr μ c 0 k v) := by
  refine ⟨fun c' i' k' _ _ e => if_neg fun z => ?_, fun k' => ?_⟩
  · obtain ⟨rfl, rfl, rfl⟩ := z
    exact e ⟨rfl, h⟩
  · by_cases z : 54 = c ∧ 0 = 0 ∧ k' = k
    · have e : wr μ c 0 k v 54 0 k' = v := if_pos z
      rw [e]
      exact Or.inr (hv z.1.symm)
    · exact Or.inl (if_neg z)
theorem Fte.fld {sd : Int} {μ μ' : Mem} (h : Fte sd μ μ') {k : Nat} (hk : ¬ (k = 11 ∨ (13 ≤ k ∧ k ≤ 16) ∨ k = 20 ∨ k = 45)) : μ' 11 0 k = μ 11 0 k := h.1 11 0 k (by omega) (by decide) (by unfold insd; omega)
/-- behind a statement -/
def RE (μ : Mem) (b : Nat → Int) (n : Nat) (sd : Int) (u : Nat) : Prop := TksM μ b n ∧ (Flt μ b n ∨ ((∃ w, AtV μ b n w 0 u u) ∧ LMa μ b n sd u))
theorem RS.flt {μ : Mem} {b : Nat → Int} {n u u' : Nat} {w sd : Int} {S : Nat} (h : RS μ b n w S u) (hf : μ 11 0 13 ≠ 0) : RE μ b n sd u' := ⟨h.1, h.2.elim Or.inl fun y => absurd y.1 hf⟩
theorem RS.atv {μ : Mem} {b : Nat → Int} {n u : Nat} {w : Int} {S : Nat} (h : RS μ b n w S u) (hf : μ 11 0 13 = 0) : AtV μ b n w S u u := h.2.elim (fun y => absurd y.1 (by omega)) id
theorem sp_man {sc : Scr} {d t : Nat} {μ : Mem} {Q : Mem → Prop} {b : Nat → Int} {n u : Nat} {sd : Int} (hR : RS μ b n 8 1 (u + 1)) (h19 : μ 11 0 19 = sd) (hs : sd = 0 ∨ sd = 1) (hL : LMa μ b n sd u) (hN : cS b n 8 u < 6) (h : ∀ μ', Fte sd μ μ' → RE μ' b n sd (u + 6) → Q μ') : RMv sc (d + 5) 11024 [rfc 11 0] (t, 0, 0) μ Q := by
  have e55 : μ 55 0 sd.toNat = ((cS b n 8 u : Nat) : Int) := hL.2.1.1
  have i6e : (i6 sd (cS b n 8 u) : Int) = 6 * sd + ((cS b n 8 u : Nat) : Int) := by unfold i6; omega
  have ins : ∀ c, 56 ≤ c ∧ c ≤ 58 → insd sd c (i6 sd (cS b n 8 u)) := fun c hc => by unfold insd; omega
  have insc : insd sd 55 sd.toNat := by unfold insd; omega
  refine m_11024 ?_
  rw [h19, e55]
  refine ⟨by omega, by omega, by omega, sp_named hR (by decide) (g2 (by decide) (by decide) (by decide)) fun μ1 F1 R1 => sp_onMap (d := d) R1 (by decide) (g3 (by decide) (by decide) (by decide)) (fun _ hp _ => wrg_e hp (by decide) (by decide) (i := 0) (by decide) (by decide) (by decide) (by decide) (by decide)) (fun hp k3 => ?_) (Or.inl rfl) (fun hp => ?_) fun v2 μ2 F2 R2 E2 => ⟨by omega, sp_onMap (d := d) (R2.w (by decide)) (by decide) (g3 (by decide) (by decide) (by decide)) (fun _ hp _ => wrg_e hp (by decide) (by decide) (i := 1) (by decide) (by decide) (by decide) (by decide) (by decide)) (fun hp k3 => ?_) (Or.inr rfl) (fun hp => ?_) fun v3 μ3 F3 R3 E3 => ⟨by omega, sp_number (d := d + 1) (R3.w (by decide)) (by decide) (g3 (by decide) (by decide) (by decide)) (fun _ hp _ => wrg_e hp (by decide) (by decide) (i := 2) (by decide) (by decide) (by decide) (by decide) (by decide)) (fun hp ip => ?_) fun v4 μ4 F4 R4 E4 => ⟨by omega, sp_semi (d := d + 1) (R4.w (by decide)) (by decide) (g4 (by decide) (by decide) (by decide)) fun μ5 F5 R5 E5 => ?_⟩⟩⟩⟩
  · exact ⟨k3, by rw [(hp.i (by decide) (by decide)).1]; decide, by rw [(hp.i (by decide) (by decide)).2]; decide⟩
  · rw [(hp.i (by decide) (by decide)).2, if_pos (by decide)]
  · exact ⟨k3, by rw [(hp.i (by decide) (by decide)).1]; decide, by rw [(hp.i (by decide) (by decide)).2]; decide⟩
  · rw [(hp.i (by decide) (by decide)).2, if_neg (by decide)]
  · exact absurd ip.2.2 (by rw [(hp.i (by decide) (by decide)).2]; decide)
  · have FF : Fte sd μ μ5 := ((((((F1.te.trans F2.te).trans (Fte.w (ins 56 (by decide)))).trans F3.te).trans (Fte.w (ins 57 (by decide)))).trans F4.te).trans (Fte.w (ins 58 (by decide)))).trans F5.te
    have e5 : EL μ5 (wr (wr (wr μ 56 0 (i6 sd (cS b n 8 u)) v2) 57 0 (i6 sd (cS b n 8 u)) v3) 58 0 (i6 sd (cS b n 8 u)) v4) := (((((((EL.p (M := μ) (fun _ _ _ => rfl) F1).p F2).w).p F3).w).p F4).w).p F5
    have e19 : μ5 11 0 19 = sd := by rw [FF.fld (by decide)]; exact h19
    have c55 : μ5 55 0 sd.toNat = ((cS b n 8 u : Nat) : Int) := by
      rw [e5 55 (by decide) (by decide), wr_c (by decide), wr_c (by decide), wr_c (by decide)]
      exact e55
    rw [e19, c55]
    refine ⟨fun z => h μ5 FF (R5.flt z), fun z => ⟨by omega, by omega, by omega, h _ (FF.trans (Fte.w insc)) ⟨(R5.w (c := 55) (by decide)).1, Or.inr ?_⟩⟩⟩
    have z' := Decidable.not_not.mp z
    obtain ⟨o5, k5, z4⟩ := E5 z'
    rw [wr_c (by decide)] at z4
    obtain ⟨v4e, p4, -, z3⟩ := E4 z4
    rw [wr_c (by decide)] at z3
    obtain ⟨v3e, p3, -, z2⟩ := E3 z3
    rw [wr_c (by decide)] at z2
    obtain ⟨v2e, p2, -, z1⟩ := E2 z2
    have p5 := ((R4.atv z4).2.2.2.1)
    obtain ⟨⟨y1, y2, y3, -⟩, yo⟩ := st_end (u := u) (L := 5) p5 (by decide) (by decide) k5
    obtain ⟨t7, t8, t9, t10⟩ := hL.t (μ' := wr (wr (wr (wr μ 56 0 (i6 sd (cS b n 8 u)) v2) 57 0 (i6 sd (cS b n 8 u)) v3) 58 0 (i6 sd (cS b n 8 u)) v4) 55 0 sd.toNat (((cS b n 8 u : Nat) : Int) + 1)) yo
    have oc : ∀ c, ¬ (55 ≤ c ∧ c ≤ 58) → (wr (wr (wr (wr μ 56 0 (i6 sd (cS b n 8 u)) v2) 57 0 (i6 sd (cS b n 8 u)) v3) 58 0 (i6 sd (cS b n 8 u)) v4) 55 0 sd.toNat (((cS b n 8 u : Nat) : Int) + 1)) c = μ c := fun c hc => by rw [wr_c (by omega), wr_c (by omega), wr_c (by omega), wr_c (by omega)]
    refine ⟨⟨8, (R5.w (c := 55) (by decide)).atv (by rw [wr_c (by decide)]; exact z')⟩, LMa.x ⟨t7 (by decide) (fun c hc => oc c (by omega)), ?_, t9 (by decide) (fun c hc => oc c (by omega)), t10 (by decide) (fun c hc => oc c (by omega)), ?_⟩ e5.w⟩
    · show MP _ sd 55 56 57 58 (cS b n 8 (u + 5 + 1)) _ _ _
      rw [y1]
      refine hL.2.1.add hs (by decide) (fun k hk => by rw [y3 k hk]) (fun k hk => by rw [y3 k hk]) (fun k hk => by rw [y3 k hk]) ?_ ?_ ?_
      · rw [y2, v2e]; rfl
      · rw [y2, v3e]; rfl
      · rw [y2, v4e]; rfl
    · have m := hL.2.2.2.2
      unfold MN at m ⊢
      rw [oc 66 (by decide), oc 67 (by decide), oc 68 (by decide), oc 69 (by decide), oc 70 (by decide)]
      show μ 66 0 sd.toNat = nS b n 11 2 20 (u + 5 + 1) ∧ μ 67 0 sd.toNat = nS b n 11 1 20 (u + 5 + 1) ∧ μ 68 0 sd.toNat = nS b n 12 1 10 (u + 5 + 1) ∧ μ 69 0 sd.toNat = nS b n 13 1 10 (u + 5 + 1) ∧ μ 70 0 sd.toNat = nS b n 14 1 100 (u + 5 + 1)
      rw [(yo 11 (by decide)).2.2, (yo 11 (by decide)).2.2, (yo 12 (by decide)).2.2, (yo 13 (by decide)).2.2, (yo 14 (by decide)).2.2]
      exact m
