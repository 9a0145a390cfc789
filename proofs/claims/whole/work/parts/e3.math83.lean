/-! MATHEMATICS, 83: the reference reads a wall -/
theorem sp_side {sc : Scr} {d t : Nat} {μ : Mem} {Q : Mem → Prop} {b : Nat → Int} {n u : Nat} {w : Int} {S : Nat} (hR : RS μ b n w S u) (h0 : μ 11 0 13 = 0) (hS : S ≠ 0) (hg : gO (tK b n u) w (S : Int)) (k56 : tK b n u = 5 ∨ tK b n u = 6) (h : ∀ μ', Fpm μ μ' → RS μ' b n w (S + 1) (u + 1) → Q μ') : RMv sc (d + 2) 11018 [rfc 11 0] (t, 0, 0) μ Q := by
  have hT := hR.1
  obtain ⟨h13, h11, hO, hp, hws, hn, hpl⟩ := hR.atv h0
  obtain ⟨a0, a2, a1⟩ := hp.n hS
  refine sp_adv hT h13 h11 hO a0 (fun z => (a1.mp z) hg) a2 (fun hO1 => ?_) (fun μ' F' f' => h μ' F' ⟨hT.p F', Or.inl f'⟩)
  have hp1 := hp.s hS hO1
  rw [if_neg (by omega : ¬ tK b n u = 4)] at hp1
  have F1 : Fpm μ (wr μ 11 0 11 ((u : Int) + 1)) := Fpm.w (by omega)
  refine h _ F1 ⟨hT.p F1, Or.inr ⟨?_, by rw [wr_same]; omega, hO1, hp1, (hws.s (fun z => absurd z.1 (by omega)) (fun z => absurd z.1 (by omega))).x ?_ ?_, (hn.s (by omega)).x ?_ ?_, (hpl.s (fun z => absurd z.1 (by omega))).x ?_ ?_ ?_⟩⟩
  · rw [wr_k (by decide)]; exact h13
  · rw [wr_k (by decide)]
  · rw [wr_k (by decide)]
  · rw [wr_k (by decide)]
  · rw [wr_c (by decide)]
  · rw [wr_k (by decide)]
  · rw [wr_c (by decide)]
  · rw [wr_c (by decide)]
theorem wrg_to {b : Nat → Int} {n u : Nat} {x : Int} (hp : Pth b n (u + 1) 7 5) (ex : x = tV b n u) (h1 : 0 ≤ tV b n u) : wrg b n (wiT b n (u + 1)).1 (wiT b n (u + 1)).2 (u + 1) ↔ (tV b n (u + 1) < x ∨ 99 < tV b n (u + 1)) := by
  obtain ⟨e1, e2⟩ := hp.i (by decide) (by decide)
  have e3 : (wiT b n (u + 1)).2 = 2 := by rw [e2]; decide
  rw [e1, e3]
  unfold wrg
  have l : lst 7 2 = 0 := by decide
  have g : gst 7 2 = 99 := by decide
  rw [l, g, Nat.add_sub_cancel, ex]
  constructor
  · rintro (z | z | z | z | z)
    · omega
    · omega
    · exact Or.inl (by omega)
    · exact Or.inr z
    · exact Or.inl z.2.2.2
  · rintro (z | z)
    · exact Or.inr (Or.inr (Or.inr (Or.inr ⟨rfl, rfl, by omega, z⟩)))
    · exact Or.inr (Or.inr (Or.inr (Or.inl z)))
theorem sp_wallM {sc : Scr} {d t : Nat} {μ : Mem} {Q : Mem → Prop} {b : Nat → Int} {n u : Nat} {sd : Int} (hR : RS μ b n 7 1 (u + 1)) (h19 : μ 11 0 19 = sd) (hs : sd = 0 ∨ sd = 1) (hL : LMa μ b n sd u) (hN : cS b n 7 u < 8) (h : ∀ μ', Fte sd μ μ' → RE μ' b n sd (u + 8) → Q μ') : RMv sc (d + 5) 11019 [rfc 11 0] (t, 0, 0) μ Q := by
  have e48 : μ 48 0 sd.toNat = ((cS b n 7 u : Nat) : Int) := hL.1.1
  have i9e : (i9 sd (cS b n 7 u) : Int) = 9 * sd + ((cS b n 7 u : Nat) : Int) := by unfold i9; omega
  have ins : ∀ c, 49 ≤ c ∧ c ≤ 54 → insd sd c (i9 sd (cS b n 7 u)) := fun c hc => by unfold insd; omega
  have insc : insd sd 48 sd.toNat := by unfold insd; omega
  have body : ∀ (μ1 : Mem) (v6 : Int), Fpm μ μ1 → RS μ1 b n 7 2 (u + 2) → μ1 11 0 13 = 0 → (tK b n (u + 2) = 5 ∨ tK b n (u + 2) = 6) → v6 = flA b n (u + 2) → RMv sc (d + 4) 11018 [rfc 11 0] (t, 0, 0) (wr μ1 49 0 (i9 sd (cS b n 7 u)) v6) (fun μ7 => RMi sc (d + 4) 11023 [rfc 11 0, .inl 0, .inl 99] (t, 0, 0) μ7 (fun v8 μ8 => ((0 : Int) ≤ (9 * sd) + ((cS b n 7 u : Nat) : Int) ∧ (9 * sd) + ((cS b n 7 u : Nat) : Int) < 18) ∧ (RMi sc (d + 4) 11023 [rfc 11 0, .inl 0, .inl 99] (t, 0, 0) (wr μ8 50 0 (i9 sd (cS b n 7 u)) v8) (fun v9 μ9 => ((0 : Int) ≤ (9 * sd) + ((cS b n 7 u : Nat) : Int) ∧ (9 * sd) + ((cS b n 7 u : Nat) : Int) < 18) ∧ ((0 : Int) ≤ (9 * sd) + ((cS b n 7 u : Nat) : Int) ∧ (9 * sd) + ((cS b n 7 u : Nat) : Int) < 18) ∧ (RMi sc (d + 4) 11023 [rfc 11 0, .inl ((wr μ9 51 0 (i9 sd (cS b n 7 u)) v9) 51 0 (i9 sd (cS b n 7 u))), .inl 99] (t, 0, 0) (wr μ9 51 0 (i9 sd (cS b n 7 u)) v9) (fun v10 μ10 => ((0 : Int) ≤ (9 * sd) + ((cS b n 7 u : Nat) : Int) ∧ (9 * sd) + ((cS b n 7 u : Nat) : Int) < 18) ∧ (RMi sc (d + 4) 11023 [rfc 11 0, .inl 0, .inl 99] (t, 0, 0) (wr μ10 52 0 (i9 sd (cS b n 7 u)) v10) (fun v11 μ11 => ((0 : Int) ≤ (9 * sd) + ((cS b n 7 u : Nat) : Int) ∧ (9 * sd) + ((cS b n 7 u : Nat) : Int) < 18) ∧ (((0 : Int) ≤ (9 * sd) + ((cS b n 7 u : Nat) : Int) ∧ (9 * sd) + ((cS b n 7 u : Nat) : Int) < 18) ∧ ((1 : Int) = 0 ∨ (1 : Int) = 1)) ∧ (RMv sc (d + 4) 11021 [rfc 11 0, .inl 4] (t, 0, 0) (wr (wr μ11 53 0 (i9 sd (cS b n 7 u)) v11) 54 0 (i9 sd (cS b n 7 u)) 1) (fun μ12 => (¬ μ12 11 0 13 = 0 → PV t Q none (fs (t, 0, 0) μ12)) ∧ (¬ (¬ μ12 11 0 13 = 0) → ((0 : Int) ≤ μ12 11 0 19 ∧ μ12 11 0 19 < 2) ∧ ((-2147483648 : Int) ≤ (μ12 48 0 (μ12 11 0 19).toNat) + 1 ∧ (μ12 48 0 (μ12 11 0 19).toNat) + 1 ≤ 2147483647) ∧ ((0 : Int) ≤ μ12 11 0 19 ∧ μ12 11 0 19 < 2) ∧ (PV t Q none (fs (t, 0, 0) (wr μ12 48 0 (μ12 11 0 19).toNat ((μ12 48 0 (μ12 11 0 19).toNat) + 1))))))))))))))) := by
    intro μ1 v6 F1 R1 h13 k56 ev6
    refine sp_side (d := d + 2) (R1.w (by decide)) (by rw [wr_c (by decide)]; exact h13) (by decide) ((g56 (by decide) (by decide) (by decide) _).mpr k56) k56 fun μ7 F7 R7 => sp_number (d := d + 1) R7 (by decide) (g3 (by decide) (by decide) (by decide)) (fun _ hp _ => wrg_e hp (by decide) (by decide) (i := 0) (by decide) (by decide) (by decide) (by decide) (by decide)) (fun hp ip => absurd ip.2.1 (by rw [(hp.i (by decide) (by decide)).1]; decide)) fun v8 μ8 F8 R8 E8 => ⟨by omega, sp_number (d := d + 1) (R8.w (by decide)) (by decide) (g3 (by decide) (by decide) (by decide)) (fun _ hp _ => wrg_e hp (by decide) (by decide) (i := 1) (by decide) (by decide) (by decide) (by decide) (by decide)) (fun hp ip => absurd ip.2.1 (by rw [(hp.i (by decide) (by decide)).1]; decide)) fun v9 μ9 F9 R9 E9 => ⟨by omega, by omega, ?_⟩⟩
    rw [wr_same]
    refine sp_number (d := d + 1) (R9.w (by decide)) (by decide) (g3 (by decide) (by decide) (by decide)) (fun y hp _ => ?_) (fun hp ip => absurd ip.2.1 (by rw [(hp.i (by decide) (by decide)).1]; decide)) fun v10 μ10 F10 R10 E10 => ⟨by omega, sp_number (d := d + 1) (R10.w (by decide)) (by decide) (g3 (by decide) (by decide) (by decide)) (fun _ hp _ => wrg_e hp (by decide) (by decide) (i := 3) (by decide) (by decide) (by decide) (by decide) (by decide)) (fun hp ip => absurd ip.2.1 (by rw [(hp.i (by decide) (by decide)).1]; decide)) fun v11 μ11 F11 R11 E11 => ⟨by omega, ⟨by omega, Or.inr rfl⟩, sp_semi (d := d + 1) ((R11.w (by decide)).w (by decide)) (by decide) (g4 (by decide) (by decide) (by decide)) fun μ12 F12 R12 E12 => ?_⟩⟩
    · rw [wr_c (by decide)] at y
      obtain ⟨v9e, -, k3, -⟩ := E9 y
      exact wrg_to hp v9e (int_tok k3).1
    · have FF : Fte sd μ μ12 := (((((((((((F1.te.trans (Fte.w (ins 49 (by decide)))).trans F7.te).trans F8.te).trans (Fte.w (ins 50 (by decide)))).trans F9.te).trans (Fte.w (ins 51 (by decide)))).trans F10.te).trans (Fte.w (ins 52 (by decide)))).trans F11.te).trans (Fte.w (ins 53 (by decide)))).trans (Fte.w (ins 54 (by decide)))).trans F12.te
      have e5 : EL μ12 (wr (wr (wr (wr (wr (wr μ 49 0 (i9 sd (cS b n 7 u)) v6) 50 0 (i9 sd (cS b n 7 u)) v8) 51 0 (i9 sd (cS b n 7 u)) v9) 52 0 (i9 sd (cS b n 7 u)) v10) 53 0 (i9 sd (cS b n 7 u)) v11) 54 0 (i9 sd (cS b n 7 u)) 1) := ((((((((((((EL.p (M := μ) (fun _ _ _ => rfl) F1).w).p F7).p F8).w).p F9).w).p F10).w).p F11).w).w).p F12
      have e19 : μ12 11 0 19 = sd := by rw [FF.fld (by decide)]; exact h19
      have c48 : μ12 48 0 sd.toNat = ((cS b n 7 u : Nat) : Int) := by
        rw [e5 48 (by decide) (by decide), wr_c (by decide), wr_c (by decide), wr_c (by decide), wr_c (by decide), wr_c (by decide), wr_c (by decide)]
        exact e48
      rw [e19, c48]
      refine ⟨fun z => PV_mk (h μ12 FF (R12.flt z)), fun z => ⟨by omega, by omega, by omega, PV_mk (h _ (FF.trans (Fte.w insc)) ⟨(R12.w (c := 48) (by decide)).1, Or.inr ?_⟩)⟩⟩
      have z' := Decidable.not_not.mp z
      obtain ⟨o5, k5, z4⟩ := E12 z'
      rw [wr_c (by decide), wr_c (by decide)] at z4
      obtain ⟨v11e, -, -, z3⟩ := E11 z4
      rw [wr_c (by decide)] at z3
      obtain ⟨v10e, -, -, z2⟩ := E10 z3
      rw [wr_c (by decide)] at z2
      obtain ⟨v9e, -, -, z1⟩ := E9 z2
      rw [wr_c (by decide)] at z1
      obtain ⟨v8e, -, -, z0⟩ := E8 z1
      have p5 := ((R11.atv z4).2.2.2.1)
      obtain ⟨⟨y1, y2, y3, -⟩, yo⟩ := st_end (u := u) (L := 7) p5 (by decide) (by decide) k5
      obtain ⟨t7, t8, t9, t10⟩ := hL.t (μ' := wr (wr (wr (wr (wr (wr (wr μ 49 0 (i9 sd (cS b n 7 u)) v6) 50 0 (i9 sd (cS b n 7 u)) v8) 51 0 (i9 sd (cS b n 7 u)) v9) 52 0 (i9 sd (cS b n 7 u)) v10) 53 0 (i9 sd (cS b n 7 u)) v11) 54 0 (i9 sd (cS b n 7 u)) 1) 48 0 sd.toNat (((cS b n 7 u : Nat) : Int) + 1)) yo
      have oc : ∀ c, ¬ (48 ≤ c ∧ c ≤ 54) → (wr (wr (wr (wr (wr (wr (wr μ 49 0 (i9 sd (cS b n 7 u)) v6) 50 0 (i9 sd (cS b n 7 u)) v8) 51 0 (i9 sd (cS b n 7 u)) v9) 52 0 (i9 sd (cS b n 7 u)) v10) 53 0 (i9 sd (cS b n 7 u)) v11) 54 0 (i9 sd (cS b n 7 u)) 1) 48 0 sd.toNat (((cS b n 7 u : Nat) : Int) + 1)) c = μ c := fun c hc => by rw [wr_c (by omega), wr_c (by omega), wr_c (by omega), wr_c (by omega), wr_c (by omega), wr_c (by omega), wr_c (by omega)]
      refine ⟨⟨7, (R12.w (c := 48) (by decide)).atv (by rw [wr_c (by decide)]; exact z')⟩, LMa.x ⟨?_, t8 (by decide) (fun c hc => oc c (by omega)), t9 (by decide) (fun c hc => oc c (by omega)), t10 (by decide) (fun c hc => oc c (by omega)), ?_⟩ e5.w⟩
      · show MW _ b n sd (cS b n 7 (u + 7 + 1)) _
        rw [y1]
        refine hL.1.add hs hN (fun k hk => y3 k hk) ?_ ?_ ?_ ?_ ?_
        · show flA b n (pS b n 7 (u + 7 + 1) (cS b n 7 u) - 5) = v6
          rw [y2, ev6]; rfl
        · show tV b n (pS b n 7 (u + 7 + 1) (cS b n 7 u) - 4) = v8
          rw [y2, v8e]; rfl
        · show tV b n (pS b n 7 (u + 7 + 1) (cS b n 7 u) - 3) = v9
          rw [y2, v9e]; rfl
        · show tV b n (pS b n 7 (u + 7 + 1) (cS b n 7 u) - 2) = v10
          rw [y2, v10e]; rfl
        · show tV b n (pS b n 7 (u + 7 + 1) (cS b n 7 u) - 1) = v11
          rw [y2, v11e]; rfl
      · have m := hL.2.2.2.2
        unfold MN at m ⊢
        rw [oc 66 (by decide), oc 67 (by decide), oc 68 (by decide), oc 69 (by decide), oc 70 (by decide)]
        show μ 66 0 sd.toNat = nS b n 11 2 20 (u + 7 + 1) ∧ μ 67 0 sd.toNat = nS b n 11 1 20 (u + 7 + 1) ∧ μ 68 0 sd.toNat = nS b n 12 1 10 (u + 7 + 1) ∧ μ 69 0 sd.toNat = nS b n 13 1 10 (u + 7 + 1) ∧ μ 70 0 sd.toNat = nS b n 14 1 100 (u + 7 + 1)
        rw [(yo 11 (by decide)).2.2, (yo 11 (by decide)).2.2, (yo 12 (by decide)).2.2, (yo 13 (by decide)).2.2, (yo 14 (by decide)).2.2]
        exact m
  refine m_11019 ?_
  rw [h19, e48]
  refine ⟨by omega, by omega, by omega, sp_named hR (by decide) (g2 (by decide) (by decide) (by decide)) fun μ1 F1 R1 => ?_⟩
  have at0 : ∀ μ', Fpm μ μ' → TksM μ' b n → Flt μ' b n → R_11019 sc (d + 4) (PV t Q) t 52 [rfc 11 0, .inl ((9 * sd) + ((cS b n 7 u : Nat) : Int))] [] μ' := fun μ' F' T' f' => m_11019_52 ⟨fun z => absurd f'.1 (by omega), fun _ => PV_mk (h μ' F'.te ⟨T', Or.inl f'⟩)⟩
  have at1 : ∀ μ', Fpm μ μ' → RS μ' b n 7 2 (u + 2) → μ' 11 0 13 = 0 → (tK b n (u + 2) = 5 ∨ tK b n (u + 2) = 6) → R_11019 sc (d + 4) (PV t Q) t 52 [rfc 11 0, .inl ((9 * sd) + ((cS b n 7 u : Nat) : Int))] [] μ' := by
    intro μ' F' R' h13 k56
    obtain ⟨_, h11, hO, _⟩ := R'.atv h13
    refine m_11019_52 ⟨fun _ => sp_is R'.1 h13 h11 hO (k := 6) (by decide) rfl (fun k6 => ⟨⟨by omega, Or.inr rfl⟩, ?_⟩) (fun k6 => ⟨⟨by omega, Or.inl rfl⟩, ?_⟩), fun z => absurd (by omega) z⟩
    · exact body μ' 1 F' R' h13 k56 (by unfold flA; rw [if_pos k6])
    · exact body μ' 0 F' R' h13 k56 (by unfold flA; rw [if_neg k6])
  by_cases z : μ1 11 0 13 = 0
  · have A := R1.atv z
    obtain ⟨_, h11, hO, hp, _⟩ := A
    obtain ⟨a0, a2, a1⟩ := hp.n (by decide)
    refine ⟨fun y => absurd y (by omega), fun _ => sp_is R1.1 z h11 hO (k := 5) (by decide) rfl (fun k5 => ⟨fun _ => at1 μ1 F1 R1 z (Or.inl k5), fun y => absurd (by decide) y⟩) (fun k5 => ⟨fun y => absurd rfl y, fun _ => sp_is R1.1 z h11 hO (k := 6) (by decide) rfl (fun k6 => ⟨fun _ => at1 μ1 F1 R1 z (Or.inr k6), fun y => absurd (by decide) y⟩) (fun k6 => ⟨fun y => absurd rfl y, fun _ => sp_fail R1.1 z h11 hO (by decide) (form_e1 hO a0 (a1.mpr fun y => ?_)) fun μ' F' f' => at0 μ' (F1.trans F') (R1.1.p F') f'⟩)⟩)⟩
    exact ((g56 (by decide) (by decide) (by decide) _).mp y).elim k5 k6
  · have f := (R1.flt (sd := sd) (u' := 0) z).2
    have f' : Flt μ1 b n := R1.2.elim id fun y => absurd y.1 z
    exact ⟨fun _ => sp_failed f' (at0 μ1 F1 R1.1 f'), fun y => absurd f'.1 y⟩
