/-! MATHEMATICS, 10: the reference's closed pieces -/
def Lb (n : Int) (L : Ln) : Prop := (L.1 = 0 ∨ L.1 = 1) ∧ (-n ≤ L.2.1 ∧ L.2.1 ≤ n) ∧ (-n ≤ L.2.2.1 ∧ L.2.2.1 ≤ n) ∧ (-n ≤ L.2.2.2 ∧ L.2.2.2 ≤ n)
theorem Lb_wl {g : Nat → Nat → Int} {w : Nat} (h : gok g w) : Lb 99 (wl g w) := by
  obtain ⟨h1, h2, h3, h4⟩ := h
  exact ⟨h1, ⟨Int.le_trans (by decide) h2.1, h2.2⟩, ⟨Int.le_trans (by decide) h3.1, h3.2⟩, ⟨Int.le_trans (by decide) h4.1, h4.2⟩⟩
theorem Lb_ly {g : Nat → Nat → Int} {a : Nat} {n : Int} {L : Ln} (h : gok g a) (hL : Lb n L) : Lb (n + 198) (ly g a L) := by
  obtain ⟨h1, h2, h3, h4⟩ := h
  obtain ⟨l1, l2, l3, l4⟩ := hL
  unfold Lb ly Ln.lay
  split <;> simp only [] <;> omega
theorem Lb.to {n : Int} {L : Ln} (h : Lb n L) (hn : n ≤ 1000) : Lbd L := by
  obtain ⟨l1, l2, l3, l4⟩ := h
  exact ⟨l1, by omega, by omega, by omega⟩
def Beg (μ : Mem) (i : Nat) (u l : Int) : Prop := μ 73 0 i = u ∧ μ 74 0 i = l
abbrev Ubd (u l : Int) : Prop := (-1039 ≤ u ∧ u ≤ 1039) ∧ (0 < l ∧ l ≤ 474)
theorem cUp_bd {L : Ln} {w : Wy} (hb : Lbd L) (h : Wbd w) : -1039 ≤ cUp L w ∧ cUp L w ≤ 1039 := by
  obtain ⟨h1, h2, h3, h4⟩ := h
  obtain ⟨b1, b2, b3, b4⟩ := hb
  unfold cUp xn
  split <;> split <;> omega
theorem sp_within {sc : Scr} {d t : Nat} {μ : Mem} {Q : Int → Mem → Prop} {L : Ln} {w : Wy} {i j : Nat} {u1 l1 u2 l2 : Int} (hi : i < 4) (hj : j < 4) (eu : μ 11 0 62 = cUp L w) (el : μ 11 0 63 = cLow L w) (hb : Lbd L) (hw : Wbd w) (hD : cD L w ≠ 0) (b1 : Beg μ i u1 l1) (b2 : Beg μ j u2 l2) (k1 : Ubd u1 l1) (k2 : Ubd u2 l2)
    (h1 : cIn L w u1 l1 u2 l2 → Q 1 μ) (h0 : ¬ cIn L w u1 l1 u2 l2 → Q 0 μ) : RMi sc (d + 1) 11044 [rfc 11 0, .inl (i : Int), .inl (j : Int)] (t, 0, 0) μ Q := by
  have bu := cUp_bd (w := w) hb hw
  have bl := cLow_bd (L := L) hw
  have bp := cLow_pos hD
  have p1 := mul_bd (A := 1039) (B := 474) (a := cUp L w) (b := l1) bu (by omega)
  have p2 := mul_bd (A := 1039) (B := 474) (a := cUp L w) (b := l2) bu (by omega)
  have p3 := mul_bd (A := 1039) (B := 474) (a := u1) (b := cLow L w) k1.1 (by omega)
  have p4 := mul_bd (A := 1039) (B := 474) (a := u2) (b := cLow L w) k2.1 (by omega)
  refine m_11044 ?_
  rw [Int.toNat_natCast, Int.toNat_natCast, eu, el, b1.1, b1.2, b2.1, b2.2]
  refine ⟨by omega, by omega, by omega, by omega, fun c => h0 (fun z => ?_), fun c => ⟨by omega, by omega, by omega, by omega, fun c2 => h0 (fun z => ?_), fun c2 => h1 ⟨by omega, by omega⟩⟩⟩
  · have := z.1
    omega
  · have := z.2
    omega
theorem FMp.beg {p q i : Nat} {μ μ' : Mem} {u l : Int} (h : FMp p q μ μ') (b : Beg μ i u l) : Beg μ' i u l := by
  unfold Beg
  rw [h.c (c := 73) (by decide), h.c (c := 74) (by decide)]
  exact b
theorem L11049_30 {sc : Scr} {d t : Nat} {μ : Mem} {Q : Int → Mem → Prop} {L : Ln} {w : Wy} {i : Nat} {x2 : Int} {u1 l1 u2 l2 : Int} (hi : i < 3) (hL : Lin μ L) (hb : Lbd L) (hW : Way μ w) (hw : Wbd w) (b1 : Beg μ i u1 l1) (b2 : Beg μ (i + 1) u2 l2) (k1 : Ubd u1 l1) (k2 : Ubd u2 l2)
    (h1 : Hit L w u1 l1 u2 l2 → ∀ μ', FMp 58 63 μ μ' → Q 1 μ') (h0 : ¬ Hit L w u1 l1 u2 l2 → ∀ μ', FMp 58 63 μ μ' → Q 0 μ') : R_11049 sc (d + 1) (PI t Q) t 30 [rfc 11 0, .inl (i : Int), .inl x2] [] μ := by
  refine m_11049_30 (sp_crosses hL hb hW hw (fun on μ1 hF eu el => ⟨fun c => absurd c (by decide), fun _ => ⟨by omega, ?_⟩⟩) (fun on μ1 hF => ⟨fun _ => PI_mk (h0 (fun z => on z.1) _ hF), fun c => absurd rfl c⟩))
  have e : ((i : Int) + 1) = ((i + 1 : Nat) : Int) := by omega
  rw [e]
  exact sp_within (by omega) (by omega) eu el hb hw on.1 (hF.beg b1) (hF.beg b2) k1 k2 (fun z => ⟨fun c => absurd c (by decide), fun _ => PI_mk (h1 ⟨on, z⟩ _ hF)⟩) (fun z => ⟨fun _ => PI_mk (h0 (fun y => z y.2) _ hF), fun c => absurd rfl c⟩)
section BL
variable {sc : Scr} {d t : Nat} {μ : Mem} {Q : Int → Mem → Prop} {w : Wy} {k a b : Nat} {u1 l1 u2 l2 : Int}
theorem sp_blocked0 (hl : liv μ) (hk : k < 9) (gk : gok (gM μ) k) (hW : Way μ w) (hw : Wbd w) (b1 : Beg μ 0 u1 l1) (b2 : Beg μ 1 u2 l2) (k1 : Ubd u1 l1) (k2 : Ubd u2 l2)
    (h1 : Hit (wl (gM μ) k) w u1 l1 u2 l2 → ∀ μ', FMp 58 63 μ μ' → Q 1 μ') (h0 : ¬ Hit (wl (gM μ) k) w u1 l1 u2 l2 → ∀ μ', FMp 58 63 μ μ' → Q 0 μ') : RMi sc (d + 2) 11049 [rfc 11 0, .inl 0, .inl (k : Int)] (t, 0, 0) μ Q := by
  refine m_11049 (sp_takes hl hk gk fun μ1 hF hL => ⟨fun _ => ⟨fun _ => ?_, fun c => absurd (by decide) c⟩, fun c => absurd (by decide) c⟩)
  exact L11049_30 (i := 0) (by decide) hL ((Lb_wl gk).to (by decide)) (hW.fr hF (by decide)) hw (hF.beg b1) (hF.beg b2) k1 k2 (fun z μ' hF' => h1 z μ' ((hF.mono (by decide) (by decide)).trans hF')) (fun z μ' hF' => h0 z μ' ((hF.mono (by decide) (by decide)).trans hF'))
theorem sp_blocked1 (hl : liv μ) (hk : k < 9) (gk : gok (gM μ) k) (ha : a < 9) (ga : gok (gM μ) a) (ea : μ 11 0 56 = (a : Int)) (hW : Way μ w) (hw : Wbd w) (b1 : Beg μ 1 u1 l1) (b2 : Beg μ 2 u2 l2) (k1 : Ubd u1 l1) (k2 : Ubd u2 l2)
    (h1 : Hit (ly (gM μ) a (wl (gM μ) k)) w u1 l1 u2 l2 → ∀ μ', FMp 58 63 μ μ' → Q 1 μ') (h0 : ¬ Hit (ly (gM μ) a (wl (gM μ) k)) w u1 l1 u2 l2 → ∀ μ', FMp 58 63 μ μ' → Q 0 μ') : RMi sc (d + 2) 11049 [rfc 11 0, .inl 1, .inl (k : Int)] (t, 0, 0) μ Q := by
  refine m_11049 (sp_takes hl hk gk fun μ1 hF hL => ⟨fun _ => ⟨fun c => absurd c (by decide), fun _ => ?_⟩, fun c => absurd (by decide) c⟩)
  rw [hF.f (k := 56) (by decide), ea]
  have eg := hF.g (by decide)
  refine sp_lays (by unfold liv; rw [hF.f (k := 18) (by decide)]; exact hl) ha (by rw [eg]; exact ga) hL ((Lb_wl gk).to (by decide)) fun μ2 hF2 hL2 => ?_
  rw [eg] at hL2
  exact L11049_30 (i := 1) (by decide) hL2 ((Lb_ly ga (Lb_wl gk)).to (by decide)) ((hW.fr hF (by decide)).fr hF2 (by decide)) hw (hF2.beg (hF.beg b1)) (hF2.beg (hF.beg b2)) k1 k2 (fun z μ' hF' => h1 z μ' (((hF.trans hF2).mono (by decide) (by decide)).trans hF')) (fun z μ' hF' => h0 z μ' (((hF.trans hF2).mono (by decide) (by decide)).trans hF'))
theorem sp_blocked2 (hl : liv μ) (hk : k < 9) (gk : gok (gM μ) k) (ha : a < 9) (ga : gok (gM μ) a) (ea : μ 11 0 56 = (a : Int)) (hb : b < 9) (gb : gok (gM μ) b) (eb : μ 11 0 57 = (b : Int)) (hW : Way μ w) (hw : Wbd w) (b1 : Beg μ 2 u1 l1) (b2 : Beg μ 3 u2 l2) (k1 : Ubd u1 l1) (k2 : Ubd u2 l2)
    (h1 : Hit (ly (gM μ) a (ly (gM μ) b (wl (gM μ) k))) w u1 l1 u2 l2 → ∀ μ', FMp 58 63 μ μ' → Q 1 μ') (h0 : ¬ Hit (ly (gM μ) a (ly (gM μ) b (wl (gM μ) k))) w u1 l1 u2 l2 → ∀ μ', FMp 58 63 μ μ' → Q 0 μ') : RMi sc (d + 2) 11049 [rfc 11 0, .inl 2, .inl (k : Int)] (t, 0, 0) μ Q := by
  refine m_11049 (sp_takes hl hk gk fun μ1 hF hL => ⟨fun c => absurd rfl c, fun _ => ?_⟩)
  rw [hF.f (k := 57) (by decide), eb]
  have eg := hF.g (by decide)
  have l1' : liv μ1 := by unfold liv; rw [hF.f (k := 18) (by decide)]; exact hl
  refine sp_lays l1' hb (by rw [eg]; exact gb) hL ((Lb_wl gk).to (by decide)) fun μ2 hF2 hL2 => ⟨fun c => absurd c (by decide), fun _ => ?_⟩
  rw [hF2.f (k := 56) (by decide), hF.f (k := 56) (by decide), ea]
  have eg2 := hF2.g (by decide)
  rw [eg] at hL2 eg2
  refine sp_lays (by unfold liv; rw [hF2.f (k := 18) (by decide)]; exact l1') ha (by rw [eg2]; exact ga) hL2 ((Lb_ly gb (Lb_wl gk)).to (by decide)) fun μ3 hF3 hL3 => ?_
  rw [eg2] at hL3
  exact L11049_30 (i := 2) (by decide) hL3 ((Lb_ly ga (Lb_ly gb (Lb_wl gk))).to (by decide)) (((hW.fr hF (by decide)).fr hF2 (by decide)).fr hF3 (by decide)) hw (hF3.beg (hF2.beg (hF.beg b1))) (hF3.beg (hF2.beg (hF.beg b2))) k1 k2 (fun z μ' hF' => h1 z μ' ((((hF.trans hF2).trans hF3).mono (by decide) (by decide)).trans hF')) (fun z μ' hF' => h0 z μ' ((((hF.trans hF2).trans hF3).mono (by decide) (by decide)).trans hF'))
end BL
