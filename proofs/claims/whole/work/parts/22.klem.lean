/-! ROWS OF THE MACHINE, one an instruction, to be put together -/
theorem cats_b : ∀ r : List AV, cats r ≤ 2 * r.length
  | [] => Nat.le_refl 0
  | v :: r => by
    have h := cats_b r
    show (match isL v with | true => 2 | false => 1) + cats r ≤ 2 * (r.length + 1)
    cases isL v <;> simp only [] <;> omega
theorem cats_8 {r : List AV} (h : r.length ≤ 4) : Nat.ble (cats r) 8 = true := Nat.ble_eq_true_of_le (Nat.le_trans (cats_b r) (by omega))
section KL
variable {sc : Scr} {t : List (List (Nat × Row))} {rk : Nat} {B : Nat × Nat} {call : CallT} {P : Option AV → AS → Prop} {pc l a b q n : Nat} {ls st ls' : List AV} {σ : AS} {x y : Int} {r r2 : AR} {v w : AV} {c i k : Nat}
theorem k_iload (hl : look t pc = some (.iload n, l, a, b, q)) (hv : nth ls n = .inl x) (k : Rp (stepE sc (look t) rk B) call P (pc + l, ls, (.inl x) :: st, σ)) : Rp (stepE sc (look t) rk B) call P (pc, ls, st, σ) := by
  refine Rp.intro ?_
  unfold stepE
  simp only [hl]
  rw [hv]
  exact k
theorem k_iload_n {n4 : Fin 4} (hl : look t pc = some (.iload_n n4, l, a, b, q)) (hv : nth ls n4.val = .inl x) (k : Rp (stepE sc (look t) rk B) call P (pc + l, ls, (.inl x) :: st, σ)) : Rp (stepE sc (look t) rk B) call P (pc, ls, st, σ) := by
  refine Rp.intro ?_
  unfold stepE
  simp only [hl]
  rw [hv]
  exact k
theorem k_lload (hl : look t pc = some (.lload n, l, a, b, q)) (hv : nth ls n = .inr (.inl x)) (k : Rp (stepE sc (look t) rk B) call P (pc + l, ls, (.inr (.inl x)) :: st, σ)) : Rp (stepE sc (look t) rk B) call P (pc, ls, st, σ) := by
  refine Rp.intro ?_
  unfold stepE
  simp only [hl]
  rw [hv]
  exact k
theorem k_lload_n {n4 : Fin 4} (hl : look t pc = some (.lload_n n4, l, a, b, q)) (hv : nth ls n4.val = .inr (.inl x)) (k : Rp (stepE sc (look t) rk B) call P (pc + l, ls, (.inr (.inl x)) :: st, σ)) : Rp (stepE sc (look t) rk B) call P (pc, ls, st, σ) := by
  refine Rp.intro ?_
  unfold stepE
  simp only [hl]
  rw [hv]
  exact k
theorem k_aload (hl : look t pc = some (.aload n, l, a, b, q)) (hv : nth ls n = .inr (.inr (.inl r))) (k : Rp (stepE sc (look t) rk B) call P (pc + l, ls, (.inr (.inr (.inl r))) :: st, σ)) : Rp (stepE sc (look t) rk B) call P (pc, ls, st, σ) := by
  refine Rp.intro ?_
  unfold stepE
  simp only [hl]
  rw [hv]
  exact k
theorem k_aload_n {n4 : Fin 4} (hl : look t pc = some (.aload_n n4, l, a, b, q)) (hv : nth ls n4.val = .inr (.inr (.inl r))) (k : Rp (stepE sc (look t) rk B) call P (pc + l, ls, (.inr (.inr (.inl r))) :: st, σ)) : Rp (stepE sc (look t) rk B) call P (pc, ls, st, σ) := by
  refine Rp.intro ?_
  unfold stepE
  simp only [hl]
  rw [hv]
  exact k
theorem k_istore_0 (hl : look t pc = some (.istore n, l, a, b, q)) (h0 : n = 0) (hs : ls.set 0 (.inl x) = ls') (k : Rp (stepE sc (look t) rk B) call P (pc + l, ls', st, σ)) : Rp (stepE sc (look t) rk B) call P (pc, ls, (.inl x) :: st, σ) := by
  refine Rp.intro ?_
  unfold stepE
  simp only [hl]
  show wE call P _ (nx (pc + l) (lput ls n (.inl x)) st σ)
  rw [h0]
  subst hs
  exact k
theorem k_istore_s {k_ : Nat} (hl : look t pc = some (.istore n, l, a, b, q)) (h0 : n = k_ + 1) (hw : nth ls k_ = w) (hL : isL w = false) (hs : ls.set (k_ + 1) (.inl x) = ls') (k : Rp (stepE sc (look t) rk B) call P (pc + l, ls', st, σ)) : Rp (stepE sc (look t) rk B) call P (pc, ls, (.inl x) :: st, σ) := by
  refine Rp.intro ?_
  unfold stepE
  simp only [hl]
  show wE call P _ (nx (pc + l) (lput ls n (.inl x)) st σ)
  have e : lput ls (k_ + 1) (.inl x) = ls.set (k_ + 1) (.inl x) := by unfold lput; rw [kill_f (by rw [hw]; exact hL)]
  rw [h0, e]
  subst hs
  exact k
theorem k_istore_l {k_ : Nat} (hl : look t pc = some (.istore n, l, a, b, q)) (h0 : n = k_ + 1) (hw : nth ls k_ = w) (hL : isL w = true) (hs : (ls.set k_ vx).set (k_ + 1) (.inl x) = ls') (k : Rp (stepE sc (look t) rk B) call P (pc + l, ls', st, σ)) : Rp (stepE sc (look t) rk B) call P (pc, ls, (.inl x) :: st, σ) := by
  refine Rp.intro ?_
  unfold stepE
  simp only [hl]
  show wE call P _ (nx (pc + l) (lput ls n (.inl x)) st σ)
  have e : lput ls (k_ + 1) (.inl x) = (ls.set k_ vx).set (k_ + 1) (.inl x) := by unfold lput; rw [kill_t (by rw [hw]; exact hL)]
  rw [h0, e]
  subst hs
  exact k
theorem k_istore_n_0 {n4 : Fin 4} (hl : look t pc = some (.istore_n n4, l, a, b, q)) (h0 : n4.val = 0) (hs : ls.set 0 (.inl x) = ls') (k : Rp (stepE sc (look t) rk B) call P (pc + l, ls', st, σ)) : Rp (stepE sc (look t) rk B) call P (pc, ls, (.inl x) :: st, σ) := by
  refine Rp.intro ?_
  unfold stepE
  simp only [hl]
  show wE call P _ (nx (pc + l) (lput ls n4.val (.inl x)) st σ)
  rw [h0]
  subst hs
  exact k
theorem k_istore_n_s {k_ : Nat} {n4 : Fin 4} (hl : look t pc = some (.istore_n n4, l, a, b, q)) (h0 : n4.val = k_ + 1) (hw : nth ls k_ = w) (hL : isL w = false) (hs : ls.set (k_ + 1) (.inl x) = ls') (k : Rp (stepE sc (look t) rk B) call P (pc + l, ls', st, σ)) : Rp (stepE sc (look t) rk B) call P (pc, ls, (.inl x) :: st, σ) := by
  refine Rp.intro ?_
  unfold stepE
  simp only [hl]
  show wE call P _ (nx (pc + l) (lput ls n4.val (.inl x)) st σ)
  have e : lput ls (k_ + 1) (.inl x) = ls.set (k_ + 1) (.inl x) := by unfold lput; rw [kill_f (by rw [hw]; exact hL)]
  rw [h0, e]
  subst hs
  exact k
theorem k_istore_n_l {k_ : Nat} {n4 : Fin 4} (hl : look t pc = some (.istore_n n4, l, a, b, q)) (h0 : n4.val = k_ + 1) (hw : nth ls k_ = w) (hL : isL w = true) (hs : (ls.set k_ vx).set (k_ + 1) (.inl x) = ls') (k : Rp (stepE sc (look t) rk B) call P (pc + l, ls', st, σ)) : Rp (stepE sc (look t) rk B) call P (pc, ls, (.inl x) :: st, σ) := by
  refine Rp.intro ?_
  unfold stepE
  simp only [hl]
  show wE call P _ (nx (pc + l) (lput ls n4.val (.inl x)) st σ)
  have e : lput ls (k_ + 1) (.inl x) = (ls.set k_ vx).set (k_ + 1) (.inl x) := by unfold lput; rw [kill_t (by rw [hw]; exact hL)]
  rw [h0, e]
  subst hs
  exact k
theorem k_astore_0 (hl : look t pc = some (.astore n, l, a, b, q)) (h0 : n = 0) (hs : ls.set 0 (.inr (.inr (.inl r))) = ls') (k : Rp (stepE sc (look t) rk B) call P (pc + l, ls', st, σ)) : Rp (stepE sc (look t) rk B) call P (pc, ls, (.inr (.inr (.inl r))) :: st, σ) := by
  refine Rp.intro ?_
  unfold stepE
  simp only [hl]
  show wE call P _ (nx (pc + l) (lput ls n (.inr (.inr (.inl r)))) st σ)
  rw [h0]
  subst hs
  exact k
theorem k_astore_s {k_ : Nat} (hl : look t pc = some (.astore n, l, a, b, q)) (h0 : n = k_ + 1) (hw : nth ls k_ = w) (hL : isL w = false) (hs : ls.set (k_ + 1) (.inr (.inr (.inl r))) = ls') (k : Rp (stepE sc (look t) rk B) call P (pc + l, ls', st, σ)) : Rp (stepE sc (look t) rk B) call P (pc, ls, (.inr (.inr (.inl r))) :: st, σ) := by
  refine Rp.intro ?_
  unfold stepE
  simp only [hl]
  show wE call P _ (nx (pc + l) (lput ls n (.inr (.inr (.inl r)))) st σ)
  have e : lput ls (k_ + 1) (.inr (.inr (.inl r))) = ls.set (k_ + 1) (.inr (.inr (.inl r))) := by unfold lput; rw [kill_f (by rw [hw]; exact hL)]
  rw [h0, e]
  subst hs
  exact k
theorem k_astore_l {k_ : Nat} (hl : look t pc = some (.astore n, l, a, b, q)) (h0 : n = k_ + 1) (hw : nth ls k_ = w) (hL : isL w = true) (hs : (ls.set k_ vx).set (k_ + 1) (.inr (.inr (.inl r))) = ls') (k : Rp (stepE sc (look t) rk B) call P (pc + l, ls', st, σ)) : Rp (stepE sc (look t) rk B) call P (pc, ls, (.inr (.inr (.inl r))) :: st, σ) := by
  refine Rp.intro ?_
  unfold stepE
  simp only [hl]
  show wE call P _ (nx (pc + l) (lput ls n (.inr (.inr (.inl r)))) st σ)
  have e : lput ls (k_ + 1) (.inr (.inr (.inl r))) = (ls.set k_ vx).set (k_ + 1) (.inr (.inr (.inl r))) := by unfold lput; rw [kill_t (by rw [hw]; exact hL)]
  rw [h0, e]
  subst hs
  exact k
theorem k_astore_n_0 {n4 : Fin 4} (hl : look t pc = some (.astore_n n4, l, a, b, q)) (h0 : n4.val = 0) (hs : ls.set 0 (.inr (.inr (.inl r))) = ls') (k : Rp (stepE sc (look t) rk B) call P (pc + l, ls', st, σ)) : Rp (stepE sc (look t) rk B) call P (pc, ls, (.inr (.inr (.inl r))) :: st, σ) := by
  refine Rp.intro ?_
  unfold stepE
  simp only [hl]
  show wE call P _ (nx (pc + l) (lput ls n4.val (.inr (.inr (.inl r)))) st σ)
  rw [h0]
  subst hs
  exact k
theorem k_astore_n_s {k_ : Nat} {n4 : Fin 4} (hl : look t pc = some (.astore_n n4, l, a, b, q)) (h0 : n4.val = k_ + 1) (hw : nth ls k_ = w) (hL : isL w = false) (hs : ls.set (k_ + 1) (.inr (.inr (.inl r))) = ls') (k : Rp (stepE sc (look t) rk B) call P (pc + l, ls', st, σ)) : Rp (stepE sc (look t) rk B) call P (pc, ls, (.inr (.inr (.inl r))) :: st, σ) := by
  refine Rp.intro ?_
  unfold stepE
  simp only [hl]
  show wE call P _ (nx (pc + l) (lput ls n4.val (.inr (.inr (.inl r)))) st σ)
  have e : lput ls (k_ + 1) (.inr (.inr (.inl r))) = ls.set (k_ + 1) (.inr (.inr (.inl r))) := by unfold lput; rw [kill_f (by rw [hw]; exact hL)]
  rw [h0, e]
  subst hs
  exact k
theorem k_astore_n_l {k_ : Nat} {n4 : Fin 4} (hl : look t pc = some (.astore_n n4, l, a, b, q)) (h0 : n4.val = k_ + 1) (hw : nth ls k_ = w) (hL : isL w = true) (hs : (ls.set k_ vx).set (k_ + 1) (.inr (.inr (.inl r))) = ls') (k : Rp (stepE sc (look t) rk B) call P (pc + l, ls', st, σ)) : Rp (stepE sc (look t) rk B) call P (pc, ls, (.inr (.inr (.inl r))) :: st, σ) := by
  refine Rp.intro ?_
  unfold stepE
  simp only [hl]
  show wE call P _ (nx (pc + l) (lput ls n4.val (.inr (.inr (.inl r)))) st σ)
  have e : lput ls (k_ + 1) (.inr (.inr (.inl r))) = (ls.set k_ vx).set (k_ + 1) (.inr (.inr (.inl r))) := by unfold lput; rw [kill_t (by rw [hw]; exact hL)]
  rw [h0, e]
  subst hs
  exact k
theorem k_lstore_0 (hl : look t pc = some (.lstore n, l, a, b, q)) (h0 : n = 0) (hs : (ls.set 0 (.inr (.inl x))).set 1 vx = ls') (k : Rp (stepE sc (look t) rk B) call P (pc + l, ls', st, σ)) : Rp (stepE sc (look t) rk B) call P (pc, ls, .inr (.inl x) :: st, σ) := by
  refine Rp.intro ?_
  unfold stepE
  simp only [hl]
  show wE call P _ (nx (pc + l) (lput2 ls n (.inr (.inl x))) st σ)
  rw [h0]
  subst hs
  exact k
theorem k_lstore_s {k_ : Nat} (hl : look t pc = some (.lstore n, l, a, b, q)) (h0 : n = k_ + 1) (hw : nth ls k_ = w) (hL : isL w = false) (hs : (ls.set (k_ + 1) (.inr (.inl x))).set (k_ + 2) vx = ls') (k : Rp (stepE sc (look t) rk B) call P (pc + l, ls', st, σ)) : Rp (stepE sc (look t) rk B) call P (pc, ls, .inr (.inl x) :: st, σ) := by
  refine Rp.intro ?_
  unfold stepE
  simp only [hl]
  show wE call P _ (nx (pc + l) (lput2 ls n (.inr (.inl x))) st σ)
  have e : lput2 ls (k_ + 1) (.inr (.inl x)) = (ls.set (k_ + 1) (.inr (.inl x))).set (k_ + 2) vx := by unfold lput2; rw [kill_f (by rw [hw]; exact hL)]
  rw [h0, e]
  subst hs
  exact k
theorem k_lstore_l {k_ : Nat} (hl : look t pc = some (.lstore n, l, a, b, q)) (h0 : n = k_ + 1) (hw : nth ls k_ = w) (hL : isL w = true) (hs : ((ls.set k_ vx).set (k_ + 1) (.inr (.inl x))).set (k_ + 2) vx = ls') (k : Rp (stepE sc (look t) rk B) call P (pc + l, ls', st, σ)) : Rp (stepE sc (look t) rk B) call P (pc, ls, .inr (.inl x) :: st, σ) := by
  refine Rp.intro ?_
  unfold stepE
  simp only [hl]
  show wE call P _ (nx (pc + l) (lput2 ls n (.inr (.inl x))) st σ)
  have e : lput2 ls (k_ + 1) (.inr (.inl x)) = ((ls.set k_ vx).set (k_ + 1) (.inr (.inl x))).set (k_ + 2) vx := by unfold lput2; rw [kill_t (by rw [hw]; exact hL)]
  rw [h0, e]
  subst hs
  exact k
theorem k_lstore_n_0 {n4 : Fin 4} (hl : look t pc = some (.lstore_n n4, l, a, b, q)) (h0 : n4.val = 0) (hs : (ls.set 0 (.inr (.inl x))).set 1 vx = ls') (k : Rp (stepE sc (look t) rk B) call P (pc + l, ls', st, σ)) : Rp (stepE sc (look t) rk B) call P (pc, ls, .inr (.inl x) :: st, σ) := by
  refine Rp.intro ?_
  unfold stepE
  simp only [hl]
  show wE call P _ (nx (pc + l) (lput2 ls n4.val (.inr (.inl x))) st σ)
  rw [h0]
  subst hs
  exact k
theorem k_lstore_n_s {k_ : Nat} {n4 : Fin 4} (hl : look t pc = some (.lstore_n n4, l, a, b, q)) (h0 : n4.val = k_ + 1) (hw : nth ls k_ = w) (hL : isL w = false) (hs : (ls.set (k_ + 1) (.inr (.inl x))).set (k_ + 2) vx = ls') (k : Rp (stepE sc (look t) rk B) call P (pc + l, ls', st, σ)) : Rp (stepE sc (look t) rk B) call P (pc, ls, .inr (.inl x) :: st, σ) := by
  refine Rp.intro ?_
  unfold stepE
  simp only [hl]
  show wE call P _ (nx (pc + l) (lput2 ls n4.val (.inr (.inl x))) st σ)
  have e : lput2 ls (k_ + 1) (.inr (.inl x)) = (ls.set (k_ + 1) (.inr (.inl x))).set (k_ + 2) vx := by unfold lput2; rw [kill_f (by rw [hw]; exact hL)]
  rw [h0, e]
  subst hs
  exact k
theorem k_lstore_n_l {k_ : Nat} {n4 : Fin 4} (hl : look t pc = some (.lstore_n n4, l, a, b, q)) (h0 : n4.val = k_ + 1) (hw : nth ls k_ = w) (hL : isL w = true) (hs : ((ls.set k_ vx).set (k_ + 1) (.inr (.inl x))).set (k_ + 2) vx = ls') (k : Rp (stepE sc (look t) rk B) call P (pc + l, ls', st, σ)) : Rp (stepE sc (look t) rk B) call P (pc, ls, .inr (.inl x) :: st, σ) := by
  refine Rp.intro ?_
  unfold stepE
  simp only [hl]
  show wE call P _ (nx (pc + l) (lput2 ls n4.val (.inr (.inl x))) st σ)
  have e : lput2 ls (k_ + 1) (.inr (.inl x)) = ((ls.set k_ vx).set (k_ + 1) (.inr (.inl x))).set (k_ + 2) vx := by unfold lput2; rw [kill_t (by rw [hw]; exact hL)]
  rw [h0, e]
  subst hs
  exact k
theorem k_iconst (hl : look t pc = some (.iconst x, l, a, b, q))  (k : Rp (stepE sc (look t) rk B) call P (pc + l, ls, .inl x :: st, σ)) : Rp (stepE sc (look t) rk B) call P (pc, ls, st, σ) := by
  refine Rp.intro ?_
  unfold stepE
  simp only [hl]
  exact k
theorem k_bipush (hl : look t pc = some (.bipush x, l, a, b, q))  (k : Rp (stepE sc (look t) rk B) call P (pc + l, ls, .inl x :: st, σ)) : Rp (stepE sc (look t) rk B) call P (pc, ls, st, σ) := by
  refine Rp.intro ?_
  unfold stepE
  simp only [hl]
  exact k
theorem k_sipush (hl : look t pc = some (.sipush x, l, a, b, q))  (k : Rp (stepE sc (look t) rk B) call P (pc + l, ls, .inl x :: st, σ)) : Rp (stepE sc (look t) rk B) call P (pc, ls, st, σ) := by
  refine Rp.intro ?_
  unfold stepE
  simp only [hl]
  exact k
theorem k_lconst {f2 : Fin 2} (hl : look t pc = some (.lconst f2, l, a, b, q)) (hx : ((f2.val : Nat) : Int) = x) (k : Rp (stepE sc (look t) rk B) call P (pc + l, ls, .inr (.inl x) :: st, σ)) : Rp (stepE sc (look t) rk B) call P (pc, ls, st, σ) := by
  refine Rp.intro ?_
  unfold stepE
  simp only [hl]
  subst hx
  exact k
theorem k_ldc2_w (hl : look t pc = some (.ldc2_w n, l, a, b, q)) (hx : negOf a b = x) (k : Rp (stepE sc (look t) rk B) call P (pc + l, ls, .inr (.inl x) :: st, σ)) : Rp (stepE sc (look t) rk B) call P (pc, ls, st, σ) := by
  refine Rp.intro ?_
  unfold stepE
  simp only [hl]
  subst hx
  exact k
theorem k_ldc_w (hl : look t pc = some (.ldc_w n, l, a, b, q)) (hx : negOf a b = x) (k : Rp (stepE sc (look t) rk B) call P (pc + l, ls, .inl x :: st, σ)) : Rp (stepE sc (look t) rk B) call P (pc, ls, st, σ) := by
  refine Rp.intro ?_
  unfold stepE
  simp only [hl]
  subst hx
  exact k
theorem k_ldc (hl : look t pc = some (.ldc n, l, a, b, q))  (k : Rp (stepE sc (look t) rk B) call P (pc + l, ls, .inr (.inr (.inl (some (100, a)))) :: st, σ)) : Rp (stepE sc (look t) rk B) call P (pc, ls, st, σ) := by
  refine Rp.intro ?_
  unfold stepE
  simp only [hl]
  exact k
theorem k_aconst_null (hl : look t pc = some (.aconst_null, l, a, b, q))  (k : Rp (stepE sc (look t) rk B) call P (pc + l, ls, .inr (.inr (.inl none)) :: st, σ)) : Rp (stepE sc (look t) rk B) call P (pc, ls, st, σ) := by
  refine Rp.intro ?_
  unfold stepE
  simp only [hl]
  exact k
theorem k_iadd (hl : look t pc = some (.iadd, l, a, b, q)) (g : InI (x + y)) (k : Rp (stepE sc (look t) rk B) call P (pc + l, ls, .inl (x + y) :: st, σ)) : Rp (stepE sc (look t) rk B) call P (pc, ls, .inl y :: .inl x :: st, σ) := by
  refine Rp.intro ?_
  unfold stepE
  simp only [hl]
  exact ⟨g, k⟩
theorem k_isub (hl : look t pc = some (.isub, l, a, b, q)) (g : InI (x - y)) (k : Rp (stepE sc (look t) rk B) call P (pc + l, ls, .inl (x - y) :: st, σ)) : Rp (stepE sc (look t) rk B) call P (pc, ls, .inl y :: .inl x :: st, σ) := by
  refine Rp.intro ?_
  unfold stepE
  simp only [hl]
  exact ⟨g, k⟩
theorem k_imul (hl : look t pc = some (.imul, l, a, b, q)) (g : InI (x * y)) (k : Rp (stepE sc (look t) rk B) call P (pc + l, ls, .inl (x * y) :: st, σ)) : Rp (stepE sc (look t) rk B) call P (pc, ls, .inl y :: .inl x :: st, σ) := by
  refine Rp.intro ?_
  unfold stepE
  simp only [hl]
  exact ⟨g, k⟩
theorem k_idiv (hl : look t pc = some (.idiv, l, a, b, q)) (g : 0 ≤ x ∧ 0 < y) (k : Rp (stepE sc (look t) rk B) call P (pc + l, ls, .inl (x / y) :: st, σ)) : Rp (stepE sc (look t) rk B) call P (pc, ls, .inl y :: .inl x :: st, σ) := by
  refine Rp.intro ?_
  unfold stepE
  simp only [hl]
  exact ⟨g, k⟩
theorem k_irem (hl : look t pc = some (.irem, l, a, b, q)) (g : 0 ≤ x ∧ 0 < y) (k : Rp (stepE sc (look t) rk B) call P (pc + l, ls, .inl (x % y) :: st, σ)) : Rp (stepE sc (look t) rk B) call P (pc, ls, .inl y :: .inl x :: st, σ) := by
  refine Rp.intro ?_
  unfold stepE
  simp only [hl]
  exact ⟨g, k⟩
theorem k_ladd (hl : look t pc = some (.ladd, l, a, b, q)) (g : InL (x + y)) (k : Rp (stepE sc (look t) rk B) call P (pc + l, ls, .inr (.inl (x + y)) :: st, σ)) : Rp (stepE sc (look t) rk B) call P (pc, ls, .inr (.inl y) :: .inr (.inl x) :: st, σ) := by
  refine Rp.intro ?_
  unfold stepE
  simp only [hl]
  exact ⟨g, k⟩
theorem k_lsub (hl : look t pc = some (.lsub, l, a, b, q)) (g : InL (x - y)) (k : Rp (stepE sc (look t) rk B) call P (pc + l, ls, .inr (.inl (x - y)) :: st, σ)) : Rp (stepE sc (look t) rk B) call P (pc, ls, .inr (.inl y) :: .inr (.inl x) :: st, σ) := by
  refine Rp.intro ?_
  unfold stepE
  simp only [hl]
  exact ⟨g, k⟩
theorem k_lmul (hl : look t pc = some (.lmul, l, a, b, q)) (g : InL (x * y)) (k : Rp (stepE sc (look t) rk B) call P (pc + l, ls, .inr (.inl (x * y)) :: st, σ)) : Rp (stepE sc (look t) rk B) call P (pc, ls, .inr (.inl y) :: .inr (.inl x) :: st, σ) := by
  refine Rp.intro ?_
  unfold stepE
  simp only [hl]
  exact ⟨g, k⟩
theorem k_ldiv (hl : look t pc = some (.ldiv, l, a, b, q)) (g : 0 ≤ x ∧ 0 < y) (k : Rp (stepE sc (look t) rk B) call P (pc + l, ls, .inr (.inl (x / y)) :: st, σ)) : Rp (stepE sc (look t) rk B) call P (pc, ls, .inr (.inl y) :: .inr (.inl x) :: st, σ) := by
  refine Rp.intro ?_
  unfold stepE
  simp only [hl]
  exact ⟨g, k⟩
theorem k_ineg (hl : look t pc = some (.ineg, l, a, b, q)) (g : InI (-x)) (k : Rp (stepE sc (look t) rk B) call P (pc + l, ls, .inl (-x) :: st, σ)) : Rp (stepE sc (look t) rk B) call P (pc, ls, .inl x :: st, σ) := by
  refine Rp.intro ?_
  unfold stepE
  simp only [hl]
  exact ⟨g, k⟩
theorem k_lneg (hl : look t pc = some (.lneg, l, a, b, q)) (g : InL (-x)) (k : Rp (stepE sc (look t) rk B) call P (pc + l, ls, .inr (.inl (-x)) :: st, σ)) : Rp (stepE sc (look t) rk B) call P (pc, ls, .inr (.inl x) :: st, σ) := by
  refine Rp.intro ?_
  unfold stepE
  simp only [hl]
  exact ⟨g, k⟩
theorem k_iand (hl : look t pc = some (.iand, l, a, b, q))  (k : Rp (stepE sc (look t) rk B) call P (pc + l, ls, .inl (andv x y) :: st, σ)) : Rp (stepE sc (look t) rk B) call P (pc, ls, .inl y :: .inl x :: st, σ) := by
  refine Rp.intro ?_
  unfold stepE
  simp only [hl]
  exact k
theorem k_ior (hl : look t pc = some (.ior, l, a, b, q))  (k : Rp (stepE sc (look t) rk B) call P (pc + l, ls, .inl (orv x y) :: st, σ)) : Rp (stepE sc (look t) rk B) call P (pc, ls, .inl y :: .inl x :: st, σ) := by
  refine Rp.intro ?_
  unfold stepE
  simp only [hl]
  exact k
theorem k_ixor (hl : look t pc = some (.ixor, l, a, b, q))  (k : Rp (stepE sc (look t) rk B) call P (pc + l, ls, .inl (xorv x y) :: st, σ)) : Rp (stepE sc (look t) rk B) call P (pc, ls, .inl y :: .inl x :: st, σ) := by
  refine Rp.intro ?_
  unfold stepE
  simp only [hl]
  exact k
theorem k_ishl (hl : look t pc = some (.ishl, l, a, b, q))  (k : Rp (stepE sc (look t) rk B) call P (pc + l, ls, .inl (shlv x y) :: st, σ)) : Rp (stepE sc (look t) rk B) call P (pc, ls, .inl y :: .inl x :: st, σ) := by
  refine Rp.intro ?_
  unfold stepE
  simp only [hl]
  exact k
theorem k_ishr (hl : look t pc = some (.ishr, l, a, b, q))  (k : Rp (stepE sc (look t) rk B) call P (pc + l, ls, .inl (shrv x y) :: st, σ)) : Rp (stepE sc (look t) rk B) call P (pc, ls, .inl y :: .inl x :: st, σ) := by
  refine Rp.intro ?_
  unfold stepE
  simp only [hl]
  exact k
theorem k_iushr (hl : look t pc = some (.iushr, l, a, b, q))  (k : Rp (stepE sc (look t) rk B) call P (pc + l, ls, .inl (ushrv x y) :: st, σ)) : Rp (stepE sc (look t) rk B) call P (pc, ls, .inl y :: .inl x :: st, σ) := by
  refine Rp.intro ?_
  unfold stepE
  simp only [hl]
  exact k
theorem k_lshr (hl : look t pc = some (.lshr, l, a, b, q))  (k : Rp (stepE sc (look t) rk B) call P (pc + l, ls, .inr (.inl (lshrv x y)) :: st, σ)) : Rp (stepE sc (look t) rk B) call P (pc, ls, .inl y :: .inr (.inl x) :: st, σ) := by
  refine Rp.intro ?_
  unfold stepE
  simp only [hl]
  exact k
theorem k_i2l (hl : look t pc = some (.i2l, l, a, b, q))  (k : Rp (stepE sc (look t) rk B) call P (pc + l, ls, .inr (.inl x) :: st, σ)) : Rp (stepE sc (look t) rk B) call P (pc, ls, .inl x :: st, σ) := by
  refine Rp.intro ?_
  unfold stepE
  simp only [hl]
  exact k
theorem k_l2i (hl : look t pc = some (.l2i, l, a, b, q)) (g : InI x) (k : Rp (stepE sc (look t) rk B) call P (pc + l, ls, .inl x :: st, σ)) : Rp (stepE sc (look t) rk B) call P (pc, ls, .inr (.inl x) :: st, σ) := by
  refine Rp.intro ?_
  unfold stepE
  simp only [hl]
  exact ⟨g, k⟩
theorem k_i2b (hl : look t pc = some (.i2b, l, a, b, q))  (k : Rp (stepE sc (look t) rk B) call P (pc + l, ls, .inl (i2bv x) :: st, σ)) : Rp (stepE sc (look t) rk B) call P (pc, ls, .inl x :: st, σ) := by
  refine Rp.intro ?_
  unfold stepE
  simp only [hl]
  exact k
theorem k_i2c (hl : look t pc = some (.i2c, l, a, b, q))  (k : Rp (stepE sc (look t) rk B) call P (pc + l, ls, .inl (i2cv x) :: st, σ)) : Rp (stepE sc (look t) rk B) call P (pc, ls, .inl x :: st, σ) := by
  refine Rp.intro ?_
  unfold stepE
  simp only [hl]
  exact k
theorem k_lcmp (hl : look t pc = some (.lcmp, l, a, b, q))  (k : Rp (stepE sc (look t) rk B) call P (pc + l, ls, .inl (lcmpv x y) :: st, σ)) : Rp (stepE sc (look t) rk B) call P (pc, ls, .inr (.inl y) :: .inr (.inl x) :: st, σ) := by
  refine Rp.intro ?_
  unfold stepE
  simp only [hl]
  exact k
theorem k_ifCond_eq {off : Int} (hl : look t pc = some (.ifCond .eq off, l, a, b, q)) (ht : (pc : Int) + off = (i : Int)) (h : (x = 0 → Rp (stepE sc (look t) rk B) call P (i, ls, st, σ)) ∧ (¬ (x = 0) → Rp (stepE sc (look t) rk B) call P (pc + l, ls, st, σ))) : Rp (stepE sc (look t) rk B) call P (pc, ls, .inl x :: st, σ) := by
  refine Rp.intro ?_
  unfold stepE
  simp only [hl]
  rw [← show tgt pc off = i by unfold tgt; omega] at h
  exact h
theorem k_if_icmp_eq {off : Int} (hl : look t pc = some (.if_icmp .eq off, l, a, b, q)) (ht : (pc : Int) + off = (i : Int)) (h : (x = y → Rp (stepE sc (look t) rk B) call P (i, ls, st, σ)) ∧ (¬ (x = y) → Rp (stepE sc (look t) rk B) call P (pc + l, ls, st, σ))) : Rp (stepE sc (look t) rk B) call P (pc, ls, .inl y :: .inl x :: st, σ) := by
  refine Rp.intro ?_
  unfold stepE
  simp only [hl]
  rw [← show tgt pc off = i by unfold tgt; omega] at h
  exact h
theorem k_ifCond_ne {off : Int} (hl : look t pc = some (.ifCond .ne off, l, a, b, q)) (ht : (pc : Int) + off = (i : Int)) (h : (¬ x = 0 → Rp (stepE sc (look t) rk B) call P (i, ls, st, σ)) ∧ (¬ (¬ x = 0) → Rp (stepE sc (look t) rk B) call P (pc + l, ls, st, σ))) : Rp (stepE sc (look t) rk B) call P (pc, ls, .inl x :: st, σ) := by
  refine Rp.intro ?_
  unfold stepE
  simp only [hl]
  rw [← show tgt pc off = i by unfold tgt; omega] at h
  exact h
theorem k_if_icmp_ne {off : Int} (hl : look t pc = some (.if_icmp .ne off, l, a, b, q)) (ht : (pc : Int) + off = (i : Int)) (h : (¬ x = y → Rp (stepE sc (look t) rk B) call P (i, ls, st, σ)) ∧ (¬ (¬ x = y) → Rp (stepE sc (look t) rk B) call P (pc + l, ls, st, σ))) : Rp (stepE sc (look t) rk B) call P (pc, ls, .inl y :: .inl x :: st, σ) := by
  refine Rp.intro ?_
  unfold stepE
  simp only [hl]
  rw [← show tgt pc off = i by unfold tgt; omega] at h
  exact h
theorem k_ifCond_lt {off : Int} (hl : look t pc = some (.ifCond .lt off, l, a, b, q)) (ht : (pc : Int) + off = (i : Int)) (h : (x < 0 → Rp (stepE sc (look t) rk B) call P (i, ls, st, σ)) ∧ (¬ (x < 0) → Rp (stepE sc (look t) rk B) call P (pc + l, ls, st, σ))) : Rp (stepE sc (look t) rk B) call P (pc, ls, .inl x :: st, σ) := by
  refine Rp.intro ?_
  unfold stepE
  simp only [hl]
  rw [← show tgt pc off = i by unfold tgt; omega] at h
  exact h
theorem k_if_icmp_lt {off : Int} (hl : look t pc = some (.if_icmp .lt off, l, a, b, q)) (ht : (pc : Int) + off = (i : Int)) (h : (x < y → Rp (stepE sc (look t) rk B) call P (i, ls, st, σ)) ∧ (¬ (x < y) → Rp (stepE sc (look t) rk B) call P (pc + l, ls, st, σ))) : Rp (stepE sc (look t) rk B) call P (pc, ls, .inl y :: .inl x :: st, σ) := by
  refine Rp.intro ?_
  unfold stepE
  simp only [hl]
  rw [← show tgt pc off = i by unfold tgt; omega] at h
  exact h
theorem k_ifCond_ge {off : Int} (hl : look t pc = some (.ifCond .ge off, l, a, b, q)) (ht : (pc : Int) + off = (i : Int)) (h : (0 ≤ x → Rp (stepE sc (look t) rk B) call P (i, ls, st, σ)) ∧ (¬ (0 ≤ x) → Rp (stepE sc (look t) rk B) call P (pc + l, ls, st, σ))) : Rp (stepE sc (look t) rk B) call P (pc, ls, .inl x :: st, σ) := by
  refine Rp.intro ?_
  unfold stepE
  simp only [hl]
  rw [← show tgt pc off = i by unfold tgt; omega] at h
  exact h
theorem k_if_icmp_ge {off : Int} (hl : look t pc = some (.if_icmp .ge off, l, a, b, q)) (ht : (pc : Int) + off = (i : Int)) (h : (y ≤ x → Rp (stepE sc (look t) rk B) call P (i, ls, st, σ)) ∧ (¬ (y ≤ x) → Rp (stepE sc (look t) rk B) call P (pc + l, ls, st, σ))) : Rp (stepE sc (look t) rk B) call P (pc, ls, .inl y :: .inl x :: st, σ) := by
  refine Rp.intro ?_
  unfold stepE
  simp only [hl]
  rw [← show tgt pc off = i by unfold tgt; omega] at h
  exact h
theorem k_ifCond_gt {off : Int} (hl : look t pc = some (.ifCond .gt off, l, a, b, q)) (ht : (pc : Int) + off = (i : Int)) (h : (0 < x → Rp (stepE sc (look t) rk B) call P (i, ls, st, σ)) ∧ (¬ (0 < x) → Rp (stepE sc (look t) rk B) call P (pc + l, ls, st, σ))) : Rp (stepE sc (look t) rk B) call P (pc, ls, .inl x :: st, σ) := by
  refine Rp.intro ?_
  unfold stepE
  simp only [hl]
  rw [← show tgt pc off = i by unfold tgt; omega] at h
  exact h
theorem k_if_icmp_gt {off : Int} (hl : look t pc = some (.if_icmp .gt off, l, a, b, q)) (ht : (pc : Int) + off = (i : Int)) (h : (y < x → Rp (stepE sc (look t) rk B) call P (i, ls, st, σ)) ∧ (¬ (y < x) → Rp (stepE sc (look t) rk B) call P (pc + l, ls, st, σ))) : Rp (stepE sc (look t) rk B) call P (pc, ls, .inl y :: .inl x :: st, σ) := by
  refine Rp.intro ?_
  unfold stepE
  simp only [hl]
  rw [← show tgt pc off = i by unfold tgt; omega] at h
  exact h
theorem k_ifCond_le {off : Int} (hl : look t pc = some (.ifCond .le off, l, a, b, q)) (ht : (pc : Int) + off = (i : Int)) (h : (x ≤ 0 → Rp (stepE sc (look t) rk B) call P (i, ls, st, σ)) ∧ (¬ (x ≤ 0) → Rp (stepE sc (look t) rk B) call P (pc + l, ls, st, σ))) : Rp (stepE sc (look t) rk B) call P (pc, ls, .inl x :: st, σ) := by
  refine Rp.intro ?_
  unfold stepE
  simp only [hl]
  rw [← show tgt pc off = i by unfold tgt; omega] at h
  exact h
theorem k_if_icmp_le {off : Int} (hl : look t pc = some (.if_icmp .le off, l, a, b, q)) (ht : (pc : Int) + off = (i : Int)) (h : (x ≤ y → Rp (stepE sc (look t) rk B) call P (i, ls, st, σ)) ∧ (¬ (x ≤ y) → Rp (stepE sc (look t) rk B) call P (pc + l, ls, st, σ))) : Rp (stepE sc (look t) rk B) call P (pc, ls, .inl y :: .inl x :: st, σ) := by
  refine Rp.intro ?_
  unfold stepE
  simp only [hl]
  rw [← show tgt pc off = i by unfold tgt; omega] at h
  exact h
theorem k_if_acmp_eq {off : Int} (hl : look t pc = some (.if_acmp .eq off, l, a, b, q)) (ho : (isOb r && isOb r2) = true) (ht : (pc : Int) + off = (i : Int)) (h : (r = r2 → Rp (stepE sc (look t) rk B) call P (i, ls, st, σ)) ∧ (¬ (r = r2) → Rp (stepE sc (look t) rk B) call P (pc + l, ls, st, σ))) : Rp (stepE sc (look t) rk B) call P (pc, ls, .inr (.inr (.inl r2)) :: .inr (.inr (.inl r)) :: st, σ) := by
  refine Rp.intro ?_
  unfold stepE
  simp only [hl]
  rw [← show tgt pc off = i by unfold tgt; omega] at h
  unfold when
  rw [ho]
  exact h
theorem k_if_acmp_ne {off : Int} (hl : look t pc = some (.if_acmp .ne off, l, a, b, q)) (ho : (isOb r && isOb r2) = true) (ht : (pc : Int) + off = (i : Int)) (h : (¬ r = r2 → Rp (stepE sc (look t) rk B) call P (i, ls, st, σ)) ∧ (¬ (¬ r = r2) → Rp (stepE sc (look t) rk B) call P (pc + l, ls, st, σ))) : Rp (stepE sc (look t) rk B) call P (pc, ls, .inr (.inr (.inl r2)) :: .inr (.inr (.inl r)) :: st, σ) := by
  refine Rp.intro ?_
  unfold stepE
  simp only [hl]
  rw [← show tgt pc off = i by unfold tgt; omega] at h
  unfold when
  rw [ho]
  exact h
theorem k_ifnull {off : Int} (hl : look t pc = some (.ifnull off, l, a, b, q)) (ht : (pc : Int) + off = (i : Int)) (h : (r = none → Rp (stepE sc (look t) rk B) call P (i, ls, st, σ)) ∧ (¬ (r = none) → Rp (stepE sc (look t) rk B) call P (pc + l, ls, st, σ))) : Rp (stepE sc (look t) rk B) call P (pc, ls, .inr (.inr (.inl r)) :: st, σ) := by
  refine Rp.intro ?_
  unfold stepE
  simp only [hl]
  rw [← show tgt pc off = i by unfold tgt; omega] at h
  exact h
theorem k_ifnonnull {off : Int} (hl : look t pc = some (.ifnonnull off, l, a, b, q)) (ht : (pc : Int) + off = (i : Int)) (h : (¬ r = none → Rp (stepE sc (look t) rk B) call P (i, ls, st, σ)) ∧ (¬ (¬ r = none) → Rp (stepE sc (look t) rk B) call P (pc + l, ls, st, σ))) : Rp (stepE sc (look t) rk B) call P (pc, ls, .inr (.inr (.inl r)) :: st, σ) := by
  refine Rp.intro ?_
  unfold stepE
  simp only [hl]
  rw [← show tgt pc off = i by unfold tgt; omega] at h
  exact h
theorem k_goto {off : Int} (hl : look t pc = some (.goto off, l, a, b, q)) (ht : (pc : Int) + off = (i : Int)) (k : Rp (stepE sc (look t) rk B) call P (i, ls, st, σ)) : Rp (stepE sc (look t) rk B) call P (pc, ls, st, σ) := by
  refine Rp.intro ?_
  unfold stepE
  simp only [hl]
  rw [← show tgt pc off = i by unfold tgt; omega] at k
  exact k
theorem k_iinc_0 (hl : look t pc = some (.iinc n y, l, a, b, q)) (hv : nth ls n = .inl x) (g : InI (x + y)) (h0 : n = 0) (hs : ls.set 0 (.inl (x + y)) = ls') (k : Rp (stepE sc (look t) rk B) call P (pc + l, ls', st, σ)) : Rp (stepE sc (look t) rk B) call P (pc, ls, st, σ) := by
  refine Rp.intro ?_
  unfold stepE
  simp only [hl]
  rw [hv]
  show _ ∧ Rp _ _ _ (pc + l, lput ls n (.inl (x + y)), st, σ)
  refine ⟨g, ?_⟩
  rw [h0]
  subst hs
  exact k
theorem k_iinc_s {k_ : Nat} (hl : look t pc = some (.iinc n y, l, a, b, q)) (hv : nth ls n = .inl x) (g : InI (x + y)) (h0 : n = k_ + 1) (hw : nth ls k_ = w) (hL : isL w = false) (hs : ls.set (k_ + 1) (.inl (x + y)) = ls') (k : Rp (stepE sc (look t) rk B) call P (pc + l, ls', st, σ)) : Rp (stepE sc (look t) rk B) call P (pc, ls, st, σ) := by
  refine Rp.intro ?_
  unfold stepE
  simp only [hl]
  rw [hv]
  show _ ∧ Rp _ _ _ (pc + l, lput ls n (.inl (x + y)), st, σ)
  refine ⟨g, ?_⟩
  have e : lput ls (k_ + 1) (.inl (x + y)) = ls.set (k_ + 1) (.inl (x + y)) := by unfold lput; rw [kill_f (by rw [hw]; exact hL)]
  rw [h0, e]
  subst hs
  exact k
theorem k_dup_i (hl : look t pc = some (.dup, l, a, b, q))  (k : Rp (stepE sc (look t) rk B) call P (pc + l, ls, .inl x :: .inl x :: st, σ)) : Rp (stepE sc (look t) rk B) call P (pc, ls, .inl x :: st, σ) := by
  refine Rp.intro ?_
  unfold stepE
  simp only [hl]
  exact k
theorem k_dup_a (hl : look t pc = some (.dup, l, a, b, q))  (k : Rp (stepE sc (look t) rk B) call P (pc + l, ls, .inr (.inr (.inl r)) :: .inr (.inr (.inl r)) :: st, σ)) : Rp (stepE sc (look t) rk B) call P (pc, ls, .inr (.inr (.inl r)) :: st, σ) := by
  refine Rp.intro ?_
  unfold stepE
  simp only [hl]
  exact k
theorem k_pop_i (hl : look t pc = some (.pop, l, a, b, q))  (k : Rp (stepE sc (look t) rk B) call P (pc + l, ls, st, σ)) : Rp (stepE sc (look t) rk B) call P (pc, ls, .inl x :: st, σ) := by
  refine Rp.intro ?_
  unfold stepE
  simp only [hl]
  exact k
theorem k_pop_a (hl : look t pc = some (.pop, l, a, b, q))  (k : Rp (stepE sc (look t) rk B) call P (pc + l, ls, st, σ)) : Rp (stepE sc (look t) rk B) call P (pc, ls, .inr (.inr (.inl r)) :: st, σ) := by
  refine Rp.intro ?_
  unfold stepE
  simp only [hl]
  exact k
theorem k_dup2 (hl : look t pc = some (.dup2, l, a, b, q))  (k : Rp (stepE sc (look t) rk B) call P (pc + l, ls, .inl y :: .inr (.inr (.inl r)) :: .inl y :: .inr (.inr (.inl r)) :: st, σ)) : Rp (stepE sc (look t) rk B) call P (pc, ls, .inl y :: .inr (.inr (.inl r)) :: st, σ) := by
  refine Rp.intro ?_
  unfold stepE
  simp only [hl]
  exact k
theorem k_pop2 (hl : look t pc = some (.pop2, l, a, b, q))  (k : Rp (stepE sc (look t) rk B) call P (pc + l, ls, st, σ)) : Rp (stepE sc (look t) rk B) call P (pc, ls, .inr (.inl x) :: st, σ) := by
  refine Rp.intro ?_
  unfold stepE
  simp only [hl]
  exact k
theorem k_getfield_a (hl : look t pc = some (.getfield n, l, a, b, q)) (hc : Nat.beq c a = true) (h1 : Nat.beq c 100 = false) (h4 : Nat.beq (b % 8) 4 = true) (hr : σ.2.2.1 c i (b / 8) = r) (k : Rp (stepE sc (look t) rk B) call P (pc + l, ls, (.inr (.inr (.inl r))) :: st, σ)) : Rp (stepE sc (look t) rk B) call P (pc, ls, .inr (.inr (.inl (some (c, i)))) :: st, σ) := by
  refine Rp.intro ?_
  unfold stepE
  simp only [hl]
  show wE call P _ (when σ (Nat.beq c a) _)
  rw [hc]
  show wE call P _ (match Nat.beq c 100 with | true => _ | false => getE (b % 8) c i (b / 8) (pc + l) ls st σ)
  rw [h1]
  show wE call P _ (getE (b % 8) c i (b / 8) (pc + l) ls st σ)
  unfold getE
  rw [h4]
  subst hr
  exact k
theorem k_getfield_l (hl : look t pc = some (.getfield n, l, a, b, q)) (hc : Nat.beq c a = true) (h1 : Nat.beq c 100 = false) (h4 : Nat.beq (b % 8) 4 = false) (h3 : Nat.beq (b % 8) 3 = true) (hr : σ.2.2.2 c i (b / 8) = x) (k : Rp (stepE sc (look t) rk B) call P (pc + l, ls, (.inr (.inl x)) :: st, σ)) : Rp (stepE sc (look t) rk B) call P (pc, ls, .inr (.inr (.inl (some (c, i)))) :: st, σ) := by
  refine Rp.intro ?_
  unfold stepE
  simp only [hl]
  show wE call P _ (when σ (Nat.beq c a) _)
  rw [hc]
  show wE call P _ (match Nat.beq c 100 with | true => _ | false => getE (b % 8) c i (b / 8) (pc + l) ls st σ)
  rw [h1]
  show wE call P _ (getE (b % 8) c i (b / 8) (pc + l) ls st σ)
  unfold getE
  rw [h4, h3]
  subst hr
  exact k
theorem k_getfield_i (hl : look t pc = some (.getfield n, l, a, b, q)) (hc : Nat.beq c a = true) (h1 : Nat.beq c 100 = false) (h4 : Nat.beq (b % 8) 4 = false) (h3 : Nat.beq (b % 8) 3 = false) (hr : σ.2.2.2 c i (b / 8) = x) (k : Rp (stepE sc (look t) rk B) call P (pc + l, ls, (.inl x) :: st, σ)) : Rp (stepE sc (look t) rk B) call P (pc, ls, .inr (.inr (.inl (some (c, i)))) :: st, σ) := by
  refine Rp.intro ?_
  unfold stepE
  simp only [hl]
  show wE call P _ (when σ (Nat.beq c a) _)
  rw [hc]
  show wE call P _ (match Nat.beq c 100 with | true => _ | false => getE (b % 8) c i (b / 8) (pc + l) ls st σ)
  rw [h1]
  show wE call P _ (getE (b % 8) c i (b / 8) (pc + l) ls st σ)
  unfold getE
  rw [h4, h3]
  subst hr
  exact k
theorem k_getfield_sv (hl : look t pc = some (.getfield n, l, a, b, q)) (hc : Nat.beq 100 a = true) (hb : Nat.beq b 4 = true) (k : Rp (stepE sc (look t) rk B) call P (pc + l, ls, (.inr (.inr (.inl (some (101, i))))) :: st, σ)) : Rp (stepE sc (look t) rk B) call P (pc, ls, .inr (.inr (.inl (some (100, i)))) :: st, σ) := by
  refine Rp.intro ?_
  unfold stepE
  simp only [hl]
  show wE call P _ (when σ (Nat.beq 100 a) _)
  rw [hc]
  show wE call P _ (match Nat.beq b 4 with | true => nx (pc + l) ls (.inr (.inr (.inl (some (101, i)))) :: st) σ | false => nx (pc + l) ls (.inl 0 :: st) σ)
  rw [hb]
  exact k
theorem k_getfield_sc (hl : look t pc = some (.getfield n, l, a, b, q)) (hc : Nat.beq 100 a = true) (hb : Nat.beq b 4 = false) (k : Rp (stepE sc (look t) rk B) call P (pc + l, ls, (.inl 0) :: st, σ)) : Rp (stepE sc (look t) rk B) call P (pc, ls, .inr (.inr (.inl (some (100, i)))) :: st, σ) := by
  refine Rp.intro ?_
  unfold stepE
  simp only [hl]
  show wE call P _ (when σ (Nat.beq 100 a) _)
  rw [hc]
  show wE call P _ (match Nat.beq b 4 with | true => nx (pc + l) ls (.inr (.inr (.inl (some (101, i)))) :: st) σ | false => nx (pc + l) ls (.inl 0 :: st) σ)
  rw [hb]
  exact k
theorem k_putfield_a (hl : look t pc = some (.putfield n, l, a, b, q)) (hc : Nat.beq c a = true) (h4 : Nat.beq (b % 8) 4 = true) (k : Rp (stepE sc (look t) rk B) call P (pc + l, ls, st, setR σ c i (b / 8) r)) : Rp (stepE sc (look t) rk B) call P (pc, ls, (.inr (.inr (.inl r))) :: .inr (.inr (.inl (some (c, i)))) :: st, σ) := by
  refine Rp.intro ?_
  unfold stepE
  simp only [hl]
  show wE call P _ (when σ (Nat.beq c a) (putE (b % 8) c i (b / 8) (.inr (.inr (.inl r))) (pc + l) ls st σ))
  rw [hc]
  show wE call P _ (putE (b % 8) c i (b / 8) (.inr (.inr (.inl r))) (pc + l) ls st σ)
  unfold putE
  rw [h4]
  exact k
theorem k_putfield_l (hl : look t pc = some (.putfield n, l, a, b, q)) (hc : Nat.beq c a = true) (h4 : Nat.beq (b % 8) 4 = false) (h3 : Nat.beq (b % 8) 3 = true) (k : Rp (stepE sc (look t) rk B) call P (pc + l, ls, st, setM σ c i (b / 8) x)) : Rp (stepE sc (look t) rk B) call P (pc, ls, (.inr (.inl x)) :: .inr (.inr (.inl (some (c, i)))) :: st, σ) := by
  refine Rp.intro ?_
  unfold stepE
  simp only [hl]
  show wE call P _ (when σ (Nat.beq c a) (putE (b % 8) c i (b / 8) (.inr (.inl x)) (pc + l) ls st σ))
  rw [hc]
  show wE call P _ (putE (b % 8) c i (b / 8) (.inr (.inl x)) (pc + l) ls st σ)
  unfold putE
  rw [h4, h3]
  exact k
theorem k_putfield_z (hl : look t pc = some (.putfield n, l, a, b, q)) (hc : Nat.beq c a = true) (h4 : Nat.beq (b % 8) 4 = false) (h3 : Nat.beq (b % 8) 3 = false) (h1 : Nat.beq (b % 8) 1 = true) (g : x = 0 ∨ x = 1) (k : Rp (stepE sc (look t) rk B) call P (pc + l, ls, st, setM σ c i (b / 8) x)) : Rp (stepE sc (look t) rk B) call P (pc, ls, (.inl x) :: .inr (.inr (.inl (some (c, i)))) :: st, σ) := by
  refine Rp.intro ?_
  unfold stepE
  simp only [hl]
  show wE call P _ (when σ (Nat.beq c a) (putE (b % 8) c i (b / 8) (.inl x) (pc + l) ls st σ))
  rw [hc]
  show wE call P _ (putE (b % 8) c i (b / 8) (.inl x) (pc + l) ls st σ)
  unfold putE
  rw [h4, h3]
  show wE call P _ (gB (b % 8) x (pc + l) ls st (setM σ c i (b / 8) x))
  unfold gB
  rw [h1]
  exact ⟨g, k⟩
theorem k_putfield_i (hl : look t pc = some (.putfield n, l, a, b, q)) (hc : Nat.beq c a = true) (h4 : Nat.beq (b % 8) 4 = false) (h3 : Nat.beq (b % 8) 3 = false) (h1 : Nat.beq (b % 8) 1 = false) (k : Rp (stepE sc (look t) rk B) call P (pc + l, ls, st, setM σ c i (b / 8) x)) : Rp (stepE sc (look t) rk B) call P (pc, ls, (.inl x) :: .inr (.inr (.inl (some (c, i)))) :: st, σ) := by
  refine Rp.intro ?_
  unfold stepE
  simp only [hl]
  show wE call P _ (when σ (Nat.beq c a) (putE (b % 8) c i (b / 8) (.inl x) (pc + l) ls st σ))
  rw [hc]
  show wE call P _ (putE (b % 8) c i (b / 8) (.inl x) (pc + l) ls st σ)
  unfold putE
  rw [h4, h3]
  show wE call P _ (gB (b % 8) x (pc + l) ls st (setM σ c i (b / 8) x))
  unfold gB
  rw [h1]
  exact k
theorem k_getstatic_1 (hl : look t pc = some (.getstatic n, l, a, b, q)) (ha : Nat.beq a 0 = true) (k : Rp (stepE sc (look t) rk B) call P (pc + l, ls, .inl 1 :: st, σ)) : Rp (stepE sc (look t) rk B) call P (pc, ls, st, σ) := by
  refine Rp.intro ?_
  unfold stepE
  simp only [hl]
  rw [ha]
  exact k
theorem k_getstatic_t (hl : look t pc = some (.getstatic n, l, a, b, q)) (ha : Nat.beq a 0 = false) (hb : Nat.beq a 1 = true) (k : Rp (stepE sc (look t) rk B) call P (pc + l, ls, .inr (.inr (.inl (some (102, b)))) :: st, σ)) : Rp (stepE sc (look t) rk B) call P (pc, ls, st, σ) := by
  refine Rp.intro ?_
  unfold stepE
  simp only [hl]
  rw [ha, hb]
  exact k
theorem k_getstatic_f (hl : look t pc = some (.getstatic n, l, a, b, q)) (ha : Nat.beq a 0 = false) (hb : Nat.beq a 1 = false) (k : Rp (stepE sc (look t) rk B) call P (pc + l, ls, .inr (.inr (.inl sc.2)) :: st, σ)) : Rp (stepE sc (look t) rk B) call P (pc, ls, st, σ) := by
  refine Rp.intro ?_
  unfold stepE
  simp only [hl]
  rw [ha, hb]
  exact k
theorem k_iaload (hl : look t pc = some (.iaload, l, a, b, q)) (hc : (Nat.ble 20 c && Nat.beq (atc c) 0) = true) {m_ : Int} (hm : ((alen sc c i : Nat) : Int) = m_) (g : 0 ≤ y ∧ y < m_) (hx : ard sc σ c i y.toNat = x) (k : Rp (stepE sc (look t) rk B) call P (pc + l, ls, .inl x :: st, σ)) : Rp (stepE sc (look t) rk B) call P (pc, ls, .inl y :: .inr (.inr (.inl (some (c, i)))) :: st, σ) := by
  refine Rp.intro ?_
  unfold stepE
  simp only [hl]
  show wE call P _ (when σ (Nat.ble 20 c && Nat.beq (atc c) 0) _)
  rw [hc]
  subst hx
  subst hm
  exact ⟨g, k⟩
theorem k_baload (hl : look t pc = some (.baload, l, a, b, q)) (hc : (Nat.beq (atc c) 1 || Nat.beq (atc c) 2) = true) {m_ : Int} (hm : ((alen sc c i : Nat) : Int) = m_) (g : 0 ≤ y ∧ y < m_) (hx : ard sc σ c i y.toNat = x) (k : Rp (stepE sc (look t) rk B) call P (pc + l, ls, .inl x :: st, σ)) : Rp (stepE sc (look t) rk B) call P (pc, ls, .inl y :: .inr (.inr (.inl (some (c, i)))) :: st, σ) := by
  refine Rp.intro ?_
  unfold stepE
  simp only [hl]
  show wE call P _ (when σ (Nat.beq (atc c) 1 || Nat.beq (atc c) 2) _)
  rw [hc]
  subst hx
  subst hm
  exact ⟨g, k⟩
theorem k_laload (hl : look t pc = some (.laload, l, a, b, q)) (hc : (Nat.blt c 100 && Nat.beq (aty c) 3) = true) {m_ : Int} (hm : ((slen c i : Nat) : Int) = m_) (g : 0 ≤ y ∧ y < m_) (k : Rp (stepE sc (look t) rk B) call P (pc + l, ls, .inr (.inl (σ.2.2.2 c i y.toNat)) :: st, σ)) : Rp (stepE sc (look t) rk B) call P (pc, ls, .inl y :: .inr (.inr (.inl (some (c, i)))) :: st, σ) := by
  refine Rp.intro ?_
  unfold stepE
  simp only [hl]
  show wE call P _ (when σ (Nat.blt c 100 && Nat.beq (aty c) 3) _)
  rw [hc]
  subst hm
  exact ⟨g, k⟩
theorem k_aaload (hl : look t pc = some (.aaload, l, a, b, q)) (hc : (Nat.blt c 100 && Nat.ble 4 (aty c)) = true) {m_ : Int} (hm : ((slen c i : Nat) : Int) = m_) (g : 0 ≤ y ∧ y < m_) (k : Rp (stepE sc (look t) rk B) call P (pc + l, ls, .inr (.inr (.inl (σ.2.2.1 c i y.toNat))) :: st, σ)) : Rp (stepE sc (look t) rk B) call P (pc, ls, .inl y :: .inr (.inr (.inl (some (c, i)))) :: st, σ) := by
  refine Rp.intro ?_
  unfold stepE
  simp only [hl]
  show wE call P _ (when σ (Nat.blt c 100 && Nat.ble 4 (aty c)) _)
  rw [hc]
  subst hm
  exact ⟨g, k⟩
theorem k_iastore (hl : look t pc = some (.iastore, l, a, b, q)) (hc : (Nat.blt c 100 && (Nat.ble 20 c && Nat.beq (aty c) 0)) = true) {m_ : Int} (hm : ((slen c i : Nat) : Int) = m_) (g : 0 ≤ y ∧ y < m_) (k : Rp (stepE sc (look t) rk B) call P (pc + l, ls, st, setM σ c i y.toNat x)) : Rp (stepE sc (look t) rk B) call P (pc, ls, .inl x :: .inl y :: .inr (.inr (.inl (some (c, i)))) :: st, σ) := by
  refine Rp.intro ?_
  unfold stepE
  simp only [hl]
  show wE call P _ (when σ (Nat.blt c 100 && (Nat.ble 20 c && Nat.beq (aty c) 0)) _)
  rw [hc]
  subst hm
  exact ⟨g, k⟩
theorem k_lastore (hl : look t pc = some (.lastore, l, a, b, q)) (hc : (Nat.blt c 100 && Nat.beq (aty c) 3) = true) {m_ : Int} (hm : ((slen c i : Nat) : Int) = m_) (g : 0 ≤ y ∧ y < m_) (k : Rp (stepE sc (look t) rk B) call P (pc + l, ls, st, setM σ c i y.toNat x)) : Rp (stepE sc (look t) rk B) call P (pc, ls, .inr (.inl x) :: .inl y :: .inr (.inr (.inl (some (c, i)))) :: st, σ) := by
  refine Rp.intro ?_
  unfold stepE
  simp only [hl]
  show wE call P _ (when σ (Nat.blt c 100 && Nat.beq (aty c) 3) _)
  rw [hc]
  subst hm
  exact ⟨g, k⟩
theorem k_bastore_z (hl : look t pc = some (.bastore, l, a, b, q)) (h1 : Nat.blt c 100 = true) (h2 : Nat.beq (aty c) 1 = true) {m_ : Int} (hm : ((slen c i : Nat) : Int) = m_) (g : (0 ≤ y ∧ y < m_) ∧ (x = 0 ∨ x = 1)) (k : Rp (stepE sc (look t) rk B) call P (pc + l, ls, st, setM σ c i y.toNat x)) : Rp (stepE sc (look t) rk B) call P (pc, ls, .inl x :: .inl y :: .inr (.inr (.inl (some (c, i)))) :: st, σ) := by
  refine Rp.intro ?_
  unfold stepE
  simp only [hl]
  show wE call P _ (when σ (Nat.blt c 100) (match Nat.beq (aty c) 1 with | true => gx ((0 ≤ y ∧ y < ((slen c i : Nat) : Int)) ∧ (x = 0 ∨ x = 1)) (pc + l) ls st (setM σ c i y.toNat x) | false => when σ (Nat.beq (aty c) 2) (gx ((0 ≤ y ∧ y < ((slen c i : Nat) : Int)) ∧ (-128 ≤ x ∧ x ≤ 127)) (pc + l) ls st (setM σ c i y.toNat x))))
  rw [h1, h2]
  subst hm
  exact ⟨g, k⟩
theorem k_bastore_b (hl : look t pc = some (.bastore, l, a, b, q)) (h1 : Nat.blt c 100 = true) (h2 : Nat.beq (aty c) 1 = false) (h3 : Nat.beq (aty c) 2 = true) {m_ : Int} (hm : ((slen c i : Nat) : Int) = m_) (g : (0 ≤ y ∧ y < m_) ∧ (-128 ≤ x ∧ x ≤ 127)) (k : Rp (stepE sc (look t) rk B) call P (pc + l, ls, st, setM σ c i y.toNat x)) : Rp (stepE sc (look t) rk B) call P (pc, ls, .inl x :: .inl y :: .inr (.inr (.inl (some (c, i)))) :: st, σ) := by
  refine Rp.intro ?_
  unfold stepE
  simp only [hl]
  show wE call P _ (when σ (Nat.blt c 100) (match Nat.beq (aty c) 1 with | true => gx ((0 ≤ y ∧ y < ((slen c i : Nat) : Int)) ∧ (x = 0 ∨ x = 1)) (pc + l) ls st (setM σ c i y.toNat x) | false => when σ (Nat.beq (aty c) 2) (gx ((0 ≤ y ∧ y < ((slen c i : Nat) : Int)) ∧ (-128 ≤ x ∧ x ≤ 127)) (pc + l) ls st (setM σ c i y.toNat x))))
  rw [h1, h2, h3]
  subst hm
  exact ⟨g, k⟩
theorem k_aastore {c2 i2 : Nat} (hl : look t pc = some (.aastore, l, a, b, q)) (hc : (Nat.blt c 100 && ((Nat.beq (aty c) 4 && Nat.beq c2 9) || (Nat.beq (aty c) 5 && Nat.beq c2 6))) = true) {m_ : Int} (hm : ((slen c i : Nat) : Int) = m_) (g : 0 ≤ y ∧ y < m_) (k : Rp (stepE sc (look t) rk B) call P (pc + l, ls, st, setR σ c i y.toNat (some (c2, i2)))) : Rp (stepE sc (look t) rk B) call P (pc, ls, .inr (.inr (.inl (some (c2, i2)))) :: .inl y :: .inr (.inr (.inl (some (c, i)))) :: st, σ) := by
  refine Rp.intro ?_
  unfold stepE
  simp only [hl]
  show wE call P _ (when σ (Nat.blt c 100 && ((Nat.beq (aty c) 4 && Nat.beq c2 9) || (Nat.beq (aty c) 5 && Nat.beq c2 6))) _)
  rw [hc]
  subst hm
  exact ⟨g, k⟩
theorem k_arraylength (hl : look t pc = some (.arraylength, l, a, b, q)) (hc : (Nat.ble 20 c && (Nat.blt c 100 || (Nat.beq c 101 || (Nat.beq c 102 || Nat.beq c 103)))) = true) (hx : ((alen sc c i : Nat) : Int) = x) (k : Rp (stepE sc (look t) rk B) call P (pc + l, ls, .inl x :: st, σ)) : Rp (stepE sc (look t) rk B) call P (pc, ls, .inr (.inr (.inl (some (c, i)))) :: st, σ) := by
  refine Rp.intro ?_
  unfold stepE
  simp only [hl]
  show wE call P _ (when σ (Nat.ble 20 c && (Nat.blt c 100 || (Nat.beq c 101 || (Nat.beq c 102 || Nat.beq c 103)))) _)
  rw [hc]
  subst hx
  exact k
theorem k_new (hl : look t pc = some (.new n, l, a, b, q)) (g : roomE B σ a (nfl a)) (k : Rp (stepE sc (look t) rk B) call P (pc + l, ls, .inr (.inr (.inl (some (a, σ.2.1 a)))) :: st, born σ a (nfl a))) : Rp (stepE sc (look t) rk B) call P (pc, ls, st, σ) := by
  refine Rp.intro ?_
  unfold stepE
  simp only [hl]
  exact ⟨g, k⟩
theorem k_newarray {ty : ArrayType} (hl : look t pc = some (.newarray ty, l, a, b, q)) (g : x = ((slen a (σ.2.1 a) : Nat) : Int) ∧ roomE B σ a (slen a (σ.2.1 a))) (k : Rp (stepE sc (look t) rk B) call P (pc + l, ls, .inr (.inr (.inl (some (a, σ.2.1 a)))) :: st, born σ a (slen a (σ.2.1 a)))) : Rp (stepE sc (look t) rk B) call P (pc, ls, .inl x :: st, σ) := by
  refine Rp.intro ?_
  unfold stepE
  simp only [hl]
  exact ⟨g, k⟩
theorem k_anewarray (hl : look t pc = some (.anewarray n, l, a, b, q)) (g : x = ((slen a (σ.2.1 a) : Nat) : Int) ∧ roomE B σ a (slen a (σ.2.1 a))) (k : Rp (stepE sc (look t) rk B) call P (pc + l, ls, .inr (.inr (.inl (some (a, σ.2.1 a)))) :: st, born σ a (slen a (σ.2.1 a)))) : Rp (stepE sc (look t) rk B) call P (pc, ls, .inl x :: st, σ) := by
  refine Rp.intro ?_
  unfold stepE
  simp only [hl]
  exact ⟨g, k⟩
theorem k_invokevirtual {rest as : List AV} (hl : look t pc = some (.invokevirtual n, l, a, b, q)) (h1 : Nat.ble b st.length = true) (h2 : st.drop b = .inr (.inr (.inl (some (c, i)))) :: rest) (h3 : (st.take b).reverse = as) (h4 : Nat.beq c (a / 1000) = true) (h5 : rest.length ≤ 4) (h6 : (Nat.beq (bud a).1 0 && Nat.beq (bud a).2 0) = true) (h : call a (.inr (.inr (.inl (some (c, i)))) :: as) ((σ.1.1, 0, 0), σ.2) (fun r τ => Rp (stepE sc (look t) rk B) call P (pc + 3, ls, r.toList ++ rest, ((τ.1.1, σ.1.2), τ.2)))) : Rp (stepE sc (look t) rk B) call P (pc, ls, st, σ) := by
  refine Rp.intro ?_
  unfold stepE
  simp only [hl]
  show wE call P _ (invE B a b pc ls st σ)
  unfold invE
  rw [h1, h2]
  show wE call P _ (when σ (Nat.beq c (a / 1000)) (callE B a (.inr (.inr (.inl (some (c, i)))) :: (st.take b).reverse) rest pc ls σ))
  rw [h4, h3]
  show wE call P _ (callE B a (.inr (.inr (.inl (some (c, i)))) :: as) rest pc ls σ)
  unfold callE
  rw [cats_8 h5]
  show wE call P _ (match (Nat.beq (bud a).1 0 && Nat.beq (bud a).2 0) with | true => _ | false => _)
  rw [h6]
  exact h
theorem k_invokespecial {rest as : List AV} (hl : look t pc = some (.invokespecial n, l, a, b, q)) (h0 : Nat.beq a 999999 = false) (h1 : Nat.ble b st.length = true) (h2 : st.drop b = .inr (.inr (.inl (some (c, i)))) :: rest) (h3 : (st.take b).reverse = as) (h4 : Nat.beq c (a / 1000) = true) (h5 : rest.length ≤ 4) (h6 : (Nat.beq (bud a).1 0 && Nat.beq (bud a).2 0) = true) (h : call a (.inr (.inr (.inl (some (c, i)))) :: as) ((σ.1.1, 0, 0), σ.2) (fun r τ => Rp (stepE sc (look t) rk B) call P (pc + 3, ls, r.toList ++ rest, ((τ.1.1, σ.1.2), τ.2)))) : Rp (stepE sc (look t) rk B) call P (pc, ls, st, σ) := by
  refine Rp.intro ?_
  unfold stepE
  simp only [hl]
  rw [h0]
  show wE call P _ (invE B a b pc ls st σ)
  unfold invE
  rw [h1, h2]
  show wE call P _ (when σ (Nat.beq c (a / 1000)) (callE B a (.inr (.inr (.inl (some (c, i)))) :: (st.take b).reverse) rest pc ls σ))
  rw [h4, h3]
  show wE call P _ (callE B a (.inr (.inr (.inl (some (c, i)))) :: as) rest pc ls σ)
  unfold callE
  rw [cats_8 h5]
  show wE call P _ (match (Nat.beq (bud a).1 0 && Nat.beq (bud a).2 0) with | true => _ | false => _)
  rw [h6]
  exact h
theorem k_invokestatic {rest as : List AV} (hl : look t pc = some (.invokestatic n, l, a, b, q)) (h1 : Nat.ble b st.length = true) (h2 : st.drop b = rest) (h3 : (st.take b).reverse = as) (h5 : rest.length ≤ 4) (h6 : (Nat.beq (bud a).1 0 && Nat.beq (bud a).2 0) = true) (h : call a as ((σ.1.1, 0, 0), σ.2) (fun r τ => Rp (stepE sc (look t) rk B) call P (pc + 3, ls, r.toList ++ rest, ((τ.1.1, σ.1.2), τ.2)))) : Rp (stepE sc (look t) rk B) call P (pc, ls, st, σ) := by
  refine Rp.intro ?_
  unfold stepE
  simp only [hl]
  show wE call P _ (invS B a b pc ls st σ)
  unfold invS
  rw [h1, h2, h3]
  show wE call P _ (callE B a as rest pc ls σ)
  unfold callE
  rw [cats_8 h5]
  show wE call P _ (match (Nat.beq (bud a).1 0 && Nat.beq (bud a).2 0) with | true => _ | false => _)
  rw [h6]
  exact h
theorem k_objInit (hl : look t pc = some (.invokespecial n, l, a, b, q)) (h0 : Nat.beq a 999999 = true) (h5 : st.length ≤ 4) (k : Rp (stepE sc (look t) rk B) call P (pc + l, ls, st, σ)) : Rp (stepE sc (look t) rk B) call P (pc, ls, .inr (.inr (.inl (some (c, i)))) :: st, σ) := by
  refine Rp.intro ?_
  unfold stepE
  simp only [hl]
  rw [h0]
  show wE call P _ (when σ (Nat.ble (cats st) 8) (nx (pc + l) ls st σ))
  rw [cats_8 h5]
  exact k
theorem k_make {rest as : List AV} (hl : look t pc = some (.invokespecial n, l, a, b, q)) (h0 : Nat.beq a 999999 = false) (h1 : Nat.ble b st.length = true) (h2 : st.drop b = .inr (.inr (.inl (some (c, i)))) :: rest) (h3 : (st.take b).reverse = as) (h4 : Nat.beq c (a / 1000) = true) (h5 : rest.length ≤ 4) (h6 : (Nat.beq (bud a).1 0 && Nat.beq (bud a).2 0) = false) (g : σ.1.2.1 + (bud a).1 ≤ B.1 ∧ σ.1.2.2 + (bud a).2 ≤ B.2) (h : call a (.inr (.inr (.inl (some (c, i)))) :: as) ((σ.1.1, 0, 0), σ.2) (fun r τ => Rp (stepE sc (look t) rk B) call P (pc + 3, ls, r.toList ++ rest, ((τ.1.1, σ.1.2.1 + (bud a).1, σ.1.2.2 + (bud a).2), τ.2)))) : Rp (stepE sc (look t) rk B) call P (pc, ls, st, σ) := by
  refine Rp.intro ?_
  unfold stepE
  simp only [hl]
  rw [h0]
  show wE call P _ (invE B a b pc ls st σ)
  unfold invE
  rw [h1, h2]
  show wE call P _ (when σ (Nat.beq c (a / 1000)) (callE B a (.inr (.inr (.inl (some (c, i)))) :: (st.take b).reverse) rest pc ls σ))
  rw [h4, h3]
  show wE call P _ (callE B a (.inr (.inr (.inl (some (c, i)))) :: as) rest pc ls σ)
  unfold callE
  rw [cats_8 h5]
  show wE call P _ (match (Nat.beq (bud a).1 0 && Nat.beq (bud a).2 0) with | true => _ | false => _)
  rw [h6]
  exact ⟨g, h⟩
theorem k_ireturn_i (hl : look t pc = some (.ireturn, l, a, b, q)) (hrk : rk = 0) (h : P (some (.inl x)) σ) : Rp (stepE sc (look t) rk B) call P (pc, ls, [.inl x], σ) := by
  refine Rp.intro ?_
  unfold stepE
  simp only [hl]
  show wE call P _ (retE rk x σ)
  rw [hrk]
  exact h
theorem k_ireturn_z (hl : look t pc = some (.ireturn, l, a, b, q)) (hrk : rk = 1) (g : x = 0 ∨ x = 1) (h : P (some (.inl x)) σ) : Rp (stepE sc (look t) rk B) call P (pc, ls, [.inl x], σ) := by
  refine Rp.intro ?_
  unfold stepE
  simp only [hl]
  show wE call P _ (retE rk x σ)
  rw [hrk]
  exact ⟨g, h⟩
theorem k_ireturn_b (hl : look t pc = some (.ireturn, l, a, b, q)) (hrk : rk = 2) (g : -128 ≤ x ∧ x ≤ 127) (h : P (some (.inl x)) σ) : Rp (stepE sc (look t) rk B) call P (pc, ls, [.inl x], σ) := by
  refine Rp.intro ?_
  unfold stepE
  simp only [hl]
  show wE call P _ (retE rk x σ)
  rw [hrk]
  exact ⟨g, h⟩
theorem k_ireturn_c (hl : look t pc = some (.ireturn, l, a, b, q)) (hrk : rk = 5) (g : 0 ≤ x ∧ x ≤ 65535) (h : P (some (.inl x)) σ) : Rp (stepE sc (look t) rk B) call P (pc, ls, [.inl x], σ) := by
  refine Rp.intro ?_
  unfold stepE
  simp only [hl]
  show wE call P _ (retE rk x σ)
  rw [hrk]
  exact ⟨g, h⟩
theorem k_lreturn (hl : look t pc = some (.lreturn, l, a, b, q)) (h : P (some (.inr (.inl x))) σ) : Rp (stepE sc (look t) rk B) call P (pc, ls, [.inr (.inl x)], σ) := by
  refine Rp.intro ?_
  unfold stepE
  simp only [hl]
  exact h
theorem k_areturn (hl : look t pc = some (.areturn, l, a, b, q)) (h : P (some (.inr (.inr (.inl r)))) σ) : Rp (stepE sc (look t) rk B) call P (pc, ls, [.inr (.inr (.inl r))], σ) := by
  refine Rp.intro ?_
  unfold stepE
  simp only [hl]
  exact h
theorem k_return_ (hl : look t pc = some (.return_, l, a, b, q)) (h : P none σ) : Rp (stepE sc (look t) rk B) call P (pc, ls, [], σ) := by
  refine Rp.intro ?_
  unfold stepE
  simp only [hl]
  exact h
theorem k_tableswitch {d0 lo hi : Int} {offs : Array Int} (hl : look t pc = some (.tableswitch d0 lo hi offs, l, a, b, q)) (h : wL call P (Rp (stepE sc (look t) rk B) call P) (swL x pc ls st σ d0 lo lo offs.toList)) : Rp (stepE sc (look t) rk B) call P (pc, ls, .inl x :: st, σ) := by
  refine Rp.intro ?_
  unfold stepE
  simp only [hl]
  exact h
end KL
