/-! SOUNDNESS, 1: pictures of the heap, contexts -/
def TB : List Jvm.Cond := lw_tbl.filter goodWord
theorem tb_in {w : Jvm.Cond} (h : w ∈ lw_tbl) (g : goodWord w = true) : w ∈ TB := List.mem_filter.mpr ⟨h, g⟩
theorem tb_good : ∀ w ∈ TB, w ∈ TB ∧ ((w.onTables && w.keeps) = true ∨ ∃ ty, w = .arrayClass ty) := fun w h => ⟨h, good_of_word (List.mem_filter.mp h).2⟩
abbrev EnvT : Type := (Nat → ClassId) × (Nat → Nat → Nat) × (Nat → ClassId) × (Nat → Nat → Nat) × Heap × Scr
abbrev eD (E : EnvT) : va_G := (E.1, E.2.1)
abbrev ecA (E : EnvT) : Nat → ClassId := E.2.2.1
abbrev eR (E : EnvT) : Nat → Nat → Nat := E.2.2.2.1
abbrev eH (E : EnvT) : Heap := E.2.2.2.2.1
abbrev esc (E : EnvT) : Scr := E.2.2.2.2.2
def adE (E : EnvT) (c i : Nat) : Nat := match Nat.ble 100 c with
  | true => eR E c i
  | false => (eH E).size + ord c i
def rfE (E : EnvT) (r : AR) : Value := va_rf (r.map (fun q => adE E q.1 q.2))
def cv (E : EnvT) : AV → Value
  | .inl a => .int (i32 a)
  | .inr (.inl a) => .long (i64 a)
  | .inr (.inr (.inl r)) => rfE E r
  | .inr (.inr (.inr _)) => .null
def fvE (E : EnvT) (σ : AS) (c i k : Nat) : Value := if fty c k = 4 then rfE E (σ.2.2.1 c i k) else if fty c k = 3 then .long (i64 (σ.2.2.2 c i k)) else .int (i32 (σ.2.2.2 c i k))
def payE (E : EnvT) (σ : AS) (c i : Nat) : (Nat → Int32) ⊕ (Nat → Int64) ⊕ (Nat → UInt32) ⊕ (Nat → UInt64) ⊕ (Nat → Option Nat) :=
  if 4 ≤ aty c then .inr (.inr (.inr (.inr (fun j => (σ.2.2.1 c i j).map (fun q => adE E q.1 q.2))))) else if aty c = 3 then .inr (.inl (fun j => i64 (σ.2.2.2 c i j))) else .inl (fun j => i32 (σ.2.2.2 c i j))
def celE (E : EnvT) (σ : AS) (c i : Nat) : va_E := if 20 ≤ c then .inl (ecA E (aty c), slen c i, payE E σ c i) else .inr (c, (List.range (nfl c)).map (fvE E σ c i))
def Pic (E : EnvT) (σ : AS) (H : Heap) : Prop := H.size = (eH E).size + σ.1.1 ∧ (∀ q : Nat, q < (eH E).size → H[q]? = (eH E)[q]?) ∧ ∀ c i : Nat, c < 100 → i < σ.2.1 c → va_at (eD E) cl (adE E c i, celE E σ c i) H
def tyA : Nat → FieldType
  | 0 => .int
  | 1 => .boolean
  | 2 => .byte
  | 3 => .long
  | 4 => .object "EchoValley$Wall"
  | _ => .object "EchoValley$Slot"
abbrev tysE (E : EnvT) : List (ClassId × FieldType) := [(ecA E 0, .int), (ecA E 1, .boolean), (ecA E 2, .byte), (ecA E 3, .long), (ecA E 4, .object "EchoValley$Wall"), (ecA E 5, .object "EchoValley$Slot")]
def isNest : Jvm.Cond → Bool
  | .fieldLinkNest .. => true
  | .methodLinkNest .. => true
  | .arrayOver (.object _) => true
  | _ => false
def aE (E : EnvT) : Nat → Prop := fun q => (eH E).size ≤ q
def ROk (E : EnvT) (U : State) : Prop :=
  vk_S 10 (strT.map List.length) (strT.map (List.map i32)) (eR E 100) (eR E 101) (aE E) U (eH E)
  ∧ (∀ k, k < 10 → vk_R "EchoValley$Reader" (idxS k) (txS k) (eR E 100 k) U)
  ∧ va_Z "java/lang/String" "COMPACT_STRINGS" "Z" (.int 1) (aE E) U (eH E)
  ∧ va_Z "jdk/internal/util/Preconditions" "SIOOBE_FORMATTER" "Ljava/util/function/BiFunction;" (rfE E (esc E).2) (aE E) U (eH E)
  ∧ (∀ k, k < 4 → va_Z "EchoValley$Reader" (nmS k) "[I" (.ref (eR E 102 k)) (aE E) U (eH E) ∧ va_T .int (eR E 102 k) (rlen 102 k) (fun j => .int (i32 (rom 102 k j))) (aE E) U (eH E))
  ∧ va_T .int (eR E 103 0) (esc E).1.1 (fun j => .int (i32 ((esc E).1.2 j))) (aE E) U (eH E)
def Kn (E : EnvT) (U : State) : Prop := va_K (eD E) cl (tysE E) U ∧ (∀ w ∈ lw_tbl, isNest w = true → va_Nw w U) ∧ ROk E U
theorem Kn.moved {E : EnvT} {u U : State} (hvm : u.vm.Alike U.vm) (hN : ∀ w, isNest w = true → va_Nw w u → va_Nw w U) (hR : ∀ own k tx a, vk_R own k tx a u → vk_R own k tx a U) (h : Kn E u) : Kn E U :=
  ⟨va_K.moved hvm h.1, fun w hw hn => hN w hn (h.2.1 w hw hn), h.2.2.1.moved hvm, fun k hk => hR _ _ _ _ (h.2.2.2.1 k hk), h.2.2.2.2.1.moved hvm, h.2.2.2.2.2.1.moved hvm, fun k hk => ⟨(h.2.2.2.2.2.2.1 k hk).1.moved hvm, (h.2.2.2.2.2.2.1 k hk).2.moved hvm⟩, h.2.2.2.2.2.2.2.moved hvm⟩
theorem Kn.warm {E : EnvT} {s U : State} (hW : s.WarmedH U.vm) (h : Kn E s) : Kn E U := by
  refine h.moved hW.alike (fun w hn hw => ?_) (fun _ _ _ _ => vk_R.warm hW)
  cases w
  case arrayOver ty =>
    cases ty
    case object C => exact va_AO.moved hW.alike hw
    all_goals (simp [isNest] at hn)
  all_goals first | exact va_Nw.warmF hW hw | exact va_Nw.warmM hW hw | (simp [isNest] at hn)
theorem Kn.same {E : EnvT} {u U : State} (hv : U.vm = u.vm) (h : Kn E u) : Kn E U := by
  refine h.moved (by rw [hv]; exact Vm.Alike.refl u.vm) (fun w hn hw => ?_) (fun _ _ _ _ => vk_R.same hv)
  cases w
  case arrayOver ty =>
    cases ty
    case object C => exact va_AO.moved (u := u) (by rw [hv]; exact Vm.Alike.refl u.vm) hw
    all_goals (simp [isNest] at hn)
  all_goals first | exact va_Nw.same rfl hv.symm hw | (simp [isNest] at hn)
/-- references that are there -/
def roV (c i : Nat) : Prop := (c = 100 ∧ i < 10) ∨ (c = 101 ∧ i < 10) ∨ (c = 102 ∧ i < 4) ∨ (c = 103 ∧ i = 0) ∨ (c = 105 ∧ i = 0)
def okr (cnt : Nat → Nat) (r : AR) : Prop := ∀ c i, r = some (c, i) → (c < 100 → i < cnt c) ∧ (100 ≤ c → roV c i)
def okv (cnt : Nat → Nat) : AV → Prop
  | .inl a => InI a
  | .inr (.inl a) => InL a
  | .inr (.inr (.inl r)) => okr cnt r
  | .inr (.inr (.inr _)) => True
def Ok (σ : AS) : Prop := (∀ c, c < 100 → σ.2.1 c ≤ cF c) ∧ (∀ c i k, i < σ.2.1 c → okr σ.2.1 (σ.2.2.1 c i k)) ∧ ∀ c i k, (isLg c = true → InL (σ.2.2.2 c i k)) ∧ (isLg c = false → InI (σ.2.2.2 c i k))
theorem okr.mono {n n' : Nat → Nat} {r : AR} (h : okr n r) (hn : ∀ c, n c ≤ n' c) : okr n' r := fun c i e => ⟨fun z => Nat.lt_of_lt_of_le ((h c i e).1 z) (hn c), (h c i e).2⟩
theorem okv.mono {n n' : Nat → Nat} {v : AV} (h : okv n v) (hn : ∀ c, n c ≤ n' c) : okv n' v := match v, h with
  | .inl _, h => h
  | .inr (.inl _), h => h
  | .inr (.inr (.inl _)), h => okr.mono h hn
  | .inr (.inr (.inr _)), _ => trivial
theorem okr_none (n : Nat → Nat) : okr n none := fun c i e => by cases e
/-! numbers -/
theorem i32_inj {a b : Int} (ha : InI a) (hb : InI b) : i32 a = i32 b ↔ a = b := by
  refine ⟨fun h => ?_, fun h => by rw [h]⟩
  have h1 := congrArg Int32.toInt h
  unfold i32 at h1
  rw [Int32.toInt_ofInt_of_le (by omega) (by omega), Int32.toInt_ofInt_of_le (by omega) (by omega)] at h1
  exact h1
theorem i32_to {a : Int} (ha : InI a) : (i32 a).toInt = a := by
  unfold i32
  rw [Int32.toInt_ofInt_of_le (by omega) (by omega)]
theorem i64_to {a : Int} (ha : InL a) : (i64 a).toInt = a := by
  unfold i64
  rw [Int64.toInt_ofInt_of_le (by omega) (by omega)]
theorem i32_lt {a b : Int} (ha : InI a) (hb : InI b) : i32 a < i32 b ↔ a < b := by rw [Int32.lt_iff_toInt_lt, i32_to ha, i32_to hb]
theorem i32_le {a b : Int} (ha : InI a) (hb : InI b) : i32 a ≤ i32 b ↔ a ≤ b := by rw [Int32.le_iff_toInt_le, i32_to ha, i32_to hb]
theorem i32_of (x : Int32) : i32 x.toInt = x := by unfold i32; exact Int32.ofInt_toInt x
theorem i64_of (x : Int64) : i64 x.toInt = x := by unfold i64; exact Int64.ofInt_toInt x
theorem i32_in (x : Int32) : InI x.toInt := ⟨Int32.le_toInt x, by have := Int32.toInt_lt x; omega⟩
theorem i64_in (x : Int64) : InL x.toInt := ⟨Int64.le_toInt x, by have := Int64.toInt_lt x; omega⟩
theorem i32_add (a b : Int) : i32 (a + b) = i32 a + i32 b := by unfold i32; exact Int32.ofInt_add a b
theorem i32_sub (a b : Int) : i32 (a - b) = i32 a - i32 b := by unfold i32; exact Int32.ofInt_sub a b
theorem i32_mul (a b : Int) : i32 (a * b) = i32 a * i32 b := by unfold i32; exact Int32.ofInt_mul a b
theorem i32_neg (a : Int) : i32 (-a) = -(i32 a) := by unfold i32; exact Int32.ofInt_neg a
theorem i64_add (a b : Int) : i64 (a + b) = i64 a + i64 b := by unfold i64; exact Int64.ofInt_add a b
theorem i64_sub (a b : Int) : i64 (a - b) = i64 a - i64 b := by unfold i64; exact Int64.ofInt_sub a b
theorem i64_mul (a b : Int) : i64 (a * b) = i64 a * i64 b := by unfold i64; exact Int64.ofInt_mul a b
theorem i64_neg (a : Int) : i64 (-a) = -(i64 a) := by unfold i64; exact Int64.ofInt_neg a
theorem i32_div {a b : Int} (h : 0 ≤ a ∧ 0 < b) (ha : InI a) (hb : InI b) : i32 (a / b) = i32 a / i32 b := by
  have h1 : InI (a / b) := ⟨Int.le_trans (by decide) (Int.ediv_nonneg h.1 (Int.le_of_lt h.2)), Int.le_trans (Int.ediv_le_self _ h.1) ha.2⟩
  refine Int32.toInt_inj.mp ?_
  rw [i32_to h1, Int32.toInt_div, i32_to ha, i32_to hb, Int.tdiv_eq_ediv_of_nonneg h.1, Int.bmod_eq_of_le (by omega) (by omega)]
theorem i64_div {a b : Int} (h : 0 ≤ a ∧ 0 < b) (ha : InL a) (hb : InL b) : i64 (a / b) = i64 a / i64 b := by
  have h1 : InL (a / b) := ⟨Int.le_trans (by decide) (Int.ediv_nonneg h.1 (Int.le_of_lt h.2)), Int.le_trans (Int.ediv_le_self _ h.1) ha.2⟩
  refine Int64.toInt_inj.mp ?_
  rw [i64_to h1, Int64.toInt_div, i64_to ha, i64_to hb, Int.tdiv_eq_ediv_of_nonneg h.1, Int.bmod_eq_of_le (by omega) (by omega)]
theorem i32_rem {a b : Int} (h : 0 ≤ a ∧ 0 < b) (ha : InI a) (hb : InI b) : i32 (a % b) = i32 a - i32 a / i32 b * i32 b := by
  rw [← i32_div h ha hb, ← i32_mul, ← i32_sub, Int.emod_def, Int.mul_comm]
theorem i32_clamp {j : Int} {n : Nat} (h0 : InI j) (h : 0 ≤ j ∧ j < (n : Int)) : vp_in (i32 j) n ∧ (i32 j).toNatClampNeg = j.toNat := by
  have e : (i32 j).toNatClampNeg = j.toNat := by rw [← Int32.toNat_toInt, i32_to h0]
  refine ⟨?_, e⟩
  rintro (q | q)
  · rw [Int32.lt_iff_toInt_lt, i32_to h0, Int32.toInt_zero] at q
    omega
  · rw [e] at q
    omega
