/-! ===== what the small machine's state says of the large one's ===== -/
abbrev zBs : Type := Nat × Nat × (Nat × Nat × Nat) × Nat
/-- how many cells lie ahead of cell a; the cell at a place -/
def zix (a : Int) : Nat := if a < 224 then (a - 3).toNat else (a - 4).toNat
def zce (q : Nat) : Int := if q < 220 then (q : Int) + 3 else (q : Int) + 4
theorem zce_ix {a : Int} (h3 : 3 ≤ a) (hg : a ≠ 223) : zce (zix a) = a := by
  unfold zce zix
  split <;> split <;> omega
theorem zix_ce (q : Nat) : zix (zce q) = q := by
  unfold zce zix
  split <;> split <;> omega
theorem zce_r (q : Nat) : 3 ≤ zce q ∧ zce q ≠ 223 := by
  unfold zce
  split <;> omega
theorem zix_lt {a b : Int} (h3 : 3 ≤ a) (hg : a ≠ 223) (h : a < b) : zix a < zix b := by
  unfold zix
  split <;> split <;> omega
theorem zce_lt {q : Nat} {b : Int} (h : q < zix b) : zce q < b := by
  unfold zce
  unfold zix at h
  split at h <;> split <;> omega
def zad (B : zBs) (a : Int) : Nat := if a = 0 then B.1 else if a = 1 then B.2.1 else if a = 2 then B.2.2.1.1 else B.2.2.2 + zix a
def zrv (B : zBs) (a : Int) : Value := if a < 0 then (if a = -2 then .ref B.2.2.1.2.1 else if a = -3 then .ref B.2.2.1.2.2 else .null) else .ref (zad B a)
def zenc (B : zBs) (v : ZV) : Value := match v with
  | .inl x => .int (Int32.ofInt x)
  | .inr (.inl x) => .long (Int64.ofInt x)
  | .inr (.inr a) => zrv B a
def zi32 (x : Int) : Prop := -2147483648 ≤ x ∧ x < 2147483648
def zi64 (x : Int) : Prop := -9223372036854775808 ≤ x ∧ x < 9223372036854775808
def zokV (n : Int) (v : ZV) : Prop := match v with
  | .inl x => zi32 x
  | .inr (.inl x) => zi64 x
  | .inr (.inr a) => -3 ≤ a ∧ a < n
def zty (aD : Nat → ClassId) : List (ClassId × FieldType) := [(aD 0, .int), (aD 1, .long), (aD 2, .byte), (aD 3, .boolean), (aD 4, .object RX0)]
def zro (B : zBs) (a : Int) : Option Nat := if a < 0 then (if a = -2 then some B.2.2.1.2.1 else if a = -3 then some B.2.2.1.2.2 else none) else some (zad B a)
theorem zro_rf (B : zBs) (a : Int) : va_rf (zro B a) = zrv B a := by
  unfold zro zrv
  split
  · split
    · rfl
    · split <;> rfl
  · rfl
def zencF (B : zBs) (ty : FieldType) (x : Int) : Value := match ty with
  | .object _ => zrv B x
  | .array _ => zrv B x
  | _ => .int (Int32.ofInt x)
/-- the cell a of the memory, as the kit's worlds have it -/
def zent (B : zBs) (aD : Nat → ClassId) (M : ZM) (a : Int) : va_E :=
  if (zsh a).1 = 0 then .inl (aD 0, ((zsh a).2).toNat, .inl (fun j => Int32.ofInt (M a j)))
  else if (zsh a).1 = 1 then .inl (aD 1, ((zsh a).2).toNat, .inr (.inl (fun j => Int64.ofInt (M a j))))
  else if (zsh a).1 = 2 then .inl (aD 2, ((zsh a).2).toNat, .inl (fun j => Int32.ofInt (M a j)))
  else if (zsh a).1 = 3 then .inl (aD 3, ((zsh a).2).toNat, .inl (fun j => Int32.ofInt (M a j)))
  else if (zsh a).1 = 4 then .inl (aD 4, ((zsh a).2).toNat, .inr (.inr (.inr (.inr (fun j => zro B (M a j))))))
  else if (zsh a).1 = 5 then .inl (aD 5, ((zsh a).2).toNat, .inr (.inr (.inr (.inr (fun j => zro B (M a j))))))
  else .inr ((zsh a).1 - 10, (List.range (zNf ((zsh a).1 - 10))).map (fun j => zencF B (ztyX ((zsh a).1 - 10) j) (M a j)))
def zW (B : zBs) (aD : Nat → ClassId) (M : ZM) : va_W := (List.range (zix (znx M))).map (fun q => (B.2.2.2 + q, zent B aD M (zce q)))
/-- the kind of place j of cell a: 0 an int, 1 a long, 2 a byte, 3 a truth, 4 a reference -/
def zpk (a : Int) (j : Int) : Nat := if (zsh a).1 < 4 then (zsh a).1 else if (zsh a).1 < 10 then 4 else match ztyX ((zsh a).1 - 10) j.toNat with
  | .object _ => 4
  | .array _ => 4
  | .boolean => 3
  | _ => 0
def zcnt (a : Int) : Int := if (zsh a).1 < 10 then (zsh a).2 else (zNf ((zsh a).1 - 10) : Nat)
def zin (n : Int) (k : Nat) (x : Int) : Prop := match k with
  | 0 => zi32 x
  | 1 => zi64 x
  | 2 => -128 ≤ x ∧ x ≤ 127
  | 3 => 0 ≤ x ∧ x ≤ 1
  | _ => -1 ≤ x ∧ x < n
def zokM (M : ZM) : Prop := ∀ a : Int, 3 ≤ a → a < znx M → ∀ j : Int, 0 ≤ j → j < zcnt a → zin (znx M) (zpk a j) (M a j)
abbrev zAq (B : zBs) : Nat → Prop := fun q => B.2.2.2 ≤ q
def zcol (j : Nat) : Int := match j with
  | 0 => 0 | 1 => 1 | 2 => 2 | 3 => 0 | 4 => 2 | 5 => 1 | 6 => 1 | 7 => 0 | 8 => 2 | 9 => 1 | 10 => 2 | 11 => 0 | 12 => 2 | 13 => 0 | 14 => 1 | 15 => 2 | 16 => 1 | _ => 0
def zwei (j : Nat) : Int := match j with
  | 0 => 100 | 1 => 10 | _ => 1
/-- what never changes: the script, the two tables -/
def zS (L : Nat) (xs : Nat → Int32) (M : ZM) : Prop := M 0 (-1) = (L : Int) ∧ (∀ j : Nat, j < L → M 0 j = (xs j).toInt) ∧ (∀ j : Nat, j < 18 → M 1 j = zcol j) ∧ ∀ j : Nat, j < 3 → M 2 j = zwei j
def zH (B : zBs) (D : va_G) (aD : Nat → ClassId) (M : ZM) (H : Heap) : Prop := 3 ≤ znx M ∧ (znx M = 236 ∨ znx M < 236 ∧ H.size = B.2.2.2 + zix (znx M)) ∧ va_P D vwCl (zW B aD M) H ∧ zokM M
def zOv (U : State) : Prop := va_AO RX0 U
theorem zOv.moved {u U : State} (hvm : u.vm.Alike U.vm) (h : zOv u) : zOv U := va_AO.moved hvm h
/-- the law's two texts, and what charAt asks for -/
def zStr (B : zBs) (U : State) : Prop := (∃ adV : Nat → Nat, vk_S 2 [4, 2] [[60, 61, 62, 126], [38, 124]] (fun i => if i = 0 then B.2.2.1.2.1 else B.2.2.1.2.2) adV (zAq B) U U.heap) ∧ (vk_R "SkippingKeysLaw" 52 "<=>~" B.2.2.1.2.1 U ∧ vk_R "SkippingKeysLaw" 60 "&|" B.2.2.1.2.2 U) ∧ va_Z "java/lang/String" "COMPACT_STRINGS" "Z" (.int 1) (zAq B) U U.heap ∧ ∃ v : Value, va_Z "jdk/internal/util/Preconditions" "SIOOBE_FORMATTER" "Ljava/util/function/BiFunction;" v (zAq B) U U.heap ∧ (v = .null ∨ ∃ b, v = .ref b)
theorem zStr.moved {B : zBs} {u U : State} (h : zStr B u) (hvm : u.vm.Alike U.vm) (hR : ∀ k tx a, vk_R "SkippingKeysLaw" k tx a u → vk_R "SkippingKeysLaw" k tx a U) (hk : ∀ q : Nat, q < u.heap.size → ¬ zAq B q → U.heap[q]? = u.heap[q]?) : zStr B U := by
  obtain ⟨⟨adV, h1⟩, ⟨h2, h3⟩, h4, v, h5, h6⟩ := h
  exact ⟨⟨adV, (h1.moved hvm).kept hk⟩, ⟨hR _ _ _ h2, hR _ _ _ h3⟩, (h4.moved hvm).kept hk, v, (h5.moved hvm).kept hk, h6⟩
def zU (B : zBs) (D : va_G) (aD : Nat → ClassId) (L : Nat) (xs : Nat → Int32) (U : State) : Prop := va_K D vwCl (zty aD) U ∧ va_X B.1 L xs U U.heap ∧ L ≤ 4000 ∧ B.1 < B.2.2.2 ∧ B.2.2.2 ≤ U.heap.size ∧
  va_Z "SkippingKeys" "COLUMN_AT" "[I" (.ref B.2.1) (zAq B) U U.heap ∧ va_Z "SkippingKeys" "WEIGHT" "[I" (.ref B.2.2.1.1) (zAq B) U U.heap ∧
  va_T .int B.2.1 18 (fun j => .int (Int32.ofInt (zcol j))) (zAq B) U U.heap ∧ va_T .int B.2.2.1.1 3 (fun j => .int (Int32.ofInt (zwei j))) (zAq B) U U.heap ∧ (∀ w ∈ zNs, va_Nw w U) ∧ zOv U ∧ zStr B U
def zlr (B : zBs) (n : Int) (N : Nat) (ls : ZL) (LS : Array Slot) : Prop := ls.length = N ∧ LS.size = N ∧ lv_wf LS ∧ ∀ (i : Nat) (v : ZV), zget ls i = some v → LS[i]? = some (.val (zenc B v)) ∧ zokV n v
/-- numbers -/
theorem zi32_of (x : Int) (h : zi32 x) : (Int32.ofInt x).toInt = x := by
  rw [Int32.toInt_ofInt]
  obtain ⟨h1, h2⟩ := h
  show Int.bmod x 4294967296 = x
  exact Int.bmod_eq_of_le (by omega) (by omega)
theorem zi64_of (x : Int) (h : zi64 x) : (Int64.ofInt x).toInt = x := by
  rw [Int64.toInt_ofInt]
  obtain ⟨h1, h2⟩ := h
  show Int.bmod x 18446744073709551616 = x
  exact Int.bmod_eq_of_le (by omega) (by omega)
theorem zi32_r (v : Int32) : zi32 v.toInt := ⟨by have := Int32.le_toInt v; omega, by have := Int32.toInt_lt v; omega⟩
theorem zi64_r (v : Int64) : zi64 v.toInt := ⟨by have := Int64.le_toInt v; omega, by have := Int64.toInt_lt v; omega⟩
theorem zb_eq (z : Int) : zb z = (Int32.ofInt z).toInt := by
  rw [Int32.toInt_ofInt]
  rfl
theorem zb_r (z : Int) : zi32 (zb z) := by rw [zb_eq]; exact zi32_r _
theorem zb_of (z : Int) : Int32.ofInt (zb z) = Int32.ofInt z := by rw [zb_eq, Int32.ofInt_toInt]
theorem zb_id {z : Int} (h : -2147483648 ≤ z) (h2 : z < 2147483648) : zb z = z := by rw [zb_eq, zi32_of z ⟨h, h2⟩]
theorem zlt32 {x y : Int} (hx : zi32 x) (hy : zi32 y) : Int32.ofInt x < Int32.ofInt y ↔ x < y := by
  rw [Int32.lt_iff_toInt_lt, zi32_of x hx, zi32_of y hy]
theorem zle32 {x y : Int} (hx : zi32 x) (hy : zi32 y) : Int32.ofInt x ≤ Int32.ofInt y ↔ x ≤ y := by
  rw [Int32.le_iff_toInt_le, zi32_of x hx, zi32_of y hy]
theorem zeq32 {x y : Int} (hx : zi32 x) (hy : zi32 y) : Int32.ofInt x = Int32.ofInt y ↔ x = y := by
  rw [← Int32.toInt_inj, zi32_of x hx, zi32_of y hy]
theorem z032 : zi32 0 := ⟨by decide, by decide⟩
theorem z0of : Int32.ofInt 0 = 0 := rfl
theorem znc {i : Int} (h0 : 0 ≤ i) (h : zi32 i) : (Int32.ofInt i).toNatClampNeg = i.toNat := by
  show (Int32.ofInt i).toInt.toNat = i.toNat
  rw [zi32_of i h]
theorem zvp {i : Int} {n : Nat} (h0 : 0 ≤ i) (h : zi32 i) (h1 : i < (n : Int)) : vp_in (Int32.ofInt i) n := by
  unfold vp_in
  rw [← z0of, zlt32 h z032, znc h0 h]
  omega
/-- worlds -/
theorem zW_len (B : zBs) (aD : Nat → ClassId) (M : ZM) : (zW B aD M).length = zix (znx M) := by simp [zW]
theorem zW_get {B : zBs} {aD : Nat → ClassId} {M : ZM} {a : Int} (h3 : 3 ≤ a) (hn : a < znx M) (hg : a ≠ 223) : (zW B aD M)[zix a]? = some (zad B a, zent B aD M a) := by
  have hl : zix a < zix (znx M) := zix_lt h3 hg hn
  have e1 : zce (zix a) = a := zce_ix h3 hg
  have e2 : B.2.2.2 + zix a = zad B a := by
    unfold zad
    rw [if_neg (by omega), if_neg (by omega), if_neg (by omega)]
  simp only [zW, List.getElem?_map, List.getElem?_range hl, Option.map_some, e1, e2]
theorem zW_set {B : zBs} {aD : Nat → ClassId} {M M' : ZM} {a : Int} {e : va_E} (h3 : 3 ≤ a) (hn : a < znx M) (hg : a ≠ 223) (hx : znx M' = znx M) (he : zent B aD M' a = e) (ho : ∀ a' : Int, a' ≠ a → zent B aD M' a' = zent B aD M a') : (zW B aD M).set (zix a) (zad B a, e) = zW B aD M' := by
  apply List.ext_getElem?
  intro q
  by_cases hq : q = zix a
  · subst hq
    rw [List.getElem?_set_self (by rw [zW_len]; exact zix_lt h3 hg hn), ← he]
    exact (zW_get h3 (by rw [hx]; exact hn) hg).symm
  · rw [List.getElem?_set_ne (fun h => hq h.symm)]
    by_cases hl : q < zix (znx M)
    · have g1 := zW_get (B := B) (aD := aD) (M := M) (a := zce q) (zce_r q).1 (zce_lt hl) (zce_r q).2
      have g2 := zW_get (B := B) (aD := aD) (M := M') (a := zce q) (zce_r q).1 (by rw [hx]; exact zce_lt hl) (zce_r q).2
      rw [zix_ce] at g1 g2
      rw [g1, g2, ho _ (fun z => hq (by rw [← z, zix_ce]))]
    · rw [List.getElem?_eq_none (by rw [zW_len]; omega), List.getElem?_eq_none (by rw [zW_len, hx]; omega)]
theorem zW_D {B : zBs} {aD : Nat → ClassId} {M : ZM} : va_D (zAq B) (zW B aD M) := by
  have key : ∀ (i : Nat) (p : Nat × va_E), (zW B aD M)[i]? = some p → p.1 = B.2.2.2 + i := by
    intro i p h
    unfold zW at h
    rw [List.getElem?_map] at h
    cases hr : (List.range (zix (znx M)))[i]? with
    | none => rw [hr] at h; cases h
    | some q =>
      rw [hr] at h
      have hq : i < (List.range (zix (znx M))).length := (List.getElem?_eq_some_iff.mp hr).1
      rw [List.getElem?_range (by simpa using hq)] at hr
      cases hr
      cases h
      rfl
  refine ⟨fun i j p q hp hq h => ?_, fun k q hq => ?_⟩
  · have h1 := key i p hp
    have h2 := key j q hq
    omega
  · show B.2.2.2 ≤ q.1
    rw [key k q hq]
    omega
theorem zgh_c {k : Nat} (h : zgh (zrow k) = false) : zcl k ≠ 9 := fun e => by
  have : zgh (zrow k) = true := by
    unfold zgh
    rw [show (zrow k).2.2.2.2.2.2.1 = 9 from e]
    rfl
  rw [this] at h
  cases h
