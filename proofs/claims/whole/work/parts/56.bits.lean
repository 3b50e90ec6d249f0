/-! ===== how many bits: the row of the method is printed by program ===== -/
set_option maxRecDepth 100000 in
theorem w_315 {d : Nat} {m : ZN} {x1 : Int} {K : Int → ZN → Prop} (h : (K (zand (zb ((zb ((zand (zb ((zb ((zand (zb (x1 - (zand (zushr x1 1) 1431655765))) 858993459) + (zand (zushr (zb (x1 - (zand (zushr x1 1) 1431655765))) 2) 858993459))) + (zushr (zb ((zand (zb (x1 - (zand (zushr x1 1) 1431655765))) 858993459) + (zand (zushr (zb (x1 - (zand (zushr x1 1) 1431655765))) 2) 858993459))) 4))) 252645135) + (zushr (zand (zb ((zb ((zand (zb (x1 - (zand (zushr x1 1) 1431655765))) 858993459) + (zand (zushr (zb (x1 - (zand (zushr x1 1) 1431655765))) 2) 858993459))) + (zushr (zb ((zand (zb (x1 - (zand (zushr x1 1) 1431655765))) 858993459) + (zand (zushr (zb (x1 - (zand (zushr x1 1) 1431655765))) 2) 858993459))) 4))) 252645135) 8))) + (zushr (zb ((zand (zb ((zb ((zand (zb (x1 - (zand (zushr x1 1) 1431655765))) 858993459) + (zand (zushr (zb (x1 - (zand (zushr x1 1) 1431655765))) 2) 858993459))) + (zushr (zb ((zand (zb (x1 - (zand (zushr x1 1) 1431655765))) 858993459) + (zand (zushr (zb (x1 - (zand (zushr x1 1) 1431655765))) 2) 858993459))) 4))) 252645135) + (zushr (zand (zb ((zb ((zand (zb (x1 - (zand (zushr x1 1) 1431655765))) 858993459) + (zand (zushr (zb (x1 - (zand (zushr x1 1) 1431655765))) 2) 858993459))) + (zushr (zb ((zand (zb (x1 - (zand (zushr x1 1) 1431655765))) 858993459) + (zand (zushr (zb (x1 - (zand (zushr x1 1) 1431655765))) 2) 858993459))) 4))) 252645135) 8))) 16))) 63) m)) : zcI d 315 [zI x1] m K := zcI_X (cut := []) 44 h
theorem zandN {a b : Nat} (ha : a < 2147483648) (hb : b < 2147483648) : zand a b = ((a &&& b : Nat) : Int) := by
  have hn : (Int32.ofInt (a : Int) &&& Int32.ofInt (b : Int)).toBitVec.toNat = a &&& b := by
    rw [Int32.toBitVec_and, BitVec.toNat_and, Int32.toBitVec_ofInt, Int32.toBitVec_ofInt, BitVec.toNat_ofInt, BitVec.toNat_ofInt]
    congr 1 <;> omega
  have hl : a &&& b ≤ a := Nat.and_le_left
  show (Int32.ofInt (a : Int) &&& Int32.ofInt (b : Int)).toInt = _
  rw [← Int32.toInt_toBitVec, BitVec.toInt_eq_toNat_of_lt (by rw [hn]; omega), hn]
theorem zushrN {a k : Nat} (ha : a < 2147483648) (hk : k = 1 ∨ k = 2 ∨ k = 4 ∨ k = 8 ∨ k = 16) : zushr a k = ((a >>> k : Nat) : Int) := by
  have h1 : ((Int32.ofInt (a : Int)).toUInt32).toBitVec.toNat = a := by
    show (Int32.ofInt (a : Int)).toBitVec.toNat = a
    rw [Int32.toBitVec_ofInt, BitVec.toNat_ofInt]
    omega
  have h2 : ((Int32.ofInt (k : Int)).toUInt32 &&& Int32.toUInt32 31).toBitVec.toNat % 32 = k := by
    rcases hk with rfl | rfl | rfl | rfl | rfl <;> decide
  have hn : (((Int32.ofInt (a : Int)).toUInt32 >>> ((Int32.ofInt (k : Int)).toUInt32 &&& Int32.toUInt32 31)).toInt32).toBitVec.toNat = a >>> k := by
    show ((Int32.ofInt (a : Int)).toUInt32 >>> ((Int32.ofInt (k : Int)).toUInt32 &&& Int32.toUInt32 31)).toBitVec.toNat = a >>> k
    rw [UInt32.toBitVec_shiftRight, BitVec.ushiftRight_eq', BitVec.toNat_ushiftRight, BitVec.toNat_umod, h1]
    show a >>> (((Int32.ofInt (k : Int)).toUInt32 &&& Int32.toUInt32 31).toBitVec.toNat % 32) = a >>> k
    rw [h2]
  have hl : a >>> k ≤ a := Nat.shiftRight_le a k
  show (((Int32.ofInt (a : Int)).toUInt32 >>> ((Int32.ofInt (k : Int)).toUInt32 &&& Int32.toUInt32 31)).toInt32).toInt = _
  rw [← Int32.toInt_toBitVec, BitVec.toInt_eq_toNat_of_lt (by rw [hn]; omega), hn]
/-- a byte below, the rest above -/
theorem yspl {a b m n : Nat} (ha : a < 256) (hm : m < 256) : (a + 256 * b) &&& (m + 256 * n) = (a &&& m) + 256 * (b &&& n) := by
  have h1 : ((a + 256 * b) &&& (m + 256 * n)) % 2 ^ 8 = (a &&& m) := by
    rw [Nat.and_mod_two_pow, show (a + 256 * b) % 2 ^ 8 = a by omega, show (m + 256 * n) % 2 ^ 8 = m by omega]
  have h2 : ((a + 256 * b) &&& (m + 256 * n)) / 2 ^ 8 = (b &&& n) := by
    rw [Nat.and_div_two_pow, show (a + 256 * b) / 2 ^ 8 = b by omega, show (m + 256 * n) / 2 ^ 8 = n by omega]
  omega
def ypop : Nat → Nat → Nat
  | 0, _ => 0
  | k + 1, n => n % 2 + ypop k (n / 2)
theorem ybyte : ∀ a : Nat, a < 256 → (a / 2 &&& 85) ≤ a ∧ a - (a / 2 &&& 85) < 256 ∧ (∀ t : Nat, t < 2 → (a / 2 + 128 * t &&& 85) = (a / 2 &&& 85)) := by decide +kernel
theorem ybyte2 : ∀ a : Nat, a < 256 → (∀ t : Nat, t < 4 → (a / 4 + 64 * t &&& 51) = (a / 4 &&& 51)) ∧ (a &&& 51) + (a / 4 &&& 51) < 256 := by decide +kernel
/-- the three steps, of a byte -/
def yb3 (a : Nat) : Nat :=
  let s1 := a - (a / 2 &&& 85)
  let s2 := (s1 &&& 51) + (s1 / 4 &&& 51)
  (s2 + s2 / 16) &&& 15
theorem yb3_pop : ∀ a : Nat, a < 256 → yb3 a = ypop 8 a := by decide +kernel
/-- the three steps, of all -/
def yw3 (n : Nat) : Nat :=
  let s1 := n - (n / 2 &&& 1431655765)
  let s2 := (s1 &&& 858993459) + (s1 / 4 &&& 858993459)
  (s2 + s2 / 16) &&& 252645135
