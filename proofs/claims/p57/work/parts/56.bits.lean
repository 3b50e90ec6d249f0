/-! ===== how many bits: the row of the method is printed by program ===== -/
theorem zandN {a b : Nat} (ha : a < 2147483648) (hb : b < 2147483648) : zand a b = ((a &&& b : Nat) : Int) := by
  have hn : (Int32.ofInt (a : Int) &&& Int32.ofInt (b : Int)).toBitVec.toNat = a &&& b := by
    rw [Int32.toBitVec_and, BitVec.toNat_and, Int32.toBitVec_ofInt, Int32.toBitVec_ofInt, BitVec.toNat_ofInt, BitVec.toNat_ofInt]
    congr 1 <;> omega
  have hl : a &&& b ≤ a := Nat.and_le_left
  show (Int32.ofInt (a : Int) &&& Int32.ofInt (b : Int)).toInt = _
  rw [← Int32.toInt_toBitVec, BitVec.toInt_eq_toNat_of_lt (by rw [hn]; omega), hn]
theorem zushrN {a k : Nat} (ha : a < 2147483648) (hk : k = 1 ∨ k = 2 ∨ k = 4 ∨ k = 8 ∨ k = 16) : zushr a k = ((a >>> k : Nat) : Int) := by
  have h1 : ((Int32.ofInt (a : Int)).toUInt32).toBitVec.toNat = a := by
    show (Int32.ofInt (a : Int)).toBitVec.toNat = a
    rw [Int32.toBitVec_ofInt, BitVec.toNat_ofInt]
    omega
  have h2 : ((Int32.ofInt (k : Int)).toUInt32 &&& Int32.toUInt32 31).toBitVec.toNat % 32 = k := by
    rcases hk with rfl | rfl | rfl | rfl | rfl <;> decide
  have hn : (((Int32.ofInt (a : Int)).toUInt32 >>> ((Int32.ofInt (k : Int)).toUInt32 &&& Int32.toUInt32 31)).toInt32).toBitVec.toNat = a >>> k := by
    show ((Int32.ofInt (a : Int)).toUInt32 >>> ((Int32.ofInt (k : Int)).toUInt32 &&& Int32.toUInt32 31)).toBitVec.toNat = a >>> k
    rw [UInt32.toBitVec_shiftRight, BitVec.ushiftRight_eq', BitVec.toNat_ushiftRight, BitVec.toNat_umod, h1]
    show a >>> (((Int32.ofInt (k : Int)).toUInt32 &&& Int32.toUInt32 31).toBitVec.toNat % 32) = a >>> k
    rw [h2]
  have hl : a >>> k ≤ a := Nat.shiftRight_le a k
  show (((Int32.ofInt (a : Int)).toUInt32 >>> ((Int32.ofInt (k : Int)).toUInt32 &&& Int32.toUInt32 31)).toInt32).toInt = _
  rw [← Int32.toInt_toBitVec, BitVec.toInt_eq_toNat_of_lt (by rw [hn]; omega), hn]
/-- a byte below, the rest above -/
theorem yspl {a b m n : Nat} (ha : a < 256) (hm : m < 256) : (a + 256 * b) &&& (m + 256 * n) = (a &&& m) + 256 * (b &&& n) := by
  have h1 : ((a + 256 * b) &&& (m + 256 * n)) % 2 ^ 8 = (a &&& m) := by
    rw [Nat.and_mod_two_pow, show (a + 256 * b) % 2 ^ 8 = a by omega, show (m + 256 * n) % 2 ^ 8 = m by omega]
  have h2 : ((a + 256 * b) &&& (m + 256 * n)) / 2 ^ 8 = (b &&& n) := by
    rw [Nat.and_div_two_pow, show (a + 256 * b) / 2 ^ 8 = b by omega, show (m + 256 * n) / 2 ^ 8 = n by omega]
  omega
def ypop : Nat → Nat → Nat
  | 0, _ => 0
  | k + 1, n => n % 2 + ypop k (n / 2)
theorem ybyte : ∀ a : Nat, a < 256 → (a / 2 &&& 85) ≤ a ∧ a - (a / 2 &&& 85) < 256 ∧ (∀ t : Nat, t < 2 → (a / 2 + 128 * t &&& 85) = (a / 2 &&& 85)) := by decide +kernel
theorem ybyte2 : ∀ a : Nat, a < 256 → (∀ t : Nat, t < 4 → (a / 4 + 64 * t &&& 51) = (a / 4 &&& 51)) ∧ (a &&& 51) + (a / 4 &&& 51) < 256 := by decide +kernel
/-- the three steps, of a byte -/
def yb3 (a : Nat) : Nat :=
  let s1 := a - (a / 2 &&& 85)
  let s2 := (s1 &&& 51) + (s1 / 4 &&& 51)
  (s2 + s2 / 16) &&& 15
theorem yb3_pop : ∀ a : Nat, a < 256 → yb3 a = ypop 8 a := by decide +kernel
/-- the three steps, of all -/
def yw3 (m1 m2 m3 n : Nat) : Nat :=
  ((((n - (n / 2 &&& m1)) &&& m2) + ((n - (n / 2 &&& m1)) / 4 &&& m2)) + (((n - (n / 2 &&& m1)) &&& m2) + ((n - (n / 2 &&& m1)) / 4 &&& m2)) / 16) &&& m3
theorem yw3_s {a b m1 m2 m3 : Nat} (ha : a < 256) (h2 : m2 % 16 = 3) : yw3 (85 + 256 * m1) (51 + 256 * m2) (15 + 256 * m3) (a + 256 * b) = yb3 a + 256 * yw3 m1 m2 m3 b := by
  obtain ⟨x1, x2, x3⟩ := ybyte a ha
  have e1 : (a + 256 * b) / 2 = (a / 2 + 128 * (b % 2)) + 256 * (b / 2) := by omega
  have hy : (b / 2 &&& m1) ≤ b := Nat.le_trans Nat.and_le_left (by omega)
  have hs1 : a + 256 * b - ((a + 256 * b) / 2 &&& (85 + 256 * m1)) = (a - (a / 2 &&& 85)) + 256 * (b - (b / 2 &&& m1)) := by
    rw [e1, yspl (by omega) (by omega), x3 (b % 2) (by omega)]
    omega
  unfold yw3 yb3
  rw [hs1]
  generalize (b - (b / 2 &&& m1)) = B
  have hA : a - (a / 2 &&& 85) < 256 := x2
  show _ = (((a - (a / 2 &&& 85) &&& 51) + ((a - (a / 2 &&& 85)) / 4 &&& 51)) + ((a - (a / 2 &&& 85) &&& 51) + ((a - (a / 2 &&& 85)) / 4 &&& 51)) / 16 &&& 15) + _
  generalize (a - (a / 2 &&& 85)) = A at hA
  have e2 : (A + 256 * B) / 4 = (A / 4 + 64 * (B % 4)) + 256 * (B / 4) := by omega
  obtain ⟨z1, z2⟩ := ybyte2 A hA
  rw [e2, yspl hA (by omega), yspl (a := A / 4 + 64 * (B % 4)) (by omega) (by omega), z1 (B % 4) (by omega)]
  have u1 : (A &&& 51) ≤ 51 := Nat.and_le_right
  have u2 : (A / 4 &&& 51) ≤ 51 := Nat.and_le_right
  have v : ∀ S : Nat, (S &&& m2) % 16 ≤ 3 := fun S => by
    have : (S &&& m2) % 2 ^ 4 = (S % 2 ^ 4 &&& m2 % 2 ^ 4) := Nat.and_mod_two_pow
    rw [show (2 : Nat) ^ 4 = 16 by decide, h2] at this
    rw [this]
    exact Nat.and_le_right
  have v1 := v B
  have v2 := v (B / 4)
  generalize (A &&& 51) = p at *
  generalize (A / 4 &&& 51) = q at *
  generalize (B &&& m2) = r at *
  generalize (B / 4 &&& m2) = s at *
  have e3 : p + 256 * r + (q + 256 * s) + (p + 256 * r + (q + 256 * s)) / 16 = (p + q + (p + q) / 16 + 16 * ((r + s) % 16)) + 256 * (r + s + (r + s) / 16) := by omega
  rw [e3, yspl (by omega) (by omega)]
  have e15 : (15 : Nat) = 2 ^ 4 - 1 := by decide
  rw [e15, Nat.and_two_pow_sub_one_eq_mod, Nat.and_two_pow_sub_one_eq_mod]
  omega
theorem yw3_a {a b c : Nat} (ha : a < 256) (hb : b < 256) (hc : c < 256) : yw3 1431655765 858993459 252645135 (a + 256 * (b + 256 * c)) = yb3 a + 256 * (yb3 b + 256 * yb3 c) := by
  have h1 := yw3_s (a := a) (b := b + 256 * c) (m1 := 5592405) (m2 := 3355443) (m3 := 986895) ha (by decide)
  have h2 := yw3_s (a := b) (b := c) (m1 := 21845) (m2 := 13107) (m3 := 3855) hb (by decide)
  have h3 := yw3_s (a := c) (b := 0) (m1 := 85) (m2 := 51) (m3 := 15) hc (by decide)
  have h4 : yw3 85 51 15 0 = 0 := by decide
  rw [show (85 + 256 * 85 : Nat) = 21845 by decide, show (51 + 256 * 51 : Nat) = 13107 by decide, show (15 + 256 * 15 : Nat) = 3855 by decide, h4] at h3
  rw [show (85 + 256 * 21845 : Nat) = 5592405 by decide, show (51 + 256 * 13107 : Nat) = 3355443 by decide, show (15 + 256 * 3855 : Nat) = 986895 by decide, show c = c + 256 * 0 by omega, h3] at h2
  rw [show (85 + 256 * 5592405 : Nat) = 1431655765 by decide, show (51 + 256 * 3355443 : Nat) = 858993459 by decide, show (15 + 256 * 986895 : Nat) = 252645135 by decide] at h1
  have h2' : yw3 5592405 3355443 986895 (b + 256 * c) = yb3 b + 256 * (yb3 c + 256 * 0) := h2
  rw [h1, h2', Nat.mul_zero, Nat.add_zero]
theorem ypop_s (k n : Nat) : ypop (k + 1) n = n % 2 + ypop k (n / 2) := rfl
theorem ypop_a (k : Nat) : ∀ j n : Nat, ypop (j + k) n = ypop j (n % 2 ^ j) + ypop k (n / 2 ^ j) := by
  intro j
  induction j with
  | zero =>
    intro n
    rw [Nat.zero_add, Nat.pow_zero, Nat.div_one]
    show ypop k n = 0 + ypop k n
    omega
  | succ j ih =>
    intro n
    rw [show j + 1 + k = (j + k) + 1 by omega, ypop_s, ih, ypop_s, show (2 : Nat) ^ (j + 1) = 2 * 2 ^ j by rw [Nat.pow_succ, Nat.mul_comm], Nat.mod_mul_right_div_self, Nat.div_div_eq_div_mul, Nat.mod_mod_of_dvd n (Nat.dvd_mul_right 2 (2 ^ j))]
    omega
theorem ypop_r : ∀ k n : Nat, ypop k n ≤ k := by
  intro k
  induction k with
  | zero => intro n; exact Nat.le_refl _
  | succ k ih => intro n; rw [ypop_s]; have := ih (n / 2); omega
theorem ypop_3 {a b c : Nat} (ha : a < 256) (hb : b < 256) (hc : c < 256) : ypop 24 (a + 256 * (b + 256 * c)) = ypop 8 a + (ypop 8 b + ypop 8 c) := by
  have h1 := ypop_a 16 8 (a + 256 * (b + 256 * c))
  have h2 := ypop_a 8 8 (b + 256 * c)
  rw [show (2 : Nat) ^ 8 = 256 by decide] at h1 h2
  rw [show (a + 256 * (b + 256 * c)) % 256 = a by omega, show (a + 256 * (b + 256 * c)) / 256 = b + 256 * c by omega] at h1
  rw [show (b + 256 * c) % 256 = b by omega, show (b + 256 * c) / 256 = c by omega] at h2
  have h1 : ypop 24 (a + 256 * (b + 256 * c)) = ypop 8 a + ypop 16 (b + 256 * c) := h1
  have h2 : ypop 16 (b + 256 * c) = ypop 8 b + ypop 8 c := h2
  rw [h1, h2]
/-- the low bit taken away -/
theorem ypop_k : ∀ k n : Nat, 0 < n → n < 2 ^ k → ypop k n = ypop k (n &&& (n - 1)) + 1 := by
  intro k
  induction k with
  | zero => intro n h0 h1; rw [Nat.pow_zero] at h1; omega
  | succ k ih =>
    intro n h0 h1
    rw [Nat.pow_succ] at h1
    rw [ypop_s, ypop_s]
    have hd : (n &&& (n - 1)) / 2 = n / 2 &&& (n - 1) / 2 := by
      have := Nat.and_div_two_pow (a := n) (b := n - 1) (n := 1)
      rwa [Nat.pow_one] at this
    have hm : (n &&& (n - 1)) % 2 = (n % 2 &&& (n - 1) % 2) := by
      have := Nat.and_mod_two_pow (a := n) (b := n - 1) (n := 1)
      rwa [Nat.pow_one] at this
    rw [hd, hm]
    by_cases q : n % 2 = 1
    · rw [q, show (n - 1) % 2 = 0 by omega, show (n - 1) / 2 = n / 2 by omega, Nat.and_self, Nat.and_zero]
      omega
    · rw [show n % 2 = 0 by omega, Nat.zero_and, show (n - 1) / 2 = n / 2 - 1 by omega]
      have := ih (n / 2) (by omega) (by omega)
      omega
section BT
variable {d : Nat} {m : ZN}
theorem c_195 {n : Nat} (hn : n < 16777216) (K : Int → ZN → Prop) : zcI d 195 [zI n] m K = K (ypop 24 n) m := by
  refine zcI_eq (w_195 ?_) K
  have key : ∀ r k y : Nat, ypop 24 y = r → y < 16777216 → k + r = ypop 24 n → zwpN d 195 4 [some (zI n), some (zI k), some (zI y)] [] m (zPI fun v m1 => v = ((ypop 24 n : Nat) : Int) ∧ m1 = m) := by
    intro r
    induction r with
    | zero =>
      intro k y hy y1 hk
      have y0 : y = 0 := by
        refine Classical.byContradiction (fun z => ?_)
        have := ypop_k 24 y (by omega) (by rw [show (2 : Nat) ^ 24 = 16777216 by decide]; omega)
        omega
      subst y0
      refine w_195_4 ?_
      rw [if_pos (show ((0 : Nat) : Int) = 0 from rfl)]
      exact ⟨by omega, rfl⟩
    | succ r ih =>
      intro k y hy y1 hk
      have hr := ypop_r 24 n
      have y0 : y ≠ 0 := fun z => by
        rw [z] at hy
        have : ypop 24 0 = 0 := by decide
        omega
      have hp := ypop_k 24 y (by omega) (by rw [show (2 : Nat) ^ 24 = 16777216 by decide]; omega)
      refine w_195_4 ?_
      rw [if_neg (by omega), show zb ((k : Int) + 1) = ((k + 1 : Nat) : Int) from by rw [yb_id (by omega) (by omega)]; omega, show zb ((y : Int) - 1) = ((y - 1 : Nat) : Int) from by rw [yb_id (by omega) (by omega)]; omega, zandN (by omega) (by omega)]
      exact ih (k + 1) (y &&& (y - 1)) (by omega) (Nat.lt_of_le_of_lt Nat.and_le_left y1) (by omega)
  exact key (ypop 24 n) 0 n rfl hn (by omega)
end BT
