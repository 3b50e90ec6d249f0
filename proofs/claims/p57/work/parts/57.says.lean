/-! ===== pair: says ===== -/
def yio (kd x : Int) : Int := if x = 0 then 1 else if x = 1 then (if 5 < kd then 0 else 1) else if x = 2 then (if 2 < kd then (if kd = 4 then 1 else 0) else 1) else if x = 3 then (if kd = 6 then 1 else if kd = 7 then 1 else 0) else if x = 4 then (if kd < 8 then 0 else 1) else if x = 5 then (if kd = 6 then 1 else 0) else (if kd = 5 then 1 else 0)
theorem zorN {a b : Nat} (ha : a < 16777216) (hb : b < 16777216) : zor a b = ((a ||| b : Nat) : Int) ∧ (a ||| b) < 16777216 := by
  have hl : a ||| b < 2 ^ 24 := Nat.or_lt_two_pow ha hb
  have hn : (Int32.ofInt (a : Int) ||| Int32.ofInt (b : Int)).toBitVec.toNat = a ||| b := by
    rw [Int32.toBitVec_or, BitVec.toNat_or, Int32.toBitVec_ofInt, Int32.toBitVec_ofInt, BitVec.toNat_ofInt, BitVec.toNat_ofInt]
    congr 1 <;> omega
  refine ⟨?_, hl⟩
  show (Int32.ofInt (a : Int) ||| Int32.ofInt (b : Int)).toInt = _
  rw [← Int32.toInt_toBitVec, BitVec.toInt_eq_toNat_of_lt (by rw [hn]; omega), hn]
theorem yshl24 : ∀ i : Nat, i < 24 → 0 ≤ zshl 1 i ∧ zshl 1 i < 16777216 := by decide +kernel
theorem yPa_r {kd sg sd : Int → Int} {N : Int} (h : yWA kd sg sd N) (hN : N ≤ 24) (n : Nat) : ∀ i, 0 ≤ i → i < N → i < n → 0 ≤ yPa kd sd i ∧ yPa kd sd i < 16777216 := by
  have wr := yWA_r h
  have hs : ∀ i, 0 ≤ i → i < N → 0 ≤ zshl 1 i ∧ zshl 1 i < 16777216 := fun i i0 i1 => by
    obtain ⟨k, rfl⟩ := Int.eq_ofNat_of_zero_le i0
    exact yshl24 k (by omega)
  induction n with
  | zero => intro i i0 _ i1; omega
  | succ n ih =>
    intro i i0 i1 i2
    by_cases q : kd i ≤ 5
    · rw [yPa_l q]; exact hs i i0 i1
    · rw [yPa_o wr i0 i1 (by omega) (by omega)]
      by_cases q6 : kd i = 6
      · obtain ⟨w1, w2⟩ := wr i i0 i1 (by omega)
        have w2 := w2 (by omega)
        rw [if_pos q6, if_pos (by omega)]
        have x1 := ih _ w1.1 (by omega) (by omega)
        have x2 := ih _ w2.1 (by omega) (by omega)
        obtain ⟨a, ha⟩ := Int.eq_ofNat_of_zero_le x1.1
        obtain ⟨b, hb⟩ := Int.eq_ofNat_of_zero_le x2.1
        rw [ha, hb]
        have z := zorN (a := a) (b := b) (by omega) (by omega)
        rw [z.1]
        omega
      · rw [if_neg q6]; exact hs i i0 i1
section SY
variable {d : Nat} {m : ZN} {L : Int} {xs : Int → Int} {Q : Int → Int → ZN → Prop}
theorem c_204 {kd x : Int} (k0 : 0 ≤ kd) (k9 : kd ≤ 9) (x0 : 0 ≤ x) (x6 : x ≤ 6) (K : Int → ZN → Prop) : zcI d 204 [zI kd, zI x] m K = K (yio kd x) m := by
  refine zcI_eq (w_204 ?_) K
  rw [yck_of (show ((0 : Int) ≤ 1 ∧ (1 : Int) ≤ 1) by decide), yck_of (show ((0 : Int) ≤ 0 ∧ (0 : Int) ≤ 1) by decide)]
  rcases (show x = 0 ∨ x = 1 ∨ x = 2 ∨ x = 3 ∨ x = 4 ∨ x = 5 ∨ x = 6 by omega) with rfl | rfl | rfl | rfl | rfl | rfl | rfl <;> rcases (show kd = 0 ∨ kd = 1 ∨ kd = 2 ∨ kd = 3 ∨ kd = 4 ∨ kd = 5 ∨ kd = 6 ∨ kd = 7 ∨ kd = 8 ∨ kd = 9 by omega) with rfl | rfl | rfl | rfl | rfl | rfl | rfl | rfl | rfl | rfl <;> exact (And.intro rfl rfl : (_ : Int) = _ ∧ m = m)
end SY
