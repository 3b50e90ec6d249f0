/-! ===== truths of a condition, two bits each, sixteen in an int ===== -/
theorem yv_and (x y : Int) : zand x y = (BitVec.ofInt 32 x &&& BitVec.ofInt 32 y).toInt := rfl
theorem yv_or (x y : Int) : zor x y = (BitVec.ofInt 32 x ||| BitVec.ofInt 32 y).toInt := rfl
theorem yv_xor (x y : Int) : zxor x y = (BitVec.ofInt 32 x ^^^ BitVec.ofInt 32 y).toInt := rfl
theorem yv_m : ∀ n : Nat, n < 32 → ((Int32.ofInt n &&& 31).toBitVec.smod 32#32).toNat = n ∧ (((Int32.ofInt n).toUInt32 &&& Int32.toUInt32 31).toBitVec % 32#32).toNat = n := by decide +kernel
theorem yv_shl (x : Int) {n : Nat} (h : n < 32) : zshl x n = (BitVec.ofInt 32 x <<< n).toInt := by
  have e : zshl x n = (BitVec.ofInt 32 x <<< ((Int32.ofInt n &&& 31).toBitVec.smod 32#32)).toInt := rfl
  rw [e, BitVec.shiftLeft_eq', (yv_m n h).1]
theorem yv_ushr (x : Int) {n : Nat} (h : n < 32) : zushr x n = (BitVec.ofInt 32 x >>> n).toInt := by
  have e : zushr x n = (BitVec.ofInt 32 x >>> (((Int32.ofInt n).toUInt32 &&& Int32.toUInt32 31).toBitVec % 32#32)).toInt := rfl
  rw [e, BitVec.ushiftRight_eq', (yv_m n h).2]
theorem yv_3 : ∀ i : Nat, i < 32 → (3#32).getLsbD i = decide (i < 2) := by decide +kernel
theorem yv_hi {V : BitVec 32} (hV : V.toNat < 4) {i : Nat} (h : 2 ≤ i) : V.getLsbD i = false := by
  show V.toNat.testBit i = false
  exact Nat.testBit_lt_two_pow (Nat.lt_of_lt_of_le hV (show 2 ^ 2 ≤ 2 ^ i from Nat.pow_le_pow_right (by decide) h))
theorem yv_A (W V : BitVec 32) {s : Nat} (hs : s ≤ 30) (hV : V.toNat < 4) : ((W &&& ((3#32 <<< s) ^^^ BitVec.allOnes 32) ||| V <<< s) >>> s) &&& 3#32 = V := by
  apply BitVec.eq_of_getLsbD_eq
  intro i hi
  rw [BitVec.getLsbD_and, BitVec.getLsbD_ushiftRight, BitVec.getLsbD_or, BitVec.getLsbD_and, BitVec.getLsbD_xor, BitVec.getLsbD_shiftLeft, BitVec.getLsbD_shiftLeft, BitVec.getLsbD_allOnes, yv_3 i hi]
  by_cases q : i < 2
  · rw [show s + i - s = i by omega, yv_3 i hi, decide_eq_true q, decide_eq_true (show s + i < 32 by omega), decide_eq_false (show ¬ s + i < s by omega)]
    simp
  · rw [decide_eq_false q, Bool.and_false, yv_hi hV (by omega)]
theorem yv_B (W V : BitVec 32) {s t : Nat} (ht : t ≤ 30) (hst : t + 2 ≤ s ∨ s + 2 ≤ t) (hV : V.toNat < 4) : ((W &&& ((3#32 <<< s) ^^^ BitVec.allOnes 32) ||| V <<< s) >>> t) &&& 3#32 = (W >>> t) &&& 3#32 := by
  apply BitVec.eq_of_getLsbD_eq
  intro i hi
  rw [BitVec.getLsbD_and, BitVec.getLsbD_and, BitVec.getLsbD_ushiftRight, BitVec.getLsbD_ushiftRight, BitVec.getLsbD_or, BitVec.getLsbD_and, BitVec.getLsbD_xor, BitVec.getLsbD_shiftLeft, BitVec.getLsbD_shiftLeft, BitVec.getLsbD_allOnes, yv_3 i hi]
  by_cases q : i < 2
  · rw [decide_eq_true (show t + i < 32 by omega)]
    rcases hst with h | h
    · rw [decide_eq_true (show t + i < s by omega)]
      simp
    · rw [yv_hi hV (show 2 ≤ t + i - s by omega), yv_3 (t + i - s) (by omega), decide_eq_false (show ¬ t + i - s < 2 by omega)]
      simp
  · rw [decide_eq_false q, Bool.and_false, Bool.and_false]
/-- what stands at place p of such a row -/
def yTw (F : Int → Int) (p : Int) : Int := zand (zushr (F (p / 16)) (2 * (p % 16))) 3
/-- an int of it, place p of it told v -/
def yKw (w p v : Int) : Int := zor (zand w (zxor (zshl 3 (2 * (p % 16))) (-1))) (zshl v (2 * (p % 16)))
theorem yKw_bv (w v : Int) {n : Nat} (h : n < 32) : zor (zand w (zxor (zshl 3 n) (-1))) (zshl v n) = (BitVec.ofInt 32 w &&& ((3#32 <<< n) ^^^ BitVec.allOnes 32) ||| BitVec.ofInt 32 v <<< n).toInt := by
  rw [yv_shl 3 h, yv_shl v h, yv_xor, yv_and, yv_or, BitVec.ofInt_toInt, BitVec.ofInt_toInt, BitVec.ofInt_toInt, BitVec.ofInt_toInt]
  rfl
theorem yTw_bv (w : Int) {n : Nat} (h : n < 32) : zand (zushr w n) 3 = ((BitVec.ofInt 32 w >>> n) &&& 3#32).toInt := by
  rw [yv_ushr w h, yv_and, BitVec.ofInt_toInt]
  rfl
theorem yv_v : ∀ n : Nat, n < 4 → (BitVec.ofInt 32 n).toNat < 4 ∧ (BitVec.ofInt 32 n).toInt = n := by decide +kernel
theorem yTw_kw {F : Int → Int} {k v p : Int} (k0 : 0 ≤ k) (p0 : 0 ≤ p) (v0 : 0 ≤ v) (v3 : v ≤ 3) : yTw (fun j => if j = k / 16 then yKw (F j) k v else F j) p = if p = k then v else yTw F p := by
  obtain ⟨s, hs⟩ := Int.eq_ofNat_of_zero_le (show 0 ≤ 2 * (k % 16) by omega)
  obtain ⟨t, ht⟩ := Int.eq_ofNat_of_zero_le (show 0 ≤ 2 * (p % 16) by omega)
  obtain ⟨vn, rfl⟩ := Int.eq_ofNat_of_zero_le v0
  obtain ⟨e1, e2⟩ := yv_v vn (by omega)
  unfold yTw yKw
  rw [hs, ht]
  dsimp only
  by_cases q : p / 16 = k / 16
  · rw [if_pos q, yKw_bv _ _ (show s < 32 by omega), yTw_bv _ (show t < 32 by omega), yTw_bv _ (show t < 32 by omega), BitVec.ofInt_toInt]
    by_cases z : p = k
    · rw [if_pos z, show t = s by omega, yv_A _ _ (by omega) e1, e2]
    · rw [if_neg z, yv_B _ _ (by omega) (by omega) e1]
  · rw [if_neg q, if_neg (fun z => q (by rw [z]))]
/-- a row told place by place -/
def yPkN (F g : Int → Int) : Nat → Int → Int
  | 0 => F
  | n + 1 => fun j => if j = (n : Int) / 16 then yKw (yPkN F g n j) n (g n) else yPkN F g n j
def yPk (F g : Int → Int) (k : Int) : Int → Int := yPkN F g k.toNat
theorem yPk_0 (F g : Int → Int) : yPk F g 0 = F := rfl
theorem yPk_s {F g : Int → Int} {k : Int} (h : 0 ≤ k) : yPk F g (k + 1) = fun j => if j = k / 16 then yKw (yPk F g k j) k (g k) else yPk F g k j := by
  obtain ⟨n, rfl⟩ := Int.eq_ofNat_of_zero_le h
  rfl
theorem yTw_PkN {F g : Int → Int} : ∀ (n : Nat), (∀ q : Int, 0 ≤ q → q < n → 0 ≤ g q ∧ g q ≤ 3) → ∀ p : Int, 0 ≤ p → p < n → yTw (yPkN F g n) p = g p
  | 0, _, p, h0, h1 => by omega
  | n + 1, hg, p, h0, h1 => by
    have hn := hg n (by omega) (by omega)
    show yTw (fun j => if j = (n : Int) / 16 then yKw (yPkN F g n j) n (g n) else yPkN F g n j) p = g p
    rw [yTw_kw (F := yPkN F g n) (by omega) h0 hn.1 hn.2]
    by_cases q : p = n
    · rw [if_pos q, q]
    · rw [if_neg q]
      exact yTw_PkN n (fun q q0 q1 => hg q q0 (by omega)) p h0 (by omega)
theorem yTw_Pk {F g : Int → Int} {k p : Int} (hg : ∀ q, 0 ≤ q → q < k → 0 ≤ g q ∧ g q ≤ 3) (h0 : 0 ≤ p) (h1 : p < k) : yTw (yPk F g k) p = g p := yTw_PkN k.toNat (fun q q0 q1 => hg q q0 (by omega)) p h0 (by omega)
theorem yTw_c {F G : Int → Int} {p : Int} (h0 : 0 ≤ p) (h1 : p < 1000) (h : ∀ j, 0 ≤ j → j < 63 → F j = G j) : yTw F p = yTw G p := by
  unfold yTw
  rw [h (p / 16) (by omega) (by omega)]
section YTW
variable {d : Nat} {m : ZN}
theorem c_321 {p : Int} (h0 : 0 ≤ p) (h1 : p < 1000) (K : Int → ZN → Prop) : zcI d 321 [zI p] m K = K (2 * (p % 16)) m := by
  refine zcI_eq (w_321 ?_) K
  rw [yck_of (by decide), Int.tmod_eq_emod_of_nonneg h0, yb_id (by omega) (by omega)]
  exact ⟨rfl, rfl⟩
theorem c_319 {a p : Int} (hc : isC a) (h0 : 0 ≤ p) (h1 : p < 1000) (K : Int → ZN → Prop) : zcI (d + 1) 319 [zA a, zI p] m K = K (yTw (zr m (a + 1)) p) m := by
  refine zcI_eq (w_319 ?_) K
  simp only [isC_pos hc, isC_O hc, isC_t hc, isC_I1 hc, isC_n1 hc, isC_r1 hc, cond_true, Int.tdiv_eq_ediv_of_nonneg h0, yb_id (show -2147483648 ≤ p / 16 by omega) (show p / 16 ≤ 2147483647 by omega), yck_of (show ¬ (16 : Int) = 0 by decide), yck_of (show 0 ≤ p / 16 ∧ p / 16 < 63 by omega), c_321 h0 h1]
  exact ⟨rfl, trivial⟩
theorem c_320 {a p v : Int} (hc : isC a) (h0 : 0 ≤ p) (h1 : p < 1000) (K : ZN → Prop) : zcV (d + 1) 320 [zA a, zI p, zI v] m K = K (zsn m (a + 1) (p / 16) (yKw (zr m (a + 1) (p / 16)) p v)) := by
  refine zcV_eq (w_320 ?_) K
  simp only [isC_pos hc, isC_O hc, isC_t hc, isC_I1 hc, isC_01 hc, isC_n1 hc, isC_r1 hc, cond_true, Int.tdiv_eq_ediv_of_nonneg h0, yb_id (show -2147483648 ≤ p / 16 by omega) (show p / 16 ≤ 2147483647 by omega), yck_of (show ¬ (16 : Int) = 0 by decide), yck_of (show 0 ≤ p / 16 ∧ p / 16 < 63 by omega), c_321 h0 h1]
  rfl
end YTW
