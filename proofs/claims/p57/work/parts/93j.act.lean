/-! ===== the law's acts keep a ghost ===== -/
theorem zck_i {c K : Prop} (hc : c) (h : K) : zck c K := ⟨hc, h⟩
theorem zand_16 (x : Int) : 0 ≤ zand x 65535 ∧ zand x 65535 ≤ 65535 := by
  unfold zand
  have e : ∀ a : BitVec 32, 0 ≤ (a &&& 65535#32).toInt ∧ (a &&& 65535#32).toInt ≤ 65535 := by
    intro a
    have h : (a &&& 65535#32).toNat ≤ 65535 := by
      rw [BitVec.toNat_and]
      exact Nat.and_le_right
    rw [BitVec.toInt_eq_toNat_of_lt (by omega)]
    omega
  exact e (Int32.ofInt x).toBitVec
theorem zand_3 (x : Int) : 0 ≤ zand x 3 ∧ zand x 3 ≤ 3 := by
  unfold zand
  have e : ∀ a : BitVec 32, 0 ≤ (a &&& 3#32).toInt ∧ (a &&& 3#32).toInt ≤ 3 := by
    intro a
    have h : (a &&& 3#32).toNat ≤ 3 := by
      rw [BitVec.toNat_and]
      exact Nat.and_le_right
    rw [BitVec.toInt_eq_toNat_of_lt (by omega)]
    omega
  exact e (Int32.ofInt x).toBitVec
theorem zand_1 (x : Int) : 0 ≤ zand x 1 ∧ zand x 1 ≤ 1 := by
  unfold zand
  have e : ∀ a : BitVec 32, 0 ≤ (a &&& 1#32).toInt ∧ (a &&& 1#32).toInt ≤ 1 := by
    intro a
    have h : (a &&& 1#32).toNat ≤ 1 := by
      rw [BitVec.toNat_and]
      exact Nat.and_le_right
    rw [BitVec.toInt_eq_toNat_of_lt (by omega)]
    omega
  exact e (Int32.ofInt x).toBitVec
section AC
variable {d : Nat} {m : ZN} {L : Int} {xs : Int → Int}
theorem yD_L (D : yD L xs m) : zr m 0 (-1) = L := by
  obtain ⟨m2, s, I⟩ := D
  rw [s 0 (by decide)]
  exact I.1.1
theorem g_cell (D : yD L xs m) (hL : 0 ≤ L) {x : Int} {K : Int → ZN → Prop} (h : ∀ r, K r m) : zcI d 323 [zA 0, zI x] m K := by
  have e := yD_L D
  have hx := zand_16 x
  refine w_323 ?_
  rw [e]
  by_cases q : L = 0
  · rw [if_pos q]
    exact h _
  · rw [if_neg q, yck_of q, yck_of (by
      rw [Int.tmod_eq_emod_of_nonneg hx.1]
      exact ⟨Int.emod_nonneg _ q, Int.emod_lt_of_pos _ (by omega)⟩)]
    exact h _
theorem g_act (D : yD L xs m) (hL : 0 ≤ L) {x : Int} {K : ZN → Prop} (h : ∀ m1, yD L xs m1 → K m1) : zcV (d + 901) 324 [zA 3, zA 0, zI x] m K := by
  refine w_324 ?_
  refine g_cell D hL (fun r => ?_)
  by_cases q0 : zand r 15 = 0
  · rw [if_pos q0]
    (repeat (refine zck_i (by decide) ?_))
    exact zcI_w (g_line (d := d) D _ _ _) (fun _ m1 D1 => h m1 D1)
  rw [if_neg q0]
  by_cases q1 : zand r 15 = 1
  · rw [if_pos q1]
    (repeat (refine zck_i (by decide) ?_))
    exact zcI_w (g_line (d := d) D _ _ _) (fun _ m1 D1 => h m1 D1)
  rw [if_neg q1]
  by_cases q2 : zand r 15 = 2
  · rw [if_pos q2]
    (repeat (refine zck_i (by decide) ?_))
    exact zcI_w (g_line (d := d) D _ _ _) (fun _ m1 D1 => h m1 D1)
  rw [if_neg q2]
  by_cases q3 : zand r 15 = 3
  · rw [if_pos q3]
    (repeat (refine zck_i (by decide) ?_))
    exact zcI_w (g_test (d := d) D _ _ _) (fun _ m1 D1 => h m1 D1)
  rw [if_neg q3]
  by_cases q4 : zand r 15 = 4
  · rw [if_pos q4]
    (repeat (refine zck_i (by decide) ?_))
    exact zcI_w (g_among (d := d) D _ _ (zi32_r _).1 (by have := (zi32_r (Int32.ofInt (zand (zshr (zand (zshr r 4) 65535) 2) 511) <<< (Int32.ofInt 1 &&& 31))).2; unfold zshl; omega)) (fun _ m1 D1 => h m1 D1)
  rw [if_neg q4]
  by_cases q5 : zand r 15 = 5
  · rw [if_pos q5]
    (repeat (refine zck_i (by decide) ?_))
    exact zcI_w (g_gone (d := d) D _) (fun _ m1 D1 => h m1 D1)
  rw [if_neg q5]
  by_cases q6 : zand r 15 = 6
  · rw [if_pos q6]
    (repeat (refine zck_i (by decide) ?_))
    exact zcI_w (g_columns (d := d) D _ _ _) (fun _ m1 D1 => h m1 D1)
  rw [if_neg q6]
  by_cases q7 : zand r 15 = 7
  · rw [if_pos q7]
    (repeat (refine zck_i (by decide) ?_))
    exact zcI_w (g_rest (d := d) D _ _ _) (fun _ m1 D1 => h m1 D1)
  rw [if_neg q7]
  by_cases q8 : zand r 15 = 8
  · rw [if_pos q8]
    (repeat (refine zck_i (by decide) ?_))
    exact zcI_w (g_pair (d := d) D _ _ _) (fun _ m1 D1 => h m1 D1)
  rw [if_neg q8]
  by_cases q9 : zand r 15 = 9
  · rw [if_pos q9]
    (repeat (refine zck_i (by decide) ?_))
    exact zcI_w (g_pair (d := d) D _ _ _) (fun _ m1 D1 => h m1 D1)
  rw [if_neg q9]
  by_cases q10 : zand r 15 = 10
  · rw [if_pos q10]
    (repeat (refine zck_i (by decide) ?_))
    exact zcI_w (g_turn (d := d) D _ _) (fun _ m1 D1 => h m1 D1)
  rw [if_neg q10]
  by_cases q11 : zand r 15 = 11
  · rw [if_pos q11]
    (repeat (refine zck_i (by decide) ?_))
    exact zcI_w (g_alter (d := d) D _ _ _) (fun _ m1 D1 => h m1 D1)
  rw [if_neg q11]
  by_cases q12 : zand r 15 = 12
  · rw [if_pos q12]
    (repeat (refine zck_i (by decide) ?_))
    exact zcI_w (g_days (d := d) D _) (fun _ m1 D1 => h m1 D1)
  rw [if_neg q12]
  by_cases q13 : zand r 15 = 13
  · rw [if_pos q13]
    refine zck_i (by decide) ?_
    refine zcI_w (g_feed (d := d) D _) (fun _ m1 D1 => ?_)
    refine zck_i ⟨by omega, Or.inl ⟨rfl, (zand_3 _).1, by have := (zand_3 (zshr (zand (zshr r 4) 65535) 2)).2; omega⟩⟩ ?_
    refine zcI_w (g_feed (d := d) D1 _) (fun _ m2 D2 => ?_)
    refine zcI_w (g_feed (d := d) D2 _) (fun _ m3 D3 => ?_)
    refine zck_i ⟨by omega, Or.inr ⟨rfl, (zand_1 _).1, by have := (zand_1 (zshr (zand (zshr r 4) 65535) 7)).2; omega⟩⟩ ?_
    refine zcI_w (g_feed (d := d) D3 _) (fun _ m4 D4 => ?_)
    refine zck_i (by decide) ?_
    refine zcI_w (g_feed (d := d) D4 _) (fun _ m5 D5 => ?_)
    refine zcI_w (g_feed (d := d) D5 _) (fun _ m6 D6 => ?_)
    exact zcI_w (g_cond (d := d) D6) (fun _ m7 D7 => h m7 D7)
  rw [if_neg q13]
  by_cases q14 : zand r 15 = 14
  · rw [if_pos q14]
    (repeat (refine zck_i (by decide) ?_))
    exact zcI_w (g_image (d := d) D) (fun _ m1 D1 => h m1 D1)
  rw [if_neg q14]
  split
  · exact zcI_w (g_back (d := d) D) (fun _ m1 D1 => h m1 D1)
  · split
    · exact zcI_w (g_strike (d := d) D _) (fun _ m1 D1 => h m1 D1)
    · exact zcI_w (g_price (d := d) D _) (fun _ m1 D1 => h m1 D1)
end AC
