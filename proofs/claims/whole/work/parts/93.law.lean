/-! ===== the law's loop ===== -/
section LW
variable {D : Nat} {m : ZN} {L : Int} {xs : Int → Int} {P : Option ZV → ZN → Prop} {y : Int}
def yLQ (D : Nat) (y : Int) (P : Option ZV → ZN → Prop) (v v2 : Int) (m2 : ZN) : Prop := if v = v2 then zwpN (D + 900 + 1) 318 2197 [some (zA 0), some (zA 3), some (zA 236), some (zI y)] [] m2 P else zck ((0 : Int) ≤ 0 ∧ (0 : Int) ≤ 1) (P (some (zI 0)) m2)
def yLR (D : Nat) (y : Int) (P : Option ZV → ZN → Prop) (v v2 : Int) (m2 : ZN) : Prop := if zlcmp v v2 = 0 then zwpN (D + 900 + 1) 318 2197 [some (zA 0), some (zA 3), some (zA 236), some (zI y)] [] m2 P else zck ((0 : Int) ≤ 0 ∧ (0 : Int) ≤ 1) (P (some (zI 0)) m2)
theorem yLQ_of (K : ∀ m2, yInv L xs m2 → zwpN (D + 900 + 1) 318 2197 [some (zA 0), some (zA 3), some (zA 236), some (zI y)] [] m2 P) (r : Int) (m2 : ZN) (I : yInv L xs m2) : yLQ D y P r r m2 := by
  unfold yLQ
  rw [if_pos rfl]
  exact K m2 I
theorem yLR_of (K : ∀ m2, yInv L xs m2 → zwpN (D + 900 + 1) 318 2197 [some (zA 0), some (zA 3), some (zA 236), some (zI y)] [] m2 P) (r : Int) (m2 : ZN) (I : yInv L xs m2) : yLR D y P r r m2 := by
  unfold yLR
  have e : zlcmp r r = 0 := by unfold zlcmp; split <;> omega
  rw [if_pos e]
  exact K m2 I
theorem l_264 (I : yInv L xs m) (hL : L ≤ 3072) (hx : ∀ j, 0 ≤ j → j < L → -2147483648 ≤ xs j ∧ xs j ≤ 2147483647) (y0 : 0 ≤ y) (y1 : y + 6 ≤ L) (K : ∀ m2, yInv L xs m2 → zwpN (D + 900 + 1) 318 2197 [some (zA 0), some (zA 3), some (zA 236), some (zI y)] [] m2 P) : zwpN (D + 900 + 1) 318 264 [some (zA 0), some (zA 3), some (zA 236), some (zI y)] [] m P := by
  refine w_318_264 ?_
  have e0 : zr m 0 (-1) = L := I.1.1
  rw [zb_id (z := y + 1) (by omega) (by omega), zb_id (z := y + 2) (by omega) (by omega), zb_id (z := y + 3) (by omega) (by omega), e0, yck_of (⟨by omega, by omega⟩ : (0 : Int) ≤ y + 1 ∧ y + 1 < L), yck_of (⟨by omega, by omega⟩ : (0 : Int) ≤ y + 2 ∧ y + 2 < L), yck_of (⟨by omega, by omega⟩ : (0 : Int) ≤ y + 3 ∧ y + 3 < L)]
  exact zcI_2 (p_row (d := D + 891) (Q := yLQ D y P) I (fun r m2 I2 => yLQ_of K r m2 I2) _ _ _) (fun v m1 e h => by
    rw [e, e0, yck_of (⟨by omega, by omega⟩ : (0 : Int) ≤ y + 1 ∧ y + 1 < L), yck_of (⟨by omega, by omega⟩ : (0 : Int) ≤ y + 2 ∧ y + 2 < L), yck_of (⟨by omega, by omega⟩ : (0 : Int) ≤ y + 3 ∧ y + 3 < L)]
    exact h)
theorem l_307 (I : yInv L xs m) (hL : L ≤ 3072) (hx : ∀ j, 0 ≤ j → j < L → -2147483648 ≤ xs j ∧ xs j ≤ 2147483647) (y0 : 0 ≤ y) (y1 : y + 6 ≤ L) (K : ∀ m2, yInv L xs m2 → zwpN (D + 900 + 1) 318 2197 [some (zA 0), some (zA 3), some (zA 236), some (zI y)] [] m2 P) : zwpN (D + 900 + 1) 318 307 [some (zA 0), some (zA 3), some (zA 236), some (zI y)] [] m P := by
  refine w_318_307 ?_
  have e0 : zr m 0 (-1) = L := I.1.1
  rw [zb_id (z := y + 1) (by omega) (by omega), zb_id (z := y + 2) (by omega) (by omega), zb_id (z := y + 3) (by omega) (by omega), zb_id (z := y + 4) (by omega) (by omega), e0, yck_of (⟨by omega, by omega⟩ : (0 : Int) ≤ y + 1 ∧ y + 1 < L), yck_of (⟨by omega, by omega⟩ : (0 : Int) ≤ y + 2 ∧ y + 2 < L), yck_of (⟨by omega, by omega⟩ : (0 : Int) ≤ y + 3 ∧ y + 3 < L), yck_of (⟨by omega, by omega⟩ : (0 : Int) ≤ y + 4 ∧ y + 4 < L)]
  exact zcI_2 (p_set (d := D + 891) (Q := yLQ D y P) I (fun r m2 I2 => yLQ_of K r m2 I2) _ _ _) (fun v m1 e h => by
    rw [e, e0, yck_of (⟨by omega, by omega⟩ : (0 : Int) ≤ y + 1 ∧ y + 1 < L), yck_of (⟨by omega, by omega⟩ : (0 : Int) ≤ y + 2 ∧ y + 2 < L), yck_of (⟨by omega, by omega⟩ : (0 : Int) ≤ y + 3 ∧ y + 3 < L), yck_of (⟨by omega, by omega⟩ : (0 : Int) ≤ y + 4 ∧ y + 4 < L)]
    exact h)
theorem l_380 (I : yInv L xs m) (hL : L ≤ 3072) (hx : ∀ j, 0 ≤ j → j < L → -2147483648 ≤ xs j ∧ xs j ≤ 2147483647) (y0 : 0 ≤ y) (y1 : y + 6 ≤ L) (K : ∀ m2, yInv L xs m2 → zwpN (D + 900 + 1) 318 2197 [some (zA 0), some (zA 3), some (zA 236), some (zI y)] [] m2 P) : zwpN (D + 900 + 1) 318 380 [some (zA 0), some (zA 3), some (zA 236), some (zI y)] [] m P := by
  refine w_318_380 ?_
  have e0 : zr m 0 (-1) = L := I.1.1
  rw [zb_id (z := y + 1) (by omega) (by omega), zb_id (z := y + 2) (by omega) (by omega), zb_id (z := y + 3) (by omega) (by omega), zb_id (z := y + 4) (by omega) (by omega), zb_id (z := y + 5) (by omega) (by omega), e0, yck_of (⟨by omega, by omega⟩ : (0 : Int) ≤ y + 1 ∧ y + 1 < L), yck_of (⟨by omega, by omega⟩ : (0 : Int) ≤ y + 2 ∧ y + 2 < L), yck_of (⟨by omega, by omega⟩ : (0 : Int) ≤ y + 3 ∧ y + 3 < L), yck_of (⟨by omega, by omega⟩ : (0 : Int) ≤ y + 4 ∧ y + 4 < L), yck_of (⟨by omega, by omega⟩ : (0 : Int) ≤ y + 5 ∧ y + 5 < L)]
  exact zcI_2 (p_copy (d := D + 891) (Q := yLQ D y P) I (fun r m2 I2 => yLQ_of K r m2 I2) _ _ _ _ _) (fun v m1 e h => by
    rw [e, e0, yck_of (⟨by omega, by omega⟩ : (0 : Int) ≤ y + 1 ∧ y + 1 < L), yck_of (⟨by omega, by omega⟩ : (0 : Int) ≤ y + 2 ∧ y + 2 < L), yck_of (⟨by omega, by omega⟩ : (0 : Int) ≤ y + 3 ∧ y + 3 < L), yck_of (⟨by omega, by omega⟩ : (0 : Int) ≤ y + 4 ∧ y + 4 < L), yck_of (⟨by omega, by omega⟩ : (0 : Int) ≤ y + 5 ∧ y + 5 < L)]
    exact h)
theorem l_443 (I : yInv L xs m) (hL : L ≤ 3072) (hx : ∀ j, 0 ≤ j → j < L → -2147483648 ≤ xs j ∧ xs j ≤ 2147483647) (y0 : 0 ≤ y) (y1 : y + 6 ≤ L) (K : ∀ m2, yInv L xs m2 → zwpN (D + 900 + 1) 318 2197 [some (zA 0), some (zA 3), some (zA 236), some (zI y)] [] m2 P) : zwpN (D + 900 + 1) 318 443 [some (zA 0), some (zA 3), some (zA 236), some (zI y)] [] m P := by
  refine w_318_443 ?_
  have e0 : zr m 0 (-1) = L := I.1.1
  rw [zb_id (z := y + 1) (by omega) (by omega), zb_id (z := y + 2) (by omega) (by omega), e0, yck_of (⟨by omega, by omega⟩ : (0 : Int) ≤ y + 1 ∧ y + 1 < L), yck_of (⟨by omega, by omega⟩ : (0 : Int) ≤ y + 2 ∧ y + 2 < L)]
  exact zcJ_2 (p_element (d := D + 891) (Q := yLR D y P) I (fun r m2 I2 => yLR_of K r m2 I2) _ _) (fun v m1 e h => by
    rw [e, e0, yck_of (⟨by omega, by omega⟩ : (0 : Int) ≤ y + 1 ∧ y + 1 < L), yck_of (⟨by omega, by omega⟩ : (0 : Int) ≤ y + 2 ∧ y + 2 < L)]
    exact h)
theorem l_477 (I : yInv L xs m) (hL : L ≤ 3072) (hx : ∀ j, 0 ≤ j → j < L → -2147483648 ≤ xs j ∧ xs j ≤ 2147483647) (y0 : 0 ≤ y) (y1 : y + 6 ≤ L) (K : ∀ m2, yInv L xs m2 → zwpN (D + 900 + 1) 318 2197 [some (zA 0), some (zA 3), some (zA 236), some (zI y)] [] m2 P) : zwpN (D + 900 + 1) 318 477 [some (zA 0), some (zA 3), some (zA 236), some (zI y)] [] m P := by
  refine w_318_477 ?_
  have e0 : zr m 0 (-1) = L := I.1.1
  rw [zb_id (z := y + 1) (by omega) (by omega), e0, yck_of (⟨by omega, by omega⟩ : (0 : Int) ≤ y + 1 ∧ y + 1 < L)]
  exact zcI_2 (p_holds (d := D + 891) (Q := yLQ D y P) I (fun r m2 I2 => yLQ_of K r m2 I2) _) (fun v m1 e h => by
    rw [e, e0, yck_of (⟨by omega, by omega⟩ : (0 : Int) ≤ y + 1 ∧ y + 1 < L)]
    exact h)
theorem l_500 (I : yInv L xs m) (hL : L ≤ 3072) (hx : ∀ j, 0 ≤ j → j < L → -2147483648 ≤ xs j ∧ xs j ≤ 2147483647) (y0 : 0 ≤ y) (y1 : y + 6 ≤ L) (K : ∀ m2, yInv L xs m2 → zwpN (D + 900 + 1) 318 2197 [some (zA 0), some (zA 3), some (zA 236), some (zI y)] [] m2 P) : zwpN (D + 900 + 1) 318 500 [some (zA 0), some (zA 3), some (zA 236), some (zI y)] [] m P := by
  refine w_318_500 ?_
  have e0 : zr m 0 (-1) = L := I.1.1
  rw [zb_id (z := y + 1) (by omega) (by omega), zb_id (z := y + 2) (by omega) (by omega), e0, yck_of (⟨by omega, by omega⟩ : (0 : Int) ≤ y + 1 ∧ y + 1 < L), yck_of (⟨by omega, by omega⟩ : (0 : Int) ≤ y + 2 ∧ y + 2 < L)]
  exact zcI_2 (p_show (d := D + 891) (Q := yLQ D y P) I (fun r m2 I2 => yLQ_of K r m2 I2) _ _) (fun v m1 e h => by
    rw [e, e0, yck_of (⟨by omega, by omega⟩ : (0 : Int) ≤ y + 1 ∧ y + 1 < L), yck_of (⟨by omega, by omega⟩ : (0 : Int) ≤ y + 2 ∧ y + 2 < L)]
    exact h)
theorem l_533 (I : yInv L xs m) (hL : L ≤ 3072) (hx : ∀ j, 0 ≤ j → j < L → -2147483648 ≤ xs j ∧ xs j ≤ 2147483647) (y0 : 0 ≤ y) (y1 : y + 6 ≤ L) (K : ∀ m2, yInv L xs m2 → zwpN (D + 900 + 1) 318 2197 [some (zA 0), some (zA 3), some (zA 236), some (zI y)] [] m2 P) : zwpN (D + 900 + 1) 318 533 [some (zA 0), some (zA 3), some (zA 236), some (zI y)] [] m P := by
  refine w_318_533 ?_
  have e0 : zr m 0 (-1) = L := I.1.1
  rw [zb_id (z := y + 1) (by omega) (by omega), zb_id (z := y + 2) (by omega) (by omega), e0, yck_of (⟨by omega, by omega⟩ : (0 : Int) ≤ y + 1 ∧ y + 1 < L), yck_of (⟨by omega, by omega⟩ : (0 : Int) ≤ y + 2 ∧ y + 2 < L)]
  exact zcI_2 (p_says (d := D + 891) (Q := yLQ D y P) I (fun r m2 I2 => yLQ_of K r m2 I2) _ _) (fun v m1 e h => by
    rw [e, e0, yck_of (⟨by omega, by omega⟩ : (0 : Int) ≤ y + 1 ∧ y + 1 < L), yck_of (⟨by omega, by omega⟩ : (0 : Int) ≤ y + 2 ∧ y + 2 < L)]
    exact h)
theorem l_566 (I : yInv L xs m) (hL : L ≤ 3072) (hx : ∀ j, 0 ≤ j → j < L → -2147483648 ≤ xs j ∧ xs j ≤ 2147483647) (y0 : 0 ≤ y) (y1 : y + 6 ≤ L) (K : ∀ m2, yInv L xs m2 → zwpN (D + 900 + 1) 318 2197 [some (zA 0), some (zA 3), some (zA 236), some (zI y)] [] m2 P) : zwpN (D + 900 + 1) 318 566 [some (zA 0), some (zA 3), some (zA 236), some (zI y)] [] m P := by
  refine w_318_566 ?_
  have e0 : zr m 0 (-1) = L := I.1.1
  rw [zb_id (z := y + 1) (by omega) (by omega), zb_id (z := y + 2) (by omega) (by omega), zb_id (z := y + 3) (by omega) (by omega), e0, yck_of (⟨by omega, by omega⟩ : (0 : Int) ≤ y + 1 ∧ y + 1 < L), yck_of (⟨by omega, by omega⟩ : (0 : Int) ≤ y + 2 ∧ y + 2 < L), yck_of (⟨by omega, by omega⟩ : (0 : Int) ≤ y + 3 ∧ y + 3 < L)]
  exact zcI_2 (p_line (d := D + 891) (Q := yLQ D y P) I (fun r m2 I2 => yLQ_of K r m2 I2) _ _ _) (fun v m1 e h => by
    rw [e, e0, yck_of (⟨by omega, by omega⟩ : (0 : Int) ≤ y + 1 ∧ y + 1 < L), yck_of (⟨by omega, by omega⟩ : (0 : Int) ≤ y + 2 ∧ y + 2 < L), yck_of (⟨by omega, by omega⟩ : (0 : Int) ≤ y + 3 ∧ y + 3 < L)]
    exact h)
theorem l_609 (I : yInv L xs m) (hL : L ≤ 3072) (hx : ∀ j, 0 ≤ j → j < L → -2147483648 ≤ xs j ∧ xs j ≤ 2147483647) (y0 : 0 ≤ y) (y1 : y + 6 ≤ L) (K : ∀ m2, yInv L xs m2 → zwpN (D + 900 + 1) 318 2197 [some (zA 0), some (zA 3), some (zA 236), some (zI y)] [] m2 P) : zwpN (D + 900 + 1) 318 609 [some (zA 0), some (zA 3), some (zA 236), some (zI y)] [] m P := by
  refine w_318_609 ?_
  have e0 : zr m 0 (-1) = L := I.1.1
  rw [zb_id (z := y + 1) (by omega) (by omega), zb_id (z := y + 2) (by omega) (by omega), zb_id (z := y + 3) (by omega) (by omega), e0, yck_of (⟨by omega, by omega⟩ : (0 : Int) ≤ y + 1 ∧ y + 1 < L), yck_of (⟨by omega, by omega⟩ : (0 : Int) ≤ y + 2 ∧ y + 2 < L), yck_of (⟨by omega, by omega⟩ : (0 : Int) ≤ y + 3 ∧ y + 3 < L)]
  exact zcI_2 (p_alter (d := D + 891) (Q := yLQ D y P) I (fun r m2 I2 => yLQ_of K r m2 I2) _ _ _) (fun v m1 e h => by
    rw [e, e0, yck_of (⟨by omega, by omega⟩ : (0 : Int) ≤ y + 1 ∧ y + 1 < L), yck_of (⟨by omega, by omega⟩ : (0 : Int) ≤ y + 2 ∧ y + 2 < L), yck_of (⟨by omega, by omega⟩ : (0 : Int) ≤ y + 3 ∧ y + 3 < L)]
    exact h)
theorem l_652 (I : yInv L xs m) (hL : L ≤ 3072) (hx : ∀ j, 0 ≤ j → j < L → -2147483648 ≤ xs j ∧ xs j ≤ 2147483647) (y0 : 0 ≤ y) (y1 : y + 6 ≤ L) (K : ∀ m2, yInv L xs m2 → zwpN (D + 900 + 1) 318 2197 [some (zA 0), some (zA 3), some (zA 236), some (zI y)] [] m2 P) : zwpN (D + 900 + 1) 318 652 [some (zA 0), some (zA 3), some (zA 236), some (zI y)] [] m P := by
  refine w_318_652 ?_
  have e0 : zr m 0 (-1) = L := I.1.1
  rw [zb_id (z := y + 1) (by omega) (by omega), e0, yck_of (⟨by omega, by omega⟩ : (0 : Int) ≤ y + 1 ∧ y + 1 < L)]
  exact zcI_2 (p_strike (d := D + 891) (Q := yLQ D y P) I (fun r m2 I2 => yLQ_of K r m2 I2) _) (fun v m1 e h => by
    rw [e, e0, yck_of (⟨by omega, by omega⟩ : (0 : Int) ≤ y + 1 ∧ y + 1 < L)]
    exact h)
theorem l_675 (I : yInv L xs m) (hL : L ≤ 3072) (hx : ∀ j, 0 ≤ j → j < L → -2147483648 ≤ xs j ∧ xs j ≤ 2147483647) (y0 : 0 ≤ y) (y1 : y + 6 ≤ L) (K : ∀ m2, yInv L xs m2 → zwpN (D + 900 + 1) 318 2197 [some (zA 0), some (zA 3), some (zA 236), some (zI y)] [] m2 P) : zwpN (D + 900 + 1) 318 675 [some (zA 0), some (zA 3), some (zA 236), some (zI y)] [] m P := by
  refine w_318_675 ?_
  have e0 : zr m 0 (-1) = L := I.1.1
  rw [zb_id (z := y + 1) (by omega) (by omega), e0, yck_of (⟨by omega, by omega⟩ : (0 : Int) ≤ y + 1 ∧ y + 1 < L)]
  exact zcI_2 (p_price (d := D + 891) (Q := yLQ D y P) I (fun r m2 I2 => yLQ_of K r m2 I2) _) (fun v m1 e h => by
    rw [e, e0, yck_of (⟨by omega, by omega⟩ : (0 : Int) ≤ y + 1 ∧ y + 1 < L)]
    exact h)
theorem l_698 (I : yInv L xs m) (hL : L ≤ 3072) (hx : ∀ j, 0 ≤ j → j < L → -2147483648 ≤ xs j ∧ xs j ≤ 2147483647) (y0 : 0 ≤ y) (y1 : y + 6 ≤ L) (K : ∀ m2, yInv L xs m2 → zwpN (D + 900 + 1) 318 2197 [some (zA 0), some (zA 3), some (zA 236), some (zI y)] [] m2 P) : zwpN (D + 900 + 1) 318 698 [some (zA 0), some (zA 3), some (zA 236), some (zI y)] [] m P := by
  refine w_318_698 ?_
  have e0 : zr m 0 (-1) = L := I.1.1
  rw [zb_id (z := y + 1) (by omega) (by omega), e0, yck_of (⟨by omega, by omega⟩ : (0 : Int) ≤ y + 1 ∧ y + 1 < L)]
  exact zcI_2 (p_feed (d := D + 891) (Q := yLQ D y P) I (fun r m2 I2 => yLQ_of K r m2 I2) _) (fun v m1 e h => by
    rw [e, e0, yck_of (⟨by omega, by omega⟩ : (0 : Int) ≤ y + 1 ∧ y + 1 < L)]
    exact h)
theorem l_721 (I : yInv L xs m) (hL : L ≤ 3072) (hx : ∀ j, 0 ≤ j → j < L → -2147483648 ≤ xs j ∧ xs j ≤ 2147483647) (y0 : 0 ≤ y) (y1 : y + 6 ≤ L) (K : ∀ m2, yInv L xs m2 → zwpN (D + 900 + 1) 318 2197 [some (zA 0), some (zA 3), some (zA 236), some (zI y)] [] m2 P) : zwpN (D + 900 + 1) 318 721 [some (zA 0), some (zA 3), some (zA 236), some (zI y)] [] m P := by
  refine w_318_721 ?_
  exact zcI_2 (p_wipe (d := D + 891) (Q := yLQ D y P) I (fun r m2 I2 => yLQ_of K r m2 I2)) (fun v m1 e h => by
    exact h)
theorem l_734 (I : yInv L xs m) (hL : L ≤ 3072) (hx : ∀ j, 0 ≤ j → j < L → -2147483648 ≤ xs j ∧ xs j ≤ 2147483647) (y0 : 0 ≤ y) (y1 : y + 6 ≤ L) (K : ∀ m2, yInv L xs m2 → zwpN (D + 900 + 1) 318 2197 [some (zA 0), some (zA 3), some (zA 236), some (zI y)] [] m2 P) : zwpN (D + 900 + 1) 318 734 [some (zA 0), some (zA 3), some (zA 236), some (zI y)] [] m P := by
  refine w_318_734 ?_
  exact zcI_2 (p_table (d := D + 891) (Q := yLQ D y P) I (fun r m2 I2 => yLQ_of K r m2 I2)) (fun v m1 e h => by
    exact h)
theorem l_747 (I : yInv L xs m) (hL : L ≤ 3072) (hx : ∀ j, 0 ≤ j → j < L → -2147483648 ≤ xs j ∧ xs j ≤ 2147483647) (y0 : 0 ≤ y) (y1 : y + 6 ≤ L) (K : ∀ m2, yInv L xs m2 → zwpN (D + 900 + 1) 318 2197 [some (zA 0), some (zA 3), some (zA 236), some (zI y)] [] m2 P) : zwpN (D + 900 + 1) 318 747 [some (zA 0), some (zA 3), some (zA 236), some (zI y)] [] m P := by
  refine w_318_747 ?_
  exact zcI_2 (p_cond (d := D) (Q := yLQ D y P) I (fun r m2 I2 => yLQ_of K r m2 I2)) (fun v m1 e h => by
    exact h)
theorem l_760 (I : yInv L xs m) (hL : L ≤ 3072) (hx : ∀ j, 0 ≤ j → j < L → -2147483648 ≤ xs j ∧ xs j ≤ 2147483647) (y0 : 0 ≤ y) (y1 : y + 6 ≤ L) (K : ∀ m2, yInv L xs m2 → zwpN (D + 900 + 1) 318 2197 [some (zA 0), some (zA 3), some (zA 236), some (zI y)] [] m2 P) : zwpN (D + 900 + 1) 318 760 [some (zA 0), some (zA 3), some (zA 236), some (zI y)] [] m P := by
  refine w_318_760 ?_
  have e0 : zr m 0 (-1) = L := I.1.1
  rw [zb_id (z := y + 1) (by omega) (by omega), zb_id (z := y + 2) (by omega) (by omega), zb_id (z := y + 3) (by omega) (by omega), e0, yck_of (⟨by omega, by omega⟩ : (0 : Int) ≤ y + 1 ∧ y + 1 < L), yck_of (⟨by omega, by omega⟩ : (0 : Int) ≤ y + 2 ∧ y + 2 < L), yck_of (⟨by omega, by omega⟩ : (0 : Int) ≤ y + 3 ∧ y + 3 < L)]
  exact zcI_2 (p_test (d := D + 891) (Q := yLQ D y P) I (fun r m2 I2 => yLQ_of K r m2 I2) _ _ _) (fun v m1 e h => by
    rw [e, e0, yck_of (⟨by omega, by omega⟩ : (0 : Int) ≤ y + 1 ∧ y + 1 < L), yck_of (⟨by omega, by omega⟩ : (0 : Int) ≤ y + 2 ∧ y + 2 < L), yck_of (⟨by omega, by omega⟩ : (0 : Int) ≤ y + 3 ∧ y + 3 < L)]
    exact h)
theorem l_803 (I : yInv L xs m) (hL : L ≤ 3072) (hx : ∀ j, 0 ≤ j → j < L → -2147483648 ≤ xs j ∧ xs j ≤ 2147483647) (y0 : 0 ≤ y) (y1 : y + 6 ≤ L) (K : ∀ m2, yInv L xs m2 → zwpN (D + 900 + 1) 318 2197 [some (zA 0), some (zA 3), some (zA 236), some (zI y)] [] m2 P) : zwpN (D + 900 + 1) 318 803 [some (zA 0), some (zA 3), some (zA 236), some (zI y)] [] m P := by
  refine w_318_803 ?_
  have e0 : zr m 0 (-1) = L := I.1.1
  have r : ∀ j, 0 ≤ j → j < L → -2147483648 ≤ zr m 0 j ∧ zr m 0 j ≤ 2147483647 := fun j j0 j1 => by rw [I.1.2 j j0 j1]; exact hx j j0 j1
  rw [zb_id (z := y + 1) (by omega) (by omega), zb_id (z := y + 2) (by omega) (by omega), e0, yck_of (⟨by omega, by omega⟩ : (0 : Int) ≤ y + 1 ∧ y + 1 < L), yck_of (⟨by omega, by omega⟩ : (0 : Int) ≤ y + 2 ∧ y + 2 < L)]
  exact zcI_2 (p_among (d := D + 891) (Q := yLQ D y P) I (fun r m2 I2 => yLQ_of K r m2 I2) _ _ (r (y + 2) (by omega) (by omega)).1 (r (y + 2) (by omega) (by omega)).2) (fun v m1 e h => by
    rw [e, e0, yck_of (⟨by omega, by omega⟩ : (0 : Int) ≤ y + 1 ∧ y + 1 < L), yck_of (⟨by omega, by omega⟩ : (0 : Int) ≤ y + 2 ∧ y + 2 < L)]
    exact h)
theorem l_836 (I : yInv L xs m) (hL : L ≤ 3072) (hx : ∀ j, 0 ≤ j → j < L → -2147483648 ≤ xs j ∧ xs j ≤ 2147483647) (y0 : 0 ≤ y) (y1 : y + 6 ≤ L) (K : ∀ m2, yInv L xs m2 → zwpN (D + 900 + 1) 318 2197 [some (zA 0), some (zA 3), some (zA 236), some (zI y)] [] m2 P) : zwpN (D + 900 + 1) 318 836 [some (zA 0), some (zA 3), some (zA 236), some (zI y)] [] m P := by
  refine w_318_836 ?_
  have e0 : zr m 0 (-1) = L := I.1.1
  rw [zb_id (z := y + 1) (by omega) (by omega), e0, yck_of (⟨by omega, by omega⟩ : (0 : Int) ≤ y + 1 ∧ y + 1 < L)]
  exact zcI_2 (p_gone (d := D + 891) (Q := yLQ D y P) I (fun r m2 I2 => yLQ_of K r m2 I2) _) (fun v m1 e h => by
    rw [e, e0, yck_of (⟨by omega, by omega⟩ : (0 : Int) ≤ y + 1 ∧ y + 1 < L)]
    exact h)
theorem l_859 (I : yInv L xs m) (hL : L ≤ 3072) (hx : ∀ j, 0 ≤ j → j < L → -2147483648 ≤ xs j ∧ xs j ≤ 2147483647) (y0 : 0 ≤ y) (y1 : y + 6 ≤ L) (K : ∀ m2, yInv L xs m2 → zwpN (D + 900 + 1) 318 2197 [some (zA 0), some (zA 3), some (zA 236), some (zI y)] [] m2 P) : zwpN (D + 900 + 1) 318 859 [some (zA 0), some (zA 3), some (zA 236), some (zI y)] [] m P := by
  refine w_318_859 ?_
  have e0 : zr m 0 (-1) = L := I.1.1
  rw [zb_id (z := y + 1) (by omega) (by omega), zb_id (z := y + 2) (by omega) (by omega), zb_id (z := y + 3) (by omega) (by omega), e0, yck_of (⟨by omega, by omega⟩ : (0 : Int) ≤ y + 1 ∧ y + 1 < L), yck_of (⟨by omega, by omega⟩ : (0 : Int) ≤ y + 2 ∧ y + 2 < L), yck_of (⟨by omega, by omega⟩ : (0 : Int) ≤ y + 3 ∧ y + 3 < L)]
  exact zcI_2 (p_columns (d := D + 891) (Q := yLQ D y P) I (fun r m2 I2 => yLQ_of K r m2 I2) _ _ _) (fun v m1 e h => by
    rw [e, e0, yck_of (⟨by omega, by omega⟩ : (0 : Int) ≤ y + 1 ∧ y + 1 < L), yck_of (⟨by omega, by omega⟩ : (0 : Int) ≤ y + 2 ∧ y + 2 < L), yck_of (⟨by omega, by omega⟩ : (0 : Int) ≤ y + 3 ∧ y + 3 < L)]
    exact h)
theorem l_902 (I : yInv L xs m) (hL : L ≤ 3072) (hx : ∀ j, 0 ≤ j → j < L → -2147483648 ≤ xs j ∧ xs j ≤ 2147483647) (y0 : 0 ≤ y) (y1 : y + 6 ≤ L) (K : ∀ m2, yInv L xs m2 → zwpN (D + 900 + 1) 318 2197 [some (zA 0), some (zA 3), some (zA 236), some (zI y)] [] m2 P) : zwpN (D + 900 + 1) 318 902 [some (zA 0), some (zA 3), some (zA 236), some (zI y)] [] m P := by
  refine w_318_902 ?_
  have e0 : zr m 0 (-1) = L := I.1.1
  rw [zb_id (z := y + 1) (by omega) (by omega), zb_id (z := y + 2) (by omega) (by omega), zb_id (z := y + 3) (by omega) (by omega), e0, yck_of (⟨by omega, by omega⟩ : (0 : Int) ≤ y + 1 ∧ y + 1 < L), yck_of (⟨by omega, by omega⟩ : (0 : Int) ≤ y + 2 ∧ y + 2 < L), yck_of (⟨by omega, by omega⟩ : (0 : Int) ≤ y + 3 ∧ y + 3 < L)]
  exact zcI_2 (p_rest (d := D + 891) (Q := yLQ D y P) I (fun r m2 I2 => yLQ_of K r m2 I2) _ _ _) (fun v m1 e h => by
    rw [e, e0, yck_of (⟨by omega, by omega⟩ : (0 : Int) ≤ y + 1 ∧ y + 1 < L), yck_of (⟨by omega, by omega⟩ : (0 : Int) ≤ y + 2 ∧ y + 2 < L), yck_of (⟨by omega, by omega⟩ : (0 : Int) ≤ y + 3 ∧ y + 3 < L)]
    exact h)
theorem l_945 (I : yInv L xs m) (hL : L ≤ 3072) (hx : ∀ j, 0 ≤ j → j < L → -2147483648 ≤ xs j ∧ xs j ≤ 2147483647) (y0 : 0 ≤ y) (y1 : y + 6 ≤ L) (K : ∀ m2, yInv L xs m2 → zwpN (D + 900 + 1) 318 2197 [some (zA 0), some (zA 3), some (zA 236), some (zI y)] [] m2 P) : zwpN (D + 900 + 1) 318 945 [some (zA 0), some (zA 3), some (zA 236), some (zI y)] [] m P := by
  refine w_318_945 ?_
  have e0 : zr m 0 (-1) = L := I.1.1
  rw [zb_id (z := y + 1) (by omega) (by omega), zb_id (z := y + 2) (by omega) (by omega), zb_id (z := y + 3) (by omega) (by omega), e0, yck_of (⟨by omega, by omega⟩ : (0 : Int) ≤ y + 1 ∧ y + 1 < L), yck_of (⟨by omega, by omega⟩ : (0 : Int) ≤ y + 2 ∧ y + 2 < L), yck_of (⟨by omega, by omega⟩ : (0 : Int) ≤ y + 3 ∧ y + 3 < L)]
  exact zcI_2 (p_several (d := D + 891) (Q := yLQ D y P) I (fun r m2 I2 => yLQ_of K r m2 I2) _ _ _) (fun v m1 e h => by
    rw [e, e0, yck_of (⟨by omega, by omega⟩ : (0 : Int) ≤ y + 1 ∧ y + 1 < L), yck_of (⟨by omega, by omega⟩ : (0 : Int) ≤ y + 2 ∧ y + 2 < L), yck_of (⟨by omega, by omega⟩ : (0 : Int) ≤ y + 3 ∧ y + 3 < L)]
    exact h)
theorem l_988 (I : yInv L xs m) (hL : L ≤ 3072) (hx : ∀ j, 0 ≤ j → j < L → -2147483648 ≤ xs j ∧ xs j ≤ 2147483647) (y0 : 0 ≤ y) (y1 : y + 6 ≤ L) (K : ∀ m2, yInv L xs m2 → zwpN (D + 900 + 1) 318 2197 [some (zA 0), some (zA 3), some (zA 236), some (zI y)] [] m2 P) : zwpN (D + 900 + 1) 318 988 [some (zA 0), some (zA 3), some (zA 236), some (zI y)] [] m P := by
  refine w_318_988 ?_
  have e0 : zr m 0 (-1) = L := I.1.1
  rw [zb_id (z := y + 1) (by omega) (by omega), zb_id (z := y + 2) (by omega) (by omega), zb_id (z := y + 3) (by omega) (by omega), e0, yck_of (⟨by omega, by omega⟩ : (0 : Int) ≤ y + 1 ∧ y + 1 < L), yck_of (⟨by omega, by omega⟩ : (0 : Int) ≤ y + 2 ∧ y + 2 < L), yck_of (⟨by omega, by omega⟩ : (0 : Int) ≤ y + 3 ∧ y + 3 < L)]
  exact zcI_2 (p_pair (d := D + 891) (Q := yLQ D y P) I (fun r m2 I2 => yLQ_of K r m2 I2) _ _ _) (fun v m1 e h => by
    rw [e, e0, yck_of (⟨by omega, by omega⟩ : (0 : Int) ≤ y + 1 ∧ y + 1 < L), yck_of (⟨by omega, by omega⟩ : (0 : Int) ≤ y + 2 ∧ y + 2 < L), yck_of (⟨by omega, by omega⟩ : (0 : Int) ≤ y + 3 ∧ y + 3 < L)]
    exact h)
theorem l_1031 (I : yInv L xs m) (hL : L ≤ 3072) (hx : ∀ j, 0 ≤ j → j < L → -2147483648 ≤ xs j ∧ xs j ≤ 2147483647) (y0 : 0 ≤ y) (y1 : y + 6 ≤ L) (K : ∀ m2, yInv L xs m2 → zwpN (D + 900 + 1) 318 2197 [some (zA 0), some (zA 3), some (zA 236), some (zI y)] [] m2 P) : zwpN (D + 900 + 1) 318 1031 [some (zA 0), some (zA 3), some (zA 236), some (zI y)] [] m P := by
  refine w_318_1031 ?_
  have e0 : zr m 0 (-1) = L := I.1.1
  rw [zb_id (z := y + 1) (by omega) (by omega), zb_id (z := y + 2) (by omega) (by omega), e0, yck_of (⟨by omega, by omega⟩ : (0 : Int) ≤ y + 1 ∧ y + 1 < L), yck_of (⟨by omega, by omega⟩ : (0 : Int) ≤ y + 2 ∧ y + 2 < L)]
  exact zcI_2 (p_turn (d := D + 891) (Q := yLQ D y P) I (fun r m2 I2 => yLQ_of K r m2 I2) _ _) (fun v m1 e h => by
    rw [e, e0, yck_of (⟨by omega, by omega⟩ : (0 : Int) ≤ y + 1 ∧ y + 1 < L), yck_of (⟨by omega, by omega⟩ : (0 : Int) ≤ y + 2 ∧ y + 2 < L)]
    exact h)
theorem l_1064 (I : yInv L xs m) (hL : L ≤ 3072) (hx : ∀ j, 0 ≤ j → j < L → -2147483648 ≤ xs j ∧ xs j ≤ 2147483647) (y0 : 0 ≤ y) (y1 : y + 6 ≤ L) (K : ∀ m2, yInv L xs m2 → zwpN (D + 900 + 1) 318 2197 [some (zA 0), some (zA 3), some (zA 236), some (zI y)] [] m2 P) : zwpN (D + 900 + 1) 318 1064 [some (zA 0), some (zA 3), some (zA 236), some (zI y)] [] m P := by
  refine w_318_1064 ?_
  exact zcI_2 (p_drop (d := D + 891) (Q := yLQ D y P) I (fun r m2 I2 => yLQ_of K r m2 I2)) (fun v m1 e h => by
    exact h)
theorem l_1077 (I : yInv L xs m) (hL : L ≤ 3072) (hx : ∀ j, 0 ≤ j → j < L → -2147483648 ≤ xs j ∧ xs j ≤ 2147483647) (y0 : 0 ≤ y) (y1 : y + 6 ≤ L) (K : ∀ m2, yInv L xs m2 → zwpN (D + 900 + 1) 318 2197 [some (zA 0), some (zA 3), some (zA 236), some (zI y)] [] m2 P) : zwpN (D + 900 + 1) 318 1077 [some (zA 0), some (zA 3), some (zA 236), some (zI y)] [] m P := by
  refine w_318_1077 ?_
  have e0 : zr m 0 (-1) = L := I.1.1
  rw [zb_id (z := y + 1) (by omega) (by omega), zb_id (z := y + 2) (by omega) (by omega), e0, yck_of (⟨by omega, by omega⟩ : (0 : Int) ≤ y + 1 ∧ y + 1 < L), yck_of (⟨by omega, by omega⟩ : (0 : Int) ≤ y + 2 ∧ y + 2 < L)]
  exact zcI_2 (p_condOf (d := D + 891) (Q := yLQ D y P) I (fun r m2 I2 => yLQ_of K r m2 I2) _ _) (fun v m1 e h => by
    rw [e, e0, yck_of (⟨by omega, by omega⟩ : (0 : Int) ≤ y + 1 ∧ y + 1 < L), yck_of (⟨by omega, by omega⟩ : (0 : Int) ≤ y + 2 ∧ y + 2 < L)]
    exact h)
theorem l_1110 (I : yInv L xs m) (hL : L ≤ 3072) (hx : ∀ j, 0 ≤ j → j < L → -2147483648 ≤ xs j ∧ xs j ≤ 2147483647) (y0 : 0 ≤ y) (y1 : y + 6 ≤ L) (K : ∀ m2, yInv L xs m2 → zwpN (D + 900 + 1) 318 2197 [some (zA 0), some (zA 3), some (zA 236), some (zI y)] [] m2 P) : zwpN (D + 900 + 1) 318 1110 [some (zA 0), some (zA 3), some (zA 236), some (zI y)] [] m P := by
  refine w_318_1110 ?_
  have e0 : zr m 0 (-1) = L := I.1.1
  rw [zb_id (z := y + 1) (by omega) (by omega), zb_id (z := y + 2) (by omega) (by omega), e0, yck_of (⟨by omega, by omega⟩ : (0 : Int) ≤ y + 1 ∧ y + 1 < L), yck_of (⟨by omega, by omega⟩ : (0 : Int) ≤ y + 2 ∧ y + 2 < L)]
  exact zcI_2 (p_lineOf (d := D + 891) (Q := yLQ D y P) I (fun r m2 I2 => yLQ_of K r m2 I2) _ _) (fun v m1 e h => by
    rw [e, e0, yck_of (⟨by omega, by omega⟩ : (0 : Int) ≤ y + 1 ∧ y + 1 < L), yck_of (⟨by omega, by omega⟩ : (0 : Int) ≤ y + 2 ∧ y + 2 < L)]
    exact h)
theorem l_1143 (I : yInv L xs m) (hL : L ≤ 3072) (hx : ∀ j, 0 ≤ j → j < L → -2147483648 ≤ xs j ∧ xs j ≤ 2147483647) (y0 : 0 ≤ y) (y1 : y + 6 ≤ L) (K : ∀ m2, yInv L xs m2 → zwpN (D + 900 + 1) 318 2197 [some (zA 0), some (zA 3), some (zA 236), some (zI y)] [] m2 P) : zwpN (D + 900 + 1) 318 1143 [some (zA 0), some (zA 3), some (zA 236), some (zI y)] [] m P := by
  refine w_318_1143 ?_
  have e0 : zr m 0 (-1) = L := I.1.1
  rw [zb_id (z := y + 1) (by omega) (by omega), zb_id (z := y + 2) (by omega) (by omega), e0, yck_of (⟨by omega, by omega⟩ : (0 : Int) ≤ y + 1 ∧ y + 1 < L), yck_of (⟨by omega, by omega⟩ : (0 : Int) ≤ y + 2 ∧ y + 2 < L)]
  exact zcI_2 (p_keyOf (d := D + 891) (Q := yLQ D y P) I (fun r m2 I2 => yLQ_of K r m2 I2) _ _) (fun v m1 e h => by
    rw [e, e0, yck_of (⟨by omega, by omega⟩ : (0 : Int) ≤ y + 1 ∧ y + 1 < L), yck_of (⟨by omega, by omega⟩ : (0 : Int) ≤ y + 2 ∧ y + 2 < L)]
    exact h)
theorem l_1176 (I : yInv L xs m) (hL : L ≤ 3072) (hx : ∀ j, 0 ≤ j → j < L → -2147483648 ≤ xs j ∧ xs j ≤ 2147483647) (y0 : 0 ≤ y) (y1 : y + 6 ≤ L) (K : ∀ m2, yInv L xs m2 → zwpN (D + 900 + 1) 318 2197 [some (zA 0), some (zA 3), some (zA 236), some (zI y)] [] m2 P) : zwpN (D + 900 + 1) 318 1176 [some (zA 0), some (zA 3), some (zA 236), some (zI y)] [] m P := by
  refine w_318_1176 ?_
  have e0 : zr m 0 (-1) = L := I.1.1
  rw [zb_id (z := y + 1) (by omega) (by omega), zb_id (z := y + 2) (by omega) (by omega), zb_id (z := y + 3) (by omega) (by omega), e0, yck_of (⟨by omega, by omega⟩ : (0 : Int) ≤ y + 1 ∧ y + 1 < L), yck_of (⟨by omega, by omega⟩ : (0 : Int) ≤ y + 2 ∧ y + 2 < L), yck_of (⟨by omega, by omega⟩ : (0 : Int) ≤ y + 3 ∧ y + 3 < L)]
  exact zcI_2 (p_truth (d := D + 891) (Q := yLQ D y P) I (fun r m2 I2 => yLQ_of K r m2 I2) _ _ _) (fun v m1 e h => by
    rw [e, e0, yck_of (⟨by omega, by omega⟩ : (0 : Int) ≤ y + 1 ∧ y + 1 < L), yck_of (⟨by omega, by omega⟩ : (0 : Int) ≤ y + 2 ∧ y + 2 < L), yck_of (⟨by omega, by omega⟩ : (0 : Int) ≤ y + 3 ∧ y + 3 < L)]
    exact h)
theorem l_1219 (I : yInv L xs m) (hL : L ≤ 3072) (hx : ∀ j, 0 ≤ j → j < L → -2147483648 ≤ xs j ∧ xs j ≤ 2147483647) (y0 : 0 ≤ y) (y1 : y + 6 ≤ L) (K : ∀ m2, yInv L xs m2 → zwpN (D + 900 + 1) 318 2197 [some (zA 0), some (zA 3), some (zA 236), some (zI y)] [] m2 P) : zwpN (D + 900 + 1) 318 1219 [some (zA 0), some (zA 3), some (zA 236), some (zI y)] [] m P := by
  refine w_318_1219 ?_
  have e0 : zr m 0 (-1) = L := I.1.1
  rw [zb_id (z := y + 1) (by omega) (by omega), zb_id (z := y + 2) (by omega) (by omega), e0, yck_of (⟨by omega, by omega⟩ : (0 : Int) ≤ y + 1 ∧ y + 1 < L), yck_of (⟨by omega, by omega⟩ : (0 : Int) ≤ y + 2 ∧ y + 2 < L)]
  exact zcI_2 (p_keys (d := D + 891) (Q := yLQ D y P) I (fun r m2 I2 => yLQ_of K r m2 I2) _ _) (fun v m1 e h => by
    rw [e, e0, yck_of (⟨by omega, by omega⟩ : (0 : Int) ≤ y + 1 ∧ y + 1 < L), yck_of (⟨by omega, by omega⟩ : (0 : Int) ≤ y + 2 ∧ y + 2 < L)]
    exact h)
theorem l_1252 (I : yInv L xs m) (hL : L ≤ 3072) (hx : ∀ j, 0 ≤ j → j < L → -2147483648 ≤ xs j ∧ xs j ≤ 2147483647) (y0 : 0 ≤ y) (y1 : y + 6 ≤ L) (K : ∀ m2, yInv L xs m2 → zwpN (D + 900 + 1) 318 2197 [some (zA 0), some (zA 3), some (zA 236), some (zI y)] [] m2 P) : zwpN (D + 900 + 1) 318 1252 [some (zA 0), some (zA 3), some (zA 236), some (zI y)] [] m P := by
  refine w_318_1252 ?_
  have e0 : zr m 0 (-1) = L := I.1.1
  rw [zb_id (z := y + 1) (by omega) (by omega), zb_id (z := y + 2) (by omega) (by omega), e0, yck_of (⟨by omega, by omega⟩ : (0 : Int) ≤ y + 1 ∧ y + 1 < L), yck_of (⟨by omega, by omega⟩ : (0 : Int) ≤ y + 2 ∧ y + 2 < L)]
  exact zcI_2 (p_lines (d := D + 891) (Q := yLQ D y P) I (fun r m2 I2 => yLQ_of K r m2 I2) _ _) (fun v m1 e h => by
    rw [e, e0, yck_of (⟨by omega, by omega⟩ : (0 : Int) ≤ y + 1 ∧ y + 1 < L), yck_of (⟨by omega, by omega⟩ : (0 : Int) ≤ y + 2 ∧ y + 2 < L)]
    exact h)
theorem l_1285 (I : yInv L xs m) (hL : L ≤ 3072) (hx : ∀ j, 0 ≤ j → j < L → -2147483648 ≤ xs j ∧ xs j ≤ 2147483647) (y0 : 0 ≤ y) (y1 : y + 6 ≤ L) (K : ∀ m2, yInv L xs m2 → zwpN (D + 900 + 1) 318 2197 [some (zA 0), some (zA 3), some (zA 236), some (zI y)] [] m2 P) : zwpN (D + 900 + 1) 318 1285 [some (zA 0), some (zA 3), some (zA 236), some (zI y)] [] m P := by
  refine w_318_1285 ?_
  have e0 : zr m 0 (-1) = L := I.1.1
  rw [zb_id (z := y + 1) (by omega) (by omega), zb_id (z := y + 2) (by omega) (by omega), e0, yck_of (⟨by omega, by omega⟩ : (0 : Int) ≤ y + 1 ∧ y + 1 < L), yck_of (⟨by omega, by omega⟩ : (0 : Int) ≤ y + 2 ∧ y + 2 < L)]
  exact zcI_2 (p_values (d := D + 891) (Q := yLQ D y P) I (fun r m2 I2 => yLQ_of K r m2 I2) _ _) (fun v m1 e h => by
    rw [e, e0, yck_of (⟨by omega, by omega⟩ : (0 : Int) ≤ y + 1 ∧ y + 1 < L), yck_of (⟨by omega, by omega⟩ : (0 : Int) ≤ y + 2 ∧ y + 2 < L)]
    exact h)
theorem l_1318 (I : yInv L xs m) (hL : L ≤ 3072) (hx : ∀ j, 0 ≤ j → j < L → -2147483648 ≤ xs j ∧ xs j ≤ 2147483647) (y0 : 0 ≤ y) (y1 : y + 6 ≤ L) (K : ∀ m2, yInv L xs m2 → zwpN (D + 900 + 1) 318 2197 [some (zA 0), some (zA 3), some (zA 236), some (zI y)] [] m2 P) : zwpN (D + 900 + 1) 318 1318 [some (zA 0), some (zA 3), some (zA 236), some (zI y)] [] m P := by
  refine w_318_1318 ?_
  have e0 : zr m 0 (-1) = L := I.1.1
  rw [zb_id (z := y + 1) (by omega) (by omega), zb_id (z := y + 2) (by omega) (by omega), e0, yck_of (⟨by omega, by omega⟩ : (0 : Int) ≤ y + 1 ∧ y + 1 < L), yck_of (⟨by omega, by omega⟩ : (0 : Int) ≤ y + 2 ∧ y + 2 < L)]
  exact zcI_2 (p_runs (d := D + 891) (Q := yLQ D y P) I (fun r m2 I2 => yLQ_of K r m2 I2) _ _) (fun v m1 e h => by
    rw [e, e0, yck_of (⟨by omega, by omega⟩ : (0 : Int) ≤ y + 1 ∧ y + 1 < L), yck_of (⟨by omega, by omega⟩ : (0 : Int) ≤ y + 2 ∧ y + 2 < L)]
    exact h)
theorem l_1351 (I : yInv L xs m) (hL : L ≤ 3072) (hx : ∀ j, 0 ≤ j → j < L → -2147483648 ≤ xs j ∧ xs j ≤ 2147483647) (y0 : 0 ≤ y) (y1 : y + 6 ≤ L) (K : ∀ m2, yInv L xs m2 → zwpN (D + 900 + 1) 318 2197 [some (zA 0), some (zA 3), some (zA 236), some (zI y)] [] m2 P) : zwpN (D + 900 + 1) 318 1351 [some (zA 0), some (zA 3), some (zA 236), some (zI y)] [] m P := by
  refine w_318_1351 ?_
  have e0 : zr m 0 (-1) = L := I.1.1
  rw [zb_id (z := y + 1) (by omega) (by omega), zb_id (z := y + 2) (by omega) (by omega), zb_id (z := y + 3) (by omega) (by omega), e0, yck_of (⟨by omega, by omega⟩ : (0 : Int) ≤ y + 1 ∧ y + 1 < L), yck_of (⟨by omega, by omega⟩ : (0 : Int) ≤ y + 2 ∧ y + 2 < L), yck_of (⟨by omega, by omega⟩ : (0 : Int) ≤ y + 3 ∧ y + 3 < L)]
  exact zcI_2 (p_run (d := D + 891) (Q := yLQ D y P) I (fun r m2 I2 => yLQ_of K r m2 I2) _ _ _) (fun v m1 e h => by
    rw [e, e0, yck_of (⟨by omega, by omega⟩ : (0 : Int) ≤ y + 1 ∧ y + 1 < L), yck_of (⟨by omega, by omega⟩ : (0 : Int) ≤ y + 2 ∧ y + 2 < L), yck_of (⟨by omega, by omega⟩ : (0 : Int) ≤ y + 3 ∧ y + 3 < L)]
    exact h)
theorem l_1394 (I : yInv L xs m) (hL : L ≤ 3072) (hx : ∀ j, 0 ≤ j → j < L → -2147483648 ≤ xs j ∧ xs j ≤ 2147483647) (y0 : 0 ≤ y) (y1 : y + 6 ≤ L) (K : ∀ m2, yInv L xs m2 → zwpN (D + 900 + 1) 318 2197 [some (zA 0), some (zA 3), some (zA 236), some (zI y)] [] m2 P) : zwpN (D + 900 + 1) 318 1394 [some (zA 0), some (zA 3), some (zA 236), some (zI y)] [] m P := by
  refine w_318_1394 ?_
  have e0 : zr m 0 (-1) = L := I.1.1
  rw [zb_id (z := y + 1) (by omega) (by omega), zb_id (z := y + 2) (by omega) (by omega), zb_id (z := y + 3) (by omega) (by omega), zb_id (z := y + 4) (by omega) (by omega), e0, yck_of (⟨by omega, by omega⟩ : (0 : Int) ≤ y + 1 ∧ y + 1 < L), yck_of (⟨by omega, by omega⟩ : (0 : Int) ≤ y + 2 ∧ y + 2 < L), yck_of (⟨by omega, by omega⟩ : (0 : Int) ≤ y + 3 ∧ y + 3 < L), yck_of (⟨by omega, by omega⟩ : (0 : Int) ≤ y + 4 ∧ y + 4 < L)]
  exact zcI_2 (p_plan (d := D + 891) (Q := yLQ D y P) I (fun r m2 I2 => yLQ_of K r m2 I2) _ _ _ _) (fun v m1 e h => by
    rw [e, e0, yck_of (⟨by omega, by omega⟩ : (0 : Int) ≤ y + 1 ∧ y + 1 < L), yck_of (⟨by omega, by omega⟩ : (0 : Int) ≤ y + 2 ∧ y + 2 < L), yck_of (⟨by omega, by omega⟩ : (0 : Int) ≤ y + 3 ∧ y + 3 < L), yck_of (⟨by omega, by omega⟩ : (0 : Int) ≤ y + 4 ∧ y + 4 < L)]
    exact h)
theorem l_1447 (I : yInv L xs m) (hL : L ≤ 3072) (hx : ∀ j, 0 ≤ j → j < L → -2147483648 ≤ xs j ∧ xs j ≤ 2147483647) (y0 : 0 ≤ y) (y1 : y + 6 ≤ L) (K : ∀ m2, yInv L xs m2 → zwpN (D + 900 + 1) 318 2197 [some (zA 0), some (zA 3), some (zA 236), some (zI y)] [] m2 P) : zwpN (D + 900 + 1) 318 1447 [some (zA 0), some (zA 3), some (zA 236), some (zI y)] [] m P := by
  refine w_318_1447 ?_
  have e0 : zr m 0 (-1) = L := I.1.1
  rw [zb_id (z := y + 1) (by omega) (by omega), zb_id (z := y + 2) (by omega) (by omega), zb_id (z := y + 3) (by omega) (by omega), zb_id (z := y + 4) (by omega) (by omega), e0, yck_of (⟨by omega, by omega⟩ : (0 : Int) ≤ y + 1 ∧ y + 1 < L), yck_of (⟨by omega, by omega⟩ : (0 : Int) ≤ y + 2 ∧ y + 2 < L), yck_of (⟨by omega, by omega⟩ : (0 : Int) ≤ y + 3 ∧ y + 3 < L), yck_of (⟨by omega, by omega⟩ : (0 : Int) ≤ y + 4 ∧ y + 4 < L)]
  exact zcI_2 (p_of (d := D + 891) (Q := yLQ D y P) I (fun r m2 I2 => yLQ_of K r m2 I2) _ _ _ _) (fun v m1 e h => by
    rw [e, e0, yck_of (⟨by omega, by omega⟩ : (0 : Int) ≤ y + 1 ∧ y + 1 < L), yck_of (⟨by omega, by omega⟩ : (0 : Int) ≤ y + 2 ∧ y + 2 < L), yck_of (⟨by omega, by omega⟩ : (0 : Int) ≤ y + 3 ∧ y + 3 < L), yck_of (⟨by omega, by omega⟩ : (0 : Int) ≤ y + 4 ∧ y + 4 < L)]
    exact h)
theorem l_1500 (I : yInv L xs m) (hL : L ≤ 3072) (hx : ∀ j, 0 ≤ j → j < L → -2147483648 ≤ xs j ∧ xs j ≤ 2147483647) (y0 : 0 ≤ y) (y1 : y + 6 ≤ L) (K : ∀ m2, yInv L xs m2 → zwpN (D + 900 + 1) 318 2197 [some (zA 0), some (zA 3), some (zA 236), some (zI y)] [] m2 P) : zwpN (D + 900 + 1) 318 1500 [some (zA 0), some (zA 3), some (zA 236), some (zI y)] [] m P := by
  refine w_318_1500 ?_
  have e0 : zr m 0 (-1) = L := I.1.1
  rw [zb_id (z := y + 1) (by omega) (by omega), zb_id (z := y + 2) (by omega) (by omega), zb_id (z := y + 3) (by omega) (by omega), e0, yck_of (⟨by omega, by omega⟩ : (0 : Int) ≤ y + 1 ∧ y + 1 < L), yck_of (⟨by omega, by omega⟩ : (0 : Int) ≤ y + 2 ∧ y + 2 < L), yck_of (⟨by omega, by omega⟩ : (0 : Int) ≤ y + 3 ∧ y + 3 < L)]
  exact zcI_2 (p_best (d := D + 891) (Q := yLQ D y P) I (fun r m2 I2 => yLQ_of K r m2 I2) _ _ _) (fun v m1 e h => by
    rw [e, e0, yck_of (⟨by omega, by omega⟩ : (0 : Int) ≤ y + 1 ∧ y + 1 < L), yck_of (⟨by omega, by omega⟩ : (0 : Int) ≤ y + 2 ∧ y + 2 < L), yck_of (⟨by omega, by omega⟩ : (0 : Int) ≤ y + 3 ∧ y + 3 < L)]
    exact h)
theorem l_1543 (I : yInv L xs m) (hL : L ≤ 3072) (hx : ∀ j, 0 ≤ j → j < L → -2147483648 ≤ xs j ∧ xs j ≤ 2147483647) (y0 : 0 ≤ y) (y1 : y + 6 ≤ L) (K : ∀ m2, yInv L xs m2 → zwpN (D + 900 + 1) 318 2197 [some (zA 0), some (zA 3), some (zA 236), some (zI y)] [] m2 P) : zwpN (D + 900 + 1) 318 1543 [some (zA 0), some (zA 3), some (zA 236), some (zI y)] [] m P := by
  refine w_318_1543 ?_
  have e0 : zr m 0 (-1) = L := I.1.1
  rw [zb_id (z := y + 1) (by omega) (by omega), zb_id (z := y + 2) (by omega) (by omega), e0, yck_of (⟨by omega, by omega⟩ : (0 : Int) ≤ y + 1 ∧ y + 1 < L), yck_of (⟨by omega, by omega⟩ : (0 : Int) ≤ y + 2 ∧ y + 2 < L)]
  exact zcI_2 (p_bestIndex (d := D + 891) (Q := yLQ D y P) I (fun r m2 I2 => yLQ_of K r m2 I2) _ _) (fun v m1 e h => by
    rw [e, e0, yck_of (⟨by omega, by omega⟩ : (0 : Int) ≤ y + 1 ∧ y + 1 < L), yck_of (⟨by omega, by omega⟩ : (0 : Int) ≤ y + 2 ∧ y + 2 < L)]
    exact h)
theorem l_1576 (I : yInv L xs m) (hL : L ≤ 3072) (hx : ∀ j, 0 ≤ j → j < L → -2147483648 ≤ xs j ∧ xs j ≤ 2147483647) (y0 : 0 ≤ y) (y1 : y + 6 ≤ L) (K : ∀ m2, yInv L xs m2 → zwpN (D + 900 + 1) 318 2197 [some (zA 0), some (zA 3), some (zA 236), some (zI y)] [] m2 P) : zwpN (D + 900 + 1) 318 1576 [some (zA 0), some (zA 3), some (zA 236), some (zI y)] [] m P := by
  refine w_318_1576 ?_
  have e0 : zr m 0 (-1) = L := I.1.1
  have r : ∀ j, 0 ≤ j → j < L → -2147483648 ≤ zr m 0 j ∧ zr m 0 j ≤ 2147483647 := fun j j0 j1 => by rw [I.1.2 j j0 j1]; exact hx j j0 j1
  rw [zb_id (z := y + 1) (by omega) (by omega), zb_id (z := y + 2) (by omega) (by omega), zb_id (z := y + 3) (by omega) (by omega), zb_id (z := y + 4) (by omega) (by omega), e0, yck_of (⟨by omega, by omega⟩ : (0 : Int) ≤ y + 1 ∧ y + 1 < L), yck_of (⟨by omega, by omega⟩ : (0 : Int) ≤ y + 2 ∧ y + 2 < L), yck_of (⟨by omega, by omega⟩ : (0 : Int) ≤ y + 3 ∧ y + 3 < L), yck_of (⟨by omega, by omega⟩ : (0 : Int) ≤ y + 4 ∧ y + 4 < L)]
  exact zcI_2 (p_seek (d := D + 891) (Q := yLQ D y P) I (fun r m2 I2 => yLQ_of K r m2 I2) _ _ _ _ (r (y + 3) (by omega) (by omega)).1) (fun v m1 e h => by
    rw [e, e0, yck_of (⟨by omega, by omega⟩ : (0 : Int) ≤ y + 1 ∧ y + 1 < L), yck_of (⟨by omega, by omega⟩ : (0 : Int) ≤ y + 2 ∧ y + 2 < L), yck_of (⟨by omega, by omega⟩ : (0 : Int) ≤ y + 3 ∧ y + 3 < L), yck_of (⟨by omega, by omega⟩ : (0 : Int) ≤ y + 4 ∧ y + 4 < L)]
    exact h)
theorem l_1629 (I : yInv L xs m) (hL : L ≤ 3072) (hx : ∀ j, 0 ≤ j → j < L → -2147483648 ≤ xs j ∧ xs j ≤ 2147483647) (y0 : 0 ≤ y) (y1 : y + 6 ≤ L) (K : ∀ m2, yInv L xs m2 → zwpN (D + 900 + 1) 318 2197 [some (zA 0), some (zA 3), some (zA 236), some (zI y)] [] m2 P) : zwpN (D + 900 + 1) 318 1629 [some (zA 0), some (zA 3), some (zA 236), some (zI y)] [] m P := by
  refine w_318_1629 ?_
  have e0 : zr m 0 (-1) = L := I.1.1
  rw [zb_id (z := y + 1) (by omega) (by omega), zb_id (z := y + 2) (by omega) (by omega), zb_id (z := y + 3) (by omega) (by omega), zb_id (z := y + 4) (by omega) (by omega), e0, yck_of (⟨by omega, by omega⟩ : (0 : Int) ≤ y + 1 ∧ y + 1 < L), yck_of (⟨by omega, by omega⟩ : (0 : Int) ≤ y + 2 ∧ y + 2 < L), yck_of (⟨by omega, by omega⟩ : (0 : Int) ≤ y + 3 ∧ y + 3 < L), yck_of (⟨by omega, by omega⟩ : (0 : Int) ≤ y + 4 ∧ y + 4 < L)]
  exact zcI_2 (p_leaders (d := D + 891) (Q := yLQ D y P) I (fun r m2 I2 => yLQ_of K r m2 I2) _ _ _ _) (fun v m1 e h => by
    rw [e, e0, yck_of (⟨by omega, by omega⟩ : (0 : Int) ≤ y + 1 ∧ y + 1 < L), yck_of (⟨by omega, by omega⟩ : (0 : Int) ≤ y + 2 ∧ y + 2 < L), yck_of (⟨by omega, by omega⟩ : (0 : Int) ≤ y + 3 ∧ y + 3 < L), yck_of (⟨by omega, by omega⟩ : (0 : Int) ≤ y + 4 ∧ y + 4 < L)]
    exact h)
theorem l_1682 (I : yInv L xs m) (hL : L ≤ 3072) (hx : ∀ j, 0 ≤ j → j < L → -2147483648 ≤ xs j ∧ xs j ≤ 2147483647) (y0 : 0 ≤ y) (y1 : y + 6 ≤ L) (K : ∀ m2, yInv L xs m2 → zwpN (D + 900 + 1) 318 2197 [some (zA 0), some (zA 3), some (zA 236), some (zI y)] [] m2 P) : zwpN (D + 900 + 1) 318 1682 [some (zA 0), some (zA 3), some (zA 236), some (zI y)] [] m P := by
  refine w_318_1682 ?_
  have e0 : zr m 0 (-1) = L := I.1.1
  rw [zb_id (z := y + 1) (by omega) (by omega), zb_id (z := y + 2) (by omega) (by omega), zb_id (z := y + 3) (by omega) (by omega), e0, yck_of (⟨by omega, by omega⟩ : (0 : Int) ≤ y + 1 ∧ y + 1 < L), yck_of (⟨by omega, by omega⟩ : (0 : Int) ≤ y + 2 ∧ y + 2 < L), yck_of (⟨by omega, by omega⟩ : (0 : Int) ≤ y + 3 ∧ y + 3 < L)]
  exact zcI_2 (p_found (d := D + 891) (Q := yLQ D y P) I (fun r m2 I2 => yLQ_of K r m2 I2) _ _ _) (fun v m1 e h => by
    rw [e, e0, yck_of (⟨by omega, by omega⟩ : (0 : Int) ≤ y + 1 ∧ y + 1 < L), yck_of (⟨by omega, by omega⟩ : (0 : Int) ≤ y + 2 ∧ y + 2 < L), yck_of (⟨by omega, by omega⟩ : (0 : Int) ≤ y + 3 ∧ y + 3 < L)]
    exact h)
theorem l_1725 (I : yInv L xs m) (hL : L ≤ 3072) (hx : ∀ j, 0 ≤ j → j < L → -2147483648 ≤ xs j ∧ xs j ≤ 2147483647) (y0 : 0 ≤ y) (y1 : y + 6 ≤ L) (K : ∀ m2, yInv L xs m2 → zwpN (D + 900 + 1) 318 2197 [some (zA 0), some (zA 3), some (zA 236), some (zI y)] [] m2 P) : zwpN (D + 900 + 1) 318 1725 [some (zA 0), some (zA 3), some (zA 236), some (zI y)] [] m P := by
  refine w_318_1725 ?_
  have e0 : zr m 0 (-1) = L := I.1.1
  rw [zb_id (z := y + 1) (by omega) (by omega), zb_id (z := y + 2) (by omega) (by omega), zb_id (z := y + 3) (by omega) (by omega), zb_id (z := y + 4) (by omega) (by omega), e0, yck_of (⟨by omega, by omega⟩ : (0 : Int) ≤ y + 1 ∧ y + 1 < L), yck_of (⟨by omega, by omega⟩ : (0 : Int) ≤ y + 2 ∧ y + 2 < L), yck_of (⟨by omega, by omega⟩ : (0 : Int) ≤ y + 3 ∧ y + 3 < L), yck_of (⟨by omega, by omega⟩ : (0 : Int) ≤ y + 4 ∧ y + 4 < L)]
  exact zcI_2 (p_order (d := D + 891) (Q := yLQ D y P) I (fun r m2 I2 => yLQ_of K r m2 I2) _ _ _ _) (fun v m1 e h => by
    rw [e, e0, yck_of (⟨by omega, by omega⟩ : (0 : Int) ≤ y + 1 ∧ y + 1 < L), yck_of (⟨by omega, by omega⟩ : (0 : Int) ≤ y + 2 ∧ y + 2 < L), yck_of (⟨by omega, by omega⟩ : (0 : Int) ≤ y + 3 ∧ y + 3 < L), yck_of (⟨by omega, by omega⟩ : (0 : Int) ≤ y + 4 ∧ y + 4 < L)]
    exact h)
theorem l_1778 (I : yInv L xs m) (hL : L ≤ 3072) (hx : ∀ j, 0 ≤ j → j < L → -2147483648 ≤ xs j ∧ xs j ≤ 2147483647) (y0 : 0 ≤ y) (y1 : y + 6 ≤ L) (K : ∀ m2, yInv L xs m2 → zwpN (D + 900 + 1) 318 2197 [some (zA 0), some (zA 3), some (zA 236), some (zI y)] [] m2 P) : zwpN (D + 900 + 1) 318 1778 [some (zA 0), some (zA 3), some (zA 236), some (zI y)] [] m P := by
  refine w_318_1778 ?_
  have e0 : zr m 0 (-1) = L := I.1.1
  rw [zb_id (z := y + 1) (by omega) (by omega), zb_id (z := y + 2) (by omega) (by omega), zb_id (z := y + 3) (by omega) (by omega), e0, yck_of (⟨by omega, by omega⟩ : (0 : Int) ≤ y + 1 ∧ y + 1 < L), yck_of (⟨by omega, by omega⟩ : (0 : Int) ≤ y + 2 ∧ y + 2 < L), yck_of (⟨by omega, by omega⟩ : (0 : Int) ≤ y + 3 ∧ y + 3 < L)]
  exact zcI_2 (p_behind (d := D + 891) (Q := yLQ D y P) I (fun r m2 I2 => yLQ_of K r m2 I2) _ _ _) (fun v m1 e h => by
    rw [e, e0, yck_of (⟨by omega, by omega⟩ : (0 : Int) ≤ y + 1 ∧ y + 1 < L), yck_of (⟨by omega, by omega⟩ : (0 : Int) ≤ y + 2 ∧ y + 2 < L), yck_of (⟨by omega, by omega⟩ : (0 : Int) ≤ y + 3 ∧ y + 3 < L)]
    exact h)
theorem l_1821 (I : yInv L xs m) (hL : L ≤ 3072) (hx : ∀ j, 0 ≤ j → j < L → -2147483648 ≤ xs j ∧ xs j ≤ 2147483647) (y0 : 0 ≤ y) (y1 : y + 6 ≤ L) (K : ∀ m2, yInv L xs m2 → zwpN (D + 900 + 1) 318 2197 [some (zA 0), some (zA 3), some (zA 236), some (zI y)] [] m2 P) : zwpN (D + 900 + 1) 318 1821 [some (zA 0), some (zA 3), some (zA 236), some (zI y)] [] m P := by
  refine w_318_1821 ?_
  have e0 : zr m 0 (-1) = L := I.1.1
  rw [zb_id (z := y + 1) (by omega) (by omega), zb_id (z := y + 2) (by omega) (by omega), e0, yck_of (⟨by omega, by omega⟩ : (0 : Int) ≤ y + 1 ∧ y + 1 < L), yck_of (⟨by omega, by omega⟩ : (0 : Int) ≤ y + 2 ∧ y + 2 < L)]
  exact zcI_2 (p_implies (d := D + 891) (Q := yLQ D y P) I (fun r m2 I2 => yLQ_of K r m2 I2) _ _) (fun v m1 e h => by
    rw [e, e0, yck_of (⟨by omega, by omega⟩ : (0 : Int) ≤ y + 1 ∧ y + 1 < L), yck_of (⟨by omega, by omega⟩ : (0 : Int) ≤ y + 2 ∧ y + 2 < L)]
    exact h)
theorem l_1854 (I : yInv L xs m) (hL : L ≤ 3072) (hx : ∀ j, 0 ≤ j → j < L → -2147483648 ≤ xs j ∧ xs j ≤ 2147483647) (y0 : 0 ≤ y) (y1 : y + 6 ≤ L) (K : ∀ m2, yInv L xs m2 → zwpN (D + 900 + 1) 318 2197 [some (zA 0), some (zA 3), some (zA 236), some (zI y)] [] m2 P) : zwpN (D + 900 + 1) 318 1854 [some (zA 0), some (zA 3), some (zA 236), some (zI y)] [] m P := by
  refine w_318_1854 ?_
  have e0 : zr m 0 (-1) = L := I.1.1
  rw [zb_id (z := y + 1) (by omega) (by omega), zb_id (z := y + 2) (by omega) (by omega), e0, yck_of (⟨by omega, by omega⟩ : (0 : Int) ≤ y + 1 ∧ y + 1 < L), yck_of (⟨by omega, by omega⟩ : (0 : Int) ≤ y + 2 ∧ y + 2 < L)]
  exact zcI_2 (p_alike (d := D + 891) (Q := yLQ D y P) I (fun r m2 I2 => yLQ_of K r m2 I2) _ _) (fun v m1 e h => by
    rw [e, e0, yck_of (⟨by omega, by omega⟩ : (0 : Int) ≤ y + 1 ∧ y + 1 < L), yck_of (⟨by omega, by omega⟩ : (0 : Int) ≤ y + 2 ∧ y + 2 < L)]
    exact h)
theorem l_1887 (I : yInv L xs m) (hL : L ≤ 3072) (hx : ∀ j, 0 ≤ j → j < L → -2147483648 ≤ xs j ∧ xs j ≤ 2147483647) (y0 : 0 ≤ y) (y1 : y + 6 ≤ L) (K : ∀ m2, yInv L xs m2 → zwpN (D + 900 + 1) 318 2197 [some (zA 0), some (zA 3), some (zA 236), some (zI y)] [] m2 P) : zwpN (D + 900 + 1) 318 1887 [some (zA 0), some (zA 3), some (zA 236), some (zI y)] [] m P := by
  refine w_318_1887 ?_
  have e0 : zr m 0 (-1) = L := I.1.1
  rw [zb_id (z := y + 1) (by omega) (by omega), e0, yck_of (⟨by omega, by omega⟩ : (0 : Int) ≤ y + 1 ∧ y + 1 < L)]
  exact zcI_2 (p_same (d := D + 891) (Q := yLQ D y P) I (fun r m2 I2 => yLQ_of K r m2 I2) _) (fun v m1 e h => by
    rw [e, e0, yck_of (⟨by omega, by omega⟩ : (0 : Int) ≤ y + 1 ∧ y + 1 < L)]
    exact h)
theorem l_1910 (I : yInv L xs m) (hL : L ≤ 3072) (hx : ∀ j, 0 ≤ j → j < L → -2147483648 ≤ xs j ∧ xs j ≤ 2147483647) (y0 : 0 ≤ y) (y1 : y + 6 ≤ L) (K : ∀ m2, yInv L xs m2 → zwpN (D + 900 + 1) 318 2197 [some (zA 0), some (zA 3), some (zA 236), some (zI y)] [] m2 P) : zwpN (D + 900 + 1) 318 1910 [some (zA 0), some (zA 3), some (zA 236), some (zI y)] [] m P := by
  refine w_318_1910 ?_
  have e0 : zr m 0 (-1) = L := I.1.1
  rw [zb_id (z := y + 1) (by omega) (by omega), zb_id (z := y + 2) (by omega) (by omega), zb_id (z := y + 3) (by omega) (by omega), zb_id (z := y + 4) (by omega) (by omega), e0, yck_of (⟨by omega, by omega⟩ : (0 : Int) ≤ y + 1 ∧ y + 1 < L), yck_of (⟨by omega, by omega⟩ : (0 : Int) ≤ y + 2 ∧ y + 2 < L), yck_of (⟨by omega, by omega⟩ : (0 : Int) ≤ y + 3 ∧ y + 3 < L), yck_of (⟨by omega, by omega⟩ : (0 : Int) ≤ y + 4 ∧ y + 4 < L)]
  exact zcI_2 (p_signs (d := D + 891) (Q := yLQ D y P) I (fun r m2 I2 => yLQ_of K r m2 I2) _ _ _ _) (fun v m1 e h => by
    rw [e, e0, yck_of (⟨by omega, by omega⟩ : (0 : Int) ≤ y + 1 ∧ y + 1 < L), yck_of (⟨by omega, by omega⟩ : (0 : Int) ≤ y + 2 ∧ y + 2 < L), yck_of (⟨by omega, by omega⟩ : (0 : Int) ≤ y + 3 ∧ y + 3 < L), yck_of (⟨by omega, by omega⟩ : (0 : Int) ≤ y + 4 ∧ y + 4 < L)]
    exact h)
theorem l_1963 (I : yInv L xs m) (hL : L ≤ 3072) (hx : ∀ j, 0 ≤ j → j < L → -2147483648 ≤ xs j ∧ xs j ≤ 2147483647) (y0 : 0 ≤ y) (y1 : y + 6 ≤ L) (K : ∀ m2, yInv L xs m2 → zwpN (D + 900 + 1) 318 2197 [some (zA 0), some (zA 3), some (zA 236), some (zI y)] [] m2 P) : zwpN (D + 900 + 1) 318 1963 [some (zA 0), some (zA 3), some (zA 236), some (zI y)] [] m P := by
  refine w_318_1963 ?_
  have e0 : zr m 0 (-1) = L := I.1.1
  rw [zb_id (z := y + 1) (by omega) (by omega), zb_id (z := y + 2) (by omega) (by omega), zb_id (z := y + 3) (by omega) (by omega), zb_id (z := y + 4) (by omega) (by omega), e0, yck_of (⟨by omega, by omega⟩ : (0 : Int) ≤ y + 1 ∧ y + 1 < L), yck_of (⟨by omega, by omega⟩ : (0 : Int) ≤ y + 2 ∧ y + 2 < L), yck_of (⟨by omega, by omega⟩ : (0 : Int) ≤ y + 3 ∧ y + 3 < L), yck_of (⟨by omega, by omega⟩ : (0 : Int) ≤ y + 4 ∧ y + 4 < L)]
  exact zcI_2 (p_judge (d := D + 891) (Q := yLQ D y P) I (fun r m2 I2 => yLQ_of K r m2 I2) _ _ _ _) (fun v m1 e h => by
    rw [e, e0, yck_of (⟨by omega, by omega⟩ : (0 : Int) ≤ y + 1 ∧ y + 1 < L), yck_of (⟨by omega, by omega⟩ : (0 : Int) ≤ y + 2 ∧ y + 2 < L), yck_of (⟨by omega, by omega⟩ : (0 : Int) ≤ y + 3 ∧ y + 3 < L), yck_of (⟨by omega, by omega⟩ : (0 : Int) ≤ y + 4 ∧ y + 4 < L)]
    exact h)
theorem l_2016 (I : yInv L xs m) (hL : L ≤ 3072) (hx : ∀ j, 0 ≤ j → j < L → -2147483648 ≤ xs j ∧ xs j ≤ 2147483647) (y0 : 0 ≤ y) (y1 : y + 6 ≤ L) (K : ∀ m2, yInv L xs m2 → zwpN (D + 900 + 1) 318 2197 [some (zA 0), some (zA 3), some (zA 236), some (zI y)] [] m2 P) : zwpN (D + 900 + 1) 318 2016 [some (zA 0), some (zA 3), some (zA 236), some (zI y)] [] m P := by
  refine w_318_2016 ?_
  have e0 : zr m 0 (-1) = L := I.1.1
  rw [zb_id (z := y + 1) (by omega) (by omega), zb_id (z := y + 2) (by omega) (by omega), e0, yck_of (⟨by omega, by omega⟩ : (0 : Int) ≤ y + 1 ∧ y + 1 < L), yck_of (⟨by omega, by omega⟩ : (0 : Int) ≤ y + 2 ∧ y + 2 < L)]
  exact zcI_2 (p_many (d := D + 891) (Q := yLQ D y P) I (fun r m2 I2 => yLQ_of K r m2 I2) _ _) (fun v m1 e h => by
    rw [e, e0, yck_of (⟨by omega, by omega⟩ : (0 : Int) ≤ y + 1 ∧ y + 1 < L), yck_of (⟨by omega, by omega⟩ : (0 : Int) ≤ y + 2 ∧ y + 2 < L)]
    exact h)
theorem l_2049 (I : yInv L xs m) (hL : L ≤ 3072) (hx : ∀ j, 0 ≤ j → j < L → -2147483648 ≤ xs j ∧ xs j ≤ 2147483647) (y0 : 0 ≤ y) (y1 : y + 6 ≤ L) (K : ∀ m2, yInv L xs m2 → zwpN (D + 900 + 1) 318 2197 [some (zA 0), some (zA 3), some (zA 236), some (zI y)] [] m2 P) : zwpN (D + 900 + 1) 318 2049 [some (zA 0), some (zA 3), some (zA 236), some (zI y)] [] m P := by
  refine w_318_2049 ?_
  have e0 : zr m 0 (-1) = L := I.1.1
  rw [zb_id (z := y + 1) (by omega) (by omega), zb_id (z := y + 2) (by omega) (by omega), zb_id (z := y + 3) (by omega) (by omega), zb_id (z := y + 4) (by omega) (by omega), e0, yck_of (⟨by omega, by omega⟩ : (0 : Int) ≤ y + 1 ∧ y + 1 < L), yck_of (⟨by omega, by omega⟩ : (0 : Int) ≤ y + 2 ∧ y + 2 < L), yck_of (⟨by omega, by omega⟩ : (0 : Int) ≤ y + 3 ∧ y + 3 < L), yck_of (⟨by omega, by omega⟩ : (0 : Int) ≤ y + 4 ∧ y + 4 < L)]
  exact zcI_2 (p_whatIf (d := D + 891) (Q := yLQ D y P) I (fun r m2 I2 => yLQ_of K r m2 I2) _ _ _ _) (fun v m1 e h => by
    rw [e, e0, yck_of (⟨by omega, by omega⟩ : (0 : Int) ≤ y + 1 ∧ y + 1 < L), yck_of (⟨by omega, by omega⟩ : (0 : Int) ≤ y + 2 ∧ y + 2 < L), yck_of (⟨by omega, by omega⟩ : (0 : Int) ≤ y + 3 ∧ y + 3 < L), yck_of (⟨by omega, by omega⟩ : (0 : Int) ≤ y + 4 ∧ y + 4 < L)]
    exact h)
theorem l_2102 (I : yInv L xs m) (hL : L ≤ 3072) (hx : ∀ j, 0 ≤ j → j < L → -2147483648 ≤ xs j ∧ xs j ≤ 2147483647) (y0 : 0 ≤ y) (y1 : y + 6 ≤ L) (K : ∀ m2, yInv L xs m2 → zwpN (D + 900 + 1) 318 2197 [some (zA 0), some (zA 3), some (zA 236), some (zI y)] [] m2 P) : zwpN (D + 900 + 1) 318 2102 [some (zA 0), some (zA 3), some (zA 236), some (zI y)] [] m P := by
  refine w_318_2102 ?_
  have e0 : zr m 0 (-1) = L := I.1.1
  rw [zb_id (z := y + 1) (by omega) (by omega), e0, yck_of (⟨by omega, by omega⟩ : (0 : Int) ≤ y + 1 ∧ y + 1 < L)]
  exact zcI_2 (p_days (d := D + 891) (Q := yLQ D y P) I (fun r m2 I2 => yLQ_of K r m2 I2) _) (fun v m1 e h => by
    rw [e, e0, yck_of (⟨by omega, by omega⟩ : (0 : Int) ≤ y + 1 ∧ y + 1 < L)]
    exact h)
theorem l_2125 (I : yInv L xs m) (hL : L ≤ 3072) (hx : ∀ j, 0 ≤ j → j < L → -2147483648 ≤ xs j ∧ xs j ≤ 2147483647) (y0 : 0 ≤ y) (y1 : y + 6 ≤ L) (K : ∀ m2, yInv L xs m2 → zwpN (D + 900 + 1) 318 2197 [some (zA 0), some (zA 3), some (zA 236), some (zI y)] [] m2 P) : zwpN (D + 900 + 1) 318 2125 [some (zA 0), some (zA 3), some (zA 236), some (zI y)] [] m P := by
  refine w_318_2125 ?_
  have e0 : zr m 0 (-1) = L := I.1.1
  have r : ∀ j, 0 ≤ j → j < L → -2147483648 ≤ zr m 0 j ∧ zr m 0 j ≤ 2147483647 := fun j j0 j1 => by rw [I.1.2 j j0 j1]; exact hx j j0 j1
  rw [zb_id (z := y + 1) (by omega) (by omega), e0, yck_of (⟨by omega, by omega⟩ : (0 : Int) ≤ y + 1 ∧ y + 1 < L)]
  exact zcI_2 (p_seed (d := D + 891) (Q := yLQ D y P) I (fun r m2 I2 => yLQ_of K r m2 I2) _ (r (y + 1) (by omega) (by omega))) (fun v m1 e h => by
    rw [e, e0, yck_of (⟨by omega, by omega⟩ : (0 : Int) ≤ y + 1 ∧ y + 1 < L)]
    exact h)
theorem l_2148 (I : yInv L xs m) (hL : L ≤ 3072) (hx : ∀ j, 0 ≤ j → j < L → -2147483648 ≤ xs j ∧ xs j ≤ 2147483647) (y0 : 0 ≤ y) (y1 : y + 6 ≤ L) (K : ∀ m2, yInv L xs m2 → zwpN (D + 900 + 1) 318 2197 [some (zA 0), some (zA 3), some (zA 236), some (zI y)] [] m2 P) : zwpN (D + 900 + 1) 318 2148 [some (zA 0), some (zA 3), some (zA 236), some (zI y)] [] m P := by
  refine w_318_2148 ?_
  exact zcI_2 (p_image (d := D + 891) (Q := yLQ D y P) I (fun r m2 I2 => yLQ_of K r m2 I2)) (fun v m1 e h => by
    exact h)
theorem l_2161 (I : yInv L xs m) (hL : L ≤ 3072) (hx : ∀ j, 0 ≤ j → j < L → -2147483648 ≤ xs j ∧ xs j ≤ 2147483647) (y0 : 0 ≤ y) (y1 : y + 6 ≤ L) (K : ∀ m2, yInv L xs m2 → zwpN (D + 900 + 1) 318 2197 [some (zA 0), some (zA 3), some (zA 236), some (zI y)] [] m2 P) : zwpN (D + 900 + 1) 318 2161 [some (zA 0), some (zA 3), some (zA 236), some (zI y)] [] m P := by
  refine w_318_2161 ?_
  exact zcI_2 (p_back (d := D + 891) (Q := yLQ D y P) I (fun r m2 I2 => yLQ_of K r m2 I2)) (fun v m1 e h => by
    exact h)
theorem l_2174 (I : yInv L xs m) (hL : L ≤ 3072) (hx : ∀ j, 0 ≤ j → j < L → -2147483648 ≤ xs j ∧ xs j ≤ 2147483647) (y0 : 0 ≤ y) (y1 : y + 6 ≤ L) (K : ∀ m2, yInv L xs m2 → zwpN (D + 900 + 1) 318 2197 [some (zA 0), some (zA 3), some (zA 236), some (zI y)] [] m2 P) : zwpN (D + 900 + 1) 318 2174 [some (zA 0), some (zA 3), some (zA 236), some (zI y)] [] m P := by
  refine w_318_2174 ?_
  have e0 : zr m 0 (-1) = L := I.1.1
  rw [zb_id (z := y + 1) (by omega) (by omega), e0, yck_of (⟨by omega, by omega⟩ : (0 : Int) ≤ y + 1 ∧ y + 1 < L)]
  exact zcI_2 (p_status (d := D + 891) (Q := yLQ D y P) I (fun r m2 I2 => yLQ_of K r m2 I2) _) (fun v m1 e h => by
    rw [e, e0, yck_of (⟨by omega, by omega⟩ : (0 : Int) ≤ y + 1 ∧ y + 1 < L)]
    exact h)
/-- the loop -/
theorem l_all (hL : L ≤ 3072) (L0 : 0 ≤ L) (hx : ∀ j, 0 ≤ j → j < L → -2147483648 ≤ xs j ∧ xs j ≤ 2147483647) (hP : ∀ m2, P (some (zI 1)) m2) : ∀ (n : Nat) (m : ZN) (y : Int), yInv L xs m → 0 ≤ y → y ≤ L + 6 → L - y < 6 * (n : Int) → zwpN (D + 900 + 1) 318 18 [some (zA 0), some (zA 3), some (zA 236), some (zI y)] [] m P
  | n, m, y, I, y0, y1, hn => by
    have e0 : zr m 0 (-1) = L := I.1.1
    refine w_318_18 ?_
    rw [e0, zb_id (z := L - 6) (by omega) (by omega)]
    by_cases c : L - 6 < y
    · rw [if_pos c, yck_of (⟨by omega, by omega⟩ : (0 : Int) ≤ 1 ∧ (1 : Int) ≤ 1)]
      exact hP m
    rw [if_neg c, yck_of (⟨by omega, by omega⟩ : 0 ≤ y ∧ y < L)]
    have K : ∀ m2, yInv L xs m2 → zwpN (D + 900 + 1) 318 2197 [some (zA 0), some (zA 3), some (zA 236), some (zI y)] [] m2 P := fun m2 I2 => by
      refine w_318_2197 ?_
      rw [zb_id (z := y + 6) (by omega) (by omega)]
      match n, hn with
      | 0, hn => omega
      | n + 1, hn => exact l_all hL L0 hx hP n m2 (y + 6) I2 (by omega) (by omega) (by omega)
    by_cases q0 : zand (zr m 0 y) 63 = 0
    · rw [if_pos q0]
      exact l_264 I hL hx y0 (by omega) K
    rw [if_neg q0]
    by_cases q1 : zand (zr m 0 y) 63 = 1
    · rw [if_pos q1]
      exact l_307 I hL hx y0 (by omega) K
    rw [if_neg q1]
    by_cases q2 : zand (zr m 0 y) 63 = 2
    · rw [if_pos q2]
      exact l_380 I hL hx y0 (by omega) K
    rw [if_neg q2]
    by_cases q3 : zand (zr m 0 y) 63 = 3
    · rw [if_pos q3]
      exact l_443 I hL hx y0 (by omega) K
    rw [if_neg q3]
    by_cases q4 : zand (zr m 0 y) 63 = 4
    · rw [if_pos q4]
      exact l_477 I hL hx y0 (by omega) K
    rw [if_neg q4]
    by_cases q5 : zand (zr m 0 y) 63 = 5
    · rw [if_pos q5]
      exact l_500 I hL hx y0 (by omega) K
    rw [if_neg q5]
    by_cases q6 : zand (zr m 0 y) 63 = 6
    · rw [if_pos q6]
      exact l_533 I hL hx y0 (by omega) K
    rw [if_neg q6]
    by_cases q7 : zand (zr m 0 y) 63 = 7
    · rw [if_pos q7]
      exact l_566 I hL hx y0 (by omega) K
    rw [if_neg q7]
    by_cases q8 : zand (zr m 0 y) 63 = 8
    · rw [if_pos q8]
      exact l_609 I hL hx y0 (by omega) K
    rw [if_neg q8]
    by_cases q9 : zand (zr m 0 y) 63 = 9
    · rw [if_pos q9]
      exact l_652 I hL hx y0 (by omega) K
    rw [if_neg q9]
    by_cases q10 : zand (zr m 0 y) 63 = 10
    · rw [if_pos q10]
      exact l_675 I hL hx y0 (by omega) K
    rw [if_neg q10]
    by_cases q11 : zand (zr m 0 y) 63 = 11
    · rw [if_pos q11]
      exact l_698 I hL hx y0 (by omega) K
    rw [if_neg q11]
    by_cases q12 : zand (zr m 0 y) 63 = 12
    · rw [if_pos q12]
      exact l_721 I hL hx y0 (by omega) K
    rw [if_neg q12]
    by_cases q13 : zand (zr m 0 y) 63 = 13
    · rw [if_pos q13]
      exact l_734 I hL hx y0 (by omega) K
    rw [if_neg q13]
    by_cases q14 : zand (zr m 0 y) 63 = 14
    · rw [if_pos q14]
      exact l_747 I hL hx y0 (by omega) K
    rw [if_neg q14]
    by_cases q15 : zand (zr m 0 y) 63 = 15
    · rw [if_pos q15]
      exact l_760 I hL hx y0 (by omega) K
    rw [if_neg q15]
    by_cases q16 : zand (zr m 0 y) 63 = 16
    · rw [if_pos q16]
      exact l_803 I hL hx y0 (by omega) K
    rw [if_neg q16]
    by_cases q17 : zand (zr m 0 y) 63 = 17
    · rw [if_pos q17]
      exact l_836 I hL hx y0 (by omega) K
    rw [if_neg q17]
    by_cases q18 : zand (zr m 0 y) 63 = 18
    · rw [if_pos q18]
      exact l_859 I hL hx y0 (by omega) K
    rw [if_neg q18]
    by_cases q19 : zand (zr m 0 y) 63 = 19
    · rw [if_pos q19]
      exact l_902 I hL hx y0 (by omega) K
    rw [if_neg q19]
    by_cases q20 : zand (zr m 0 y) 63 = 20
    · rw [if_pos q20]
      exact l_945 I hL hx y0 (by omega) K
    rw [if_neg q20]
    by_cases q21 : zand (zr m 0 y) 63 = 21
    · rw [if_pos q21]
      exact l_988 I hL hx y0 (by omega) K
    rw [if_neg q21]
    by_cases q22 : zand (zr m 0 y) 63 = 22
    · rw [if_pos q22]
      exact l_1031 I hL hx y0 (by omega) K
    rw [if_neg q22]
    by_cases q23 : zand (zr m 0 y) 63 = 23
    · rw [if_pos q23]
      exact l_1064 I hL hx y0 (by omega) K
    rw [if_neg q23]
    by_cases q24 : zand (zr m 0 y) 63 = 24
    · rw [if_pos q24]
      exact l_1077 I hL hx y0 (by omega) K
    rw [if_neg q24]
    by_cases q25 : zand (zr m 0 y) 63 = 25
    · rw [if_pos q25]
      exact l_1110 I hL hx y0 (by omega) K
    rw [if_neg q25]
    by_cases q26 : zand (zr m 0 y) 63 = 26
    · rw [if_pos q26]
      exact l_1143 I hL hx y0 (by omega) K
    rw [if_neg q26]
    by_cases q27 : zand (zr m 0 y) 63 = 27
    · rw [if_pos q27]
      exact l_1176 I hL hx y0 (by omega) K
    rw [if_neg q27]
    by_cases q28 : zand (zr m 0 y) 63 = 28
    · rw [if_pos q28]
      exact l_1219 I hL hx y0 (by omega) K
    rw [if_neg q28]
    by_cases q29 : zand (zr m 0 y) 63 = 29
    · rw [if_pos q29]
      exact l_1252 I hL hx y0 (by omega) K
    rw [if_neg q29]
    by_cases q30 : zand (zr m 0 y) 63 = 30
    · rw [if_pos q30]
      exact l_1285 I hL hx y0 (by omega) K
    rw [if_neg q30]
    by_cases q31 : zand (zr m 0 y) 63 = 31
    · rw [if_pos q31]
      exact l_1318 I hL hx y0 (by omega) K
    rw [if_neg q31]
    by_cases q32 : zand (zr m 0 y) 63 = 32
    · rw [if_pos q32]
      exact l_1351 I hL hx y0 (by omega) K
    rw [if_neg q32]
    by_cases q33 : zand (zr m 0 y) 63 = 33
    · rw [if_pos q33]
      exact l_1394 I hL hx y0 (by omega) K
    rw [if_neg q33]
    by_cases q34 : zand (zr m 0 y) 63 = 34
    · rw [if_pos q34]
      exact l_1447 I hL hx y0 (by omega) K
    rw [if_neg q34]
    by_cases q35 : zand (zr m 0 y) 63 = 35
    · rw [if_pos q35]
      exact l_1500 I hL hx y0 (by omega) K
    rw [if_neg q35]
    by_cases q36 : zand (zr m 0 y) 63 = 36
    · rw [if_pos q36]
      exact l_1543 I hL hx y0 (by omega) K
    rw [if_neg q36]
    by_cases q37 : zand (zr m 0 y) 63 = 37
    · rw [if_pos q37]
      exact l_1576 I hL hx y0 (by omega) K
    rw [if_neg q37]
    by_cases q38 : zand (zr m 0 y) 63 = 38
    · rw [if_pos q38]
      exact l_1629 I hL hx y0 (by omega) K
    rw [if_neg q38]
    by_cases q39 : zand (zr m 0 y) 63 = 39
    · rw [if_pos q39]
      exact l_1682 I hL hx y0 (by omega) K
    rw [if_neg q39]
    by_cases q40 : zand (zr m 0 y) 63 = 40
    · rw [if_pos q40]
      exact l_1725 I hL hx y0 (by omega) K
    rw [if_neg q40]
    by_cases q41 : zand (zr m 0 y) 63 = 41
    · rw [if_pos q41]
      exact l_1778 I hL hx y0 (by omega) K
    rw [if_neg q41]
    by_cases q42 : zand (zr m 0 y) 63 = 42
    · rw [if_pos q42]
      exact l_1821 I hL hx y0 (by omega) K
    rw [if_neg q42]
    by_cases q43 : zand (zr m 0 y) 63 = 43
    · rw [if_pos q43]
      exact l_1854 I hL hx y0 (by omega) K
    rw [if_neg q43]
    by_cases q44 : zand (zr m 0 y) 63 = 44
    · rw [if_pos q44]
      exact l_1887 I hL hx y0 (by omega) K
    rw [if_neg q44]
    by_cases q45 : zand (zr m 0 y) 63 = 45
    · rw [if_pos q45]
      exact l_1910 I hL hx y0 (by omega) K
    rw [if_neg q45]
    by_cases q46 : zand (zr m 0 y) 63 = 46
    · rw [if_pos q46]
      exact l_1963 I hL hx y0 (by omega) K
    rw [if_neg q46]
    by_cases q47 : zand (zr m 0 y) 63 = 47
    · rw [if_pos q47]
      exact l_2016 I hL hx y0 (by omega) K
    rw [if_neg q47]
    by_cases q48 : zand (zr m 0 y) 63 = 48
    · rw [if_pos q48]
      exact l_2049 I hL hx y0 (by omega) K
    rw [if_neg q48]
    by_cases q49 : zand (zr m 0 y) 63 = 49
    · rw [if_pos q49]
      exact l_2102 I hL hx y0 (by omega) K
    rw [if_neg q49]
    by_cases q50 : zand (zr m 0 y) 63 = 50
    · rw [if_pos q50]
      exact l_2125 I hL hx y0 (by omega) K
    rw [if_neg q50]
    by_cases q51 : zand (zr m 0 y) 63 = 51
    · rw [if_pos q51]
      exact l_2148 I hL hx y0 (by omega) K
    rw [if_neg q51]
    by_cases q52 : zand (zr m 0 y) 63 = 52
    · rw [if_pos q52]
      exact l_2161 I hL hx y0 (by omega) K
    rw [if_neg q52]
    by_cases q53 : zand (zr m 0 y) 63 = 53
    · rw [if_pos q53]
      exact l_2174 I hL hx y0 (by omega) K
    rw [if_neg q53]
    exact K m I
end LW
