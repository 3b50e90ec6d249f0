/-! ===== the law's acts keep a ghost ===== -/
theorem zck_i {c K : Prop} (hc : c) (h : K) : zck c K := ⟨hc, h⟩
theorem zand_16 (x : Int) : 0 ≤ zand x 65535 ∧ zand x 65535 ≤ 65535 := by
  unfold zand
  have e : ∀ a : BitVec 32, 0 ≤ (a &&& 65535#32).toInt ∧ (a &&& 65535#32).toInt ≤ 65535 := by
    intro a
    have h : (a &&& 65535#32).toNat ≤ 65535 := by
      rw [BitVec.toNat_and]
      exact Nat.and_le_right
    rw [BitVec.toInt_eq_toNat_of_lt (by omega)]
    omega
  exact e (Int32.ofInt x).toBitVec
section AC
variable {d : Nat} {m : ZN} {L : Int} {xs : Int → Int}
theorem yD_L (D : yD L xs m) : zr m 0 (-1) = L := by
  obtain ⟨m2, s, I⟩ := D
  rw [s 0 (by decide)]
  exact I.1.1
theorem g_cell (D : yD L xs m) (hL : 0 ≤ L) {x : Int} {K : Int → ZN → Prop} (h : ∀ r, K r m) : zcI d 323 [zA 0, zI x] m K := by
  have e := yD_L D
  have hx := zand_16 x
  refine w_323 ?_
  rw [e]
  by_cases q : L = 0
  · rw [if_pos q]
    exact h _
  · rw [if_neg q, yck_of q, yck_of (by
      rw [Int.tmod_eq_emod_of_nonneg hx.1]
      exact ⟨Int.emod_nonneg _ q, Int.emod_lt_of_pos _ (by omega)⟩)]
    exact h _
end AC
