/-! ===== the law's refusals ===== -/
def yRu (m : ZN) : Int := zb (zb (zb (zb (zb (0 + zr m 234 0) + zr m 234 1) + zr m 234 2) + zr m 234 3) + zr m 234 4)
theorem yb_l (a b : Int) : zb (zb a + b) = zb (a + b) := by
  unfold zb
  exact Int.bmod_add_bmod
section RE
variable {d : Nat} {m : ZN}
theorem e_refusals (K : Int → ZN → Prop) : zcI (d + 10) 325 [zA 3] m K = K (yRu m) m := by
  have e1 : zb (12 + 1) = 13 := by decide
  have e2 : zb (13 + 1) = 14 := by decide
  have e3 : zb (14 + 1) = 15 := by decide
  have e4 : zb (15 + 1) = 16 := by decide
  have e5 : zb (16 + 1) = 17 := by decide
  refine zcI_eq (w_325 ?_) K
  refine w_325_5 ?_
  rw [if_neg (by decide), e_st12 (d := d) (by decide) (by decide), e1]
  refine w_325_5 ?_
  rw [if_neg (by decide), e_st12 (d := d) (by decide) (by decide), e2]
  refine w_325_5 ?_
  rw [if_neg (by decide), e_st12 (d := d) (by decide) (by decide), e3]
  refine w_325_5 ?_
  rw [if_neg (by decide), e_st12 (d := d) (by decide) (by decide), e4]
  refine w_325_5 ?_
  rw [if_neg (by decide), e_st12 (d := d) (by decide) (by decide), e5]
  refine w_325_5 ?_
  rw [if_pos (by decide)]
  exact ⟨rfl, rfl⟩
theorem yRu_s : yRu (zsn m 234 0 (zb (zr m 234 0 + 1))) = zb (yRu m + 1) := by
  have e : ∀ j, znp' 234 j = true := ynl rfl
  unfold yRu
  rw [yr_sa (e 0), yr_sa (e 0), yr_sa (e 0), yr_sa (e 0), yr_sa (e 0), if_pos rfl, if_neg (by decide), if_neg (by decide), if_neg (by decide), if_neg (by decide)]
  simp only [yb_l]
  rw [show 0 + zb (zr m 234 0 + 1) + zr m 234 1 + zr m 234 2 + zr m 234 3 + zr m 234 4 = zb (zr m 234 0 + 1) + (zr m 234 1 + zr m 234 2 + zr m 234 3 + zr m 234 4) by omega, yb_l]
  congr 1
  omega
end RE
