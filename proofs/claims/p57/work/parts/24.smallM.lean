/-! ===== contracts of the reference's small methods ===== -/
theorem yl_lt (x y : Int) : (zlcmp x y < 0) = (x < y) := by
  unfold zlcmp
  by_cases h : y < x
  · rw [if_pos h]; simp; omega
  · rw [if_neg h]; by_cases h2 : x = y
    · rw [if_pos h2]; simp; omega
    · rw [if_neg h2]; simp; omega
theorem yl_gt (x y : Int) : (0 < zlcmp x y) = (y < x) := by
  unfold zlcmp
  by_cases h : y < x
  · rw [if_pos h]; simp; omega
  · rw [if_neg h]; by_cases h2 : x = y
    · rw [if_pos h2]; simp; omega
    · rw [if_neg h2]; simp; omega
theorem yl_eq (x y : Int) : (zlcmp x y = 0) = (x = y) := by
  unfold zlcmp
  by_cases h : y < x
  · rw [if_pos h]; simp; omega
  · rw [if_neg h]; by_cases h2 : x = y
    · rw [if_pos h2]; simp [h2]
    · rw [if_neg h2]; simp [h2]
def ypl (t key : Int) : Int := ydig key 0 * ywg (ycat (3 * t)) + ydig key 1 * ywg (ycat (3 * t + 1)) + ydig key 2 * ywg (ycat (3 * t + 2))
theorem ydig_r {key p : Int} (h1 : 0 ≤ key) (h2 : key < 1000) : 0 ≤ ydig key p ∧ ydig key p ≤ 9 := by
  unfold ydig
  split
  · omega
  · split <;> omega
theorem yt6 {t : Int} (h1 : 0 ≤ t) (h2 : t ≤ 5) : t = 0 ∨ t = 1 ∨ t = 2 ∨ t = 3 ∨ t = 4 ∨ t = 5 := by omega
theorem ypl_r {t key : Int} (h1 : 0 ≤ t) (h2 : t ≤ 5) (h3 : 0 ≤ key) (h4 : key < 1000) : 0 ≤ ypl t key ∧ ypl t key < 1000 := by
  have d0 := ydig_r (p := 0) h3 h4
  have d1 := ydig_r (p := 1) h3 h4
  have d2 := ydig_r (p := 2) h3 h4
  unfold ypl
  rcases yt6 h1 h2 with rfl | rfl | rfl | rfl | rfl | rfl
  · show 0 ≤ ydig key 0 * 100 + ydig key 1 * 10 + ydig key 2 * 1 ∧ ydig key 0 * 100 + ydig key 1 * 10 + ydig key 2 * 1 < 1000; omega
  · show 0 ≤ ydig key 0 * 100 + ydig key 1 * 1 + ydig key 2 * 10 ∧ ydig key 0 * 100 + ydig key 1 * 1 + ydig key 2 * 10 < 1000; omega
  · show 0 ≤ ydig key 0 * 10 + ydig key 1 * 100 + ydig key 2 * 1 ∧ ydig key 0 * 10 + ydig key 1 * 100 + ydig key 2 * 1 < 1000; omega
  · show 0 ≤ ydig key 0 * 10 + ydig key 1 * 1 + ydig key 2 * 100 ∧ ydig key 0 * 10 + ydig key 1 * 1 + ydig key 2 * 100 < 1000; omega
  · show 0 ≤ ydig key 0 * 1 + ydig key 1 * 100 + ydig key 2 * 10 ∧ ydig key 0 * 1 + ydig key 1 * 100 + ydig key 2 * 10 < 1000; omega
  · show 0 ≤ ydig key 0 * 1 + ydig key 1 * 10 + ydig key 2 * 100 ∧ ydig key 0 * 1 + ydig key 1 * 10 + ydig key 2 * 100 < 1000; omega
section YM
variable {d : Nat} {m : ZN}
theorem c_192 (x a b : Int) (K : Int → ZN → Prop) : zcI d 192 [zJ x, zJ a, zJ b] m K = K (if a ≤ x ∧ x ≤ b then 1 else 0) m := by
  refine zcI_eq (w_192 ?_) K
  simp only [yl_lt, yl_gt]
  by_cases h1 : x < a
  · rw [if_pos h1, yck_of (by decide), if_neg (by omega)]; exact ⟨rfl, trivial⟩
  · by_cases h2 : b < x
    · rw [if_neg h1, if_pos h2, yck_of (by decide), if_neg (by omega)]; exact ⟨rfl, trivial⟩
    · rw [if_neg h1, if_neg h2, yck_of (by decide), if_pos (by omega)]; exact ⟨rfl, trivial⟩
theorem c_193 (h1 : 0 ≤ zr m 236 10) (h2 : zr m 236 10 ≤ 24) (x : Int) (K : Int → ZN → Prop) : zcI (d + 1) 193 [zA 236, zI x] m K = K (if 0 ≤ x ∧ x < zr m 236 10 then 1 else 0) m := by
  refine zcI_eq (w_193 ?_) K
  simp (disch := first | trivial | assumption | omega | exact ynl rfl _ | exact znp_o rfl | rfl | (simp (disch := first | decide | omega) only [yfc, yr_so, yr_ss, yfcc, yr_cs]; first | assumption | omega)) only [yck_of, yb_id, yPI_some, yPJ_some, yPA_some, yPV_none, yfc, yr_so, yr_ss, yfcc, yr_cs, ybif_t, yrd_1, yrd_2, ↓c_192, ybl, yle1, and_self]
theorem c_194 (h1 : 0 ≤ zr m 236 9) (h2 : zr m 236 9 ≤ 60) (x : Int) (K : Int → ZN → Prop) : zcI (d + 1) 194 [zA 236, zI x] m K = K (if 0 ≤ x ∧ x < zr m 236 9 then 1 else 0) m := by
  refine zcI_eq (w_194 ?_) K
  simp (disch := first | trivial | assumption | omega | exact ynl rfl _ | exact znp_o rfl | rfl | (simp (disch := first | decide | omega) only [yfc, yr_so, yr_ss, yfcc, yr_cs]; first | assumption | omega)) only [yck_of, yb_id, yPI_some, yPJ_some, yPA_some, yPV_none, yfc, yr_so, yr_ss, yfcc, yr_cs, ybif_t, yrd_1, yrd_2, ↓c_192, ybl, yle1, and_self]
theorem c_251 (x : Int) (K : Int → ZN → Prop) : zcI (d + 1) 251 [zI x] m K = K (if 0 ≤ x ∧ x ≤ 2 then 1 else 0) m := by
  refine zcI_eq (w_251 ?_) K
  simp (disch := first | trivial | assumption | omega | exact ynl rfl _ | exact znp_o rfl | rfl | (simp (disch := first | decide | omega) only [yfc, yr_so, yr_ss, yfcc, yr_cs]; first | assumption | omega)) only [yck_of, yb_id, yPI_some, yPJ_some, yPA_some, yPV_none, yfc, yr_so, yr_ss, yfcc, yr_cs, ybif_t, yrd_1, yrd_2, ↓c_192, ybl, and_self]
theorem c_264 (x : Int) (K : Int → ZN → Prop) : zcI (d + 1) 264 [zI x] m K = K (if 0 ≤ x ∧ x ≤ 5 then 1 else 0) m := by
  refine zcI_eq (w_264 ?_) K
  simp (disch := first | trivial | assumption | omega | exact ynl rfl _ | exact znp_o rfl | rfl | (simp (disch := first | decide | omega) only [yfc, yr_so, yr_ss, yfcc, yr_cs]; first | assumption | omega)) only [yck_of, yb_id, yPI_some, yPJ_some, yPA_some, yPV_none, yfc, yr_so, yr_ss, yfcc, yr_cs, ybif_t, yrd_1, yrd_2, ↓c_192, ybl, and_self]
theorem c_206 {t p : Int} (h1 : 0 ≤ t) (h2 : t ≤ 5) (h3 : 0 ≤ p) (h4 : p ≤ 2) (K : Int → ZN → Prop) : zcI d 206 [zI t, zI p] m K = K (ycat (3 * t + p)) m := by
  refine zcI_eq (w_206 ?_) K
  have hp : p = 0 ∨ p = 1 ∨ p = 2 := by omega
  rcases yt6 h1 h2 with rfl | rfl | rfl | rfl | rfl | rfl <;> rcases hp with rfl | rfl | rfl <;> simp [zck, zb, ycat, zpK]
theorem c_207 {key p : Int} (h1 : 0 ≤ key) (h2 : key < 1000) (K : Int → ZN → Prop) : zcI d 207 [zI key, zI p] m K = K (ydig key p) m := by
  refine zcI_eq (w_207 ?_) K
  unfold ydig
  by_cases q0 : p = 0
  · simp (disch := first | trivial | assumption | omega | exact ynl rfl _ | exact znp_o rfl | rfl | (simp (disch := first | decide | omega) only [yfc, yr_so, yr_ss, yfcc, yr_cs]; first | assumption | omega)) only [yck_of, yb_id, yPI_some, yPJ_some, yPA_some, yPV_none, yfc, yr_so, yr_ss, yfcc, yr_cs, ybif_t, yrd_1, yrd_2, ↓if_pos, Int.tdiv_eq_ediv_of_nonneg, and_self]
  · by_cases q1 : p = 1
    · simp (disch := first | trivial | assumption | omega | exact ynl rfl _ | exact znp_o rfl | rfl | (simp (disch := first | decide | omega) only [yfc, yr_so, yr_ss, yfcc, yr_cs]; first | assumption | omega)) only [yck_of, yb_id, yPI_some, yPJ_some, yPA_some, yPV_none, yfc, yr_so, yr_ss, yfcc, yr_cs, ybif_t, yrd_1, yrd_2, ↓if_pos, ↓if_neg, Int.tdiv_eq_ediv_of_nonneg, Int.tmod_eq_emod_of_nonneg, and_self]
    · simp (disch := first | trivial | assumption | omega | exact ynl rfl _ | exact znp_o rfl | rfl | (simp (disch := first | decide | omega) only [yfc, yr_so, yr_ss, yfcc, yr_cs]; first | assumption | omega)) only [yck_of, yb_id, yPI_some, yPJ_some, yPA_some, yPV_none, yfc, yr_so, yr_ss, yfcc, yr_cs, ybif_t, yrd_1, yrd_2, ↓if_neg, Int.tmod_eq_emod_of_nonneg, and_self]
theorem c_208 (p : Int) (K : Int → ZN → Prop) : zcI d 208 [zI p] m K = K (ywg p) m := by
  refine zcI_eq (w_208 ?_) K
  unfold ywg
  by_cases q0 : p = 0
  · simp (disch := first | trivial | assumption | omega | exact ynl rfl _ | exact znp_o rfl | rfl | (simp (disch := first | decide | omega) only [yfc, yr_so, yr_ss, yfcc, yr_cs]; first | assumption | omega)) only [yck_of, yb_id, yPI_some, yPJ_some, yPA_some, yPV_none, yfc, yr_so, yr_ss, yfcc, yr_cs, ybif_t, yrd_1, yrd_2, ↓if_pos, and_self]
  · by_cases q1 : p = 1
    · simp (disch := first | trivial | assumption | omega | exact ynl rfl _ | exact znp_o rfl | rfl | (simp (disch := first | decide | omega) only [yfc, yr_so, yr_ss, yfcc, yr_cs]; first | assumption | omega)) only [yck_of, yb_id, yPI_some, yPJ_some, yPA_some, yPV_none, yfc, yr_so, yr_ss, yfcc, yr_cs, ybif_t, yrd_1, yrd_2, ↓if_pos, ↓if_neg, and_self]
    · simp (disch := first | trivial | assumption | omega | exact ynl rfl _ | exact znp_o rfl | rfl | (simp (disch := first | decide | omega) only [yfc, yr_so, yr_ss, yfcc, yr_cs]; first | assumption | omega)) only [yck_of, yb_id, yPI_some, yPJ_some, yPA_some, yPV_none, yfc, yr_so, yr_ss, yfcc, yr_cs, ybif_t, yrd_1, yrd_2, ↓if_neg, and_self]
theorem c_209 {t key : Int} (h1 : 0 ≤ t) (h2 : t ≤ 5) (h3 : 0 ≤ key) (h4 : key < 1000) (K : Int → ZN → Prop) : zcI (d + 1) 209 [zI t, zI key] m K = K (ypl t key) m := by
  have d0 := ydig_r (p := 0) h3 h4
  have d1 := ydig_r (p := 1) h3 h4
  have d2 := ydig_r (p := 2) h3 h4
  have w0 := ywg_r (ycat (3 * t))
  have w1 := ywg_r (ycat (3 * t + 1))
  have w2 := ywg_r (ycat (3 * t + 2))
  have b0 : 0 ≤ ywg (ycat (3 * t)) * ydig key 0 ∧ ywg (ycat (3 * t)) * ydig key 0 ≤ 900 := by rcases w0 with w | w | w <;> rw [w] <;> omega
  have b1 : 0 ≤ ywg (ycat (3 * t + 1)) * ydig key 1 ∧ ywg (ycat (3 * t + 1)) * ydig key 1 ≤ 900 := by rcases w1 with w | w | w <;> rw [w] <;> omega
  have b2 : 0 ≤ ywg (ycat (3 * t + 2)) * ydig key 2 ∧ ywg (ycat (3 * t + 2)) * ydig key 2 ≤ 900 := by rcases w2 with w | w | w <;> rw [w] <;> omega
  refine zcI_eq (w_209 (w_209_4 ?_)) K
  rw [if_pos (by decide)]
  simp (disch := first | trivial | assumption | omega | exact ynl rfl _ | exact znp_o rfl | rfl | (simp (disch := first | decide | omega) only [yfc, yr_so, yr_ss, yfcc, yr_cs]; first | assumption | omega)) only [yck_of, yb_id, yPI_some, yPJ_some, yPA_some, yPV_none, yfc, yr_so, yr_ss, yfcc, yr_cs, ybif_t, yrd_1, yrd_2, ↓c_206, ↓c_207, ↓c_208, Int.add_zero, Int.zero_add]
  refine w_209_4 ?_
  rw [if_pos (by decide)]
  simp (disch := first | trivial | assumption | omega | exact ynl rfl _ | exact znp_o rfl | rfl | (simp (disch := first | decide | omega) only [yfc, yr_so, yr_ss, yfcc, yr_cs]; first | assumption | omega)) only [yck_of, yb_id, yPI_some, yPJ_some, yPA_some, yPV_none, yfc, yr_so, yr_ss, yfcc, yr_cs, ybif_t, yrd_1, yrd_2, ↓c_206, ↓c_207, ↓c_208, Int.add_zero, Int.zero_add, Int.reduceAdd]
  refine w_209_4 ?_
  rw [if_pos (by decide)]
  simp (disch := first | trivial | assumption | omega | exact ynl rfl _ | exact znp_o rfl | rfl | (simp (disch := first | decide | omega) only [yfc, yr_so, yr_ss, yfcc, yr_cs]; first | assumption | omega)) only [yck_of, yb_id, yPI_some, yPJ_some, yPA_some, yPV_none, yfc, yr_so, yr_ss, yfcc, yr_cs, ybif_t, yrd_1, yrd_2, ↓c_206, ↓c_207, ↓c_208, Int.add_zero, Int.zero_add, Int.reduceAdd]
  refine w_209_4 ?_
  rw [if_neg (by decide)]
  simp (disch := first | trivial | assumption | omega | exact ynl rfl _ | exact znp_o rfl | rfl | (simp (disch := first | decide | omega) only [yfc, yr_so, yr_ss, yfcc, yr_cs]; first | assumption | omega)) only [yck_of, yb_id, yPI_some, yPJ_some, yPA_some, yPV_none, yfc, yr_so, yr_ss, yfcc, yr_cs, ybif_t, yrd_1, yrd_2]
  refine ⟨?_, trivial⟩
  unfold ypl
  rw [Int.mul_comm (ywg _), Int.mul_comm (ywg _), Int.mul_comm (ywg _)]
theorem c_210 {n t c : Int} (h1 : 0 ≤ n) (h2 : n < c) (h6 : c ≤ 60) (h3 : 0 ≤ t) (h4 : t ≤ 5) (hv : ∀ j, 0 ≤ j → j < 3 * c → 0 ≤ zr m 253 j ∧ zr m 253 j ≤ 9) (K : Int → ZN → Prop) : zcI (d + 1) 210 [zA 236, zI n, zI t] m K = K (yk3 (zr m 253) n t) m := by
  have e0 := ycat_r (j := 3 * t) (by omega) (by omega)
  have e1 := ycat_r (j := 3 * t + 1) (by omega) (by omega)
  have e2 := ycat_r (j := 3 * t + 2) (by omega) (by omega)
  have a0 := hv (3 * n + ycat (3 * t)) (by omega) (by omega)
  have a1 := hv (3 * n + ycat (3 * t + 1)) (by omega) (by omega)
  have a2 := hv (3 * n + ycat (3 * t + 2)) (by omega) (by omega)
  have g0 : ywg 0 = 100 := rfl
  have g1 : ywg 1 = 10 := rfl
  have g2 : ywg 2 = 1 := rfl
  refine zcI_eq (w_210 (w_210_5 ?_)) K
  rw [if_pos (by decide)]
  simp (disch := first | trivial | assumption | omega | exact ynl rfl _ | exact znp_o rfl | rfl | (simp (disch := first | decide | omega) only [yfc, yr_so, yr_ss, yfcc, yr_cs]; first | assumption | omega)) only [yck_of, yb_id, yPI_some, yPJ_some, yPA_some, yPV_none, yfc, yr_so, yr_ss, yfcc, yr_cs, ybif_t, yrd_1, yrd_2, ↓c_206, ↓c_208, Int.add_zero, Int.zero_add, g0]
  refine w_210_5 ?_
  rw [if_pos (by decide)]
  simp (disch := first | trivial | assumption | omega | exact ynl rfl _ | exact znp_o rfl | rfl | (simp (disch := first | decide | omega) only [yfc, yr_so, yr_ss, yfcc, yr_cs]; first | assumption | omega)) only [yck_of, yb_id, yPI_some, yPJ_some, yPA_some, yPV_none, yfc, yr_so, yr_ss, yfcc, yr_cs, ybif_t, yrd_1, yrd_2, ↓c_206, ↓c_208, Int.add_zero, Int.zero_add, Int.reduceAdd, g1]
  refine w_210_5 ?_
  rw [if_pos (by decide)]
  simp (disch := first | trivial | assumption | omega | exact ynl rfl _ | exact znp_o rfl | rfl | (simp (disch := first | decide | omega) only [yfc, yr_so, yr_ss, yfcc, yr_cs]; first | assumption | omega)) only [yck_of, yb_id, yPI_some, yPJ_some, yPA_some, yPV_none, yfc, yr_so, yr_ss, yfcc, yr_cs, ybif_t, yrd_1, yrd_2, ↓c_206, ↓c_208, Int.add_zero, Int.zero_add, Int.reduceAdd, g2, Int.one_mul]
  refine w_210_5 ?_
  rw [if_neg (by decide)]
  simp (disch := first | trivial | assumption | omega | exact ynl rfl _ | exact znp_o rfl | rfl | (simp (disch := first | decide | omega) only [yfc, yr_so, yr_ss, yfcc, yr_cs]; first | assumption | omega)) only [yck_of, yb_id, yPI_some, yPJ_some, yPA_some, yPV_none, yfc, yr_so, yr_ss, yfcc, yr_cs, ybif_t, yrd_1, yrd_2]
  exact ⟨rfl, trivial⟩
theorem c_211 {i key : Int} (h1 : 0 ≤ i) (h2 : i < 24) (h3 : 0 ≤ key) (h4 : key < 1000) (K : Int → ZN → Prop) : zcI d 211 [zA 236, zI i, zI key] m K = K (zr m 261 (1000 * i + key)) m := by
  refine zcI_eq (w_211 ?_) K
  simp (disch := first | trivial | assumption | omega | exact ynl rfl _ | exact znp_o rfl | rfl | (simp (disch := first | decide | omega) only [yfc, yr_so, yr_ss, yfcc, yr_cs]; first | assumption | omega)) only [yck_of, yb_id, yPI_some, yPJ_some, yPA_some, yPV_none, yfc, yr_so, yr_ss, yfcc, yr_cs, ybif_t, yrd_1, yrd_2, ym1000, and_self]
theorem c_213 {v s w : Int} (h1 : 0 ≤ s) (h2 : s ≤ 3) (K : Int → ZN → Prop) : zcI d 213 [zI s, zI v, zI w] m K = K (yhold s v w) m := by
  refine zcI_eq (w_213 ?_) K
  unfold yhold
  have hs : s = 0 ∨ s = 1 ∨ s = 2 ∨ s = 3 := by omega
  rcases hs with rfl | rfl | rfl | rfl <;> simp <;> split <;> simp_all
theorem c_220 {n a b c : Int} (h1 : 0 ≤ n) (h2 : n < 60) (K : ZN → Prop) : zcV d 220 [zA 236, zI n, zI a, zI b, zI c] m K = K (zsn (zsn (zsn m 253 (3 * n) a) 253 (3 * n + 1) b) 253 (3 * n + 2) c) := by
  refine zcV_eq (w_220 ?_) K
  simp (disch := first | trivial | assumption | omega | exact ynl rfl _ | exact znp_o rfl | rfl | (simp (disch := first | decide | omega) only [yfc, yr_so, yr_ss, yfcc, yr_cs]; first | assumption | omega)) only [yck_of, yb_id, yPI_some, yPJ_some, yPA_some, yPV_none, yfc, yr_so, yr_ss, yfcc, yr_cs, ybif_t, yrd_1, yrd_2]
theorem c_228 (x : Int) (K : Int → ZN → Prop) : zcI (d + 1) 228 [zI x] m K = K (if x = 46 ∨ (49 ≤ x ∧ x ≤ 57) then 1 else 0) m := by
  refine zcI_eq (w_228 ?_) K
  by_cases q : x = 46
  · simp (disch := first | trivial | assumption | omega | exact ynl rfl _ | exact znp_o rfl | rfl | (simp (disch := first | decide | omega) only [yfc, yr_so, yr_ss, yfcc, yr_cs]; first | assumption | omega)) only [yck_of, yb_id, yPI_some, yPJ_some, yPA_some, yPV_none, yfc, yr_so, yr_ss, yfcc, yr_cs, ybif_t, yrd_1, yrd_2, ↓if_pos, ↓c_192, and_self]
  · by_cases q2 : 49 ≤ x ∧ x ≤ 57
    · simp (disch := first | trivial | assumption | omega | exact ynl rfl _ | exact znp_o rfl | rfl | (simp (disch := first | decide | omega) only [yfc, yr_so, yr_ss, yfcc, yr_cs]; first | assumption | omega)) only [yck_of, yb_id, yPI_some, yPJ_some, yPA_some, yPV_none, yfc, yr_so, yr_ss, yfcc, yr_cs, ybif_t, yrd_1, yrd_2, ↓if_neg, ↓c_192, ↓if_pos, and_self]
    · simp (disch := first | trivial | assumption | omega | exact ynl rfl _ | exact znp_o rfl | rfl | (simp (disch := first | decide | omega) only [yfc, yr_so, yr_ss, yfcc, yr_cs]; first | assumption | omega)) only [yck_of, yb_id, yPI_some, yPJ_some, yPA_some, yPV_none, yfc, yr_so, yr_ss, yfcc, yr_cs, ybif_t, yrd_1, yrd_2, ↓if_neg, ↓c_192, ↓if_pos, and_self]
end YM
