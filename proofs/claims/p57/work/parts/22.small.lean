/-! ===== contracts of the class' small methods ===== -/
theorem yb0 (p : Prop) [Decidable p] : ((if p then (1 : Int) else 0) = 0) = ¬ p := by by_cases h : p <;> simp [h]
theorem yb1 (p : Prop) [Decidable p] : ((if p then (1 : Int) else 0) = 1) = p := by by_cases h : p <;> simp [h]
theorem ybl (p : Prop) [Decidable p] : (0 ≤ (if p then (1 : Int) else 0) ∧ (if p then (1 : Int) else 0) ≤ 1) = True := by by_cases h : p <;> simp [h]
theorem ym3 (x : Int) : x * 3 = 3 * x := Int.mul_comm x 3
theorem ym40 (x : Int) : x * 40 = 40 * x := Int.mul_comm x 40
theorem ym1000 (x : Int) : x * 1000 = 1000 * x := Int.mul_comm x 1000
theorem yle1 (a b : Int) : (a ≤ b - 1) = (a < b) := propext Int.le_sub_one_iff
theorem yfc {m : ZN} {a j v a' : Int} (h : a' ≠ a) : zr (zsn m a j v) a' = zr m a' := funext fun _ => yr_sc h
theorem yfcc {m : ZN} {a : Int} {F : Int → Int} {a' : Int} (h : a' ≠ a) : zr (zcc m a F) a' = zr m a' := funext fun _ => yr_cc h
section YS
variable {d : Nat} {m : ZN}
theorem c_181 (x a b : Int) (K : Int → ZN → Prop) : zcI d 181 [zI x, zI a, zI b] m K = K (if a ≤ x ∧ x ≤ b then 1 else 0) m := by
  refine zcI_eq (w_181 ?_) K
  by_cases h1 : x < a
  · rw [if_pos h1, yck_of (by decide), if_neg (by omega)]; exact ⟨rfl, rfl⟩
  · by_cases h2 : b < x
    · rw [if_neg h1, if_pos h2, yck_of (by decide), if_neg (by omega)]; exact ⟨rfl, rfl⟩
    · rw [if_neg h1, if_neg h2, yck_of (by decide), if_pos (by omega)]; exact ⟨rfl, rfl⟩
theorem c_182 (x : Int) (K : Int → ZN → Prop) : zcI (d + 1) 182 [zI x] m K = K (if 0 ≤ x ∧ x ≤ 2 then 1 else 0) m := by
  refine zcI_eq (w_182 ?_) K
  simp (disch := first | trivial | assumption | omega | exact ynl rfl _ | exact znp_o rfl | rfl | (simp (disch := first | decide | omega) only [yfc, yr_so, yr_ss, yfcc, yr_cs]; first | assumption | omega)) only [yck_of, yb_id, yPI_some, yPJ_some, yPA_some, yPV_none, yfc, yr_so, yr_ss, yfcc, yr_cs, ybif_t, yrd_1, yrd_2, ↓c_181, ybl, and_self]
theorem c_183 (x : Int) (K : Int → ZN → Prop) : zcI (d + 1) 183 [zI x] m K = K (if 0 ≤ x ∧ x ≤ 5 then 1 else 0) m := by
  refine zcI_eq (w_183 ?_) K
  simp (disch := first | trivial | assumption | omega | exact ynl rfl _ | exact znp_o rfl | rfl | (simp (disch := first | decide | omega) only [yfc, yr_so, yr_ss, yfcc, yr_cs]; first | assumption | omega)) only [yck_of, yb_id, yPI_some, yPJ_some, yPA_some, yPV_none, yfc, yr_so, yr_ss, yfcc, yr_cs, ybif_t, yrd_1, yrd_2, ↓c_181, ybl, and_self]
theorem c_184 (x : Int) (K : Int → ZN → Prop) : zcI (d + 1) 184 [zI x] m K = K (if 0 ≤ x ∧ x ≤ 3 then 1 else 0) m := by
  refine zcI_eq (w_184 ?_) K
  simp (disch := first | trivial | assumption | omega | exact ynl rfl _ | exact znp_o rfl | rfl | (simp (disch := first | decide | omega) only [yfc, yr_so, yr_ss, yfcc, yr_cs]; first | assumption | omega)) only [yck_of, yb_id, yPI_some, yPJ_some, yPA_some, yPV_none, yfc, yr_so, yr_ss, yfcc, yr_cs, ybif_t, yrd_1, yrd_2, ↓c_181, ybl, and_self]
theorem c_185 (x : Int) (K : Int → ZN → Prop) : zcI (d + 1) 185 [zI x] m K = K (if 0 ≤ x ∧ x ≤ 2 then 1 else 0) m := by
  refine zcI_eq (w_185 ?_) K
  simp (disch := first | trivial | assumption | omega | exact ynl rfl _ | exact znp_o rfl | rfl | (simp (disch := first | decide | omega) only [yfc, yr_so, yr_ss, yfcc, yr_cs]; first | assumption | omega)) only [yck_of, yb_id, yPI_some, yPJ_some, yPA_some, yPV_none, yfc, yr_so, yr_ss, yfcc, yr_cs, ybif_t, yrd_1, yrd_2, ↓c_181, ybl, and_self]
theorem c_186 (x : Int) (K : Int → ZN → Prop) : zcI (d + 1) 186 [zI x] m K = K (if 0 ≤ x ∧ x ≤ 9 then 1 else 0) m := by
  refine zcI_eq (w_186 ?_) K
  simp (disch := first | trivial | assumption | omega | exact ynl rfl _ | exact znp_o rfl | rfl | (simp (disch := first | decide | omega) only [yfc, yr_so, yr_ss, yfcc, yr_cs]; first | assumption | omega)) only [yck_of, yb_id, yPI_some, yPJ_some, yPA_some, yPV_none, yfc, yr_so, yr_ss, yfcc, yr_cs, ybif_t, yrd_1, yrd_2, ↓c_181, ybl, and_self]
theorem c_187 (x : Int) (K : Int → ZN → Prop) : zcI (d + 1) 187 [zI x] m K = K (if 1 ≤ x ∧ x ≤ 9 then 1 else 0) m := by
  refine zcI_eq (w_187 ?_) K
  simp (disch := first | trivial | assumption | omega | exact ynl rfl _ | exact znp_o rfl | rfl | (simp (disch := first | decide | omega) only [yfc, yr_so, yr_ss, yfcc, yr_cs]; first | assumption | omega)) only [yck_of, yb_id, yPI_some, yPJ_some, yPA_some, yPV_none, yfc, yr_so, yr_ss, yfcc, yr_cs, ybif_t, yrd_1, yrd_2, ↓c_181, ybl, and_self]
theorem c_73 (x : Int) (K : Int → ZN → Prop) : zcI (d + 1) 73 [zI x] m K = K (if 0 ≤ x ∧ x ≤ 7 then 1 else 0) m := by
  refine zcI_eq (w_73 ?_) K
  simp (disch := first | trivial | assumption | omega | exact ynl rfl _ | exact znp_o rfl | rfl | (simp (disch := first | decide | omega) only [yfc, yr_so, yr_ss, yfcc, yr_cs]; first | assumption | omega)) only [yck_of, yb_id, yPI_some, yPJ_some, yPA_some, yPV_none, yfc, yr_so, yr_ss, yfcc, yr_cs, ybif_t, yrd_1, yrd_2, ↓c_181, ybl, and_self]
/-- lines -/
theorem c_33 (h1 : 0 ≤ zr m 4 1) (h2 : zr m 4 1 ≤ 60) (x : Int) (K : Int → ZN → Prop) : zcI (d + 1) 33 [zA 4, zI x] m K = K (if 0 ≤ x ∧ x < zr m 4 1 then 1 else 0) m := by
  refine zcI_eq (w_33 ?_) K
  simp (disch := first | trivial | assumption | omega | exact ynl rfl _ | exact znp_o rfl | rfl | (simp (disch := first | decide | omega) only [yfc, yr_so, yr_ss, yfcc, yr_cs]; first | assumption | omega)) only [yck_of, yb_id, yPI_some, yPJ_some, yPA_some, yPV_none, yfc, yr_so, yr_ss, yfcc, yr_cs, ybif_t, yrd_1, yrd_2, ↓c_181, ybl, yle1, and_self]
theorem c_34 {n c : Int} (h1 : 0 ≤ n) (h2 : n < 60) (h3 : 0 ≤ c) (h4 : c ≤ 2) (K : Int → ZN → Prop) : zcI d 34 [zA 4, zI n, zI c] m K = K (zr m 5 (3 * n + c)) m := by
  refine zcI_eq (w_34 ?_) K
  simp (disch := first | trivial | assumption | omega | exact ynl rfl _ | exact znp_o rfl | rfl | (simp (disch := first | decide | omega) only [yfc, yr_so, yr_ss, yfcc, yr_cs]; first | assumption | omega)) only [yck_of, yb_id, yPI_some, yPJ_some, yPA_some, yPV_none, yfc, yr_so, yr_ss, yfcc, yr_cs, ybif_t, yrd_1, yrd_2, ym3, and_self]
theorem c_35 {n c v : Int} (h1 : 0 ≤ n) (h2 : n < 60) (h3 : 0 ≤ c) (h4 : c ≤ 2) (K : ZN → Prop) : zcV d 35 [zA 4, zI n, zI c, zI v] m K = K (zsn m 5 (3 * n + c) v) := by
  refine zcV_eq (w_35 ?_) K
  simp (disch := first | trivial | assumption | omega | exact ynl rfl _ | exact znp_o rfl | rfl | (simp (disch := first | decide | omega) only [yfc, yr_so, yr_ss, yfcc, yr_cs]; first | assumption | omega)) only [yck_of, yb_id, yPI_some, yPJ_some, yPA_some, yPV_none, yfc, yr_so, yr_ss, yfcc, yr_cs, ybif_t, yrd_1, yrd_2, ym3, and_self]
theorem c_36 {n a b c : Int} (h1 : 0 ≤ n) (h2 : n < 60) (K : ZN → Prop) : zcV (d + 1) 36 [zA 4, zI n, zI a, zI b, zI c] m K = K (zsn (zsn (zsn m 5 (3 * n) a) 5 (3 * n + 1) b) 5 (3 * n + 2) c) := by
  refine zcV_eq (w_36 ?_) K
  simp (disch := first | trivial | assumption | omega | exact ynl rfl _ | exact znp_o rfl | rfl | (simp (disch := first | decide | omega) only [yfc, yr_so, yr_ss, yfcc, yr_cs]; first | assumption | omega)) only [yck_of, yb_id, yPI_some, yPJ_some, yPA_some, yPV_none, yfc, yr_so, yr_ss, yfcc, yr_cs, ybif_t, yrd_1, yrd_2, ↓c_35, Int.add_zero]
theorem c_37 {a b c : Int} (h1 : 0 ≤ zr m 4 1) (h2 : zr m 4 1 < 60) (K : ZN → Prop) : zcV (d + 2) 37 [zA 4, zI a, zI b, zI c] m K = K (zsn (zsn (zsn (zsn m 5 (3 * zr m 4 1) a) 5 (3 * zr m 4 1 + 1) b) 5 (3 * zr m 4 1 + 2) c) 4 1 (zr m 4 1 + 1)) := by
  refine zcV_eq (w_37a ?_) K
  rw [if_pos h2]
  simp (disch := first | trivial | assumption | omega | exact ynl rfl _ | exact znp_o rfl | rfl | (simp (disch := first | decide | omega) only [yfc, yr_so, yr_ss, yfcc, yr_cs]; first | assumption | omega)) only [yck_of, yb_id, yPI_some, yPJ_some, yPA_some, yPV_none, yfc, yr_so, yr_ss, yfcc, yr_cs, ybif_t, yrd_1, yrd_2, ↓c_36]
/-- the key of a line's three values -/
def yk3 (v : Int → Int) (n t : Int) : Int := 100 * v (3 * n + ycat (3 * t)) + 10 * v (3 * n + ycat (3 * t + 1)) + v (3 * n + ycat (3 * t + 2))
theorem yk3_r {v : Int → Int} {n t c : Int} (h1 : 0 ≤ n) (h2 : n < c) (h3 : 0 ≤ t) (h4 : t ≤ 5) (hv : ∀ j, 0 ≤ j → j < 3 * c → 0 ≤ v j ∧ v j ≤ 9) : 0 ≤ yk3 v n t ∧ yk3 v n t < 1000 := by
  have e0 := ycat_r (j := 3 * t) (by omega) (by omega)
  have e1 := ycat_r (j := 3 * t + 1) (by omega) (by omega)
  have e2 := ycat_r (j := 3 * t + 2) (by omega) (by omega)
  have a0 := hv (3 * n + ycat (3 * t)) (by omega) (by omega)
  have a1 := hv (3 * n + ycat (3 * t + 1)) (by omega) (by omega)
  have a2 := hv (3 * n + ycat (3 * t + 2)) (by omega) (by omega)
  unfold yk3
  omega
theorem c_39 {n t : Int} (h1 : 0 ≤ n) (h2 : n < zr m 4 1) (h6 : zr m 4 1 ≤ 60) (h3 : 0 ≤ t) (h4 : t ≤ 5) (hv : ∀ j, 0 ≤ j → j < 3 * zr m 4 1 → 0 ≤ zr m 5 j ∧ zr m 5 j ≤ 9) (K : Int → ZN → Prop) : zcI (d + 1) 39 [zA 4, zI n, zI t] m K = K (yk3 (zr m 5) n t) m := by
  have e0 := ycat_r (j := 3 * t) (by omega) (by omega)
  have e1 := ycat_r (j := 3 * t + 1) (by omega) (by omega)
  have e2 := ycat_r (j := 3 * t + 2) (by omega) (by omega)
  have a0 := hv (3 * n + ycat (3 * t)) (by omega) (by omega)
  have a1 := hv (3 * n + ycat (3 * t + 1)) (by omega) (by omega)
  have a2 := hv (3 * n + ycat (3 * t + 2)) (by omega) (by omega)
  refine zcI_eq (w_39 ?_) K
  simp (disch := first | trivial | assumption | omega | exact ynl rfl _ | exact znp_o rfl | rfl | (simp (disch := first | decide | omega) only [yfc, yr_so, yr_ss, yfcc, yr_cs]; first | assumption | omega)) only [yck_of, yb_id, yPI_some, yPJ_some, yPA_some, yPV_none, yfc, yr_so, yr_ss, yfcc, yr_cs, ybif_t, yrd_1, yrd_2, ↓c_34, yk3, and_self]
/-- conditions -/
theorem c_23 (h1 : 0 ≤ zr m 8 1) (h2 : zr m 8 1 ≤ 24) (x : Int) (K : Int → ZN → Prop) : zcI (d + 1) 23 [zA 8, zI x] m K = K (if 0 ≤ x ∧ x < zr m 8 1 then 1 else 0) m := by
  refine zcI_eq (w_23 ?_) K
  simp (disch := first | trivial | assumption | omega | exact ynl rfl _ | exact znp_o rfl | rfl | (simp (disch := first | decide | omega) only [yfc, yr_so, yr_ss, yfcc, yr_cs]; first | assumption | omega)) only [yck_of, yb_id, yPI_some, yPJ_some, yPA_some, yPV_none, yfc, yr_so, yr_ss, yfcc, yr_cs, ybif_t, yrd_1, yrd_2, ↓c_181, ybl, yle1, and_self]
theorem c_24 {x : Int} (h1 : 0 ≤ x) (h2 : x ≤ 24) (K : Int → ZN → Prop) : zcA (d + 1) 24 [zA 8, zI x] m K = K (10 + 4 * x) m := by
  have hc := isC_l h1 (show x < 25 by omega)
  refine zcA_eq (w_24 ?_) K
  simp (disch := first | trivial | assumption | omega | exact ynl rfl _ | exact znp_o rfl | rfl | (simp (disch := first | decide | omega) only [yfc, yr_so, yr_ss, yfcc, yr_cs]; first | assumption | omega)) only [yck_of, yb_id, yPI_some, yPJ_some, yPA_some, yPV_none, yfc, yr_so, yr_ss, yfcc, yr_cs, ybif_t, yrd_1, yrd_2, isR_J, isR_n, isR_np, isR_r, isR_p, yl_p, yk_p, ↓c_181, ↓if_pos, ↓if_neg, isC_pos, Bool.true_and, cond_true, and_self]
theorem c_170 (h1 : 0 ≤ zr m 8 1) (h2 : zr m 8 1 ≤ 24) (x t : Int) (K : Int → ZN → Prop) : zcI (d + 2) 170 [zA 3, zI x, zI t] m K = K (if (0 ≤ x ∧ x < zr m 8 1) ∧ 0 ≤ t ∧ t ≤ 5 then 1 else 0) m := by
  refine zcI_eq (w_170 ?_) K
  simp (disch := first | trivial | assumption | omega | exact ynl rfl _ | exact znp_o rfl | rfl | (simp (disch := first | decide | omega) only [yfc, yr_so, yr_ss, yfcc, yr_cs]; first | assumption | omega)) only [yck_of, yb_id, yPI_some, yPJ_some, yPA_some, yPV_none, yfc, yr_so, yr_ss, yfcc, yr_cs, ybif_t, yrd_1, yrd_2, ↓c_23, ↓c_183, yb0, ite_not]
  by_cases q1 : 0 ≤ x ∧ x < zr m 8 1 <;> by_cases q2 : 0 ≤ t ∧ t ≤ 5 <;> simp only [q1, q2, if_true, if_false, and_self, and_true, and_false, false_and]
/-- refusals -/
theorem c_168 {x : Int} (h1 : -106 ≤ x) (h2 : x ≤ -102) (K : Int → ZN → Prop) : zcI d 168 [zA 3, zI x] m K = K x (zsn m 234 (-102 - x) (zb (zr m 234 (-102 - x) + 1))) := by
  refine zcI_eq (w_168 ?_) K
  simp (disch := first | trivial | assumption | omega | exact ynl rfl _ | exact znp_o rfl | rfl | (simp (disch := first | decide | omega) only [yfc, yr_so, yr_ss, yfcc, yr_cs]; first | assumption | omega)) only [yck_of, yb_id, yPI_some, yPJ_some, yPA_some, yPV_none, yfc, yr_so, yr_ss, yfcc, yr_cs, ybif_t, yrd_1, yrd_2, ↓if_pos, ↓if_neg, and_self]
/-- shelves -/
theorem c_77 {s : Int} (h1 : 0 ≤ s) (h2 : s < 8) (hh : -1 ≤ zr m 213 s ∧ zr m 213 s ≤ 100) (K : Int → ZN → Prop) : zcI d 77 [zA 212, zI s] m K = K (if zr m 213 s < 10 then -1 else zr m 213 s - 10) m := by
  refine zcI_eq (w_77 ?_) K
  by_cases q : zr m 213 s < 10
  · simp (disch := first | trivial | assumption | omega | exact ynl rfl _ | exact znp_o rfl | rfl | (simp (disch := first | decide | omega) only [yfc, yr_so, yr_ss, yfcc, yr_cs]; first | assumption | omega)) only [yck_of, yb_id, yPI_some, yPJ_some, yPA_some, yPV_none, yfc, yr_so, yr_ss, yfcc, yr_cs, ybif_t, yrd_1, yrd_2, ↓if_pos, and_self]
  · simp (disch := first | trivial | assumption | omega | exact ynl rfl _ | exact znp_o rfl | rfl | (simp (disch := first | decide | omega) only [yfc, yr_so, yr_ss, yfcc, yr_cs]; first | assumption | omega)) only [yck_of, yb_id, yPI_some, yPJ_some, yPA_some, yPV_none, yfc, yr_so, yr_ss, yfcc, yr_cs, ybif_t, yrd_1, yrd_2, ↓if_neg, and_self]
theorem c_79 {s : Int} (h1 : 0 ≤ s) (h2 : s < 8) (K : Int → ZN → Prop) : zcI d 79 [zA 212, zI s] m K = K (if zr m 213 s < 10 then (if zr m 213 s = -1 then -104 else 0) else -103) m := by
  refine zcI_eq (w_79 ?_) K
  by_cases q : zr m 213 s < 10
  · by_cases q2 : zr m 213 s = -1
    · simp (disch := first | trivial | assumption | omega | exact ynl rfl _ | exact znp_o rfl | rfl | (simp (disch := first | decide | omega) only [yfc, yr_so, yr_ss, yfcc, yr_cs]; first | assumption | omega)) only [yck_of, yb_id, yPI_some, yPJ_some, yPA_some, yPV_none, yfc, yr_so, yr_ss, yfcc, yr_cs, ybif_t, yrd_1, yrd_2, ↓if_pos, and_self]
    · simp (disch := first | trivial | assumption | omega | exact ynl rfl _ | exact znp_o rfl | rfl | (simp (disch := first | decide | omega) only [yfc, yr_so, yr_ss, yfcc, yr_cs]; first | assumption | omega)) only [yck_of, yb_id, yPI_some, yPJ_some, yPA_some, yPV_none, yfc, yr_so, yr_ss, yfcc, yr_cs, ybif_t, yrd_1, yrd_2, ↓if_pos, ↓if_neg, and_self]
  · simp (disch := first | trivial | assumption | omega | exact ynl rfl _ | exact znp_o rfl | rfl | (simp (disch := first | decide | omega) only [yfc, yr_so, yr_ss, yfcc, yr_cs]; first | assumption | omega)) only [yck_of, yb_id, yPI_some, yPJ_some, yPA_some, yPV_none, yfc, yr_so, yr_ss, yfcc, yr_cs, ybif_t, yrd_1, yrd_2, ↓if_neg, and_self]
theorem c_82 {s : Int} (h1 : 0 ≤ s) (h2 : s < 8) (hh : 0 ≤ zr m 214 s ∧ zr m 214 s ≤ 40) (x : Int) (K : Int → ZN → Prop) : zcI (d + 1) 82 [zA 212, zI s, zI x] m K = K (if 0 ≤ x ∧ x < zr m 214 s then 1 else 0) m := by
  refine zcI_eq (w_82 ?_) K
  simp (disch := first | trivial | assumption | omega | exact ynl rfl _ | exact znp_o rfl | rfl | (simp (disch := first | decide | omega) only [yfc, yr_so, yr_ss, yfcc, yr_cs]; first | assumption | omega)) only [yck_of, yb_id, yPI_some, yPJ_some, yPA_some, yPV_none, yfc, yr_so, yr_ss, yfcc, yr_cs, ybif_t, yrd_1, yrd_2, ↓c_181, ybl, yle1, and_self]
theorem c_84 {s i : Int} (h1 : 0 ≤ s) (h2 : s < 8) (h3 : 0 ≤ i) (h4 : i < 40) (K : Int → ZN → Prop) : zcJ d 84 [zA 212, zI s, zI i] m K = K (zr m 215 (40 * s + i)) m := by
  refine zcJ_eq (w_84 ?_) K
  simp (disch := first | trivial | assumption | omega | exact ynl rfl _ | exact znp_o rfl | rfl | (simp (disch := first | decide | omega) only [yfc, yr_so, yr_ss, yfcc, yr_cs]; first | assumption | omega)) only [yck_of, yb_id, yPI_some, yPJ_some, yPA_some, yPV_none, yfc, yr_so, yr_ss, yfcc, yr_cs, ybif_t, yrd_1, yrd_2, ym40, and_self]
/-- compared -/
theorem c_189 {v s w : Int} (h1 : 0 ≤ s) (h2 : s ≤ 3) (K : Int → ZN → Prop) : zcI d 189 [zI v, zI s, zI w] m K = K (if v = 0 ∨ w = 0 then 2 else yhold s v w) m := by
  refine zcI_eq (w_189 ?_) K
  unfold yhold
  have hs : s = 0 ∨ s = 1 ∨ s = 2 ∨ s = 3 := by omega
  by_cases q1 : v = 0
  · simp [q1]
  · by_cases q2 : w = 0
    · simp [q1, q2]
    · rcases hs with rfl | rfl | rfl | rfl <;> simp [q1, q2] <;> split <;> simp_all
end YS
