/-! ===== pairs: runs, run ===== -/
section PL
variable {d : Nat} {m : ZN} {L : Int} {xs : Int → Int} {Q : Int → Int → ZN → Prop}
/-- what is true at each place of an order -/
def yTt (m : ZN) (c o : Int) : Int → Int := fun k => zr m 261 (1000 * c + ypl o k)
theorem d_91 (I : yInv L xs m) {c o : Int} {K : ZN → Prop} (c0 : 0 ≤ c) (c1 : c < zr m 8 1) (o0 : 0 ≤ o) (o1 : o ≤ 5) (h : ∀ M2, ySc m M2 → yRn (yTt m c o) M2 1000 → K M2) : zcV (d + 2) 91 [zA 222, zA (10 + 4 * c), zI o] m K := by
  obtain ⟨n1, n2, n3⟩ := I.2.2.1.1
  have iC := I.2.2.1.2.1
  have iM := I.2.2.1.2.2
  refine c_91 (t := yTt m c o) (isC_l c0 (by omega)) o0 o1 (fun k k0 k1 => ?_) (fun k k0 k1 => ?_) (fun M2 f R => h M2 (fun a j q => by rw [f a (by unfold yscr at q; omega)]) R)
  · have hp := ypl_r o0 o1 k0 k1
    exact yTr I c0 c1 hp.1 hp.2
  · have hp := ypl_r o0 o1 k0 k1
    show 0 ≤ zr m 261 (1000 * c + ypl o k) ∧ zr m 261 (1000 * c + ypl o k) ≤ 2
    rw [(iM c c0 c1).2.2.2 _ hp.1 hp.2]
    exact yST_r iC.1 n2.2 25 c _ c0 c1 (by omega) hp.1 hp.2
theorem d_273 {M : ZN} {c o : Int} {K : ZN → Prop} (h261 : zr M 261 = zr m 261) (c0 : 0 ≤ c) (c1 : c < 24) (o0 : 0 ≤ o) (o1 : o ≤ 5) (h : ∀ M2, ySc M M2 → yRm (yTt m c o) M2 1000 → K M2) : zcV (d + 2) 273 [zA 236, zI c, zI o] M K := c_273 (t := yTt m c o) c0 c1 o0 o1 (fun k _ _ => by rw [h261]; rfl) h
theorem p_runs (I : yInv L xs m) (hQ : ∀ r m2, yInv L xs m2 → Q r r m2) (c t : Int) : zcI (d + 9) 145 [zA 3, zI c, zI t] m (fun v m1 => zcI (d + 9) 277 [zA 236, zI c, zI t] m1 (fun v2 m2 => Q v v2 m2)) := by
  obtain ⟨n1, n2, n3⟩ := I.2.2.1.1
  have z10 : ¬ (1 : Int) = 0 := by decide
  refine w_145 ?_
  by_cases q1 : 0 ≤ c ∧ c < zr m 8 1
  · by_cases q2 : 0 ≤ t ∧ t ≤ 5
    · rw [c_170 (d := d + 6) n2.1 n2.2, if_pos (show (0 ≤ c ∧ c < zr m 8 1) ∧ 0 ≤ t ∧ t ≤ 5 from ⟨q1, q2⟩), if_neg z10, c_24 (d := d + 7) q1.1 (by omega)]
      refine d_91 (d := d + 6) I q1.1 q1.2 q2.1 q2.2 (fun M2 sc R => ?_)
      have I2 := yInv_Sc I sc
      have z10' : zr M2 236 10 = zr m 8 1 := by rw [sc 236 10 (by unfold yscr; omega), n1]
      have z261 : zr M2 261 = zr m 261 := sc.fn (fun j => by unfold yscr; omega)
      rw [R.1]
      refine w_277 ?_
      rw [c_193 (d := d + 7) (by rw [z10']; exact n2.1) (by rw [z10']; exact n2.2), z10', if_pos q1, if_neg z10, c_264 (d := d + 7), if_pos q2, if_neg z10]
      refine d_273 (d := d + 6) (m := m) z261 q1.1 (by omega) q2.1 q2.2 (fun M3 s3 R3 => ?_)
      rw [R3.1]
      exact hQ _ _ (yInv_Sc I2 s3)
    · simp (disch := first | trivial | assumption | omega | exact ynl rfl _ | exact znp_o rfl | rfl | (simp (disch := first | decide | omega) only [yfc, yr_so, yr_ss, yfcc, yr_cs]; first | assumption | omega)) only [yck_of, yb_id, yPI_some, yPJ_some, yPA_some, yPV_none, yfc, yr_so, yr_ss, yfcc, yr_cs, ybif_t, yrd_1, yrd_2, yfcl, ↓c_181, ↓c_182, ↓c_183, ↓c_184, ↓c_185, ↓c_186, ↓c_187, ↓c_73, ↓c_33, ↓c_23, ↓c_170, ↓c_168, ↓if_pos, ↓if_neg, yl_lt, yl_gt, yl_eq]
      (refine w_277 ?_; simp (disch := first | trivial | assumption | omega | exact ynl rfl _ | exact znp_o rfl | rfl | (simp (disch := first | decide | omega) only [yfc, yr_so, yr_ss, yfcc, yr_cs]; first | assumption | omega)) only [yck_of, yb_id, yPI_some, yPJ_some, yPA_some, yPV_none, yfc, yr_so, yr_ss, yfcc, yr_cs, ybif_t, yrd_1, yrd_2, yfcl, ↓c_192, ↓c_193, ↓c_194, ↓c_251, ↓c_264, ↓c_191, ↓if_pos, ↓if_neg, yl_lt, yl_gt, yl_eq, ↓c_193]; exact p_ref (by decide) (by decide) I (hQ _))
  · simp (disch := first | trivial | assumption | omega | exact ynl rfl _ | exact znp_o rfl | rfl | (simp (disch := first | decide | omega) only [yfc, yr_so, yr_ss, yfcc, yr_cs]; first | assumption | omega)) only [yck_of, yb_id, yPI_some, yPJ_some, yPA_some, yPV_none, yfc, yr_so, yr_ss, yfcc, yr_cs, ybif_t, yrd_1, yrd_2, yfcl, ↓c_181, ↓c_182, ↓c_183, ↓c_184, ↓c_185, ↓c_186, ↓c_187, ↓c_73, ↓c_33, ↓c_23, ↓c_170, ↓c_168, ↓if_pos, ↓if_neg, yl_lt, yl_gt, yl_eq]
    (refine w_277 ?_; simp (disch := first | trivial | assumption | omega | exact ynl rfl _ | exact znp_o rfl | rfl | (simp (disch := first | decide | omega) only [yfc, yr_so, yr_ss, yfcc, yr_cs]; first | assumption | omega)) only [yck_of, yb_id, yPI_some, yPJ_some, yPA_some, yPV_none, yfc, yr_so, yr_ss, yfcc, yr_cs, ybif_t, yrd_1, yrd_2, yfcl, ↓c_192, ↓c_193, ↓c_194, ↓c_251, ↓c_264, ↓c_191, ↓if_pos, ↓if_neg, yl_lt, yl_gt, yl_eq, ↓c_193]; exact p_ref (by decide) (by decide) I (hQ _))
theorem p_run (I : yInv L xs m) (hQ : ∀ r m2, yInv L xs m2 → Q r r m2) (c t x : Int) : zcI (d + 9) 146 [zA 3, zI c, zI t, zI x] m (fun v m1 => zcI (d + 9) 278 [zA 236, zI c, zI t, zI x] m1 (fun v2 m2 => Q v v2 m2)) := by
  obtain ⟨n1, n2, n3⟩ := I.2.2.1.1
  have z10 : ¬ (1 : Int) = 0 := by decide
  refine w_146 ?_
  by_cases q1 : 0 ≤ c ∧ c < zr m 8 1
  · by_cases q2 : 0 ≤ t ∧ t ≤ 5
    · rw [c_170 (d := d + 6) n2.1 n2.2, if_pos (show (0 ≤ c ∧ c < zr m 8 1) ∧ 0 ≤ t ∧ t ≤ 5 from ⟨q1, q2⟩), if_neg z10, c_24 (d := d + 7) q1.1 (by omega)]
      refine d_91 (d := d + 6) I q1.1 q1.2 q2.1 q2.2 (fun M2 sc R => ?_)
      have I2 := yInv_Sc I sc
      have hr := yrc_r (yTt m c t) 1000
      have z10' : zr M2 236 10 = zr m 8 1 := by rw [sc 236 10 (by unfold yscr; omega), n1]
      have z261 : zr M2 261 = zr m 261 := sc.fn (fun j => by unfold yscr; omega)
      rw [R.1, c_181, show zb (yrc (yTt m c t) 1000 - 1) = yrc (yTt m c t) 1000 - 1 from yb_id (by omega) (by omega)]
      by_cases qx : 0 ≤ x ∧ x ≤ yrc (yTt m c t) 1000 - 1
      · have hx := R.2.2 x qx.1 (by omega)
        rw [if_pos qx, if_neg z10]
        refine w_92 ?_
        rw [yck_of (by omega), yck_of (by omega), hx.1, hx.2]
        refine w_278 ?_
        rw [c_193 (d := d + 7) (by rw [z10']; exact n2.1) (by rw [z10']; exact n2.2), z10', if_pos q1, if_neg z10, c_264 (d := d + 7), if_pos q2, if_neg z10]
        refine d_273 (d := d + 6) (m := m) z261 q1.1 (by omega) q2.1 q2.2 (fun M3 s3 R3 => ?_)
        have hx3 := R3.2 x qx.1 (by omega)
        rw [R3.1, show zb (yrc (yTt m c t) 1000 - 1) = yrc (yTt m c t) 1000 - 1 from yb_id (by omega) (by omega), c_192, if_pos qx, if_neg z10]
        refine w_276 ?_
        rw [yck_of (by omega), yck_of (by omega), hx3.1, hx3.2]
        exact hQ _ _ (yInv_Sc I2 s3)
      · rw [if_neg qx, if_pos rfl, c_168 (by decide) (by decide)]
        have f : ∀ a, a ≠ 234 → zr (zsn M2 234 (-102 - -102) (zb (zr M2 234 (-102 - -102) + 1))) a = zr M2 a := fun a h => by rw [yfc h]
        have fin : ∀ M3, ySc (zsn M2 234 (-102 - -102) (zb (zr M2 234 (-102 - -102) + 1))) M3 → Q (-102) (-102) (zsn M3 252 (-(-102) - 100) (zb (zr M3 252 (-(-102) - 100) + 1))) := fun M3 s3 => p_ref3 (x := -102) (by decide) (by decide) I (hQ _) sc s3
        generalize zsn M2 234 (-102 - -102) (zb (zr M2 234 (-102 - -102) + 1)) = M4 at *
        have y10 : zr M4 236 10 = zr m 8 1 := by rw [f 236 (by decide), z10']
        refine w_278 ?_
        rw [c_193 (d := d + 7) (by rw [y10]; exact n2.1) (by rw [y10]; exact n2.2), y10, if_pos q1, if_neg z10, c_264 (d := d + 7), if_pos q2, if_neg z10]
        refine d_273 (d := d + 6) (m := m) (by rw [f 261 (by decide)]; exact z261) q1.1 (by omega) q2.1 q2.2 (fun M3 s3 R3 => ?_)
        rw [R3.1, show zb (yrc (yTt m c t) 1000 - 1) = yrc (yTt m c t) 1000 - 1 from yb_id (by omega) (by omega), c_192, if_neg qx, if_pos rfl, c_191 (by decide) (by decide)]
        exact fin M3 s3
    · simp (disch := first | trivial | assumption | omega | exact ynl rfl _ | exact znp_o rfl | rfl | (simp (disch := first | decide | omega) only [yfc, yr_so, yr_ss, yfcc, yr_cs]; first | assumption | omega)) only [yck_of, yb_id, yPI_some, yPJ_some, yPA_some, yPV_none, yfc, yr_so, yr_ss, yfcc, yr_cs, ybif_t, yrd_1, yrd_2, yfcl, ↓c_181, ↓c_182, ↓c_183, ↓c_184, ↓c_185, ↓c_186, ↓c_187, ↓c_73, ↓c_33, ↓c_23, ↓c_170, ↓c_168, ↓if_pos, ↓if_neg, yl_lt, yl_gt, yl_eq]
      (refine w_278 ?_; simp (disch := first | trivial | assumption | omega | exact ynl rfl _ | exact znp_o rfl | rfl | (simp (disch := first | decide | omega) only [yfc, yr_so, yr_ss, yfcc, yr_cs]; first | assumption | omega)) only [yck_of, yb_id, yPI_some, yPJ_some, yPA_some, yPV_none, yfc, yr_so, yr_ss, yfcc, yr_cs, ybif_t, yrd_1, yrd_2, yfcl, ↓c_192, ↓c_193, ↓c_194, ↓c_251, ↓c_264, ↓c_191, ↓if_pos, ↓if_neg, yl_lt, yl_gt, yl_eq, ↓c_193]; exact p_ref (by decide) (by decide) I (hQ _))
  · simp (disch := first | trivial | assumption | omega | exact ynl rfl _ | exact znp_o rfl | rfl | (simp (disch := first | decide | omega) only [yfc, yr_so, yr_ss, yfcc, yr_cs]; first | assumption | omega)) only [yck_of, yb_id, yPI_some, yPJ_some, yPA_some, yPV_none, yfc, yr_so, yr_ss, yfcc, yr_cs, ybif_t, yrd_1, yrd_2, yfcl, ↓c_181, ↓c_182, ↓c_183, ↓c_184, ↓c_185, ↓c_186, ↓c_187, ↓c_73, ↓c_33, ↓c_23, ↓c_170, ↓c_168, ↓if_pos, ↓if_neg, yl_lt, yl_gt, yl_eq]
    (refine w_278 ?_; simp (disch := first | trivial | assumption | omega | exact ynl rfl _ | exact znp_o rfl | rfl | (simp (disch := first | decide | omega) only [yfc, yr_so, yr_ss, yfcc, yr_cs]; first | assumption | omega)) only [yck_of, yb_id, yPI_some, yPJ_some, yPA_some, yPV_none, yfc, yr_so, yr_ss, yfcc, yr_cs, ybif_t, yrd_1, yrd_2, yfcl, ↓c_192, ↓c_193, ↓c_194, ↓c_251, ↓c_264, ↓c_191, ↓if_pos, ↓if_neg, yl_lt, yl_gt, yl_eq, ↓c_193]; exact p_ref (by decide) (by decide) I (hQ _))
end PL
