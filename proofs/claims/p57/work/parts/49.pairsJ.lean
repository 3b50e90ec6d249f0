/-! ===== pairs: found, order ===== -/
/-- a refusal, with scratch changed before and between -/
theorem p_ref3 {L : Int} {xs : Int → Int} {m Mc M2 : ZN} {x : Int} {Q : ZN → Prop} (h1 : -106 ≤ x) (h2 : x ≤ -102) (I : yInv L xs m) (hQ : ∀ m2, yInv L xs m2 → Q m2) (hc : ySc m Mc) (h : ySc (zsn Mc 234 (-102 - x) (zb (zr Mc 234 (-102 - x) + 1))) M2) : Q (zsn M2 252 (-x - 100) (zb (zr M2 252 (-x - 100) + 1))) := p_ref2 h1 h2 (yInv_Sc I hc) hQ h
section PJ
variable {d : Nat} {m : ZN} {L : Int} {xs : Int → Int} {Q : Int → Int → ZN → Prop}
/-- lines of a condition -/
def yPl (m : ZN) (c : Int) : Int → Bool := fun j => decide (zr m 261 (1000 * c + yk3 (zr m 253) j 0) = 1)
def yFl (m : ZN) (t md : Int) : Int → Int := fun j => ycode md (yk3 (zr m 253) j t) j
theorem yFl_r {t md n i : Int} (i0 : 0 ≤ i) (i1 : i < n) (hn : n ≤ 60) (t0 : 0 ≤ t) (t5 : t ≤ 5) (hv : ∀ j, 0 ≤ j → j < 3 * n → 0 ≤ zr m 253 j ∧ zr m 253 j ≤ 9) : 0 ≤ yFl m t md i ∧ yFl m t md i < 100000000 ∧ yFl m t md i % 100 = i := by
  have hk := yk3_r (t := t) i0 i1 t0 t5 hv
  exact ycode_r hk.1 hk.2 i0 (by omega)
theorem yPl_c (I : yInv L xs m) {c j : Int} (c0 : 0 ≤ c) (c1 : c < zr m 8 1) (j0 : 0 ≤ j) (j1 : j < zr m 4 1) : decide (yTw (zr m (10 + 4 * c + 1)) (yk3 (zr m 5) j 0) = 1) = yPl m c j := by
  obtain ⟨l1, l2, l3, l4, l5, l6, l7⟩ := I.2.1
  have hk := yk3_r (t := 0) j0 j1 (by decide) (by decide) (fun j j0 j1 => (l7 j j0 j1).2)
  unfold yPl
  rw [← yk3_c j0 j1 (by decide) (by decide) (fun j j0 j1 => (l7 j j0 j1).1), yTr I c0 c1 hk.1 hk.2]
theorem yFl_c (I : yInv L xs m) {t md j : Int} (t0 : 0 ≤ t) (t5 : t ≤ 5) (j0 : 0 ≤ j) (j1 : j < zr m 4 1) : ycode md (yk3 (zr m 5) j t) j = yFl m t md j := by
  obtain ⟨l1, l2, l3, l4, l5, l6, l7⟩ := I.2.1
  unfold yFl
  rw [← yk3_c j0 j1 t0 t5 (fun j j0 j1 => (l7 j j0 j1).1)]
/-- the class' hold, with the scratch of the row changed -/
theorem d_47 (I : yInv L xs m) {c t md : Int} {K : ZN → Prop} (c0 : 0 ≤ c) (c1 : c < zr m 8 1) (t0 : 0 ≤ t) (t5 : t ≤ 5) (h : ∀ M2, ySc m M2 → yRk (yPl m c) (yFl m t md) (zr M2 233) (zr m 4 1) (zr M2 232 1) → K M2) : zcV (d + 3) 47 [zA 232, zA 4, zA (10 + 4 * c), zI t, zI md] m K := by
  obtain ⟨l1, l2, l3, l4, l5, l6, l7⟩ := I.2.1
  obtain ⟨n1, n2, n3⟩ := I.2.2.1.1
  refine c_47 (isC_l c0 (by omega)) t0 t5 l2.1 l2.2 (fun j j0 j1 => (l7 j j0 j1).2) (fun M2 cc e1 e2 R => ?_)
  refine h M2 (fun a j q => by rw [e1 a (by unfold yscr at q; omega) (by unfold yscr at q; omega)]) ?_
  rw [e2]
  exact yRk_c R (fun i i0 i1 => ⟨yPl_c I c0 c1 i0 i1, yFl_c I t0 t5 i0 i1⟩)
theorem d_294 (I : yInv L xs m) {M : ZN} {c t md : Int} {K : ZN → Prop} (h9 : zr M 236 9 = zr m 236 9) (h253 : zr M 253 = zr m 253) (h261 : zr M 261 = zr m 261) (c0 : 0 ≤ c) (c1 : c < zr m 8 1) (t0 : 0 ≤ t) (t5 : t ≤ 5) (h : ∀ M2, ySc M M2 → zr M2 236 34 = ycnt (yPl m c) (zr m 4 1) → (∀ k, 0 ≤ k → k < zr m 4 1 → yPl m c k = true → zr M2 267 (ycnt (fun j => yPl m c j && decide (yFl m t md j < yFl m t md k)) (zr m 4 1)) = k) → K M2) : zcV (d + 4) 294 [zA 236, zI c, zI t, zI md] M K := by
  obtain ⟨l1, l2, l3, l4, l5, l6, l7⟩ := I.2.1
  obtain ⟨n1, n2, n3⟩ := I.2.2.1.1
  refine c_294 (n := zr m 4 1) (p := yPl m c) (f := yFl m t md) (by rw [h9, l1]) l2.1 l2.2 c0 (by omega) t0 t5 (by rw [h253]; exact fun j j0 j1 => (l7 j j0 j1).1 ▸ (l7 j j0 j1).2) (by rw [h253, h261]; rfl) (by rw [h253]; rfl) (fun M2 e1 e2 e3 e4 => h M2 (fun a j q => ?_) e3 e4)
  by_cases q6 : a = 236
  · subst q6
    exact e2 j (by unfold yscr at q; omega)
  · rw [e1 a q6 (by unfold yscr at q; omega)]
/-- the line at a place, of both -/
theorem yRk_x {M2 M3 : ZN} {p : Int → Bool} {f : Int → Int} {n cc x : Int} (R : yRk p f (zr M2 233) n cc) (x0 : 0 ≤ x) (x1 : x < cc) (hf : ∀ i, 0 ≤ i → i < n → 0 ≤ f i ∧ f i < 100000000 ∧ f i % 100 = i) (h : ∀ k, 0 ≤ k → k < n → p k = true → zr M3 267 (ycnt (fun j => p j && decide (f j < f k)) n) = k) : 0 ≤ zr M2 233 x ∧ zr M2 233 x % 100 = zr M3 267 x := by
  have hx := yRk_p R x0 x1
  obtain ⟨i, i0, i1, i2, i3⟩ := R.2.2.1 x x0 x1
  have := h i i0 i1 i2
  rw [i3] at hx ⊢
  rw [hx] at this
  rw [this]
  have r := hf i i0 i1
  exact ⟨r.1, r.2.2⟩
theorem p_found (I : yInv L xs m) (hQ : ∀ r m2, yInv L xs m2 → Q r r m2) (c t x : Int) : zcI (d + 9) 153 [zA 3, zI c, zI t, zI x] m (fun v m1 => zcI (d + 9) 295 [zA 236, zI c, zI t, zI x] m1 (fun v2 m2 => Q v v2 m2)) := by
  obtain ⟨n1, n2, n3⟩ := I.2.2.1.1
  obtain ⟨l1, l2, l3, l4, l5, l6, l7⟩ := I.2.1
  have lv : ∀ j, 0 ≤ j → j < 3 * zr m 4 1 → 0 ≤ zr m 253 j ∧ zr m 253 j ≤ 9 := fun j j0 j1 => (l7 j j0 j1).1 ▸ (l7 j j0 j1).2
  have z10 : ¬ (1 : Int) = 0 := by decide
  refine w_153 ?_
  by_cases q1 : 0 ≤ c ∧ c < zr m 8 1
  · by_cases q2 : 0 ≤ t ∧ t ≤ 5
    · rw [c_170 (d := d + 6) n2.1 n2.2, if_pos (show (0 ≤ c ∧ c < zr m 8 1) ∧ 0 ≤ t ∧ t ≤ 5 from ⟨q1, q2⟩), if_neg z10]
      rw [c_24 (d := d + 7) q1.1 (by omega)]
      refine d_47 (d := d + 5) I q1.1 q1.2 q2.1 q2.2 (fun M2 sc R => ?_)
      have I2 := yInv_Sc I sc
      have cr := ycnt_r (yPl m c) l2.1
      have cc := R.1
      have z10' : zr M2 236 10 = zr m 8 1 := by rw [sc 236 10 (by unfold yscr; omega), n1]
      have z9 : zr M2 236 9 = zr m 236 9 := sc 236 9 (by unfold yscr; omega)
      have z253 : zr M2 253 = zr m 253 := sc.fn (fun j => by unfold yscr; omega)
      have z261 : zr M2 261 = zr m 261 := sc.fn (fun j => by unfold yscr; omega)
      have fr := fun i i0 i1 => yFl_r (m := m) (t := t) (md := 0) (n := zr m 4 1) (i := i) i0 i1 l2.2 q2.1 q2.2 lv
      by_cases qm : x = -1
      · rw [if_pos qm]
        refine w_295 ?_
        rw [c_193 (d := d + 7) (by rw [z10']; exact n2.1) (by rw [z10']; exact n2.2), z10', if_pos q1, if_neg z10, c_264 (d := d + 7), if_pos q2, if_neg z10]
        rw [if_neg (by omega)]
        refine d_294 (d := d + 4) I (c := c) (t := t) (md := 0) z9 z253 z261 q1.1 q1.2 q2.1 q2.2 (fun M3 s3 e3 e4 => ?_)
        rw [if_pos qm, e3, ← cc.2]
        exact hQ _ _ (yInv_Sc I2 s3)
      · rw [if_neg qm]
        rw [c_181, show zb (zr M2 232 1 - 1) = zr M2 232 1 - 1 from yb_id (by omega) (by omega)]
        by_cases qx : 0 ≤ x ∧ x ≤ zr M2 232 1 - 1
        · have hx := fun M3 => yRk_x (M2 := M2) (M3 := M3) R qx.1 (by omega) fr
          rw [if_pos qx, if_neg z10]
          rw [c_49 qx.1 (by omega) (by obtain ⟨i, i0, i1, i2, i3⟩ := R.2.2.1 x qx.1 (by omega); rw [i3]; exact (fr i i0 i1).1)]
          refine w_295 ?_
          rw [c_193 (d := d + 7) (by rw [z10']; exact n2.1) (by rw [z10']; exact n2.2), z10', if_pos q1, if_neg z10, c_264 (d := d + 7), if_pos q2, if_neg z10]
          rw [if_neg (by omega)]
          refine d_294 (d := d + 4) I (c := c) (t := t) (md := 0) z9 z253 z261 q1.1 q1.2 q2.1 q2.2 (fun M3 s3 e3 e4 => ?_)
          rw [if_neg qm, e3, ← cc.2, if_pos (by omega), yck_of (by omega), (hx M3 e4).2]
          exact hQ _ _ (yInv_Sc I2 s3)
        · rw [if_neg qx, if_pos rfl, c_168 (by decide) (by decide)]
          have f : ∀ a, a ≠ 234 → zr (zsn M2 234 (-102 - -102) (zb (zr M2 234 (-102 - -102) + 1))) a = zr M2 a := fun a h => by rw [yfc h]
          have fin : ∀ M3, ySc (zsn M2 234 (-102 - -102) (zb (zr M2 234 (-102 - -102) + 1))) M3 → Q (-102) (-102) (zsn M3 252 (-(-102) - 100) (zb (zr M3 252 (-(-102) - 100) + 1))) := fun M3 s3 => p_ref3 (x := -102) (by decide) (by decide) I (hQ _) sc s3
          generalize zsn M2 234 (-102 - -102) (zb (zr M2 234 (-102 - -102) + 1)) = M4 at *
          have y10 : zr M4 236 10 = zr m 8 1 := by rw [f 236 (by decide), z10']
          refine w_295 ?_
          rw [c_193 (d := d + 7) (by rw [y10]; exact n2.1) (by rw [y10]; exact n2.2), y10, if_pos q1, if_neg z10, c_264 (d := d + 7), if_pos q2, if_neg z10]
          by_cases qn : x < -1
          · rw [if_pos qn, c_191 (by decide) (by decide)]
            exact fin M4 (ySc.refl _)
          · rw [if_neg qn]
            refine d_294 (d := d + 4) I (c := c) (t := t) (md := 0) (by rw [f 236 (by decide)]; exact z9) (by rw [f 253 (by decide)]; exact z253) (by rw [f 261 (by decide)]; exact z261) q1.1 q1.2 q2.1 q2.2 (fun M3 s3 e3 e4 => ?_)
            rw [if_neg qm, e3, ← cc.2, if_neg (by omega), c_191 (by decide) (by decide)]
            exact fin M3 s3
    · simp (disch := first | trivial | assumption | omega | exact ynl rfl _ | exact znp_o rfl | rfl | (simp (disch := first | decide | omega) only [yfc, yr_so, yr_ss, yfcc, yr_cs]; first | assumption | omega)) only [yck_of, yb_id, yPI_some, yPJ_some, yPA_some, yPV_none, yfc, yr_so, yr_ss, yfcc, yr_cs, ybif_t, yrd_1, yrd_2, yfcl, ↓c_181, ↓c_182, ↓c_183, ↓c_184, ↓c_185, ↓c_186, ↓c_187, ↓c_73, ↓c_33, ↓c_23, ↓c_170, ↓c_168, ↓if_pos, ↓if_neg, yl_lt, yl_gt, yl_eq]
      (refine w_295 ?_; simp (disch := first | trivial | assumption | omega | exact ynl rfl _ | exact znp_o rfl | rfl | (simp (disch := first | decide | omega) only [yfc, yr_so, yr_ss, yfcc, yr_cs]; first | assumption | omega)) only [yck_of, yb_id, yPI_some, yPJ_some, yPA_some, yPV_none, yfc, yr_so, yr_ss, yfcc, yr_cs, ybif_t, yrd_1, yrd_2, yfcl, ↓c_192, ↓c_193, ↓c_194, ↓c_251, ↓c_264, ↓c_191, ↓if_pos, ↓if_neg, yl_lt, yl_gt, yl_eq, ↓c_193]; exact p_ref (by decide) (by decide) I (hQ _))
  · simp (disch := first | trivial | assumption | omega | exact ynl rfl _ | exact znp_o rfl | rfl | (simp (disch := first | decide | omega) only [yfc, yr_so, yr_ss, yfcc, yr_cs]; first | assumption | omega)) only [yck_of, yb_id, yPI_some, yPJ_some, yPA_some, yPV_none, yfc, yr_so, yr_ss, yfcc, yr_cs, ybif_t, yrd_1, yrd_2, yfcl, ↓c_181, ↓c_182, ↓c_183, ↓c_184, ↓c_185, ↓c_186, ↓c_187, ↓c_73, ↓c_33, ↓c_23, ↓c_170, ↓c_168, ↓if_pos, ↓if_neg, yl_lt, yl_gt, yl_eq]
    (refine w_295 ?_; simp (disch := first | trivial | assumption | omega | exact ynl rfl _ | exact znp_o rfl | rfl | (simp (disch := first | decide | omega) only [yfc, yr_so, yr_ss, yfcc, yr_cs]; first | assumption | omega)) only [yck_of, yb_id, yPI_some, yPJ_some, yPA_some, yPV_none, yfc, yr_so, yr_ss, yfcc, yr_cs, ybif_t, yrd_1, yrd_2, yfcl, ↓c_192, ↓c_193, ↓c_194, ↓c_251, ↓c_264, ↓c_191, ↓if_pos, ↓if_neg, yl_lt, yl_gt, yl_eq, ↓c_193]; exact p_ref (by decide) (by decide) I (hQ _))
end PJ
