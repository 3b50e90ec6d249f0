/-! ===== pair: behind ===== -/
section PB
variable {d : Nat} {m : ZN} {L : Int} {xs : Int → Int} {Q : Int → Int → ZN → Prop}
theorem c_50 {c w : Int} {a : Int → Int} {K : Int → ZN → Prop} (hc : zr m 232 1 = c) (c0 : 0 ≤ c) (c1 : c ≤ 60) (ha : ∀ z, 0 ≤ z → z < c → zr m 233 z = a z) (h0 : ∀ z, 0 ≤ z → z < c → 0 ≤ a z) (hy : ∀ z, 0 ≤ z → z < c → (∀ y, 0 ≤ y → y < z → a y ≤ w) → w < a z → K (a z % 100) m) (hn : (∀ y, 0 ≤ y → y < c → a y ≤ w) → K (-1) m) : zcI (d + 1) 50 [zA 232, zI w] m K := by
  refine w_50 ?_
  refine yfor (fun z => (∀ y, 0 ≤ y → y < z → a y ≤ w) → zwpN (d + 1) 50 2 [some (zA 232), some (zI w), some (zI z)] [] m (zPI K)) 0 c c0 (fun z z0 z1 hW k => ?_) (fun k => ?_) (fun y y0 y1 => by omega)
  · refine w_50_2 ?_
    rw [hc, if_pos z1, yck_of (by omega), ha z z0 z1]
    by_cases q : w < a z
    · rw [if_pos q, c_49 z0 (by omega) (by rw [ha z z0 z1]; exact h0 z z0 z1), ha z z0 z1]
      exact hy z z0 z1 k q
    · rw [if_neg q, yb_id (by omega) (by omega)]
      refine hW (fun y y0 y1 => ?_)
      by_cases q2 : y = z
      · rw [q2]; omega
      · exact k y y0 (by omega)
  · refine w_50_2 ?_
    rw [hc, if_neg (by omega)]
    exact hn k
/-- the least of those behind w, among those before l -/
def yBh (p : Int → Bool) (f : Int → Int) (w l b : Int) : Prop := (b = -1 ∧ ∀ j, 0 ≤ j → j < l → p j = true → f j ≤ w) ∨ (0 ≤ b ∧ b < l ∧ p b = true ∧ w < f b ∧ ∀ j, 0 ≤ j → j < l → p j = true → w < f j → f b ≤ f j)
theorem c_297l {c t x n : Int} {p : Int → Bool} {f : Int → Int} {M : ZN} {P : Option ZV → ZN → Prop} (h9 : zr M 236 9 = n) (n0 : 0 ≤ n) (hn : n ≤ 60) (c0 : 0 ≤ c) (c1 : c < 24) (t0 : 0 ≤ t) (t5 : t ≤ 5) (x0 : 0 ≤ x) (x1 : x < n) (hv : ∀ j, 0 ≤ j → j < 3 * n → 0 ≤ zr M 253 j ∧ zr M 253 j ≤ 9)
    (hp : p = fun j => decide (zr M 261 (1000 * c + yk3 (zr M 253) j 0) = 1)) (hf : f = fun j => ycode 0 (yk3 (zr M 253) j t) j) (h : ∀ b, yBh p f (f x) n b → P (some (zI b)) M) : zwpN (d + 3) 297 36 [some (zA 236), some (zI c), some (zI t), some (zI x), some (zI (-1)), some (zI 0)] [] M P := by
  refine yfor (fun l => ∀ b, yBh p f (f x) l b → zwpN (d + 3) 297 36 [some (zA 236), some (zI c), some (zI t), some (zI x), some (zI b), some (zI l)] [] M P) 0 n n0 (fun l l0 l1 hW b hb => ?_) (fun b hb => ?_) (-1) (Or.inl ⟨rfl, fun j j0 j1 => by omega⟩)
  · refine w_297_36 ?_
    have epl : p l = decide (zr M 261 (1000 * c + yk3 (zr M 253) l 0) = 1) := by rw [hp]
    have ef : ∀ i, ycode 0 (yk3 (zr M 253) i t) i = f i := fun i => by rw [hf]
    rw [h9, if_pos l1, c_212 (d := d) c0 c1 l0 l1 hn hv, show zb (l + 1) = l + 1 from yb_id (by omega) (by omega), c_293 (d := d) x0 x1 l0 l1 hn t0 t5 hv, ef, ef]
    by_cases q : zr M 261 (1000 * c + yk3 (zr M 253) l 0) = 1
    · rw [decide_eq_true q] at epl
      rw [if_pos q]
      by_cases q2 : f x < f l
      · rw [if_pos q2, if_neg (by decide)]
        by_cases q3 : b = -1
        · rw [if_pos q3]
          refine hW l (Or.inr ⟨l0, by omega, epl, q2, fun j j0 j1 hj hw => ?_⟩)
          rcases hb with ⟨_, hb⟩ | hb
          · by_cases q4 : j = l
            · rw [q4]; exact Int.le_refl _
            · have := hb j j0 (by omega) hj
              omega
          · omega
        · rw [if_neg q3]
          rcases hb with ⟨hb, _⟩ | ⟨b0, b1, b2, b3, b4⟩
          · exact absurd hb q3
          · rw [c_293 (d := d) l0 l1 b0 (by omega) hn t0 t5 hv, ef, ef]
            by_cases q5 : f l < f b
            · rw [if_pos q5, if_neg (by decide)]
              refine hW l (Or.inr ⟨l0, by omega, epl, q2, fun j j0 j1 hj hw => ?_⟩)
              by_cases q4 : j = l
              · rw [q4]; exact Int.le_refl _
              · have := b4 j j0 (by omega) hj hw
                omega
            · rw [if_neg q5, if_pos rfl]
              refine hW b (Or.inr ⟨b0, by omega, b2, b3, fun j j0 j1 hj hw => ?_⟩)
              by_cases q4 : j = l
              · rw [q4]; omega
              · exact b4 j j0 (by omega) hj hw
      · rw [if_neg q2, if_pos rfl]
        refine hW b ?_
        rcases hb with ⟨hb, hb2⟩ | ⟨b0, b1, b2, b3, b4⟩
        · refine Or.inl ⟨hb, fun j j0 j1 hj => ?_⟩
          by_cases q4 : j = l
          · rw [q4]; omega
          · exact hb2 j j0 (by omega) hj
        · refine Or.inr ⟨b0, by omega, b2, b3, fun j j0 j1 hj hw => ?_⟩
          by_cases q4 : j = l
          · rw [q4] at hw; omega
          · exact b4 j j0 (by omega) hj hw
    · rw [decide_eq_false q] at epl
      rw [if_neg q]
      refine hW b ?_
      rcases hb with ⟨hb, hb2⟩ | ⟨b0, b1, b2, b3, b4⟩
      · refine Or.inl ⟨hb, fun j j0 j1 hj => ?_⟩
        by_cases q4 : j = l
        · rw [q4, epl] at hj; cases hj
        · exact hb2 j j0 (by omega) hj
      · refine Or.inr ⟨b0, by omega, b2, b3, fun j j0 j1 hj hw => ?_⟩
        by_cases q4 : j = l
        · rw [q4, epl] at hj; cases hj
        · exact b4 j j0 (by omega) hj hw
  · refine w_297_36 ?_
    rw [h9, if_neg (by omega)]
    exact h b hb
theorem p_behind (I : yInv L xs m) (hQ : ∀ r m2, yInv L xs m2 → Q r r m2) (c t x : Int) : zcI (d + 9) 155 [zA 3, zI c, zI t, zI x] m (fun v m1 => zcI (d + 9) 297 [zA 236, zI c, zI t, zI x] m1 (fun v2 m2 => Q v v2 m2)) := by
  obtain ⟨n1, n2, n3⟩ := I.2.2.1.1
  obtain ⟨l1, l2, l3, l4, l5, l6, l7⟩ := I.2.1
  have lv : ∀ j, 0 ≤ j → j < 3 * zr m 4 1 → 0 ≤ zr m 253 j ∧ zr m 253 j ≤ 9 := fun j j0 j1 => (l7 j j0 j1).1 ▸ (l7 j j0 j1).2
  have z10 : ¬ (1 : Int) = 0 := by decide
  refine w_155 ?_
  by_cases q1 : 0 ≤ c ∧ c < zr m 8 1
  · by_cases q2 : 0 ≤ t ∧ t ≤ 5
    · by_cases q3 : 0 ≤ x ∧ x < zr m 4 1
      · rw [c_170 (d := d + 6) n2.1 n2.2, if_pos (show (0 ≤ c ∧ c < zr m 8 1) ∧ 0 ≤ t ∧ t ≤ 5 from ⟨q1, q2⟩), if_neg z10, c_33 (d := d + 7) l2.1 l2.2, if_pos q3, if_neg z10, c_24 (d := d + 7) q1.1 (by omega)]
        refine d_47 (d := d + 5) I q1.1 q1.2 q2.1 q2.2 (fun M2 sc R => ?_)
        have I2 := yInv_Sc I sc
        have cr := ycnt_r (yPl m c) l2.1
        have cc := R.1
        have z10' : zr M2 236 10 = zr m 8 1 := by rw [sc 236 10 (by unfold yscr; omega), n1]
        have z9 : zr M2 236 9 = zr m 4 1 := by rw [sc 236 9 (by unfold yscr; omega), l1]
        have z253 : zr M2 253 = zr m 253 := sc.fn (fun j => by unfold yscr; omega)
        have z261 : zr M2 261 = zr m 261 := sc.fn (fun j => by unfold yscr; omega)
        have z4 : zr M2 4 = zr m 4 := sc.fn (fun j => by unfold yscr; omega)
        have z5 : zr M2 5 = zr m 5 := sc.fn (fun j => by unfold yscr; omega)
        have fr := fun i i0 i1 => yFl_r (m := m) (t := t) (md := 0) (n := zr m 4 1) (i := i) i0 i1 l2.2 q2.1 q2.2 lv
        have hk := yk3_r (t := t) q3.1 q3.2 q2.1 q2.2 (fun j j0 j1 => (l7 j j0 j1).2)
        rw [c_39 (d := d + 7) q3.1 (by rw [z4]; exact q3.2) (by rw [z4]; exact l2.2) q2.1 q2.2 (by rw [z4, z5]; exact fun j j0 j1 => (l7 j j0 j1).2), z5, c_46 hk.1 hk.2 q3.1 (by omega), yFl_c I q2.1 q2.2 q3.1 q3.2]
        have mo : ∀ v, (∀ b, yBh (yPl m c) (yFl m t 0) (yFl m t 0 x) (zr m 4 1) b → b = v) → zcI (d + 9) 297 [zA 236, zI c, zI t, zI x] M2 (fun v2 m2 => Q v v2 m2) := fun v hv => by
          refine w_297 ?_
          rw [c_193 (d := d + 7) (by rw [z10']; exact n2.1) (by rw [z10']; exact n2.2), z10', if_pos q1, if_neg z10, c_264 (d := d + 7), if_pos q2, if_neg z10, c_194 (d := d + 7) (by rw [z9]; exact l2.1) (by rw [z9]; exact l2.2), z9, if_pos q3, if_neg z10]
          refine c_297l (d := d + 6) (n := zr m 4 1) (p := yPl m c) (f := yFl m t 0) z9 l2.1 l2.2 q1.1 (by omega) q2.1 q2.2 q3.1 q3.2 (by rw [z253]; exact lv) (by rw [z253, z261]; rfl) (by rw [z253]; rfl) (fun b hb => ?_)
          rw [hv b hb]
          exact hQ _ _ I2
        refine c_50 (d := d + 7) (a := zr M2 233) rfl cc.1 (by omega) (fun _ _ _ => rfl) (fun z z0 z1 => ?_) (fun z z0 z1 k1 k2 => mo _ (fun b hb => ?_)) (fun k => mo _ (fun b hb => ?_))
        · obtain ⟨i, i0, i1, i2, i3⟩ := R.2.2.1 z z0 z1
          rw [i3]; exact (fr i i0 i1).1
        · obtain ⟨i, i0, i1, i2, i3⟩ := R.2.2.1 z z0 z1
          rcases hb with ⟨b0, b1⟩ | ⟨b0, b1, b2, b3, b4⟩
          · have := b1 i i0 i1 i2
            omega
          · obtain ⟨y, y0, y1, y2⟩ := R.2.2.2.2 b b0 b1 b2
            have h1 := b4 i i0 i1 i2 (by omega)
            have h2 : zr M2 233 z ≤ zr M2 233 y := by
              by_cases q : y < z
              · have := k1 y y0 q
                omega
              · by_cases q4 : y = z
                · rw [q4]; exact Int.le_refl _
                · have := R.2.1 z y z0 (by omega) y1
                  omega
            have e : yFl m t 0 b = yFl m t 0 i := by omega
            rw [i3, ← e]
            exact (fr b b0 b1).2.2.symm
        · rcases hb with ⟨b0, b1⟩ | ⟨b0, b1, b2, b3, b4⟩
          · exact b0
          · obtain ⟨y, y0, y1, y2⟩ := R.2.2.2.2 b b0 b1 b2
            have := k y y0 y1
            omega
      · simp (disch := first | trivial | assumption | omega | exact ynl rfl _ | exact znp_o rfl | rfl | (simp (disch := first | decide | omega) only [yfc, yr_so, yr_ss, yfcc, yr_cs]; first | assumption | omega)) only [yck_of, yb_id, yPI_some, yPJ_some, yPA_some, yPV_none, yfc, yr_so, yr_ss, yfcc, yr_cs, ybif_t, yrd_1, yrd_2, yfcl, ↓c_181, ↓c_182, ↓c_183, ↓c_184, ↓c_185, ↓c_186, ↓c_187, ↓c_73, ↓c_33, ↓c_23, ↓c_170, ↓c_168, ↓if_pos, ↓if_neg, yl_lt, yl_gt, yl_eq]
        (refine w_297 ?_; simp (disch := first | trivial | assumption | omega | exact ynl rfl _ | exact znp_o rfl | rfl | (simp (disch := first | decide | omega) only [yfc, yr_so, yr_ss, yfcc, yr_cs]; first | assumption | omega)) only [yck_of, yb_id, yPI_some, yPJ_some, yPA_some, yPV_none, yfc, yr_so, yr_ss, yfcc, yr_cs, ybif_t, yrd_1, yrd_2, yfcl, ↓c_192, ↓c_193, ↓c_194, ↓c_251, ↓c_264, ↓c_191, ↓if_pos, ↓if_neg, yl_lt, yl_gt, yl_eq, ↓c_193, ↓c_194]; exact p_ref (by decide) (by decide) I (hQ _))
    · simp (disch := first | trivial | assumption | omega | exact ynl rfl _ | exact znp_o rfl | rfl | (simp (disch := first | decide | omega) only [yfc, yr_so, yr_ss, yfcc, yr_cs]; first | assumption | omega)) only [yck_of, yb_id, yPI_some, yPJ_some, yPA_some, yPV_none, yfc, yr_so, yr_ss, yfcc, yr_cs, ybif_t, yrd_1, yrd_2, yfcl, ↓c_181, ↓c_182, ↓c_183, ↓c_184, ↓c_185, ↓c_186, ↓c_187, ↓c_73, ↓c_33, ↓c_23, ↓c_170, ↓c_168, ↓if_pos, ↓if_neg, yl_lt, yl_gt, yl_eq]
      (refine w_297 ?_; simp (disch := first | trivial | assumption | omega | exact ynl rfl _ | exact znp_o rfl | rfl | (simp (disch := first | decide | omega) only [yfc, yr_so, yr_ss, yfcc, yr_cs]; first | assumption | omega)) only [yck_of, yb_id, yPI_some, yPJ_some, yPA_some, yPV_none, yfc, yr_so, yr_ss, yfcc, yr_cs, ybif_t, yrd_1, yrd_2, yfcl, ↓c_192, ↓c_193, ↓c_194, ↓c_251, ↓c_264, ↓c_191, ↓if_pos, ↓if_neg, yl_lt, yl_gt, yl_eq, ↓c_193]; exact p_ref (by decide) (by decide) I (hQ _))
  · simp (disch := first | trivial | assumption | omega | exact ynl rfl _ | exact znp_o rfl | rfl | (simp (disch := first | decide | omega) only [yfc, yr_so, yr_ss, yfcc, yr_cs]; first | assumption | omega)) only [yck_of, yb_id, yPI_some, yPJ_some, yPA_some, yPV_none, yfc, yr_so, yr_ss, yfcc, yr_cs, ybif_t, yrd_1, yrd_2, yfcl, ↓c_181, ↓c_182, ↓c_183, ↓c_184, ↓c_185, ↓c_186, ↓c_187, ↓c_73, ↓c_33, ↓c_23, ↓c_170, ↓c_168, ↓if_pos, ↓if_neg, yl_lt, yl_gt, yl_eq]
    (refine w_297 ?_; simp (disch := first | trivial | assumption | omega | exact ynl rfl _ | exact znp_o rfl | rfl | (simp (disch := first | decide | omega) only [yfc, yr_so, yr_ss, yfcc, yr_cs]; first | assumption | omega)) only [yck_of, yb_id, yPI_some, yPJ_some, yPA_some, yPV_none, yfc, yr_so, yr_ss, yfcc, yr_cs, ybif_t, yrd_1, yrd_2, yfcl, ↓c_192, ↓c_193, ↓c_194, ↓c_251, ↓c_264, ↓c_191, ↓if_pos, ↓if_neg, yl_lt, yl_gt, yl_eq, ↓c_193]; exact p_ref (by decide) (by decide) I (hQ _))
end PB
