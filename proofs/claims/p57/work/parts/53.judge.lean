/-! ===== pair: judge ===== -/
/-- where an order told and the order itself part -/
def yJd (e g : Int → Int) (cc n r : Int) : Prop := (0 ≤ r ∧ r < n ∧ (∀ y, 0 ≤ y → y < r → y < cc ∧ g y = e y) ∧ (r < cc → g r ≠ e r)) ∨ ((∀ y, 0 ≤ y → y < n → y < cc ∧ g y = e y) ∧ r = if n < cc then n else -1)
theorem yJd_u {e g e' g' : Int → Int} {cc n r r' : Int} (he : ∀ y, 0 ≤ y → y < n → e y = e' y) (hg : ∀ y, 0 ≤ y → y < cc → g y = g' y) (h : yJd e g cc n r) (h' : yJd e' g' cc n r') : r = r' := by
  rcases h with ⟨a0, a1, a2, a3⟩ | ⟨a0, a1⟩
  · rcases h' with ⟨b0, b1, b2, b3⟩ | ⟨b0, b1⟩
    · rcases Int.lt_trichotomy r r' with w | w | w
      · have := b2 r a0 w
        exact absurd (by rw [hg r a0 this.1, he r a0 a1]; exact this.2) (a3 this.1)
      · exact w
      · have := a2 r' b0 w
        exact absurd (by rw [← hg r' b0 this.1, ← he r' b0 b1]; exact this.2) (b3 this.1)
    · have := b0 r a0 a1
      exact absurd (by rw [hg r a0 this.1, he r a0 a1]; exact this.2) (a3 this.1)
  · rcases h' with ⟨b0, b1, b2, b3⟩ | ⟨b0, b1⟩
    · have := a0 r' b0 b1
      exact absurd (by rw [← hg r' b0 this.1, ← he r' b0 b1]; exact this.2) (b3 this.1)
    · rw [a1, b1]
section JD
variable {d : Nat} {m : ZN} {L : Int} {xs : Int → Int} {Q : Int → Int → ZN → Prop}
theorem c_160l {c t s n cc : Int} {P : Option ZV → ZN → Prop} {g e : Int → Int} (s0 : 0 ≤ s) (s8 : s < 8) (n0 : 0 ≤ n) (n1 : n ≤ 40) (hc : zr m 232 1 = cc) (c1 : cc ≤ 60) (hg : ∀ y, 0 ≤ y → y < cc → 0 ≤ zr m 233 y ∧ zr m 233 y % 100 = g y) (he : ∀ y, 0 ≤ y → y < n → zr m 215 (40 * s + y) = e y) (h : ∀ r, yJd e g cc n r → P (some (zI r)) m) : zwpN (d + 1) 160 82 [some (zA 3), some (zI c), some (zI t), some (zI s), some (zI n), some (zI 0), some (zI 0)] [] m P := by
  refine yfor (fun l => (∀ y, 0 ≤ y → y < l → y < cc ∧ g y = e y) → zwpN (d + 1) 160 82 [some (zA 3), some (zI c), some (zI t), some (zI s), some (zI n), some (zI 0), some (zI l)] [] m P) 0 n n0 (fun l l0 l1 hW hl => ?_) (fun hl => ?_) (fun y y0 y1 => by omega)
  · refine w_160_82 ?_
    rw [if_pos l1, hc]
    by_cases q : l < cc
    · have hgl := hg l l0 q
      rw [if_pos q, c_49 l0 (by omega) hgl.1, c_84 s0 s8 l0 (by omega), hgl.2, he l l0 l1, show zb (l + 1) = l + 1 from yb_id (by omega) (by omega)]
      simp only [yl_eq]
      by_cases q2 : g l = e l
      · rw [if_pos q2]
        refine hW (fun y y0 y1 => ?_)
        by_cases q3 : y = l
        · rw [q3]; exact ⟨q, q2⟩
        · exact hl y y0 (by omega)
      · rw [if_neg q2]
        exact h l (Or.inl ⟨l0, l1, hl, fun _ => q2⟩)
    · rw [if_neg q]
      exact h l (Or.inl ⟨l0, l1, hl, fun z => absurd z q⟩)
  · refine w_160_82 ?_
    rw [if_neg (by omega), hc]
    by_cases q : n < cc
    · rw [if_pos q]
      exact h n (Or.inr ⟨hl, by rw [if_pos q]⟩)
    · rw [if_neg q]
      exact h (-1) (Or.inr ⟨hl, by rw [if_neg q]⟩)
theorem c_304l {c t s n cc : Int} {P : Option ZV → ZN → Prop} {g e : Int → Int} (s0 : 0 ≤ s) (s8 : s < 8) (n0 : 0 ≤ n) (n1 : n ≤ 40) (hc : zr m 236 34 = cc) (c1 : cc ≤ 60) (hg : ∀ y, 0 ≤ y → y < cc → zr m 267 y = g y) (he : ∀ y, 0 ≤ y → y < n → zr m (241 + s) y = e y) (h : ∀ r, yJd e g cc n r → P (some (zI r)) m) : zwpN (d + 1) 304 74 [some (zA 236), some (zI c), some (zI t), some (zI s), some (zI n), some (zI 0), some (zI 0)] [] m P := by
  refine yfor (fun l => (∀ y, 0 ≤ y → y < l → y < cc ∧ g y = e y) → zwpN (d + 1) 304 74 [some (zA 236), some (zI c), some (zI t), some (zI s), some (zI n), some (zI 0), some (zI l)] [] m P) 0 n n0 (fun l l0 l1 hW hl => ?_) (fun hl => ?_) (fun y y0 y1 => by omega)
  · refine w_304_74 ?_
    rw [if_pos l1, hc]
    by_cases q : l < cc
    · have hgl := hg l l0 q
      have hel := he l l0 l1
      simp only [if_pos q, isR_p s0 s8, isR_J s0 s8, isR_n s0 s8, isR_r s0 s8, cond_true, yck_of (show 0 ≤ s ∧ s < 8 from ⟨s0, s8⟩), yck_of (show 0 ≤ l ∧ l < 40 by omega), yck_of (show 0 ≤ l ∧ l < 60 by omega), hgl, hel, show zb (l + 1) = l + 1 from yb_id (by omega) (by omega), yl_eq]
      by_cases q2 : g l = e l
      · rw [if_pos q2.symm]
        refine hW (fun y y0 y1 => ?_)
        by_cases q3 : y = l
        · rw [q3]; exact ⟨q, q2⟩
        · exact hl y y0 (by omega)
      · rw [if_neg (fun z => q2 z.symm)]
        exact h l (Or.inl ⟨l0, l1, hl, fun _ => q2⟩)
    · rw [if_neg q]
      exact h l (Or.inl ⟨l0, l1, hl, fun z => absurd z q⟩)
  · refine w_304_74 ?_
    rw [if_neg (by omega), hc]
    by_cases q : n < cc
    · rw [if_pos q]
      exact h n (Or.inr ⟨hl, by rw [if_pos q]⟩)
    · rw [if_neg q]
      exact h (-1) (Or.inr ⟨hl, by rw [if_neg q]⟩)
theorem p_judge (I : yInv L xs m) (hQ : ∀ r m2, yInv L xs m2 → Q r r m2) (c t s n : Int) : zcI (d + 9) 160 [zA 3, zI c, zI t, zI s, zI n] m (fun v m1 => zcI (d + 9) 304 [zA 236, zI c, zI t, zI s, zI n] m1 (fun v2 m2 => Q v v2 m2)) := by
  obtain ⟨n1, n2, n3⟩ := I.2.2.1.1
  obtain ⟨l1, l2, l3, l4, l5, l6, l7⟩ := I.2.1
  have lv : ∀ j, 0 ≤ j → j < 3 * zr m 4 1 → 0 ≤ zr m 253 j ∧ zr m 253 j ≤ 9 := fun j j0 j1 => (l7 j j0 j1).1 ▸ (l7 j j0 j1).2
  have z10 : ¬ (1 : Int) = 0 := by decide
  refine w_160 ?_
  by_cases q1 : 0 ≤ c ∧ c < zr m 8 1
  · by_cases q2 : 0 ≤ t ∧ t ≤ 5
    · by_cases q3 : 0 ≤ s ∧ s ≤ 7
      · by_cases q4 : 0 ≤ n ∧ n ≤ 40
        · have s8 : s < 8 := by omega
          have e10 : zr m 236 10 = zr m 8 1 := n1.symm
          rcases yS3 I q3.1 s8 with h | h | h
          · simp (disch := first | trivial | assumption | omega | exact ynl rfl _ | exact znp_o rfl | rfl | (simp (disch := first | decide | omega) only [yfc, yr_so, yr_ss, yfcc, yr_cs]; first | assumption | omega)) only [yck_of, yb_id, yPI_some, yPJ_some, yPA_some, yPV_none, yfc, yr_so, yr_ss, yfcc, yr_cs, ybif_t, yrd_1, yrd_2, yfcl, ↓c_181, ↓c_182, ↓c_183, ↓c_184, ↓c_185, ↓c_186, ↓c_187, ↓c_73, ↓c_33, ↓c_23, ↓c_170, ↓c_168, ↓if_pos, ↓if_neg, yl_lt, yl_gt, yl_eq, ↓c_80_0]
            (refine w_304 ?_; simp (disch := first | trivial | assumption | omega | exact ynl rfl _ | exact znp_o rfl | rfl | (simp (disch := first | decide | omega) only [yfc, yr_so, yr_ss, yfcc, yr_cs]; first | assumption | omega)) only [yck_of, yb_id, yPI_some, yPJ_some, yPA_some, yPV_none, yfc, yr_so, yr_ss, yfcc, yr_cs, ybif_t, yrd_1, yrd_2, yfcl, ↓c_192, ↓c_193, ↓c_194, ↓c_251, ↓c_264, ↓c_191, ↓if_pos, ↓if_neg, yl_lt, yl_gt, yl_eq, ↓c_193, ↓c_257_0]; exact p_ref (by decide) (by decide) I (hQ _))
          · by_cases qs : zr m 239 s < n
            · have : zr m 214 s < n := by omega
              simp (disch := first | trivial | assumption | omega | exact ynl rfl _ | exact znp_o rfl | rfl | (simp (disch := first | decide | omega) only [yfc, yr_so, yr_ss, yfcc, yr_cs]; first | assumption | omega)) only [yck_of, yb_id, yPI_some, yPJ_some, yPA_some, yPV_none, yfc, yr_so, yr_ss, yfcc, yr_cs, ybif_t, yrd_1, yrd_2, yfcl, ↓c_181, ↓c_182, ↓c_183, ↓c_184, ↓c_185, ↓c_186, ↓c_187, ↓c_73, ↓c_33, ↓c_23, ↓c_170, ↓c_168, ↓if_pos, ↓if_neg, yl_lt, yl_gt, yl_eq, ↓c_80_1]
              (refine w_304 ?_; simp (disch := first | trivial | assumption | omega | exact ynl rfl _ | exact znp_o rfl | rfl | (simp (disch := first | decide | omega) only [yfc, yr_so, yr_ss, yfcc, yr_cs]; first | assumption | omega)) only [yck_of, yb_id, yPI_some, yPJ_some, yPA_some, yPV_none, yfc, yr_so, yr_ss, yfcc, yr_cs, ybif_t, yrd_1, yrd_2, yfcl, ↓c_192, ↓c_193, ↓c_194, ↓c_251, ↓c_264, ↓c_191, ↓if_pos, ↓if_neg, yl_lt, yl_gt, yl_eq, ↓c_193, ↓c_257_1]; exact p_ref (by decide) (by decide) I (hQ _))
            · have qs' : ¬ zr m 214 s < n := by omega
              simp only [c_170 (d := d + 6) n2.1 n2.2, if_pos (show (0 ≤ c ∧ c < zr m 8 1) ∧ 0 ≤ t ∧ t ≤ 5 from ⟨q1, q2⟩), if_neg z10, c_73 (d := d + 7), if_pos q3, c_181, if_pos q4, c_80_1 (d := d + 7) q3.1 s8 (show 0 ≤ zr m 213 s by omega) (show zr m 213 s ≤ 4 by omega), if_neg qs', if_true, c_24 (d := d + 7) q1.1 (show c ≤ 24 by omega)]
              refine d_47 (d := d + 5) I q1.1 q1.2 q2.1 q2.2 (fun M2 sc R => ?_)
              have I2 := yInv_Sc I sc
              have cr := ycnt_r (yPl m c) l2.1
              have cc := R.1
              have fr := fun i i0 i1 => yFl_r (m := m) (t := t) (md := 0) (n := zr m 4 1) (i := i) i0 i1 l2.2 q2.1 q2.2 lv
              have z10' : zr M2 236 10 = zr m 8 1 := by rw [sc 236 10 (by unfold yscr; omega), n1]
              have z9 : zr M2 236 9 = zr m 236 9 := sc 236 9 (by unfold yscr; omega)
              have z253 : zr M2 253 = zr m 253 := sc.fn (fun j => by unfold yscr; omega)
              have z261 : zr M2 261 = zr m 261 := sc.fn (fun j => by unfold yscr; omega)
              have z215 : zr M2 215 = zr m 215 := sc.fn (fun j => by unfold yscr; omega)
              have z237 : zr M2 237 = zr m 237 := sc.fn (fun j => by unfold yscr; omega)
              have z239 : zr M2 239 = zr m 239 := sc.fn (fun j => by unfold yscr; omega)
              have z241 : zr M2 (241 + s) = zr m (241 + s) := sc.fn (fun j => by unfold yscr; omega)
              refine c_160l (d := d + 8) (g := fun y => zr M2 233 y % 100) (e := fun y => zr m 215 (40 * s + y)) q3.1 s8 q4.1 q4.2 rfl (by omega) (fun y y0 y1 => ⟨?_, rfl⟩) (fun y y0 y1 => by rw [z215]) (fun r hr => ?_)
              · obtain ⟨i, i0, i1, i2, i3⟩ := R.2.2.1 y y0 y1
                rw [i3]; exact (fr i i0 i1).1
              · show zcI (d + 9) 304 _ M2 (fun v2 m2 => Q r v2 m2)
                refine w_304 ?_
                simp only [c_193 (d := d + 7) (m := M2) (show 0 ≤ zr M2 236 10 by omega) (show zr M2 236 10 ≤ 24 by omega), z10', if_pos q1, if_neg z10, c_264 (d := d + 7), if_pos q2, c_192, if_pos q3, if_pos q4, c_257_g (d := d + 6) q3.1 s8 (show zr M2 237 s = 1 by rw [z237]; exact h.1) (show ¬ zr M2 239 s < n by rw [z239]; exact qs), if_true]
                refine d_294 (d := d + 4) I (c := c) (t := t) (md := 0) z9 z253 z261 q1.1 q1.2 q2.1 q2.2 (fun M3 s3 e3 e4 => ?_)
                have ecc : zr M3 236 34 = zr M2 232 1 := by rw [e3]; exact cc.2.symm
                have y241 : zr M3 (241 + s) = zr m (241 + s) := (s3.fn (fun j => by unfold yscr; omega)).trans z241
                refine c_304l (d := d + 8) (g := zr M3 267) (e := zr m (241 + s)) q3.1 s8 q4.1 q4.2 ecc (by omega) (fun _ _ _ => rfl) (fun y y0 y1 => by rw [y241]) (fun r' hr' => ?_)
                have : r' = r := (yJd_u (fun y y0 y1 => h.2.2.2.2.2 y y0 (by omega)) (fun y y0 y1 => (yRk_x (M2 := M2) (M3 := M3) R y0 y1 fr e4).2) hr hr').symm
                show Q r r' M3
                rw [this]
                exact hQ _ _ (yInv_Sc I2 s3)
          · simp (disch := first | trivial | assumption | omega | exact ynl rfl _ | exact znp_o rfl | rfl | (simp (disch := first | decide | omega) only [yfc, yr_so, yr_ss, yfcc, yr_cs]; first | assumption | omega)) only [yck_of, yb_id, yPI_some, yPJ_some, yPA_some, yPV_none, yfc, yr_so, yr_ss, yfcc, yr_cs, ybif_t, yrd_1, yrd_2, yfcl, ↓c_181, ↓c_182, ↓c_183, ↓c_184, ↓c_185, ↓c_186, ↓c_187, ↓c_73, ↓c_33, ↓c_23, ↓c_170, ↓c_168, ↓if_pos, ↓if_neg, yl_lt, yl_gt, yl_eq, ↓c_80_2]
            (refine w_304 ?_; simp (disch := first | trivial | assumption | omega | exact ynl rfl _ | exact znp_o rfl | rfl | (simp (disch := first | decide | omega) only [yfc, yr_so, yr_ss, yfcc, yr_cs]; first | assumption | omega)) only [yck_of, yb_id, yPI_some, yPJ_some, yPA_some, yPV_none, yfc, yr_so, yr_ss, yfcc, yr_cs, ybif_t, yrd_1, yrd_2, yfcl, ↓c_192, ↓c_193, ↓c_194, ↓c_251, ↓c_264, ↓c_191, ↓if_pos, ↓if_neg, yl_lt, yl_gt, yl_eq, ↓c_193, ↓c_257_2]; exact p_ref (by decide) (by decide) I (hQ _))
        · simp (disch := first | trivial | assumption | omega | exact ynl rfl _ | exact znp_o rfl | rfl | (simp (disch := first | decide | omega) only [yfc, yr_so, yr_ss, yfcc, yr_cs]; first | assumption | omega)) only [yck_of, yb_id, yPI_some, yPJ_some, yPA_some, yPV_none, yfc, yr_so, yr_ss, yfcc, yr_cs, ybif_t, yrd_1, yrd_2, yfcl, ↓c_181, ↓c_182, ↓c_183, ↓c_184, ↓c_185, ↓c_186, ↓c_187, ↓c_73, ↓c_33, ↓c_23, ↓c_170, ↓c_168, ↓if_pos, ↓if_neg, yl_lt, yl_gt, yl_eq]
          (refine w_304 ?_; simp (disch := first | trivial | assumption | omega | exact ynl rfl _ | exact znp_o rfl | rfl | (simp (disch := first | decide | omega) only [yfc, yr_so, yr_ss, yfcc, yr_cs]; first | assumption | omega)) only [yck_of, yb_id, yPI_some, yPJ_some, yPA_some, yPV_none, yfc, yr_so, yr_ss, yfcc, yr_cs, ybif_t, yrd_1, yrd_2, yfcl, ↓c_192, ↓c_193, ↓c_194, ↓c_251, ↓c_264, ↓c_191, ↓if_pos, ↓if_neg, yl_lt, yl_gt, yl_eq, ↓c_193]; exact p_ref (by decide) (by decide) I (hQ _))
      · simp (disch := first | trivial | assumption | omega | exact ynl rfl _ | exact znp_o rfl | rfl | (simp (disch := first | decide | omega) only [yfc, yr_so, yr_ss, yfcc, yr_cs]; first | assumption | omega)) only [yck_of, yb_id, yPI_some, yPJ_some, yPA_some, yPV_none, yfc, yr_so, yr_ss, yfcc, yr_cs, ybif_t, yrd_1, yrd_2, yfcl, ↓c_181, ↓c_182, ↓c_183, ↓c_184, ↓c_185, ↓c_186, ↓c_187, ↓c_73, ↓c_33, ↓c_23, ↓c_170, ↓c_168, ↓if_pos, ↓if_neg, yl_lt, yl_gt, yl_eq]
        (refine w_304 ?_; simp (disch := first | trivial | assumption | omega | exact ynl rfl _ | exact znp_o rfl | rfl | (simp (disch := first | decide | omega) only [yfc, yr_so, yr_ss, yfcc, yr_cs]; first | assumption | omega)) only [yck_of, yb_id, yPI_some, yPJ_some, yPA_some, yPV_none, yfc, yr_so, yr_ss, yfcc, yr_cs, ybif_t, yrd_1, yrd_2, yfcl, ↓c_192, ↓c_193, ↓c_194, ↓c_251, ↓c_264, ↓c_191, ↓if_pos, ↓if_neg, yl_lt, yl_gt, yl_eq, ↓c_193]; exact p_ref (by decide) (by decide) I (hQ _))
    · simp (disch := first | trivial | assumption | omega | exact ynl rfl _ | exact znp_o rfl | rfl | (simp (disch := first | decide | omega) only [yfc, yr_so, yr_ss, yfcc, yr_cs]; first | assumption | omega)) only [yck_of, yb_id, yPI_some, yPJ_some, yPA_some, yPV_none, yfc, yr_so, yr_ss, yfcc, yr_cs, ybif_t, yrd_1, yrd_2, yfcl, ↓c_181, ↓c_182, ↓c_183, ↓c_184, ↓c_185, ↓c_186, ↓c_187, ↓c_73, ↓c_33, ↓c_23, ↓c_170, ↓c_168, ↓if_pos, ↓if_neg, yl_lt, yl_gt, yl_eq]
      (refine w_304 ?_; simp (disch := first | trivial | assumption | omega | exact ynl rfl _ | exact znp_o rfl | rfl | (simp (disch := first | decide | omega) only [yfc, yr_so, yr_ss, yfcc, yr_cs]; first | assumption | omega)) only [yck_of, yb_id, yPI_some, yPJ_some, yPA_some, yPV_none, yfc, yr_so, yr_ss, yfcc, yr_cs, ybif_t, yrd_1, yrd_2, yfcl, ↓c_192, ↓c_193, ↓c_194, ↓c_251, ↓c_264, ↓c_191, ↓if_pos, ↓if_neg, yl_lt, yl_gt, yl_eq, ↓c_193]; exact p_ref (by decide) (by decide) I (hQ _))
  · simp (disch := first | trivial | assumption | omega | exact ynl rfl _ | exact znp_o rfl | rfl | (simp (disch := first | decide | omega) only [yfc, yr_so, yr_ss, yfcc, yr_cs]; first | assumption | omega)) only [yck_of, yb_id, yPI_some, yPJ_some, yPA_some, yPV_none, yfc, yr_so, yr_ss, yfcc, yr_cs, ybif_t, yrd_1, yrd_2, yfcl, ↓c_181, ↓c_182, ↓c_183, ↓c_184, ↓c_185, ↓c_186, ↓c_187, ↓c_73, ↓c_33, ↓c_23, ↓c_170, ↓c_168, ↓if_pos, ↓if_neg, yl_lt, yl_gt, yl_eq]
    (refine w_304 ?_; simp (disch := first | trivial | assumption | omega | exact ynl rfl _ | exact znp_o rfl | rfl | (simp (disch := first | decide | omega) only [yfc, yr_so, yr_ss, yfcc, yr_cs]; first | assumption | omega)) only [yck_of, yb_id, yPI_some, yPJ_some, yPA_some, yPV_none, yfc, yr_so, yr_ss, yfcc, yr_cs, ybif_t, yrd_1, yrd_2, yfcl, ↓c_192, ↓c_193, ↓c_194, ↓c_251, ↓c_264, ↓c_191, ↓if_pos, ↓if_neg, yl_lt, yl_gt, yl_eq, ↓c_193]; exact p_ref (by decide) (by decide) I (hQ _))
end JD
