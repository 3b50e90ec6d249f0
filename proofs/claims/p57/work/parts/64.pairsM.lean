/-! ===== pairs: plan ===== -/
section PM
variable {d : Nat} {m : ZN} {L : Int} {xs : Int → Int} {Q : Int → Int → ZN → Prop}
theorem p_plan (I : yInv L xs m) (hQ : ∀ r m2, yInv L xs m2 → Q r r m2) (c t x i : Int) : zcI (d + 9) 147 [zA 3, zI c, zI t, zI x, zI i] m (fun v m1 => zcI (d + 9) 279 [zA 236, zI c, zI t, zI x, zI i] m1 (fun v2 m2 => Q v v2 m2)) := by
  obtain ⟨n1, n2, n3⟩ := I.2.2.1.1
  have z10 : ¬ (1 : Int) = 0 := by decide
  refine w_147 ?_
  by_cases q1 : 0 ≤ c ∧ c < zr m 8 1
  · by_cases q2 : 0 ≤ t ∧ t ≤ 5
    · by_cases qx : 1 ≤ x ∧ x ≤ 40
      · rw [c_170 (d := d + 6) n2.1 n2.2, if_pos (show (0 ≤ c ∧ c < zr m 8 1) ∧ 0 ≤ t ∧ t ≤ 5 from ⟨q1, q2⟩), if_neg z10, c_181, if_pos qx, if_neg z10, c_24 (d := d + 7) q1.1 (by omega)]
        refine d_91 (d := d + 6) I q1.1 q1.2 q2.1 q2.2 (fun M2 sc R => ?_)
        have I2 := yInv_Sc I sc
        have hr := yrc_r (yTt m c t) 1000
        have z10' : zr M2 236 10 = zr m 8 1 := by rw [sc 236 10 (by unfold yscr; omega), n1]
        have z261 : zr M2 261 = zr m 261 := sc.fn (fun j => by unfold yscr; omega)
        have ref : ∀ (Mx : ZN) (K : Int → ZN → Prop), zr Mx 236 10 = zr m 8 1 → ¬ i < -1 → zcV (d + 8) 275 [zA 236, zI c, zI t, zI x] Mx (fun n13 => if i = -1 then K (zr n13 236 32) n13 else if i < zr n13 236 32 then zcI (d + 8) 276 [zA 236, zI i] n13 (fun v17 n16 => K v17 n16) else zcI (d + 8) 191 [zA 236, zI (-102)] n13 (fun v15 n14 => K v15 n14)) → zcI (d + 9) 279 [zA 236, zI c, zI t, zI x, zI i] Mx K := fun Mx K e1 e2 h => by
          refine w_279 ?_
          rw [c_193 (d := d + 7) (by rw [e1]; exact n2.1) (by rw [e1]; exact n2.2), e1, if_pos q1, if_neg z10, c_264 (d := d + 7), if_pos q2, if_neg z10, c_192, if_pos qx, if_neg z10, if_neg e2]
          exact h
        refine w_93 ?_
        rw [R.1]
        by_cases qm : i = -1
        · rw [if_pos qm]
          refine ref M2 _ z10' (by omega) ?_
          refine d_275 (d := d + 5) (m := m) (fun _ _ => True) z261 q1.1 (by omega) q2.1 q2.2 qx.1 trivial (fun _ _ _ _ _ _ _ _ _ => trivial) (fun M3 S s3 _ R3 => ?_)
          rw [if_pos qm, R3.2.1]
          exact hQ _ _ (yInv_Sc I2 s3)
        · rw [if_neg qm, c_181, show zb (min (yrc (yTt m c t) 1000) x - 1) = min (yrc (yTt m c t) 1000) x - 1 from yb_id (by omega) (by omega)]
          by_cases qi : 0 ≤ i ∧ i ≤ min (yrc (yTt m c t) 1000) x - 1
          · rw [if_pos qi, if_neg z10]
            refine c_96 (d := d + 6) (t := yTt m c t) qx.1 qx.2 R.1 R.2.2 (fun M3 f R3 R4 => ?_)
            obtain ⟨e, he⟩ := ySpE_x (R3 (by omega)) (yrc (yTt m c t) 1000 - min (yrc (yTt m c t) 1000) x).toNat (by omega)
            rw [show (((yrc (yTt m c t) 1000 - min (yrc (yTt m c t) 1000) x).toNat : Nat) : Int) = yrc (yTt m c t) 1000 - min (yrc (yTt m c t) 1000) x by omega, show yrc (yTt m c t) 1000 - (yrc (yTt m c t) 1000 - min (yrc (yTt m c t) 1000) x) = min (yrc (yTt m c t) 1000) x by omega] at he
            refine c_97 (t := yTt m c t) (by rw [f 222 (by decide) (by decide) (by decide) (by decide)]; exact R.1) (by rw [f 224 (by decide) (by decide) (by decide) (by decide), f 225 (by decide) (by decide) (by decide) (by decide)]; exact R.2.2) (fun g g0 g1 => ?_) he qi.1 (by omega) ?_
            · have := R4 g g0 g1
              constructor
              · intro z ⟨y, y0, y1, y2⟩
                have := this.2.2 ⟨y, y0, by omega, y2⟩
                omega
              · intro z
                rcases this.1 with h | h
                · exact h
                · obtain ⟨y, y0, y1, y2⟩ := this.2.1 h
                  exact absurd ⟨y, y0, by omega, y2⟩ z
            · have sM : ySc m M3 := sc.trans (fun a j q => by rw [f a (by unfold yscr at q; omega) (by unfold yscr at q; omega) (by unfold yscr at q; omega) (by unfold yscr at q; omega)])
              refine ref M3 _ (by rw [sM 236 10 (by unfold yscr; omega), n1]) (by omega) ?_
              refine d_275 (d := d + 5) (m := m) (yZm (zr M3 227) (yrc (yTt m c t) 1000)) (sM.fn (fun j => by unfold yscr; omega)) q1.1 (by omega) q2.1 q2.2 qx.1 (yZm_0 _ _) (fun S n g hZ q g0 g1 g2 g3 => (yZm_s R3 hZ (by omega) g0 g1 g2 g3).1) (fun M4 S s4 hZ R5 => ?_)
              rw [if_neg qm, R5.2.1, if_pos (by omega)]
              obtain ⟨_, _, e', he', hrow⟩ := R5
              have hu := ySpE_u (ySpE_c he' (fun g g0 g1 => hZ.2 g g0 g1)) he
              have hx := hrow i qi.1 (by omega)
              refine w_276 ?_
              rw [yck_of (by omega), yck_of (by omega), hx.1, hx.2, hu (i - 1) (by omega) (by omega), hu i (by omega) (by omega)]
              exact hQ _ _ (yInv_Sc I (sM.trans s4))
          · rw [if_neg qi, if_pos rfl, c_168 (by decide) (by decide)]
            have f : ∀ a, a ≠ 234 → zr (zsn M2 234 (-102 - -102) (zb (zr M2 234 (-102 - -102) + 1))) a = zr M2 a := fun a h => by rw [yfc h]
            have fin : ∀ M3, ySc (zsn M2 234 (-102 - -102) (zb (zr M2 234 (-102 - -102) + 1))) M3 → Q (-102) (-102) (zsn M3 252 (-(-102) - 100) (zb (zr M3 252 (-(-102) - 100) + 1))) := fun M3 s3 => p_ref3 (x := -102) (by decide) (by decide) I (hQ _) sc s3
            generalize zsn M2 234 (-102 - -102) (zb (zr M2 234 (-102 - -102) + 1)) = M4 at *
            have y10 : zr M4 236 10 = zr m 8 1 := by rw [f 236 (by decide), z10']
            by_cases q9 : i < -1
            · refine w_279 ?_
              rw [c_193 (d := d + 7) (by rw [y10]; exact n2.1) (by rw [y10]; exact n2.2), y10, if_pos q1, if_neg z10, c_264 (d := d + 7), if_pos q2, if_neg z10, c_192, if_pos qx, if_neg z10, if_pos q9, c_191 (by decide) (by decide)]
              exact fin M4 (ySc.refl _)
            · refine ref M4 _ y10 q9 ?_
              refine d_275 (d := d + 5) (m := m) (fun _ _ => True) (by rw [f 261 (by decide)]; exact z261) q1.1 (by omega) q2.1 q2.2 qx.1 trivial (fun _ _ _ _ _ _ _ _ _ => trivial) (fun M3 S s3 _ R3 => ?_)
              rw [if_neg qm, R3.2.1, if_neg (by omega), c_191 (by decide) (by decide)]
              exact fin M3 s3
      · simp (disch := first | trivial | assumption | omega | exact ynl rfl _ | exact znp_o rfl | rfl | (simp (disch := first | decide | omega) only [yfc, yr_so, yr_ss, yfcc, yr_cs]; first | assumption | omega)) only [yck_of, yb_id, yPI_some, yPJ_some, yPA_some, yPV_none, yfc, yr_so, yr_ss, yfcc, yr_cs, ybif_t, yrd_1, yrd_2, yfcl, ↓c_181, ↓c_182, ↓c_183, ↓c_184, ↓c_185, ↓c_186, ↓c_187, ↓c_73, ↓c_33, ↓c_23, ↓c_170, ↓c_168, ↓if_pos, ↓if_neg, yl_lt, yl_gt, yl_eq]
        (refine w_279 ?_; simp (disch := first | trivial | assumption | omega | exact ynl rfl _ | exact znp_o rfl | rfl | (simp (disch := first | decide | omega) only [yfc, yr_so, yr_ss, yfcc, yr_cs]; first | assumption | omega)) only [yck_of, yb_id, yPI_some, yPJ_some, yPA_some, yPV_none, yfc, yr_so, yr_ss, yfcc, yr_cs, ybif_t, yrd_1, yrd_2, yfcl, ↓c_192, ↓c_193, ↓c_194, ↓c_251, ↓c_264, ↓c_191, ↓if_pos, ↓if_neg, yl_lt, yl_gt, yl_eq, ↓c_193]; exact p_ref (by decide) (by decide) I (hQ _))
    · simp (disch := first | trivial | assumption | omega | exact ynl rfl _ | exact znp_o rfl | rfl | (simp (disch := first | decide | omega) only [yfc, yr_so, yr_ss, yfcc, yr_cs]; first | assumption | omega)) only [yck_of, yb_id, yPI_some, yPJ_some, yPA_some, yPV_none, yfc, yr_so, yr_ss, yfcc, yr_cs, ybif_t, yrd_1, yrd_2, yfcl, ↓c_181, ↓c_182, ↓c_183, ↓c_184, ↓c_185, ↓c_186, ↓c_187, ↓c_73, ↓c_33, ↓c_23, ↓c_170, ↓c_168, ↓if_pos, ↓if_neg, yl_lt, yl_gt, yl_eq]
      (refine w_279 ?_; simp (disch := first | trivial | assumption | omega | exact ynl rfl _ | exact znp_o rfl | rfl | (simp (disch := first | decide | omega) only [yfc, yr_so, yr_ss, yfcc, yr_cs]; first | assumption | omega)) only [yck_of, yb_id, yPI_some, yPJ_some, yPA_some, yPV_none, yfc, yr_so, yr_ss, yfcc, yr_cs, ybif_t, yrd_1, yrd_2, yfcl, ↓c_192, ↓c_193, ↓c_194, ↓c_251, ↓c_264, ↓c_191, ↓if_pos, ↓if_neg, yl_lt, yl_gt, yl_eq, ↓c_193]; exact p_ref (by decide) (by decide) I (hQ _))
  · simp (disch := first | trivial | assumption | omega | exact ynl rfl _ | exact znp_o rfl | rfl | (simp (disch := first | decide | omega) only [yfc, yr_so, yr_ss, yfcc, yr_cs]; first | assumption | omega)) only [yck_of, yb_id, yPI_some, yPJ_some, yPA_some, yPV_none, yfc, yr_so, yr_ss, yfcc, yr_cs, ybif_t, yrd_1, yrd_2, yfcl, ↓c_181, ↓c_182, ↓c_183, ↓c_184, ↓c_185, ↓c_186, ↓c_187, ↓c_73, ↓c_33, ↓c_23, ↓c_170, ↓c_168, ↓if_pos, ↓if_neg, yl_lt, yl_gt, yl_eq]
    (refine w_279 ?_; simp (disch := first | trivial | assumption | omega | exact ynl rfl _ | exact znp_o rfl | rfl | (simp (disch := first | decide | omega) only [yfc, yr_so, yr_ss, yfcc, yr_cs]; first | assumption | omega)) only [yck_of, yb_id, yPI_some, yPJ_some, yPA_some, yPV_none, yfc, yr_so, yr_ss, yfcc, yr_cs, ybif_t, yrd_1, yrd_2, yfcl, ↓c_192, ↓c_193, ↓c_194, ↓c_251, ↓c_264, ↓c_191, ↓if_pos, ↓if_neg, yl_lt, yl_gt, yl_eq, ↓c_193]; exact p_ref (by decide) (by decide) I (hQ _))
end PM
