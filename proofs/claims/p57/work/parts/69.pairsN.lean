/-! ===== pairs: of ===== -/
section PN
variable {d : Nat} {m : ZN} {L : Int} {xs : Int → Int} {Q : Int → Int → ZN → Prop}
theorem yRn_f {t : Int → Int} {k : Nat} {M : ZN} (R : yRn t m k) (f : ∀ b, 222 ≤ b → b ≤ 226 → zr M b = zr m b) : yRn t M k := by
  obtain ⟨r1, r2, r3⟩ := R
  refine ⟨by rw [f 222 (by decide) (by decide)]; exact r1, fun y hy => ?_, fun i i0 i1 => ?_⟩
  · rw [f 226 (by decide) (by decide)]; exact r2 y hy
  · rw [f 224 (by decide) (by decide), f 225 (by decide) (by decide)]; exact r3 i i0 i1
theorem yPa_m (I : yInv L xs m) {c : Int} (c0 : 0 ≤ c) (c1 : c < zr m 8 1) : 0 ≤ zr m 264 c ∧ (zr m 264 c).toNat < 2 ^ (c.toNat + 1) ∧ (zr m 264 c).toNat < 16777216 := by
  obtain ⟨n1, n2, n3⟩ := I.2.2.1.1
  have iC := I.2.2.1.2.1
  have iM := I.2.2.1.2.2
  obtain ⟨k, rfl⟩ := Int.eq_ofNat_of_zero_le c0
  obtain ⟨a, h1, h2⟩ := yPa_b iC.1 n2.2 25 k (by omega) (by omega)
  rw [(iM k c0 c1).2.2.1, h1]
  have h3 : 2 ^ (k + 1) ≤ 2 ^ 24 := Nat.pow_le_pow_right (by decide) (by omega)
  refine ⟨by omega, ?_, ?_⟩
  · show a < 2 ^ (k + 1)
    exact h2
  · show a < 16777216
    omega
theorem d_285 (I : yInv L xs m) {M : ZN} (sx : ySc m M) {c o x w : Int} {a : Int → Int} {K : Int → ZN → Prop} (c0 : 0 ≤ c) (c1 : c < zr m 8 1) (o0 : 0 ≤ o) (o1 : o ≤ 5) (x1 : 1 ≤ x) (x40 : x ≤ 40) (w0 : 0 ≤ w) (w4 : w ≤ 4) (R : 1 ≤ yrc (yTt m c o) 1000 → yOd (ywd (yTt m c o)) a (yrc (yTt m c o) 1000 - 1) (fun _ => true) (yrc (yTt m c o) 1000 - 1)) (h : ∀ M4, ySc M M4 → K (yOfv m c o (yFj a (yrc (yTt m c o) 1000 - min (yrc (yTt m c o) 1000) x)) (min (yrc (yTt m c o) 1000) x) w) M4) : zcI (d + 9) 285 [zA 236, zI c, zI o, zI x, zI w] M K := by
  obtain ⟨n1, n2, n3⟩ := I.2.2.1.1
  obtain ⟨l1, l2, l3, l4, l5, l6, l7⟩ := I.2.1
  have hr := yrc_r (yTt m c o) 1000
  have z10 : ¬ (1 : Int) = 0 := by decide
  have e10 : zr M 236 10 = zr m 8 1 := by rw [sx 236 10 (by unfold yscr; omega), n1]
  refine w_285 ?_
  rw [c_193 (d := d + 7) (by rw [e10]; exact n2.1) (by rw [e10]; exact n2.2), e10, if_pos (show 0 ≤ c ∧ c < zr m 8 1 from ⟨c0, c1⟩), if_neg z10, c_264 (d := d + 7), if_pos (show 0 ≤ o ∧ o ≤ 5 from ⟨o0, o1⟩), if_neg z10, c_192, if_pos (show 1 ≤ x ∧ x ≤ 40 from ⟨x1, x40⟩), if_neg z10, c_192, if_pos (show 0 ≤ w ∧ w ≤ 4 from ⟨w0, w4⟩), if_neg z10]
  refine d_275 (d := d + 5) (m := m) (yZm a (yrc (yTt m c o) 1000)) (sx.fn (fun j => by unfold yscr; omega)) c0 (by omega) o0 o1 x1 (yZm_0 _ _) (fun S n g hZ q g0 g1 g2 g3 => (yZm_s R hZ (by omega) g0 g1 g2 g3).1) (fun M4 S s4 hZ R5 => ?_)
  have R6 := ySpM_c (T := yFj a (yrc (yTt m c o) 1000 - min (yrc (yTt m c o) 1000) x)) R5 (fun g g0 g1 => hZ.2 g g0 g1)
  have s := sx.trans s4
  have e261 : zr M4 261 = zr m 261 := s.fn (fun j => by unfold yscr; omega)
  have e253 : zr M4 253 = zr m 253 := s.fn (fun j => by unfold yscr; omega)
  have e264 : zr M4 264 = zr m 264 := s.fn (fun j => by unfold yscr; omega)
  have e9 : zr M4 236 9 = zr m 236 9 := s 236 9 (by unfold yscr; omega)
  have e11 : zr M4 236 11 = zr m 236 11 := s 236 11 (by unfold yscr; omega)
  have hv : ∀ j, 0 ≤ j → j < 3 * zr M4 236 9 → 0 ≤ zr M4 253 j ∧ zr M4 253 j ≤ 9 := fun j j0 j1 => by
    rw [e9, ← l1] at j1
    have := l7 j j0 j1
    rw [e253]; omega
  have hh := h M4 s4
  unfold yOfv at hh
  generalize yFj a (yrc (yTt m c o) 1000 - min (yrc (yTt m c o) 1000) x) = T at R6 hh
  have cnt0 : ∀ (p : Int → Bool) (q : Int → Bool), ycnt (fun l => p l && (decide ((0 : Int) = 0) || q l)) (zr m 236 9) = ycnt p (zr m 236 9) := fun p q => ycnt_c (fun l _ _ => by
    show (p l && (true || q l)) = p l
    rw [Bool.true_or, Bool.and_true])
  have cnt1 : ∀ (p : Int → Bool) (q : Int → Bool), ycnt (fun l => p l && (decide ((1 : Int) = 0) || q l)) (zr m 236 9) = ycnt (fun l => p l && q l) (zr m 236 9) := fun p q => rfl
  by_cases q0 : w = 0
  · rw [if_pos q0] at hh
    rw [if_pos q0, c_282 (d := d + 6) (u := yTt m c o) R6 c0 (by omega) o0 o1 (fun k _ _ => by rw [e261]; rfl)]
    exact hh
  · rw [if_neg q0] at hh
    rw [if_neg q0]
    by_cases q1 : w = 1
    · rw [if_pos q1] at hh
      rw [if_pos q1, c_281 (d := d + 5) R6 (Or.inl rfl) c0 (by omega) o0 o1 (by omega) (by omega) hv, e253, e9, cnt0 (fun l => ybo (yRd (yTt m c o) T (yk3 (zr m 253) l o))) (fun l => !decide (zr M4 261 (1000 * c + yk3 (zr m 253) l 0) = 1))]
      exact hh
    · rw [if_neg q1] at hh
      rw [if_neg q1]
      by_cases q2 : w = 2
      · rw [if_pos q2] at hh
        rw [if_pos q2, c_281 (d := d + 5) R6 (Or.inr rfl) c0 (by omega) o0 o1 (by omega) (by omega) hv, e253, e9, e261]
        exact hh
      · rw [if_neg q2] at hh
        rw [if_neg q2]
        by_cases q3 : w = 3
        · rw [if_pos q3] at hh
          rw [if_pos q3]
          refine w_284 ?_
          rw [c_281 (d := d + 4) R6 (Or.inl rfl) c0 (by omega) o0 o1 (by omega) (by omega) hv, e253, e9, e11, R6.2.1, cnt0 (fun l => ybo (yRd (yTt m c o) T (yk3 (zr m 253) l o))) (fun l => !decide (zr M4 261 (1000 * c + yk3 (zr m 253) l 0) = 1))]
          have hp : 0 ≤ zr m 236 11 * min (yrc (yTt m c o) 1000) x ∧ zr m 236 11 * min (yrc (yTt m c o) 1000) x ≤ 20 * 40 := ⟨Int.mul_nonneg (by omega) (by omega), Int.mul_le_mul (by omega) (by omega) (by omega) (by decide)⟩
          have hc := ycnt_r (fun l => ybo (yRd (yTt m c o) T (yk3 (zr m 253) l o))) (show 0 ≤ zr m 236 9 by omega)
          rw [show zb (zr m 236 11 * min (yrc (yTt m c o) 1000) x) = zr m 236 11 * min (yrc (yTt m c o) 1000) x from yb_id (by omega) (by omega), yb_id (by omega) (by omega)]
          exact hh
        · rw [if_neg q3] at hh
          have pa := yPa_m I c0 c1
          rw [if_neg q3, d_283 (d := d + 5) (m := m) R6 e261 c0 (by omega) o0 o1 (show zr M4 264 c = (((zr m 264 c).toNat : Nat) : Int) by rw [e264]; omega) pa.2.2]
          exact hh
theorem p_of (I : yInv L xs m) (hQ : ∀ r m2, yInv L xs m2 → Q r r m2) (c t x w : Int) : zcI (d + 9) 148 [zA 3, zI c, zI t, zI x, zI w] m (fun v m1 => zcI (d + 9) 285 [zA 236, zI c, zI t, zI x, zI w] m1 (fun v2 m2 => Q v v2 m2)) := by
  obtain ⟨n1, n2, n3⟩ := I.2.2.1.1
  obtain ⟨l1, l2, l3, l4, l5, l6, l7⟩ := I.2.1
  have iC := I.2.2.1.2.1
  have iM := I.2.2.1.2.2
  have z10 : ¬ (1 : Int) = 0 := by decide
  refine w_148 ?_
  by_cases q1 : 0 ≤ c ∧ c < zr m 8 1
  · by_cases q2 : 0 ≤ t ∧ t ≤ 5
    · by_cases qx : 1 ≤ x ∧ x ≤ 40
      · by_cases qw : 0 ≤ w ∧ w ≤ 4
        · have hA := isC_l q1.1 (show c < 25 by omega)
          rw [c_170 (d := d + 6) n2.1 n2.2, if_pos (show (0 ≤ c ∧ c < zr m 8 1) ∧ 0 ≤ t ∧ t ≤ 5 from ⟨q1, q2⟩), if_neg z10, c_181, if_pos qx, if_neg z10, c_181, if_pos qw, if_neg z10, c_24 (d := d + 7) q1.1 (by omega)]
          simp only [isC_pos hA, Bool.and_true, cond_true]
          refine d_91 (d := d + 6) I q1.1 q1.2 q2.1 q2.2 (fun M2 sc R => ?_)
          have hr := yrc_r (yTt m c t) 1000
          refine c_96 (d := d + 6) (t := yTt m c t) qx.1 qx.2 R.1 R.2.2 (fun M3 f R3 R4 => ?_)
          have sM : ySc m M3 := sc.trans (fun a j q => by rw [f a (by unfold yscr at q; omega) (by unfold yscr at q; omega) (by unfold yscr at q; omega) (by unfold yscr at q; omega)])
          have Rn : yRn (yTt m c t) M3 1000 := yRn_f R (fun b b0 b1 => f b (by omega) (by omega) (by omega) (by omega))
          obtain ⟨T, hT⟩ : ∃ T : Int → Prop, T = yFj (zr M3 227) (yrc (yTt m c t) 1000 - min (yrc (yTt m c t) 1000) x) := ⟨_, rfl⟩
          have hS : ∀ g, 0 ≤ g → g < yrc (yTt m c t) 1000 - 1 → (zr M3 230 g = 0 ∧ ¬ T g) ∨ (zr M3 230 g = 1 ∧ T g) := fun g g0 g1 => by
            have := R4 g g0 g1
            rw [hT]
            rcases this.1 with h | h
            · refine Or.inl ⟨h, fun ⟨y, y0, y1, y2⟩ => ?_⟩
              have := this.2.2 ⟨y, y0, by omega, y2⟩
              omega
            · obtain ⟨y, y0, y1, y2⟩ := this.2.1 h
              exact Or.inr ⟨h, y, y0, by omega, y2⟩
          have fin : zcI (d + 9) 285 [zA 236, zI c, zI t, zI x, zI w] M3 (fun v2 m2 => Q (yOfv m c t T (min (yrc (yTt m c t) 1000) x) w) v2 m2) := by
            refine d_285 I sM q1.1 q1.2 q2.1 q2.2 qx.1 qx.2 qw.1 qw.2 R3 (fun M4 s4 => ?_)
            rw [← hT]
            exact hQ _ _ (yInv_Sc I (sM.trans s4))
          clear hT R4 R3
          have e41 : zr M3 4 1 = zr m 236 9 := by rw [sM 4 1 (by unfold yscr; omega), l1]
          have e42 : zr M3 4 2 = zr m 236 11 := by rw [sM 4 2 (by unfold yscr; omega), l3]
          have e5 : zr M3 5 = zr m 5 := sM.fn (fun j => by unfold yscr; omega)
          have hv : ∀ j, 0 ≤ j → j < 3 * zr M3 4 1 → 0 ≤ zr M3 5 j ∧ zr M3 5 j ≤ 9 := fun j j0 j1 => by
            rw [e41, ← l1] at j1
            have := l7 j j0 j1
            rw [e5]; omega
          have h9 : 0 ≤ zr M3 4 1 ∧ zr M3 4 1 ≤ 60 := by omega
          have kc : ∀ l o, 0 ≤ l → l < zr m 236 9 → 0 ≤ o → o ≤ 5 → yk3 (zr M3 5) l o = yk3 (zr m 253) l o := fun l o a0 a1 b0 b1 => by
            rw [e5]
            exact yk3_c (c := zr m 4 1) a0 (by omega) b0 b1 (fun j j0 j1 => (l7 j j0 j1).1)
          have rd : ycnt (fun l => ybo (yRd (yTt m c t) T (yk3 (zr M3 5) l t))) (zr M3 4 1) = ycnt (fun l => ybo (yRd (yTt m c t) T (yk3 (zr m 253) l t))) (zr m 236 9) := by
            rw [e41]
            exact ycnt_c (fun l a0 a1 => by rw [kc l t a0 a1 q2.1 q2.2])
          by_cases w0 : w = 0
          · rw [if_pos w0, c_100 (d := d + 7) Rn hS]
            rw [show yOfv m c t T (min (yrc (yTt m c t) 1000) x) w = _ from if_pos w0] at fin
            exact fin
          · rw [if_neg w0]
            by_cases w1 : w = 1
            · rw [if_pos w1, c_101 (d := d + 5) Rn hS q2.1 q2.2 h9.1 h9.2 hv, rd]
              rw [show yOfv m c t T (min (yrc (yTt m c t) 1000) x) w = _ from (if_neg w0).trans (if_pos w1)] at fin
              exact fin
            · rw [if_neg w1]
              by_cases w2 : w = 2
              · rw [if_pos w2, c_101 (d := d + 5) Rn hS q2.1 q2.2 h9.1 h9.2 hv, rd, c_41 (d := d + 5) hA h9.1 h9.2 hv]
                rw [show yOfv m c t T (min (yrc (yTt m c t) 1000) x) w = _ from (if_neg w0).trans ((if_neg w1).trans (if_pos w2))] at fin
                have lv : ∀ j, 0 ≤ j → j < 3 * zr m 236 9 → 0 ≤ zr m 253 j ∧ zr m 253 j ≤ 9 := fun j j0 j1 => by
                  have := l7 j j0 (by omega)
                  omega
                have e1 : ycnt (fun n => decide (yTw (zr M3 (10 + 4 * c + 1)) (yk3 (zr M3 5) n 0) = 1)) (zr M3 4 1) = ycnt (fun l => decide (zr m 261 (1000 * c + yk3 (zr m 253) l 0) = 1)) (zr m 236 9) := by
                  rw [e41]
                  refine ycnt_c (fun l a0 a1 => ?_)
                  have hk := yk3_r (t := 0) a0 a1 (by decide) (by decide) lv
                  rw [kc l 0 a0 a1 (by decide) (by decide), sM.fn (a := 10 + 4 * c + 1) (fun j => by unfold yscr; omega), yTr I q1.1 q1.2 hk.1 hk.2]
                have e2 := ycnt_or (r := fun l => ybo (yRd (yTt m c t) T (yk3 (zr m 253) l t))) (p := fun l => ybo (yRd (yTt m c t) T (yk3 (zr m 253) l t)) && !decide (zr m 261 (1000 * c + yk3 (zr m 253) l 0) = 1)) (q := fun l => decide (zr m 261 (1000 * c + yk3 (zr m 253) l 0) = 1)) (zr m 236 9).toNat (fun l a0 a1 => by
                  have hp := ypl_k (t := t) a0 (show l < zr m 236 9 by omega) q2.1 q2.2 lv
                  by_cases z : zr m 261 (1000 * c + yk3 (zr m 253) l 0) = 1
                  · have : ybo (yRd (yTt m c t) T (yk3 (zr m 253) l t)) = true := ybo_t (Or.inl (by
                      show zr m 261 (1000 * c + ypl t (yk3 (zr m 253) l t)) = 1
                      rw [hp]; exact z))
                    simp only [this, decide_eq_true z]
                    decide
                  · simp only [decide_eq_false z]
                    cases ybo (yRd (yTt m c t) T (yk3 (zr m 253) l t)) <;> decide)
                rw [show (((zr m 236 9).toNat : Nat) : Int) = zr m 236 9 by omega] at e2
                have r1 := ycnt_r (fun l => decide (zr m 261 (1000 * c + yk3 (zr m 253) l 0) = 1)) (show 0 ≤ zr m 236 9 by omega)
                have r2 := ycnt_r (fun l => ybo (yRd (yTt m c t) T (yk3 (zr m 253) l t)) && !decide (zr m 261 (1000 * c + yk3 (zr m 253) l 0) = 1)) (show 0 ≤ zr m 236 9 by omega)
                rw [e1, e2, show ∀ A B : Int, A + B - B = A from fun A B => by omega, yb_id (by omega) (by omega)]
                exact fin
              · rw [if_neg w2]
                by_cases w3 : w = 3
                · rw [if_pos w3]
                  refine w_93 ?_
                  rw [c_101 (d := d + 5) Rn hS q2.1 q2.2 h9.1 h9.2 hv, rd, Rn.1, e42]
                  rw [show yOfv m c t T (min (yrc (yTt m c t) 1000) x) w = _ from (if_neg w0).trans ((if_neg w1).trans ((if_neg w2).trans (if_pos w3)))] at fin
                  have hp : 0 ≤ zr m 236 11 * min (yrc (yTt m c t) 1000) x ∧ zr m 236 11 * min (yrc (yTt m c t) 1000) x ≤ 20 * 40 := ⟨Int.mul_nonneg (by omega) (by omega), Int.mul_le_mul (by omega) (by omega) (by omega) (by decide)⟩
                  have hc := ycnt_r (fun l => ybo (yRd (yTt m c t) T (yk3 (zr m 253) l t))) (show 0 ≤ zr m 236 9 by omega)
                  rw [show zb (zr m 236 11 * min (yrc (yTt m c t) 1000) x) = zr m 236 11 * min (yrc (yTt m c t) 1000) x from yb_id (by omega) (by omega), yb_id (by omega) (by omega)]
                  exact fin
                · rw [if_neg w3]
                  have pa := yPa_m I q1.1 q1.2
                  have e7 : zrd M3 (10 + 4 * c) 7 = (((zr m 264 c).toNat : Nat) : Int) := by
                    rw [isC_f hA (Or.inl (by decide)), sM _ _ (by unfold yscr; omega), (iC.2.1 c q1.1 q1.2).2.2.2, ← (iM c q1.1 q1.2).2.2.1]
                    omega
                  rw [show yOfv m c t T (min (yrc (yTt m c t) 1000) x) w = _ from (if_neg w0).trans ((if_neg w1).trans ((if_neg w2).trans (if_neg w3)))] at fin
                  simp only [isC_O hA, cond_true, e7]
                  rw [d_174 (d := d + 4) (m := m) Rn hS (show zr M3 8 1 = zr m 8 1 from sM 8 1 (by unfold yscr; omega)) n2.1 n2.2 (fun j j0 j1 k k0 k1 => by
                    rw [sM.fn (a := 10 + 4 * j + 1) (fun j => by unfold yscr; omega), yTr I j0 j1 k0 k1]) q2.1 q2.2 pa.2.2, show (zr m 8 1).toNat = c.toNat + 1 + ((zr m 8 1).toNat - (c.toNat + 1)) by omega, yset_x _ (fun j hj z => by
                    have := Nat.testBit_lt_two_pow (Nat.lt_of_lt_of_le pa.2.1 (Nat.pow_le_pow_right (by decide) hj))
                    rw [z.1] at this
                    cases this)]
                  exact fin
        · simp (disch := first | trivial | assumption | omega | exact ynl rfl _ | exact znp_o rfl | rfl | (simp (disch := first | decide | omega) only [yfc, yr_so, yr_ss, yfcc, yr_cs]; first | assumption | omega)) only [yck_of, yb_id, yPI_some, yPJ_some, yPA_some, yPV_none, yfc, yr_so, yr_ss, yfcc, yr_cs, ybif_t, yrd_1, yrd_2, yfcl, ↓c_181, ↓c_182, ↓c_183, ↓c_184, ↓c_185, ↓c_186, ↓c_187, ↓c_73, ↓c_33, ↓c_23, ↓c_170, ↓c_168, ↓if_pos, ↓if_neg, yl_lt, yl_gt, yl_eq]
          (refine w_285 ?_; simp (disch := first | trivial | assumption | omega | exact ynl rfl _ | exact znp_o rfl | rfl | (simp (disch := first | decide | omega) only [yfc, yr_so, yr_ss, yfcc, yr_cs]; first | assumption | omega)) only [yck_of, yb_id, yPI_some, yPJ_some, yPA_some, yPV_none, yfc, yr_so, yr_ss, yfcc, yr_cs, ybif_t, yrd_1, yrd_2, yfcl, ↓c_192, ↓c_193, ↓c_194, ↓c_251, ↓c_264, ↓c_191, ↓if_pos, ↓if_neg, yl_lt, yl_gt, yl_eq, ↓c_193]; exact p_ref (by decide) (by decide) I (hQ _))
      · simp (disch := first | trivial | assumption | omega | exact ynl rfl _ | exact znp_o rfl | rfl | (simp (disch := first | decide | omega) only [yfc, yr_so, yr_ss, yfcc, yr_cs]; first | assumption | omega)) only [yck_of, yb_id, yPI_some, yPJ_some, yPA_some, yPV_none, yfc, yr_so, yr_ss, yfcc, yr_cs, ybif_t, yrd_1, yrd_2, yfcl, ↓c_181, ↓c_182, ↓c_183, ↓c_184, ↓c_185, ↓c_186, ↓c_187, ↓c_73, ↓c_33, ↓c_23, ↓c_170, ↓c_168, ↓if_pos, ↓if_neg, yl_lt, yl_gt, yl_eq]
        (refine w_285 ?_; simp (disch := first | trivial | assumption | omega | exact ynl rfl _ | exact znp_o rfl | rfl | (simp (disch := first | decide | omega) only [yfc, yr_so, yr_ss, yfcc, yr_cs]; first | assumption | omega)) only [yck_of, yb_id, yPI_some, yPJ_some, yPA_some, yPV_none, yfc, yr_so, yr_ss, yfcc, yr_cs, ybif_t, yrd_1, yrd_2, yfcl, ↓c_192, ↓c_193, ↓c_194, ↓c_251, ↓c_264, ↓c_191, ↓if_pos, ↓if_neg, yl_lt, yl_gt, yl_eq, ↓c_193]; exact p_ref (by decide) (by decide) I (hQ _))
    · simp (disch := first | trivial | assumption | omega | exact ynl rfl _ | exact znp_o rfl | rfl | (simp (disch := first | decide | omega) only [yfc, yr_so, yr_ss, yfcc, yr_cs]; first | assumption | omega)) only [yck_of, yb_id, yPI_some, yPJ_some, yPA_some, yPV_none, yfc, yr_so, yr_ss, yfcc, yr_cs, ybif_t, yrd_1, yrd_2, yfcl, ↓c_181, ↓c_182, ↓c_183, ↓c_184, ↓c_185, ↓c_186, ↓c_187, ↓c_73, ↓c_33, ↓c_23, ↓c_170, ↓c_168, ↓if_pos, ↓if_neg, yl_lt, yl_gt, yl_eq]
      (refine w_285 ?_; simp (disch := first | trivial | assumption | omega | exact ynl rfl _ | exact znp_o rfl | rfl | (simp (disch := first | decide | omega) only [yfc, yr_so, yr_ss, yfcc, yr_cs]; first | assumption | omega)) only [yck_of, yb_id, yPI_some, yPJ_some, yPA_some, yPV_none, yfc, yr_so, yr_ss, yfcc, yr_cs, ybif_t, yrd_1, yrd_2, yfcl, ↓c_192, ↓c_193, ↓c_194, ↓c_251, ↓c_264, ↓c_191, ↓if_pos, ↓if_neg, yl_lt, yl_gt, yl_eq, ↓c_193]; exact p_ref (by decide) (by decide) I (hQ _))
  · simp (disch := first | trivial | assumption | omega | exact ynl rfl _ | exact znp_o rfl | rfl | (simp (disch := first | decide | omega) only [yfc, yr_so, yr_ss, yfcc, yr_cs]; first | assumption | omega)) only [yck_of, yb_id, yPI_some, yPJ_some, yPA_some, yPV_none, yfc, yr_so, yr_ss, yfcc, yr_cs, ybif_t, yrd_1, yrd_2, yfcl, ↓c_181, ↓c_182, ↓c_183, ↓c_184, ↓c_185, ↓c_186, ↓c_187, ↓c_73, ↓c_33, ↓c_23, ↓c_170, ↓c_168, ↓if_pos, ↓if_neg, yl_lt, yl_gt, yl_eq]
    (refine w_285 ?_; simp (disch := first | trivial | assumption | omega | exact ynl rfl _ | exact znp_o rfl | rfl | (simp (disch := first | decide | omega) only [yfc, yr_so, yr_ss, yfcc, yr_cs]; first | assumption | omega)) only [yck_of, yb_id, yPI_some, yPJ_some, yPA_some, yPV_none, yfc, yr_so, yr_ss, yfcc, yr_cs, ybif_t, yrd_1, yrd_2, yfcl, ↓c_192, ↓c_193, ↓c_194, ↓c_251, ↓c_264, ↓c_191, ↓if_pos, ↓if_neg, yl_lt, yl_gt, yl_eq, ↓c_193]; exact p_ref (by decide) (by decide) I (hQ _))
end PN
