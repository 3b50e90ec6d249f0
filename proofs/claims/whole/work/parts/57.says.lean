/-! ===== pair: says ===== -/
def yio (kd x : Int) : Int := if x = 0 then 1 else if x = 1 then (if 5 < kd then 0 else 1) else if x = 2 then (if 2 < kd then (if kd = 4 then 1 else 0) else 1) else if x = 3 then (if kd = 6 then 1 else if kd = 7 then 1 else 0) else if x = 4 then (if kd < 8 then 0 else 1) else if x = 5 then (if kd = 6 then 1 else 0) else (if kd = 5 then 1 else 0)
theorem zorN {a b : Nat} (ha : a < 16777216) (hb : b < 16777216) : zor a b = ((a ||| b : Nat) : Int) ∧ (a ||| b) < 16777216 := by
  have hl : a ||| b < 2 ^ 24 := Nat.or_lt_two_pow ha hb
  have hn : (Int32.ofInt (a : Int) ||| Int32.ofInt (b : Int)).toBitVec.toNat = a ||| b := by
    rw [Int32.toBitVec_or, BitVec.toNat_or, Int32.toBitVec_ofInt, Int32.toBitVec_ofInt, BitVec.toNat_ofInt, BitVec.toNat_ofInt]
    congr 1 <;> omega
  refine ⟨?_, hl⟩
  show (Int32.ofInt (a : Int) ||| Int32.ofInt (b : Int)).toInt = _
  rw [← Int32.toInt_toBitVec, BitVec.toInt_eq_toNat_of_lt (by rw [hn]; omega), hn]
theorem yshl24 : ∀ i : Nat, i < 24 → 0 ≤ zshl 1 i ∧ zshl 1 i < 16777216 := by decide +kernel
theorem yPa_r {kd sg sd : Int → Int} {N : Int} (h : yWA kd sg sd N) (hN : N ≤ 24) (n : Nat) : ∀ i, 0 ≤ i → i < N → i < n → 0 ≤ yPa kd sd i ∧ yPa kd sd i < 16777216 := by
  have wr := yWA_r h
  have hs : ∀ i, 0 ≤ i → i < N → 0 ≤ zshl 1 i ∧ zshl 1 i < 16777216 := fun i i0 i1 => by
    obtain ⟨k, rfl⟩ := Int.eq_ofNat_of_zero_le i0
    exact yshl24 k (by omega)
  induction n with
  | zero => intro i i0 _ i1; omega
  | succ n ih =>
    intro i i0 i1 i2
    by_cases q : kd i ≤ 5
    · rw [yPa_l q]; exact hs i i0 i1
    · rw [yPa_o wr i0 i1 (by omega) (by omega)]
      by_cases q6 : kd i = 6
      · obtain ⟨w1, w2⟩ := wr i i0 i1 (by omega)
        have w2 := w2 (by omega)
        rw [if_pos q6, if_pos (by omega)]
        have x1 := ih _ w1.1 (by omega) (by omega)
        have x2 := ih _ w2.1 (by omega) (by omega)
        obtain ⟨a, ha⟩ := Int.eq_ofNat_of_zero_le x1.1
        obtain ⟨b, hb⟩ := Int.eq_ofNat_of_zero_le x2.1
        rw [ha, hb]
        have z := zorN (a := a) (b := b) (by omega) (by omega)
        rw [z.1]
        omega
      · rw [if_neg q6]; exact hs i i0 i1
section SY
variable {d : Nat} {m : ZN} {L : Int} {xs : Int → Int} {Q : Int → Int → ZN → Prop}
theorem c_204 {kd x : Int} (k0 : 0 ≤ kd) (k9 : kd ≤ 9) (x0 : 0 ≤ x) (x6 : x ≤ 6) (K : Int → ZN → Prop) : zcI d 204 [zI kd, zI x] m K = K (yio kd x) m := by
  refine zcI_eq (w_204 ?_) K
  rw [yck_of (show ((0 : Int) ≤ 1 ∧ (1 : Int) ≤ 1) by decide), yck_of (show ((0 : Int) ≤ 0 ∧ (0 : Int) ≤ 1) by decide)]
  rcases (show x = 0 ∨ x = 1 ∨ x = 2 ∨ x = 3 ∨ x = 4 ∨ x = 5 ∨ x = 6 by omega) with rfl | rfl | rfl | rfl | rfl | rfl | rfl <;> rcases (show kd = 0 ∨ kd = 1 ∨ kd = 2 ∨ kd = 3 ∨ kd = 4 ∨ kd = 5 ∨ kd = 6 ∨ kd = 7 ∨ kd = 8 ∨ kd = 9 by omega) with rfl | rfl | rfl | rfl | rfl | rfl | rfl | rfl | rfl | rfl <;> exact (And.intro rfl rfl : (_ : Int) = _ ∧ m = m)
theorem c_16 {a kd x : Int} (hc : isC a) (hk : zr m a 0 = kd) (k0 : 0 ≤ kd) (k9 : kd ≤ 9) (x0 : 0 ≤ x) (x6 : x ≤ 6) (K : Int → ZN → Prop) : zcI d 16 [zA a, zI x] m K = K (yio kd x) m := by
  refine zcI_eq (w_16 ?_) K
  have f0 : zrd m a 0 = kd := by rw [isC_f hc (Or.inl (by decide))]; exact hk
  rw [yck_of (show ((0 : Int) ≤ 1 ∧ (1 : Int) ≤ 1) by decide), yck_of (show ((0 : Int) ≤ 0 ∧ (0 : Int) ≤ 1) by decide)]
  simp only [isC_pos hc, isC_O hc, cond_true, f0]
  clear f0 hk
  rcases (show x = 0 ∨ x = 1 ∨ x = 2 ∨ x = 3 ∨ x = 4 ∨ x = 5 ∨ x = 6 by omega) with rfl | rfl | rfl | rfl | rfl | rfl | rfl <;> rcases (show kd = 0 ∨ kd = 1 ∨ kd = 2 ∨ kd = 3 ∨ kd = 4 ∨ kd = 5 ∨ kd = 6 ∨ kd = 7 ∨ kd = 8 ∨ kd = 9 by omega) with rfl | rfl | rfl | rfl | rfl | rfl | rfl | rfl | rfl | rfl <;> exact (And.intro rfl trivial : (_ : Int) = _ ∧ True)
theorem p_says (I : yInv L xs m) (hQ : ∀ r m2, yInv L xs m2 → Q r r m2) (s x : Int) : zcI (d + 9) 120 [zA 3, zI s, zI x] m (fun v m1 => zcI (d + 9) 205 [zA 236, zI s, zI x] m1 (fun v2 m2 => Q v v2 m2)) := by
  obtain ⟨n1, n2, n3⟩ := I.2.2.1.1
  have iC := I.2.2.1.2.1
  have iM := I.2.2.1.2.2
  have z10 : ¬ (1 : Int) = 0 := by decide
  refine w_120 ?_
  by_cases q1 : 0 ≤ s ∧ s ≤ 7
  · by_cases q2 : 0 ≤ x ∧ x ≤ 6
    · have s8 : s < 8 := by omega
      rcases yS3 I q1.1 s8 with h | h | h
      · simp (disch := first | trivial | assumption | omega | exact ynl rfl _ | exact znp_o rfl | rfl | (simp (disch := first | decide | omega) only [yfc, yr_so, yr_ss, yfcc, yr_cs]; first | assumption | omega)) only [yck_of, yb_id, yPI_some, yPJ_some, yPA_some, yPV_none, yfc, yr_so, yr_ss, yfcc, yr_cs, ybif_t, yrd_1, yrd_2, yfcl, ↓c_181, ↓c_182, ↓c_183, ↓c_184, ↓c_185, ↓c_186, ↓c_187, ↓c_73, ↓c_33, ↓c_23, ↓c_170, ↓c_168, ↓if_pos, ↓if_neg, yl_lt, yl_gt, yl_eq, ↓c_74, h.2]
        refine w_205 ?_
        simp (disch := first | trivial | assumption | omega | exact ynl rfl _ | exact znp_o rfl | rfl | (simp (disch := first | decide | omega) only [yfc, yr_so, yr_ss, yfcc, yr_cs]; first | assumption | omega)) only [yck_of, yb_id, yPI_some, yPJ_some, yPA_some, yPV_none, yfc, yr_so, yr_ss, yfcc, yr_cs, ybif_t, yrd_1, yrd_2, yfcl, ↓c_192, ↓c_193, ↓c_194, ↓c_251, ↓c_264, ↓c_191, ↓if_pos, ↓if_neg, yl_lt, yl_gt, yl_eq, h.1]
        exact p_ref (by decide) (by decide) I (hQ _)
      · simp only [c_73 (d := d + 7), if_pos q1, if_neg z10, c_181, if_pos q2, c_74 q1.1 s8, if_neg (show ¬ zr m 213 s = -1 by omega), c_77 q1.1 s8 (show -1 ≤ zr m 213 s ∧ zr m 213 s ≤ 100 by omega), if_pos (show zr m 213 s < 10 by omega), c_23 (d := d + 7) n2.1 n2.2, if_neg (show ¬ ((0 : Int) ≤ -1 ∧ -1 < zr m 8 1) by omega), if_true, c_168 (m := m) (show -106 ≤ (-103 : Int) by decide) (show (-103 : Int) ≤ -102 by decide)]
        refine w_205 ?_
        simp (disch := first | trivial | assumption | omega | exact ynl rfl _ | exact znp_o rfl | rfl | (simp (disch := first | decide | omega) only [yfc, yr_so, yr_ss, yfcc, yr_cs]; first | assumption | omega)) only [yck_of, yb_id, yPI_some, yPJ_some, yPA_some, yPV_none, yfc, yr_so, yr_ss, yfcc, yr_cs, ybif_t, yrd_1, yrd_2, yfcl, ↓c_192, ↓c_193, ↓c_194, ↓c_251, ↓c_264, ↓c_191, ↓if_pos, ↓if_neg, yl_lt, yl_gt, yl_eq, h.1]
        exact p_ref (by decide) (by decide) I (hQ _)
      · obtain ⟨h1, h2, h3, h4⟩ := h
        generalize hi : zr m 250 s = i at *
        have hc := isC_l h3 (show i < 25 by omega)
        obtain ⟨r, r5, r6, r7⟩ := iC.2.1 i h3 h4
        have W := iC.1 i h3 h4
        obtain ⟨m5, m6, m7, _⟩ := iM i h3 h4
        rw [show (10 : Int) + 2 + 4 * i = 10 + 4 * i + 2 by omega, show (10 : Int) + 3 + 4 * i = 10 + 4 * i + 3 by omega] at r
        have k9 := W.1
        have hsp : ¬ zr m 213 s < 10 := by omega
        have hsi : zr m 213 s - 10 = i := by omega
        simp only [c_73 (d := d + 7), if_pos q1, if_neg z10, c_181, if_pos q2, c_74 q1.1 s8, if_neg (show ¬ zr m 213 s = -1 by omega), c_77 q1.1 s8 (show -1 ≤ zr m 213 s ∧ zr m 213 s ≤ 100 by omega), if_neg hsp, hsi, c_23 (d := d + 7) n2.1 n2.2, if_pos (show 0 ≤ i ∧ i < zr m 8 1 from ⟨h3, h4⟩), c_24 (d := d + 7) h3 (show i ≤ 24 by omega), isC_O hc, cond_true, c_16 hc r.1 k9.1 k9.2 q2.1 q2.2]
        have x8 : zb (8 * i) = 8 * i := yb_id (by omega) (by omega)
        have x81 : zb (8 * i + 1) = 8 * i + 1 := yb_id (by omega) (by omega)
        by_cases t : yio (zr m 254 i) x = 0
        · rw [if_pos t, c_168 (by decide) (by decide)]
          refine w_205 ?_
          have g1 : ∀ a, a ≠ 234 → zr (zsn m 234 (-102 - -103) (zb (zr m 234 (-102 - -103) + 1))) a = zr m a := fun a ha => by rw [yfc ha]
          have fin : Q (-103) (-103) (zsn (zsn m 234 (-102 - -103) (zb (zr m 234 (-102 - -103) + 1))) 252 (-(-103) - 100) (zb (zr (zsn m 234 (-102 - -103) (zb (zr m 234 (-102 - -103) + 1))) 252 (-(-103) - 100) + 1))) := p_ref2 (x := -103) (by decide) (by decide) I (hQ _) (ySc.refl _)
          generalize zsn m 234 (-102 - -103) (zb (zr m 234 (-102 - -103) + 1)) = M at *
          simp only [c_192, if_pos q1, if_neg z10, if_pos q2, yck_of (show 0 ≤ s ∧ s < 8 from ⟨q1.1, s8⟩), g1 237 (by decide), g1 250 (by decide), g1 254 (by decide), h1, hi, if_neg (show ¬ (2 : Int) = 1 by decide), if_true, yck_of (show 0 ≤ i ∧ i < 24 by omega), c_204 k9.1 k9.2 q2.1 q2.2, if_pos t]
          rw [c_191 (by decide) (by decide)]
          exact fin
        · rw [if_neg t]
          have x0 : yA (zr m 256) i 0 = zr m 256 (8 * i) := by show zr m 256 (8 * i + 0) = _; rw [Int.add_zero]
          have x1 : yA (zr m 256) i 1 = zr m 256 (8 * i + 1) := rfl
          have wA : zr m 254 i ≤ 4 → 0 ≤ zr m 256 (8 * i) ∧ zr m 256 (8 * i) ≤ 2 := by rw [← x0]; exact W.2.2.2.1
          rcases (show x = 0 ∨ x = 1 ∨ x = 2 ∨ x = 3 ∨ x = 4 ∨ x = 5 ∨ x = 6 by omega) with rfl | rfl | rfl | rfl | rfl | rfl | rfl
          · refine w_17 ?_
            simp only [isC_pos hc, isC_O hc, cond_true, isC_c hc, isC_I2 hc, isC_n2 hc, isC_r2 hc, yck_of (show ((0 : Int) ≤ 0 ∧ (0 : Int) < 3) by decide), isC_f hc (j := 2) (Or.inl (by decide)), isC_f hc (j := 3) (Or.inl (by decide)), isC_f hc (j := 7) (Or.inl (by decide)), isC_f hc (j := 9) (Or.inr rfl), Int.reduceEq, if_false, if_true, c_18 hc]
            refine w_205 ?_
            simp only [c_192, if_pos q1, if_neg z10, if_pos q2, yck_of (show 0 ≤ s ∧ s < 8 from ⟨q1.1, s8⟩), h1, hi, if_neg (show ¬ (2 : Int) = 1 by decide), if_neg (show ¬ (2 : Int) = 0 by decide), if_true, yck_of (show 0 ≤ i ∧ i < 24 by omega), c_204 k9.1 k9.2 q2.1 q2.2, if_neg t, x8, x81, yck_of (show 0 ≤ 8 * i ∧ 8 * i < 192 by omega), yck_of (show 0 ≤ 8 * i + 1 ∧ 8 * i + 1 < 192 by omega), Int.reduceEq, if_false, c_267 (d := d + 7) h3 (show i < 24 by omega)]
            rw [ycnt_c (q := fun p => decide (zr m 261 (1000 * i + p) = 1)) (fun p p0 p1 => by rw [yTr I h3 h4 p0 p1])]
            exact hQ _ _ I
          · have kf : zr m 254 i ≤ 5 := by
              refine Classical.byContradiction (fun z => t ?_)
              show (if 5 < zr m 254 i then (0 : Int) else 1) = 0
              rw [if_pos (by omega)]
            refine w_17 ?_
            simp only [isC_pos hc, isC_O hc, cond_true, isC_c hc, isC_I2 hc, isC_n2 hc, isC_r2 hc, yck_of (show ((0 : Int) ≤ 0 ∧ (0 : Int) < 3) by decide), isC_f hc (j := 2) (Or.inl (by decide)), isC_f hc (j := 3) (Or.inl (by decide)), isC_f hc (j := 7) (Or.inl (by decide)), isC_f hc (j := 9) (Or.inr rfl), Int.reduceEq, if_false, if_true]
            refine w_205 ?_
            simp only [c_192, if_pos q1, if_neg z10, if_pos q2, yck_of (show 0 ≤ s ∧ s < 8 from ⟨q1.1, s8⟩), h1, hi, if_neg (show ¬ (2 : Int) = 1 by decide), if_neg (show ¬ (2 : Int) = 0 by decide), if_true, yck_of (show 0 ≤ i ∧ i < 24 by omega), c_204 k9.1 k9.2 q2.1 q2.2, if_neg t, x8, x81, yck_of (show 0 ≤ 8 * i ∧ 8 * i < 192 by omega), yck_of (show 0 ≤ 8 * i + 1 ∧ 8 * i + 1 < 192 by omega), Int.reduceEq, if_false]
            by_cases q5 : zr m 254 i = 5
            · rw [if_pos q5, ← x1, ← (r.2.2.2.2.2.2.2.2.2 q5).1]
              exact hQ _ _ I
            · rw [if_neg q5, ← x0, ← r.2.2.2.2.2.1 (by omega)]
              exact hQ _ _ I
          · have kf : zr m 254 i ≤ 4 := by
              refine Classical.byContradiction (fun z => t ?_)
              show (if 2 < zr m 254 i then (if zr m 254 i = 4 then (1 : Int) else 0) else 1) = 0
              rw [if_pos (by omega), if_neg (by omega)]
            have hco : zr m (10 + 4 * i + 2) 0 = zr m 256 (8 * i) := (r.2.2.2.2.2.1 kf).trans x0
            have hw := wA kf
            refine w_17 ?_
            simp only [isC_pos hc, isC_O hc, cond_true, isC_c hc, isC_I2 hc, isC_n2 hc, isC_r2 hc, yck_of (show ((0 : Int) ≤ 0 ∧ (0 : Int) < 3) by decide), isC_f hc (j := 2) (Or.inl (by decide)), isC_f hc (j := 3) (Or.inl (by decide)), isC_f hc (j := 7) (Or.inl (by decide)), isC_f hc (j := 9) (Or.inr rfl), Int.reduceEq, if_false, if_true, hco, c_19 hc hw.1 hw.2]
            refine w_205 ?_
            simp only [c_192, if_pos q1, if_neg z10, if_pos q2, yck_of (show 0 ≤ s ∧ s < 8 from ⟨q1.1, s8⟩), h1, hi, if_neg (show ¬ (2 : Int) = 1 by decide), if_neg (show ¬ (2 : Int) = 0 by decide), if_true, yck_of (show 0 ≤ i ∧ i < 24 by omega), c_204 k9.1 k9.2 q2.1 q2.2, if_neg t, x8, x81, yck_of (show 0 ≤ 8 * i ∧ 8 * i < 192 by omega), yck_of (show 0 ≤ 8 * i + 1 ∧ 8 * i + 1 < 192 by omega), Int.reduceEq, if_false, c_271 (d := d + 7) h3 (show i < 24 by omega)]
            rw [yors_c (q := fun p => decide (zr m 261 (1000 * i + p) = 1)) (g := fun p => ydig p (zr m 256 (8 * i))) (fun p p0 p1 => ⟨by rw [yTr I h3 h4 p0 p1], fun _ => rfl⟩)]
            exact hQ _ _ I
          · have kf : 6 ≤ zr m 254 i := by
              refine Classical.byContradiction (fun z => t ?_)
              show (if zr m 254 i = 6 then (1 : Int) else if zr m 254 i = 7 then 1 else 0) = 0
              rw [if_neg (by omega), if_neg (by omega)]
            have hxy := r.2.2.1 kf
            rw [x0, x1] at hxy
            refine w_17 ?_
            simp only [isC_pos hc, isC_O hc, cond_true, isC_c hc, isC_I2 hc, isC_n2 hc, isC_r2 hc, yck_of (show ((0 : Int) ≤ 0 ∧ (0 : Int) < 3) by decide), isC_f hc (j := 2) (Or.inl (by decide)), isC_f hc (j := 3) (Or.inl (by decide)), isC_f hc (j := 7) (Or.inl (by decide)), isC_f hc (j := 9) (Or.inr rfl), Int.reduceEq, if_false, if_true, hxy.1, hxy.2]
            refine w_205 ?_
            simp only [c_192, if_pos q1, if_neg z10, if_pos q2, yck_of (show 0 ≤ s ∧ s < 8 from ⟨q1.1, s8⟩), h1, hi, if_neg (show ¬ (2 : Int) = 1 by decide), if_neg (show ¬ (2 : Int) = 0 by decide), if_true, yck_of (show 0 ≤ i ∧ i < 24 by omega), c_204 k9.1 k9.2 q2.1 q2.2, if_neg t, x8, x81, yck_of (show 0 ≤ 8 * i ∧ 8 * i < 192 by omega), yck_of (show 0 ≤ 8 * i + 1 ∧ 8 * i + 1 < 192 by omega), Int.reduceEq, if_false]
            exact hQ _ _ I
          · have kf : 6 ≤ zr m 254 i := by
              refine Classical.byContradiction (fun z => t ?_)
              show (if zr m 254 i < 8 then (0 : Int) else 1) = 0
              rw [if_pos (by omega)]
            have hxy := r.2.2.1 kf
            rw [x0, x1] at hxy
            refine w_17 ?_
            simp only [isC_pos hc, isC_O hc, cond_true, isC_c hc, isC_I2 hc, isC_n2 hc, isC_r2 hc, yck_of (show ((0 : Int) ≤ 0 ∧ (0 : Int) < 3) by decide), isC_f hc (j := 2) (Or.inl (by decide)), isC_f hc (j := 3) (Or.inl (by decide)), isC_f hc (j := 7) (Or.inl (by decide)), isC_f hc (j := 9) (Or.inr rfl), Int.reduceEq, if_false, if_true, hxy.1]
            refine w_205 ?_
            simp only [c_192, if_pos q1, if_neg z10, if_pos q2, yck_of (show 0 ≤ s ∧ s < 8 from ⟨q1.1, s8⟩), h1, hi, if_neg (show ¬ (2 : Int) = 1 by decide), if_neg (show ¬ (2 : Int) = 0 by decide), if_true, yck_of (show 0 ≤ i ∧ i < 24 by omega), c_204 k9.1 k9.2 q2.1 q2.2, if_neg t, x8, x81, yck_of (show 0 ≤ 8 * i ∧ 8 * i < 192 by omega), yck_of (show 0 ≤ 8 * i + 1 ∧ 8 * i + 1 < 192 by omega), Int.reduceEq, if_false]
            exact hQ _ _ I
          · have hp := yPa_r iC.1 n2.2 25 i h3 h4 (by omega)
            obtain ⟨n, hn⟩ := Int.eq_ofNat_of_zero_le hp.1
            rw [hn] at r7 m7
            refine w_17 ?_
            simp only [isC_pos hc, isC_O hc, cond_true, isC_c hc, isC_I2 hc, isC_n2 hc, isC_r2 hc, yck_of (show ((0 : Int) ≤ 0 ∧ (0 : Int) < 3) by decide), isC_f hc (j := 2) (Or.inl (by decide)), isC_f hc (j := 3) (Or.inl (by decide)), isC_f hc (j := 7) (Or.inl (by decide)), isC_f hc (j := 9) (Or.inr rfl), Int.reduceEq, if_false, if_true, r7]
            rw [c_315 (by omega)]
            refine w_205 ?_
            simp only [c_192, if_pos q1, if_neg z10, if_pos q2, yck_of (show 0 ≤ s ∧ s < 8 from ⟨q1.1, s8⟩), h1, hi, if_neg (show ¬ (2 : Int) = 1 by decide), if_neg (show ¬ (2 : Int) = 0 by decide), if_true, yck_of (show 0 ≤ i ∧ i < 24 by omega), c_204 k9.1 k9.2 q2.1 q2.2, if_neg t, x8, x81, yck_of (show 0 ≤ 8 * i ∧ 8 * i < 192 by omega), yck_of (show 0 ≤ 8 * i + 1 ∧ 8 * i + 1 < 192 by omega), Int.reduceEq, if_false, m7]
            rw [c_195 (by omega)]
            exact hQ _ _ I
          · have kf : zr m 254 i = 5 := by
              refine Classical.byContradiction (fun z => t ?_)
              show (if zr m 254 i = 5 then (1 : Int) else 0) = 0
              rw [if_neg z]
            have h9 : zr m (10 + 4 * i) 9 = zr m 256 (8 * i) := by
              rw [r.2.2.2.2.1]
              unfold ySz
              rw [if_pos kf, x0]
            refine w_17 ?_
            simp only [isC_pos hc, isC_O hc, cond_true, isC_c hc, isC_I2 hc, isC_n2 hc, isC_r2 hc, yck_of (show ((0 : Int) ≤ 0 ∧ (0 : Int) < 3) by decide), isC_f hc (j := 2) (Or.inl (by decide)), isC_f hc (j := 3) (Or.inl (by decide)), isC_f hc (j := 7) (Or.inl (by decide)), isC_f hc (j := 9) (Or.inr rfl), Int.reduceEq, if_false, if_true, h9]
            refine w_205 ?_
            simp only [c_192, if_pos q1, if_neg z10, if_pos q2, yck_of (show 0 ≤ s ∧ s < 8 from ⟨q1.1, s8⟩), h1, hi, if_neg (show ¬ (2 : Int) = 1 by decide), if_neg (show ¬ (2 : Int) = 0 by decide), if_true, yck_of (show 0 ≤ i ∧ i < 24 by omega), c_204 k9.1 k9.2 q2.1 q2.2, if_neg t, x8, x81, yck_of (show 0 ≤ 8 * i ∧ 8 * i < 192 by omega), yck_of (show 0 ≤ 8 * i + 1 ∧ 8 * i + 1 < 192 by omega), Int.reduceEq, if_false]
            exact hQ _ _ I
    · simp (disch := first | trivial | assumption | omega | exact ynl rfl _ | exact znp_o rfl | rfl | (simp (disch := first | decide | omega) only [yfc, yr_so, yr_ss, yfcc, yr_cs]; first | assumption | omega)) only [yck_of, yb_id, yPI_some, yPJ_some, yPA_some, yPV_none, yfc, yr_so, yr_ss, yfcc, yr_cs, ybif_t, yrd_1, yrd_2, yfcl, ↓c_181, ↓c_182, ↓c_183, ↓c_184, ↓c_185, ↓c_186, ↓c_187, ↓c_73, ↓c_33, ↓c_23, ↓c_170, ↓c_168, ↓if_pos, ↓if_neg, yl_lt, yl_gt, yl_eq]
      (refine w_205 ?_; simp (disch := first | trivial | assumption | omega | exact ynl rfl _ | exact znp_o rfl | rfl | (simp (disch := first | decide | omega) only [yfc, yr_so, yr_ss, yfcc, yr_cs]; first | assumption | omega)) only [yck_of, yb_id, yPI_some, yPJ_some, yPA_some, yPV_none, yfc, yr_so, yr_ss, yfcc, yr_cs, ybif_t, yrd_1, yrd_2, yfcl, ↓c_192, ↓c_193, ↓c_194, ↓c_251, ↓c_264, ↓c_191, ↓if_pos, ↓if_neg, yl_lt, yl_gt, yl_eq]; exact p_ref (by decide) (by decide) I (hQ _))
  · simp (disch := first | trivial | assumption | omega | exact ynl rfl _ | exact znp_o rfl | rfl | (simp (disch := first | decide | omega) only [yfc, yr_so, yr_ss, yfcc, yr_cs]; first | assumption | omega)) only [yck_of, yb_id, yPI_some, yPJ_some, yPA_some, yPV_none, yfc, yr_so, yr_ss, yfcc, yr_cs, ybif_t, yrd_1, yrd_2, yfcl, ↓c_181, ↓c_182, ↓c_183, ↓c_184, ↓c_185, ↓c_186, ↓c_187, ↓c_73, ↓c_33, ↓c_23, ↓c_170, ↓c_168, ↓if_pos, ↓if_neg, yl_lt, yl_gt, yl_eq]
    (refine w_205 ?_; simp (disch := first | trivial | assumption | omega | exact ynl rfl _ | exact znp_o rfl | rfl | (simp (disch := first | decide | omega) only [yfc, yr_so, yr_ss, yfcc, yr_cs]; first | assumption | omega)) only [yck_of, yb_id, yPI_some, yPJ_some, yPA_some, yPV_none, yfc, yr_so, yr_ss, yfcc, yr_cs, ybif_t, yrd_1, yrd_2, yfcl, ↓c_192, ↓c_193, ↓c_194, ↓c_251, ↓c_264, ↓c_191, ↓if_pos, ↓if_neg, yl_lt, yl_gt, yl_eq]; exact p_ref (by decide) (by decide) I (hQ _))
end SY
