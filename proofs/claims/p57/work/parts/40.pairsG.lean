/-! ===== pairs: conditions told one by one ===== -/
theorem yorC {c : Int} (h : 0 ≤ c ∧ c ≤ 2) : zor 0 (zshl 1 c) = zshl 1 c := by
  rcases (show c = 0 ∨ c = 1 ∨ c = 2 by omega) with rfl | rfl | rfl <;> decide
theorem ylandN {n : Nat} (h : n < 4294967296) (h0 : n &&& 4294966273 = 0) : n < 1024 := by
  have h1 : (n &&& 4294966273) >>> 10 = 0 := by rw [h0]; rfl
  rw [Nat.shiftRight_and_distrib] at h1
  have h2 : (4294966273 : Nat) >>> 10 = 2 ^ 22 - 1 := by decide
  rw [h2, Nat.and_two_pow_sub_one_eq_mod, Nat.shiftRight_eq_div_pow] at h1
  omega
theorem yland {x : Int} (h1 : -2147483648 ≤ x) (h2 : x ≤ 2147483647) (h : zand x (-1023) = 0) : 0 ≤ x ∧ x ≤ 1023 := by
  have hb : (Int32.ofInt x &&& Int32.ofInt (-1023)).toBitVec = 0#32 := BitVec.eq_of_toInt_eq (by rw [Int32.toInt_toBitVec]; exact h)
  rw [Int32.toBitVec_and] at hb
  have hn := congrArg BitVec.toNat hb
  rw [BitVec.toNat_and, Int32.toBitVec_ofInt, Int32.toBitVec_ofInt, BitVec.toNat_ofInt] at hn
  have := ylandN (n := (x % 4294967296).toNat) (by omega) hn
  omega
section PG
variable {d : Nat} {m : ZN} {L : Int} {xs : Int → Int} {Q : Int → Int → ZN → Prop}
theorem p_test (I : yInv L xs m) (hQ : ∀ r m2, yInv L xs m2 → Q r r m2) (a b c : Int) : zcI (d + 9) 129 [zA 3, zI a, zI b, zI c] m (fun v m1 => zcI (d + 9) 252 [zA 236, zI a, zI b, zI c] m1 (fun v2 m2 => Q v v2 m2)) := by
  obtain ⟨n1, n2, n3⟩ := I.2.2.1.1
  refine w_129 ?_
  by_cases q1 : 0 ≤ a ∧ a ≤ 2
  · skip
    by_cases q2 : 0 ≤ b ∧ b ≤ 3
    · skip
      by_cases q3 : 1 ≤ c ∧ c ≤ 9
      · skip
        have hM : ∀ v m1, zr m1 236 = zr m 236 → zcI (d + 8) 250 [zA 236, zI 0, zI b, zI a, zI c, zI (-1)] m1 (fun v2 m2 => Q v v2 m2) → zcI (d + 9) 252 [zA 236, zI a, zI b, zI c] m1 (fun v2 m2 => Q v v2 m2) := fun v m1 e h => by
          have e10 : zr m1 236 10 = zr m 8 1 := by rw [e, n1]
          refine w_252 ?_
          simp (disch := first | trivial | assumption | omega | exact ynl rfl _ | exact znp_o rfl | rfl | (simp (disch := first | decide | omega) only [yfc, yr_so, yr_ss, yfcc, yr_cs]; first | assumption | omega)) only [yck_of, yb_id, yPI_some, yPJ_some, yPA_some, yPV_none, yfc, yr_so, yr_ss, yfcc, yr_cs, ybif_t, yrd_1, yrd_2, yfcl, ↓c_192, ↓c_193, ↓c_194, ↓c_251, ↓c_264, ↓c_191, ↓if_pos, ↓if_neg, yl_lt, yl_gt, yl_eq, e10]
          exact h
        generalize hN : zr m 8 1 = N at *
        have hc := isC_l n2.1 (show N < 25 by omega)
        obtain ⟨ad, had⟩ : ∃ ad : Int → Int, ad = (fun k => if k = 0 then a else if k = 1 then c else if k = 2 then (-1) else -1) := ⟨_, rfl⟩
        have e0 : ad 0 = a := by rw [had]; rfl
        have e1 : ad 1 = c := by rw [had]; rfl
        have e2 : ad 2 = (-1) := by rw [had]; rfl
        have W : yWf 0 b ad N := by
          unfold yWf
          rw [e0, e1, e2]
          refine ⟨?_, ?_, ?_, ?_, ?_, ?_, ?_, ?_, ?_, ?_, ?_, ?_⟩ <;> intros <;> omega
        simp (disch := first | trivial | assumption | omega | exact ynl rfl _ | exact znp_o rfl | rfl | (simp (disch := first | decide | omega) only [yfc, yr_so, yr_ss, yfcc, yr_cs]; first | assumption | omega)) only [yck_of, yb_id, yPI_some, yPJ_some, yPA_some, yPV_none, yfc, yr_so, yr_ss, yfcc, yr_cs, ybif_t, yrd_1, yrd_2, yfcl, isC_pos, isC_O, isC_t, isC_c, isC_w, isC_f, isC_I1, isC_01, isC_I2, isC_I3, isC_02, isC_03, isC_n1, isC_n2, isC_n3, isC_r1, isC_r2, isC_r3, isC_np, isC_np1, isC_np2, isC_np3, Bool.true_or, Bool.and_true, Bool.true_and, cond_true, ↓c_181, ↓c_182, ↓c_183, ↓c_184, ↓c_185, ↓c_186, ↓c_187, ↓c_73, ↓c_33, ↓c_23, ↓c_170, ↓c_168, ↓if_pos, ↓if_neg, yl_lt, yl_gt, yl_eq]
        refine d_25 (T := N) (by omega) (by omega) (by omega) (by omega) (fun M D => ?_)
        try simp only [isC_pos hc, isC_O hc, Bool.and_true, cond_true]
        refine d_2 (D (fun _ => 0) (fun _ => 0)) hc (by decide) (by decide) (fun M2 D2 => ?_)
        refine p_new (d := d) (d2 := d + 3) (kd := 0) (sg := b) (a0 := a) (a1 := c) (a2 := (-1)) I hQ hN had D2.1 (D2.2.1.1.trans hN) (by rw [D2.2.1.2, n3]; rfl) (yDr_R D2 ?_ ?_ ?_ ?_ ?_ ?_ ?_ ?_ ?_ ?_) ?_ W hM
        · intros; omega
        · intros; omega
        · rfl
        · intros; decide
        · intros; first | decide | omega
        · intros; exact e0.symm
        · intros; first | exact e1.symm | omega
        · intros; first | exact e2.symm | omega
        · intros; first | exact e1.symm | omega
        · intros; omega
        · intro _
          rw [D2.2.2.1.2.2.2.2.2.1, yorC (by omega), ← e0]
          rfl
      · simp (disch := first | trivial | assumption | omega | exact ynl rfl _ | exact znp_o rfl | rfl | (simp (disch := first | decide | omega) only [yfc, yr_so, yr_ss, yfcc, yr_cs]; first | assumption | omega)) only [yck_of, yb_id, yPI_some, yPJ_some, yPA_some, yPV_none, yfc, yr_so, yr_ss, yfcc, yr_cs, ybif_t, yrd_1, yrd_2, yfcl, ↓c_181, ↓c_182, ↓c_183, ↓c_184, ↓c_185, ↓c_186, ↓c_187, ↓c_73, ↓c_33, ↓c_23, ↓c_170, ↓c_168, ↓if_pos, ↓if_neg, yl_lt, yl_gt, yl_eq]
        (refine w_252 ?_; simp (disch := first | trivial | assumption | omega | exact ynl rfl _ | exact znp_o rfl | rfl | (simp (disch := first | decide | omega) only [yfc, yr_so, yr_ss, yfcc, yr_cs]; first | assumption | omega)) only [yck_of, yb_id, yPI_some, yPJ_some, yPA_some, yPV_none, yfc, yr_so, yr_ss, yfcc, yr_cs, ybif_t, yrd_1, yrd_2, yfcl, ↓c_192, ↓c_193, ↓c_194, ↓c_251, ↓c_264, ↓c_191, ↓if_pos, ↓if_neg, yl_lt, yl_gt, yl_eq]; exact p_ref (by decide) (by decide) I (hQ _))
    · simp (disch := first | trivial | assumption | omega | exact ynl rfl _ | exact znp_o rfl | rfl | (simp (disch := first | decide | omega) only [yfc, yr_so, yr_ss, yfcc, yr_cs]; first | assumption | omega)) only [yck_of, yb_id, yPI_some, yPJ_some, yPA_some, yPV_none, yfc, yr_so, yr_ss, yfcc, yr_cs, ybif_t, yrd_1, yrd_2, yfcl, ↓c_181, ↓c_182, ↓c_183, ↓c_184, ↓c_185, ↓c_186, ↓c_187, ↓c_73, ↓c_33, ↓c_23, ↓c_170, ↓c_168, ↓if_pos, ↓if_neg, yl_lt, yl_gt, yl_eq]
      (refine w_252 ?_; simp (disch := first | trivial | assumption | omega | exact ynl rfl _ | exact znp_o rfl | rfl | (simp (disch := first | decide | omega) only [yfc, yr_so, yr_ss, yfcc, yr_cs]; first | assumption | omega)) only [yck_of, yb_id, yPI_some, yPJ_some, yPA_some, yPV_none, yfc, yr_so, yr_ss, yfcc, yr_cs, ybif_t, yrd_1, yrd_2, yfcl, ↓c_192, ↓c_193, ↓c_194, ↓c_251, ↓c_264, ↓c_191, ↓if_pos, ↓if_neg, yl_lt, yl_gt, yl_eq]; exact p_ref (by decide) (by decide) I (hQ _))
  · simp (disch := first | trivial | assumption | omega | exact ynl rfl _ | exact znp_o rfl | rfl | (simp (disch := first | decide | omega) only [yfc, yr_so, yr_ss, yfcc, yr_cs]; first | assumption | omega)) only [yck_of, yb_id, yPI_some, yPJ_some, yPA_some, yPV_none, yfc, yr_so, yr_ss, yfcc, yr_cs, ybif_t, yrd_1, yrd_2, yfcl, ↓c_181, ↓c_182, ↓c_183, ↓c_184, ↓c_185, ↓c_186, ↓c_187, ↓c_73, ↓c_33, ↓c_23, ↓c_170, ↓c_168, ↓if_pos, ↓if_neg, yl_lt, yl_gt, yl_eq]
    (refine w_252 ?_; simp (disch := first | trivial | assumption | omega | exact ynl rfl _ | exact znp_o rfl | rfl | (simp (disch := first | decide | omega) only [yfc, yr_so, yr_ss, yfcc, yr_cs]; first | assumption | omega)) only [yck_of, yb_id, yPI_some, yPJ_some, yPA_some, yPV_none, yfc, yr_so, yr_ss, yfcc, yr_cs, ybif_t, yrd_1, yrd_2, yfcl, ↓c_192, ↓c_193, ↓c_194, ↓c_251, ↓c_264, ↓c_191, ↓if_pos, ↓if_neg, yl_lt, yl_gt, yl_eq]; exact p_ref (by decide) (by decide) I (hQ _))
theorem p_gone (I : yInv L xs m) (hQ : ∀ r m2, yInv L xs m2 → Q r r m2) (a : Int) : zcI (d + 9) 131 [zA 3, zI a] m (fun v m1 => zcI (d + 9) 254 [zA 236, zI a] m1 (fun v2 m2 => Q v v2 m2)) := by
  obtain ⟨n1, n2, n3⟩ := I.2.2.1.1
  refine w_131 ?_
  by_cases q1 : 0 ≤ a ∧ a ≤ 2
  · skip
    have hM : ∀ v m1, zr m1 236 = zr m 236 → zcI (d + 8) 250 [zA 236, zI 2, zI (-1), zI a, zI (-1), zI (-1)] m1 (fun v2 m2 => Q v v2 m2) → zcI (d + 9) 254 [zA 236, zI a] m1 (fun v2 m2 => Q v v2 m2) := fun v m1 e h => by
      have e10 : zr m1 236 10 = zr m 8 1 := by rw [e, n1]
      refine w_254 ?_
      simp (disch := first | trivial | assumption | omega | exact ynl rfl _ | exact znp_o rfl | rfl | (simp (disch := first | decide | omega) only [yfc, yr_so, yr_ss, yfcc, yr_cs]; first | assumption | omega)) only [yck_of, yb_id, yPI_some, yPJ_some, yPA_some, yPV_none, yfc, yr_so, yr_ss, yfcc, yr_cs, ybif_t, yrd_1, yrd_2, yfcl, ↓c_192, ↓c_193, ↓c_194, ↓c_251, ↓c_264, ↓c_191, ↓if_pos, ↓if_neg, yl_lt, yl_gt, yl_eq, e10]
      exact h
    generalize hN : zr m 8 1 = N at *
    have hc := isC_l n2.1 (show N < 25 by omega)
    obtain ⟨ad, had⟩ : ∃ ad : Int → Int, ad = (fun k => if k = 0 then a else if k = 1 then (-1) else if k = 2 then (-1) else -1) := ⟨_, rfl⟩
    have e0 : ad 0 = a := by rw [had]; rfl
    have e1 : ad 1 = (-1) := by rw [had]; rfl
    have e2 : ad 2 = (-1) := by rw [had]; rfl
    have W : yWf 2 (-1) ad N := by
      unfold yWf
      rw [e0, e1, e2]
      refine ⟨?_, ?_, ?_, ?_, ?_, ?_, ?_, ?_, ?_, ?_, ?_, ?_⟩ <;> intros <;> omega
    simp (disch := first | trivial | assumption | omega | exact ynl rfl _ | exact znp_o rfl | rfl | (simp (disch := first | decide | omega) only [yfc, yr_so, yr_ss, yfcc, yr_cs]; first | assumption | omega)) only [yck_of, yb_id, yPI_some, yPJ_some, yPA_some, yPV_none, yfc, yr_so, yr_ss, yfcc, yr_cs, ybif_t, yrd_1, yrd_2, yfcl, isC_pos, isC_O, isC_t, isC_c, isC_w, isC_f, isC_I1, isC_01, isC_I2, isC_I3, isC_02, isC_03, isC_n1, isC_n2, isC_n3, isC_r1, isC_r2, isC_r3, isC_np, isC_np1, isC_np2, isC_np3, Bool.true_or, Bool.and_true, Bool.true_and, cond_true, ↓c_181, ↓c_182, ↓c_183, ↓c_184, ↓c_185, ↓c_186, ↓c_187, ↓c_73, ↓c_33, ↓c_23, ↓c_170, ↓c_168, ↓if_pos, ↓if_neg, yl_lt, yl_gt, yl_eq]
    refine d_25 (T := N) (by omega) (by omega) (by omega) (by omega) (fun M D => ?_)
    try simp only [isC_pos hc, isC_O hc, Bool.and_true, cond_true]
    refine d_2 (D (fun _ => 0) (fun _ => 0)) hc (by decide) (by decide) (fun M2 D2 => ?_)
    refine p_new (d := d) (d2 := d + 3) (kd := 2) (sg := (-1)) (a0 := a) (a1 := (-1)) (a2 := (-1)) I hQ hN had D2.1 (D2.2.1.1.trans hN) (by rw [D2.2.1.2, n3]; rfl) (yDr_R D2 ?_ ?_ ?_ ?_ ?_ ?_ ?_ ?_ ?_ ?_) ?_ W hM
    · intros; omega
    · intros; omega
    · rfl
    · intros; decide
    · intros; first | decide | omega
    · intros; exact e0.symm
    · intros; first | exact e1.symm | omega
    · intros; first | exact e2.symm | omega
    · intros; first | exact e1.symm | omega
    · intros; omega
    · intro _
      rw [D2.2.2.1.2.2.2.2.2.1, yorC (by omega), ← e0]
      rfl
  · simp (disch := first | trivial | assumption | omega | exact ynl rfl _ | exact znp_o rfl | rfl | (simp (disch := first | decide | omega) only [yfc, yr_so, yr_ss, yfcc, yr_cs]; first | assumption | omega)) only [yck_of, yb_id, yPI_some, yPJ_some, yPA_some, yPV_none, yfc, yr_so, yr_ss, yfcc, yr_cs, ybif_t, yrd_1, yrd_2, yfcl, ↓c_181, ↓c_182, ↓c_183, ↓c_184, ↓c_185, ↓c_186, ↓c_187, ↓c_73, ↓c_33, ↓c_23, ↓c_170, ↓c_168, ↓if_pos, ↓if_neg, yl_lt, yl_gt, yl_eq]
    (refine w_254 ?_; simp (disch := first | trivial | assumption | omega | exact ynl rfl _ | exact znp_o rfl | rfl | (simp (disch := first | decide | omega) only [yfc, yr_so, yr_ss, yfcc, yr_cs]; first | assumption | omega)) only [yck_of, yb_id, yPI_some, yPJ_some, yPA_some, yPV_none, yfc, yr_so, yr_ss, yfcc, yr_cs, ybif_t, yrd_1, yrd_2, yfcl, ↓c_192, ↓c_193, ↓c_194, ↓c_251, ↓c_264, ↓c_191, ↓if_pos, ↓if_neg, yl_lt, yl_gt, yl_eq]; exact p_ref (by decide) (by decide) I (hQ _))
theorem p_among (I : yInv L xs m) (hQ : ∀ r m2, yInv L xs m2 → Q r r m2) (a b : Int) (b1 : -2147483648 ≤ b) (b2 : b ≤ 2147483647) : zcI (d + 9) 130 [zA 3, zI a, zI b] m (fun v m1 => zcI (d + 9) 253 [zA 236, zI a, zI b] m1 (fun v2 m2 => Q v v2 m2)) := by
  obtain ⟨n1, n2, n3⟩ := I.2.2.1.1
  refine w_130 ?_
  by_cases q1 : 0 ≤ a ∧ a ≤ 2
  · skip
    by_cases q2 : ¬ b = 0
    · skip
      by_cases q3 : zand b (-1023) = 0
      · skip
        have hM : ∀ v m1, zr m1 236 = zr m 236 → zcI (d + 8) 250 [zA 236, zI 1, zI (-1), zI a, zI b, zI (-1)] m1 (fun v2 m2 => Q v v2 m2) → zcI (d + 9) 253 [zA 236, zI a, zI b] m1 (fun v2 m2 => Q v v2 m2) := fun v m1 e h => by
          have e10 : zr m1 236 10 = zr m 8 1 := by rw [e, n1]
          refine w_253 ?_
          simp (disch := first | trivial | assumption | omega | exact ynl rfl _ | exact znp_o rfl | rfl | (simp (disch := first | decide | omega) only [yfc, yr_so, yr_ss, yfcc, yr_cs]; first | assumption | omega)) only [yck_of, yb_id, yPI_some, yPJ_some, yPA_some, yPV_none, yfc, yr_so, yr_ss, yfcc, yr_cs, ybif_t, yrd_1, yrd_2, yfcl, ↓c_192, ↓c_193, ↓c_194, ↓c_251, ↓c_264, ↓c_191, ↓if_pos, ↓if_neg, yl_lt, yl_gt, yl_eq, e10]
          exact h
        generalize hN : zr m 8 1 = N at *
        have hc := isC_l n2.1 (show N < 25 by omega)
        obtain ⟨ad, had⟩ : ∃ ad : Int → Int, ad = (fun k => if k = 0 then a else if k = 1 then b else if k = 2 then (-1) else -1) := ⟨_, rfl⟩
        have e0 : ad 0 = a := by rw [had]; rfl
        have e1 : ad 1 = b := by rw [had]; rfl
        have e2 : ad 2 = (-1) := by rw [had]; rfl
        have yb := yland b1 b2 q3
        have W : yWf 1 (-1) ad N := by
          unfold yWf
          rw [e0, e1, e2]
          refine ⟨?_, ?_, ?_, ?_, ?_, ?_, ?_, ?_, ?_, ?_, ?_, ?_⟩ <;> intros <;> omega
        simp (disch := first | trivial | assumption | omega | exact ynl rfl _ | exact znp_o rfl | rfl | (simp (disch := first | decide | omega) only [yfc, yr_so, yr_ss, yfcc, yr_cs]; first | assumption | omega)) only [yck_of, yb_id, yPI_some, yPJ_some, yPA_some, yPV_none, yfc, yr_so, yr_ss, yfcc, yr_cs, ybif_t, yrd_1, yrd_2, yfcl, isC_pos, isC_O, isC_t, isC_c, isC_w, isC_f, isC_I1, isC_01, isC_I2, isC_I3, isC_02, isC_03, isC_n1, isC_n2, isC_n3, isC_r1, isC_r2, isC_r3, isC_np, isC_np1, isC_np2, isC_np3, Bool.true_or, Bool.and_true, Bool.true_and, cond_true, ↓c_181, ↓c_182, ↓c_183, ↓c_184, ↓c_185, ↓c_186, ↓c_187, ↓c_73, ↓c_33, ↓c_23, ↓c_170, ↓c_168, ↓if_pos, ↓if_neg, yl_lt, yl_gt, yl_eq]
        refine d_25 (T := N) (by omega) (by omega) (by omega) (by omega) (fun M D => ?_)
        try simp only [isC_pos hc, isC_O hc, Bool.and_true, cond_true]
        refine d_2 (D (fun _ => 0) (fun _ => 0)) hc (by decide) (by decide) (fun M2 D2 => ?_)
        refine p_new (d := d) (d2 := d + 3) (kd := 1) (sg := (-1)) (a0 := a) (a1 := b) (a2 := (-1)) I hQ hN had D2.1 (D2.2.1.1.trans hN) (by rw [D2.2.1.2, n3]; rfl) (yDr_R D2 ?_ ?_ ?_ ?_ ?_ ?_ ?_ ?_ ?_ ?_) ?_ W hM
        · intros; omega
        · intros; omega
        · rfl
        · intros; decide
        · intros; first | decide | omega
        · intros; exact e0.symm
        · intros; first | exact e1.symm | omega
        · intros; first | exact e2.symm | omega
        · intros; first | exact e1.symm | omega
        · intros; omega
        · intro _
          rw [D2.2.2.1.2.2.2.2.2.1, yorC (by omega), ← e0]
          rfl
      · simp (disch := first | trivial | assumption | omega | exact ynl rfl _ | exact znp_o rfl | rfl | (simp (disch := first | decide | omega) only [yfc, yr_so, yr_ss, yfcc, yr_cs]; first | assumption | omega)) only [yck_of, yb_id, yPI_some, yPJ_some, yPA_some, yPV_none, yfc, yr_so, yr_ss, yfcc, yr_cs, ybif_t, yrd_1, yrd_2, yfcl, ↓c_181, ↓c_182, ↓c_183, ↓c_184, ↓c_185, ↓c_186, ↓c_187, ↓c_73, ↓c_33, ↓c_23, ↓c_170, ↓c_168, ↓if_pos, ↓if_neg, yl_lt, yl_gt, yl_eq]
        (refine w_253 ?_; simp (disch := first | trivial | assumption | omega | exact ynl rfl _ | exact znp_o rfl | rfl | (simp (disch := first | decide | omega) only [yfc, yr_so, yr_ss, yfcc, yr_cs]; first | assumption | omega)) only [yck_of, yb_id, yPI_some, yPJ_some, yPA_some, yPV_none, yfc, yr_so, yr_ss, yfcc, yr_cs, ybif_t, yrd_1, yrd_2, yfcl, ↓c_192, ↓c_193, ↓c_194, ↓c_251, ↓c_264, ↓c_191, ↓if_pos, ↓if_neg, yl_lt, yl_gt, yl_eq]; exact p_ref (by decide) (by decide) I (hQ _))
    · simp (disch := first | trivial | assumption | omega | exact ynl rfl _ | exact znp_o rfl | rfl | (simp (disch := first | decide | omega) only [yfc, yr_so, yr_ss, yfcc, yr_cs]; first | assumption | omega)) only [yck_of, yb_id, yPI_some, yPJ_some, yPA_some, yPV_none, yfc, yr_so, yr_ss, yfcc, yr_cs, ybif_t, yrd_1, yrd_2, yfcl, ↓c_181, ↓c_182, ↓c_183, ↓c_184, ↓c_185, ↓c_186, ↓c_187, ↓c_73, ↓c_33, ↓c_23, ↓c_170, ↓c_168, ↓if_pos, ↓if_neg, yl_lt, yl_gt, yl_eq]
      (refine w_253 ?_; simp (disch := first | trivial | assumption | omega | exact ynl rfl _ | exact znp_o rfl | rfl | (simp (disch := first | decide | omega) only [yfc, yr_so, yr_ss, yfcc, yr_cs]; first | assumption | omega)) only [yck_of, yb_id, yPI_some, yPJ_some, yPA_some, yPV_none, yfc, yr_so, yr_ss, yfcc, yr_cs, ybif_t, yrd_1, yrd_2, yfcl, ↓c_192, ↓c_193, ↓c_194, ↓c_251, ↓c_264, ↓c_191, ↓if_pos, ↓if_neg, yl_lt, yl_gt, yl_eq]; exact p_ref (by decide) (by decide) I (hQ _))
  · simp (disch := first | trivial | assumption | omega | exact ynl rfl _ | exact znp_o rfl | rfl | (simp (disch := first | decide | omega) only [yfc, yr_so, yr_ss, yfcc, yr_cs]; first | assumption | omega)) only [yck_of, yb_id, yPI_some, yPJ_some, yPA_some, yPV_none, yfc, yr_so, yr_ss, yfcc, yr_cs, ybif_t, yrd_1, yrd_2, yfcl, ↓c_181, ↓c_182, ↓c_183, ↓c_184, ↓c_185, ↓c_186, ↓c_187, ↓c_73, ↓c_33, ↓c_23, ↓c_170, ↓c_168, ↓if_pos, ↓if_neg, yl_lt, yl_gt, yl_eq]
    (refine w_253 ?_; simp (disch := first | trivial | assumption | omega | exact ynl rfl _ | exact znp_o rfl | rfl | (simp (disch := first | decide | omega) only [yfc, yr_so, yr_ss, yfcc, yr_cs]; first | assumption | omega)) only [yck_of, yb_id, yPI_some, yPJ_some, yPA_some, yPV_none, yfc, yr_so, yr_ss, yfcc, yr_cs, ybif_t, yrd_1, yrd_2, yfcl, ↓c_192, ↓c_193, ↓c_194, ↓c_251, ↓c_264, ↓c_191, ↓if_pos, ↓if_neg, yl_lt, yl_gt, yl_eq]; exact p_ref (by decide) (by decide) I (hQ _))
theorem p_columns (I : yInv L xs m) (hQ : ∀ r m2, yInv L xs m2 → Q r r m2) (a b c : Int) : zcI (d + 9) 132 [zA 3, zI a, zI b, zI c] m (fun v m1 => zcI (d + 9) 255 [zA 236, zI a, zI b, zI c] m1 (fun v2 m2 => Q v v2 m2)) := by
  obtain ⟨n1, n2, n3⟩ := I.2.2.1.1
  refine w_132 ?_
  by_cases q1 : 0 ≤ a ∧ a ≤ 2
  · skip
    by_cases q2 : 0 ≤ b ∧ b ≤ 3
    · skip
      by_cases q3 : 0 ≤ c ∧ c ≤ 2
      · skip
        by_cases q4 : ¬ a = c
        · skip
          have hM : ∀ v m1, zr m1 236 = zr m 236 → zcI (d + 8) 250 [zA 236, zI 3, zI b, zI a, zI c, zI (-1)] m1 (fun v2 m2 => Q v v2 m2) → zcI (d + 9) 255 [zA 236, zI a, zI b, zI c] m1 (fun v2 m2 => Q v v2 m2) := fun v m1 e h => by
            have e10 : zr m1 236 10 = zr m 8 1 := by rw [e, n1]
            refine w_255 ?_
            simp (disch := first | trivial | assumption | omega | exact ynl rfl _ | exact znp_o rfl | rfl | (simp (disch := first | decide | omega) only [yfc, yr_so, yr_ss, yfcc, yr_cs]; first | assumption | omega)) only [yck_of, yb_id, yPI_some, yPJ_some, yPA_some, yPV_none, yfc, yr_so, yr_ss, yfcc, yr_cs, ybif_t, yrd_1, yrd_2, yfcl, ↓c_192, ↓c_193, ↓c_194, ↓c_251, ↓c_264, ↓c_191, ↓if_pos, ↓if_neg, yl_lt, yl_gt, yl_eq, e10]
            exact h
          generalize hN : zr m 8 1 = N at *
          have hc := isC_l n2.1 (show N < 25 by omega)
          obtain ⟨ad, had⟩ : ∃ ad : Int → Int, ad = (fun k => if k = 0 then a else if k = 1 then c else if k = 2 then (-1) else -1) := ⟨_, rfl⟩
          have e0 : ad 0 = a := by rw [had]; rfl
          have e1 : ad 1 = c := by rw [had]; rfl
          have e2 : ad 2 = (-1) := by rw [had]; rfl
          have W : yWf 3 b ad N := by
            unfold yWf
            rw [e0, e1, e2]
            refine ⟨?_, ?_, ?_, ?_, ?_, ?_, ?_, ?_, ?_, ?_, ?_, ?_⟩ <;> intros <;> omega
          simp (disch := first | trivial | assumption | omega | exact ynl rfl _ | exact znp_o rfl | rfl | (simp (disch := first | decide | omega) only [yfc, yr_so, yr_ss, yfcc, yr_cs]; first | assumption | omega)) only [yck_of, yb_id, yPI_some, yPJ_some, yPA_some, yPV_none, yfc, yr_so, yr_ss, yfcc, yr_cs, ybif_t, yrd_1, yrd_2, yfcl, isC_pos, isC_O, isC_t, isC_c, isC_w, isC_f, isC_I1, isC_01, isC_I2, isC_I3, isC_02, isC_03, isC_n1, isC_n2, isC_n3, isC_r1, isC_r2, isC_r3, isC_np, isC_np1, isC_np2, isC_np3, Bool.true_or, Bool.and_true, Bool.true_and, cond_true, ↓c_181, ↓c_182, ↓c_183, ↓c_184, ↓c_185, ↓c_186, ↓c_187, ↓c_73, ↓c_33, ↓c_23, ↓c_170, ↓c_168, ↓if_pos, ↓if_neg, yl_lt, yl_gt, yl_eq]
          refine d_25 (T := N) (by omega) (by omega) (by omega) (by omega) (fun M D => ?_)
          try simp only [isC_pos hc, isC_O hc, Bool.and_true, cond_true]
          refine d_2 (D (fun _ => 0) (fun _ => 0)) hc (by decide) (by decide) (fun M2 D2 => ?_)
          try simp only [isC_pos hc, isC_O hc, Bool.and_true, cond_true]
          refine d_2 D2 hc (by decide) (by decide) (fun M3 D3 => ?_)
          refine p_new (d := d) (d2 := d + 3) (kd := 3) (sg := b) (a0 := a) (a1 := c) (a2 := (-1)) I hQ hN had D3.1 (D3.2.1.1.trans hN) (by rw [D3.2.1.2, n3]; rfl) (yDr_R D3 ?_ ?_ ?_ ?_ ?_ ?_ ?_ ?_ ?_ ?_) ?_ W hM
          · intros; omega
          · intros; omega
          · rfl
          · intros; decide
          · intros; first | decide | omega
          · intros; exact e0.symm
          · intros; first | exact e1.symm | omega
          · intros; first | exact e2.symm | omega
          · intros; first | exact e1.symm | omega
          · intros; omega
          · intro _
            rw [D3.2.2.1.2.2.2.2.2.1, yorC (by omega), ← e0, ← e1]
            rfl
        · simp (disch := first | trivial | assumption | omega | exact ynl rfl _ | exact znp_o rfl | rfl | (simp (disch := first | decide | omega) only [yfc, yr_so, yr_ss, yfcc, yr_cs]; first | assumption | omega)) only [yck_of, yb_id, yPI_some, yPJ_some, yPA_some, yPV_none, yfc, yr_so, yr_ss, yfcc, yr_cs, ybif_t, yrd_1, yrd_2, yfcl, ↓c_181, ↓c_182, ↓c_183, ↓c_184, ↓c_185, ↓c_186, ↓c_187, ↓c_73, ↓c_33, ↓c_23, ↓c_170, ↓c_168, ↓if_pos, ↓if_neg, yl_lt, yl_gt, yl_eq]
          (refine w_255 ?_; simp (disch := first | trivial | assumption | omega | exact ynl rfl _ | exact znp_o rfl | rfl | (simp (disch := first | decide | omega) only [yfc, yr_so, yr_ss, yfcc, yr_cs]; first | assumption | omega)) only [yck_of, yb_id, yPI_some, yPJ_some, yPA_some, yPV_none, yfc, yr_so, yr_ss, yfcc, yr_cs, ybif_t, yrd_1, yrd_2, yfcl, ↓c_192, ↓c_193, ↓c_194, ↓c_251, ↓c_264, ↓c_191, ↓if_pos, ↓if_neg, yl_lt, yl_gt, yl_eq]; exact p_ref (by decide) (by decide) I (hQ _))
      · simp (disch := first | trivial | assumption | omega | exact ynl rfl _ | exact znp_o rfl | rfl | (simp (disch := first | decide | omega) only [yfc, yr_so, yr_ss, yfcc, yr_cs]; first | assumption | omega)) only [yck_of, yb_id, yPI_some, yPJ_some, yPA_some, yPV_none, yfc, yr_so, yr_ss, yfcc, yr_cs, ybif_t, yrd_1, yrd_2, yfcl, ↓c_181, ↓c_182, ↓c_183, ↓c_184, ↓c_185, ↓c_186, ↓c_187, ↓c_73, ↓c_33, ↓c_23, ↓c_170, ↓c_168, ↓if_pos, ↓if_neg, yl_lt, yl_gt, yl_eq]
        (refine w_255 ?_; simp (disch := first | trivial | assumption | omega | exact ynl rfl _ | exact znp_o rfl | rfl | (simp (disch := first | decide | omega) only [yfc, yr_so, yr_ss, yfcc, yr_cs]; first | assumption | omega)) only [yck_of, yb_id, yPI_some, yPJ_some, yPA_some, yPV_none, yfc, yr_so, yr_ss, yfcc, yr_cs, ybif_t, yrd_1, yrd_2, yfcl, ↓c_192, ↓c_193, ↓c_194, ↓c_251, ↓c_264, ↓c_191, ↓if_pos, ↓if_neg, yl_lt, yl_gt, yl_eq]; exact p_ref (by decide) (by decide) I (hQ _))
    · simp (disch := first | trivial | assumption | omega | exact ynl rfl _ | exact znp_o rfl | rfl | (simp (disch := first | decide | omega) only [yfc, yr_so, yr_ss, yfcc, yr_cs]; first | assumption | omega)) only [yck_of, yb_id, yPI_some, yPJ_some, yPA_some, yPV_none, yfc, yr_so, yr_ss, yfcc, yr_cs, ybif_t, yrd_1, yrd_2, yfcl, ↓c_181, ↓c_182, ↓c_183, ↓c_184, ↓c_185, ↓c_186, ↓c_187, ↓c_73, ↓c_33, ↓c_23, ↓c_170, ↓c_168, ↓if_pos, ↓if_neg, yl_lt, yl_gt, yl_eq]
      (refine w_255 ?_; simp (disch := first | trivial | assumption | omega | exact ynl rfl _ | exact znp_o rfl | rfl | (simp (disch := first | decide | omega) only [yfc, yr_so, yr_ss, yfcc, yr_cs]; first | assumption | omega)) only [yck_of, yb_id, yPI_some, yPJ_some, yPA_some, yPV_none, yfc, yr_so, yr_ss, yfcc, yr_cs, ybif_t, yrd_1, yrd_2, yfcl, ↓c_192, ↓c_193, ↓c_194, ↓c_251, ↓c_264, ↓c_191, ↓if_pos, ↓if_neg, yl_lt, yl_gt, yl_eq]; exact p_ref (by decide) (by decide) I (hQ _))
  · simp (disch := first | trivial | assumption | omega | exact ynl rfl _ | exact znp_o rfl | rfl | (simp (disch := first | decide | omega) only [yfc, yr_so, yr_ss, yfcc, yr_cs]; first | assumption | omega)) only [yck_of, yb_id, yPI_some, yPJ_some, yPA_some, yPV_none, yfc, yr_so, yr_ss, yfcc, yr_cs, ybif_t, yrd_1, yrd_2, yfcl, ↓c_181, ↓c_182, ↓c_183, ↓c_184, ↓c_185, ↓c_186, ↓c_187, ↓c_73, ↓c_33, ↓c_23, ↓c_170, ↓c_168, ↓if_pos, ↓if_neg, yl_lt, yl_gt, yl_eq]
    (refine w_255 ?_; simp (disch := first | trivial | assumption | omega | exact ynl rfl _ | exact znp_o rfl | rfl | (simp (disch := first | decide | omega) only [yfc, yr_so, yr_ss, yfcc, yr_cs]; first | assumption | omega)) only [yck_of, yb_id, yPI_some, yPJ_some, yPA_some, yPV_none, yfc, yr_so, yr_ss, yfcc, yr_cs, ybif_t, yrd_1, yrd_2, yfcl, ↓c_192, ↓c_193, ↓c_194, ↓c_251, ↓c_264, ↓c_191, ↓if_pos, ↓if_neg, yl_lt, yl_gt, yl_eq]; exact p_ref (by decide) (by decide) I (hQ _))
theorem yDr_4 {M : ZN} {T k s x y r bits n v : Int} {co wa : Int → Int} (hc : isC (10 + 4 * T)) (D : yDr m M T k s x y r bits n co wa) : yDr m (zsn M (10 + 4 * T) 4 v) T k s x y v bits n co wa := by
  obtain ⟨d1, ⟨d2, d3⟩, ⟨e0, e1, e2, e3, e4, e5, e9⟩, d5⟩ := D
  have g : 10 ≤ 10 + 4 * T := by unfold isC at hc; omega
  refine ⟨fun b b0 b1 b2 b3 => ?_, ⟨?_, ?_⟩, ⟨?_, ?_, ?_, ?_, ?_, ?_, ?_⟩, fun i i0 i1 => ?_⟩
  · rw [yfc b0]; exact d1 b b0 b1 b2 b3
  · rw [yfc (by omega)]; exact d2
  · rw [yfc (by omega)]; exact d3
  · rw [yr_so (by decide)]; exact e0
  · rw [yr_so (by decide)]; exact e1
  · rw [yr_so (by decide)]; exact e2
  · rw [yr_so (by decide)]; exact e3
  · rw [yr_ss (isC_np hc (Or.inl (by decide)))]
  · rw [yr_so (by decide)]; exact e5
  · rw [yr_so (by decide)]; exact e9
  · rw [yfc (by omega), yfc (by omega)]; exact d5 i i0 i1
theorem p_rest (I : yInv L xs m) (hQ : ∀ r m2, yInv L xs m2 → Q r r m2) (a b c : Int) : zcI (d + 9) 133 [zA 3, zI a, zI b, zI c] m (fun v m1 => zcI (d + 9) 256 [zA 236, zI a, zI b, zI c] m1 (fun v2 m2 => Q v v2 m2)) := by
  obtain ⟨n1, n2, n3⟩ := I.2.2.1.1
  refine w_133 ?_
  by_cases q1 : 0 ≤ a ∧ a ≤ 2
  · skip
    by_cases q2 : 2 ≤ b ∧ b ≤ 9
    · skip
      by_cases q3 : 0 ≤ c ∧ c ≤ b - 1
      · skip
        have hM : ∀ v m1, zr m1 236 = zr m 236 → zcI (d + 8) 250 [zA 236, zI 4, zI (-1), zI a, zI b, zI c] m1 (fun v2 m2 => Q v v2 m2) → zcI (d + 9) 256 [zA 236, zI a, zI b, zI c] m1 (fun v2 m2 => Q v v2 m2) := fun v m1 e h => by
          have e10 : zr m1 236 10 = zr m 8 1 := by rw [e, n1]
          refine w_256 ?_
          simp (disch := first | trivial | assumption | omega | exact ynl rfl _ | exact znp_o rfl | rfl | (simp (disch := first | decide | omega) only [yfc, yr_so, yr_ss, yfcc, yr_cs]; first | assumption | omega)) only [yck_of, yb_id, yPI_some, yPJ_some, yPA_some, yPV_none, yfc, yr_so, yr_ss, yfcc, yr_cs, ybif_t, yrd_1, yrd_2, yfcl, ↓c_192, ↓c_193, ↓c_194, ↓c_251, ↓c_264, ↓c_191, ↓if_pos, ↓if_neg, yl_lt, yl_gt, yl_eq, e10]
          exact h
        generalize hN : zr m 8 1 = N at *
        have hc := isC_l n2.1 (show N < 25 by omega)
        obtain ⟨ad, had⟩ : ∃ ad : Int → Int, ad = (fun k => if k = 0 then a else if k = 1 then b else if k = 2 then c else -1) := ⟨_, rfl⟩
        have e0 : ad 0 = a := by rw [had]; rfl
        have e1 : ad 1 = b := by rw [had]; rfl
        have e2 : ad 2 = c := by rw [had]; rfl
        have W : yWf 4 (-1) ad N := by
          unfold yWf
          rw [e0, e1, e2]
          refine ⟨?_, ?_, ?_, ?_, ?_, ?_, ?_, ?_, ?_, ?_, ?_, ?_⟩ <;> intros <;> omega
        simp (disch := first | trivial | assumption | omega | exact ynl rfl _ | exact znp_o rfl | rfl | (simp (disch := first | decide | omega) only [yfc, yr_so, yr_ss, yfcc, yr_cs]; first | assumption | omega)) only [yck_of, yb_id, yPI_some, yPJ_some, yPA_some, yPV_none, yfc, yr_so, yr_ss, yfcc, yr_cs, ybif_t, yrd_1, yrd_2, yfcl, isC_pos, isC_O, isC_t, isC_c, isC_w, isC_f, isC_I1, isC_01, isC_I2, isC_I3, isC_02, isC_03, isC_n1, isC_n2, isC_n3, isC_r1, isC_r2, isC_r3, isC_np, isC_np1, isC_np2, isC_np3, Bool.true_or, Bool.and_true, Bool.true_and, cond_true, ↓c_181, ↓c_182, ↓c_183, ↓c_184, ↓c_185, ↓c_186, ↓c_187, ↓c_73, ↓c_33, ↓c_23, ↓c_170, ↓c_168, ↓if_pos, ↓if_neg, yl_lt, yl_gt, yl_eq]
        refine d_25 (T := N) (by omega) (by omega) (by omega) (by omega) (fun M D => ?_)
        try simp only [isC_pos hc, isC_O hc, Bool.and_true, cond_true]
        refine d_2 (D (fun _ => 0) (fun _ => 0)) hc (by decide) (by decide) (fun M2 D2 => ?_)
        try simp only [isC_pos hc, isC_O hc, isC_np hc (Or.inl (show (0 : Int) ≤ 4 ∧ (4 : Int) < 8 by decide)), Bool.and_true, cond_true]
        have D4 := yDr_4 hc D2 (v := c)
        refine p_new (d := d) (d2 := d + 3) (kd := 4) (sg := (-1)) (a0 := a) (a1 := b) (a2 := c) I hQ hN had D4.1 (D4.2.1.1.trans hN) (by rw [D4.2.1.2, n3]; rfl) (yDr_R D4 ?_ ?_ ?_ ?_ ?_ ?_ ?_ ?_ ?_ ?_) ?_ W hM
        · intros; omega
        · intros; omega
        · rfl
        · intros; decide
        · intros; first | decide | omega
        · intros; exact e0.symm
        · intros; first | exact e1.symm | omega
        · intros; first | exact e2.symm | omega
        · intros; first | exact e1.symm | omega
        · intros; omega
        · intro _
          rw [D4.2.2.1.2.2.2.2.2.1, yorC (by omega), ← e0]
          rfl
      · simp (disch := first | trivial | assumption | omega | exact ynl rfl _ | exact znp_o rfl | rfl | (simp (disch := first | decide | omega) only [yfc, yr_so, yr_ss, yfcc, yr_cs]; first | assumption | omega)) only [yck_of, yb_id, yPI_some, yPJ_some, yPA_some, yPV_none, yfc, yr_so, yr_ss, yfcc, yr_cs, ybif_t, yrd_1, yrd_2, yfcl, ↓c_181, ↓c_182, ↓c_183, ↓c_184, ↓c_185, ↓c_186, ↓c_187, ↓c_73, ↓c_33, ↓c_23, ↓c_170, ↓c_168, ↓if_pos, ↓if_neg, yl_lt, yl_gt, yl_eq]
        (refine w_256 ?_; simp (disch := first | trivial | assumption | omega | exact ynl rfl _ | exact znp_o rfl | rfl | (simp (disch := first | decide | omega) only [yfc, yr_so, yr_ss, yfcc, yr_cs]; first | assumption | omega)) only [yck_of, yb_id, yPI_some, yPJ_some, yPA_some, yPV_none, yfc, yr_so, yr_ss, yfcc, yr_cs, ybif_t, yrd_1, yrd_2, yfcl, ↓c_192, ↓c_193, ↓c_194, ↓c_251, ↓c_264, ↓c_191, ↓if_pos, ↓if_neg, yl_lt, yl_gt, yl_eq]; exact p_ref (by decide) (by decide) I (hQ _))
    · simp (disch := first | trivial | assumption | omega | exact ynl rfl _ | exact znp_o rfl | rfl | (simp (disch := first | decide | omega) only [yfc, yr_so, yr_ss, yfcc, yr_cs]; first | assumption | omega)) only [yck_of, yb_id, yPI_some, yPJ_some, yPA_some, yPV_none, yfc, yr_so, yr_ss, yfcc, yr_cs, ybif_t, yrd_1, yrd_2, yfcl, ↓c_181, ↓c_182, ↓c_183, ↓c_184, ↓c_185, ↓c_186, ↓c_187, ↓c_73, ↓c_33, ↓c_23, ↓c_170, ↓c_168, ↓if_pos, ↓if_neg, yl_lt, yl_gt, yl_eq]
      (refine w_256 ?_; simp (disch := first | trivial | assumption | omega | exact ynl rfl _ | exact znp_o rfl | rfl | (simp (disch := first | decide | omega) only [yfc, yr_so, yr_ss, yfcc, yr_cs]; first | assumption | omega)) only [yck_of, yb_id, yPI_some, yPJ_some, yPA_some, yPV_none, yfc, yr_so, yr_ss, yfcc, yr_cs, ybif_t, yrd_1, yrd_2, yfcl, ↓c_192, ↓c_193, ↓c_194, ↓c_251, ↓c_264, ↓c_191, ↓if_pos, ↓if_neg, yl_lt, yl_gt, yl_eq]; exact p_ref (by decide) (by decide) I (hQ _))
  · simp (disch := first | trivial | assumption | omega | exact ynl rfl _ | exact znp_o rfl | rfl | (simp (disch := first | decide | omega) only [yfc, yr_so, yr_ss, yfcc, yr_cs]; first | assumption | omega)) only [yck_of, yb_id, yPI_some, yPJ_some, yPA_some, yPV_none, yfc, yr_so, yr_ss, yfcc, yr_cs, ybif_t, yrd_1, yrd_2, yfcl, ↓c_181, ↓c_182, ↓c_183, ↓c_184, ↓c_185, ↓c_186, ↓c_187, ↓c_73, ↓c_33, ↓c_23, ↓c_170, ↓c_168, ↓if_pos, ↓if_neg, yl_lt, yl_gt, yl_eq]
    (refine w_256 ?_; simp (disch := first | trivial | assumption | omega | exact ynl rfl _ | exact znp_o rfl | rfl | (simp (disch := first | decide | omega) only [yfc, yr_so, yr_ss, yfcc, yr_cs]; first | assumption | omega)) only [yck_of, yb_id, yPI_some, yPJ_some, yPA_some, yPV_none, yfc, yr_so, yr_ss, yfcc, yr_cs, ybif_t, yrd_1, yrd_2, yfcl, ↓c_192, ↓c_193, ↓c_194, ↓c_251, ↓c_264, ↓c_191, ↓if_pos, ↓if_neg, yl_lt, yl_gt, yl_eq]; exact p_ref (by decide) (by decide) I (hQ _))
theorem p_pair6 (I : yInv L xs m) (hQ : ∀ r m2, yInv L xs m2 → Q r r m2) (b c : Int) : zcI (d + 9) 135 [zA 3, zI 6, zI b, zI c] m (fun v m1 => zcI (d + 9) 259 [zA 236, zI 6, zI b, zI c] m1 (fun v2 m2 => Q v v2 m2)) := by
  obtain ⟨n1, n2, n3⟩ := I.2.2.1.1
  refine w_135 ?_
  by_cases q1 : 0 ≤ b ∧ b < zr m 8 1
  · skip
    by_cases q2 : 0 ≤ c ∧ c < zr m 8 1
    · skip
      have hM : ∀ v m1, zr m1 236 = zr m 236 → zcI (d + 8) 250 [zA 236, zI 6, zI (-1), zI b, zI c, zI (-1)] m1 (fun v2 m2 => Q v v2 m2) → zcI (d + 9) 259 [zA 236, zI 6, zI b, zI c] m1 (fun v2 m2 => Q v v2 m2) := fun v m1 e h => by
        have e10 : zr m1 236 10 = zr m 8 1 := by rw [e, n1]
        refine w_259 ?_
        simp (disch := first | trivial | assumption | omega | exact ynl rfl _ | exact znp_o rfl | rfl | (simp (disch := first | decide | omega) only [yfc, yr_so, yr_ss, yfcc, yr_cs]; first | assumption | omega)) only [yck_of, yb_id, yPI_some, yPJ_some, yPA_some, yPV_none, yfc, yr_so, yr_ss, yfcc, yr_cs, ybif_t, yrd_1, yrd_2, yfcl, ↓c_192, ↓c_193, ↓c_194, ↓c_251, ↓c_264, ↓c_191, ↓if_pos, ↓if_neg, yl_lt, yl_gt, yl_eq, e10]
        exact h
      generalize hN : zr m 8 1 = N at *
      have hc := isC_l n2.1 (show N < 25 by omega)
      obtain ⟨ad, had⟩ : ∃ ad : Int → Int, ad = (fun k => if k = 0 then b else if k = 1 then c else if k = 2 then (-1) else -1) := ⟨_, rfl⟩
      have e0 : ad 0 = b := by rw [had]; rfl
      have e1 : ad 1 = c := by rw [had]; rfl
      have e2 : ad 2 = (-1) := by rw [had]; rfl
      have W : yWf 6 (-1) ad N := by
        unfold yWf
        rw [e0, e1, e2]
        refine ⟨?_, ?_, ?_, ?_, ?_, ?_, ?_, ?_, ?_, ?_, ?_, ?_⟩ <;> intros <;> omega
      simp (disch := first | trivial | assumption | omega | exact ynl rfl _ | exact znp_o rfl | rfl | (simp (disch := first | decide | omega) only [yfc, yr_so, yr_ss, yfcc, yr_cs]; first | assumption | omega)) only [yck_of, yb_id, yPI_some, yPJ_some, yPA_some, yPV_none, yfc, yr_so, yr_ss, yfcc, yr_cs, ybif_t, yrd_1, yrd_2, yfcl, isC_pos, isC_O, isC_t, isC_c, isC_w, isC_f, isC_I1, isC_01, isC_I2, isC_I3, isC_02, isC_03, isC_n1, isC_n2, isC_n3, isC_r1, isC_r2, isC_r3, isC_np, isC_np1, isC_np2, isC_np3, Bool.true_or, Bool.and_true, Bool.true_and, cond_true, ↓c_181, ↓c_182, ↓c_183, ↓c_184, ↓c_185, ↓c_186, ↓c_187, ↓c_73, ↓c_33, ↓c_23, ↓c_170, ↓c_168, ↓if_pos, ↓if_neg, yl_lt, yl_gt, yl_eq]
      refine d_26 (T := N) (by omega) (by omega) (by omega) (by omega) (fun M D => ?_)
      have D := D (fun _ => 0) (fun _ => 0)
      refine p_new (d := d) (d2 := d + 3) (kd := 6) (sg := (-1)) (a0 := b) (a1 := c) (a2 := (-1)) I hQ hN had D.1 (D.2.1.1.trans hN) (by rw [D.2.1.2, n3]; rfl) (yDr_R D ?_ ?_ ?_ ?_ ?_ ?_ ?_ ?_ ?_ ?_) ?_ W hM
      · intro _; exact ⟨e0.symm, e1.symm⟩
      · intros; omega
      · unfold ySz; rw [if_neg (by omega), if_neg (by omega), if_neg (by omega)]
      · intros; omega
      · intros; omega
      · intros; omega
      · intros; omega
      · intros; omega
      · intros; omega
      · intros; omega
      · intros; omega
    · simp (disch := first | trivial | assumption | omega | exact ynl rfl _ | exact znp_o rfl | rfl | (simp (disch := first | decide | omega) only [yfc, yr_so, yr_ss, yfcc, yr_cs]; first | assumption | omega)) only [yck_of, yb_id, yPI_some, yPJ_some, yPA_some, yPV_none, yfc, yr_so, yr_ss, yfcc, yr_cs, ybif_t, yrd_1, yrd_2, yfcl, ↓c_181, ↓c_182, ↓c_183, ↓c_184, ↓c_185, ↓c_186, ↓c_187, ↓c_73, ↓c_33, ↓c_23, ↓c_170, ↓c_168, ↓if_pos, ↓if_neg, yl_lt, yl_gt, yl_eq]
      (refine w_259 ?_; simp (disch := first | trivial | assumption | omega | exact ynl rfl _ | exact znp_o rfl | rfl | (simp (disch := first | decide | omega) only [yfc, yr_so, yr_ss, yfcc, yr_cs]; first | assumption | omega)) only [yck_of, yb_id, yPI_some, yPJ_some, yPA_some, yPV_none, yfc, yr_so, yr_ss, yfcc, yr_cs, ybif_t, yrd_1, yrd_2, yfcl, ↓c_192, ↓c_193, ↓c_194, ↓c_251, ↓c_264, ↓c_191, ↓if_pos, ↓if_neg, yl_lt, yl_gt, yl_eq]; exact p_ref (by decide) (by decide) I (hQ _))
  · simp (disch := first | trivial | assumption | omega | exact ynl rfl _ | exact znp_o rfl | rfl | (simp (disch := first | decide | omega) only [yfc, yr_so, yr_ss, yfcc, yr_cs]; first | assumption | omega)) only [yck_of, yb_id, yPI_some, yPJ_some, yPA_some, yPV_none, yfc, yr_so, yr_ss, yfcc, yr_cs, ybif_t, yrd_1, yrd_2, yfcl, ↓c_181, ↓c_182, ↓c_183, ↓c_184, ↓c_185, ↓c_186, ↓c_187, ↓c_73, ↓c_33, ↓c_23, ↓c_170, ↓c_168, ↓if_pos, ↓if_neg, yl_lt, yl_gt, yl_eq]
    (refine w_259 ?_; simp (disch := first | trivial | assumption | omega | exact ynl rfl _ | exact znp_o rfl | rfl | (simp (disch := first | decide | omega) only [yfc, yr_so, yr_ss, yfcc, yr_cs]; first | assumption | omega)) only [yck_of, yb_id, yPI_some, yPJ_some, yPA_some, yPV_none, yfc, yr_so, yr_ss, yfcc, yr_cs, ybif_t, yrd_1, yrd_2, yfcl, ↓c_192, ↓c_193, ↓c_194, ↓c_251, ↓c_264, ↓c_191, ↓if_pos, ↓if_neg, yl_lt, yl_gt, yl_eq]; exact p_ref (by decide) (by decide) I (hQ _))
theorem p_pair7 (I : yInv L xs m) (hQ : ∀ r m2, yInv L xs m2 → Q r r m2) (b c : Int) : zcI (d + 9) 135 [zA 3, zI 7, zI b, zI c] m (fun v m1 => zcI (d + 9) 259 [zA 236, zI 7, zI b, zI c] m1 (fun v2 m2 => Q v v2 m2)) := by
  obtain ⟨n1, n2, n3⟩ := I.2.2.1.1
  refine w_135 ?_
  by_cases q1 : 0 ≤ b ∧ b < zr m 8 1
  · skip
    by_cases q2 : 0 ≤ c ∧ c < zr m 8 1
    · skip
      have hM : ∀ v m1, zr m1 236 = zr m 236 → zcI (d + 8) 250 [zA 236, zI 7, zI (-1), zI b, zI c, zI (-1)] m1 (fun v2 m2 => Q v v2 m2) → zcI (d + 9) 259 [zA 236, zI 7, zI b, zI c] m1 (fun v2 m2 => Q v v2 m2) := fun v m1 e h => by
        have e10 : zr m1 236 10 = zr m 8 1 := by rw [e, n1]
        refine w_259 ?_
        simp (disch := first | trivial | assumption | omega | exact ynl rfl _ | exact znp_o rfl | rfl | (simp (disch := first | decide | omega) only [yfc, yr_so, yr_ss, yfcc, yr_cs]; first | assumption | omega)) only [yck_of, yb_id, yPI_some, yPJ_some, yPA_some, yPV_none, yfc, yr_so, yr_ss, yfcc, yr_cs, ybif_t, yrd_1, yrd_2, yfcl, ↓c_192, ↓c_193, ↓c_194, ↓c_251, ↓c_264, ↓c_191, ↓if_pos, ↓if_neg, yl_lt, yl_gt, yl_eq, e10]
        exact h
      generalize hN : zr m 8 1 = N at *
      have hc := isC_l n2.1 (show N < 25 by omega)
      obtain ⟨ad, had⟩ : ∃ ad : Int → Int, ad = (fun k => if k = 0 then b else if k = 1 then c else if k = 2 then (-1) else -1) := ⟨_, rfl⟩
      have e0 : ad 0 = b := by rw [had]; rfl
      have e1 : ad 1 = c := by rw [had]; rfl
      have e2 : ad 2 = (-1) := by rw [had]; rfl
      have W : yWf 7 (-1) ad N := by
        unfold yWf
        rw [e0, e1, e2]
        refine ⟨?_, ?_, ?_, ?_, ?_, ?_, ?_, ?_, ?_, ?_, ?_, ?_⟩ <;> intros <;> omega
      simp (disch := first | trivial | assumption | omega | exact ynl rfl _ | exact znp_o rfl | rfl | (simp (disch := first | decide | omega) only [yfc, yr_so, yr_ss, yfcc, yr_cs]; first | assumption | omega)) only [yck_of, yb_id, yPI_some, yPJ_some, yPA_some, yPV_none, yfc, yr_so, yr_ss, yfcc, yr_cs, ybif_t, yrd_1, yrd_2, yfcl, isC_pos, isC_O, isC_t, isC_c, isC_w, isC_f, isC_I1, isC_01, isC_I2, isC_I3, isC_02, isC_03, isC_n1, isC_n2, isC_n3, isC_r1, isC_r2, isC_r3, isC_np, isC_np1, isC_np2, isC_np3, Bool.true_or, Bool.and_true, Bool.true_and, cond_true, ↓c_181, ↓c_182, ↓c_183, ↓c_184, ↓c_185, ↓c_186, ↓c_187, ↓c_73, ↓c_33, ↓c_23, ↓c_170, ↓c_168, ↓if_pos, ↓if_neg, yl_lt, yl_gt, yl_eq]
      refine d_26 (T := N) (by omega) (by omega) (by omega) (by omega) (fun M D => ?_)
      have D := D (fun _ => 0) (fun _ => 0)
      refine p_new (d := d) (d2 := d + 3) (kd := 7) (sg := (-1)) (a0 := b) (a1 := c) (a2 := (-1)) I hQ hN had D.1 (D.2.1.1.trans hN) (by rw [D.2.1.2, n3]; rfl) (yDr_R D ?_ ?_ ?_ ?_ ?_ ?_ ?_ ?_ ?_ ?_) ?_ W hM
      · intro _; exact ⟨e0.symm, e1.symm⟩
      · intros; omega
      · unfold ySz; rw [if_neg (by omega), if_neg (by omega), if_neg (by omega)]
      · intros; omega
      · intros; omega
      · intros; omega
      · intros; omega
      · intros; omega
      · intros; omega
      · intros; omega
      · intros; omega
    · simp (disch := first | trivial | assumption | omega | exact ynl rfl _ | exact znp_o rfl | rfl | (simp (disch := first | decide | omega) only [yfc, yr_so, yr_ss, yfcc, yr_cs]; first | assumption | omega)) only [yck_of, yb_id, yPI_some, yPJ_some, yPA_some, yPV_none, yfc, yr_so, yr_ss, yfcc, yr_cs, ybif_t, yrd_1, yrd_2, yfcl, ↓c_181, ↓c_182, ↓c_183, ↓c_184, ↓c_185, ↓c_186, ↓c_187, ↓c_73, ↓c_33, ↓c_23, ↓c_170, ↓c_168, ↓if_pos, ↓if_neg, yl_lt, yl_gt, yl_eq]
      (refine w_259 ?_; simp (disch := first | trivial | assumption | omega | exact ynl rfl _ | exact znp_o rfl | rfl | (simp (disch := first | decide | omega) only [yfc, yr_so, yr_ss, yfcc, yr_cs]; first | assumption | omega)) only [yck_of, yb_id, yPI_some, yPJ_some, yPA_some, yPV_none, yfc, yr_so, yr_ss, yfcc, yr_cs, ybif_t, yrd_1, yrd_2, yfcl, ↓c_192, ↓c_193, ↓c_194, ↓c_251, ↓c_264, ↓c_191, ↓if_pos, ↓if_neg, yl_lt, yl_gt, yl_eq]; exact p_ref (by decide) (by decide) I (hQ _))
  · simp (disch := first | trivial | assumption | omega | exact ynl rfl _ | exact znp_o rfl | rfl | (simp (disch := first | decide | omega) only [yfc, yr_so, yr_ss, yfcc, yr_cs]; first | assumption | omega)) only [yck_of, yb_id, yPI_some, yPJ_some, yPA_some, yPV_none, yfc, yr_so, yr_ss, yfcc, yr_cs, ybif_t, yrd_1, yrd_2, yfcl, ↓c_181, ↓c_182, ↓c_183, ↓c_184, ↓c_185, ↓c_186, ↓c_187, ↓c_73, ↓c_33, ↓c_23, ↓c_170, ↓c_168, ↓if_pos, ↓if_neg, yl_lt, yl_gt, yl_eq]
    (refine w_259 ?_; simp (disch := first | trivial | assumption | omega | exact ynl rfl _ | exact znp_o rfl | rfl | (simp (disch := first | decide | omega) only [yfc, yr_so, yr_ss, yfcc, yr_cs]; first | assumption | omega)) only [yck_of, yb_id, yPI_some, yPJ_some, yPA_some, yPV_none, yfc, yr_so, yr_ss, yfcc, yr_cs, ybif_t, yrd_1, yrd_2, yfcl, ↓c_192, ↓c_193, ↓c_194, ↓c_251, ↓c_264, ↓c_191, ↓if_pos, ↓if_neg, yl_lt, yl_gt, yl_eq]; exact p_ref (by decide) (by decide) I (hQ _))
theorem p_turn8 (I : yInv L xs m) (hQ : ∀ r m2, yInv L xs m2 → Q r r m2) (b : Int) : zcI (d + 9) 136 [zA 3, zI 8, zI b] m (fun v m1 => zcI (d + 9) 260 [zA 236, zI 8, zI b] m1 (fun v2 m2 => Q v v2 m2)) := by
  obtain ⟨n1, n2, n3⟩ := I.2.2.1.1
  refine w_136 ?_
  by_cases q1 : 0 ≤ b ∧ b < zr m 8 1
  · skip
    have hM : ∀ v m1, zr m1 236 = zr m 236 → zcI (d + 8) 250 [zA 236, zI 8, zI (-1), zI b, zI (-1), zI (-1)] m1 (fun v2 m2 => Q v v2 m2) → zcI (d + 9) 260 [zA 236, zI 8, zI b] m1 (fun v2 m2 => Q v v2 m2) := fun v m1 e h => by
      have e10 : zr m1 236 10 = zr m 8 1 := by rw [e, n1]
      refine w_260 ?_
      simp (disch := first | trivial | assumption | omega | exact ynl rfl _ | exact znp_o rfl | rfl | (simp (disch := first | decide | omega) only [yfc, yr_so, yr_ss, yfcc, yr_cs]; first | assumption | omega)) only [yck_of, yb_id, yPI_some, yPJ_some, yPA_some, yPV_none, yfc, yr_so, yr_ss, yfcc, yr_cs, ybif_t, yrd_1, yrd_2, yfcl, ↓c_192, ↓c_193, ↓c_194, ↓c_251, ↓c_264, ↓c_191, ↓if_pos, ↓if_neg, yl_lt, yl_gt, yl_eq, e10]
      exact h
    generalize hN : zr m 8 1 = N at *
    have hc := isC_l n2.1 (show N < 25 by omega)
    obtain ⟨ad, had⟩ : ∃ ad : Int → Int, ad = (fun k => if k = 0 then b else if k = 1 then (-1) else if k = 2 then (-1) else -1) := ⟨_, rfl⟩
    have e0 : ad 0 = b := by rw [had]; rfl
    have e1 : ad 1 = (-1) := by rw [had]; rfl
    have e2 : ad 2 = (-1) := by rw [had]; rfl
    have W : yWf 8 (-1) ad N := by
      unfold yWf
      rw [e0, e1, e2]
      refine ⟨?_, ?_, ?_, ?_, ?_, ?_, ?_, ?_, ?_, ?_, ?_, ?_⟩ <;> intros <;> omega
    simp (disch := first | trivial | assumption | omega | exact ynl rfl _ | exact znp_o rfl | rfl | (simp (disch := first | decide | omega) only [yfc, yr_so, yr_ss, yfcc, yr_cs]; first | assumption | omega)) only [yck_of, yb_id, yPI_some, yPJ_some, yPA_some, yPV_none, yfc, yr_so, yr_ss, yfcc, yr_cs, ybif_t, yrd_1, yrd_2, yfcl, isC_pos, isC_O, isC_t, isC_c, isC_w, isC_f, isC_I1, isC_01, isC_I2, isC_I3, isC_02, isC_03, isC_n1, isC_n2, isC_n3, isC_r1, isC_r2, isC_r3, isC_np, isC_np1, isC_np2, isC_np3, Bool.true_or, Bool.and_true, Bool.true_and, cond_true, ↓c_181, ↓c_182, ↓c_183, ↓c_184, ↓c_185, ↓c_186, ↓c_187, ↓c_73, ↓c_33, ↓c_23, ↓c_170, ↓c_168, ↓if_pos, ↓if_neg, yl_lt, yl_gt, yl_eq]
    refine d_26 (T := N) (by omega) (by omega) (by omega) (by omega) (fun M D => ?_)
    have D := D (fun _ => 0) (fun _ => 0)
    refine p_new (d := d) (d2 := d + 3) (kd := 8) (sg := (-1)) (a0 := b) (a1 := (-1)) (a2 := (-1)) I hQ hN had D.1 (D.2.1.1.trans hN) (by rw [D.2.1.2, n3]; rfl) (yDr_R D ?_ ?_ ?_ ?_ ?_ ?_ ?_ ?_ ?_ ?_) ?_ W hM
    · intro _; exact ⟨e0.symm, e1.symm⟩
    · intros; omega
    · unfold ySz; rw [if_neg (by omega), if_neg (by omega), if_neg (by omega)]
    · intros; omega
    · intros; omega
    · intros; omega
    · intros; omega
    · intros; omega
    · intros; omega
    · intros; omega
    · intros; omega
  · simp (disch := first | trivial | assumption | omega | exact ynl rfl _ | exact znp_o rfl | rfl | (simp (disch := first | decide | omega) only [yfc, yr_so, yr_ss, yfcc, yr_cs]; first | assumption | omega)) only [yck_of, yb_id, yPI_some, yPJ_some, yPA_some, yPV_none, yfc, yr_so, yr_ss, yfcc, yr_cs, ybif_t, yrd_1, yrd_2, yfcl, ↓c_181, ↓c_182, ↓c_183, ↓c_184, ↓c_185, ↓c_186, ↓c_187, ↓c_73, ↓c_33, ↓c_23, ↓c_170, ↓c_168, ↓if_pos, ↓if_neg, yl_lt, yl_gt, yl_eq]
    (refine w_260 ?_; simp (disch := first | trivial | assumption | omega | exact ynl rfl _ | exact znp_o rfl | rfl | (simp (disch := first | decide | omega) only [yfc, yr_so, yr_ss, yfcc, yr_cs]; first | assumption | omega)) only [yck_of, yb_id, yPI_some, yPJ_some, yPA_some, yPV_none, yfc, yr_so, yr_ss, yfcc, yr_cs, ybif_t, yrd_1, yrd_2, yfcl, ↓c_192, ↓c_193, ↓c_194, ↓c_251, ↓c_264, ↓c_191, ↓if_pos, ↓if_neg, yl_lt, yl_gt, yl_eq]; exact p_ref (by decide) (by decide) I (hQ _))
theorem p_turn9 (I : yInv L xs m) (hQ : ∀ r m2, yInv L xs m2 → Q r r m2) (b : Int) : zcI (d + 9) 136 [zA 3, zI 9, zI b] m (fun v m1 => zcI (d + 9) 260 [zA 236, zI 9, zI b] m1 (fun v2 m2 => Q v v2 m2)) := by
  obtain ⟨n1, n2, n3⟩ := I.2.2.1.1
  refine w_136 ?_
  by_cases q1 : 0 ≤ b ∧ b < zr m 8 1
  · skip
    have hM : ∀ v m1, zr m1 236 = zr m 236 → zcI (d + 8) 250 [zA 236, zI 9, zI (-1), zI b, zI (-1), zI (-1)] m1 (fun v2 m2 => Q v v2 m2) → zcI (d + 9) 260 [zA 236, zI 9, zI b] m1 (fun v2 m2 => Q v v2 m2) := fun v m1 e h => by
      have e10 : zr m1 236 10 = zr m 8 1 := by rw [e, n1]
      refine w_260 ?_
      simp (disch := first | trivial | assumption | omega | exact ynl rfl _ | exact znp_o rfl | rfl | (simp (disch := first | decide | omega) only [yfc, yr_so, yr_ss, yfcc, yr_cs]; first | assumption | omega)) only [yck_of, yb_id, yPI_some, yPJ_some, yPA_some, yPV_none, yfc, yr_so, yr_ss, yfcc, yr_cs, ybif_t, yrd_1, yrd_2, yfcl, ↓c_192, ↓c_193, ↓c_194, ↓c_251, ↓c_264, ↓c_191, ↓if_pos, ↓if_neg, yl_lt, yl_gt, yl_eq, e10]
      exact h
    generalize hN : zr m 8 1 = N at *
    have hc := isC_l n2.1 (show N < 25 by omega)
    obtain ⟨ad, had⟩ : ∃ ad : Int → Int, ad = (fun k => if k = 0 then b else if k = 1 then (-1) else if k = 2 then (-1) else -1) := ⟨_, rfl⟩
    have e0 : ad 0 = b := by rw [had]; rfl
    have e1 : ad 1 = (-1) := by rw [had]; rfl
    have e2 : ad 2 = (-1) := by rw [had]; rfl
    have W : yWf 9 (-1) ad N := by
      unfold yWf
      rw [e0, e1, e2]
      refine ⟨?_, ?_, ?_, ?_, ?_, ?_, ?_, ?_, ?_, ?_, ?_, ?_⟩ <;> intros <;> omega
    simp (disch := first | trivial | assumption | omega | exact ynl rfl _ | exact znp_o rfl | rfl | (simp (disch := first | decide | omega) only [yfc, yr_so, yr_ss, yfcc, yr_cs]; first | assumption | omega)) only [yck_of, yb_id, yPI_some, yPJ_some, yPA_some, yPV_none, yfc, yr_so, yr_ss, yfcc, yr_cs, ybif_t, yrd_1, yrd_2, yfcl, isC_pos, isC_O, isC_t, isC_c, isC_w, isC_f, isC_I1, isC_01, isC_I2, isC_I3, isC_02, isC_03, isC_n1, isC_n2, isC_n3, isC_r1, isC_r2, isC_r3, isC_np, isC_np1, isC_np2, isC_np3, Bool.true_or, Bool.and_true, Bool.true_and, cond_true, ↓c_181, ↓c_182, ↓c_183, ↓c_184, ↓c_185, ↓c_186, ↓c_187, ↓c_73, ↓c_33, ↓c_23, ↓c_170, ↓c_168, ↓if_pos, ↓if_neg, yl_lt, yl_gt, yl_eq]
    refine d_26 (T := N) (by omega) (by omega) (by omega) (by omega) (fun M D => ?_)
    have D := D (fun _ => 0) (fun _ => 0)
    refine p_new (d := d) (d2 := d + 3) (kd := 9) (sg := (-1)) (a0 := b) (a1 := (-1)) (a2 := (-1)) I hQ hN had D.1 (D.2.1.1.trans hN) (by rw [D.2.1.2, n3]; rfl) (yDr_R D ?_ ?_ ?_ ?_ ?_ ?_ ?_ ?_ ?_ ?_) ?_ W hM
    · intro _; exact ⟨e0.symm, e1.symm⟩
    · intros; omega
    · unfold ySz; rw [if_neg (by omega), if_neg (by omega), if_neg (by omega)]
    · intros; omega
    · intros; omega
    · intros; omega
    · intros; omega
    · intros; omega
    · intros; omega
    · intros; omega
    · intros; omega
  · simp (disch := first | trivial | assumption | omega | exact ynl rfl _ | exact znp_o rfl | rfl | (simp (disch := first | decide | omega) only [yfc, yr_so, yr_ss, yfcc, yr_cs]; first | assumption | omega)) only [yck_of, yb_id, yPI_some, yPJ_some, yPA_some, yPV_none, yfc, yr_so, yr_ss, yfcc, yr_cs, ybif_t, yrd_1, yrd_2, yfcl, ↓c_181, ↓c_182, ↓c_183, ↓c_184, ↓c_185, ↓c_186, ↓c_187, ↓c_73, ↓c_33, ↓c_23, ↓c_170, ↓c_168, ↓if_pos, ↓if_neg, yl_lt, yl_gt, yl_eq]
    (refine w_260 ?_; simp (disch := first | trivial | assumption | omega | exact ynl rfl _ | exact znp_o rfl | rfl | (simp (disch := first | decide | omega) only [yfc, yr_so, yr_ss, yfcc, yr_cs]; first | assumption | omega)) only [yck_of, yb_id, yPI_some, yPJ_some, yPA_some, yPV_none, yfc, yr_so, yr_ss, yfcc, yr_cs, ybif_t, yrd_1, yrd_2, yfcl, ↓c_192, ↓c_193, ↓c_194, ↓c_251, ↓c_264, ↓c_191, ↓if_pos, ↓if_neg, yl_lt, yl_gt, yl_eq]; exact p_ref (by decide) (by decide) I (hQ _))
theorem p_pair (I : yInv L xs m) (hQ : ∀ r m2, yInv L xs m2 → Q r r m2) (a b c : Int) : zcI (d + 9) 135 [zA 3, zI a, zI b, zI c] m (fun v m1 => zcI (d + 9) 259 [zA 236, zI a, zI b, zI c] m1 (fun v2 m2 => Q v v2 m2)) := by
  obtain ⟨n1, n2, n3⟩ := I.2.2.1.1
  by_cases q1 : a = 6
  · subst q1
    exact p_pair6 I hQ b c
  · by_cases q2 : a = 7
    · subst q2
      exact p_pair7 I hQ b c
    · refine w_135 ?_
      simp (disch := first | trivial | assumption | omega | exact ynl rfl _ | exact znp_o rfl | rfl | (simp (disch := first | decide | omega) only [yfc, yr_so, yr_ss, yfcc, yr_cs]; first | assumption | omega)) only [yck_of, yb_id, yPI_some, yPJ_some, yPA_some, yPV_none, yfc, yr_so, yr_ss, yfcc, yr_cs, ybif_t, yrd_1, yrd_2, yfcl, ↓c_181, ↓c_182, ↓c_183, ↓c_184, ↓c_185, ↓c_186, ↓c_187, ↓c_73, ↓c_33, ↓c_23, ↓c_170, ↓c_168, ↓if_pos, ↓if_neg, yl_lt, yl_gt, yl_eq]
      (refine w_259 ?_; simp (disch := first | trivial | assumption | omega | exact ynl rfl _ | exact znp_o rfl | rfl | (simp (disch := first | decide | omega) only [yfc, yr_so, yr_ss, yfcc, yr_cs]; first | assumption | omega)) only [yck_of, yb_id, yPI_some, yPJ_some, yPA_some, yPV_none, yfc, yr_so, yr_ss, yfcc, yr_cs, ybif_t, yrd_1, yrd_2, yfcl, ↓c_192, ↓c_193, ↓c_194, ↓c_251, ↓c_264, ↓c_191, ↓if_pos, ↓if_neg, yl_lt, yl_gt, yl_eq]; exact p_ref (by decide) (by decide) I (hQ _))
theorem p_turn (I : yInv L xs m) (hQ : ∀ r m2, yInv L xs m2 → Q r r m2) (a b : Int) : zcI (d + 9) 136 [zA 3, zI a, zI b] m (fun v m1 => zcI (d + 9) 260 [zA 236, zI a, zI b] m1 (fun v2 m2 => Q v v2 m2)) := by
  obtain ⟨n1, n2, n3⟩ := I.2.2.1.1
  by_cases q1 : a = 8
  · subst q1
    exact p_turn8 I hQ b
  · by_cases q2 : a = 9
    · subst q2
      exact p_turn9 I hQ b
    · refine w_136 ?_
      simp (disch := first | trivial | assumption | omega | exact ynl rfl _ | exact znp_o rfl | rfl | (simp (disch := first | decide | omega) only [yfc, yr_so, yr_ss, yfcc, yr_cs]; first | assumption | omega)) only [yck_of, yb_id, yPI_some, yPJ_some, yPA_some, yPV_none, yfc, yr_so, yr_ss, yfcc, yr_cs, ybif_t, yrd_1, yrd_2, yfcl, ↓c_181, ↓c_182, ↓c_183, ↓c_184, ↓c_185, ↓c_186, ↓c_187, ↓c_73, ↓c_33, ↓c_23, ↓c_170, ↓c_168, ↓if_pos, ↓if_neg, yl_lt, yl_gt, yl_eq]
      (refine w_260 ?_; simp (disch := first | trivial | assumption | omega | exact ynl rfl _ | exact znp_o rfl | rfl | (simp (disch := first | decide | omega) only [yfc, yr_so, yr_ss, yfcc, yr_cs]; first | assumption | omega)) only [yck_of, yb_id, yPI_some, yPJ_some, yPA_some, yPV_none, yfc, yr_so, yr_ss, yfcc, yr_cs, ybif_t, yrd_1, yrd_2, yfcl, ↓c_192, ↓c_193, ↓c_194, ↓c_251, ↓c_264, ↓c_191, ↓if_pos, ↓if_neg, yl_lt, yl_gt, yl_eq]; exact p_ref (by decide) (by decide) I (hQ _))
end PG
