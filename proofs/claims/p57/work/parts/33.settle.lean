/-! ===== conditions drafted and settled, in the class ===== -/
theorem yi2b : ∀ n : Nat, n < 3 → zi2b n = n := by decide +kernel
theorem yi2bI {x : Int} (h : 0 ≤ x ∧ x ≤ 2) : zi2b x = x := by
  obtain ⟨n, rfl⟩ := Int.eq_ofNat_of_zero_le h.1
  exact yi2b n (by omega)
section YG
variable {d : Nat} {m : ZN}
theorem c_1 {a k s x y : Int} (hc : isC a) (K : ZN → Prop) : zcV d 1 [zA a, zI k, zI s, zI x, zI y] m K = K (zsn (zsn (zsn (zsn (zsn (zsn (zsn m a 0 k) a 1 s) a 2 x) a 3 y) a 4 0) a 5 0) a 9 0) := by
  refine zcV_eq (w_1 ?_) K
  simp (disch := first | trivial | assumption | omega | exact ynl rfl _ | exact znp_o rfl | rfl | (simp (disch := first | decide | omega) only [yfc, yr_so, yr_ss, yfcc, yr_cs]; first | assumption | omega)) only [yck_of, yb_id, yPI_some, yPJ_some, yPA_some, yPV_none, yfc, yr_so, yr_ss, yfcc, yr_cs, ybif_t, yrd_1, yrd_2, yfcl, isC_pos, isC_O, isC_t, isC_c, isC_w, isC_f, isC_I1, isC_01, isC_I2, isC_I3, isC_02, isC_03, isC_n1, isC_n2, isC_n3, isC_r1, isC_r2, isC_r3, isC_np, isC_np1, isC_np2, isC_np3, Bool.true_or, Bool.and_true, Bool.true_and, cond_true]
theorem c_2 {a c w : Int} (hc : isC a) (h1 : 0 ≤ zr m a 9) (h2 : zr m a 9 < 3) (K : ZN → Prop) : zcV d 2 [zA a, zI c, zI w] m K = K (zsn (zsn (zsn (zsn m (a + 2) (zr m a 9) c) (a + 3) (zr m a 9) w) a 5 (zor (zr m a 5) (zshl 1 c))) a 9 (zr m a 9 + 1)) := by
  have ha : 10 ≤ a := by unfold isC at hc; omega
  have e2 : ∀ j, zr (zsn m (a + 2) (zr m a 9) c) a j = zr m a j := fun j => yr_sc (by omega)
  refine zcV_eq (w_2 ?_) K
  simp (disch := first | trivial | assumption | omega | exact ynl rfl _ | exact znp_o rfl | rfl | (simp (disch := first | decide | omega) only [yfc, yr_so, yr_ss, yfcc, yr_cs]; first | assumption | omega)) only [yck_of, yb_id, yPI_some, yPJ_some, yPA_some, yPV_none, yfc, yr_so, yr_ss, yfcc, yr_cs, ybif_t, yrd_1, yrd_2, yfcl, isC_pos, isC_O, isC_t, isC_c, isC_w, isC_f, isC_I1, isC_01, isC_I2, isC_I3, isC_02, isC_03, isC_n1, isC_n2, isC_n3, isC_r1, isC_r2, isC_r3, isC_np, isC_np1, isC_np2, isC_np3, Bool.true_or, Bool.and_true, Bool.true_and, cond_true, ↓if_pos]
/-- a leaf is worked out -/
theorem c_7 {a n kd sg i : Int} {ad : Int → Int} (hc : isC a) (R : yCR (zr m a) (zr m (a + 2)) (zr m (a + 3)) kd sg ad) (W : yWf kd sg ad i) (h5 : kd ≤ 5) (K : ZN → Prop) : zcV (d + 3) 7 [zA a, zI n] m K = K (zcc (zsn (zsn m a 6 0) a 7 (zshl 1 n)) (a + 1) (yPk (zr m (a + 1)) (yleaf kd sg ad) 1000)) := by
  have ha : 10 ≤ a := by unfold isC at hc; omega
  have np1 := isC_np1 hc
  refine zcV_eq (w_7 ?_) K
  simp (disch := first | trivial | assumption | omega | exact ynl rfl _ | exact znp_o rfl | rfl | (simp (disch := first | decide | omega) only [yfc, yr_so, yr_ss, yfcc, yr_cs]; first | assumption | omega)) only [yck_of, yb_id, yPI_some, yPJ_some, yPA_some, yPV_none, yfc, yr_so, yr_ss, yfcc, yr_cs, ybif_t, yrd_1, yrd_2, yfcl, isC_pos, isC_O, isC_t, isC_c, isC_w, isC_f, isC_I1, isC_01, isC_I2, isC_I3, isC_02, isC_03, isC_n1, isC_n2, isC_n3, isC_r1, isC_r2, isC_r3, isC_np, isC_np1, isC_np2, isC_np3, Bool.true_or, Bool.and_true, Bool.true_and, cond_true]
  have e0 : zsn (zsn m a 6 0) a 7 (zshl 1 n) = zcc (zsn (zsn m a 6 0) a 7 (zshl 1 n)) (a + 1) (yPk (zr m (a + 1)) (yleaf kd sg ad) 0) := by
    rw [ycc_F (G := zr (zsn (zsn m a 6 0) a 7 (zshl 1 n)) (a + 1)) (fun p => by rw [yPk_0, yr_sc (by omega), yr_sc (by omega)]), ycc_id np1]
  have key := yfor (fun k => zwpN (d + 3) 7 14 [some (zA a), some (zI n), some (zI k)] [] (zcc (zsn (zsn m a 6 0) a 7 (zshl 1 n)) (a + 1) (yPk (zr m (a + 1)) (yleaf kd sg ad) k)) (zPV fun m1 => m1 = zcc (zsn (zsn m a 6 0) a 7 (zshl 1 n)) (a + 1) (yPk (zr m (a + 1)) (yleaf kd sg ad) 1000))) 0 1000 (by decide) (fun k k0 k1 hW => ?_) ?_
  · rw [← e0] at key
    exact key
  · refine w_7_14 ?_
    have e1 : zr (zcc (zsn (zsn m a 6 0) a 7 (zshl 1 n)) (a + 1) (yPk (zr m (a + 1)) (yleaf kd sg ad) k)) (a + 1) (k / 16) = yPk (zr m (a + 1)) (yleaf kd sg ad) k (k / 16) := yr_cs (np1 _)
    generalize hM : zcc (zsn (zsn m a 6 0) a 7 (zshl 1 n)) (a + 1) (yPk (zr m (a + 1)) (yleaf kd sg ad) k) = M at e1
    have f2 : zr M (a + 2) = zr m (a + 2) := by rw [← hM, yfcc (by omega), yfc (by omega), yfc (by omega)]
    have f3 : zr M (a + 3) = zr m (a + 3) := by rw [← hM, yfcc (by omega), yfc (by omega), yfc (by omega)]
    have f0 : ∀ j, j ≠ 6 → j ≠ 7 → zr M a j = zr m a j := fun j h6 h7 => by rw [← hM, yr_cc (by omega), yr_so h7, yr_so h6]
    have R2 : yCR (zr M a) (zr M (a + 2)) (zr M (a + 3)) kd sg ad := by
      rw [f2, f3]
      unfold yCR
      rw [f0 0 (by decide) (by decide), f0 1 (by decide) (by decide), f0 2 (by decide) (by decide), f0 3 (by decide) (by decide), f0 4 (by decide) (by decide), f0 9 (by decide) (by decide)]
      exact R
    rw [if_pos k1]
    simp (disch := first | trivial | assumption | omega | exact ynl rfl _ | exact znp_o rfl | rfl | (simp (disch := first | decide | omega) only [yfc, yr_so, yr_ss, yfcc, yr_cs]; first | assumption | omega)) only [yck_of, yb_id, yPI_some, yPJ_some, yPA_some, yPV_none, yfc, yr_so, yr_ss, yfcc, yr_cs, ybif_t, yrd_1, yrd_2, yfcl, isC_pos, isC_O, isC_t, isC_c, isC_w, isC_f, isC_I1, isC_01, isC_I2, isC_I3, isC_02, isC_03, isC_n1, isC_n2, isC_n3, isC_r1, isC_r2, isC_r3, isC_np, isC_np1, isC_np2, isC_np3, Bool.true_or, Bool.and_true, Bool.true_and, cond_true, ↓c_9 (kd := kd) (sg := sg) (ad := ad) (i := i), ↓c_320, e1]
    rw [← hM, ycc_sn np1, ycc_F (G := yPk (zr m (a + 1)) (yleaf kd sg ad) (k + 1)) (fun p => by
      rw [yPk_s k0]
      dsimp only
      by_cases q : p = k / 16
      · rw [if_pos q, if_pos q, q]
      · rw [if_neg q, if_neg q])]
    exact hW
  · refine w_7_14 ?_
    rw [if_neg (by decide)]
    rfl
/-- one over others is worked out -/
theorem c_8 {a b c n kd : Int} (hc : isC a) (hb : isC b) (he : isC c) (hab : b ≠ a) (hac : c ≠ a) (hk : zr m a 0 = kd) (h6 : 6 ≤ kd) (h9 : kd ≤ 9) (hd : 0 ≤ zr m b 6 ∧ zr m b 6 ≤ 100 ∧ 0 ≤ zr m c 6 ∧ zr m c 6 ≤ 100)  (K : ZN → Prop) : zcV (d + 3) 8 [zA a, zI n, zA b, zA c] m K = K (zcc (zsn (zsn (zsn m a 6 (1 + max (zr m b 6) (zr m c 6))) a 5 (zor (zr m b 5) (zr m c 5))) a 7 (if kd = 6 then zor (zr m b 7) (zr m c 7) else zshl 1 n)) (a + 1) (yPk (zr m (a + 1)) (fun p => yjoin kd (yTw (zr m (b + 1)) p) (yTw (zr m (c + 1)) p)) 1000)) := by
  have ha : 10 ≤ a := by unfold isC at hc; omega
  have hbm : b ≠ a + 1 ∧ b + 1 ≠ a ∧ b + 1 ≠ a + 1 := by unfold isC at hc hb; omega
  have hcm : c ≠ a + 1 ∧ c + 1 ≠ a ∧ c + 1 ≠ a + 1 := by unfold isC at hc he; omega
  have np1 := isC_np1 hc
  -- the loop, from any memory with the fields written
  have loop : ∀ v, zwpN (d + 3) 8 61 [some (zA a), some (zI n), some (zA b), some (zA c), some (zI 0)] [] (zsn (zsn (zsn m a 6 (1 + max (zr m b 6) (zr m c 6))) a 5 (zor (zr m b 5) (zr m c 5))) a 7 v) (zPV fun m1 => m1 = zcc (zsn (zsn (zsn m a 6 (1 + max (zr m b 6) (zr m c 6))) a 5 (zor (zr m b 5) (zr m c 5))) a 7 v) (a + 1) (yPk (zr m (a + 1)) (fun p => yjoin kd (yTw (zr m (b + 1)) p) (yTw (zr m (c + 1)) p)) 1000)) := fun v => by
    generalize hM0 : zsn (zsn (zsn m a 6 (1 + max (zr m b 6) (zr m c 6))) a 5 (zor (zr m b 5) (zr m c 5))) a 7 v = M0
    have g1 : zr M0 (a + 1) = zr m (a + 1) := by rw [← hM0, yfc (by omega), yfc (by omega), yfc (by omega)]
    have gb : zr M0 (b + 1) = zr m (b + 1) := by rw [← hM0, yfc (by omega), yfc (by omega), yfc (by omega)]
    have gc : zr M0 (c + 1) = zr m (c + 1) := by rw [← hM0, yfc (by omega), yfc (by omega), yfc (by omega)]
    have g0 : zr M0 a 0 = kd := by rw [← hM0, yr_so (by decide), yr_so (by decide), yr_so (by decide), hk]
    have e0 : M0 = zcc M0 (a + 1) (yPk (zr m (a + 1)) (fun p => yjoin kd (yTw (zr m (b + 1)) p) (yTw (zr m (c + 1)) p)) 0) := by
      rw [ycc_F (G := zr M0 (a + 1)) (fun p => by rw [yPk_0, g1]), ycc_id np1]
    have key := yfor (fun k => zwpN (d + 3) 8 61 [some (zA a), some (zI n), some (zA b), some (zA c), some (zI k)] [] (zcc M0 (a + 1) (yPk (zr m (a + 1)) (fun p => yjoin kd (yTw (zr m (b + 1)) p) (yTw (zr m (c + 1)) p)) k)) (zPV fun m1 => m1 = zcc M0 (a + 1) (yPk (zr m (a + 1)) (fun p => yjoin kd (yTw (zr m (b + 1)) p) (yTw (zr m (c + 1)) p)) 1000))) 0 1000 (by decide) (fun k k0 k1 hW => ?_) ?_
    · rw [← e0] at key
      exact key
    · refine w_8_61 ?_
      have e1 : zr (zcc M0 (a + 1) (yPk (zr m (a + 1)) (fun p => yjoin kd (yTw (zr m (b + 1)) p) (yTw (zr m (c + 1)) p)) k)) (a + 1) (k / 16) = yPk (zr m (a + 1)) (fun p => yjoin kd (yTw (zr m (b + 1)) p) (yTw (zr m (c + 1)) p)) k (k / 16) := yr_cs (np1 _)
      generalize hM : zcc M0 (a + 1) (yPk (zr m (a + 1)) (fun p => yjoin kd (yTw (zr m (b + 1)) p) (yTw (zr m (c + 1)) p)) k) = M at e1
      have fb : zr M (b + 1) = zr m (b + 1) := by rw [← hM, yfcc (by omega), gb]
      have fc : zr M (c + 1) = zr m (c + 1) := by rw [← hM, yfcc (by omega), gc]
      have f0 : zr M a 0 = kd := by rw [← hM, yr_cc (by omega), g0]
      rw [if_pos k1]
      simp (disch := first | trivial | assumption | omega | exact ynl rfl _ | exact znp_o rfl | rfl | (simp (disch := first | decide | omega) only [yfc, yr_so, yr_ss, yfcc, yr_cs]; first | assumption | omega)) only [yck_of, yb_id, yPI_some, yPJ_some, yPA_some, yPV_none, yfc, yr_so, yr_ss, yfcc, yr_cs, ybif_t, yrd_1, yrd_2, yfcl, isC_pos, isC_O, isC_t, isC_c, isC_w, isC_f, isC_I1, isC_01, isC_I2, isC_I3, isC_02, isC_03, isC_n1, isC_n2, isC_n3, isC_r1, isC_r2, isC_r3, isC_np, isC_np1, isC_np2, isC_np3, Bool.true_or, Bool.and_true, Bool.true_and, cond_true, ↓c_14 (kd := kd), ↓c_319, ↓c_320, fb, fc, e1]
      rw [← hM, ycc_sn np1, ycc_F (G := yPk (zr m (a + 1)) (fun p => yjoin kd (yTw (zr m (b + 1)) p) (yTw (zr m (c + 1)) p)) (k + 1)) (fun p => by
        rw [yPk_s k0]
        dsimp only
        by_cases q : p = k / 16
        · rw [if_pos q, if_pos q, q]
        · rw [if_neg q, if_neg q])]
      exact hW
    · refine w_8_61 ?_
      rw [if_neg (by decide)]
      rfl
  refine zcV_eq (w_8 ?_) K
  by_cases q : kd = 6
  · simp (disch := first | trivial | assumption | omega | exact ynl rfl _ | exact znp_o rfl | rfl | (simp (disch := first | decide | omega) only [yfc, yr_so, yr_ss, yfcc, yr_cs]; first | assumption | omega)) only [yck_of, yb_id, yPI_some, yPJ_some, yPA_some, yPV_none, yfc, yr_so, yr_ss, yfcc, yr_cs, ybif_t, yrd_1, yrd_2, yfcl, isC_pos, isC_O, isC_t, isC_c, isC_w, isC_f, isC_I1, isC_01, isC_I2, isC_I3, isC_02, isC_03, isC_n1, isC_n2, isC_n3, isC_r1, isC_r2, isC_r3, isC_np, isC_np1, isC_np2, isC_np3, Bool.true_or, Bool.and_true, Bool.true_and, cond_true, ↓if_pos, hk]
    exact loop _
  · simp (disch := first | trivial | assumption | omega | exact ynl rfl _ | exact znp_o rfl | rfl | (simp (disch := first | decide | omega) only [yfc, yr_so, yr_ss, yfcc, yr_cs]; first | assumption | omega)) only [yck_of, yb_id, yPI_some, yPJ_some, yPA_some, yPV_none, yfc, yr_so, yr_ss, yfcc, yr_cs, ybif_t, yrd_1, yrd_2, yfcl, isC_pos, isC_O, isC_t, isC_c, isC_w, isC_f, isC_I1, isC_01, isC_I2, isC_I3, isC_02, isC_03, isC_n1, isC_n2, isC_n3, isC_r1, isC_r2, isC_r3, isC_np, isC_np1, isC_np2, isC_np3, Bool.true_or, Bool.and_true, Bool.true_and, cond_true, ↓if_neg, hk]
    exact loop _
end YG
