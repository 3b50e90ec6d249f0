/-! ===== conditions worked out, in the reference: their rows ===== -/
section YX
variable {d : Nat} {m : ZN}
theorem c_217 {i kd sg : Int} {ad : Int → Int} (i0 : 0 ≤ i) (i1 : i < 24) (hk : zr m 254 i = kd) (ha : ∀ k, 0 ≤ k → k < 8 → zr m 256 (8 * i + k) = ad k) (W : yWf kd sg ad i) (h5 : kd ≤ 5) (K : ZN → Prop) : zcV d 217 [zA 236, zI i] m K = K (zsn (zsn (zsn m 264 i (zshl 1 i)) 263 i 0) 262 i (yLc kd ad)) := by
  have a0 : zr m 256 (8 * i) = ad 0 := by have := ha 0 (by decide) (by decide); rw [Int.add_zero] at this; exact this
  have a1 : zr m 256 (8 * i + 1) = ad 1 := ha 1 (by decide) (by decide)
  have a3 : zr m 256 (8 * i + 1 + 2) = ad 3 := by rw [← ha 3 (by decide) (by decide)]; congr 1; omega
  have a5 : zr m 256 (8 * i + 1 + 4) = ad 5 := by rw [← ha 5 (by decide) (by decide)]; congr 1; omega
  have b0 : zb (8 * i) = 8 * i := yb_id (by omega) (by omega)
  have b1 : zb (8 * i + 1) = 8 * i + 1 := yb_id (by omega) (by omega)
  have w5 := W.2.2.2.2.2.2.2.2.1
  clear W
  refine zcV_eq (w_217 ?_) K
  simp only [b0, b1]
  unfold yLc
  by_cases q5 : kd = 5
  · have h23 := (w5 q5).1
    clear w5
    subst q5
    simp (disch := first | trivial | assumption | omega | exact ynl rfl _ | exact znp_o rfl | rfl | (simp (disch := first | decide | omega) only [yfc, yr_so, yr_ss, yfcc, yr_cs]; first | assumption | omega)) only [yck_of, yb_id, yPI_some, yPJ_some, yPA_some, yPV_none, yfc, yr_so, yr_ss, yfcc, yr_cs, ybif_t, yrd_1, yrd_2, yfcl, hk, ↓if_pos, ↓if_neg]
    refine w_217_80 ?_
    simp (disch := first | trivial | assumption | omega | exact ynl rfl _ | exact znp_o rfl | rfl | (simp (disch := first | decide | omega) only [yfc, yr_so, yr_ss, yfcc, yr_cs]; first | assumption | omega)) only [yck_of, yb_id, yPI_some, yPJ_some, yPA_some, yPV_none, yfc, yr_so, yr_ss, yfcc, yr_cs, ybif_t, yrd_1, yrd_2, yfcl, hk, a0, a1, b0, b1, ysn_sn, ↓if_pos, ↓if_neg, Int.mul_zero, Int.add_zero]
    refine w_217_80 ?_
    simp (disch := first | trivial | assumption | omega | exact ynl rfl _ | exact znp_o rfl | rfl | (simp (disch := first | decide | omega) only [yfc, yr_so, yr_ss, yfcc, yr_cs]; first | assumption | omega)) only [yck_of, yb_id, yPI_some, yPJ_some, yPA_some, yPV_none, yfc, yr_so, yr_ss, yfcc, yr_cs, ybif_t, yrd_1, yrd_2, yfcl, hk, a0, a1, b0, b1, ysn_sn, ↓if_pos, ↓if_neg, Int.zero_add, Int.mul_one, a3]
    refine w_217_80 ?_
    rcases h23 with h2 | h3
    · simp (disch := first | trivial | assumption | omega | exact ynl rfl _ | exact znp_o rfl | rfl | (simp (disch := first | decide | omega) only [yfc, yr_so, yr_ss, yfcc, yr_cs]; first | assumption | omega)) only [yck_of, yb_id, yPI_some, yPJ_some, yPA_some, yPV_none, yfc, yr_so, yr_ss, yfcc, yr_cs, ybif_t, yrd_1, yrd_2, yfcl, hk, a0, ysn_sn, ↓if_pos, ↓if_neg, Int.zero_add, Int.reduceAdd]
    · simp (disch := first | trivial | assumption | omega | exact ynl rfl _ | exact znp_o rfl | rfl | (simp (disch := first | decide | omega) only [yfc, yr_so, yr_ss, yfcc, yr_cs]; first | assumption | omega)) only [yck_of, yb_id, yPI_some, yPJ_some, yPA_some, yPV_none, yfc, yr_so, yr_ss, yfcc, yr_cs, ybif_t, yrd_1, yrd_2, yfcl, hk, a0, a1, b0, b1, ysn_sn, ↓if_pos, ↓if_neg, Int.zero_add, Int.reduceAdd, Int.reduceMul, a5]
      refine w_217_80 ?_
      simp (disch := first | trivial | assumption | omega | exact ynl rfl _ | exact znp_o rfl | rfl | (simp (disch := first | decide | omega) only [yfc, yr_so, yr_ss, yfcc, yr_cs]; first | assumption | omega)) only [yck_of, yb_id, yPI_some, yPJ_some, yPA_some, yPV_none, yfc, yr_so, yr_ss, yfcc, yr_cs, ybif_t, yrd_1, yrd_2, yfcl, hk, a0, ysn_sn, ↓if_pos, ↓if_neg, Int.zero_add, Int.reduceAdd]
  · by_cases q3 : kd = 3
    · subst q3
      simp (disch := first | trivial | assumption | omega | exact ynl rfl _ | exact znp_o rfl | rfl | (simp (disch := first | decide | omega) only [yfc, yr_so, yr_ss, yfcc, yr_cs]; first | assumption | omega)) only [yck_of, yb_id, yPI_some, yPJ_some, yPA_some, yPV_none, yfc, yr_so, yr_ss, yfcc, yr_cs, ybif_t, yrd_1, yrd_2, yfcl, hk, a0, a1, b0, b1, ysn_sn, ↓if_pos, ↓if_neg]
      refine w_217_80 ?_
      simp (disch := first | trivial | assumption | omega | exact ynl rfl _ | exact znp_o rfl | rfl | (simp (disch := first | decide | omega) only [yfc, yr_so, yr_ss, yfcc, yr_cs]; first | assumption | omega)) only [yck_of, yb_id, yPI_some, yPJ_some, yPA_some, yPV_none, yfc, yr_so, yr_ss, yfcc, yr_cs, ybif_t, yrd_1, yrd_2, yfcl, hk, ↓if_neg, ysn_sn]
    · simp (disch := first | trivial | assumption | omega | exact ynl rfl _ | exact znp_o rfl | rfl | (simp (disch := first | decide | omega) only [yfc, yr_so, yr_ss, yfcc, yr_cs]; first | assumption | omega)) only [yck_of, yb_id, yPI_some, yPJ_some, yPA_some, yPV_none, yfc, yr_so, yr_ss, yfcc, yr_cs, ybif_t, yrd_1, yrd_2, yfcl, hk, a0, a1, b0, b1, ysn_sn, ↓if_pos, ↓if_neg]
      refine w_217_80 ?_
      simp (disch := first | trivial | assumption | omega | exact ynl rfl _ | exact znp_o rfl | rfl | (simp (disch := first | decide | omega) only [yfc, yr_so, yr_ss, yfcc, yr_cs]; first | assumption | omega)) only [yck_of, yb_id, yPI_some, yPJ_some, yPA_some, yPV_none, yfc, yr_so, yr_ss, yfcc, yr_cs, ybif_t, yrd_1, yrd_2, yfcl, hk, ↓if_neg, ysn_sn]
theorem c_218 {i kd x y : Int} (i0 : 0 ≤ i) (i1 : i < 24) (hk : zr m 254 i = kd) (h6 : 6 ≤ kd) (h9 : kd ≤ 9) (hx : zr m 256 (8 * i) = x) (hy : kd ≤ 7 → zr m 256 (8 * i + 1) = y) (hxy : ¬ kd ≤ 7 → y = x) (x0 : 0 ≤ x) (x1 : x < i) (y0 : 0 ≤ y) (y1 : y < i) (dx : 0 ≤ zr m 263 x ∧ zr m 263 x ≤ 100) (dy : 0 ≤ zr m 263 y ∧ zr m 263 y ≤ 100) (K : ZN → Prop) : zcV d 218 [zA 236, zI i] m K = K (zsn (zsn (zsn m 264 i (if kd = 6 then zor (zr m 264 x) (zr m 264 y) else zshl 1 i)) 263 i (1 + max (zr m 263 x) (zr m 263 y))) 262 i (zor (zr m 262 x) (zr m 262 y))) := by
  have b0 : zb (8 * i) = 8 * i := yb_id (by omega) (by omega)
  have b1 : zb (8 * i + 1) = 8 * i + 1 := yb_id (by omega) (by omega)
  refine zcV_eq (w_218 ?_) K
  by_cases h7 : kd ≤ 7
  · have hy := hy h7
    clear hxy
    simp only [b0, b1, hk, hx, hy]
    by_cases q6 : kd = 6
    · by_cases q : zr m 263 y < zr m 263 x
      · have e : max (zr m 263 x) (zr m 263 y) = zr m 263 x := by omega
        rw [e]
        simp (disch := first | trivial | assumption | omega | exact ynl rfl _ | exact znp_o rfl | rfl | (simp (disch := first | decide | omega) only [yfc, yr_so, yr_ss, yfcc, yr_cs]; first | assumption | omega)) only [yck_of, yb_id, yPI_some, yPJ_some, yPA_some, yPV_none, yfc, yr_so, yr_ss, yfcc, yr_cs, ybif_t, yrd_1, yrd_2, yfcl, ↓if_pos, ↓if_neg]
      · have e : max (zr m 263 x) (zr m 263 y) = zr m 263 y := by omega
        rw [e]
        simp (disch := first | trivial | assumption | omega | exact ynl rfl _ | exact znp_o rfl | rfl | (simp (disch := first | decide | omega) only [yfc, yr_so, yr_ss, yfcc, yr_cs]; first | assumption | omega)) only [yck_of, yb_id, yPI_some, yPJ_some, yPA_some, yPV_none, yfc, yr_so, yr_ss, yfcc, yr_cs, ybif_t, yrd_1, yrd_2, yfcl, ↓if_pos, ↓if_neg]
    · by_cases q : zr m 263 y < zr m 263 x
      · have e : max (zr m 263 x) (zr m 263 y) = zr m 263 x := by omega
        rw [e]
        simp (disch := first | trivial | assumption | omega | exact ynl rfl _ | exact znp_o rfl | rfl | (simp (disch := first | decide | omega) only [yfc, yr_so, yr_ss, yfcc, yr_cs]; first | assumption | omega)) only [yck_of, yb_id, yPI_some, yPJ_some, yPA_some, yPV_none, yfc, yr_so, yr_ss, yfcc, yr_cs, ybif_t, yrd_1, yrd_2, yfcl, ↓if_pos, ↓if_neg]
      · have e : max (zr m 263 x) (zr m 263 y) = zr m 263 y := by omega
        rw [e]
        simp (disch := first | trivial | assumption | omega | exact ynl rfl _ | exact znp_o rfl | rfl | (simp (disch := first | decide | omega) only [yfc, yr_so, yr_ss, yfcc, yr_cs]; first | assumption | omega)) only [yck_of, yb_id, yPI_some, yPJ_some, yPA_some, yPV_none, yfc, yr_so, yr_ss, yfcc, yr_cs, ybif_t, yrd_1, yrd_2, yfcl, ↓if_pos, ↓if_neg]
  · have hxy := hxy h7
    subst hxy
    clear hy
    have e : max (zr m 263 y) (zr m 263 y) = zr m 263 y := by omega
    simp only [b0, b1, hk, hx, e]
    simp (disch := first | trivial | assumption | omega | exact ynl rfl _ | exact znp_o rfl | rfl | (simp (disch := first | decide | omega) only [yfc, yr_so, yr_ss, yfcc, yr_cs]; first | assumption | omega)) only [yck_of, yb_id, yPI_some, yPJ_some, yPA_some, yPV_none, yfc, yr_so, yr_ss, yfcc, yr_cs, ybif_t, yrd_1, yrd_2, yfcl, ↓if_pos, ↓if_neg]
/-- what stays when only the rows of what conditions are change -/
def yK4 (m m2 : ZN) : Prop := ∀ a, ¬ (261 ≤ a ∧ a ≤ 264) → zr m2 a = zr m a
/-- one more is worked out -/
theorem c_219s {c f : Int} {o : Option ZV} {M : ZN} {P : Option ZV → ZN → Prop} (W : yWA (zr m 254) (zr m 255) (zr m 256) (zr m 236 10)) (hN : zr m 236 10 ≤ 24) (c0 : 0 ≤ c) (c1 : c < zr m 236 10) (hM : yK4 m M) (hI : yIM (zr M) c (zr m 254) (zr m 255) (zr m 256))
    (h : ∀ o M2, yK4 m M2 → yIM (zr M2) (c + 1) (zr m 254) (zr m 255) (zr m 256) → zwpN (d + 4) 219 2 [some (zA 236), some (zI f), some (zI (c + 1)), o] [] M2 P) : zwpN (d + 4) 219 2 [some (zA 236), some (zI f), some (zI c), o] [] M P := by
  have e236 : zr M 236 = zr m 236 := hM 236 (by omega)
  have e254 : zr M 254 = zr m 254 := hM 254 (by omega)
  have e255 : zr M 255 = zr m 255 := hM 255 (by omega)
  have e256 : zr M 256 = zr m 256 := hM 256 (by omega)
  have Wc := W c c0 c1
  have wr := yWA_r W
  have ha : ∀ {M' : ZN}, zr M' 256 = zr m 256 → ∀ k, 0 ≤ k → k < 8 → zr M' 256 (8 * c + k) = yA (zr m 256) c k := fun h k _ _ => by rw [h]
  -- the loop over keys, from the memory with the three small rows written
  have loop : ∀ M1 : ZN, yK4 m M1 → (∀ i, 0 ≤ i → i < c → zr M1 262 i = yCo (zr m 254) (zr m 256) i ∧ zr M1 263 i = yDp (zr m 254) (zr m 256) i ∧ zr M1 264 i = yPa (zr m 254) (zr m 256) i ∧ ∀ key, 0 ≤ key → key < 1000 → zr M1 261 (1000 * i + key) = yST (zr m 254) (zr m 255) (zr m 256) i key) → zr M1 262 c = yCo (zr m 254) (zr m 256) c → zr M1 263 c = yDp (zr m 254) (zr m 256) c → zr M1 264 c = yPa (zr m 254) (zr m 256) c → zwpN (d + 4) 219 35 [some (zA 236), some (zI f), some (zI c), some (zI 0)] [] M1 P := fun M1 kk h1 q2 q3 q4 => by
    have np : ∀ j, znp' 261 j = true := ynl rfl
    have e0 : M1 = zcc M1 261 (fun p => if 1000 * c ≤ p ∧ p < 1000 * c + 0 then yST (zr m 254) (zr m 255) (zr m 256) c (p - 1000 * c) else zr M1 261 p) := by
      rw [ycc_F (G := zr M1 261) (fun p => by rw [if_neg (by omega)]), ycc_id np]
    have key := yfor (fun k => zwpN (d + 4) 219 35 [some (zA 236), some (zI f), some (zI c), some (zI k)] [] (zcc M1 261 (fun p => if 1000 * c ≤ p ∧ p < 1000 * c + k then yST (zr m 254) (zr m 255) (zr m 256) c (p - 1000 * c) else zr M1 261 p)) P) 0 1000 (by decide) (fun k k0 k1 hW => ?_) ?_
    · rw [← e0] at key
      exact key
    · refine w_219_35 ?_
      have hr := yST_r W hN 24 c k c0 c1 (by omega) k0 k1
      generalize hM2 : zcc M1 261 (fun p => if 1000 * c ≤ p ∧ p < 1000 * c + k then yST (zr m 254) (zr m 255) (zr m 256) c (p - 1000 * c) else zr M1 261 p) = M2
      have f254 : zr M2 254 = zr m 254 := by rw [← hM2, yfcc (by decide)]; exact kk _ (by omega)
      have f255 : zr M2 255 = zr m 255 := by rw [← hM2, yfcc (by decide)]; exact kk _ (by omega)
      have f256 : zr M2 256 = zr m 256 := by rw [← hM2, yfcc (by decide)]; exact kk _ (by omega)
      have fold : ∀ i key, 0 ≤ i → i < c → 0 ≤ key → key < 1000 → zr M2 261 (1000 * i + key) = yST (zr m 254) (zr m 255) (zr m 256) i key := fun i key i0 i1 y0 y1 => by
        rw [← hM2, yr_cs (np _), if_neg (by omega)]
        exact (h1 i i0 i1).2.2.2 key y0 y1
      have a0 : yA (zr m 256) c 0 = zr m 256 (8 * c) := by show zr m 256 (8 * c + 0) = _; rw [Int.add_zero]
      have a1 : yA (zr m 256) c 1 = zr m 256 (8 * c + 1) := rfl
      have hval : (if zr m 254 c ≤ 5 then yleaf (zr m 254 c) (zr m 255 c) (yA (zr m 256) c) k else yjoin (zr m 254 c) (zr M2 261 (1000 * yA (zr m 256) c 0 + k)) (zr M2 261 (1000 * (if zr m 254 c ≤ 7 then yA (zr m 256) c 1 else yA (zr m 256) c 0) + k))) = yST (zr m 254) (zr m 255) (zr m 256) c k := by
        by_cases q : zr m 254 c ≤ 5
        · rw [if_pos q, yST_l q]
        · obtain ⟨w1, w2⟩ := wr c c0 c1 (by omega)
          rw [if_neg q, yST_o wr c0 c1 (by omega) (by omega), a0, a1, fold _ _ w1.1 w1.2 k0 k1]
          by_cases q7 : zr m 254 c ≤ 7
          · rw [if_pos q7, fold _ _ (w2 q7).1 (w2 q7).2 k0 k1]
          · rw [if_neg q7]; exact congrArg _ (fold _ _ w1.1 w1.2 k0 k1)
      rw [if_pos k1, c_216 (d := d) (kd := zr m 254 c) (sg := zr m 255 c) (ad := yA (zr m 256) c) c0 (by omega) (by rw [f254]) (by rw [f255]) (ha f256) Wc k0 k1 (fun q => by
        obtain ⟨w1, w2⟩ := wr c c0 c1 q
        rw [a0, fold _ _ w1.1 w1.2 k0 k1]
        exact yST_r W hN 24 _ k w1.1 (by omega) (by omega) k0 k1), hval]
      simp (disch := first | trivial | assumption | omega | exact ynl rfl _ | exact znp_o rfl | rfl | (simp (disch := first | decide | omega) only [yfc, yr_so, yr_ss, yfcc, yr_cs]; first | assumption | omega)) only [yck_of, yb_id, yPI_some, yPJ_some, yPA_some, yPV_none, yfc, yr_so, yr_ss, yfcc, yr_cs, ybif_t, yrd_1, yrd_2, yfcl, yi2bI hr, ym1000]
      rw [← hM2, ycc_sn np, ycc_F (G := fun p => if 1000 * c ≤ p ∧ p < 1000 * c + (k + 1) then yST (zr m 254) (zr m 255) (zr m 256) c (p - 1000 * c) else zr M1 261 p) (fun p => by
        by_cases q : p = 1000 * c + k
        · rw [if_pos q, if_pos (by omega), q, show 1000 * c + k - 1000 * c = k by omega]
        · rw [if_neg q]
          by_cases q2 : 1000 * c ≤ p ∧ p < 1000 * c + k
          · rw [if_pos q2, if_pos (by omega)]
          · rw [if_neg q2, if_neg (by omega)])]
      exact hW
    · refine w_219_35 ?_
      rw [if_neg (by decide), yb_id (by omega) (by omega)]
      refine h _ _ (fun a a1 => ?_) (fun i i0 i1 => ?_)
      · rw [yfcc (by omega)]
        exact kk a a1
      · rw [yfcc (a' := 262) (by decide), yfcc (a' := 263) (by decide), yfcc (a' := 264) (by decide)]
        by_cases q : i = c
        · subst q
          refine ⟨q2, q3, q4, fun key y0 y1 => ?_⟩
          rw [yr_cs (np _), if_pos (by omega), show 1000 * i + key - 1000 * i = key by omega]
        · obtain ⟨g1, g2, g3, g4⟩ := h1 i i0 (by omega)
          refine ⟨g1, g2, g3, fun key y0 y1 => ?_⟩
          rw [yr_cs (np _), if_neg (by omega)]
          exact g4 key y0 y1
  have n2 : ∀ j, znp' 262 j = true := ynl rfl
  have n3 : ∀ j, znp' 263 j = true := ynl rfl
  have n4 : ∀ j, znp' 264 j = true := ynl rfl
  -- the three small rows
  have fin : ∀ u v w, u = yPa (zr m 254) (zr m 256) c → v = yDp (zr m 254) (zr m 256) c → w = yCo (zr m 254) (zr m 256) c → zwpN (d + 4) 219 35 [some (zA 236), some (zI f), some (zI c), some (zI 0)] [] (zsn (zsn (zsn M 264 c u) 263 c v) 262 c w) P := fun u v w hu hv hw => by
    refine loop _ (fun a a1 => ?_) (fun i i0 i1 => ?_) ?_ ?_ ?_
    · rw [yfc (by omega), yfc (by omega), yfc (by omega)]
      exact hM a a1
    · obtain ⟨g1, g2, g3, g4⟩ := hI i i0 i1
      refine ⟨?_, ?_, ?_, fun key y0 y1 => ?_⟩
      · rw [yr_so (by omega), yr_sc (by decide), yr_sc (by decide)]; exact g1
      · rw [yr_sc (by decide), yr_so (by omega), yr_sc (by decide)]; exact g2
      · rw [yr_sc (by decide), yr_sc (by decide), yr_so (by omega)]; exact g3
      · rw [yr_sc (by decide), yr_sc (by decide), yr_sc (by decide)]; exact g4 key y0 y1
    · rw [yr_ss (n2 _)]; exact hw
    · rw [yr_sc (by decide), yr_ss (n3 _)]; exact hv
    · rw [yr_sc (by decide), yr_sc (by decide), yr_ss (n4 _)]; exact hu
  have a0 : yA (zr m 256) c 0 = zr m 256 (8 * c) := by show zr m 256 (8 * c + 0) = _; rw [Int.add_zero]
  refine w_219_2 ?_
  rw [e236, if_pos c1, yck_of (by omega), e254]
  by_cases q : 5 < zr m 254 c
  · obtain ⟨w1, w2⟩ := wr c c0 c1 q
    have hk9 := Wc.1
    have d1 := yDp_r W hN 24 (zr m 256 (8 * c)) w1.1 (by omega) (by omega)
    have g1 := hI (zr m 256 (8 * c)) w1.1 w1.2
    by_cases q7 : zr m 254 c ≤ 7
    · have w2 := w2 q7
      have d2 := yDp_r W hN 24 (zr m 256 (8 * c + 1)) w2.1 (by omega) (by omega)
      have g2 := hI (zr m 256 (8 * c + 1)) w2.1 w2.2
      rw [if_pos q, c_218 (kd := zr m 254 c) (x := zr m 256 (8 * c)) (y := zr m 256 (8 * c + 1)) c0 (by omega) (by rw [e254]) (by omega) hk9.2 (by rw [e256]) (fun _ => by rw [e256]) (fun z => absurd q7 z) w1.1 w1.2 w2.1 w2.2 (by rw [g1.2.1]; omega) (by rw [g2.2.1]; omega)]
      refine fin _ _ _ ?_ ?_ ?_
      · rw [yPa_o wr c0 c1 (by omega) q, if_pos q7, g1.2.2.1, g2.2.2.1]
      · rw [yDp_o wr c0 c1 (by omega) q, if_pos q7, g1.2.1, g2.2.1]
      · rw [yCo_o wr c0 c1 (by omega) q, if_pos q7, g1.1, g2.1]
    · rw [if_pos q, c_218 (kd := zr m 254 c) (x := zr m 256 (8 * c)) (y := zr m 256 (8 * c)) c0 (by omega) (by rw [e254]) (by omega) hk9.2 (by rw [e256]) (fun z => absurd z q7) (fun _ => rfl) w1.1 w1.2 w1.1 w1.2 (by rw [g1.2.1]; omega) (by rw [g1.2.1]; omega)]
      refine fin _ _ _ ?_ ?_ ?_
      · rw [yPa_o wr c0 c1 (by omega) q, if_neg q7, g1.2.2.1]
      · rw [yDp_o wr c0 c1 (by omega) q, if_neg q7, g1.2.1]
      · rw [yCo_o wr c0 c1 (by omega) q, if_neg q7, g1.1]
  · rw [if_neg q, c_217 (kd := zr m 254 c) (sg := zr m 255 c) (ad := yA (zr m 256) c) c0 (by omega) (by rw [e254]) (ha e256) Wc (by omega)]
    refine fin _ _ _ ?_ ?_ ?_
    · rw [yPa_l (by omega)]
    · rw [yDp_l (by omega)]
    · rw [yCo_l (by omega)]
/-- all from f on are worked out -/
theorem c_219 {f : Int} {K : ZN → Prop} (W : yWA (zr m 254) (zr m 255) (zr m 256) (zr m 236 10)) (hN : zr m 236 10 ≤ 24) (f0 : 0 ≤ f) (f1 : f ≤ zr m 236 10) (hI : yIM (zr m) f (zr m 254) (zr m 255) (zr m 256))
    (h : ∀ M2, yK4 m M2 → yIM (zr M2) (zr m 236 10) (zr m 254) (zr m 255) (zr m 256) → K M2) : zcV (d + 4) 219 [zA 236, zI f] m K := by
  refine w_219 ?_
  have key := yfor (fun c => ∀ o M, yK4 m M → yIM (zr M) c (zr m 254) (zr m 255) (zr m 256) → zwpN (d + 4) 219 2 [some (zA 236), some (zI f), some (zI c), o] [] M (zPV K)) f (zr m 236 10) f1 (fun c c0 c1 hW o M k1 k2 => c_219s W hN (by omega) c1 k1 k2 hW) (fun o M k1 k2 => ?_)
  · exact key none m (fun _ _ => rfl) hI
  · refine w_219_2 ?_
    rw [k1 236 (by omega), if_neg (by omega)]
    exact h M k1 k2
end YX
