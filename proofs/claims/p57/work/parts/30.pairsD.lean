/-! ===== pairs: days, whatIf, copy ===== -/
section PD
variable {d : Nat} {m : ZN} {L : Int} {xs : Int → Int} {Q : Int → Int → ZN → Prop}
theorem yput_z {v : Int → Int} {n a b c j : Int} : (if j = 3 * n + 2 then c else if j = 3 * n + 1 then b else if j = 3 * n then a else v j) = yput v n a b c j := rfl
/-- one day of the class -/
theorem c_43 {v : Int → Int} {c s : Int} (h1 : 0 ≤ c) (h2 : c ≤ 60) (K : ZN → Prop) : zcV (d + 4) 43 [zA 4] (yLM m v c s) K = K (yLM m (yDay (v, c, s)).1 (yDay (v, c, s)).2.1 (yDay (v, c, s)).2.2) := by
  have np : ∀ j, znp' 5 j = true := ynl rfl
  -- the steps in the canonical memory
  have hd : ∀ {e : Nat} (v : Int → Int) (c s n : Int) (K : Int → ZN → Prop), 0 < n → zcI e 44 [zA 4, zI n] (yLM m v c s) K = K (yrnd (ynx s) n) (yLM m v c (ynx s)) := fun v c s n K hn => by
    rw [c_44 hn, yLM_3]
    congr 1
    refine yLM_ext (fun a j a5 a4 => ?_) (fun j => ?_) ?_ ?_
    · rw [zr_zsn, if_neg (fun q => a4 (by omega)), yLM_o m v c s a5 a4]
    · rw [yr_sc (by decide), yLM_5]
    · rw [yr_so (by decide), yLM_1]
    · rw [yr_ss rfl]
  have hr : ∀ {e : Nat} (v : Int → Int) (c s n : Int) (K : ZN → Prop), 0 ≤ n → n < c → c ≤ 60 → zcV (e + 2) 38 [zA 4, zI n] (yLM m v c s) K = K (yLM m (yrem v n c) (c - 1) s) := fun v c s n K n0 n1 c6 => by
    rw [c_38 n0 (by rw [yLM_1]; exact n1) (by rw [yLM_1]; exact c6), yLM_1, yLM_5]
    congr 1
    refine yLM_ext (fun a j a5 a4 => ?_) (fun j => ?_) ?_ ?_
    · rw [zr_zsn, if_neg (fun q => a4 (by omega)), yr_cc a5, yLM_o m v c s a5 a4]
    · rw [yr_sc (by decide), yr_cs (np j)]
    · rw [yr_ss rfl]
    · rw [yr_so (by decide), yr_cc (by decide), yLM_3]
  have hp : ∀ {e : Nat} (v : Int → Int) (c s n x y z : Int) (K : ZN → Prop), 0 ≤ n → n < 60 → zcV (e + 1) 36 [zA 4, zI n, zI x, zI y, zI z] (yLM m v c s) K = K (yLM m (yput v n x y z) c s) := fun v c s n x y z K n0 n1 => by
    rw [c_36 n0 n1]
    congr 1
    refine yLM_ext (fun a j a5 a4 => ?_) (fun j => ?_) ?_ ?_
    · rw [yr_sc a5, yr_sc a5, yr_sc a5, yLM_o m v c s a5 a4]
    · rw [yr_sa (np _), yr_sa (np _), yr_sa (np _), yLM_5]
      exact yput_z
    · rw [yr_sc (by decide), yr_sc (by decide), yr_sc (by decide), yLM_1]
    · rw [yr_sc (by decide), yr_sc (by decide), yr_sc (by decide), yLM_3]
  have ha : ∀ {e : Nat} (v : Int → Int) (c s x y z : Int) (K : ZN → Prop), 0 ≤ c → c < 60 → zcV (e + 2) 37 [zA 4, zI x, zI y, zI z] (yLM m v c s) K = K (yLM m (yput v c x y z) (c + 1) s) := fun v c s x y z K c0 c1 => by
    rw [c_37 (by rw [yLM_1]; exact c0) (by rw [yLM_1]; exact c1), yLM_1]
    congr 1
    refine yLM_ext (fun a j a5 a4 => ?_) (fun j => ?_) ?_ ?_
    · rw [zr_zsn, if_neg (fun q => a4 (by omega)), yr_sc a5, yr_sc a5, yr_sc a5, yLM_o m v c s a5 a4]
    · rw [yr_sc (by decide), yr_sa (np _), yr_sa (np _), yr_sa (np _), yLM_5]
      exact yput_z
    · rw [yr_ss rfl]
    · rw [yr_so (by decide), yr_sc (by decide), yr_sc (by decide), yr_sc (by decide), yLM_3]
  have hc := yD1_c (v := v) (s := s) h1 h2
  refine zcV_eq (w_43 ?_) K
  simp only [hd _ _ _ _ _ (show (0 : Int) < 10 by decide), yLM_1]
  unfold yDay yD2
  by_cases q : c < 60
  · have e1 : yD1 v c s = (yput v c (yrnd (ynx s) 10) (yrnd (ynx (ynx s)) 10) (yrnd (ynx (ynx (ynx s))) 10), c + 1, ynx (ynx (ynx s))) := if_pos q
    rw [if_pos q, ha _ _ _ _ _ _ _ h1 q, hd _ _ _ _ _ (by decide)]
    simp only [e1]
    by_cases q2 : yrnd (ynx (ynx (ynx (ynx s)))) 8 = 0
    · rw [if_pos q2, if_pos q2, yLM_1, hd _ _ _ _ _ (by omega), hr _ _ _ _ _ (yrnd_r _ (by omega)).1 (yrnd_r _ (by omega)).2 (by omega)]
    · rw [if_neg q2, if_neg q2]
  · have e1 : yD1 v c s = (yput v (yrnd (ynx (ynx (ynx (ynx s)))) 60) (yrnd (ynx s) 10) (yrnd (ynx (ynx s)) 10) (yrnd (ynx (ynx (ynx s))) 10), c, ynx (ynx (ynx (ynx s)))) := if_neg q
    rw [if_neg q, hd _ _ _ _ _ (by decide), hp _ _ _ _ _ _ _ _ (yrnd_r _ (by decide)).1 (yrnd_r _ (by decide)).2, hd _ _ _ _ _ (by decide)]
    simp only [e1]
    by_cases q2 : yrnd (ynx (ynx (ynx (ynx (ynx s))))) 8 = 0
    · rw [if_pos q2, if_pos q2, yLM_1, hd _ _ _ _ _ (by omega), hr _ _ _ _ _ (yrnd_r _ (by omega)).1 (yrnd_r _ (by omega)).2 (by omega)]
    · rw [if_neg q2, if_neg q2]
/-- one day of the reference -/
theorem c_308d {v : Int → Int} {c s n i : Int} {o3 o4 o5 o6 : Option ZV} {P : Option ZV → ZN → Prop} (h1 : 0 ≤ c) (h2 : c ≤ 60) (i0 : 0 ≤ i) (i1 : i < n) (n6 : n ≤ 60) (hW : ∀ o3 o4 o5 o6, zwpN (d + 4) 308 21 [some (zA 236), some (zI n), some (zI (i + 1)), o3, o4, o5, o6] [] (yMM m (yDay (v, c, s)).1 (yDay (v, c, s)).2.1 (yDay (v, c, s)).2.2) P) : zwpN (d + 4) 308 21 [some (zA 236), some (zI n), some (zI i), o3, o4, o5, o6] [] (yMM m v c s) P := by
  have np : ∀ j, znp' 253 j = true := ynl rfl
  have hd : ∀ {e : Nat} (v : Int → Int) (c s n : Int) (K : Int → ZN → Prop), 0 < n → zcI e 307 [zA 236, zI n] (yMM m v c s) K = K (yrnd (ynx s) n) (yMM m v c (ynx s)) := fun v c s n K hn => by
    rw [c_307 hn, yMM_3]
    congr 1
    refine yMM_ext (fun a j a5 a4 => ?_) (fun j => ?_) ?_ ?_
    · rw [zr_zsn, if_neg (fun q => a4 (by omega)), yMM_o m v c s a5 a4]
    · rw [yr_sc (by decide), yMM_5]
    · rw [yr_so (by decide), yMM_1]
    · rw [yr_ss rfl]
  have hr : ∀ {e : Nat} (v : Int → Int) (c s n : Int) (K : ZN → Prop), 0 ≤ n → n < c → c ≤ 60 → zcV e 223 [zA 236, zI n] (yMM m v c s) K = K (yMM m (yrem v n c) (c - 1) s) := fun v c s n K n0 n1 c6 => by
    rw [c_223 n0 (by rw [yMM_1]; exact n1) (by rw [yMM_1]; exact c6), yMM_1, yMM_5]
    congr 1
    refine yMM_ext (fun a j a5 a4 => ?_) (fun j => ?_) ?_ ?_
    · rw [yr_cc a5, zr_zsn, if_neg (fun q => a4 (by omega)), yMM_o m v c s a5 a4]
    · rw [yr_cs (np j)]
    · rw [yr_cc (by decide), yr_ss rfl]
    · rw [yr_cc (by decide), yr_so (by decide), yMM_3]
  have hp : ∀ {e : Nat} (v : Int → Int) (c s n x y z : Int) (K : ZN → Prop), 0 ≤ n → n < 60 → zcV e 220 [zA 236, zI n, zI x, zI y, zI z] (yMM m v c s) K = K (yMM m (yput v n x y z) c s) := fun v c s n x y z K n0 n1 => by
    rw [c_220 n0 n1]
    congr 1
    refine yMM_ext (fun a j a5 a4 => ?_) (fun j => ?_) ?_ ?_
    · rw [yr_sc a5, yr_sc a5, yr_sc a5, yMM_o m v c s a5 a4]
    · rw [yr_sa (np _), yr_sa (np _), yr_sa (np _), yMM_5]
      exact yput_z
    · rw [yr_sc (by decide), yr_sc (by decide), yr_sc (by decide), yMM_1]
    · rw [yr_sc (by decide), yr_sc (by decide), yr_sc (by decide), yMM_3]
  have hs : ∀ (v : Int → Int) (c c' s : Int), zsn (yMM m v c s) 236 9 c' = yMM m v c' s := fun v c c' s => by
    refine yMM_ext (fun a j a5 a4 => ?_) (fun j => ?_) ?_ ?_
    · rw [zr_zsn, if_neg (fun q => a4 (by omega)), yMM_o m v c s a5 a4]
    · rw [yr_sc (by decide), yMM_5]
    · rw [yr_ss rfl]
    · rw [yr_so (by decide), yMM_3]
  have hc := yD1_c (v := v) (s := s) h1 h2
  refine w_308_21 ?_
  rw [if_pos i1]
  simp only [hd _ _ _ _ _ (show (0 : Int) < 10 by decide), yMM_1, yb_id (show -2147483648 ≤ i + 1 by omega) (show i + 1 ≤ 2147483647 by omega)]
  unfold yDay yD2 at hW
  by_cases q : c < 60
  · have e1 : yD1 v c s = (yput v c (yrnd (ynx s) 10) (yrnd (ynx (ynx s)) 10) (yrnd (ynx (ynx (ynx s))) 10), c + 1, ynx (ynx (ynx s))) := if_pos q
    simp only [e1] at hW
    rw [if_pos q, yb_id (by omega) (by omega), hs, hp _ _ _ _ _ _ _ _ h1 q, hd _ _ _ _ _ (by decide)]
    by_cases q2 : yrnd (ynx (ynx (ynx (ynx s)))) 8 = 0
    · rw [if_pos q2] at hW
      rw [if_pos q2, yMM_1, hd _ _ _ _ _ (by omega), hr _ _ _ _ _ (yrnd_r _ (by omega)).1 (yrnd_r _ (by omega)).2 (by omega)]
      exact hW _ _ _ _
    · rw [if_neg q2] at hW
      rw [if_neg q2]
      exact hW _ _ _ _
  · have e1 : yD1 v c s = (yput v (yrnd (ynx (ynx (ynx (ynx s)))) 60) (yrnd (ynx s) 10) (yrnd (ynx (ynx s)) 10) (yrnd (ynx (ynx (ynx s))) 10), c, ynx (ynx (ynx (ynx s)))) := if_neg q
    simp only [e1] at hW
    rw [if_neg q, hd _ _ _ _ _ (by decide), hp _ _ _ _ _ _ _ _ (yrnd_r _ (by decide)).1 (yrnd_r _ (by decide)).2, hd _ _ _ _ _ (by decide)]
    by_cases q2 : yrnd (ynx (ynx (ynx (ynx (ynx s))))) 8 = 0
    · rw [if_pos q2] at hW
      rw [if_pos q2, yMM_1, hd _ _ _ _ _ (by omega), hr _ _ _ _ _ (yrnd_r _ (by omega)).1 (yrnd_r _ (by omega)).2 (by omega)]
      exact hW _ _ _ _
    · rw [if_neg q2] at hW
      rw [if_neg q2]
      exact hW _ _ _ _
theorem p_days (I : yInv L xs m) (hQ : ∀ r m2, yInv L xs m2 → Q r r m2) (n : Int) : zcI (d + 9) 163 [zA 3, zI n] m (fun v1 m1 => zcI (d + 9) 308 [zA 236, zI n] m1 (fun v2 m2 => Q v1 v2 m2)) := by
  obtain ⟨l1, l2, l3, l4, l5, l6, l7⟩ := I.2.1
  refine w_163 ?_
  by_cases q1 : 1 ≤ n ∧ n ≤ 60
  · simp (disch := first | trivial | assumption | omega | exact ynl rfl _ | exact znp_o rfl | rfl | (simp (disch := first | decide | omega) only [yfc, yr_so, yr_ss, yfcc, yr_cs]; first | assumption | omega)) only [yck_of, yb_id, yPI_some, yPJ_some, yPA_some, yPV_none, yfc, yr_so, yr_ss, yfcc, yr_cs, ybif_t, yrd_1, yrd_2, yfcl, ↓c_181, ↓c_182, ↓c_183, ↓c_184, ↓c_185, ↓c_186, ↓c_187, ↓c_73, ↓c_33, ↓c_23, ↓c_170, ↓c_168, ↓if_pos, ↓if_neg, yl_lt, yl_gt, yl_eq]
    have s6 : zi32 (zr m 4 3) := ⟨l6.1, by omega⟩
    have hA := fun k => yDays_ag (v := zr m 5) (v' := zr m 253) (c := zr m 4 1) (s := zr m 4 3) l7 l2.1 l2.2 s6 k
    -- what both come to
    have hM : zcI (d + 9) 308 [zA 236, zI n] (yLM m (yDays n (zr m 5, zr m 4 1, zr m 4 3)).1 (yDays n (zr m 5, zr m 4 1, zr m 4 3)).2.1 (yDays n (zr m 5, zr m 4 1, zr m 4 3)).2.2) (fun v2 m2 => Q (yDays n (zr m 5, zr m 4 1, zr m 4 3)).2.1 v2 m2) := by
      generalize hM1 : yLM m (yDays n (zr m 5, zr m 4 1, zr m 4 3)).1 (yDays n (zr m 5, zr m 4 1, zr m 4 3)).2.1 (yDays n (zr m 5, zr m 4 1, zr m 4 3)).2.2 = m1
      have f253 : zr m1 253 = zr m 253 := funext fun j => by rw [← hM1]; exact yLM_o _ _ _ _ (by decide) (by omega)
      have f9 : zr m1 236 9 = zr m 236 9 := by rw [← hM1]; exact yLM_o _ _ _ _ (by decide) (by omega)
      have f12 : zr m1 236 12 = zr m 236 12 := by rw [← hM1]; exact yLM_o _ _ _ _ (by decide) (by omega)
      refine w_308 ?_
      simp (disch := first | trivial | assumption | omega | exact ynl rfl _ | exact znp_o rfl | rfl | (simp (disch := first | decide | omega) only [yfc, yr_so, yr_ss, yfcc, yr_cs]; first | assumption | omega)) only [yck_of, yb_id, yPI_some, yPJ_some, yPA_some, yPV_none, yfc, yr_so, yr_ss, yfcc, yr_cs, ybif_t, yrd_1, yrd_2, yfcl, ↓c_192, ↓c_193, ↓c_194, ↓c_251, ↓c_264, ↓c_191, ↓if_pos, ↓if_neg, yl_lt, yl_gt, yl_eq]
      have e0 : m1 = yMM m1 (yDays 0 (zr m 253, zr m 4 1, zr m 4 3)).1 (yDays 0 (zr m 253, zr m 4 1, zr m 4 3)).2.1 (yDays 0 (zr m 253, zr m 4 1, zr m 4 3)).2.2 := by
        show m1 = yMM m1 (zr m 253) (zr m 4 1) (zr m 4 3)
        rw [← f253, l1, l5, ← f9, ← f12]
        exact yMM_id m1
      have key := yfor (fun i => ∀ o3 o4 o5 o6, zwpN (d + 9) 308 21 [some (zA 236), some (zI n), some (zI i), o3, o4, o5, o6] [] (yMM m1 (yDays i (zr m 253, zr m 4 1, zr m 4 3)).1 (yDays i (zr m 253, zr m 4 1, zr m 4 3)).2.1 (yDays i (zr m 253, zr m 4 1, zr m 4 3)).2.2) (zPI fun v2 m2 => Q (yDays n (zr m 5, zr m 4 1, zr m 4 3)).2.1 v2 m2)) 0 n (by omega) (fun i i0 i1 hW o3 o4 o5 o6 => ?_) (fun o3 o4 o5 o6 => ?_)
      · have k := key none none none none
        rw [← e0] at k
        exact k
      · have hb := hA i.toNat
        rw [yDays_s i0] at hW
        refine c_308d (d := d + 5) (n := n) ?_ ?_ i0 i1 q1.2 hW
        · show 0 ≤ (yDaysN i.toNat (zr m 253, zr m 4 1, zr m 4 3)).2.1
          rw [← hb.1]; exact hb.2.2.1.1
        · show (yDaysN i.toNat (zr m 253, zr m 4 1, zr m 4 3)).2.1 ≤ 60
          rw [← hb.1]; exact hb.2.2.1.2
      · refine w_308_21 ?_
        rw [if_neg (by omega), yMM_1]
        have hb : (yDays n (zr m 5, zr m 4 1, zr m 4 3)).2 = (yDays n (zr m 253, zr m 4 1, zr m 4 3)).2 := (hA n.toNat).1
        have hg := (hA n.toNat).2
        rw [← hb]
        show Q _ _ _
        refine hQ _ _ (yInv_L I (fun a ha => ?_) (fun j hj => ?_) ?_)
        · funext j
          rw [yMM_o _ _ _ _ (by omega) (by omega), ← hM1, yLM_o _ _ _ _ (by omega) (by omega)]
        · rw [yMM_o _ _ _ _ (by omega) (by omega), ← hM1, yLM_o _ _ _ _ (by omega) (by omega)]
        · rw [yMM_1, yMM_3, yMM_5, yMM_o _ _ _ _ (by decide) (by omega), yMM_o _ _ _ _ (by decide) (by omega), yMM_o _ _ _ _ (by decide) (by omega), yMM_o _ _ _ _ (by decide) (by omega)]
          have f5 : zr (yMM m1 (yDays n (zr m 253, zr m 4 1, zr m 4 3)).1 (yDays n (zr m 5, zr m 4 1, zr m 4 3)).2.1 (yDays n (zr m 5, zr m 4 1, zr m 4 3)).2.2) 5 = (yDays n (zr m 5, zr m 4 1, zr m 4 3)).1 := funext fun j => by
            rw [yMM_o _ _ _ _ (by decide) (by omega), ← hM1, yLM_5]
          rw [f5, ← hM1, yLM_1, yLM_3, yLM_o _ _ _ _ (by decide) (by omega), yLM_o _ _ _ _ (by decide) (by omega)]
          have h6 : zi32 (yDays n (zr m 5, zr m 4 1, zr m 4 3)).2.2 := hg.2.2
          exact ⟨rfl, hg.2.1, l3, l4, rfl, ⟨h6.1, by have := h6.2; omega⟩, hg.1⟩
    have key := yfor (fun i => zwpN (d + 9) 163 19 [some (zA 3), some (zI n), some (zI i)] [] (yLM m (yDays i (zr m 5, zr m 4 1, zr m 4 3)).1 (yDays i (zr m 5, zr m 4 1, zr m 4 3)).2.1 (yDays i (zr m 5, zr m 4 1, zr m 4 3)).2.2) (zPI fun v1 m1 => zcI (d + 9) 308 [zA 236, zI n] m1 fun v2 m2 => Q v1 v2 m2)) 0 n (by omega) (fun i i0 i1 hW => ?_) ?_
    · have e0 : yLM m (yDays 0 (zr m 5, zr m 4 1, zr m 4 3)).1 (yDays 0 (zr m 5, zr m 4 1, zr m 4 3)).2.1 (yDays 0 (zr m 5, zr m 4 1, zr m 4 3)).2.2 = m := (yLM_id m).symm
      rw [e0] at key
      exact key
    · refine w_163_19 ?_
      have u1 : 0 ≤ (yDays i (zr m 5, zr m 4 1, zr m 4 3)).2.1 := (hA i.toNat).2.2.1.1
      have u2 : (yDays i (zr m 5, zr m 4 1, zr m 4 3)).2.1 ≤ 60 := (hA i.toNat).2.2.1.2
      rw [if_pos i1, c_43 (d := d + 4) u1 u2, yb_id (by omega) (by omega)]
      rw [yDays_s i0] at hW
      exact hW
    · refine w_163_19 ?_
      rw [if_neg (by omega), yLM_1]
      exact hM
  · simp (disch := first | trivial | assumption | omega | exact ynl rfl _ | exact znp_o rfl | rfl | (simp (disch := first | decide | omega) only [yfc, yr_so, yr_ss, yfcc, yr_cs]; first | assumption | omega)) only [yck_of, yb_id, yPI_some, yPJ_some, yPA_some, yPV_none, yfc, yr_so, yr_ss, yfcc, yr_cs, ybif_t, yrd_1, yrd_2, yfcl, ↓c_181, ↓c_182, ↓c_183, ↓c_184, ↓c_185, ↓c_186, ↓c_187, ↓c_73, ↓c_33, ↓c_23, ↓c_170, ↓c_168, ↓if_pos, ↓if_neg, yl_lt, yl_gt, yl_eq]
    (refine w_308 ?_; simp (disch := first | trivial | assumption | omega | exact ynl rfl _ | exact znp_o rfl | rfl | (simp (disch := first | decide | omega) only [yfc, yr_so, yr_ss, yfcc, yr_cs]; first | assumption | omega)) only [yck_of, yb_id, yPI_some, yPJ_some, yPA_some, yPV_none, yfc, yr_so, yr_ss, yfcc, yr_cs, ybif_t, yrd_1, yrd_2, yfcl, ↓c_192, ↓c_193, ↓c_194, ↓c_251, ↓c_264, ↓c_191, ↓if_pos, ↓if_neg, yl_lt, yl_gt, yl_eq]; exact p_ref (by decide) (by decide) I (hQ _))
end PD
