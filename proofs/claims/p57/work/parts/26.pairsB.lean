/-! ===== pairs: shelves, lines, the tape ===== -/
theorem yInv_S1 {L : Int} {xs : Int → Int} {m m2 : ZN} (I : yInv L xs m) (s : Int) (f : ∀ a : Int, a ≠ 213 → a ≠ 214 → a ≠ 215 → a ≠ 237 → a ≠ 238 → a ≠ 239 → a ≠ 250 → ¬ (241 ≤ a ∧ a ≤ 248) → a ≠ 249 → zr m2 a = zr m a)
    (o : ∀ s', 0 ≤ s' → s' < 8 → s' ≠ s → zr m2 213 s' = zr m 213 s' ∧ zr m2 214 s' = zr m 214 s' ∧ zr m2 237 s' = zr m 237 s' ∧ zr m2 238 s' = zr m 238 s' ∧ zr m2 239 s' = zr m 239 s' ∧ zr m2 250 s' = zr m 250 s' ∧ zr m2 (241 + s') = zr m (241 + s') ∧ ∀ i, 0 ≤ i → i < 40 → zr m2 215 (40 * s' + i) = zr m 215 (40 * s' + i))
    (n : 0 ≤ s → s < 8 → yIS (zr m2 213 s) (zr m2 214 s) (fun i => zr m2 215 (40 * s + i)) (zr m2 237 s) (zr m2 238 s) (zr m2 239 s) (zr m2 250 s) (zr m2 (241 + s)) (zr m 8 1)) : yInv L xs m2 := by
  -- the scratch row 249 counts as changed by Sc
  have I2 : yInv L xs (zcc m 249 (zr m2 249)) := yInv_Sc I ((ySc.refl m).cc _ (fun j => by unfold yscr; omega))
  have np : ∀ j, znp' 249 j = true := ynl rfl
  refine yInv_S I2 (fun a ha => ?_) (fun j hj => ?_) ?_
  · by_cases e : a = 249
    · subst e
      rw [yfcs np]
    · rw [yfcc e, f a (by omega) (by omega) (by omega) (by omega) (by omega) (by omega) (by omega) (by omega) e]
  · rw [yr_cc (by decide), f 236 (by omega) (by omega) (by omega) (by omega) (by omega) (by omega) (by omega) (by omega) (by omega)]
  · intro s' s0 s1
    rw [f 8 (by omega) (by omega) (by omega) (by omega) (by omega) (by omega) (by omega) (by omega) (by omega)]
    by_cases e : s' = s
    · subst e
      exact n s0 s1
    · obtain ⟨o1, o2, o3, o4, o5, o6, o7, o8⟩ := o s' s0 s1 e
      rw [o1, o2, o3, o4, o5, o6, o7]
      rcases I.2.2.2.2.1 s' s0 s1 with q | q | q
      · exact Or.inl q
      · exact Or.inr (Or.inl ⟨q.1, q.2.1, q.2.2.1, q.2.2.2.1, q.2.2.2.2.1, fun i i0 i1 => (o8 i i0 (by omega)).trans (q.2.2.2.2.2 i i0 i1)⟩)
      · exact Or.inr (Or.inr q)
theorem znp_o {a j : Int} (h : (zpv a j).isNone = true) : znp' a j = true := h
def yfit (t v : Int) : Int := if t = 0 then zi2b (zb v) else if t = 1 then zi2s (zb v) else if t = 2 then zb v else if t = 3 then v else if v = 0 then 0 else 1
section PB
variable {d : Nat} {m : ZN} {L : Int} {xs : Int → Int} {Q : Int → Int → ZN → Prop}
theorem c_87 (t v : Int) (K : Int → ZN → Prop) : zcJ d 87 [zI t, zJ v] m K = K (yfit t v) m := by
  refine zcJ_eq (w_87 ?_) K
  simp only [yl_eq]
  unfold yfit
  repeat' split
  all_goals exact ⟨rfl, trivial⟩
theorem c_197 (t v : Int) (K : Int → ZN → Prop) : zcJ d 197 [zI t, zJ v] m K = K (yfit t v) m := by
  refine zcJ_eq (w_197 ?_) K
  simp only [yl_eq]
  unfold yfit
  repeat' split
  all_goals exact ⟨rfl, trivial⟩
theorem c_85 {s i v : Int} (h1 : 0 ≤ s) (h2 : s < 8) (h3 : 0 ≤ i) (h4 : i < 40) (K : ZN → Prop) : zcV (d + 1) 85 [zA 212, zI s, zI i, zJ v] m K = K (zsn m 215 (40 * s + i) (yfit (zr m 213 s) v)) := by
  refine zcV_eq (w_85 ?_) K
  simp (disch := first | trivial | assumption | omega | exact ynl rfl _ | exact znp_o rfl | rfl | (simp (disch := first | decide | omega) only [yfc, yr_so, yr_ss, yfcc, yr_cs]; first | assumption | omega)) only [yck_of, yb_id, yPI_some, yPJ_some, yPA_some, yPV_none, yfc, yr_so, yr_ss, yfcc, yr_cs, ybif_t, yrd_1, yrd_2, ym40, ↓c_87]
theorem c_198_1 {s : Int} (h1 : 0 ≤ s) (h2 : s < 8) (h : zr m 237 s = 1) (K : Int → ZN → Prop) : zcI (d + 1) 198 [zA 236, zI s] m K = K 0 m := by
  refine zcI_eq (w_198 ?_) K
  simp (disch := first | trivial | assumption | omega | exact ynl rfl _ | exact znp_o rfl | rfl | (simp (disch := first | decide | omega) only [yfc, yr_so, yr_ss, yfcc, yr_cs]; first | assumption | omega)) only [yck_of, yb_id, yPI_some, yPJ_some, yPA_some, yPV_none, yfc, yr_so, yr_ss, yfcc, yr_cs, ybif_t, yrd_1, yrd_2, ↓c_192, ↓c_193, ↓c_194, ↓c_251, ↓c_264, ↓c_191, ↓if_pos, ↓if_neg, yl_lt, yl_gt, yl_eq, and_self]
theorem c_198_2 {s : Int} (h1 : 0 ≤ s) (h2 : s < 8) (h : zr m 237 s = 2) (K : Int → ZN → Prop) : zcI (d + 1) 198 [zA 236, zI s] m K = K (-103) (zsn m 252 (-(-103) - 100) (zb (zr m 252 (-(-103) - 100) + 1))) := by
  refine zcI_eq (w_198 ?_) K
  simp (disch := first | trivial | assumption | omega | exact ynl rfl _ | exact znp_o rfl | rfl | (simp (disch := first | decide | omega) only [yfc, yr_so, yr_ss, yfcc, yr_cs]; first | assumption | omega)) only [yck_of, yb_id, yPI_some, yPJ_some, yPA_some, yPV_none, yfc, yr_so, yr_ss, yfcc, yr_cs, ybif_t, yrd_1, yrd_2, ↓c_192, ↓c_193, ↓c_194, ↓c_251, ↓c_264, ↓c_191, ↓if_pos, ↓if_neg, yl_lt, yl_gt, yl_eq, and_self]
theorem c_198_0 {s : Int} (h1 : 0 ≤ s) (h2 : s < 8) (h : zr m 237 s = 0) (K : Int → ZN → Prop) : zcI (d + 1) 198 [zA 236, zI s] m K = K (-104) (zsn m 252 (-(-104) - 100) (zb (zr m 252 (-(-104) - 100) + 1))) := by
  refine zcI_eq (w_198 ?_) K
  simp (disch := first | trivial | assumption | omega | exact ynl rfl _ | exact znp_o rfl | rfl | (simp (disch := first | decide | omega) only [yfc, yr_so, yr_ss, yfcc, yr_cs]; first | assumption | omega)) only [yck_of, yb_id, yPI_some, yPJ_some, yPA_some, yPV_none, yfc, yr_so, yr_ss, yfcc, yr_cs, ybif_t, yrd_1, yrd_2, ↓c_192, ↓c_193, ↓c_194, ↓c_251, ↓c_264, ↓c_191, ↓if_pos, ↓if_neg, yl_lt, yl_gt, yl_eq, and_self]
theorem c_198_b {s : Int} (h1 : ¬ (0 ≤ s ∧ s ≤ 7)) (K : Int → ZN → Prop) : zcI (d + 1) 198 [zA 236, zI s] m K = K (-102) (zsn m 252 (-(-102) - 100) (zb (zr m 252 (-(-102) - 100) + 1))) := by
  refine zcI_eq (w_198 ?_) K
  simp (disch := first | trivial | assumption | omega | exact ynl rfl _ | exact znp_o rfl | rfl | (simp (disch := first | decide | omega) only [yfc, yr_so, yr_ss, yfcc, yr_cs]; first | assumption | omega)) only [yck_of, yb_id, yPI_some, yPJ_some, yPA_some, yPV_none, yfc, yr_so, yr_ss, yfcc, yr_cs, ybif_t, yrd_1, yrd_2, ↓c_192, ↓c_193, ↓c_194, ↓c_251, ↓c_264, ↓c_191, ↓if_pos, ↓if_neg, yl_lt, yl_gt, yl_eq, and_self]
/-- what a shelf holds, in both -/
theorem yS3 (I : yInv L xs m) {s : Int} (h1 : 0 ≤ s) (h2 : s < 8) : (zr m 237 s = 0 ∧ zr m 213 s = -1) ∨ (zr m 237 s = 1 ∧ zr m 213 s = zr m 238 s ∧ (0 ≤ zr m 238 s ∧ zr m 238 s ≤ 4) ∧ zr m 214 s = zr m 239 s ∧ (0 ≤ zr m 239 s ∧ zr m 239 s ≤ 40) ∧ ∀ i, 0 ≤ i → i < zr m 239 s → zr m 215 (40 * s + i) = zr m (241 + s) i) ∨ (zr m 237 s = 2 ∧ zr m 213 s = 10 + zr m 250 s ∧ 0 ≤ zr m 250 s ∧ zr m 250 s < zr m 8 1) := I.2.2.2.2.1 s h1 h2
theorem p_set (I : yInv L xs m) (hQ : ∀ r m2, yInv L xs m2 → Q r r m2) (s i v : Int) : zcI (d + 9) 115 [zA 3, zI s, zI i, zJ v] m (fun v1 m1 => zcI (d + 9) 199 [zA 236, zI s, zI i, zJ v] m1 (fun v2 m2 => Q v1 v2 m2)) := by
  refine w_115 ?_
  by_cases q1 : 0 ≤ s ∧ s ≤ 7
  · rcases yS3 I (s := s) (by omega) (by omega) with ⟨a1, a2⟩ | ⟨a1, a2, a3, a4, a5, a6⟩ | ⟨a1, a2, a3, a4⟩
    · simp (disch := first | trivial | assumption | omega | exact ynl rfl _ | exact znp_o rfl | rfl | (simp (disch := first | decide | omega) only [yfc, yr_so, yr_ss, yfcc, yr_cs]; first | assumption | omega)) only [yck_of, yb_id, yPI_some, yPJ_some, yPA_some, yPV_none, yfc, yr_so, yr_ss, yfcc, yr_cs, ybif_t, yrd_1, yrd_2, ↓c_181, ↓c_182, ↓c_183, ↓c_184, ↓c_185, ↓c_186, ↓c_187, ↓c_73, ↓c_33, ↓c_23, ↓c_170, ↓c_168, ↓if_pos, ↓if_neg, yl_lt, yl_gt, yl_eq, ↓c_79]
      (refine w_199 ?_; simp (disch := first | trivial | assumption | omega | exact ynl rfl _ | exact znp_o rfl | rfl | (simp (disch := first | decide | omega) only [yfc, yr_so, yr_ss, yfcc, yr_cs]; first | assumption | omega)) only [yck_of, yb_id, yPI_some, yPJ_some, yPA_some, yPV_none, yfc, yr_so, yr_ss, yfcc, yr_cs, ybif_t, yrd_1, yrd_2, ↓c_192, ↓c_193, ↓c_194, ↓c_251, ↓c_264, ↓c_191, ↓if_pos, ↓if_neg, yl_lt, yl_gt, yl_eq, ↓c_198_0]; exact p_ref (by decide) (by decide) I (hQ _))
    · by_cases q2 : 0 ≤ i ∧ i < zr m 239 s
      · simp (disch := first | trivial | assumption | omega | exact ynl rfl _ | exact znp_o rfl | rfl | (simp (disch := first | decide | omega) only [yfc, yr_so, yr_ss, yfcc, yr_cs]; first | assumption | omega)) only [yck_of, yb_id, yPI_some, yPJ_some, yPA_some, yPV_none, yfc, yr_so, yr_ss, yfcc, yr_cs, ybif_t, yrd_1, yrd_2, ↓c_181, ↓c_182, ↓c_183, ↓c_184, ↓c_185, ↓c_186, ↓c_187, ↓c_73, ↓c_33, ↓c_23, ↓c_170, ↓c_168, ↓if_pos, ↓if_neg, yl_lt, yl_gt, yl_eq, ↓c_79, ↓c_82, ↓c_85]
        refine w_199 ?_
        simp (disch := first | trivial | assumption | omega | exact ynl rfl _ | exact znp_o rfl | rfl | (simp (disch := first | decide | omega) only [yfc, yr_so, yr_ss, yfcc, yr_cs]; first | assumption | omega)) only [yck_of, yb_id, yPI_some, yPJ_some, yPA_some, yPV_none, yfc, yr_so, yr_ss, yfcc, yr_cs, ybif_t, yrd_1, yrd_2, isR_J, isR_n, isR_np, isR_r, isR_p, yl_p, yk_p, ↓c_192, ↓c_193, ↓c_194, ↓c_251, ↓c_264, ↓c_191, ↓if_pos, ↓if_neg, yl_lt, yl_gt, yl_eq, ↓c_198_1, ↓c_197, yle1]
        refine hQ _ _ (yInv_S1 I s (fun a b1 b2 b3 b4 b5 b6 b7 b8 b9 => ?_) (fun s' s0 s1 sn => ?_) (fun _ _ => ?_))
        · rw [yfc (by omega), yfc (by omega)]
        · have e3 : ∀ j, znp' 215 j = true := ynl rfl
          simp (disch := first | trivial | assumption | omega | exact ynl rfl _ | exact znp_o rfl | rfl | (simp (disch := first | decide | omega) only [yfc, yr_so, yr_ss, yfcc, yr_cs]; first | assumption | omega)) only [yck_of, yb_id, yPI_some, yPJ_some, yPA_some, yPV_none, yfc, yr_so, yr_ss, yfcc, yr_cs, ybif_t, yrd_1, yrd_2, yr_sa (e3 _)]
          refine ⟨trivial, trivial, trivial, trivial, trivial, trivial, ?_, fun k k0 k1 => ?_⟩
          · trivial
          · rw [if_neg (by omega)]
        · have e3 : ∀ j, znp' 215 j = true := ynl rfl
          have e7 : ∀ j, znp' (241 + s) j = true := isR_np (by omega) (by omega)
          simp (disch := first | trivial | assumption | omega | exact ynl rfl _ | exact znp_o rfl | rfl | (simp (disch := first | decide | omega) only [yfc, yr_so, yr_ss, yfcc, yr_cs]; first | assumption | omega)) only [yck_of, yb_id, yPI_some, yPJ_some, yPA_some, yPV_none, yfc, yr_so, yr_ss, yfcc, yr_cs, ybif_t, yrd_1, yrd_2, yr_sa (e3 _)]
          refine Or.inr (Or.inl ⟨a1, a2, a3, a4, a5, fun k k0 k1 => ?_⟩)
          show (if 40 * s + k = 40 * s + i then yfit (zr m 213 s) v else zr m 215 (40 * s + k)) = _
          rw [yr_sa (e7 i), yr_sc (by omega), a2]
          by_cases e : k = i
          · rw [if_pos (by omega), if_pos e]
          · rw [if_neg (by omega), if_neg e]
            exact a6 k k0 k1
      · simp (disch := first | trivial | assumption | omega | exact ynl rfl _ | exact znp_o rfl | rfl | (simp (disch := first | decide | omega) only [yfc, yr_so, yr_ss, yfcc, yr_cs]; first | assumption | omega)) only [yck_of, yb_id, yPI_some, yPJ_some, yPA_some, yPV_none, yfc, yr_so, yr_ss, yfcc, yr_cs, ybif_t, yrd_1, yrd_2, ↓c_181, ↓c_182, ↓c_183, ↓c_184, ↓c_185, ↓c_186, ↓c_187, ↓c_73, ↓c_33, ↓c_23, ↓c_170, ↓c_168, ↓if_pos, ↓if_neg, yl_lt, yl_gt, yl_eq, ↓c_79, ↓c_82, ↓c_85]
        (refine w_199 ?_; simp (disch := first | trivial | assumption | omega | exact ynl rfl _ | exact znp_o rfl | rfl | (simp (disch := first | decide | omega) only [yfc, yr_so, yr_ss, yfcc, yr_cs]; first | assumption | omega)) only [yck_of, yb_id, yPI_some, yPJ_some, yPA_some, yPV_none, yfc, yr_so, yr_ss, yfcc, yr_cs, ybif_t, yrd_1, yrd_2, ↓c_192, ↓c_193, ↓c_194, ↓c_251, ↓c_264, ↓c_191, ↓if_pos, ↓if_neg, yl_lt, yl_gt, yl_eq, ↓c_198_1, yle1]; exact p_ref (by decide) (by decide) I (hQ _))
    · simp (disch := first | trivial | assumption | omega | exact ynl rfl _ | exact znp_o rfl | rfl | (simp (disch := first | decide | omega) only [yfc, yr_so, yr_ss, yfcc, yr_cs]; first | assumption | omega)) only [yck_of, yb_id, yPI_some, yPJ_some, yPA_some, yPV_none, yfc, yr_so, yr_ss, yfcc, yr_cs, ybif_t, yrd_1, yrd_2, ↓c_181, ↓c_182, ↓c_183, ↓c_184, ↓c_185, ↓c_186, ↓c_187, ↓c_73, ↓c_33, ↓c_23, ↓c_170, ↓c_168, ↓if_pos, ↓if_neg, yl_lt, yl_gt, yl_eq, ↓c_79]
      (refine w_199 ?_; simp (disch := first | trivial | assumption | omega | exact ynl rfl _ | exact znp_o rfl | rfl | (simp (disch := first | decide | omega) only [yfc, yr_so, yr_ss, yfcc, yr_cs]; first | assumption | omega)) only [yck_of, yb_id, yPI_some, yPJ_some, yPA_some, yPV_none, yfc, yr_so, yr_ss, yfcc, yr_cs, ybif_t, yrd_1, yrd_2, ↓c_192, ↓c_193, ↓c_194, ↓c_251, ↓c_264, ↓c_191, ↓if_pos, ↓if_neg, yl_lt, yl_gt, yl_eq, ↓c_198_2]; exact p_ref (by decide) (by decide) I (hQ _))
  · simp (disch := first | trivial | assumption | omega | exact ynl rfl _ | exact znp_o rfl | rfl | (simp (disch := first | decide | omega) only [yfc, yr_so, yr_ss, yfcc, yr_cs]; first | assumption | omega)) only [yck_of, yb_id, yPI_some, yPJ_some, yPA_some, yPV_none, yfc, yr_so, yr_ss, yfcc, yr_cs, ybif_t, yrd_1, yrd_2, ↓c_181, ↓c_182, ↓c_183, ↓c_184, ↓c_185, ↓c_186, ↓c_187, ↓c_73, ↓c_33, ↓c_23, ↓c_170, ↓c_168, ↓if_pos, ↓if_neg, yl_lt, yl_gt, yl_eq]
    (refine w_199 ?_; simp (disch := first | trivial | assumption | omega | exact ynl rfl _ | exact znp_o rfl | rfl | (simp (disch := first | decide | omega) only [yfc, yr_so, yr_ss, yfcc, yr_cs]; first | assumption | omega)) only [yck_of, yb_id, yPI_some, yPJ_some, yPA_some, yPV_none, yfc, yr_so, yr_ss, yfcc, yr_cs, ybif_t, yrd_1, yrd_2, ↓c_192, ↓c_193, ↓c_194, ↓c_251, ↓c_264, ↓c_191, ↓if_pos, ↓if_neg, yl_lt, yl_gt, yl_eq, ↓c_198_b]; exact p_ref (by decide) (by decide) I (hQ _))
theorem yInv_show (I : yInv L xs m) {s h' sh' sn' : Int} (h1 : 0 ≤ s) (h2 : s < 8) (q : (sh' = 0 ∧ h' = -1) ∨ (sh' = 2 ∧ h' = 10 + sn' ∧ 0 ≤ sn' ∧ sn' < zr m 8 1)) : yInv L xs (zsn (zsn (zsn m 213 s h') 237 s sh') 250 s sn') := by
  refine yInv_S1 I s (fun a b1 b2 b3 b4 b5 b6 b7 b8 b9 => ?_) (fun s' s0 s1 sn => ?_) (fun _ _ => ?_)
  · rw [yfc (by omega), yfc (by omega), yfc (by omega)]
  · simp (disch := first | trivial | assumption | omega | exact ynl rfl _ | exact znp_o rfl | rfl | (simp (disch := first | decide | omega) only [yfc, yr_so, yr_ss, yfcc, yr_cs]; first | assumption | omega)) only [yck_of, yb_id, yPI_some, yPJ_some, yPA_some, yPV_none, yfc, yr_so, yr_ss, yfcc, yr_cs, ybif_t, yrd_1, yrd_2]
    refine ⟨trivial, trivial, trivial, trivial, trivial, trivial, ?_, fun _ _ _ => trivial⟩
    trivial
  · simp (disch := first | trivial | assumption | omega | exact ynl rfl _ | exact znp_o rfl | rfl | (simp (disch := first | decide | omega) only [yfc, yr_so, yr_ss, yfcc, yr_cs]; first | assumption | omega)) only [yck_of, yb_id, yPI_some, yPJ_some, yPA_some, yPV_none, yfc, yr_so, yr_ss, yfcc, yr_cs, ybif_t, yrd_1, yrd_2]
    rcases q with q | q
    · exact Or.inl q
    · exact Or.inr (Or.inr q)
theorem p_price (I : yInv L xs m) (hQ : ∀ r m2, yInv L xs m2 → Q r r m2) (v : Int) : zcI (d + 9) 124 [zA 3, zI v] m (fun v1 m1 => zcI (d + 9) 225 [zA 236, zI v] m1 (fun v2 m2 => Q v1 v2 m2)) := by
  obtain ⟨l1, l2, l3, l4, l5, l6, l7⟩ := I.2.1
  refine w_124 ?_
  by_cases q1 : 0 ≤ v ∧ v ≤ 20
  · simp (disch := first | trivial | assumption | omega | exact ynl rfl _ | exact znp_o rfl | rfl | (simp (disch := first | decide | omega) only [yfc, yr_so, yr_ss, yfcc, yr_cs]; first | assumption | omega)) only [yck_of, yb_id, yPI_some, yPJ_some, yPA_some, yPV_none, yfc, yr_so, yr_ss, yfcc, yr_cs, ybif_t, yrd_1, yrd_2, ↓c_181, ↓c_182, ↓c_183, ↓c_184, ↓c_185, ↓c_186, ↓c_187, ↓c_73, ↓c_33, ↓c_23, ↓c_170, ↓c_168, ↓if_pos, ↓if_neg, yl_lt, yl_gt, yl_eq]
    refine w_225 ?_
    simp (disch := first | trivial | assumption | omega | exact ynl rfl _ | exact znp_o rfl | rfl | (simp (disch := first | decide | omega) only [yfc, yr_so, yr_ss, yfcc, yr_cs]; first | assumption | omega)) only [yck_of, yb_id, yPI_some, yPJ_some, yPA_some, yPV_none, yfc, yr_so, yr_ss, yfcc, yr_cs, ybif_t, yrd_1, yrd_2, ↓c_192, ↓c_193, ↓c_194, ↓c_251, ↓c_264, ↓c_191, ↓if_pos, ↓if_neg, yl_lt, yl_gt, yl_eq]
    rw [← l3]
    refine hQ _ _ (yInv_L I (fun a ha => ?_) (fun j hj => ?_) ?_)
    · rw [yfc (by omega), yfc (by omega)]
    · rw [yr_so (by omega), yr_sc (by decide)]
    · simp (disch := first | trivial | assumption | omega | exact ynl rfl _ | exact znp_o rfl | rfl | (simp (disch := first | decide | omega) only [yfc, yr_so, yr_ss, yfcc, yr_cs]; first | assumption | omega)) only [yck_of, yb_id, yPI_some, yPJ_some, yPA_some, yPV_none, yfc, yr_so, yr_ss, yfcc, yr_cs, ybif_t, yrd_1, yrd_2]
      exact ⟨l1, l2, rfl, q1, l5, l6, l7⟩
  · simp (disch := first | trivial | assumption | omega | exact ynl rfl _ | exact znp_o rfl | rfl | (simp (disch := first | decide | omega) only [yfc, yr_so, yr_ss, yfcc, yr_cs]; first | assumption | omega)) only [yck_of, yb_id, yPI_some, yPJ_some, yPA_some, yPV_none, yfc, yr_so, yr_ss, yfcc, yr_cs, ybif_t, yrd_1, yrd_2, ↓c_181, ↓c_182, ↓c_183, ↓c_184, ↓c_185, ↓c_186, ↓c_187, ↓c_73, ↓c_33, ↓c_23, ↓c_170, ↓c_168, ↓if_pos, ↓if_neg, yl_lt, yl_gt, yl_eq]
    (refine w_225 ?_; simp (disch := first | trivial | assumption | omega | exact ynl rfl _ | exact znp_o rfl | rfl | (simp (disch := first | decide | omega) only [yfc, yr_so, yr_ss, yfcc, yr_cs]; first | assumption | omega)) only [yck_of, yb_id, yPI_some, yPJ_some, yPA_some, yPV_none, yfc, yr_so, yr_ss, yfcc, yr_cs, ybif_t, yrd_1, yrd_2, ↓c_192, ↓c_193, ↓c_194, ↓c_251, ↓c_264, ↓c_191, ↓if_pos, ↓if_neg, yl_lt, yl_gt, yl_eq]; exact p_ref (by decide) (by decide) I (hQ _))
theorem p_line (I : yInv L xs m) (hQ : ∀ r m2, yInv L xs m2 → Q r r m2) (a b c : Int) : zcI (d + 9) 121 [zA 3, zI a, zI b, zI c] m (fun v m1 => zcI (d + 9) 221 [zA 236, zI a, zI b, zI c] m1 (fun v2 m2 => Q v v2 m2)) := by
  obtain ⟨l1, l2, l3, l4, l5, l6, l7⟩ := I.2.1
  refine w_121 ?_
  by_cases q1 : 0 ≤ a ∧ a ≤ 9
  · by_cases q2 : 0 ≤ b ∧ b ≤ 9
    · by_cases q3 : 0 ≤ c ∧ c ≤ 9
      · by_cases q4 : zr m 4 1 < 60
        · simp (disch := first | trivial | assumption | omega | exact ynl rfl _ | exact znp_o rfl | rfl | (simp (disch := first | decide | omega) only [yfc, yr_so, yr_ss, yfcc, yr_cs]; first | assumption | omega)) only [yck_of, yb_id, yPI_some, yPJ_some, yPA_some, yPV_none, yfc, yr_so, yr_ss, yfcc, yr_cs, ybif_t, yrd_1, yrd_2, ↓c_181, ↓c_182, ↓c_183, ↓c_184, ↓c_185, ↓c_186, ↓c_187, ↓c_73, ↓c_33, ↓c_23, ↓c_170, ↓c_168, ↓if_pos, ↓if_neg, yl_lt, yl_gt, yl_eq, ↓c_37]
          refine w_221 ?_
          simp (disch := first | trivial | assumption | omega | exact ynl rfl _ | exact znp_o rfl | rfl | (simp (disch := first | decide | omega) only [yfc, yr_so, yr_ss, yfcc, yr_cs]; first | assumption | omega)) only [yck_of, yb_id, yPI_some, yPJ_some, yPA_some, yPV_none, yfc, yr_so, yr_ss, yfcc, yr_cs, ybif_t, yrd_1, yrd_2, ↓c_192, ↓c_193, ↓c_194, ↓c_251, ↓c_264, ↓c_191, ↓if_pos, ↓if_neg, yl_lt, yl_gt, yl_eq, ↓c_220]
          rw [show zr m 4 1 + 1 - 1 = zr m 236 9 by omega]
          refine hQ _ _ (yInv_L I (fun a ha => ?_) (fun j hj => ?_) ?_)
          · rw [yfc (by omega), yfc (by omega), yfc (by omega), yfc (by omega), yfc (by omega), yfc (by omega), yfc (by omega), yfc (by omega)]
          · rw [yr_so (by omega), yr_sc (by decide), yr_sc (by decide), yr_sc (by decide), yr_sc (by decide), yr_sc (by decide), yr_sc (by decide), yr_sc (by decide)]
          · simp (disch := first | trivial | assumption | omega | exact ynl rfl _ | exact znp_o rfl | rfl | (simp (disch := first | decide | omega) only [yfc, yr_so, yr_ss, yfcc, yr_cs]; first | assumption | omega)) only [yck_of, yb_id, yPI_some, yPJ_some, yPA_some, yPV_none, yfc, yr_so, yr_ss, yfcc, yr_cs, ybif_t, yrd_1, yrd_2]
            refine ⟨by omega, by omega, l3, l4, l5, l6, fun j j0 j1 => ?_⟩
            have e1 : ∀ j, znp' 5 j = true := ynl rfl
            have e2 : ∀ j, znp' 253 j = true := ynl rfl
            simp (disch := first | trivial | assumption | omega | exact ynl rfl _ | exact znp_o rfl | rfl | (simp (disch := first | decide | omega) only [yfc, yr_so, yr_ss, yfcc, yr_cs]; first | assumption | omega)) only [yck_of, yb_id, yPI_some, yPJ_some, yPA_some, yPV_none, yfc, yr_so, yr_ss, yfcc, yr_cs, ybif_t, yrd_1, yrd_2, yr_sa (e1 _), yr_sa (e2 _)]
            rw [← l1]
            by_cases z2 : j = 3 * zr m 4 1 + 2
            · rw [if_pos z2, if_pos z2]; exact ⟨rfl, q3⟩
            · rw [if_neg z2, if_neg z2]
              by_cases z1 : j = 3 * zr m 4 1 + 1
              · rw [if_pos z1, if_pos z1]; exact ⟨rfl, q2⟩
              · rw [if_neg z1, if_neg z1]
                by_cases z0 : j = 3 * zr m 4 1
                · rw [if_pos z0, if_pos z0]; exact ⟨rfl, q1⟩
                · rw [if_neg z0, if_neg z0]; exact l7 j j0 (by omega)
        · simp (disch := first | trivial | assumption | omega | exact ynl rfl _ | exact znp_o rfl | rfl | (simp (disch := first | decide | omega) only [yfc, yr_so, yr_ss, yfcc, yr_cs]; first | assumption | omega)) only [yck_of, yb_id, yPI_some, yPJ_some, yPA_some, yPV_none, yfc, yr_so, yr_ss, yfcc, yr_cs, ybif_t, yrd_1, yrd_2, ↓c_181, ↓c_182, ↓c_183, ↓c_184, ↓c_185, ↓c_186, ↓c_187, ↓c_73, ↓c_33, ↓c_23, ↓c_170, ↓c_168, ↓if_pos, ↓if_neg, yl_lt, yl_gt, yl_eq]
          (refine w_221 ?_; simp (disch := first | trivial | assumption | omega | exact ynl rfl _ | exact znp_o rfl | rfl | (simp (disch := first | decide | omega) only [yfc, yr_so, yr_ss, yfcc, yr_cs]; first | assumption | omega)) only [yck_of, yb_id, yPI_some, yPJ_some, yPA_some, yPV_none, yfc, yr_so, yr_ss, yfcc, yr_cs, ybif_t, yrd_1, yrd_2, ↓c_192, ↓c_193, ↓c_194, ↓c_251, ↓c_264, ↓c_191, ↓if_pos, ↓if_neg, yl_lt, yl_gt, yl_eq]; exact p_ref (by decide) (by decide) I (hQ _))
      · simp (disch := first | trivial | assumption | omega | exact ynl rfl _ | exact znp_o rfl | rfl | (simp (disch := first | decide | omega) only [yfc, yr_so, yr_ss, yfcc, yr_cs]; first | assumption | omega)) only [yck_of, yb_id, yPI_some, yPJ_some, yPA_some, yPV_none, yfc, yr_so, yr_ss, yfcc, yr_cs, ybif_t, yrd_1, yrd_2, ↓c_181, ↓c_182, ↓c_183, ↓c_184, ↓c_185, ↓c_186, ↓c_187, ↓c_73, ↓c_33, ↓c_23, ↓c_170, ↓c_168, ↓if_pos, ↓if_neg, yl_lt, yl_gt, yl_eq]
        (refine w_221 ?_; simp (disch := first | trivial | assumption | omega | exact ynl rfl _ | exact znp_o rfl | rfl | (simp (disch := first | decide | omega) only [yfc, yr_so, yr_ss, yfcc, yr_cs]; first | assumption | omega)) only [yck_of, yb_id, yPI_some, yPJ_some, yPA_some, yPV_none, yfc, yr_so, yr_ss, yfcc, yr_cs, ybif_t, yrd_1, yrd_2, ↓c_192, ↓c_193, ↓c_194, ↓c_251, ↓c_264, ↓c_191, ↓if_pos, ↓if_neg, yl_lt, yl_gt, yl_eq]; exact p_ref (by decide) (by decide) I (hQ _))
    · simp (disch := first | trivial | assumption | omega | exact ynl rfl _ | exact znp_o rfl | rfl | (simp (disch := first | decide | omega) only [yfc, yr_so, yr_ss, yfcc, yr_cs]; first | assumption | omega)) only [yck_of, yb_id, yPI_some, yPJ_some, yPA_some, yPV_none, yfc, yr_so, yr_ss, yfcc, yr_cs, ybif_t, yrd_1, yrd_2, ↓c_181, ↓c_182, ↓c_183, ↓c_184, ↓c_185, ↓c_186, ↓c_187, ↓c_73, ↓c_33, ↓c_23, ↓c_170, ↓c_168, ↓if_pos, ↓if_neg, yl_lt, yl_gt, yl_eq]
      (refine w_221 ?_; simp (disch := first | trivial | assumption | omega | exact ynl rfl _ | exact znp_o rfl | rfl | (simp (disch := first | decide | omega) only [yfc, yr_so, yr_ss, yfcc, yr_cs]; first | assumption | omega)) only [yck_of, yb_id, yPI_some, yPJ_some, yPA_some, yPV_none, yfc, yr_so, yr_ss, yfcc, yr_cs, ybif_t, yrd_1, yrd_2, ↓c_192, ↓c_193, ↓c_194, ↓c_251, ↓c_264, ↓c_191, ↓if_pos, ↓if_neg, yl_lt, yl_gt, yl_eq]; exact p_ref (by decide) (by decide) I (hQ _))
  · simp (disch := first | trivial | assumption | omega | exact ynl rfl _ | exact znp_o rfl | rfl | (simp (disch := first | decide | omega) only [yfc, yr_so, yr_ss, yfcc, yr_cs]; first | assumption | omega)) only [yck_of, yb_id, yPI_some, yPJ_some, yPA_some, yPV_none, yfc, yr_so, yr_ss, yfcc, yr_cs, ybif_t, yrd_1, yrd_2, ↓c_181, ↓c_182, ↓c_183, ↓c_184, ↓c_185, ↓c_186, ↓c_187, ↓c_73, ↓c_33, ↓c_23, ↓c_170, ↓c_168, ↓if_pos, ↓if_neg, yl_lt, yl_gt, yl_eq]
    (refine w_221 ?_; simp (disch := first | trivial | assumption | omega | exact ynl rfl _ | exact znp_o rfl | rfl | (simp (disch := first | decide | omega) only [yfc, yr_so, yr_ss, yfcc, yr_cs]; first | assumption | omega)) only [yck_of, yb_id, yPI_some, yPJ_some, yPA_some, yPV_none, yfc, yr_so, yr_ss, yfcc, yr_cs, ybif_t, yrd_1, yrd_2, ↓c_192, ↓c_193, ↓c_194, ↓c_251, ↓c_264, ↓c_191, ↓if_pos, ↓if_neg, yl_lt, yl_gt, yl_eq]; exact p_ref (by decide) (by decide) I (hQ _))
theorem p_alter (I : yInv L xs m) (hQ : ∀ r m2, yInv L xs m2 → Q r r m2) (n c v : Int) : zcI (d + 9) 122 [zA 3, zI n, zI c, zI v] m (fun v1 m1 => zcI (d + 9) 222 [zA 236, zI n, zI c, zI v] m1 (fun v2 m2 => Q v1 v2 m2)) := by
  obtain ⟨l1, l2, l3, l4, l5, l6, l7⟩ := I.2.1
  refine w_122 ?_
  by_cases q1 : 0 ≤ n ∧ n < zr m 4 1
  · by_cases q2 : 0 ≤ c ∧ c ≤ 2
    · by_cases q3 : 0 ≤ v ∧ v ≤ 9
      · simp (disch := first | trivial | assumption | omega | exact ynl rfl _ | exact znp_o rfl | rfl | (simp (disch := first | decide | omega) only [yfc, yr_so, yr_ss, yfcc, yr_cs]; first | assumption | omega)) only [yck_of, yb_id, yPI_some, yPJ_some, yPA_some, yPV_none, yfc, yr_so, yr_ss, yfcc, yr_cs, ybif_t, yrd_1, yrd_2, ↓c_181, ↓c_182, ↓c_183, ↓c_184, ↓c_185, ↓c_186, ↓c_187, ↓c_73, ↓c_33, ↓c_23, ↓c_170, ↓c_168, ↓if_pos, ↓if_neg, yl_lt, yl_gt, yl_eq, ↓c_34, ↓c_35]
        refine w_222 ?_
        simp (disch := first | trivial | assumption | omega | exact ynl rfl _ | exact znp_o rfl | rfl | (simp (disch := first | decide | omega) only [yfc, yr_so, yr_ss, yfcc, yr_cs]; first | assumption | omega)) only [yck_of, yb_id, yPI_some, yPJ_some, yPA_some, yPV_none, yfc, yr_so, yr_ss, yfcc, yr_cs, ybif_t, yrd_1, yrd_2, ↓c_192, ↓c_193, ↓c_194, ↓c_251, ↓c_264, ↓c_191, ↓if_pos, ↓if_neg, yl_lt, yl_gt, yl_eq, ↓c_194]
        rw [(l7 (3 * n + c) (by omega) (by omega)).1]
        refine hQ _ _ (yInv_L I (fun a ha => ?_) (fun j hj => ?_) ?_)
        · rw [yfc (by omega), yfc (by omega)]
        · rw [yr_sc (by decide), yr_sc (by decide)]
        · simp (disch := first | trivial | assumption | omega | exact ynl rfl _ | exact znp_o rfl | rfl | (simp (disch := first | decide | omega) only [yfc, yr_so, yr_ss, yfcc, yr_cs]; first | assumption | omega)) only [yck_of, yb_id, yPI_some, yPJ_some, yPA_some, yPV_none, yfc, yr_so, yr_ss, yfcc, yr_cs, ybif_t, yrd_1, yrd_2]
          refine ⟨l1, l2, l3, l4, l5, l6, fun j j0 j1 => ?_⟩
          have e1 : ∀ j, znp' 5 j = true := ynl rfl
          have e2 : ∀ j, znp' 253 j = true := ynl rfl
          simp (disch := first | trivial | assumption | omega | exact ynl rfl _ | exact znp_o rfl | rfl | (simp (disch := first | decide | omega) only [yfc, yr_so, yr_ss, yfcc, yr_cs]; first | assumption | omega)) only [yck_of, yb_id, yPI_some, yPJ_some, yPA_some, yPV_none, yfc, yr_so, yr_ss, yfcc, yr_cs, ybif_t, yrd_1, yrd_2, yr_sa (e1 _), yr_sa (e2 _)]
          by_cases z : j = 3 * n + c
          · rw [if_pos z, if_pos z]; exact ⟨rfl, q3⟩
          · rw [if_neg z, if_neg z]; exact l7 j j0 j1
      · simp (disch := first | trivial | assumption | omega | exact ynl rfl _ | exact znp_o rfl | rfl | (simp (disch := first | decide | omega) only [yfc, yr_so, yr_ss, yfcc, yr_cs]; first | assumption | omega)) only [yck_of, yb_id, yPI_some, yPJ_some, yPA_some, yPV_none, yfc, yr_so, yr_ss, yfcc, yr_cs, ybif_t, yrd_1, yrd_2, ↓c_181, ↓c_182, ↓c_183, ↓c_184, ↓c_185, ↓c_186, ↓c_187, ↓c_73, ↓c_33, ↓c_23, ↓c_170, ↓c_168, ↓if_pos, ↓if_neg, yl_lt, yl_gt, yl_eq]
        (refine w_222 ?_; simp (disch := first | trivial | assumption | omega | exact ynl rfl _ | exact znp_o rfl | rfl | (simp (disch := first | decide | omega) only [yfc, yr_so, yr_ss, yfcc, yr_cs]; first | assumption | omega)) only [yck_of, yb_id, yPI_some, yPJ_some, yPA_some, yPV_none, yfc, yr_so, yr_ss, yfcc, yr_cs, ybif_t, yrd_1, yrd_2, ↓c_192, ↓c_193, ↓c_194, ↓c_251, ↓c_264, ↓c_191, ↓if_pos, ↓if_neg, yl_lt, yl_gt, yl_eq, ↓c_194]; exact p_ref (by decide) (by decide) I (hQ _))
    · simp (disch := first | trivial | assumption | omega | exact ynl rfl _ | exact znp_o rfl | rfl | (simp (disch := first | decide | omega) only [yfc, yr_so, yr_ss, yfcc, yr_cs]; first | assumption | omega)) only [yck_of, yb_id, yPI_some, yPJ_some, yPA_some, yPV_none, yfc, yr_so, yr_ss, yfcc, yr_cs, ybif_t, yrd_1, yrd_2, ↓c_181, ↓c_182, ↓c_183, ↓c_184, ↓c_185, ↓c_186, ↓c_187, ↓c_73, ↓c_33, ↓c_23, ↓c_170, ↓c_168, ↓if_pos, ↓if_neg, yl_lt, yl_gt, yl_eq]
      (refine w_222 ?_; simp (disch := first | trivial | assumption | omega | exact ynl rfl _ | exact znp_o rfl | rfl | (simp (disch := first | decide | omega) only [yfc, yr_so, yr_ss, yfcc, yr_cs]; first | assumption | omega)) only [yck_of, yb_id, yPI_some, yPJ_some, yPA_some, yPV_none, yfc, yr_so, yr_ss, yfcc, yr_cs, ybif_t, yrd_1, yrd_2, ↓c_192, ↓c_193, ↓c_194, ↓c_251, ↓c_264, ↓c_191, ↓if_pos, ↓if_neg, yl_lt, yl_gt, yl_eq, ↓c_194]; exact p_ref (by decide) (by decide) I (hQ _))
  · simp (disch := first | trivial | assumption | omega | exact ynl rfl _ | exact znp_o rfl | rfl | (simp (disch := first | decide | omega) only [yfc, yr_so, yr_ss, yfcc, yr_cs]; first | assumption | omega)) only [yck_of, yb_id, yPI_some, yPJ_some, yPA_some, yPV_none, yfc, yr_so, yr_ss, yfcc, yr_cs, ybif_t, yrd_1, yrd_2, ↓c_181, ↓c_182, ↓c_183, ↓c_184, ↓c_185, ↓c_186, ↓c_187, ↓c_73, ↓c_33, ↓c_23, ↓c_170, ↓c_168, ↓if_pos, ↓if_neg, yl_lt, yl_gt, yl_eq]
    (refine w_222 ?_; simp (disch := first | trivial | assumption | omega | exact ynl rfl _ | exact znp_o rfl | rfl | (simp (disch := first | decide | omega) only [yfc, yr_so, yr_ss, yfcc, yr_cs]; first | assumption | omega)) only [yck_of, yb_id, yPI_some, yPJ_some, yPA_some, yPV_none, yfc, yr_so, yr_ss, yfcc, yr_cs, ybif_t, yrd_1, yrd_2, ↓c_192, ↓c_193, ↓c_194, ↓c_251, ↓c_264, ↓c_191, ↓if_pos, ↓if_neg, yl_lt, yl_gt, yl_eq, ↓c_194]; exact p_ref (by decide) (by decide) I (hQ _))
theorem p_lineOf (I : yInv L xs m) (hQ : ∀ r m2, yInv L xs m2 → Q r r m2) (n c : Int) : zcI (d + 9) 139 [zA 3, zI n, zI c] m (fun v1 m1 => zcI (d + 9) 263 [zA 236, zI n, zI c] m1 (fun v2 m2 => Q v1 v2 m2)) := by
  obtain ⟨l1, l2, l3, l4, l5, l6, l7⟩ := I.2.1
  refine w_139 ?_
  by_cases q1 : 0 ≤ n ∧ n < zr m 4 1
  · by_cases q2 : 0 ≤ c ∧ c ≤ 2
    · simp (disch := first | trivial | assumption | omega | exact ynl rfl _ | exact znp_o rfl | rfl | (simp (disch := first | decide | omega) only [yfc, yr_so, yr_ss, yfcc, yr_cs]; first | assumption | omega)) only [yck_of, yb_id, yPI_some, yPJ_some, yPA_some, yPV_none, yfc, yr_so, yr_ss, yfcc, yr_cs, ybif_t, yrd_1, yrd_2, ↓c_181, ↓c_182, ↓c_183, ↓c_184, ↓c_185, ↓c_186, ↓c_187, ↓c_73, ↓c_33, ↓c_23, ↓c_170, ↓c_168, ↓if_pos, ↓if_neg, yl_lt, yl_gt, yl_eq, ↓c_34]
      refine w_263 ?_
      simp (disch := first | trivial | assumption | omega | exact ynl rfl _ | exact znp_o rfl | rfl | (simp (disch := first | decide | omega) only [yfc, yr_so, yr_ss, yfcc, yr_cs]; first | assumption | omega)) only [yck_of, yb_id, yPI_some, yPJ_some, yPA_some, yPV_none, yfc, yr_so, yr_ss, yfcc, yr_cs, ybif_t, yrd_1, yrd_2, ↓c_192, ↓c_193, ↓c_194, ↓c_251, ↓c_264, ↓c_191, ↓if_pos, ↓if_neg, yl_lt, yl_gt, yl_eq, ↓c_194]
      rw [(l7 (3 * n + c) (by omega) (by omega)).1]
      exact hQ _ _ I
    · simp (disch := first | trivial | assumption | omega | exact ynl rfl _ | exact znp_o rfl | rfl | (simp (disch := first | decide | omega) only [yfc, yr_so, yr_ss, yfcc, yr_cs]; first | assumption | omega)) only [yck_of, yb_id, yPI_some, yPJ_some, yPA_some, yPV_none, yfc, yr_so, yr_ss, yfcc, yr_cs, ybif_t, yrd_1, yrd_2, ↓c_181, ↓c_182, ↓c_183, ↓c_184, ↓c_185, ↓c_186, ↓c_187, ↓c_73, ↓c_33, ↓c_23, ↓c_170, ↓c_168, ↓if_pos, ↓if_neg, yl_lt, yl_gt, yl_eq]
      (refine w_263 ?_; simp (disch := first | trivial | assumption | omega | exact ynl rfl _ | exact znp_o rfl | rfl | (simp (disch := first | decide | omega) only [yfc, yr_so, yr_ss, yfcc, yr_cs]; first | assumption | omega)) only [yck_of, yb_id, yPI_some, yPJ_some, yPA_some, yPV_none, yfc, yr_so, yr_ss, yfcc, yr_cs, ybif_t, yrd_1, yrd_2, ↓c_192, ↓c_193, ↓c_194, ↓c_251, ↓c_264, ↓c_191, ↓if_pos, ↓if_neg, yl_lt, yl_gt, yl_eq, ↓c_194]; exact p_ref (by decide) (by decide) I (hQ _))
  · simp (disch := first | trivial | assumption | omega | exact ynl rfl _ | exact znp_o rfl | rfl | (simp (disch := first | decide | omega) only [yfc, yr_so, yr_ss, yfcc, yr_cs]; first | assumption | omega)) only [yck_of, yb_id, yPI_some, yPJ_some, yPA_some, yPV_none, yfc, yr_so, yr_ss, yfcc, yr_cs, ybif_t, yrd_1, yrd_2, ↓c_181, ↓c_182, ↓c_183, ↓c_184, ↓c_185, ↓c_186, ↓c_187, ↓c_73, ↓c_33, ↓c_23, ↓c_170, ↓c_168, ↓if_pos, ↓if_neg, yl_lt, yl_gt, yl_eq]
    (refine w_263 ?_; simp (disch := first | trivial | assumption | omega | exact ynl rfl _ | exact znp_o rfl | rfl | (simp (disch := first | decide | omega) only [yfc, yr_so, yr_ss, yfcc, yr_cs]; first | assumption | omega)) only [yck_of, yb_id, yPI_some, yPJ_some, yPA_some, yPV_none, yfc, yr_so, yr_ss, yfcc, yr_cs, ybif_t, yrd_1, yrd_2, ↓c_192, ↓c_193, ↓c_194, ↓c_251, ↓c_264, ↓c_191, ↓if_pos, ↓if_neg, yl_lt, yl_gt, yl_eq, ↓c_194]; exact p_ref (by decide) (by decide) I (hQ _))
theorem yk3_c {v v' : Int → Int} {n t c : Int} (h1 : 0 ≤ n) (h2 : n < c) (h3 : 0 ≤ t) (h4 : t ≤ 5) (hv : ∀ j, 0 ≤ j → j < 3 * c → v j = v' j) : yk3 v n t = yk3 v' n t := by
  have e0 := ycat_r (j := 3 * t) (by omega) (by omega)
  have e1 := ycat_r (j := 3 * t + 1) (by omega) (by omega)
  have e2 := ycat_r (j := 3 * t + 2) (by omega) (by omega)
  unfold yk3
  rw [hv _ (by omega) (by omega), hv _ (by omega) (by omega), hv (3 * n + ycat (3 * t + 2)) (by omega) (by omega)]
theorem p_feed (I : yInv L xs m) (hQ : ∀ r m2, yInv L xs m2 → Q r r m2) (v : Int) : zcI (d + 9) 125 [zA 3, zI v] m (fun v1 m1 => zcI (d + 9) 226 [zA 236, zI v] m1 (fun v2 m2 => Q v1 v2 m2)) := by
  obtain ⟨f1, f2, f3⟩ := I.2.2.2.2.2.1
  refine w_125 ?_
  by_cases q1 : 0 ≤ v ∧ v ≤ 255
  · by_cases q2 : zr m 216 1 < 250
    · simp (disch := first | trivial | assumption | omega | exact ynl rfl _ | exact znp_o rfl | rfl | (simp (disch := first | decide | omega) only [yfc, yr_so, yr_ss, yfcc, yr_cs]; first | assumption | omega)) only [yck_of, yb_id, yPI_some, yPJ_some, yPA_some, yPV_none, yfc, yr_so, yr_ss, yfcc, yr_cs, ybif_t, yrd_1, yrd_2, ↓c_181, ↓c_182, ↓c_183, ↓c_184, ↓c_185, ↓c_186, ↓c_187, ↓c_73, ↓c_33, ↓c_23, ↓c_170, ↓c_168, ↓if_pos, ↓if_neg, yl_lt, yl_gt, yl_eq]
      refine w_105 ?_
      simp (disch := first | trivial | assumption | omega | exact ynl rfl _ | exact znp_o rfl | rfl | (simp (disch := first | decide | omega) only [yfc, yr_so, yr_ss, yfcc, yr_cs]; first | assumption | omega)) only [yck_of, yb_id, yPI_some, yPJ_some, yPA_some, yPV_none, yfc, yr_so, yr_ss, yfcc, yr_cs, ybif_t, yrd_1, yrd_2, ↓c_181, ↓c_182, ↓c_183, ↓c_184, ↓c_185, ↓c_186, ↓c_187, ↓c_73, ↓c_33, ↓c_23, ↓c_170, ↓c_168, ↓if_pos, ↓if_neg, yl_lt, yl_gt, yl_eq]
      refine w_226 ?_
      simp (disch := first | trivial | assumption | omega | exact ynl rfl _ | exact znp_o rfl | rfl | (simp (disch := first | decide | omega) only [yfc, yr_so, yr_ss, yfcc, yr_cs]; first | assumption | omega)) only [yck_of, yb_id, yPI_some, yPJ_some, yPA_some, yPV_none, yfc, yr_so, yr_ss, yfcc, yr_cs, ybif_t, yrd_1, yrd_2, ↓c_192, ↓c_193, ↓c_194, ↓c_251, ↓c_264, ↓c_191, ↓if_pos, ↓if_neg, yl_lt, yl_gt, yl_eq]
      rw [← f1]
      refine hQ _ _ (yInv_F I (fun a ha => ?_) (fun j hj => ?_) ?_)
      · rw [yfc (by omega), yfc (by omega), yfc (by omega), yfc (by omega)]
      · rw [yr_sc (by decide), yr_so (by omega), yr_sc (by decide), yr_sc (by decide)]
      · simp (disch := first | trivial | assumption | omega | exact ynl rfl _ | exact znp_o rfl | rfl | (simp (disch := first | decide | omega) only [yfc, yr_so, yr_ss, yfcc, yr_cs]; first | assumption | omega)) only [yck_of, yb_id, yPI_some, yPJ_some, yPA_some, yPV_none, yfc, yr_so, yr_ss, yfcc, yr_cs, ybif_t, yrd_1, yrd_2]
        have e1 : ∀ j, znp' 217 j = true := ynl rfl
        have e2 : ∀ j, znp' 251 j = true := ynl rfl
        refine ⟨trivial, by omega, fun j j0 j1 => ?_⟩
        simp (disch := first | trivial | assumption | omega | exact ynl rfl _ | exact znp_o rfl | rfl | (simp (disch := first | decide | omega) only [yfc, yr_so, yr_ss, yfcc, yr_cs]; first | assumption | omega)) only [yck_of, yb_id, yPI_some, yPJ_some, yPA_some, yPV_none, yfc, yr_so, yr_ss, yfcc, yr_cs, ybif_t, yrd_1, yrd_2, yr_sa (e1 _), yr_sa (e2 _)]
        by_cases z : j = zr m 216 1
        · rw [if_pos z, if_pos z]; exact ⟨rfl, q1⟩
        · rw [if_neg z, if_neg z]; exact f3 j j0 (by omega)
    · simp (disch := first | trivial | assumption | omega | exact ynl rfl _ | exact znp_o rfl | rfl | (simp (disch := first | decide | omega) only [yfc, yr_so, yr_ss, yfcc, yr_cs]; first | assumption | omega)) only [yck_of, yb_id, yPI_some, yPJ_some, yPA_some, yPV_none, yfc, yr_so, yr_ss, yfcc, yr_cs, ybif_t, yrd_1, yrd_2, ↓c_181, ↓c_182, ↓c_183, ↓c_184, ↓c_185, ↓c_186, ↓c_187, ↓c_73, ↓c_33, ↓c_23, ↓c_170, ↓c_168, ↓if_pos, ↓if_neg, yl_lt, yl_gt, yl_eq]
      (refine w_226 ?_; simp (disch := first | trivial | assumption | omega | exact ynl rfl _ | exact znp_o rfl | rfl | (simp (disch := first | decide | omega) only [yfc, yr_so, yr_ss, yfcc, yr_cs]; first | assumption | omega)) only [yck_of, yb_id, yPI_some, yPJ_some, yPA_some, yPV_none, yfc, yr_so, yr_ss, yfcc, yr_cs, ybif_t, yrd_1, yrd_2, ↓c_192, ↓c_193, ↓c_194, ↓c_251, ↓c_264, ↓c_191, ↓if_pos, ↓if_neg, yl_lt, yl_gt, yl_eq]; exact p_ref (by decide) (by decide) I (hQ _))
  · simp (disch := first | trivial | assumption | omega | exact ynl rfl _ | exact znp_o rfl | rfl | (simp (disch := first | decide | omega) only [yfc, yr_so, yr_ss, yfcc, yr_cs]; first | assumption | omega)) only [yck_of, yb_id, yPI_some, yPJ_some, yPA_some, yPV_none, yfc, yr_so, yr_ss, yfcc, yr_cs, ybif_t, yrd_1, yrd_2, ↓c_181, ↓c_182, ↓c_183, ↓c_184, ↓c_185, ↓c_186, ↓c_187, ↓c_73, ↓c_33, ↓c_23, ↓c_170, ↓c_168, ↓if_pos, ↓if_neg, yl_lt, yl_gt, yl_eq]
    (refine w_226 ?_; simp (disch := first | trivial | assumption | omega | exact ynl rfl _ | exact znp_o rfl | rfl | (simp (disch := first | decide | omega) only [yfc, yr_so, yr_ss, yfcc, yr_cs]; first | assumption | omega)) only [yck_of, yb_id, yPI_some, yPJ_some, yPA_some, yPV_none, yfc, yr_so, yr_ss, yfcc, yr_cs, ybif_t, yrd_1, yrd_2, ↓c_192, ↓c_193, ↓c_194, ↓c_251, ↓c_264, ↓c_191, ↓if_pos, ↓if_neg, yl_lt, yl_gt, yl_eq]; exact p_ref (by decide) (by decide) I (hQ _))
end PB
