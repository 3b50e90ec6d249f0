/-! ===== memory: a cell written place by place ===== -/
theorem ycc_sn {m : ZN} {a j v : Int} {F : Int → Int} (h : ∀ j, znp' a j = true) : zsn (zcc m a F) a j v = zcc m a (fun j' => if j' = j then v else F j') := zN_ext fun a' j' => by
  by_cases e : a' = a
  · subst e
    rw [yr_sa (h j), yr_cs (h j'), yr_cs (h j')]
  · rw [yr_sc e, yr_cc e, yr_cc e]
theorem ysn_cc {m : ZN} {a j v : Int} (h : ∀ j, znp' a j = true) : zsn m a j v = zcc m a (fun j' => if j' = j then v else zr m a j') := zN_ext fun a' j' => by
  by_cases e : a' = a
  · subst e
    rw [yr_sa (h j), yr_cs (h j')]
  · rw [yr_sc e, yr_cc e]
theorem ycc_id {m : ZN} {a : Int} (h : ∀ j, znp' a j = true) : zcc m a (zr m a) = m := zN_ext fun a' j' => by
  by_cases e : a' = a
  · subst e
    rw [yr_cs (h j')]
  · rw [yr_cc e]
theorem ycc_F {m : ZN} {a : Int} {F G : Int → Int} (h : ∀ j, F j = G j) : zcc m a F = zcc m a G := by rw [funext h]
theorem yfcs {m : ZN} {a : Int} {F : Int → Int} (h : ∀ j, znp' a j = true) : zr (zcc m a F) a = F := funext fun j => yr_cs (h j)
section PA
variable {d : Nat} {m : ZN} {L : Int} {xs : Int → Int} {Q : Int → Int → ZN → Prop}
/-- a row of zeros in a shelf -/
theorem c_78 {s t n : Int} (h1 : 0 ≤ s) (h2 : s < 8) (h3 : 0 ≤ n) (h4 : n ≤ 40) (K : ZN → Prop) : zcV d 78 [zA 212, zI s, zI t, zI n] m K = K (zcc (zsn (zsn m 213 s t) 214 s n) 215 (fun j => if 40 * s ≤ j ∧ j < 40 * s + n then 0 else zr m 215 j)) := by
  have np : ∀ j, znp' 215 j = true := ynl rfl
  refine zcV_eq (w_78 ?_) K
  simp (disch := first | trivial | assumption | omega | exact ynl rfl _ | exact znp_o rfl | rfl | (simp (disch := first | decide | omega) only [yfc, yr_so, yr_ss, yfcc, yr_cs]; first | assumption | omega)) only [yck_of, yb_id, yPI_some, yPJ_some, yPA_some, yPV_none, yfc, yr_so, yr_ss, yfcc, yr_cs, ybif_t, yrd_1, yrd_2]
  have e0 : zsn (zsn m 213 s t) 214 s n = zcc (zsn (zsn m 213 s t) 214 s n) 215 (fun j => if 40 * s ≤ j ∧ j < 40 * s + 0 then 0 else zr m 215 j) := by
    rw [ycc_F (G := zr (zsn (zsn m 213 s t) 214 s n) 215) (fun j => by rw [if_neg (by omega), yr_sc (by decide), yr_sc (by decide)]), ycc_id np]
  have key := yfor (fun i => zwpN d 78 17 [some (zA 212), some (zI s), some (zI t), some (zI n), some (zI i)] [] (zcc (zsn (zsn m 213 s t) 214 s n) 215 (fun j => if 40 * s ≤ j ∧ j < 40 * s + i then 0 else zr m 215 j)) (zPV fun m1 => m1 = zcc (zsn (zsn m 213 s t) 214 s n) 215 (fun j => if 40 * s ≤ j ∧ j < 40 * s + n then 0 else zr m 215 j))) 0 n h3 (fun i i0 i1 hW => ?_) ?_
  · rw [← e0] at key
    exact key
  · refine w_78_17 ?_
    rw [if_pos i1]
    simp (disch := first | trivial | assumption | omega | exact ynl rfl _ | exact znp_o rfl | rfl | (simp (disch := first | decide | omega) only [yfc, yr_so, yr_ss, yfcc, yr_cs]; first | assumption | omega)) only [yck_of, yb_id, yPI_some, yPJ_some, yPA_some, yPV_none, yfc, yr_so, yr_ss, yfcc, yr_cs, ybif_t, yrd_1, yrd_2, ym40]
    rw [ycc_sn np, ycc_F (G := fun j => if 40 * s ≤ j ∧ j < 40 * s + (i + 1) then 0 else zr m 215 j) (fun j => by
      by_cases q : j = 40 * s + i
      · rw [if_pos q, if_pos (by omega)]
      · rw [if_neg q]
        by_cases q2 : 40 * s ≤ j ∧ j < 40 * s + i
        · rw [if_pos q2, if_pos (by omega)]
        · rw [if_neg q2, if_neg (by omega)])]
    exact hW
  · refine w_78_17 ?_
    rw [if_neg (by omega)]
    rfl
theorem c_196l {s a b : Int} {M : ZN} {P : Option ZV → ZN → Prop} (h1 : 0 ≤ s) (h2 : s < 8) (h : P (some (zI 1)) (zcc M (241 + s) (fun j => if 0 ≤ j ∧ j < 40 then 0 else zr M (241 + s) j))) : zwpN (d + 1) 196 67 [some (zA 236), some (zI s), some (zI a), some (zI b), some (zI 0)] [] M P := by
  have np : ∀ j, znp' (241 + s) j = true := isR_np h1 h2
  have e0 : M = zcc M (241 + s) (fun j => if 0 ≤ j ∧ j < 0 then 0 else zr M (241 + s) j) := by
    rw [ycc_F (G := zr M (241 + s)) (fun j => by rw [if_neg (by omega)]), ycc_id np]
  have key := yfor (fun i => zwpN (d + 1) 196 67 [some (zA 236), some (zI s), some (zI a), some (zI b), some (zI i)] [] (zcc M (241 + s) (fun j => if 0 ≤ j ∧ j < i then 0 else zr M (241 + s) j)) P) 0 40 (by decide) (fun i i0 i1 hW => ?_) ?_
  · rw [← e0] at key
    exact key
  · refine w_196_67 ?_
    rw [if_pos i1]
    simp (disch := first | trivial | assumption | omega | exact ynl rfl _ | exact znp_o rfl | rfl | (simp (disch := first | decide | omega) only [yfc, yr_so, yr_ss, yfcc, yr_cs]; first | assumption | omega)) only [yck_of, yb_id, yPI_some, yPJ_some, yPA_some, yPV_none, yfc, yr_so, yr_ss, yfcc, yr_cs, ybif_t, yrd_1, yrd_2, isR_J, isR_n, isR_np, isR_r, isR_p, yl_p, yk_p]
    rw [ycc_sn np, ycc_F (G := fun j => if 0 ≤ j ∧ j < i + 1 then 0 else zr M (241 + s) j) (fun j => by
      by_cases q : j = i
      · rw [if_pos q, if_pos (by omega)]
      · rw [if_neg q]
        by_cases q2 : 0 ≤ j ∧ j < i
        · rw [if_pos q2, if_pos (by omega)]
        · rw [if_neg q2, if_neg (by omega)])]
    exact hW
  · refine w_196_67 ?_
    rw [if_neg (by decide)]
    exact h
theorem p_row (I : yInv L xs m) (hQ : ∀ r m2, yInv L xs m2 → Q r r m2) (s t n : Int) : zcI (d + 9) 114 [zA 3, zI s, zI t, zI n] m (fun v m1 => zcI (d + 9) 196 [zA 236, zI s, zI t, zI n] m1 (fun v2 m2 => Q v v2 m2)) := by
  refine w_114 ?_
  by_cases q1 : 0 ≤ s ∧ s ≤ 7
  · by_cases q2 : 0 ≤ t ∧ t ≤ 4
    · by_cases q3 : 0 ≤ n ∧ n ≤ 40
      · simp (disch := first | trivial | assumption | omega | exact ynl rfl _ | exact znp_o rfl | rfl | (simp (disch := first | decide | omega) only [yfc, yr_so, yr_ss, yfcc, yr_cs]; first | assumption | omega)) only [yck_of, yb_id, yPI_some, yPJ_some, yPA_some, yPV_none, yfc, yr_so, yr_ss, yfcc, yr_cs, ybif_t, yrd_1, yrd_2, ↓c_181, ↓c_182, ↓c_183, ↓c_184, ↓c_185, ↓c_186, ↓c_187, ↓c_73, ↓c_33, ↓c_23, ↓c_170, ↓c_168, ↓if_pos, ↓if_neg, yl_lt, yl_gt, yl_eq, ↓c_78]
        refine w_196 ?_
        simp (disch := first | trivial | assumption | omega | exact ynl rfl _ | exact znp_o rfl | rfl | (simp (disch := first | decide | omega) only [yfc, yr_so, yr_ss, yfcc, yr_cs]; first | assumption | omega)) only [yck_of, yb_id, yPI_some, yPJ_some, yPA_some, yPV_none, yfc, yr_so, yr_ss, yfcc, yr_cs, ybif_t, yrd_1, yrd_2, ↓c_192, ↓c_193, ↓c_194, ↓c_251, ↓c_264, ↓c_191, ↓if_pos, ↓if_neg, yl_lt, yl_gt, yl_eq]
        refine c_196l (by omega) (by omega) ?_
        refine hQ _ _ (yInv_S I (fun a ha => ?_) (fun j hj => ?_) ?_)
        · rw [yfcc (by omega), yfc (by omega), yfc (by omega), yfc (by omega), yfcc (by omega), yfc (by omega), yfc (by omega)]
        · rw [yr_cc (by omega), yr_sc (by decide), yr_sc (by decide), yr_sc (by decide), yr_cc (by decide), yr_sc (by decide), yr_sc (by decide)]
        · intro s' s0 s1
          have hs := I.2.2.2.2.1 s' s0 s1
          have e1 : ∀ j, znp' 213 j = true := ynl rfl
          have e2 : ∀ j, znp' 214 j = true := ynl rfl
          have e3 : ∀ j, znp' 215 j = true := ynl rfl
          have e4 : ∀ j, znp' 237 j = true := ynl rfl
          have e5 : ∀ j, znp' 238 j = true := ynl rfl
          have e6 : ∀ j, znp' 239 j = true := ynl rfl
          have e7 : ∀ j, znp' (241 + s) j = true := isR_np (by omega) (by omega)
          simp (disch := first | trivial | assumption | omega | exact ynl rfl _ | exact znp_o rfl | rfl | (simp (disch := first | decide | omega) only [yfc, yr_so, yr_ss, yfcc, yr_cs]; first | assumption | omega)) only [yck_of, yb_id, yPI_some, yPJ_some, yPA_some, yPV_none, yfc, yr_so, yr_ss, yfcc, yr_cs, ybif_t, yrd_1, yrd_2, yr_sa (e1 _), yr_sa (e2 _), yr_sa (e4 _), yr_sa (e5 _), yr_sa (e6 _), yr_cs (e3 _)]
          by_cases e : s' = s
          · subst e
            simp only [if_true]
            refine Or.inr (Or.inl ⟨rfl, rfl, q2, rfl, q3, fun i i0 i1 => ?_⟩)
            show (if 40 * s' ≤ 40 * s' + i ∧ 40 * s' + i < 40 * s' + n then 0 else zr m 215 (40 * s' + i)) = _
            rw [yr_cs (e7 i), if_pos (by omega), if_pos (by omega)]
          · simp only [e, if_false]
            rw [yfcc (a' := 241 + s') (by omega), yfc (a' := 241 + s') (by omega), yfc (a' := 241 + s') (by omega), yfc (a' := 241 + s') (by omega), yfcc (a' := 241 + s') (by omega), yfc (a' := 241 + s') (by omega), yfc (a' := 241 + s') (by omega)]
            rcases hs with q | q | q
            · exact Or.inl q
            · refine Or.inr (Or.inl ⟨q.1, q.2.1, q.2.2.1, q.2.2.2.1, q.2.2.2.2.1, fun i i0 i1 => ?_⟩)
              show (if 40 * s ≤ 40 * s' + i ∧ 40 * s' + i < 40 * s + n then 0 else zr m 215 (40 * s' + i)) = _
              rw [if_neg (by omega)]
              exact q.2.2.2.2.2 i i0 i1
            · exact Or.inr (Or.inr q)
      · simp (disch := first | trivial | assumption | omega | exact ynl rfl _ | exact znp_o rfl | rfl | (simp (disch := first | decide | omega) only [yfc, yr_so, yr_ss, yfcc, yr_cs]; first | assumption | omega)) only [yck_of, yb_id, yPI_some, yPJ_some, yPA_some, yPV_none, yfc, yr_so, yr_ss, yfcc, yr_cs, ybif_t, yrd_1, yrd_2, ↓c_181, ↓c_182, ↓c_183, ↓c_184, ↓c_185, ↓c_186, ↓c_187, ↓c_73, ↓c_33, ↓c_23, ↓c_170, ↓c_168, ↓if_pos, ↓if_neg, yl_lt, yl_gt, yl_eq]
        (refine w_196 ?_; simp (disch := first | trivial | assumption | omega | exact ynl rfl _ | exact znp_o rfl | rfl | (simp (disch := first | decide | omega) only [yfc, yr_so, yr_ss, yfcc, yr_cs]; first | assumption | omega)) only [yck_of, yb_id, yPI_some, yPJ_some, yPA_some, yPV_none, yfc, yr_so, yr_ss, yfcc, yr_cs, ybif_t, yrd_1, yrd_2, ↓c_192, ↓c_193, ↓c_194, ↓c_251, ↓c_264, ↓c_191, ↓if_pos, ↓if_neg, yl_lt, yl_gt, yl_eq]; exact p_ref (by decide) (by decide) I (hQ _))
    · simp (disch := first | trivial | assumption | omega | exact ynl rfl _ | exact znp_o rfl | rfl | (simp (disch := first | decide | omega) only [yfc, yr_so, yr_ss, yfcc, yr_cs]; first | assumption | omega)) only [yck_of, yb_id, yPI_some, yPJ_some, yPA_some, yPV_none, yfc, yr_so, yr_ss, yfcc, yr_cs, ybif_t, yrd_1, yrd_2, ↓c_181, ↓c_182, ↓c_183, ↓c_184, ↓c_185, ↓c_186, ↓c_187, ↓c_73, ↓c_33, ↓c_23, ↓c_170, ↓c_168, ↓if_pos, ↓if_neg, yl_lt, yl_gt, yl_eq]
      (refine w_196 ?_; simp (disch := first | trivial | assumption | omega | exact ynl rfl _ | exact znp_o rfl | rfl | (simp (disch := first | decide | omega) only [yfc, yr_so, yr_ss, yfcc, yr_cs]; first | assumption | omega)) only [yck_of, yb_id, yPI_some, yPJ_some, yPA_some, yPV_none, yfc, yr_so, yr_ss, yfcc, yr_cs, ybif_t, yrd_1, yrd_2, ↓c_192, ↓c_193, ↓c_194, ↓c_251, ↓c_264, ↓c_191, ↓if_pos, ↓if_neg, yl_lt, yl_gt, yl_eq]; exact p_ref (by decide) (by decide) I (hQ _))
  · simp (disch := first | trivial | assumption | omega | exact ynl rfl _ | exact znp_o rfl | rfl | (simp (disch := first | decide | omega) only [yfc, yr_so, yr_ss, yfcc, yr_cs]; first | assumption | omega)) only [yck_of, yb_id, yPI_some, yPJ_some, yPA_some, yPV_none, yfc, yr_so, yr_ss, yfcc, yr_cs, ybif_t, yrd_1, yrd_2, ↓c_181, ↓c_182, ↓c_183, ↓c_184, ↓c_185, ↓c_186, ↓c_187, ↓c_73, ↓c_33, ↓c_23, ↓c_170, ↓c_168, ↓if_pos, ↓if_neg, yl_lt, yl_gt, yl_eq]
    (refine w_196 ?_; simp (disch := first | trivial | assumption | omega | exact ynl rfl _ | exact znp_o rfl | rfl | (simp (disch := first | decide | omega) only [yfc, yr_so, yr_ss, yfcc, yr_cs]; first | assumption | omega)) only [yck_of, yb_id, yPI_some, yPJ_some, yPA_some, yPV_none, yfc, yr_so, yr_ss, yfcc, yr_cs, ybif_t, yrd_1, yrd_2, ↓c_192, ↓c_193, ↓c_194, ↓c_251, ↓c_264, ↓c_191, ↓if_pos, ↓if_neg, yl_lt, yl_gt, yl_eq]; exact p_ref (by decide) (by decide) I (hQ _))
end PA
