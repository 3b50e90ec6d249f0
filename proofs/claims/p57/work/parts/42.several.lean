/-! ===== a condition on several columns ===== -/
theorem ymsk : ∀ y : Nat, y < 8 → ∀ c : Nat, c < 3 → ((zand y (zshl 1 c) = 0 ↔ ¬ zand (zshr y c) 1 = 1) ∧ 0 ≤ zor y (zshl 1 c) ∧ zor y (zshl 1 c) < 8 ∧ ∀ k : Nat, k < 3 → (zand (zor y (zshl 1 c)) (zshl 1 k) = 0 ↔ (zand y (zshl 1 k) = 0 ∧ k ≠ c))) := by decide +kernel
theorem ymskI {y c : Int} (y0 : 0 ≤ y) (y1 : y < 8) (c0 : 0 ≤ c) (c1 : c ≤ 2) : (zand y (zshl 1 c) = 0 ↔ ¬ zand (zshr y c) 1 = 1) ∧ 0 ≤ zor y (zshl 1 c) ∧ zor y (zshl 1 c) < 8 ∧ ∀ k, 0 ≤ k → k < 3 → (zand (zor y (zshl 1 c)) (zshl 1 k) = 0 ↔ (zand y (zshl 1 k) = 0 ∧ k ≠ c)) := by
  obtain ⟨n, rfl⟩ := Int.eq_ofNat_of_zero_le y0
  obtain ⟨p, rfl⟩ := Int.eq_ofNat_of_zero_le c0
  obtain ⟨a1, a2, a3, a4⟩ := ymsk n (by omega) p (by omega)
  refine ⟨a1, a2, a3, fun k k0 k1 => ?_⟩
  obtain ⟨q, rfl⟩ := Int.eq_ofNat_of_zero_le k0
  rw [a4 q (by omega)]
  omega
/-- the numbers tell columns, each once, and what they want -/
def yte (e : Int → Int) : Nat → Int → Int → Bool
  | 0, _, _ => true
  | n + 1, k, y => decide ((0 ≤ e (2 * k) ∧ e (2 * k) ≤ 2) ∧ (1 ≤ e (2 * k + 1) ∧ e (2 * k + 1) ≤ 9) ∧ zand y (zshl 1 (e (2 * k))) = 0) && yte e n (k + 1) (zor y (zshl 1 (e (2 * k))))
theorem yte_s (e : Int → Int) (n : Nat) (k y : Int) : yte e (n + 1) k y = (decide ((0 ≤ e (2 * k) ∧ e (2 * k) ≤ 2) ∧ (1 ≤ e (2 * k + 1) ∧ e (2 * k + 1) ≤ 9) ∧ zand y (zshl 1 (e (2 * k))) = 0) && yte e n (k + 1) (zor y (zshl 1 (e (2 * k))))) := rfl
section PS
variable {d : Nat} {m : ZN} {L : Int} {xs : Int → Int} {Q : Int → Int → ZN → Prop}
theorem c_80_0 {s n : Int} (h1 : 0 ≤ s) (h2 : s < 8) (h : zr m 213 s = -1) (K : Int → ZN → Prop) : zcI (d + 1) 80 [zA 212, zI s, zI n] m K = K (-104) m := by
  refine zcI_eq (w_80 (w_79 ?_)) K
  simp (disch := first | trivial | assumption | omega | exact ynl rfl _ | exact znp_o rfl | rfl | (simp (disch := first | decide | omega) only [yfc, yr_so, yr_ss, yfcc, yr_cs]; first | assumption | omega)) only [yck_of, yb_id, yPI_some, yPJ_some, yPA_some, yPV_none, yfc, yr_so, yr_ss, yfcc, yr_cs, ybif_t, yrd_1, yrd_2, yfcl, ↓c_181, ↓c_182, ↓c_183, ↓c_184, ↓c_185, ↓c_186, ↓c_187, ↓c_73, ↓c_33, ↓c_23, ↓c_170, ↓c_168, ↓if_pos, ↓if_neg, yl_lt, yl_gt, yl_eq, h, and_self]
theorem c_80_2 {s n : Int} (h1 : 0 ≤ s) (h2 : s < 8) (h : 10 ≤ zr m 213 s) (K : Int → ZN → Prop) : zcI (d + 1) 80 [zA 212, zI s, zI n] m K = K (-103) m := by
  refine zcI_eq (w_80 (w_79 ?_)) K
  simp (disch := first | trivial | assumption | omega | exact ynl rfl _ | exact znp_o rfl | rfl | (simp (disch := first | decide | omega) only [yfc, yr_so, yr_ss, yfcc, yr_cs]; first | assumption | omega)) only [yck_of, yb_id, yPI_some, yPJ_some, yPA_some, yPV_none, yfc, yr_so, yr_ss, yfcc, yr_cs, ybif_t, yrd_1, yrd_2, yfcl, ↓c_181, ↓c_182, ↓c_183, ↓c_184, ↓c_185, ↓c_186, ↓c_187, ↓c_73, ↓c_33, ↓c_23, ↓c_170, ↓c_168, ↓if_pos, ↓if_neg, yl_lt, yl_gt, yl_eq, and_self]
theorem c_80_1 {s n : Int} (h1 : 0 ≤ s) (h2 : s < 8) (h : 0 ≤ zr m 213 s) (h' : zr m 213 s ≤ 4) (K : Int → ZN → Prop) : zcI (d + 1) 80 [zA 212, zI s, zI n] m K = K (if zr m 214 s < n then -102 else 0) m := by
  refine zcI_eq (w_80 (w_79 ?_)) K
  by_cases q : zr m 214 s < n
  · simp (disch := first | trivial | assumption | omega | exact ynl rfl _ | exact znp_o rfl | rfl | (simp (disch := first | decide | omega) only [yfc, yr_so, yr_ss, yfcc, yr_cs]; first | assumption | omega)) only [yck_of, yb_id, yPI_some, yPJ_some, yPA_some, yPV_none, yfc, yr_so, yr_ss, yfcc, yr_cs, ybif_t, yrd_1, yrd_2, yfcl, ↓c_181, ↓c_182, ↓c_183, ↓c_184, ↓c_185, ↓c_186, ↓c_187, ↓c_73, ↓c_33, ↓c_23, ↓c_170, ↓c_168, ↓if_pos, ↓if_neg, yl_lt, yl_gt, yl_eq, and_self]
  · simp (disch := first | trivial | assumption | omega | exact ynl rfl _ | exact znp_o rfl | rfl | (simp (disch := first | decide | omega) only [yfc, yr_so, yr_ss, yfcc, yr_cs]; first | assumption | omega)) only [yck_of, yb_id, yPI_some, yPJ_some, yPA_some, yPV_none, yfc, yr_so, yr_ss, yfcc, yr_cs, ybif_t, yrd_1, yrd_2, yfcl, ↓c_181, ↓c_182, ↓c_183, ↓c_184, ↓c_185, ↓c_186, ↓c_187, ↓c_73, ↓c_33, ↓c_23, ↓c_170, ↓c_168, ↓if_pos, ↓if_neg, yl_lt, yl_gt, yl_eq, and_self]
theorem c_257_0 {s n : Int} (h1 : 0 ≤ s) (h2 : s < 8) (h : zr m 237 s = 0) (K : Int → ZN → Prop) : zcI (d + 2) 257 [zA 236, zI s, zI n] m K = K (-104) (zsn m 252 (-(-104) - 100) (zb (zr m 252 (-(-104) - 100) + 1))) := by
  refine zcI_eq (w_257 ?_) K
  simp (disch := first | trivial | assumption | omega | exact ynl rfl _ | exact znp_o rfl | rfl | (simp (disch := first | decide | omega) only [yfc, yr_so, yr_ss, yfcc, yr_cs]; first | assumption | omega)) only [yck_of, yb_id, yPI_some, yPJ_some, yPA_some, yPV_none, yfc, yr_so, yr_ss, yfcc, yr_cs, ybif_t, yrd_1, yrd_2, yfcl, ↓c_192, ↓c_193, ↓c_194, ↓c_251, ↓c_264, ↓c_191, ↓if_pos, ↓if_neg, yl_lt, yl_gt, yl_eq, ↓c_198_0, and_self]
theorem c_257_2 {s n : Int} (h1 : 0 ≤ s) (h2 : s < 8) (h : zr m 237 s = 2) (K : Int → ZN → Prop) : zcI (d + 2) 257 [zA 236, zI s, zI n] m K = K (-103) (zsn m 252 (-(-103) - 100) (zb (zr m 252 (-(-103) - 100) + 1))) := by
  refine zcI_eq (w_257 ?_) K
  simp (disch := first | trivial | assumption | omega | exact ynl rfl _ | exact znp_o rfl | rfl | (simp (disch := first | decide | omega) only [yfc, yr_so, yr_ss, yfcc, yr_cs]; first | assumption | omega)) only [yck_of, yb_id, yPI_some, yPJ_some, yPA_some, yPV_none, yfc, yr_so, yr_ss, yfcc, yr_cs, ybif_t, yrd_1, yrd_2, yfcl, ↓c_192, ↓c_193, ↓c_194, ↓c_251, ↓c_264, ↓c_191, ↓if_pos, ↓if_neg, yl_lt, yl_gt, yl_eq, ↓c_198_2, and_self]
theorem c_257_1 {s n : Int} (h1 : 0 ≤ s) (h2 : s < 8) (h : zr m 237 s = 1) (q : zr m 239 s < n) (K : Int → ZN → Prop) : zcI (d + 2) 257 [zA 236, zI s, zI n] m K = K (-102) (zsn m 252 (-(-102) - 100) (zb (zr m 252 (-(-102) - 100) + 1))) := by
  refine zcI_eq (w_257 ?_) K
  simp (disch := first | trivial | assumption | omega | exact ynl rfl _ | exact znp_o rfl | rfl | (simp (disch := first | decide | omega) only [yfc, yr_so, yr_ss, yfcc, yr_cs]; first | assumption | omega)) only [yck_of, yb_id, yPI_some, yPJ_some, yPA_some, yPV_none, yfc, yr_so, yr_ss, yfcc, yr_cs, ybif_t, yrd_1, yrd_2, yfcl, ↓c_192, ↓c_193, ↓c_194, ↓c_251, ↓c_264, ↓c_191, ↓if_pos, ↓if_neg, yl_lt, yl_gt, yl_eq, ↓c_198_1, and_self]
theorem c_257_g {s n : Int} (h1 : 0 ≤ s) (h2 : s < 8) (h : zr m 237 s = 1) (q : ¬ zr m 239 s < n) (K : Int → ZN → Prop) : zcI (d + 2) 257 [zA 236, zI s, zI n] m K = K 0 m := by
  refine zcI_eq (w_257 ?_) K
  simp (disch := first | trivial | assumption | omega | exact ynl rfl _ | exact znp_o rfl | rfl | (simp (disch := first | decide | omega) only [yfc, yr_so, yr_ss, yfcc, yr_cs]; first | assumption | omega)) only [yck_of, yb_id, yPI_some, yPJ_some, yPA_some, yPV_none, yfc, yr_so, yr_ss, yfcc, yr_cs, ybif_t, yrd_1, yrd_2, yfcl, ↓c_192, ↓c_193, ↓c_194, ↓c_251, ↓c_264, ↓c_191, ↓if_pos, ↓if_neg, yl_lt, yl_gt, yl_eq, ↓c_198_1, and_self]
/-- the bits of the columns told -/
def ybt (e : Int → Int) : Nat → Int
  | 0 => 0
  | n + 1 => zor (ybt e n) (zshl 1 (e (2 * n)))
theorem c_258l {s b c : Int} {P : Option ZV → ZN → Prop} {e ad : Int → Int} (h1 : 0 ≤ s) (h2 : s < 8) (hb : b ≤ 3) (he : ∀ j, 0 ≤ j → j < 2 * b → zr m (241 + s) j = e j) (ad0 : ad 0 = b) (ad1 : ∀ j, 1 ≤ j → j < 1 + 2 * b → ad j = e (j - 1)) (ad2 : ∀ j, 1 + 2 * b ≤ j → j < 8 → ad j = -1) :
    ∀ (n : Nat) (k y : Int) (M : ZN) (o7 o9 : Option ZV), 0 ≤ k → k + n = b → 0 ≤ y → y < 8 → ySc m M → (∀ j, 1 ≤ j → j < 1 + 2 * k → zr M 268 j = ad j) → (∀ j, 1 + 2 * k ≤ j → j < 8 → zr M 268 j = -1)
      → (yte e n k y = false → ∀ M2, ySc m M2 → P (some (zI (-105))) (zsn M2 252 (-(-105) - 100) (zb (zr M2 252 (-(-105) - 100) + 1))))
      → (yte e n k y = true → ∀ M2, ySc m M2 → zr M2 236 39 = c → (∀ j, 0 ≤ j → j < 8 → zr M2 268 j = ad j) → zcI d 249 [zA 236, zI 5] M2 (fun v n => P (some (zI v)) n))
      → zwpN (d + 1) 258 73 [some (zA 236), some (zI s), some (zI b), some (zI c), some (zI 0), some (zI y), some (zI k), o7, none, o9, none] [] M P := by
  have np : ∀ j, znp' 268 j = true := ynl rfl
  intro n
  induction n with
  | zero =>
    intro k y M o7 o9 k0 kn y0 y1 hM f1 f2 hb1 hg
    refine w_258_73 ?_
    rw [if_neg (by omega), yck_of (by decide)]
    refine hg rfl _ ((hM.sn _ (by unfold yscr; omega)).sn _ (by unfold yscr; omega)) (yr_ss (znp_o rfl)) (fun j j0 j1 => ?_)
    rw [yfc (by decide), yr_sa (np _)]
    by_cases q : j = 0
    · rw [if_pos q, q, ad0]
    · rw [if_neg q]
      by_cases q2 : j < 1 + 2 * k
      · exact f1 j (by omega) q2
      · rw [f2 j (by omega) j1, ad2 j (by omega) j1]
  | succ n ih =>
    intro k y M o7 o9 k0 kn y0 y1 hM f1 f2 hb1 hg
    have eM : ∀ j, 0 ≤ j → j < 2 * b → zr M (241 + s) j = e j := fun j j0 j1 => by rw [hM _ _ (by unfold yscr; omega)]; exact he j j0 j1
    refine w_258_73 ?_
    simp only [isR_p h1 h2, isR_J h1 h2, isR_n h1 h2, isR_r h1 h2, cond_true, show zb (2 * k) = 2 * k from yb_id (by omega) (by omega), show zb (2 * k + 1) = 2 * k + 1 from yb_id (by omega) (by omega), show zb (k + 1) = k + 1 from yb_id (by omega) (by omega), eM (2 * k) (by omega) (by omega), eM (2 * k + 1) (by omega) (by omega), show zb (1 + 2 * k) = 1 + 2 * k from yb_id (by omega) (by omega), show zb (2 + 2 * k) = 2 + 2 * k from yb_id (by omega) (by omega), yck_of (show 0 ≤ s ∧ s < 8 from ⟨h1, h2⟩), yck_of (show 0 ≤ 2 * k ∧ 2 * k < 40 by omega), yck_of (show 0 ≤ 2 * k + 1 ∧ 2 * k + 1 < 40 by omega), yck_of (show 0 ≤ 1 + 2 * k ∧ 1 + 2 * k < 8 by omega), yck_of (show 0 ≤ 2 + 2 * k ∧ 2 + 2 * k < 8 by omega), c_192, if_pos (show k < b by omega)]
    rw [yte_s] at hb1 hg
    by_cases q1 : 0 ≤ e (2 * k) ∧ e (2 * k) ≤ 2
    · simp only [if_pos q1, if_neg (show ¬ (1 : Int) = 0 by decide), show zb (e (2 * k)) = e (2 * k) from yb_id (by omega) (by omega)]
      obtain ⟨a1, a2, a3, a4⟩ := ymskI y0 y1 q1.1 q1.2
      by_cases q3 : zand y (zshl 1 (e (2 * k))) = 0
      · rw [if_neg (a1.1 q3)]
        by_cases q2 : 1 ≤ e (2 * k + 1) ∧ e (2 * k + 1) ≤ 9
        · simp only [if_pos q2, if_neg (show ¬ (1 : Int) = 0 by decide), show zb (e (2 * k + 1)) = e (2 * k + 1) from yb_id (by omega) (by omega)]
          rw [decide_eq_true (show _ ∧ _ ∧ _ from ⟨q1, q2, q3⟩), Bool.true_and] at hb1 hg
          refine ih _ _ _ _ _ (by omega) (by omega) a2 a3 ((hM.sn _ (by unfold yscr; omega)).sn _ (by unfold yscr; omega)) (fun j j0 j1 => ?_) (fun j j0 j1 => ?_) hb1 hg
          · rw [yr_sa (np _), yr_sa (np _)]
            by_cases q5 : j = 2 + 2 * k
            · rw [if_pos q5, ad1 j (by omega) (by omega), show j - 1 = 2 * k + 1 by omega]
            · rw [if_neg q5]
              by_cases q6 : j = 1 + 2 * k
              · rw [if_pos q6, ad1 j (by omega) (by omega), show j - 1 = 2 * k by omega]
              · rw [if_neg q6]
                exact f1 j j0 (by omega)
          · rw [yr_sa (np _), yr_sa (np _), if_neg (by omega), if_neg (by omega)]
            exact f2 j (by omega) j1
        · rw [decide_eq_false (fun z => q2 z.2.1), Bool.false_and] at hb1
          simp only [if_neg q2, if_true]
          rw [c_191 (by decide) (by decide)]
          exact hb1 rfl M hM
      · rw [if_pos (Classical.byContradiction fun z => q3 (a1.2 z))]
        rw [decide_eq_false (fun z => q3 z.2.2), Bool.false_and] at hb1
        rw [c_191 (by decide) (by decide)]
        exact hb1 rfl M hM
    · rw [decide_eq_false (fun z => q1 z.1), Bool.false_and] at hb1
      simp only [if_neg q1, if_true]
      rw [c_191 (by decide) (by decide)]
      exact hb1 rfl M hM
end PS
