/-! ===== a condition on several columns ===== -/
theorem ymsk : ∀ y : Nat, y < 8 → ∀ c : Nat, c < 3 → ((zand y (zshl 1 c) = 0 ↔ ¬ zand (zshr y c) 1 = 1) ∧ 0 ≤ zor y (zshl 1 c) ∧ zor y (zshl 1 c) < 8 ∧ ∀ k : Nat, k < 3 → (zand (zor y (zshl 1 c)) (zshl 1 k) = 0 ↔ (zand y (zshl 1 k) = 0 ∧ k ≠ c))) := by decide +kernel
theorem ymskI {y c : Int} (y0 : 0 ≤ y) (y1 : y < 8) (c0 : 0 ≤ c) (c1 : c ≤ 2) : (zand y (zshl 1 c) = 0 ↔ ¬ zand (zshr y c) 1 = 1) ∧ 0 ≤ zor y (zshl 1 c) ∧ zor y (zshl 1 c) < 8 ∧ ∀ k, 0 ≤ k → k < 3 → (zand (zor y (zshl 1 c)) (zshl 1 k) = 0 ↔ (zand y (zshl 1 k) = 0 ∧ k ≠ c)) := by
  obtain ⟨n, rfl⟩ := Int.eq_ofNat_of_zero_le y0
  obtain ⟨p, rfl⟩ := Int.eq_ofNat_of_zero_le c0
  obtain ⟨a1, a2, a3, a4⟩ := ymsk n (by omega) p (by omega)
  refine ⟨a1, a2, a3, fun k k0 k1 => ?_⟩
  obtain ⟨q, rfl⟩ := Int.eq_ofNat_of_zero_le k0
  rw [a4 q (by omega)]
  omega
/-- the numbers tell columns, each once, and what they want -/
def yte (e : Int → Int) : Nat → Int → Int → Bool
  | 0, _, _ => true
  | n + 1, k, y => decide ((0 ≤ e (2 * k) ∧ e (2 * k) ≤ 2) ∧ (1 ≤ e (2 * k + 1) ∧ e (2 * k + 1) ≤ 9) ∧ zand y (zshl 1 (e (2 * k))) = 0) && yte e n (k + 1) (zor y (zshl 1 (e (2 * k))))
theorem yte_s (e : Int → Int) (n : Nat) (k y : Int) : yte e (n + 1) k y = (decide ((0 ≤ e (2 * k) ∧ e (2 * k) ≤ 2) ∧ (1 ≤ e (2 * k + 1) ∧ e (2 * k + 1) ≤ 9) ∧ zand y (zshl 1 (e (2 * k))) = 0) && yte e n (k + 1) (zor y (zshl 1 (e (2 * k))))) := rfl
section PS
variable {d : Nat} {m : ZN} {L : Int} {xs : Int → Int} {Q : Int → Int → ZN → Prop}
theorem c_80_0 {s n : Int} (h1 : 0 ≤ s) (h2 : s < 8) (h : zr m 213 s = -1) (K : Int → ZN → Prop) : zcI (d + 1) 80 [zA 212, zI s, zI n] m K = K (-104) m := by
  refine zcI_eq (w_80 (w_79 ?_)) K
  simp (disch := first | trivial | assumption | omega | exact ynl rfl _ | exact znp_o rfl | rfl | (simp (disch := first | decide | omega) only [yfc, yr_so, yr_ss, yfcc, yr_cs]; first | assumption | omega)) only [yck_of, yb_id, yPI_some, yPJ_some, yPA_some, yPV_none, yfc, yr_so, yr_ss, yfcc, yr_cs, ybif_t, yrd_1, yrd_2, yfcl, ↓c_181, ↓c_182, ↓c_183, ↓c_184, ↓c_185, ↓c_186, ↓c_187, ↓c_73, ↓c_33, ↓c_23, ↓c_170, ↓c_168, ↓if_pos, ↓if_neg, yl_lt, yl_gt, yl_eq, h, and_self]
theorem c_80_2 {s n : Int} (h1 : 0 ≤ s) (h2 : s < 8) (h : 10 ≤ zr m 213 s) (K : Int → ZN → Prop) : zcI (d + 1) 80 [zA 212, zI s, zI n] m K = K (-103) m := by
  refine zcI_eq (w_80 (w_79 ?_)) K
  simp (disch := first | trivial | assumption | omega | exact ynl rfl _ | exact znp_o rfl | rfl | (simp (disch := first | decide | omega) only [yfc, yr_so, yr_ss, yfcc, yr_cs]; first | assumption | omega)) only [yck_of, yb_id, yPI_some, yPJ_some, yPA_some, yPV_none, yfc, yr_so, yr_ss, yfcc, yr_cs, ybif_t, yrd_1, yrd_2, yfcl, ↓c_181, ↓c_182, ↓c_183, ↓c_184, ↓c_185, ↓c_186, ↓c_187, ↓c_73, ↓c_33, ↓c_23, ↓c_170, ↓c_168, ↓if_pos, ↓if_neg, yl_lt, yl_gt, yl_eq, and_self]
theorem c_80_1 {s n : Int} (h1 : 0 ≤ s) (h2 : s < 8) (h : 0 ≤ zr m 213 s) (h' : zr m 213 s ≤ 4) (K : Int → ZN → Prop) : zcI (d + 1) 80 [zA 212, zI s, zI n] m K = K (if zr m 214 s < n then -102 else 0) m := by
  refine zcI_eq (w_80 (w_79 ?_)) K
  by_cases q : zr m 214 s < n
  · simp (disch := first | trivial | assumption | omega | exact ynl rfl _ | exact znp_o rfl | rfl | (simp (disch := first | decide | omega) only [yfc, yr_so, yr_ss, yfcc, yr_cs]; first | assumption | omega)) only [yck_of, yb_id, yPI_some, yPJ_some, yPA_some, yPV_none, yfc, yr_so, yr_ss, yfcc, yr_cs, ybif_t, yrd_1, yrd_2, yfcl, ↓c_181, ↓c_182, ↓c_183, ↓c_184, ↓c_185, ↓c_186, ↓c_187, ↓c_73, ↓c_33, ↓c_23, ↓c_170, ↓c_168, ↓if_pos, ↓if_neg, yl_lt, yl_gt, yl_eq, and_self]
  · simp (disch := first | trivial | assumption | omega | exact ynl rfl _ | exact znp_o rfl | rfl | (simp (disch := first | decide | omega) only [yfc, yr_so, yr_ss, yfcc, yr_cs]; first | assumption | omega)) only [yck_of, yb_id, yPI_some, yPJ_some, yPA_some, yPV_none, yfc, yr_so, yr_ss, yfcc, yr_cs, ybif_t, yrd_1, yrd_2, yfcl, ↓c_181, ↓c_182, ↓c_183, ↓c_184, ↓c_185, ↓c_186, ↓c_187, ↓c_73, ↓c_33, ↓c_23, ↓c_170, ↓c_168, ↓if_pos, ↓if_neg, yl_lt, yl_gt, yl_eq, and_self]
theorem c_257_0 {s n : Int} (h1 : 0 ≤ s) (h2 : s < 8) (h : zr m 237 s = 0) (K : Int → ZN → Prop) : zcI (d + 2) 257 [zA 236, zI s, zI n] m K = K (-104) (zsn m 252 (-(-104) - 100) (zb (zr m 252 (-(-104) - 100) + 1))) := by
  refine zcI_eq (w_257 ?_) K
  simp (disch := first | trivial | assumption | omega | exact ynl rfl _ | exact znp_o rfl | rfl | (simp (disch := first | decide | omega) only [yfc, yr_so, yr_ss, yfcc, yr_cs]; first | assumption | omega)) only [yck_of, yb_id, yPI_some, yPJ_some, yPA_some, yPV_none, yfc, yr_so, yr_ss, yfcc, yr_cs, ybif_t, yrd_1, yrd_2, yfcl, ↓c_192, ↓c_193, ↓c_194, ↓c_251, ↓c_264, ↓c_191, ↓if_pos, ↓if_neg, yl_lt, yl_gt, yl_eq, ↓c_198_0, and_self]
theorem c_257_2 {s n : Int} (h1 : 0 ≤ s) (h2 : s < 8) (h : zr m 237 s = 2) (K : Int → ZN → Prop) : zcI (d + 2) 257 [zA 236, zI s, zI n] m K = K (-103) (zsn m 252 (-(-103) - 100) (zb (zr m 252 (-(-103) - 100) + 1))) := by
  refine zcI_eq (w_257 ?_) K
  simp (disch := first | trivial | assumption | omega | exact ynl rfl _ | exact znp_o rfl | rfl | (simp (disch := first | decide | omega) only [yfc, yr_so, yr_ss, yfcc, yr_cs]; first | assumption | omega)) only [yck_of, yb_id, yPI_some, yPJ_some, yPA_some, yPV_none, yfc, yr_so, yr_ss, yfcc, yr_cs, ybif_t, yrd_1, yrd_2, yfcl, ↓c_192, ↓c_193, ↓c_194, ↓c_251, ↓c_264, ↓c_191, ↓if_pos, ↓if_neg, yl_lt, yl_gt, yl_eq, ↓c_198_2, and_self]
theorem c_257_1 {s n : Int} (h1 : 0 ≤ s) (h2 : s < 8) (h : zr m 237 s = 1) (q : zr m 239 s < n) (K : Int → ZN → Prop) : zcI (d + 2) 257 [zA 236, zI s, zI n] m K = K (-102) (zsn m 252 (-(-102) - 100) (zb (zr m 252 (-(-102) - 100) + 1))) := by
  refine zcI_eq (w_257 ?_) K
  simp (disch := first | trivial | assumption | omega | exact ynl rfl _ | exact znp_o rfl | rfl | (simp (disch := first | decide | omega) only [yfc, yr_so, yr_ss, yfcc, yr_cs]; first | assumption | omega)) only [yck_of, yb_id, yPI_some, yPJ_some, yPA_some, yPV_none, yfc, yr_so, yr_ss, yfcc, yr_cs, ybif_t, yrd_1, yrd_2, yfcl, ↓c_192, ↓c_193, ↓c_194, ↓c_251, ↓c_264, ↓c_191, ↓if_pos, ↓if_neg, yl_lt, yl_gt, yl_eq, ↓c_198_1, and_self]
theorem c_257_g {s n : Int} (h1 : 0 ≤ s) (h2 : s < 8) (h : zr m 237 s = 1) (q : ¬ zr m 239 s < n) (K : Int → ZN → Prop) : zcI (d + 2) 257 [zA 236, zI s, zI n] m K = K 0 m := by
  refine zcI_eq (w_257 ?_) K
  simp (disch := first | trivial | assumption | omega | exact ynl rfl _ | exact znp_o rfl | rfl | (simp (disch := first | decide | omega) only [yfc, yr_so, yr_ss, yfcc, yr_cs]; first | assumption | omega)) only [yck_of, yb_id, yPI_some, yPJ_some, yPA_some, yPV_none, yfc, yr_so, yr_ss, yfcc, yr_cs, ybif_t, yrd_1, yrd_2, yfcl, ↓c_192, ↓c_193, ↓c_194, ↓c_251, ↓c_264, ↓c_191, ↓if_pos, ↓if_neg, yl_lt, yl_gt, yl_eq, ↓c_198_1, and_self]
theorem c_171l {s b : Int} {P : Option ZV → ZN → Prop} (h1 : 0 ≤ s) (h2 : s < 8) (hb : b ≤ 3) {e : Int → Int} (he : ∀ j, 0 ≤ j → j < 40 → zr m 215 (40 * s + j) = e j) : ∀ (n : Nat) (k y : Int) (o5 o7 o9 : Option ZV), 0 ≤ k → k + n = b → 0 ≤ y → y < 8 → P (some (zI (if yte e n k y then 1 else 0))) m → zwpN (d + 1) 171 5 [some (zA 3), some (zI s), some (zI b), some (zI y), some (zI k), o5, none, o7, none, o9] [] m P := by
  intro n
  induction n with
  | zero =>
    intro k y o5 o7 o9 k0 kn y0 y1 h
    refine w_171_5 ?_
    rw [if_neg (by omega), yck_of (by decide)]
    exact h
  | succ n ih =>
    intro k y o5 o7 o9 k0 kn y0 y1 h
    refine w_171_5 ?_
    rw [if_pos (by omega), show zb (2 * k) = 2 * k from yb_id (by omega) (by omega), show zb (2 * k + 1) = 2 * k + 1 from yb_id (by omega) (by omega), show zb (k + 1) = k + 1 from yb_id (by omega) (by omega)]
    rw [c_84 h1 h2 (show 0 ≤ 2 * k by omega) (by omega), c_84 h1 h2 (show 0 ≤ 2 * k + 1 by omega) (by omega), he _ (by omega) (by omega), he _ (by omega) (by omega)]
    simp only [yl_lt, yl_gt]
    rw [yte_s] at h
    by_cases q1 : 0 ≤ e (2 * k) ∧ e (2 * k) ≤ 2
    · rw [if_neg (by omega), if_pos (by omega)]
      by_cases q2 : 1 ≤ e (2 * k + 1) ∧ e (2 * k + 1) ≤ 9
      · rw [if_neg (by omega), if_neg (by omega), show zb (e (2 * k)) = e (2 * k) from yb_id (by omega) (by omega)]
        by_cases q3 : zand y (zshl 1 (e (2 * k))) = 0
        · rw [if_pos q3]
          obtain ⟨a1, a2, a3, a4⟩ := ymskI y0 y1 q1.1 q1.2
          refine ih _ _ _ _ _ (by omega) (by omega) a2 a3 ?_
          rw [decide_eq_true (show _ ∧ _ ∧ _ from ⟨q1, q2, q3⟩), Bool.true_and] at h
          exact h
        · rw [if_neg q3, yck_of (by decide)]
          rw [decide_eq_false (fun z => q3 z.2.2), Bool.false_and] at h
          exact h
      · rw [decide_eq_false (fun z => q2 z.2.1), Bool.false_and] at h
        by_cases q4 : e (2 * k + 1) < 1
        · rw [if_pos q4, yck_of (by decide)]
          exact h
        · rw [if_neg q4, if_pos (by omega), yck_of (by decide)]
          exact h
    · rw [decide_eq_false (fun z => q1 z.1), Bool.false_and] at h
      by_cases q4 : e (2 * k) < 0
      · rw [if_pos q4, yck_of (by decide)]
        exact h
      · rw [if_neg q4, if_neg (by omega), yck_of (by decide)]
        exact h
theorem c_171 {s b : Int} (h1 : 0 ≤ s) (h2 : s < 8) (b0 : 0 ≤ b) (hb : b ≤ 3) {e : Int → Int} (he : ∀ j, 0 ≤ j → j < 40 → zr m 215 (40 * s + j) = e j) (K : Int → ZN → Prop) : zcI (d + 1) 171 [zA 3, zI s, zI b] m K = K (if yte e b.toNat 0 0 then 1 else 0) m := by
  refine zcI_eq (w_171 ?_) K
  exact c_171l h1 h2 hb he b.toNat 0 0 none none none (by decide) (by omega) (by decide) (by decide) ⟨rfl, rfl⟩
end PS
