/-! ===== pairs: copy, seek, signs ===== -/
def ylstN (p : Int → Bool) : Nat → Int
  | 0 => -1
  | n + 1 => bif p n then n else ylstN p n
/-- the last below n with p; -1 -/
def ylst (p : Int → Bool) (n : Int) : Int := ylstN p n.toNat
theorem ylst_t {p : Int → Bool} {n : Int} (h : 0 ≤ n) (q : p n = true) : ylst p (n + 1) = n := by
  obtain ⟨k, rfl⟩ := Int.eq_ofNat_of_zero_le h
  show (bif p k then _ else _) = _
  rw [q]
  rfl
theorem ylst_f {p : Int → Bool} {n : Int} (h : 0 ≤ n) (q : p n = false) : ylst p (n + 1) = ylst p n := by
  obtain ⟨k, rfl⟩ := Int.eq_ofNat_of_zero_le h
  show (bif p k then _ else _) = _
  rw [q]
  rfl
theorem ylst_e {p : Int → Bool} {n : Int} (h : n ≤ 0) : ylst p n = -1 := by
  unfold ylst
  rw [show n.toNat = 0 by omega]
  rfl
theorem ylst_cut {p : Int → Bool} {a : Int} (k : Nat) (h : ∀ i, a < i → p i = false) : a + 1 ≤ k → ylst p k = ylst p (a + 1) := by
  induction k with
  | zero => intro hk; rw [ylst_e (n := a + 1) (by omega)]; exact ylst_e (by omega)
  | succ k ih =>
    intro hk
    by_cases e : a + 1 = ((k + 1 : Nat) : Int)
    · rw [e]
    · rw [show ((k + 1 : Nat) : Int) = (k : Int) + 1 by omega, ylst_f (by omega) (h k (by omega))]
      exact ih (by omega)
theorem ylstN_c {p q : Int → Bool} (n : Nat) (h : ∀ i : Nat, i < n → p i = q i) : ylstN p n = ylstN q n := by
  induction n with
  | zero => rfl
  | succ n ih =>
    show (bif p n then (n : Int) else ylstN p n) = (bif q n then (n : Int) else ylstN q n)
    rw [ih (fun i hi => h i (Nat.lt_succ_of_lt hi)), h n (Nat.lt_succ_self n)]
theorem ylst_c {p q : Int → Bool} {n : Int} (h : ∀ i, 0 ≤ i → i < n → p i = q i) : ylst p n = ylst q n := ylstN_c _ (fun i hi => h i (by omega) (by omega))
/-- the first from a on, below n + 1 -/
theorem yfnd_s {p : Int → Bool} {a n : Int} (ha : 0 ≤ a) (hn : 0 ≤ n) : yfnd p a (n + 1) = if yfnd p a n = -1 ∧ a ≤ n ∧ p n = true then n else yfnd p a n := by
  by_cases han : a ≤ n
  · rcases yfnd_r p ha han with ⟨h1, h2⟩ | ⟨h1, h2, h3, h4⟩
    · cases e : p n with
      | true =>
        rw [if_pos ⟨h1, han, rfl⟩]
        rcases yfnd_r p ha (show a ≤ n + 1 by omega) with ⟨g1, g2⟩ | ⟨g1, g2, g3, g4⟩
        · rw [g2 n han (by omega)] at e; cases e
        · by_cases z : yfnd p a (n + 1) = n
          · exact z
          · rw [h2 _ g1 (by omega)] at g3; cases g3
      | false =>
        rw [if_neg (fun q => by cases q.2.2), h1]
        rcases yfnd_r p ha (show a ≤ n + 1 by omega) with ⟨g1, g2⟩ | ⟨g1, g2, g3, g4⟩
        · exact g1
        · by_cases z : yfnd p a (n + 1) = n
          · rw [z, e] at g3; cases g3
          · rw [h2 _ g1 (by omega)] at g3; cases g3
    · rw [if_neg (fun q => by omega)]
      rcases yfnd_r p ha (show a ≤ n + 1 by omega) with ⟨g1, g2⟩ | ⟨g1, g2, g3, g4⟩
      · rw [g2 _ h1 (by omega)] at h3; cases h3
      · by_cases z1 : yfnd p a (n + 1) < yfnd p a n
        · rw [h4 _ g1 z1] at g3; cases g3
        · by_cases z2 : yfnd p a n < yfnd p a (n + 1)
          · rw [g4 _ h1 z2] at h3; cases h3
          · omega
  · rw [if_neg (fun q => han q.2.1), yfnd_e (by omega), yfnd_e (by omega)]
section PE
variable {d : Nat} {m : ZN} {L : Int} {xs : Int → Int} {Q : Int → Int → ZN → Prop}
theorem c_176 {a t k : Int} (ha : isC a) (h1 : 0 ≤ t) (h2 : t ≤ 5) (K : Int → ZN → Prop) : zcI (d + 2) 176 [zA a, zI t, zI k] m K = K (yfnd (fun p => decide (yTw (zr m (a + 1)) (ypl t p) = 1)) (max k 0) 1000) m := by
  refine zcI_eq (w_176 ?_) K
  by_cases hk : 1000 ≤ k
  · refine w_176_6 ?_
    rw [if_neg (by omega), yfnd_e (by omega)]
    exact ⟨rfl, rfl⟩
  · refine yfor (fun i => yfnd (fun p => decide (yTw (zr m (a + 1)) (ypl t p) = 1)) i 1000 = yfnd (fun p => decide (yTw (zr m (a + 1)) (ypl t p) = 1)) (max k 0) 1000 → zwpN (d + 2) 176 6 [some (zA a), some (zI t), some (zI k), some (zI i)] [] m _) (max k 0) 1000 (by omega) (fun i i0 i1 hW hr => ?_) (fun hr => ?_) rfl
    · refine w_176_6 ?_
      have i00 : 0 ≤ i := by omega
      have hp := ypl_r h1 h2 i00 i1
      rw [if_pos i1]
      simp (disch := first | trivial | assumption | omega | exact ynl rfl _ | exact znp_o rfl | rfl | (simp (disch := first | decide | omega) only [yfc, yr_so, yr_ss, yfcc, yr_cs]; first | assumption | omega)) only [yck_of, yb_id, yPI_some, yPJ_some, yPA_some, yPV_none, yfc, yr_so, yr_ss, yfcc, yr_cs, ybif_t, yrd_1, yrd_2, yfcl, isC_pos, isC_O, isC_t, isC_c, isC_w, isC_f, isC_I1, isC_01, isC_I2, isC_I3, isC_02, isC_03, isC_n1, isC_n2, isC_n3, isC_r1, isC_r2, isC_r3, isC_np, isC_np1, isC_np2, isC_np3, Bool.true_or, Bool.and_true, Bool.true_and, cond_true, ↓c_188, ↓c_319]
      by_cases q : yTw (zr m (a + 1)) (ypl t i) = 1
      · rw [if_pos q]
        rw [yfnd_t i1 (decide_eq_true q)] at hr
        exact ⟨hr, trivial⟩
      · rw [if_neg q]
        exact hW (by rw [← hr, yfnd_f i1 (decide_eq_false q)])
    · refine w_176_6 ?_
      rw [if_neg (by decide)]
      rw [yfnd_e (by decide)] at hr
      exact ⟨hr, rfl⟩
theorem c_177 {a t k : Int} (ha : isC a) (h1 : 0 ≤ t) (h2 : t ≤ 5) (hk : -2147483648 ≤ k) (K : Int → ZN → Prop) : zcI (d + 2) 177 [zA a, zI t, zI k] m K = K (ylst (fun p => decide (yTw (zr m (a + 1)) (ypl t p) = 1)) (min k 999 + 1)) m := by
  refine zcI_eq (w_177 ?_) K
  by_cases hk0 : k < 0
  · refine w_177_8 ?_
    rw [if_pos (by omega), ylst_e (by omega)]
    exact ⟨rfl, rfl⟩
  · have key := yfor (fun i => ylst (fun p => decide (yTw (zr m (a + 1)) (ypl t p) = 1)) (min k 999 - i + 1) = ylst (fun p => decide (yTw (zr m (a + 1)) (ypl t p) = 1)) (min k 999 + 1) → zwpN (d + 2) 177 8 [some (zA a), some (zI t), some (zI k), some (zI (min k 999 - i))] [] m (zPI fun v m1 => v = ylst (fun p => decide (yTw (zr m (a + 1)) (ypl t p) = 1)) (min k 999 + 1) ∧ m1 = m)) 0 (min k 999 + 1) (by omega) (fun i i0 i1 hW hr => ?_) (fun hr => ?_) (by rw [Int.sub_zero])
    · rw [Int.sub_zero] at key
      exact key
    · refine w_177_8 ?_
      have j0 : 0 ≤ min k 999 - i := by omega
      have j1 : min k 999 - i < 1000 := by omega
      have hp := ypl_r h1 h2 j0 j1
      rw [if_neg (by omega)]
      simp (disch := first | trivial | assumption | omega | exact ynl rfl _ | exact znp_o rfl | rfl | (simp (disch := first | decide | omega) only [yfc, yr_so, yr_ss, yfcc, yr_cs]; first | assumption | omega)) only [yck_of, yb_id, yPI_some, yPJ_some, yPA_some, yPV_none, yfc, yr_so, yr_ss, yfcc, yr_cs, ybif_t, yrd_1, yrd_2, yfcl, isC_pos, isC_O, isC_t, isC_c, isC_w, isC_f, isC_I1, isC_01, isC_I2, isC_I3, isC_02, isC_03, isC_n1, isC_n2, isC_n3, isC_r1, isC_r2, isC_r3, isC_np, isC_np1, isC_np2, isC_np3, Bool.true_or, Bool.and_true, Bool.true_and, cond_true, ↓c_188, ↓c_319]
      by_cases q : yTw (zr m (a + 1)) (ypl t (min k 999 - i)) = 1
      · rw [if_pos q]
        rw [ylst_t j0 (decide_eq_true q)] at hr
        exact ⟨hr, trivial⟩
      · rw [if_neg q, show min k 999 - i + -1 = min k 999 - (i + 1) by omega]
        refine hW ?_
        rw [← hr, ylst_f j0 (decide_eq_false q), show min k 999 - (i + 1) + 1 = min k 999 - i by omega]
    · refine w_177_8 ?_
      rw [if_pos (by omega)]
      rw [ylst_e (by omega)] at hr
      exact ⟨hr, rfl⟩
theorem p_seek (I : yInv L xs m) (hQ : ∀ r m2, yInv L xs m2 → Q r r m2) (c t k w : Int) (hk : -2147483648 ≤ k) : zcI (d + 9) 151 [zA 3, zI c, zI t, zI k, zI w] m (fun v m1 => zcI (d + 9) 289 [zA 236, zI c, zI t, zI k, zI w] m1 (fun v2 m2 => Q v v2 m2)) := by
  obtain ⟨n1, n2, n3⟩ := I.2.2.1.1
  refine w_151 ?_
  by_cases q1 : 0 ≤ c ∧ c < zr m 8 1
  · by_cases q2 : 0 ≤ t ∧ t ≤ 5
    · by_cases q3 : 0 ≤ w ∧ w ≤ 1
      · have hc := isC_l q1.1 (show c < 25 by omega)
        by_cases q4 : w = 0
        · simp (disch := first | trivial | assumption | omega | exact ynl rfl _ | exact znp_o rfl | rfl | (simp (disch := first | decide | omega) only [yfc, yr_so, yr_ss, yfcc, yr_cs]; first | assumption | omega)) only [yck_of, yb_id, yPI_some, yPJ_some, yPA_some, yPV_none, yfc, yr_so, yr_ss, yfcc, yr_cs, ybif_t, yrd_1, yrd_2, yfcl, isC_pos, isC_O, isC_t, isC_c, isC_w, isC_f, isC_I1, isC_01, isC_I2, isC_I3, isC_02, isC_03, isC_n1, isC_n2, isC_n3, isC_r1, isC_r2, isC_r3, isC_np, isC_np1, isC_np2, isC_np3, Bool.true_or, Bool.and_true, Bool.true_and, cond_true, ↓c_181, ↓c_182, ↓c_183, ↓c_184, ↓c_185, ↓c_186, ↓c_187, ↓c_73, ↓c_33, ↓c_23, ↓c_170, ↓c_168, ↓if_pos, ↓if_neg, yl_lt, yl_gt, yl_eq, ↓c_24, ↓c_176]
          rw [yfnd_c (q := fun p => decide (zr m 261 (1000 * c + ypl t p) = 1)) (fun i i0 i1 => by
            have hp := ypl_r q2.1 q2.2 (show 0 ≤ i by omega) i1
            rw [yTr I q1.1 q1.2 hp.1 hp.2])]
          refine w_289 ?_
          simp (disch := first | trivial | assumption | omega | exact ynl rfl _ | exact znp_o rfl | rfl | (simp (disch := first | decide | omega) only [yfc, yr_so, yr_ss, yfcc, yr_cs]; first | assumption | omega)) only [yck_of, yb_id, yPI_some, yPJ_some, yPA_some, yPV_none, yfc, yr_so, yr_ss, yfcc, yr_cs, ybif_t, yrd_1, yrd_2, yfcl, ↓c_192, ↓c_193, ↓c_194, ↓c_251, ↓c_264, ↓c_191, ↓if_pos, ↓if_neg, yl_lt, yl_gt, yl_eq, ↓c_193]
          have hx : ∀ o, zwpN (d + 9) 289 39 [some (zA 236), some (zI c), some (zI t), some (zI k), some (zI w), some (zI (yfnd (fun p => decide (zr m 261 (1000 * c + ypl t p) = 1)) (max k 0) 0)), some (zI 0), o] [] m (zPI fun v2 m2 => Q (yfnd (fun p => decide (zr m 261 (1000 * c + ypl t p) = 1)) (max k 0) 1000) v2 m2) := by
            refine yfor (fun i => ∀ o, zwpN (d + 9) 289 39 [some (zA 236), some (zI c), some (zI t), some (zI k), some (zI w), some (zI (yfnd (fun p => decide (zr m 261 (1000 * c + ypl t p) = 1)) (max k 0) i)), some (zI i), o] [] m (zPI fun v2 m2 => Q (yfnd (fun p => decide (zr m 261 (1000 * c + ypl t p) = 1)) (max k 0) 1000) v2 m2)) 0 1000 (by decide) (fun i i0 i1 hW o => ?_) (fun o => ?_)
            · refine w_289_39 ?_
              have hp := ypl_r q2.1 q2.2 i0 i1
              have hs := yfnd_s (p := fun p => decide (zr m 261 (1000 * c + ypl t p) = 1)) (a := max k 0) (n := i) (by omega) i0
              rw [hs] at hW
              by_cases z1 : zr m 261 (1000 * c + ypl t i) = 1
              · by_cases z2 : i < k
                · simp (disch := first | trivial | assumption | omega | exact ynl rfl _ | exact znp_o rfl | rfl | (simp (disch := first | decide | omega) only [yfc, yr_so, yr_ss, yfcc, yr_cs]; first | assumption | omega)) only [yck_of, yb_id, yPI_some, yPJ_some, yPA_some, yPV_none, yfc, yr_so, yr_ss, yfcc, yr_cs, ybif_t, yrd_1, yrd_2, yfcl, ↓c_209, ↓c_211, ↓if_neg, ↓if_pos]
                  rw [if_neg (fun q => by omega)] at hW
                  exact hW _
                · by_cases z3 : yfnd (fun p => decide (zr m 261 (1000 * c + ypl t p) = 1)) (max k 0) i = -1
                  · simp (disch := first | trivial | assumption | omega | exact ynl rfl _ | exact znp_o rfl | rfl | (simp (disch := first | decide | omega) only [yfc, yr_so, yr_ss, yfcc, yr_cs]; first | assumption | omega)) only [yck_of, yb_id, yPI_some, yPJ_some, yPA_some, yPV_none, yfc, yr_so, yr_ss, yfcc, yr_cs, ybif_t, yrd_1, yrd_2, yfcl, ↓c_209, ↓c_211, ↓if_neg, ↓if_pos]
                    rw [if_pos ⟨z3, by omega, decide_eq_true z1⟩] at hW
                    exact hW _
                  · simp (disch := first | trivial | assumption | omega | exact ynl rfl _ | exact znp_o rfl | rfl | (simp (disch := first | decide | omega) only [yfc, yr_so, yr_ss, yfcc, yr_cs]; first | assumption | omega)) only [yck_of, yb_id, yPI_some, yPJ_some, yPA_some, yPV_none, yfc, yr_so, yr_ss, yfcc, yr_cs, ybif_t, yrd_1, yrd_2, yfcl, ↓c_209, ↓c_211, ↓if_neg, ↓if_pos]
                    rw [if_neg (fun q => z3 q.1)] at hW
                    exact hW _
              · simp (disch := first | trivial | assumption | omega | exact ynl rfl _ | exact znp_o rfl | rfl | (simp (disch := first | decide | omega) only [yfc, yr_so, yr_ss, yfcc, yr_cs]; first | assumption | omega)) only [yck_of, yb_id, yPI_some, yPJ_some, yPA_some, yPV_none, yfc, yr_so, yr_ss, yfcc, yr_cs, ybif_t, yrd_1, yrd_2, yfcl, ↓c_209, ↓c_211, ↓if_neg, ↓if_pos]
                rw [if_neg (fun q => z1 (of_decide_eq_true q.2.2))] at hW
                exact hW _
            · refine w_289_39 ?_
              rw [if_neg (by decide)]
              exact hQ _ _ I
          rw [yfnd_e (by omega)] at hx
          exact hx _
        · simp (disch := first | trivial | assumption | omega | exact ynl rfl _ | exact znp_o rfl | rfl | (simp (disch := first | decide | omega) only [yfc, yr_so, yr_ss, yfcc, yr_cs]; first | assumption | omega)) only [yck_of, yb_id, yPI_some, yPJ_some, yPA_some, yPV_none, yfc, yr_so, yr_ss, yfcc, yr_cs, ybif_t, yrd_1, yrd_2, yfcl, isC_pos, isC_O, isC_t, isC_c, isC_w, isC_f, isC_I1, isC_01, isC_I2, isC_I3, isC_02, isC_03, isC_n1, isC_n2, isC_n3, isC_r1, isC_r2, isC_r3, isC_np, isC_np1, isC_np2, isC_np3, Bool.true_or, Bool.and_true, Bool.true_and, cond_true, ↓c_181, ↓c_182, ↓c_183, ↓c_184, ↓c_185, ↓c_186, ↓c_187, ↓c_73, ↓c_33, ↓c_23, ↓c_170, ↓c_168, ↓if_pos, ↓if_neg, yl_lt, yl_gt, yl_eq, ↓c_24, ↓c_177]
          rw [ylst_c (q := fun p => decide (zr m 261 (1000 * c + ypl t p) = 1)) (fun i i0 i1 => by
            have hp := ypl_r q2.1 q2.2 i0 (show i < 1000 by omega)
            rw [yTr I q1.1 q1.2 hp.1 hp.2])]
          have ecut : ylst (fun p => decide (zr m 261 (1000 * c + ypl t p) = 1)) (min k 999 + 1) = ylst (fun p => decide (zr m 261 (1000 * c + ypl t p) = 1 ∧ p ≤ k)) 1000 := by
            have e := ylst_cut (p := fun p => decide (zr m 261 (1000 * c + ypl t p) = 1 ∧ p ≤ min k 999)) (a := min k 999) 1000 (fun i hi => decide_eq_false (fun q => by omega)) (by omega)
            rw [ylst_c (p := fun p => decide (zr m 261 (1000 * c + ypl t p) = 1 ∧ p ≤ k)) (q := fun p => decide (zr m 261 (1000 * c + ypl t p) = 1 ∧ p ≤ min k 999)) (fun i i0 i1 => decide_eq_decide.mpr ⟨fun q => ⟨q.1, by omega⟩, fun q => ⟨q.1, by omega⟩⟩)]
            exact (ylst_c (fun i i0 i1 => decide_eq_decide.mpr ⟨fun q => ⟨q, by omega⟩, fun q => q.1⟩)).trans e.symm
          rw [ecut]
          refine w_289 ?_
          simp (disch := first | trivial | assumption | omega | exact ynl rfl _ | exact znp_o rfl | rfl | (simp (disch := first | decide | omega) only [yfc, yr_so, yr_ss, yfcc, yr_cs]; first | assumption | omega)) only [yck_of, yb_id, yPI_some, yPJ_some, yPA_some, yPV_none, yfc, yr_so, yr_ss, yfcc, yr_cs, ybif_t, yrd_1, yrd_2, yfcl, ↓c_192, ↓c_193, ↓c_194, ↓c_251, ↓c_264, ↓c_191, ↓if_pos, ↓if_neg, yl_lt, yl_gt, yl_eq, ↓c_193]
          have hx : ∀ o, zwpN (d + 9) 289 39 [some (zA 236), some (zI c), some (zI t), some (zI k), some (zI w), some (zI (ylst (fun p => decide (zr m 261 (1000 * c + ypl t p) = 1 ∧ p ≤ k)) 0)), some (zI 0), o] [] m (zPI fun v2 m2 => Q (ylst (fun p => decide (zr m 261 (1000 * c + ypl t p) = 1 ∧ p ≤ k)) 1000) v2 m2) := by
            refine yfor (fun i => ∀ o, zwpN (d + 9) 289 39 [some (zA 236), some (zI c), some (zI t), some (zI k), some (zI w), some (zI (ylst (fun p => decide (zr m 261 (1000 * c + ypl t p) = 1 ∧ p ≤ k)) i)), some (zI i), o] [] m (zPI fun v2 m2 => Q (ylst (fun p => decide (zr m 261 (1000 * c + ypl t p) = 1 ∧ p ≤ k)) 1000) v2 m2)) 0 1000 (by decide) (fun i i0 i1 hW o => ?_) (fun o => ?_)
            · refine w_289_39 ?_
              have hp := ypl_r q2.1 q2.2 i0 i1
              by_cases z1 : zr m 261 (1000 * c + ypl t i) = 1
              · by_cases z2 : k < i
                · simp (disch := first | trivial | assumption | omega | exact ynl rfl _ | exact znp_o rfl | rfl | (simp (disch := first | decide | omega) only [yfc, yr_so, yr_ss, yfcc, yr_cs]; first | assumption | omega)) only [yck_of, yb_id, yPI_some, yPJ_some, yPA_some, yPV_none, yfc, yr_so, yr_ss, yfcc, yr_cs, ybif_t, yrd_1, yrd_2, yfcl, ↓c_209, ↓c_211, ↓if_neg, ↓if_pos]
                  rw [ylst_f i0 (decide_eq_false (fun q => by omega))] at hW
                  exact hW _
                · simp (disch := first | trivial | assumption | omega | exact ynl rfl _ | exact znp_o rfl | rfl | (simp (disch := first | decide | omega) only [yfc, yr_so, yr_ss, yfcc, yr_cs]; first | assumption | omega)) only [yck_of, yb_id, yPI_some, yPJ_some, yPA_some, yPV_none, yfc, yr_so, yr_ss, yfcc, yr_cs, ybif_t, yrd_1, yrd_2, yfcl, ↓c_209, ↓c_211, ↓if_neg, ↓if_pos]
                  rw [ylst_t i0 (decide_eq_true ⟨z1, by omega⟩)] at hW
                  exact hW _
              · simp (disch := first | trivial | assumption | omega | exact ynl rfl _ | exact znp_o rfl | rfl | (simp (disch := first | decide | omega) only [yfc, yr_so, yr_ss, yfcc, yr_cs]; first | assumption | omega)) only [yck_of, yb_id, yPI_some, yPJ_some, yPA_some, yPV_none, yfc, yr_so, yr_ss, yfcc, yr_cs, ybif_t, yrd_1, yrd_2, yfcl, ↓c_209, ↓c_211, ↓if_neg, ↓if_pos]
                rw [ylst_f i0 (decide_eq_false (fun q => z1 q.1))] at hW
                exact hW _
            · refine w_289_39 ?_
              rw [if_neg (by decide)]
              exact hQ _ _ I
          rw [ylst_e (by omega)] at hx
          exact hx _
      · simp (disch := first | trivial | assumption | omega | exact ynl rfl _ | exact znp_o rfl | rfl | (simp (disch := first | decide | omega) only [yfc, yr_so, yr_ss, yfcc, yr_cs]; first | assumption | omega)) only [yck_of, yb_id, yPI_some, yPJ_some, yPA_some, yPV_none, yfc, yr_so, yr_ss, yfcc, yr_cs, ybif_t, yrd_1, yrd_2, yfcl, ↓c_181, ↓c_182, ↓c_183, ↓c_184, ↓c_185, ↓c_186, ↓c_187, ↓c_73, ↓c_33, ↓c_23, ↓c_170, ↓c_168, ↓if_pos, ↓if_neg, yl_lt, yl_gt, yl_eq]
        (refine w_289 ?_; simp (disch := first | trivial | assumption | omega | exact ynl rfl _ | exact znp_o rfl | rfl | (simp (disch := first | decide | omega) only [yfc, yr_so, yr_ss, yfcc, yr_cs]; first | assumption | omega)) only [yck_of, yb_id, yPI_some, yPJ_some, yPA_some, yPV_none, yfc, yr_so, yr_ss, yfcc, yr_cs, ybif_t, yrd_1, yrd_2, yfcl, ↓c_192, ↓c_193, ↓c_194, ↓c_251, ↓c_264, ↓c_191, ↓if_pos, ↓if_neg, yl_lt, yl_gt, yl_eq, ↓c_193]; exact p_ref (by decide) (by decide) I (hQ _))
    · simp (disch := first | trivial | assumption | omega | exact ynl rfl _ | exact znp_o rfl | rfl | (simp (disch := first | decide | omega) only [yfc, yr_so, yr_ss, yfcc, yr_cs]; first | assumption | omega)) only [yck_of, yb_id, yPI_some, yPJ_some, yPA_some, yPV_none, yfc, yr_so, yr_ss, yfcc, yr_cs, ybif_t, yrd_1, yrd_2, yfcl, ↓c_181, ↓c_182, ↓c_183, ↓c_184, ↓c_185, ↓c_186, ↓c_187, ↓c_73, ↓c_33, ↓c_23, ↓c_170, ↓c_168, ↓if_pos, ↓if_neg, yl_lt, yl_gt, yl_eq]
      (refine w_289 ?_; simp (disch := first | trivial | assumption | omega | exact ynl rfl _ | exact znp_o rfl | rfl | (simp (disch := first | decide | omega) only [yfc, yr_so, yr_ss, yfcc, yr_cs]; first | assumption | omega)) only [yck_of, yb_id, yPI_some, yPJ_some, yPA_some, yPV_none, yfc, yr_so, yr_ss, yfcc, yr_cs, ybif_t, yrd_1, yrd_2, yfcl, ↓c_192, ↓c_193, ↓c_194, ↓c_251, ↓c_264, ↓c_191, ↓if_pos, ↓if_neg, yl_lt, yl_gt, yl_eq, ↓c_193]; exact p_ref (by decide) (by decide) I (hQ _))
  · simp (disch := first | trivial | assumption | omega | exact ynl rfl _ | exact znp_o rfl | rfl | (simp (disch := first | decide | omega) only [yfc, yr_so, yr_ss, yfcc, yr_cs]; first | assumption | omega)) only [yck_of, yb_id, yPI_some, yPJ_some, yPA_some, yPV_none, yfc, yr_so, yr_ss, yfcc, yr_cs, ybif_t, yrd_1, yrd_2, yfcl, ↓c_181, ↓c_182, ↓c_183, ↓c_184, ↓c_185, ↓c_186, ↓c_187, ↓c_73, ↓c_33, ↓c_23, ↓c_170, ↓c_168, ↓if_pos, ↓if_neg, yl_lt, yl_gt, yl_eq]
    (refine w_289 ?_; simp (disch := first | trivial | assumption | omega | exact ynl rfl _ | exact znp_o rfl | rfl | (simp (disch := first | decide | omega) only [yfc, yr_so, yr_ss, yfcc, yr_cs]; first | assumption | omega)) only [yck_of, yb_id, yPI_some, yPJ_some, yPA_some, yPV_none, yfc, yr_so, yr_ss, yfcc, yr_cs, ybif_t, yrd_1, yrd_2, yfcl, ↓c_192, ↓c_193, ↓c_194, ↓c_251, ↓c_264, ↓c_191, ↓if_pos, ↓if_neg, yl_lt, yl_gt, yl_eq, ↓c_193]; exact p_ref (by decide) (by decide) I (hQ _))
theorem c_200a {p q i j n : Int} {P : Option ZV → ZN → Prop} (p0 : 0 ≤ p) (p1 : p < 8) (i0 : 0 ≤ i) (i1 : i + n ≤ 40) (n0 : 0 ≤ n) (h : zwpN (d + 1) 200 225 [some (zA 236), some (zI p), some (zI q), some (zI i), some (zI j), some (zI n), some (zI 0)] [] (zcc m 249 (fun x => if 0 ≤ x ∧ x < n then zr m (241 + p) (i + x) else zr m 249 x)) P) : zwpN (d + 1) 200 191 [some (zA 236), some (zI p), some (zI q), some (zI i), some (zI j), some (zI n), some (zI 0)] [] m P := by
  have np : ∀ j, znp' 249 j = true := ynl rfl
  have e0 : m = zcc m 249 (fun x => if 0 ≤ x ∧ x < 0 then zr m (241 + p) (i + x) else zr m 249 x) := by
    rw [ycc_F (G := zr m 249) (fun j => by rw [if_neg (by omega)]), ycc_id np]
  have key := yfor (fun k => zwpN (d + 1) 200 191 [some (zA 236), some (zI p), some (zI q), some (zI i), some (zI j), some (zI n), some (zI k)] [] (zcc m 249 (fun x => if 0 ≤ x ∧ x < k then zr m (241 + p) (i + x) else zr m 249 x)) P) 0 n n0 (fun k k0 k1 hW => ?_) ?_
  · rw [← e0] at key
    exact key
  · refine w_200_191 ?_
    simp (disch := first | trivial | assumption | omega | exact ynl rfl _ | exact znp_o rfl | rfl | (simp (disch := first | decide | omega) only [yfc, yr_so, yr_ss, yfcc, yr_cs]; first | assumption | omega)) only [yck_of, yb_id, yPI_some, yPJ_some, yPA_some, yPV_none, yfc, yr_so, yr_ss, yfcc, yr_cs, ybif_t, yrd_1, yrd_2, yfcl, isR_J, isR_n, isR_np, isR_r, isR_p, yl_p, yk_p, ↓if_pos]
    rw [ycc_sn np, ycc_F (G := fun x => if 0 ≤ x ∧ x < k + 1 then zr m (241 + p) (i + x) else zr m 249 x) (fun x => by
      by_cases z : x = k
      · rw [if_pos z, if_pos (by omega), z]
      · rw [if_neg z]
        by_cases z2 : 0 ≤ x ∧ x < k
        · rw [if_pos z2, if_pos (by omega)]
        · rw [if_neg z2, if_neg (by omega)])]
    exact hW
  · refine w_200_191 ?_
    rw [if_neg (by omega)]
    exact h
theorem c_200b {p q i j n : Int} {P : Option ZV → ZN → Prop} (p0 : 0 ≤ q) (p1 : q < 8) (i0 : 0 ≤ j) (i1 : j + n ≤ 40) (n0 : 0 ≤ n) (h : P (some (zI n)) (zcc m (241 + q) (fun x => if j ≤ x ∧ x < j + n then zr m 249 (x - j) else zr m (241 + q) x))) : zwpN (d + 1) 200 225 [some (zA 236), some (zI p), some (zI q), some (zI i), some (zI j), some (zI n), some (zI 0)] [] m P := by
  have np : ∀ j, znp' (241 + q) j = true := isR_np p0 p1
  have e0 : m = zcc m (241 + q) (fun x => if j ≤ x ∧ x < j + 0 then zr m 249 (x - j) else zr m (241 + q) x) := by
    rw [ycc_F (G := zr m (241 + q)) (fun j => by rw [if_neg (by omega)]), ycc_id np]
  have key := yfor (fun k => zwpN (d + 1) 200 225 [some (zA 236), some (zI p), some (zI q), some (zI i), some (zI j), some (zI n), some (zI k)] [] (zcc m (241 + q) (fun x => if j ≤ x ∧ x < j + k then zr m 249 (x - j) else zr m (241 + q) x)) P) 0 n n0 (fun k k0 k1 hW => ?_) ?_
  · rw [← e0] at key
    exact key
  · refine w_200_225 ?_
    simp (disch := first | trivial | assumption | omega | exact ynl rfl _ | exact znp_o rfl | rfl | (simp (disch := first | decide | omega) only [yfc, yr_so, yr_ss, yfcc, yr_cs]; first | assumption | omega)) only [yck_of, yb_id, yPI_some, yPJ_some, yPA_some, yPV_none, yfc, yr_so, yr_ss, yfcc, yr_cs, ybif_t, yrd_1, yrd_2, yfcl, isR_J, isR_n, isR_np, isR_r, isR_p, yl_p, yk_p, ↓if_pos]
    rw [ycc_sn np, ycc_F (G := fun x => if j ≤ x ∧ x < j + (k + 1) then zr m 249 (x - j) else zr m (241 + q) x) (fun x => by
      by_cases z : x = j + k
      · rw [if_pos z, if_pos (by omega), z, show j + k - j = k by omega]
      · rw [if_neg z]
        by_cases z2 : j ≤ x ∧ x < j + k
        · rw [if_pos z2, if_pos (by omega)]
        · rw [if_neg z2, if_neg (by omega)])]
    exact hW
  · refine w_200_225 ?_
    rw [if_neg (by omega)]
    exact h
end PE
