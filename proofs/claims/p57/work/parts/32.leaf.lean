/-! ===== a condition worked out, in the class ===== -/
theorem ybitI {v w : Int} (h1 : 0 ≤ v) (h2 : v < 10) (h3 : 0 ≤ w) (h4 : w < 1024) : (if zand w (zshl 1 v) = 0 then (0 : Int) else 1) = zand (zshr w v) 1 := by
  obtain ⟨n, rfl⟩ := Int.eq_ofNat_of_zero_le h1
  obtain ⟨k, rfl⟩ := Int.eq_ofNat_of_zero_le h3
  exact ybit n (by omega) k (by omega)
theorem yb01 (v : Nat) (hv : v < 10) (w : Nat) (hw : w < 1024) : zand (zshr w v) 1 = 0 ∨ zand (zshr w v) 1 = 1 := by
  rw [← ybit v hv w hw]
  split
  · exact Or.inl rfl
  · exact Or.inr rfl
theorem yhold_r (s v w : Int) : 0 ≤ yhold s v w ∧ yhold s v w ≤ 1 := by
  unfold yhold
  repeat' split
  all_goals omega
theorem yequ_r (ad : Int → Int) (p : Int) : ∀ n, yequ ad p n = 0 ∨ yequ ad p n = 1 ∨ yequ ad p n = 2 := by
  intro n
  induction n with
  | zero => exact Or.inr (Or.inl rfl)
  | succ n ih =>
    unfold yequ
    split
    · exact Or.inl rfl
    · split
      · exact Or.inr (Or.inr rfl)
      · exact ih
theorem yequ_0 {ad : Int → Int} {p : Int} {k : Nat} (h : yequ ad p k = 0) : ∀ n, k ≤ n → yequ ad p n = 0 := by
  intro n
  induction n with
  | zero => intro hk; rw [show (0 : Nat) = k by omega]; exact h
  | succ n ih =>
    intro hk
    by_cases e : k = n + 1
    · rw [← e]; exact h
    · have := ih (by omega)
      unfold yequ
      split
      · rfl
      · rw [this, if_neg (fun q => by omega)]
theorem yopp_r {x : Int} (h : x = 0 ∨ x = 1 ∨ x = 2) : 0 ≤ yopp x ∧ yopp x ≤ 2 := by rcases h with rfl | rfl | rfl <;> decide
theorem yord_r (s : Int) (ad : Int → Int) (p : Int) : ∀ (n : Nat) (k : Int), 0 ≤ yord s ad p n k ∧ yord s ad p n k ≤ 2 := by
  intro n
  induction n with
  | zero => intro k; exact (⟨by decide, by decide⟩ : (0 : Int) ≤ 0 ∧ (0 : Int) ≤ 2)
  | succ n ih =>
    intro k
    unfold yord
    split
    · exact ⟨by decide, by decide⟩
    · split
      · exact ih _
      · have := yhold_r s (ydig p (ad (1 + 2 * k))) (ad (2 + 2 * k))
        omega
theorem yleaf_r {kd sg i p : Int} {ad : Int → Int} (W : yWf kd sg ad i) (hk : kd ≤ 5) (p0 : 0 ≤ p) (p1 : p < 1000) : 0 ≤ yleaf kd sg ad p ∧ yleaf kd sg ad p ≤ 2 := by
  unfold yleaf
  have hd := ydig_r (p := ad 0) p0 p1
  split
  · split <;> omega
  · split
    · split
      · exact yord_r _ _ _ _ _
      · split
        · have := yequ_r ad p (ad 0).toNat; omega
        · exact yopp_r (yequ_r _ _ _)
    · split
      · omega
      · split
        · have := yhold_r sg (ydig p (ad 0)) (ad 1); omega
        · split
          · next h1 =>
            have hw := W.2.2.2.2.2.1 h1
            have := yb01 (ydig p (ad 0)).toNat (by omega) (ad 1).toNat (by omega)
            rw [Int.toNat_of_nonneg hd.1, Int.toNat_of_nonneg hw.1] at this
            omega
          · split
            · split
              · omega
              · have := yhold_r sg (ydig p (ad 0)) (ydig p (ad 1)); omega
            · split <;> omega
theorem yjoin_r {kd x y : Int} (hx : 0 ≤ x ∧ x ≤ 2) : 0 ≤ yjoin kd x y ∧ yjoin kd x y ≤ 2 := by
  unfold yjoin
  split
  · repeat' split
    all_goals omega
  · split
    · repeat' split
      all_goals omega
    · split
      · exact yopp_r (by omega)
      · split <;> omega
theorem yord_s (s : Int) (a : Int → Int) (key : Int) (n : Nat) (k : Int) : yord s a key (n + 1) k = if ydig key (a (1 + 2 * k)) = 0 then 2 else if ydig key (a (1 + 2 * k)) = a (2 + 2 * k) then yord s a key n (k + 1) else yhold s (ydig key (a (1 + 2 * k))) (a (2 + 2 * k)) := rfl
theorem yequ_s (a : Int → Int) (key : Int) (n : Nat) : yequ a key (n + 1) = if ydig key (a (1 + 2 * n)) ≠ 0 ∧ ydig key (a (1 + 2 * n)) ≠ a (2 + 2 * n) then 0 else if ydig key (a (1 + 2 * n)) = 0 ∧ yequ a key n = 1 then 2 else yequ a key n := rfl
section YF
variable {d : Nat} {m : ZN}
theorem c_15 (x : Int) (K : Int → ZN → Prop) : zcI d 15 [zI x] m K = K (yopp x) m := by
  refine zcI_eq (w_15 ?_) K
  unfold yopp
  repeat' split
  all_goals exact ⟨rfl, rfl⟩
theorem c_11 (x b : Int) (K : Int → ZN → Prop) : zcI d 11 [zI x, zI b] m K = K (if x = 0 then 2 else if b = 0 then 0 else 1) m := by
  refine zcI_eq (w_11 ?_) K
  repeat' split
  all_goals exact ⟨rfl, rfl⟩
theorem c_10 {a p k : Int} (hc : isC a) (p0 : 0 ≤ p) (p1 : p < 1000) (k0 : 0 ≤ k) (k1 : k < 3) (hr : 0 ≤ zr m (a + 2) k ∧ zr m (a + 2) k ≤ 2) (K : Int → ZN → Prop) : zcI d 10 [zA a, zI p, zI k] m K = K (ydig p (zr m (a + 2) k)) m := by
  have hw := ywg_p (zr m (a + 2) k)
  have hd : 0 ≤ p / ywg (zr m (a + 2) k) ∧ p / ywg (zr m (a + 2) k) ≤ p := ⟨Int.ediv_nonneg p0 (by omega), Int.ediv_le_self _ p0⟩
  refine zcI_eq (w_10 ?_) K
  simp (disch := first | trivial | assumption | omega | exact ynl rfl _ | exact znp_o rfl | rfl | (simp (disch := first | decide | omega) only [yfc, yr_so, yr_ss, yfcc, yr_cs]; first | assumption | omega)) only [yck_of, yb_id, yPI_some, yPJ_some, yPA_some, yPV_none, yfc, yr_so, yr_ss, yfcc, yr_cs, ybif_t, yrd_1, yrd_2, yfcl, isC_pos, isC_O, isC_t, isC_c, isC_w, isC_f, isC_I1, isC_01, isC_I2, isC_I3, isC_02, isC_03, isC_n1, isC_n2, isC_n3, isC_r1, isC_r2, isC_r3, isC_np, isC_np1, isC_np2, isC_np3, Bool.true_or, Bool.and_true, Bool.true_and, cond_true, Int.tdiv_eq_ediv_of_nonneg, Int.tmod_eq_emod_of_nonneg]
  exact ⟨ydig_w p0 p1 hr.1 hr.2, trivial⟩
theorem c_14 {a x y kd : Int} (hc : isC a) (hk : zr m a 0 = kd) (h6 : 6 ≤ kd) (h9 : kd ≤ 9) (K : Int → ZN → Prop) : zcI (d + 1) 14 [zA a, zI x, zI y] m K = K (yjoin kd x y) m := by
  refine zcI_eq (w_14 ?_) K
  unfold yjoin
  have : kd = 6 ∨ kd = 7 ∨ kd = 8 ∨ kd = 9 := by omega
  subst hk
  rcases this with h | h | h | h
  · by_cases x0 : x = 0 <;> by_cases y0 : y = 0 <;> by_cases x2 : x = 2 <;> by_cases y2 : y = 2 <;> simp (disch := first | trivial | assumption | omega | exact ynl rfl _ | exact znp_o rfl | rfl | (simp (disch := first | decide | omega) only [yfc, yr_so, yr_ss, yfcc, yr_cs]; first | assumption | omega)) only [yck_of, yb_id, yPI_some, yPJ_some, yPA_some, yPV_none, yfc, yr_so, yr_ss, yfcc, yr_cs, ybif_t, yrd_1, yrd_2, yfcl, isC_pos, isC_O, isC_t, isC_c, isC_w, isC_f, isC_I1, isC_01, isC_I2, isC_I3, isC_02, isC_03, isC_n1, isC_n2, isC_n3, isC_r1, isC_r2, isC_r3, isC_np, isC_np1, isC_np2, isC_np3, Bool.true_or, Bool.and_true, Bool.true_and, cond_true, ↓if_pos, ↓if_neg, h, and_self]
  · by_cases x0 : x = 1 <;> by_cases y0 : y = 1 <;> by_cases x2 : x = 2 <;> by_cases y2 : y = 2 <;> simp (disch := first | trivial | assumption | omega | exact ynl rfl _ | exact znp_o rfl | rfl | (simp (disch := first | decide | omega) only [yfc, yr_so, yr_ss, yfcc, yr_cs]; first | assumption | omega)) only [yck_of, yb_id, yPI_some, yPJ_some, yPA_some, yPV_none, yfc, yr_so, yr_ss, yfcc, yr_cs, ybif_t, yrd_1, yrd_2, yfcl, isC_pos, isC_O, isC_t, isC_c, isC_w, isC_f, isC_I1, isC_01, isC_I2, isC_I3, isC_02, isC_03, isC_n1, isC_n2, isC_n3, isC_r1, isC_r2, isC_r3, isC_np, isC_np1, isC_np2, isC_np3, Bool.true_or, Bool.and_true, Bool.true_and, cond_true, ↓if_pos, ↓if_neg, h, and_self]
  · simp (disch := first | trivial | assumption | omega | exact ynl rfl _ | exact znp_o rfl | rfl | (simp (disch := first | decide | omega) only [yfc, yr_so, yr_ss, yfcc, yr_cs]; first | assumption | omega)) only [yck_of, yb_id, yPI_some, yPJ_some, yPA_some, yPV_none, yfc, yr_so, yr_ss, yfcc, yr_cs, ybif_t, yrd_1, yrd_2, yfcl, isC_pos, isC_O, isC_t, isC_c, isC_w, isC_f, isC_I1, isC_01, isC_I2, isC_I3, isC_02, isC_03, isC_n1, isC_n2, isC_n3, isC_r1, isC_r2, isC_r3, isC_np, isC_np1, isC_np2, isC_np3, Bool.true_or, Bool.and_true, Bool.true_and, cond_true, ↓if_pos, ↓if_neg, h, ↓c_15, and_self]
  · by_cases x1 : x = 1 <;> simp (disch := first | trivial | assumption | omega | exact ynl rfl _ | exact znp_o rfl | rfl | (simp (disch := first | decide | omega) only [yfc, yr_so, yr_ss, yfcc, yr_cs]; first | assumption | omega)) only [yck_of, yb_id, yPI_some, yPJ_some, yPA_some, yPV_none, yfc, yr_so, yr_ss, yfcc, yr_cs, ybif_t, yrd_1, yrd_2, yfcl, isC_pos, isC_O, isC_t, isC_c, isC_w, isC_f, isC_I1, isC_01, isC_I2, isC_I3, isC_02, isC_03, isC_n1, isC_n2, isC_n3, isC_r1, isC_r2, isC_r3, isC_np, isC_np1, isC_np2, isC_np3, Bool.true_or, Bool.and_true, Bool.true_and, cond_true, ↓if_pos, ↓if_neg, h, and_self]
/-- what a SEVERAL keeps -/
theorem ySev {f co wa ad : Int → Int} {sg i : Int} (R : yCR f co wa 5 sg ad) (W : yWf 5 sg ad i) : f 1 = sg ∧ f 9 = ad 0 ∧ (0 ≤ sg ∧ sg ≤ 3) ∧ (ad 0 = 2 ∨ ad 0 = 3) ∧ ∀ k, 0 ≤ k → k < ad 0 → co k = ad (1 + 2 * k) ∧ wa k = ad (2 + 2 * k) ∧ (0 ≤ co k ∧ co k ≤ 2) ∧ 1 ≤ wa k ∧ wa k ≤ 9 := by
  obtain ⟨r0, r1, -, -, r9, -, -, -, -, r5⟩ := R
  obtain ⟨-, w1, -, -, -, -, -, -, w5, -⟩ := W
  obtain ⟨c0, v0, c1, v1, c3⟩ := r5 rfl
  obtain ⟨a0, a1, a2, a3, a4, a5⟩ := w5 rfl
  refine ⟨r1, r9, w1 (Or.inr (Or.inr rfl)), a0, fun k k0 k1 => ?_⟩
  have : k = 0 ∨ k = 1 ∨ (k = 2 ∧ ad 0 = 3) := by omega
  rcases this with rfl | rfl | ⟨rfl, h3⟩
  · rw [c0, v0]; exact ⟨rfl, rfl, a1, a2⟩
  · rw [c1, v1]; exact ⟨rfl, rfl, ⟨a3.1, a3.2.1⟩, a4⟩
  · rw [(c3 h3).1, (c3 h3).2]; exact ⟨rfl, rfl, ⟨(a5 h3).1.1, (a5 h3).1.2.1⟩, (a5 h3).2⟩
theorem c_12 {a p sg i : Int} {ad : Int → Int} (hc : isC a) (R : yCR (zr m a) (zr m (a + 2)) (zr m (a + 3)) 5 sg ad) (W : yWf 5 sg ad i) (hs02 : sg = 0 ∨ sg = 2) (p0 : 0 ≤ p) (p1 : p < 1000) (K : Int → ZN → Prop) : zcI (d + 1) 12 [zA a, zI p] m K = K (yord sg ad p (ad 0).toNat 0) m := by
  obtain ⟨r1, r9, hs, h23, hk⟩ := ySev R W
  refine zcI_eq (w_12 ?_) K
  have key := yfor (fun k => ∀ o3 o4, yord sg ad p (ad 0 - k).toNat k = yord sg ad p (ad 0).toNat 0 → zwpN (d + 1) 12 2 [some (zA a), some (zI p), some (zI k), o3, o4] [] m (zPI fun v m1 => v = yord sg ad p (ad 0).toNat 0 ∧ m1 = m)) 0 (ad 0) (by omega) (fun k k0 k1 hW o3 o4 hr => ?_) (fun o3 o4 hr => ?_)
  · exact key none none (by rw [Int.sub_zero])
  · refine w_12_2 ?_
    obtain ⟨e1, e2, e3, e4⟩ := hk k k0 k1
    have hd := ydig_r (p := ad (1 + 2 * k)) p0 p1
    rw [show (ad 0 - k).toNat = (ad 0 - (k + 1)).toNat + 1 by omega] at hr
    rw [yord_s] at hr
    simp (disch := first | trivial | assumption | omega | exact ynl rfl _ | exact znp_o rfl | rfl | (simp (disch := first | decide | omega) only [yfc, yr_so, yr_ss, yfcc, yr_cs]; first | assumption | omega)) only [yck_of, yb_id, yPI_some, yPJ_some, yPA_some, yPV_none, yfc, yr_so, yr_ss, yfcc, yr_cs, ybif_t, yrd_1, yrd_2, yfcl, isC_pos, isC_O, isC_t, isC_c, isC_w, isC_f, isC_I1, isC_01, isC_I2, isC_I3, isC_02, isC_03, isC_n1, isC_n2, isC_n3, isC_r1, isC_r2, isC_r3, isC_np, isC_np1, isC_np2, isC_np3, Bool.true_or, Bool.and_true, Bool.true_and, cond_true, ↓if_pos, ↓c_10, ↓c_189]
    rw [e1, e2, r1]
    by_cases z0 : ydig p (ad (1 + 2 * k)) = 0
    · rw [if_pos z0] at hr
      rw [if_pos (Or.inl z0), if_neg (by decide)]
      exact ⟨hr, trivial⟩
    · rw [if_neg z0] at hr
      rw [if_neg (show ¬ (ydig p (ad (1 + 2 * k)) = 0 ∨ ad (2 + 2 * k) = 0) by omega)]
      by_cases z1 : ydig p (ad (1 + 2 * k)) = ad (2 + 2 * k)
      · rw [if_pos z1] at hr
        have hW := hW (some (zI (ydig p (ad (1 + 2 * k))))) (some (zI (yhold sg (ydig p (ad (1 + 2 * k))) (ad (2 + 2 * k))))) hr
        have z2 : yhold sg (ydig p (ad (1 + 2 * k))) (ad (2 + 2 * k)) = 0 := by
          rw [z1]
          unfold yhold
          rcases hs02 with h | h
          · rw [if_pos h, if_neg (by omega)]
          · rw [if_neg (by omega), if_neg (by omega), if_pos h, if_neg (by omega)]
        rw [if_pos z2, if_pos z1]
        exact hW
      · rw [if_neg z1] at hr
        by_cases z2 : yhold sg (ydig p (ad (1 + 2 * k))) (ad (2 + 2 * k)) = 0
        · rw [if_pos z2, if_neg z1]
          exact ⟨by rw [← hr, z2], trivial⟩
        · rw [if_neg z2]
          exact ⟨hr, trivial⟩
  · refine w_12_2 ?_
    simp (disch := first | trivial | assumption | omega | exact ynl rfl _ | exact znp_o rfl | rfl | (simp (disch := first | decide | omega) only [yfc, yr_so, yr_ss, yfcc, yr_cs]; first | assumption | omega)) only [yck_of, yb_id, yPI_some, yPJ_some, yPA_some, yPV_none, yfc, yr_so, yr_ss, yfcc, yr_cs, ybif_t, yrd_1, yrd_2, yfcl, isC_pos, isC_O, isC_t, isC_c, isC_w, isC_f, isC_I1, isC_01, isC_I2, isC_I3, isC_02, isC_03, isC_n1, isC_n2, isC_n3, isC_r1, isC_r2, isC_r3, isC_np, isC_np1, isC_np2, isC_np3, Bool.true_or, Bool.and_true, Bool.true_and, cond_true, ↓if_neg]
    rw [show (ad 0 - ad 0).toNat = 0 by omega] at hr
    exact ⟨hr, trivial⟩
theorem c_13 {a p sg i : Int} {ad : Int → Int} (hc : isC a) (R : yCR (zr m a) (zr m (a + 2)) (zr m (a + 3)) 5 sg ad) (W : yWf 5 sg ad i) (p0 : 0 ≤ p) (p1 : p < 1000) (K : Int → ZN → Prop) : zcI (d + 1) 13 [zA a, zI p] m K = K (if sg = 1 then yequ ad p (ad 0).toNat else yopp (yequ ad p (ad 0).toNat)) m := by
  obtain ⟨r1, r9, hs, h23, hk⟩ := ySev R W
  refine zcI_eq (w_13 ?_) K
  have key := yfor (fun k => ∀ o4, zwpN (d + 1) 13 4 [some (zA a), some (zI p), some (zI (yequ ad p k.toNat)), some (zI k), o4] [] m (zPI fun v m1 => v = (if sg = 1 then yequ ad p (ad 0).toNat else yopp (yequ ad p (ad 0).toNat)) ∧ m1 = m)) 0 (ad 0) (by omega) (fun k k0 k1 hW o4 => ?_) (fun o4 => ?_)
  · exact key none
  · refine w_13_4 ?_
    obtain ⟨e1, e2, e3, e4⟩ := hk k k0 k1
    have hd := ydig_r (p := ad (1 + 2 * k)) p0 p1
    rw [show (k + 1).toNat = k.toNat + 1 by omega] at hW
    rw [yequ_s, Int.toNat_of_nonneg k0] at hW
    by_cases z0 : ydig p (ad (1 + 2 * k)) = 0
    · rw [if_neg (fun q => q.1 z0)] at hW
      by_cases z1 : yequ ad p k.toNat = 1
      · rw [if_pos ⟨z0, z1⟩] at hW
        simp (disch := first | trivial | assumption | omega | exact ynl rfl _ | exact znp_o rfl | rfl | (simp (disch := first | decide | omega) only [yfc, yr_so, yr_ss, yfcc, yr_cs]; first | assumption | omega)) only [yck_of, yb_id, yPI_some, yPJ_some, yPA_some, yPV_none, yfc, yr_so, yr_ss, yfcc, yr_cs, ybif_t, yrd_1, yrd_2, yfcl, isC_pos, isC_O, isC_t, isC_c, isC_w, isC_f, isC_I1, isC_01, isC_I2, isC_I3, isC_02, isC_03, isC_n1, isC_n2, isC_n3, isC_r1, isC_r2, isC_r3, isC_np, isC_np1, isC_np2, isC_np3, Bool.true_or, Bool.and_true, Bool.true_and, cond_true, ↓if_pos, ↓if_neg, ↓c_10, e1]
        exact hW _
      · rw [if_neg (fun q => z1 q.2)] at hW
        simp (disch := first | trivial | assumption | omega | exact ynl rfl _ | exact znp_o rfl | rfl | (simp (disch := first | decide | omega) only [yfc, yr_so, yr_ss, yfcc, yr_cs]; first | assumption | omega)) only [yck_of, yb_id, yPI_some, yPJ_some, yPA_some, yPV_none, yfc, yr_so, yr_ss, yfcc, yr_cs, ybif_t, yrd_1, yrd_2, yfcl, isC_pos, isC_O, isC_t, isC_c, isC_w, isC_f, isC_I1, isC_01, isC_I2, isC_I3, isC_02, isC_03, isC_n1, isC_n2, isC_n3, isC_r1, isC_r2, isC_r3, isC_np, isC_np1, isC_np2, isC_np3, Bool.true_or, Bool.and_true, Bool.true_and, cond_true, ↓if_pos, ↓if_neg, ↓c_10, e1]
        exact hW _
    · by_cases z1 : ydig p (ad (1 + 2 * k)) = ad (2 + 2 * k)
      · rw [if_neg (fun q => q.2 z1), if_neg (fun q => z0 q.1)] at hW
        simp (disch := first | trivial | assumption | omega | exact ynl rfl _ | exact znp_o rfl | rfl | (simp (disch := first | decide | omega) only [yfc, yr_so, yr_ss, yfcc, yr_cs]; first | assumption | omega)) only [yck_of, yb_id, yPI_some, yPJ_some, yPA_some, yPV_none, yfc, yr_so, yr_ss, yfcc, yr_cs, ybif_t, yrd_1, yrd_2, yfcl, isC_pos, isC_O, isC_t, isC_c, isC_w, isC_f, isC_I1, isC_01, isC_I2, isC_I3, isC_02, isC_03, isC_n1, isC_n2, isC_n3, isC_r1, isC_r2, isC_r3, isC_np, isC_np1, isC_np2, isC_np3, Bool.true_or, Bool.and_true, Bool.true_and, cond_true, ↓if_pos, ↓if_neg, ↓c_10, e1, e2]
        exact hW _
      · rw [if_pos ⟨z0, z1⟩] at hW
        simp (disch := first | trivial | assumption | omega | exact ynl rfl _ | exact znp_o rfl | rfl | (simp (disch := first | decide | omega) only [yfc, yr_so, yr_ss, yfcc, yr_cs]; first | assumption | omega)) only [yck_of, yb_id, yPI_some, yPJ_some, yPA_some, yPV_none, yfc, yr_so, yr_ss, yfcc, yr_cs, ybif_t, yrd_1, yrd_2, yfcl, isC_pos, isC_O, isC_t, isC_c, isC_w, isC_f, isC_I1, isC_01, isC_I2, isC_I3, isC_02, isC_03, isC_n1, isC_n2, isC_n3, isC_r1, isC_r2, isC_r3, isC_np, isC_np1, isC_np2, isC_np3, Bool.true_or, Bool.and_true, Bool.true_and, cond_true, ↓if_pos, ↓if_neg, ↓c_10, e1, e2]
        exact hW _
  · refine w_13_4 ?_
    by_cases z : sg = 1
    · simp (disch := first | trivial | assumption | omega | exact ynl rfl _ | exact znp_o rfl | rfl | (simp (disch := first | decide | omega) only [yfc, yr_so, yr_ss, yfcc, yr_cs]; first | assumption | omega)) only [yck_of, yb_id, yPI_some, yPJ_some, yPA_some, yPV_none, yfc, yr_so, yr_ss, yfcc, yr_cs, ybif_t, yrd_1, yrd_2, yfcl, isC_pos, isC_O, isC_t, isC_c, isC_w, isC_f, isC_I1, isC_01, isC_I2, isC_I3, isC_02, isC_03, isC_n1, isC_n2, isC_n3, isC_r1, isC_r2, isC_r3, isC_np, isC_np1, isC_np2, isC_np3, Bool.true_or, Bool.and_true, Bool.true_and, cond_true, ↓if_neg, ↓if_pos, and_self]
    · simp (disch := first | trivial | assumption | omega | exact ynl rfl _ | exact znp_o rfl | rfl | (simp (disch := first | decide | omega) only [yfc, yr_so, yr_ss, yfcc, yr_cs]; first | assumption | omega)) only [yck_of, yb_id, yPI_some, yPJ_some, yPA_some, yPV_none, yfc, yr_so, yr_ss, yfcc, yr_cs, ybif_t, yrd_1, yrd_2, yfcl, isC_pos, isC_O, isC_t, isC_c, isC_w, isC_f, isC_I1, isC_01, isC_I2, isC_I3, isC_02, isC_03, isC_n1, isC_n2, isC_n3, isC_r1, isC_r2, isC_r3, isC_np, isC_np1, isC_np2, isC_np3, Bool.true_or, Bool.and_true, Bool.true_and, cond_true, ↓if_neg, ↓c_15, and_self]
/-- what a leaf is for a key -/
theorem c_9 {a p kd sg i : Int} {ad : Int → Int} (hc : isC a) (R : yCR (zr m a) (zr m (a + 2)) (zr m (a + 3)) kd sg ad) (W : yWf kd sg ad i) (h5 : kd ≤ 5) (p0 : 0 ≤ p) (p1 : p < 1000) (K : Int → ZN → Prop) : zcI (d + 2) 9 [zA a, zI p] m K = K (yleaf kd sg ad p) m := by
  have W' := W
  have R' := R
  obtain ⟨r0, r1, -, -, r9, rc, rw1, rr, rc1, r5⟩ := R
  obtain ⟨k0, w1, w2, w3, w4, w4b, w4c, w4d, w5, -⟩ := W
  have hcol : 0 ≤ zr m (a + 2) 0 ∧ zr m (a + 2) 0 ≤ 2 := by
    by_cases h : kd = 5
    · have := (r5 h).1; have := w5 h; omega
    · have := rc (by omega); have := w3 (by omega); omega
  have hd := ydig_r (p := zr m (a + 2) 0) p0 p1
  refine zcI_eq (w_9 ?_) K
  have hk : kd = 0 ∨ kd = 1 ∨ kd = 2 ∨ kd = 3 ∨ kd = 4 ∨ kd = 5 := by omega
  unfold yleaf
  rcases hk with h | h | h | h | h | h
  · subst h
    have := rc (by decide); have := rw1 (Or.inl rfl); have := w4 rfl; have := w1 (Or.inl rfl)
    simp (disch := first | trivial | assumption | omega | exact ynl rfl _ | exact znp_o rfl | rfl | (simp (disch := first | decide | omega) only [yfc, yr_so, yr_ss, yfcc, yr_cs]; first | assumption | omega)) only [yck_of, yb_id, yPI_some, yPJ_some, yPA_some, yPV_none, yfc, yr_so, yr_ss, yfcc, yr_cs, ybif_t, yrd_1, yrd_2, yfcl, isC_pos, isC_O, isC_t, isC_c, isC_w, isC_f, isC_I1, isC_01, isC_I2, isC_I3, isC_02, isC_03, isC_n1, isC_n2, isC_n3, isC_r1, isC_r2, isC_r3, isC_np, isC_np1, isC_np2, isC_np3, Bool.true_or, Bool.and_true, Bool.true_and, cond_true, ↓c_10, ↓c_189, ↓if_pos, ↓if_neg]
    rw [rc (by decide), rw1 (Or.inl rfl), r1]
    by_cases z : ydig p (ad 0) = 0
    · rw [if_pos z, if_pos (Or.inl z)]; exact ⟨rfl, trivial⟩
    · rw [if_neg z, if_neg (by omega)]; exact ⟨rfl, trivial⟩
  · subst h
    have := rc (by decide); have := rw1 (Or.inr (Or.inl rfl)); have hw := w4b rfl
    simp (disch := first | trivial | assumption | omega | exact ynl rfl _ | exact znp_o rfl | rfl | (simp (disch := first | decide | omega) only [yfc, yr_so, yr_ss, yfcc, yr_cs]; first | assumption | omega)) only [yck_of, yb_id, yPI_some, yPJ_some, yPA_some, yPV_none, yfc, yr_so, yr_ss, yfcc, yr_cs, ybif_t, yrd_1, yrd_2, yfcl, isC_pos, isC_O, isC_t, isC_c, isC_w, isC_f, isC_I1, isC_01, isC_I2, isC_I3, isC_02, isC_03, isC_n1, isC_n2, isC_n3, isC_r1, isC_r2, isC_r3, isC_np, isC_np1, isC_np2, isC_np3, Bool.true_or, Bool.and_true, Bool.true_and, cond_true, ↓c_10, ↓c_11, ↓if_pos, ↓if_neg]
    rw [rc (by decide), rw1 (Or.inr (Or.inl rfl))]
    have hd0 := ydig_r (p := ad 0) p0 p1
    have hb := ybitI hd0.1 (show ydig p (ad 0) < 10 by omega) hw.1 (show ad 1 < 1024 by omega)
    by_cases z : ydig p (ad 0) = 0
    · simp only [z, if_true]
      split <;> (first | exact ⟨rfl, trivial⟩ | exact ⟨trivial, trivial⟩ | exact ⟨(if_neg z).symm, trivial⟩ | exact ⟨if_neg z, trivial⟩ | (rw [if_neg z]; exact ⟨rfl, trivial⟩))
    · rw [if_neg z, ← hb]
      split
      · first | exact ⟨rfl, trivial⟩ | exact ⟨trivial, trivial⟩ | exact ⟨(if_neg z).symm, trivial⟩ | exact ⟨if_neg z, trivial⟩ | (rw [if_neg z]; exact ⟨rfl, trivial⟩)
      · first | exact ⟨rfl, trivial⟩ | exact ⟨trivial, trivial⟩ | exact ⟨(if_neg z).symm, trivial⟩ | exact ⟨if_neg z, trivial⟩ | (rw [if_neg z]; exact ⟨rfl, trivial⟩)
  · subst h
    simp (disch := first | trivial | assumption | omega | exact ynl rfl _ | exact znp_o rfl | rfl | (simp (disch := first | decide | omega) only [yfc, yr_so, yr_ss, yfcc, yr_cs]; first | assumption | omega)) only [yck_of, yb_id, yPI_some, yPJ_some, yPA_some, yPV_none, yfc, yr_so, yr_ss, yfcc, yr_cs, ybif_t, yrd_1, yrd_2, yfcl, isC_pos, isC_O, isC_t, isC_c, isC_w, isC_f, isC_I1, isC_01, isC_I2, isC_I3, isC_02, isC_03, isC_n1, isC_n2, isC_n3, isC_r1, isC_r2, isC_r3, isC_np, isC_np1, isC_np2, isC_np3, Bool.true_or, Bool.and_true, Bool.true_and, cond_true, ↓c_10, ↓if_pos, ↓if_neg]
    rw [rc (by decide)]
    by_cases z : ydig p (ad 0) = 0
    · rw [if_pos z, if_pos z]; exact ⟨rfl, trivial⟩
    · rw [if_neg z, if_neg z]; exact ⟨rfl, trivial⟩
  · subst h
    have := rc (by decide); have h1 := rc1 rfl; have := w4c rfl; have := w1 (Or.inr (Or.inl rfl))
    simp (disch := first | trivial | assumption | omega | exact ynl rfl _ | exact znp_o rfl | rfl | (simp (disch := first | decide | omega) only [yfc, yr_so, yr_ss, yfcc, yr_cs]; first | assumption | omega)) only [yck_of, yb_id, yPI_some, yPJ_some, yPA_some, yPV_none, yfc, yr_so, yr_ss, yfcc, yr_cs, ybif_t, yrd_1, yrd_2, yfcl, isC_pos, isC_O, isC_t, isC_c, isC_w, isC_f, isC_I1, isC_01, isC_I2, isC_I3, isC_02, isC_03, isC_n1, isC_n2, isC_n3, isC_r1, isC_r2, isC_r3, isC_np, isC_np1, isC_np2, isC_np3, Bool.true_or, Bool.and_true, Bool.true_and, cond_true, ↓c_10, ↓c_189, ↓if_pos, ↓if_neg]
    rw [rc (by decide), rc1 rfl, r1]
    by_cases z : ydig p (ad 0) = 0
    · rw [if_pos z, if_pos (Or.inl z)]; exact ⟨rfl, trivial⟩
    · by_cases z1 : ydig p (ad 1) = 0
      · rw [if_neg z, if_pos (Or.inr z1), if_pos z1]; exact ⟨rfl, trivial⟩
      · rw [if_neg z, if_neg (by omega), if_neg z1]; exact ⟨rfl, trivial⟩
  · subst h
    have := rc (by decide); have := rw1 (Or.inr (Or.inr rfl)); have h2 := rr rfl; have := w4d rfl
    simp (disch := first | trivial | assumption | omega | exact ynl rfl _ | exact znp_o rfl | rfl | (simp (disch := first | decide | omega) only [yfc, yr_so, yr_ss, yfcc, yr_cs]; first | assumption | omega)) only [yck_of, yb_id, yPI_some, yPJ_some, yPA_some, yPV_none, yfc, yr_so, yr_ss, yfcc, yr_cs, ybif_t, yrd_1, yrd_2, yfcl, isC_pos, isC_O, isC_t, isC_c, isC_w, isC_f, isC_I1, isC_01, isC_I2, isC_I3, isC_02, isC_03, isC_n1, isC_n2, isC_n3, isC_r1, isC_r2, isC_r3, isC_np, isC_np1, isC_np2, isC_np3, Bool.true_or, Bool.and_true, Bool.true_and, cond_true, ↓c_10, ↓c_11, ↓if_pos, ↓if_neg, Int.tmod_eq_emod_of_nonneg]
    rw [rc (by decide), rw1 (Or.inr (Or.inr rfl)), rr rfl]
    by_cases z : ydig p (ad 0) = 0
    · simp only [z, if_true]
      split <;> (first | exact ⟨rfl, trivial⟩ | exact ⟨trivial, trivial⟩ | exact ⟨(if_neg z).symm, trivial⟩ | exact ⟨if_neg z, trivial⟩ | (rw [if_neg z]; exact ⟨rfl, trivial⟩))
    · rw [if_neg z]
      by_cases z1 : ydig p (ad 0) % ad 1 = ad 2
      · rw [if_pos z1]; (first | exact ⟨rfl, trivial⟩ | exact ⟨trivial, trivial⟩ | exact ⟨(if_neg z).symm, trivial⟩ | exact ⟨if_neg z, trivial⟩ | (rw [if_neg z, if_pos z1]; exact ⟨rfl, trivial⟩) | (rw [if_pos z1, if_neg z]; exact ⟨rfl, trivial⟩) | (rw [if_pos z1]; exact ⟨if_neg z, trivial⟩))
      · rw [if_neg z1]; (first | exact ⟨rfl, trivial⟩ | exact ⟨trivial, trivial⟩ | exact ⟨(if_neg z).symm, trivial⟩ | exact ⟨if_neg z, trivial⟩ | (rw [if_neg z, if_neg z1]; exact ⟨rfl, trivial⟩) | (rw [if_neg z1, if_neg z]; exact ⟨rfl, trivial⟩) | (rw [if_neg z1]; exact ⟨if_neg z, trivial⟩))
  · subst h
    have hs := w1 (Or.inr (Or.inr rfl))
    by_cases s0 : sg = 0
    · simp (disch := first | trivial | assumption | omega | exact ynl rfl _ | exact znp_o rfl | rfl | (simp (disch := first | decide | omega) only [yfc, yr_so, yr_ss, yfcc, yr_cs]; first | assumption | omega)) only [yck_of, yb_id, yPI_some, yPJ_some, yPA_some, yPV_none, yfc, yr_so, yr_ss, yfcc, yr_cs, ybif_t, yrd_1, yrd_2, yfcl, isC_pos, isC_O, isC_t, isC_c, isC_w, isC_f, isC_I1, isC_01, isC_I2, isC_I3, isC_02, isC_03, isC_n1, isC_n2, isC_n3, isC_r1, isC_r2, isC_r3, isC_np, isC_np1, isC_np2, isC_np3, Bool.true_or, Bool.and_true, Bool.true_and, cond_true, ↓c_10, ↓if_pos, ↓if_neg, ↓c_12 (i := i) (ad := ad) (sg := sg), and_self]
    · by_cases s2 : sg = 2
      · simp (disch := first | trivial | assumption | omega | exact ynl rfl _ | exact znp_o rfl | rfl | (simp (disch := first | decide | omega) only [yfc, yr_so, yr_ss, yfcc, yr_cs]; first | assumption | omega)) only [yck_of, yb_id, yPI_some, yPJ_some, yPA_some, yPV_none, yfc, yr_so, yr_ss, yfcc, yr_cs, ybif_t, yrd_1, yrd_2, yfcl, isC_pos, isC_O, isC_t, isC_c, isC_w, isC_f, isC_I1, isC_01, isC_I2, isC_I3, isC_02, isC_03, isC_n1, isC_n2, isC_n3, isC_r1, isC_r2, isC_r3, isC_np, isC_np1, isC_np2, isC_np3, Bool.true_or, Bool.and_true, Bool.true_and, cond_true, ↓c_10, ↓if_pos, ↓if_neg, ↓c_12 (i := i) (ad := ad) (sg := sg), and_self]
      · simp (disch := first | trivial | assumption | omega | exact ynl rfl _ | exact znp_o rfl | rfl | (simp (disch := first | decide | omega) only [yfc, yr_so, yr_ss, yfcc, yr_cs]; first | assumption | omega)) only [yck_of, yb_id, yPI_some, yPJ_some, yPA_some, yPV_none, yfc, yr_so, yr_ss, yfcc, yr_cs, ybif_t, yrd_1, yrd_2, yfcl, isC_pos, isC_O, isC_t, isC_c, isC_w, isC_f, isC_I1, isC_01, isC_I2, isC_I3, isC_02, isC_03, isC_n1, isC_n2, isC_n3, isC_r1, isC_r2, isC_r3, isC_np, isC_np1, isC_np2, isC_np3, Bool.true_or, Bool.and_true, Bool.true_and, cond_true, ↓c_10, ↓if_neg, ↓c_13 (i := i) (ad := ad) (sg := sg), and_self]
        exact ⟨(if_pos trivial).symm, trivial⟩
end YF
