/-! ===== conditions worked out, in the reference ===== -/
theorem yST_l {kd sg sd : Int → Int} {i key : Int} (h : kd i ≤ 5) : yST kd sg sd i key = yleaf (kd i) (sg i) (yA sd i) key := by
  show (yrec (α := Int → Int) kd sd _ _ _ (24 + 1) i) key = _
  unfold yrec
  rw [if_pos h]
theorem yST_o {kd sg sd : Int → Int} {N i key : Int} (wf : yWr kd sd N) (i0 : 0 ≤ i) (i1 : i < N) (i2 : i < 24) (h : 5 < kd i) : yST kd sg sd i key = yjoin (kd i) (yST kd sg sd (sd (8 * i)) key) (yST kd sg sd (if kd i ≤ 7 then sd (8 * i + 1) else sd (8 * i)) key) := by
  obtain ⟨w1, w2⟩ := wf i i0 i1 h
  have e : ∀ j, 0 ≤ j → j < i → yrec kd sd (fun i key => yleaf (kd i) (sg i) (yA sd i) key) (fun i x y key => yjoin (kd i) (x key) (y key)) (fun _ => 0) 24 j = yST kd sg sd j := fun j j0 j1 => yrec_c wf (fun _ _ _ => ⟨rfl, rfl, rfl, rfl, rfl⟩) 24 25 j j0 (by omega) (by omega) (by omega)
  show (yrec (α := Int → Int) kd sd _ _ _ (24 + 1) i) key = _
  unfold yrec
  rw [if_neg (by omega)]
  show yjoin (kd i) _ _ = _
  rw [e _ w1.1 w1.2]
  by_cases q : kd i ≤ 7
  · rw [if_pos q, e _ (w2 q).1 (w2 q).2]
  · rw [if_neg q, e _ w1.1 w1.2]
theorem yDp_l {kd sd : Int → Int} {i : Int} (h : kd i ≤ 5) : yDp kd sd i = 0 := by
  show yrec kd sd _ _ _ (24 + 1) i = _
  unfold yrec
  rw [if_pos h]
theorem yDp_o {kd sd : Int → Int} {N i : Int} (wf : yWr kd sd N) (i0 : 0 ≤ i) (i1 : i < N) (i2 : i < 24) (h : 5 < kd i) : yDp kd sd i = 1 + max (yDp kd sd (sd (8 * i))) (yDp kd sd (if kd i ≤ 7 then sd (8 * i + 1) else sd (8 * i))) := by
  obtain ⟨w1, w2⟩ := wf i i0 i1 h
  have e : ∀ j, 0 ≤ j → j < i → yrec kd sd (fun _ => (0 : Int)) (fun _ x y => 1 + max x y) 0 24 j = yDp kd sd j := fun j j0 j1 => yrec_c wf (fun _ _ _ => ⟨rfl, rfl, rfl, rfl, rfl⟩) 24 25 j j0 (by omega) (by omega) (by omega)
  show yrec kd sd _ _ _ (24 + 1) i = _
  unfold yrec
  rw [if_neg (by omega), e _ w1.1 w1.2]
  by_cases q : kd i ≤ 7
  · rw [if_pos q, e _ (w2 q).1 (w2 q).2]
  · rw [if_neg q, e _ w1.1 w1.2]
theorem yCo_l {kd sd : Int → Int} {i : Int} (h : kd i ≤ 5) : yCo kd sd i = yLc (kd i) (yA sd i) := by
  show yrec kd sd _ _ _ (24 + 1) i = _
  unfold yrec
  rw [if_pos h]
theorem yCo_o {kd sd : Int → Int} {N i : Int} (wf : yWr kd sd N) (i0 : 0 ≤ i) (i1 : i < N) (i2 : i < 24) (h : 5 < kd i) : yCo kd sd i = zor (yCo kd sd (sd (8 * i))) (yCo kd sd (if kd i ≤ 7 then sd (8 * i + 1) else sd (8 * i))) := by
  obtain ⟨w1, w2⟩ := wf i i0 i1 h
  have e : ∀ j, 0 ≤ j → j < i → yrec kd sd (fun i => yLc (kd i) (yA sd i)) (fun _ x y => zor x y) 0 24 j = yCo kd sd j := fun j j0 j1 => yrec_c wf (fun _ _ _ => ⟨rfl, rfl, rfl, rfl, rfl⟩) 24 25 j j0 (by omega) (by omega) (by omega)
  show yrec kd sd _ _ _ (24 + 1) i = _
  unfold yrec
  rw [if_neg (by omega), e _ w1.1 w1.2]
  by_cases q : kd i ≤ 7
  · rw [if_pos q, e _ (w2 q).1 (w2 q).2]
  · rw [if_neg q, e _ w1.1 w1.2]
theorem yPa_l {kd sd : Int → Int} {i : Int} (h : kd i ≤ 5) : yPa kd sd i = zshl 1 i := by
  show yrec kd sd _ _ _ (24 + 1) i = _
  unfold yrec
  rw [if_pos h]
theorem yPa_o {kd sd : Int → Int} {N i : Int} (wf : yWr kd sd N) (i0 : 0 ≤ i) (i1 : i < N) (i2 : i < 24) (h : 5 < kd i) : yPa kd sd i = if kd i = 6 then zor (yPa kd sd (sd (8 * i))) (yPa kd sd (if kd i ≤ 7 then sd (8 * i + 1) else sd (8 * i))) else zshl 1 i := by
  obtain ⟨w1, w2⟩ := wf i i0 i1 h
  have e : ∀ j, 0 ≤ j → j < i → yrec kd sd (fun i => zshl 1 i) (fun i x y => if kd i = 6 then zor x y else zshl 1 i) 0 24 j = yPa kd sd j := fun j j0 j1 => yrec_c wf (fun _ _ _ => ⟨rfl, rfl, rfl, rfl, rfl⟩) 24 25 j j0 (by omega) (by omega) (by omega)
  show yrec kd sd _ _ _ (24 + 1) i = _
  unfold yrec
  rw [if_neg (by omega), e _ w1.1 w1.2]
  by_cases q : kd i ≤ 7
  · rw [if_pos q, e _ (w2 q).1 (w2 q).2]
  · rw [if_neg q, e _ w1.1 w1.2]
/-- all of them are well formed -/
def yWA (kd sg sd : Int → Int) (N : Int) : Prop := ∀ i, 0 ≤ i → i < N → yWf (kd i) (sg i) (yA sd i) i
theorem yWA_r {kd sg sd : Int → Int} {N : Int} (h : yWA kd sg sd N) : yWr kd sd N := fun i i0 i1 hk => by
  have w := h i i0 i1
  have a0 : yA sd i 0 = sd (8 * i) := by show sd (8 * i + 0) = _; rw [Int.add_zero]
  have a1 : yA sd i 1 = sd (8 * i + 1) := rfl
  obtain ⟨w0, -, -, -, -, -, -, -, -, w6, w7, -⟩ := w
  rw [a0] at w6
  rw [a1] at w7
  exact ⟨w6 (by omega), fun q => w7 (by omega)⟩
theorem yDp_r {kd sg sd : Int → Int} {N : Int} (h : yWA kd sg sd N) (hN : N ≤ 24) (n : Nat) : ∀ i, 0 ≤ i → i < N → i < n → 0 ≤ yDp kd sd i ∧ yDp kd sd i ≤ i := by
  induction n with
  | zero => intro i i0 _ i2; omega
  | succ n ih =>
    intro i i0 i1 i2
    by_cases q : kd i ≤ 5
    · rw [yDp_l q]; omega
    · have w := yWA_r h i i0 i1 (by omega)
      rw [yDp_o (yWA_r h) i0 i1 (by omega) (by omega)]
      have h1 := ih (sd (8 * i)) w.1.1 (by omega) (by omega)
      by_cases q7 : kd i ≤ 7
      · rw [if_pos q7]
        have := w.2 q7
        have h2 := ih (sd (8 * i + 1)) this.1 (by omega) (by omega)
        omega
      · rw [if_neg q7]
        omega
theorem yST_r {kd sg sd : Int → Int} {N : Int} (h : yWA kd sg sd N) (hN : N ≤ 24) (n : Nat) : ∀ i key, 0 ≤ i → i < N → i < n → 0 ≤ key → key < 1000 → 0 ≤ yST kd sg sd i key ∧ yST kd sg sd i key ≤ 2 := by
  induction n with
  | zero => intro i key i0 _ i2; omega
  | succ n ih =>
    intro i key i0 i1 i2 k0 k1
    by_cases q : kd i ≤ 5
    · rw [yST_l q]; exact yleaf_r (h i i0 i1) q k0 k1
    · have w := yWA_r h i i0 i1 (by omega)
      rw [yST_o (yWA_r h) i0 i1 (by omega) (by omega)]
      exact yjoin_r (ih (sd (8 * i)) key w.1.1 (by omega) (by omega) k0 k1)
theorem ysn_sn {m : ZN} {a j v w : Int} : zsn (zsn m a j v) a j w = zsn m a j w := zN_ext fun a' j' => by
  rw [zr_zsn, zr_zsn, zr_zsn]
  split
  · rfl
  · rfl
section YW
variable {d : Nat} {m : ZN}
theorem c_214 {i p sg : Int} {ad : Int → Int} (i0 : 0 ≤ i) (i1 : i < 24) (hs : zr m 255 i = sg) (ha : ∀ k, 0 ≤ k → k < 8 → zr m 256 (8 * i + k) = ad k) (W : yWf 5 sg ad i) (p0 : 0 ≤ p) (p1 : p < 1000) (K : Int → ZN → Prop) : zcI (d + 1) 214 [zA 236, zI i, zI p] m K = K (if sg = 0 ∨ sg = 2 then yord sg ad p (ad 0).toNat 0 else if sg = 1 then yequ ad p (ad 0).toNat else yopp (yequ ad p (ad 0).toNat)) m := by
  have w1 := W.2.1 (Or.inr (Or.inr rfl))
  have h23 := (W.2.2.2.2.2.2.2.2.1 rfl).1
  have a0 : zr m 256 (8 * i) = ad 0 := by have := ha 0 (by decide) (by decide); rw [Int.add_zero] at this; exact this
  have a1 : ∀ k, 0 ≤ k → k < ad 0 → zr m 256 (8 * i + 1 + 2 * k) = ad (1 + 2 * k) := fun k k0 k1 => by rw [← ha (1 + 2 * k) (by omega) (by omega)]; congr 1; omega
  have a2 : ∀ k, 0 ≤ k → k < ad 0 → zr m 256 (8 * i + 2 + 2 * k) = ad (2 + 2 * k) := fun k k0 k1 => by rw [← ha (2 + 2 * k) (by omega) (by omega)]; congr 1; omega
  refine zcI_eq (w_214 ?_) K
  simp (disch := first | trivial | assumption | omega | exact ynl rfl _ | exact znp_o rfl | rfl | (simp (disch := first | decide | omega) only [yfc, yr_so, yr_ss, yfcc, yr_cs]; first | assumption | omega)) only [yck_of, yb_id, yPI_some, yPJ_some, yPA_some, yPV_none, yfc, yr_so, yr_ss, yfcc, yr_cs, ybif_t, yrd_1, yrd_2, yfcl, a0, hs]
  by_cases q : sg = 0 ∨ sg = 2
  · rw [if_pos q]
    have key := yfor (fun k => ∀ o7 o8, yord sg ad p (ad 0 - k).toNat k = yord sg ad p (ad 0).toNat 0 → zwpN (d + 1) 214 24 [some (zA 236), some (zI i), some (zI p), some (zI (ad 0)), some (zI sg), some (zI 1), some (zI k), o7, o8] [] m (zPI fun v m1 => v = yord sg ad p (ad 0).toNat 0 ∧ m1 = m)) 0 (ad 0) (by omega) (fun k k0 k1 hW o7 o8 hr => ?_) (fun o7 o8 hr => ?_)
    · exact key none none (by rw [Int.sub_zero])
    · refine w_214_24 ?_
      have hd := ydig_r (p := ad (1 + 2 * k)) p0 p1
      rw [show (ad 0 - k).toNat = (ad 0 - (k + 1)).toNat + 1 by omega, yord_s] at hr
      by_cases z0 : ydig p (ad (1 + 2 * k)) = 0
      · rw [if_pos z0] at hr
        rcases q with q | q
        · simp (disch := first | trivial | assumption | omega | exact ynl rfl _ | exact znp_o rfl | rfl | (simp (disch := first | decide | omega) only [yfc, yr_so, yr_ss, yfcc, yr_cs]; first | assumption | omega)) only [yck_of, yb_id, yPI_some, yPJ_some, yPA_some, yPV_none, yfc, yr_so, yr_ss, yfcc, yr_cs, ybif_t, yrd_1, yrd_2, yfcl, ↓if_pos, ↓if_neg, ↓c_207, a1 k k0 k1]
          exact ⟨hr, trivial⟩
        · simp (disch := first | trivial | assumption | omega | exact ynl rfl _ | exact znp_o rfl | rfl | (simp (disch := first | decide | omega) only [yfc, yr_so, yr_ss, yfcc, yr_cs]; first | assumption | omega)) only [yck_of, yb_id, yPI_some, yPJ_some, yPA_some, yPV_none, yfc, yr_so, yr_ss, yfcc, yr_cs, ybif_t, yrd_1, yrd_2, yfcl, ↓if_pos, ↓if_neg, ↓c_207, a1 k k0 k1]
          exact ⟨hr, trivial⟩
      · rw [if_neg z0] at hr
        by_cases z1 : ydig p (ad (1 + 2 * k)) = ad (2 + 2 * k)
        · rw [if_pos z1] at hr
          rcases q with q | q
          · simp (disch := first | trivial | assumption | omega | exact ynl rfl _ | exact znp_o rfl | rfl | (simp (disch := first | decide | omega) only [yfc, yr_so, yr_ss, yfcc, yr_cs]; first | assumption | omega)) only [yck_of, yb_id, yPI_some, yPJ_some, yPA_some, yPV_none, yfc, yr_so, yr_ss, yfcc, yr_cs, ybif_t, yrd_1, yrd_2, yfcl, ↓if_pos, ↓if_neg, ↓c_207, a1 k k0 k1, a2 k k0 k1]
            exact hW _ _ hr
          · simp (disch := first | trivial | assumption | omega | exact ynl rfl _ | exact znp_o rfl | rfl | (simp (disch := first | decide | omega) only [yfc, yr_so, yr_ss, yfcc, yr_cs]; first | assumption | omega)) only [yck_of, yb_id, yPI_some, yPJ_some, yPA_some, yPV_none, yfc, yr_so, yr_ss, yfcc, yr_cs, ybif_t, yrd_1, yrd_2, yfcl, ↓if_pos, ↓if_neg, ↓c_207, a1 k k0 k1, a2 k k0 k1]
            exact hW _ _ hr
        · rw [if_neg z1] at hr
          rcases q with q | q
          · simp (disch := first | trivial | assumption | omega | exact ynl rfl _ | exact znp_o rfl | rfl | (simp (disch := first | decide | omega) only [yfc, yr_so, yr_ss, yfcc, yr_cs]; first | assumption | omega)) only [yck_of, yb_id, yPI_some, yPJ_some, yPA_some, yPV_none, yfc, yr_so, yr_ss, yfcc, yr_cs, ybif_t, yrd_1, yrd_2, yfcl, ↓if_pos, ↓if_neg, ↓c_207, ↓c_213, a1 k k0 k1, a2 k k0 k1]
            exact ⟨hr, trivial⟩
          · simp (disch := first | trivial | assumption | omega | exact ynl rfl _ | exact znp_o rfl | rfl | (simp (disch := first | decide | omega) only [yfc, yr_so, yr_ss, yfcc, yr_cs]; first | assumption | omega)) only [yck_of, yb_id, yPI_some, yPJ_some, yPA_some, yPV_none, yfc, yr_so, yr_ss, yfcc, yr_cs, ybif_t, yrd_1, yrd_2, yfcl, ↓if_pos, ↓if_neg, ↓c_207, ↓c_213, a1 k k0 k1, a2 k k0 k1]
            exact ⟨hr, trivial⟩
    · refine w_214_24 ?_
      rw [show (ad 0 - ad 0).toNat = 0 by omega] at hr
      rcases q with q | q
      · simp (disch := first | trivial | assumption | omega | exact ynl rfl _ | exact znp_o rfl | rfl | (simp (disch := first | decide | omega) only [yfc, yr_so, yr_ss, yfcc, yr_cs]; first | assumption | omega)) only [yck_of, yb_id, yPI_some, yPJ_some, yPA_some, yPV_none, yfc, yr_so, yr_ss, yfcc, yr_cs, ybif_t, yrd_1, yrd_2, yfcl, ↓if_neg, ↓if_pos]
        exact ⟨hr, trivial⟩
      · simp (disch := first | trivial | assumption | omega | exact ynl rfl _ | exact znp_o rfl | rfl | (simp (disch := first | decide | omega) only [yfc, yr_so, yr_ss, yfcc, yr_cs]; first | assumption | omega)) only [yck_of, yb_id, yPI_some, yPJ_some, yPA_some, yPV_none, yfc, yr_so, yr_ss, yfcc, yr_cs, ybif_t, yrd_1, yrd_2, yfcl, ↓if_neg, ↓if_pos]
        exact ⟨hr, trivial⟩
  · rw [if_neg q]
    have key := yfor (fun k => ∀ o7 o8, yequ ad p k.toNat ≠ 0 → zwpN (d + 1) 214 24 [some (zA 236), some (zI i), some (zI p), some (zI (ad 0)), some (zI sg), some (zI (yequ ad p k.toNat)), some (zI k), o7, o8] [] m (zPI fun v m1 => v = (if sg = 1 then yequ ad p (ad 0).toNat else yopp (yequ ad p (ad 0).toNat)) ∧ m1 = m)) 0 (ad 0) (by omega) (fun k k0 k1 hW o7 o8 hne => ?_) (fun o7 o8 hne => ?_)
    · exact key none none (show (1 : Int) ≠ 0 by decide)
    · refine w_214_24 ?_
      have hd := ydig_r (p := ad (1 + 2 * k)) p0 p1
      have he := yequ_s ad p k.toNat
      rw [Int.toNat_of_nonneg k0] at he
      rw [show (k + 1).toNat = k.toNat + 1 by omega, he] at hW
      by_cases z0 : ydig p (ad (1 + 2 * k)) = 0
      · rw [if_neg (fun q => q.1 z0)] at hW
        have h2 : (if ydig p (ad (1 + 2 * k)) = 0 ∧ yequ ad p k.toNat = 1 then (2 : Int) else yequ ad p k.toNat) = 2 := by
          have := yequ_r ad p k.toNat
          by_cases z : yequ ad p k.toNat = 1
          · rw [if_pos ⟨z0, z⟩]
          · rw [if_neg (fun q => z q.2)]; omega
        rw [h2] at hW
        simp (disch := first | trivial | assumption | omega | exact ynl rfl _ | exact znp_o rfl | rfl | (simp (disch := first | decide | omega) only [yfc, yr_so, yr_ss, yfcc, yr_cs]; first | assumption | omega)) only [yck_of, yb_id, yPI_some, yPJ_some, yPA_some, yPV_none, yfc, yr_so, yr_ss, yfcc, yr_cs, ybif_t, yrd_1, yrd_2, yfcl, ↓if_pos, ↓if_neg, ↓c_207, a1 k k0 k1]
        exact hW _ _ (by decide)
      · by_cases z1 : ydig p (ad (1 + 2 * k)) = ad (2 + 2 * k)
        · rw [if_neg (fun q => q.2 z1), if_neg (fun q => z0 q.1)] at hW
          simp (disch := first | trivial | assumption | omega | exact ynl rfl _ | exact znp_o rfl | rfl | (simp (disch := first | decide | omega) only [yfc, yr_so, yr_ss, yfcc, yr_cs]; first | assumption | omega)) only [yck_of, yb_id, yPI_some, yPJ_some, yPA_some, yPV_none, yfc, yr_so, yr_ss, yfcc, yr_cs, ybif_t, yrd_1, yrd_2, yfcl, ↓if_pos, ↓if_neg, ↓c_207, a1 k k0 k1, a2 k k0 k1]
          exact hW _ _ hne
        · rw [if_pos ⟨z0, z1⟩] at he
          have hz := yequ_0 he (ad 0).toNat (by omega)
          rw [hz]
          by_cases s1 : sg = 1
          · simp (disch := first | trivial | assumption | omega | exact ynl rfl _ | exact znp_o rfl | rfl | (simp (disch := first | decide | omega) only [yfc, yr_so, yr_ss, yfcc, yr_cs]; first | assumption | omega)) only [yck_of, yb_id, yPI_some, yPJ_some, yPA_some, yPV_none, yfc, yr_so, yr_ss, yfcc, yr_cs, ybif_t, yrd_1, yrd_2, yfcl, ↓if_pos, ↓if_neg, ↓c_207, a1 k k0 k1, a2 k k0 k1, and_self]
          · simp (disch := first | trivial | assumption | omega | exact ynl rfl _ | exact znp_o rfl | rfl | (simp (disch := first | decide | omega) only [yfc, yr_so, yr_ss, yfcc, yr_cs]; first | assumption | omega)) only [yck_of, yb_id, yPI_some, yPJ_some, yPA_some, yPV_none, yfc, yr_so, yr_ss, yfcc, yr_cs, ybif_t, yrd_1, yrd_2, yfcl, ↓if_pos, ↓if_neg, ↓c_207, a1 k k0 k1, a2 k k0 k1]
            exact ⟨rfl, trivial⟩
    · refine w_214_24 ?_
      have hr := yequ_r ad p (ad 0).toNat
      by_cases e2 : yequ ad p (ad 0).toNat = 2
      · simp (disch := first | trivial | assumption | omega | exact ynl rfl _ | exact znp_o rfl | rfl | (simp (disch := first | decide | omega) only [yfc, yr_so, yr_ss, yfcc, yr_cs]; first | assumption | omega)) only [yck_of, yb_id, yPI_some, yPJ_some, yPA_some, yPV_none, yfc, yr_so, yr_ss, yfcc, yr_cs, ybif_t, yrd_1, yrd_2, yfcl, ↓if_neg, ↓if_pos, e2]
        by_cases s1 : sg = 1
        · exact ⟨(if_pos s1).symm, trivial⟩
        · exact ⟨(if_neg s1).symm, trivial⟩
      · have e1 : yequ ad p (ad 0).toNat = 1 := by omega
        by_cases s1 : sg = 1
        · simp (disch := first | trivial | assumption | omega | exact ynl rfl _ | exact znp_o rfl | rfl | (simp (disch := first | decide | omega) only [yfc, yr_so, yr_ss, yfcc, yr_cs]; first | assumption | omega)) only [yck_of, yb_id, yPI_some, yPJ_some, yPA_some, yPV_none, yfc, yr_so, yr_ss, yfcc, yr_cs, ybif_t, yrd_1, yrd_2, yfcl, ↓if_neg, ↓if_pos, e1, and_self]
        · simp (disch := first | trivial | assumption | omega | exact ynl rfl _ | exact znp_o rfl | rfl | (simp (disch := first | decide | omega) only [yfc, yr_so, yr_ss, yfcc, yr_cs]; first | assumption | omega)) only [yck_of, yb_id, yPI_some, yPJ_some, yPA_some, yPV_none, yfc, yr_so, yr_ss, yfcc, yr_cs, ybif_t, yrd_1, yrd_2, yfcl, ↓if_neg, ↓if_pos, e1]
          exact ⟨rfl, trivial⟩
theorem c_215 {i p kd sg : Int} {ad : Int → Int} (i0 : 0 ≤ i) (i1 : i < 24) (hk : zr m 254 i = kd) (hs : zr m 255 i = sg) (ha : ∀ k, 0 ≤ k → k < 8 → zr m 256 (8 * i + k) = ad k) (W : yWf kd sg ad i) (h5 : kd ≤ 5) (p0 : 0 ≤ p) (p1 : p < 1000) (K : Int → ZN → Prop) : zcI (d + 2) 215 [zA 236, zI i, zI p] m K = K (yleaf kd sg ad p) m := by
  have W' := W
  obtain ⟨k0, w1, w2, w3, w4, w4b, w4c, w4d, w5, -⟩ := W
  have a0 : zr m 256 (8 * i) = ad 0 := by have := ha 0 (by decide) (by decide); rw [Int.add_zero] at this; exact this
  have a1 : zr m 256 (8 * i + 1) = ad 1 := ha 1 (by decide) (by decide)
  have a2 : zr m 256 (8 * i + 2) = ad 2 := ha 2 (by decide) (by decide)
  have hd := ydig_r (p := ad 0) p0 p1
  have hd1 := ydig_r (p := ad 1) p0 p1
  refine zcI_eq (w_215 ?_) K
  have hkk : kd = 0 ∨ kd = 1 ∨ kd = 2 ∨ kd = 3 ∨ kd = 4 ∨ kd = 5 := by omega
  unfold yleaf
  rcases hkk with h | h | h | h | h | h
  · subst h
    have := w1 (Or.inl rfl)
    by_cases z : ydig p (ad 0) = 0 <;> simp (disch := first | trivial | assumption | omega | exact ynl rfl _ | exact znp_o rfl | rfl | (simp (disch := first | decide | omega) only [yfc, yr_so, yr_ss, yfcc, yr_cs]; first | assumption | omega)) only [yck_of, yb_id, yPI_some, yPJ_some, yPA_some, yPV_none, yfc, yr_so, yr_ss, yfcc, yr_cs, ybif_t, yrd_1, yrd_2, yfcl, a0, a1, a2, hs, hk, ↓c_207, ↓c_213, ↓if_pos, ↓if_neg, and_self]
  · subst h
    by_cases z : ydig p (ad 0) = 0 <;> simp (disch := first | trivial | assumption | omega | exact ynl rfl _ | exact znp_o rfl | rfl | (simp (disch := first | decide | omega) only [yfc, yr_so, yr_ss, yfcc, yr_cs]; first | assumption | omega)) only [yck_of, yb_id, yPI_some, yPJ_some, yPA_some, yPV_none, yfc, yr_so, yr_ss, yfcc, yr_cs, ybif_t, yrd_1, yrd_2, yfcl, a0, a1, a2, hs, hk, ↓c_207, ↓c_213, ↓if_pos, ↓if_neg, and_self]
  · subst h
    by_cases z : ydig p (ad 0) = 0 <;> simp (disch := first | trivial | assumption | omega | exact ynl rfl _ | exact znp_o rfl | rfl | (simp (disch := first | decide | omega) only [yfc, yr_so, yr_ss, yfcc, yr_cs]; first | assumption | omega)) only [yck_of, yb_id, yPI_some, yPJ_some, yPA_some, yPV_none, yfc, yr_so, yr_ss, yfcc, yr_cs, ybif_t, yrd_1, yrd_2, yfcl, a0, a1, a2, hs, hk, ↓c_207, ↓c_213, ↓if_pos, ↓if_neg, and_self]
  · subst h
    have := w1 (Or.inr (Or.inl rfl))
    by_cases z : ydig p (ad 0) = 0 <;> by_cases z1 : ydig p (ad 1) = 0 <;> simp (disch := first | trivial | assumption | omega | exact ynl rfl _ | exact znp_o rfl | rfl | (simp (disch := first | decide | omega) only [yfc, yr_so, yr_ss, yfcc, yr_cs]; first | assumption | omega)) only [yck_of, yb_id, yPI_some, yPJ_some, yPA_some, yPV_none, yfc, yr_so, yr_ss, yfcc, yr_cs, ybif_t, yrd_1, yrd_2, yfcl, a0, a1, a2, hs, hk, ↓c_207, ↓c_213, ↓if_pos, ↓if_neg, and_self]
  · subst h
    have := w4d rfl
    by_cases z : ydig p (ad 0) = 0
    · simp (disch := first | trivial | assumption | omega | exact ynl rfl _ | exact znp_o rfl | rfl | (simp (disch := first | decide | omega) only [yfc, yr_so, yr_ss, yfcc, yr_cs]; first | assumption | omega)) only [yck_of, yb_id, yPI_some, yPJ_some, yPA_some, yPV_none, yfc, yr_so, yr_ss, yfcc, yr_cs, ybif_t, yrd_1, yrd_2, yfcl, a0, a1, a2, hs, hk, ↓c_207, ↓c_213, ↓if_pos, ↓if_neg, and_self]
    · by_cases z1 : ydig p (ad 0) % ad 1 = ad 2 <;> simp (disch := first | trivial | assumption | omega | exact ynl rfl _ | exact znp_o rfl | rfl | (simp (disch := first | decide | omega) only [yfc, yr_so, yr_ss, yfcc, yr_cs]; first | assumption | omega)) only [yck_of, yb_id, yPI_some, yPJ_some, yPA_some, yPV_none, yfc, yr_so, yr_ss, yfcc, yr_cs, ybif_t, yrd_1, yrd_2, yfcl, a0, a1, a2, hs, hk, ↓c_207, ↓c_213, ↓if_pos, ↓if_neg, Int.tmod_eq_emod_of_nonneg, and_self]
  · subst h
    simp (disch := first | trivial | assumption | omega | exact ynl rfl _ | exact znp_o rfl | rfl | (simp (disch := first | decide | omega) only [yfc, yr_so, yr_ss, yfcc, yr_cs]; first | assumption | omega)) only [yck_of, yb_id, yPI_some, yPJ_some, yPA_some, yPV_none, yfc, yr_so, yr_ss, yfcc, yr_cs, ybif_t, yrd_1, yrd_2, yfcl, hk, ↓if_pos, ↓if_neg, ↓c_214 (sg := sg) (ad := ad), and_self]
theorem c_216 {i p kd sg : Int} {ad : Int → Int} (i0 : 0 ≤ i) (i1 : i < 24) (hk : zr m 254 i = kd) (hs : zr m 255 i = sg) (ha : ∀ k, 0 ≤ k → k < 8 → zr m 256 (8 * i + k) = ad k) (W : yWf kd sg ad i) (p0 : 0 ≤ p) (p1 : p < 1000) (hx0 : 5 < kd → 0 ≤ zr m 261 (1000 * ad 0 + p) ∧ zr m 261 (1000 * ad 0 + p) ≤ 2) (K : Int → ZN → Prop) : zcI (d + 3) 216 [zA 236, zI i, zI p] m K = K (if kd ≤ 5 then yleaf kd sg ad p else yjoin kd (zr m 261 (1000 * ad 0 + p)) (zr m 261 (1000 * (if kd ≤ 7 then ad 1 else ad 0) + p))) m := by
  have W' := W
  obtain ⟨k0, w1, w2, w3, w4, w4b, w4c, w4d, w5, w6, w7, w8⟩ := W'
  have a0 : zr m 256 (8 * i) = ad 0 := by have := ha 0 (by decide) (by decide); rw [Int.add_zero] at this; exact this
  have a1 : zr m 256 (8 * i + 1) = ad 1 := ha 1 (by decide) (by decide)
  refine zcI_eq (w_216 ?_) K
  by_cases h5 : kd ≤ 5
  · simp (disch := first | trivial | assumption | omega | exact ynl rfl _ | exact znp_o rfl | rfl | (simp (disch := first | decide | omega) only [yfc, yr_so, yr_ss, yfcc, yr_cs]; first | assumption | omega)) only [yck_of, yb_id, yPI_some, yPJ_some, yPA_some, yPV_none, yfc, yr_so, yr_ss, yfcc, yr_cs, ybif_t, yrd_1, yrd_2, yfcl, hk, ↓if_neg, ↓c_215 (kd := kd) (sg := sg) (ad := ad)]
    exact ⟨(if_pos h5).symm, trivial⟩
  · rw [if_neg h5]
    have h6 := w6 (by omega)
    have hx := hx0 (by omega)
    have b0 : zb (8 * i) = 8 * i := yb_id (by omega) (by omega)
    have b1 : zb (8 * i + 1) = 8 * i + 1 := yb_id (by omega) (by omega)
    clear hx0 w1 w2 w3 w4 w4b w4c w4d w5 W
    have : kd = 6 ∨ kd = 7 ∨ kd = 8 ∨ kd = 9 := by omega
    have key : ∀ X Y : Int, (0 ≤ X ∧ X ≤ 2) → (if X = 0 then (0 : Int) else if Y = 0 then 0 else if X = 2 then 2 else if Y = 2 then 2 else 1) = yjoin 6 X Y ∧ (if X = 1 then (1 : Int) else if Y = 1 then 1 else if X = 2 then 2 else if Y = 2 then 2 else 0) = yjoin 7 X Y := fun X Y hX => by
      unfold yjoin
      by_cases x0 : X = 0 <;> by_cases x1 : X = 1 <;> by_cases x2 : X = 2 <;> by_cases y0 : Y = 0 <;> by_cases y1 : Y = 1 <;> by_cases y2 : Y = 2 <;> first | omega | simp [x0, x1, x2, y0, y1, y2]
    rcases this with h | h | h | h
    · have := w7 (Or.inl h)
      subst h
      simp only [b0, b1, a0, a1, hk]
      simp (disch := first | trivial | assumption | omega | exact ynl rfl _ | exact znp_o rfl | rfl | (simp (disch := first | decide | omega) only [yfc, yr_so, yr_ss, yfcc, yr_cs]; first | assumption | omega)) only [yck_of, yb_id, yPI_some, yPJ_some, yPA_some, yPV_none, yfc, yr_so, yr_ss, yfcc, yr_cs, ybif_t, yrd_1, yrd_2, yfcl, hk, a0, a1, b0, b1, ↓c_211, ↓if_pos, ↓if_neg]
      rw [← (key (zr m 261 (1000 * ad 0 + p)) (zr m 261 (1000 * ad 1 + p)) hx).1]
      repeat' split
      all_goals first | exact ⟨rfl, trivial⟩ | exact ⟨trivial, trivial⟩ | trivial
    · have := w7 (Or.inr h)
      subst h
      simp only [b0, b1, a0, a1, hk]
      simp (disch := first | trivial | assumption | omega | exact ynl rfl _ | exact znp_o rfl | rfl | (simp (disch := first | decide | omega) only [yfc, yr_so, yr_ss, yfcc, yr_cs]; first | assumption | omega)) only [yck_of, yb_id, yPI_some, yPJ_some, yPA_some, yPV_none, yfc, yr_so, yr_ss, yfcc, yr_cs, ybif_t, yrd_1, yrd_2, yfcl, hk, a0, a1, b0, b1, ↓c_211, ↓if_pos, ↓if_neg]
      rw [← (key (zr m 261 (1000 * ad 0 + p)) (zr m 261 (1000 * ad 1 + p)) hx).2]
      repeat' split
      all_goals first | exact ⟨rfl, trivial⟩ | exact ⟨trivial, trivial⟩ | trivial
    · subst h
      simp only [b0, b1, a0, a1, hk]
      simp (disch := first | trivial | assumption | omega | exact ynl rfl _ | exact znp_o rfl | rfl | (simp (disch := first | decide | omega) only [yfc, yr_so, yr_ss, yfcc, yr_cs]; first | assumption | omega)) only [yck_of, yb_id, yPI_some, yPJ_some, yPA_some, yPV_none, yfc, yr_so, yr_ss, yfcc, yr_cs, ybif_t, yrd_1, yrd_2, yfcl, hk, a0, a1, b0, b1, ↓c_211, ↓if_pos, ↓if_neg]
      show (if zr m 261 (1000 * ad 0 + p) = 2 then _ else _)
      have e : yjoin 8 (zr m 261 (1000 * ad 0 + p)) (zr m 261 (1000 * ad 0 + p)) = yopp (zr m 261 (1000 * ad 0 + p)) := rfl
      rw [e]
      unfold yopp
      by_cases x2 : zr m 261 (1000 * ad 0 + p) = 2
      · simp [x2]
      · by_cases x1 : zr m 261 (1000 * ad 0 + p) = 1
        · simp [x1]
        · have x0 : zr m 261 (1000 * ad 0 + p) = 0 := by omega
          simp [x0]
    · subst h
      simp only [b0, b1, a0, a1, hk]
      simp (disch := first | trivial | assumption | omega | exact ynl rfl _ | exact znp_o rfl | rfl | (simp (disch := first | decide | omega) only [yfc, yr_so, yr_ss, yfcc, yr_cs]; first | assumption | omega)) only [yck_of, yb_id, yPI_some, yPJ_some, yPA_some, yPV_none, yfc, yr_so, yr_ss, yfcc, yr_cs, ybif_t, yrd_1, yrd_2, yfcl, hk, a0, a1, b0, b1, ↓c_211, ↓if_pos, ↓if_neg]
      have e : yjoin 9 (zr m 261 (1000 * ad 0 + p)) (zr m 261 (1000 * ad 0 + p)) = if zr m 261 (1000 * ad 0 + p) = 1 then 1 else 0 := rfl
      rw [e]
      by_cases x1 : zr m 261 (1000 * ad 0 + p) = 1 <;> simp [x1]
end YW
