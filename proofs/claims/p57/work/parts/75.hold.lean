/-! ===== conditions read from a tape: what both hold ===== -/
section YG
variable {d : Nat} {m : ZN}
/-- the slot of a draft: without room it is the last one -/
def ysl (N : Int) : Int := min N 24
theorem c_24g {x : Int} (h1 : 0 ≤ x) (K : Int → ZN → Prop) : zcA (d + 1) 24 [zA 8, zI x] m K = K (10 + 4 * ysl x) m := by
  by_cases q : x ≤ 24
  · rw [c_24 h1 q, show ysl x = x by unfold ysl; omega]
  · refine zcA_eq (w_24 ?_) K
    rw [c_181, if_neg (show ¬ (0 ≤ x ∧ x ≤ 24) by omega), if_pos rfl, yck_of (by decide), show ysl x = 24 by unfold ysl; omega]
    exact ⟨rfl, rfl⟩
theorem d_25g {N k s : Int} {K : Int → ZN → Prop} (hT : zr m 8 1 + zr m 8 2 = N) (h1 : 0 ≤ zr m 8 1) (h2 : 0 ≤ zr m 8 2) (h3 : N ≤ 1000) (h : ∀ M, (∀ co wa, yDr m M (ysl N) k s (-1) (-1) 0 0 0 co wa) → K (10 + 4 * ysl N) M) : zcA (d + 2) 25 [zA 8, zI k, zI s] m K := by
  have hs : 0 ≤ ysl N ∧ ysl N ≤ 24 := by unfold ysl; omega
  have hc := isC_l hs.1 (show ysl N < 25 by omega)
  have e : zb (zr m 8 1 + zr m 8 2) = N := by rw [hT]; exact yb_id (by omega) (by omega)
  have r8 : zr (zsn (zsn (zsn (zsn (zsn (zsn (zsn m (10 + 4 * ysl N) 0 k) (10 + 4 * ysl N) 1 s) (10 + 4 * ysl N) 2 (-1)) (10 + 4 * ysl N) 3 (-1)) (10 + 4 * ysl N) 4 0) (10 + 4 * ysl N) 5 0) (10 + 4 * ysl N) 9 0) 8 2 = zr m 8 2 := by
    rw [yr_sc (by omega), yr_sc (by omega), yr_sc (by omega), yr_sc (by omega), yr_sc (by omega), yr_sc (by omega), yr_sc (by omega)]
  refine w_25 ?_
  rw [e, c_24g (d := d) (by omega)]
  simp only [isC_pos hc, isC_O hc, Bool.and_true, Bool.true_and, cond_true]
  rw [c_1 hc, r8, show zb (zr m 8 2 + 1) = zr m 8 2 + 1 from yb_id (by omega) (by omega)]
  exact h _ (fun co wa => yDr_0 hc)
theorem d_26g {N k x y : Int} {K : ZN → Prop} (hT : zr m 8 1 + zr m 8 2 = N) (h1 : 0 ≤ zr m 8 1) (h2 : 0 ≤ zr m 8 2) (h3 : N ≤ 1000) (h : ∀ M, (∀ co wa, yDr m M (ysl N) k (-1) x y 0 0 0 co wa) → K M) : zcV (d + 2) 26 [zA 8, zI k, zI x, zI y] m K := by
  have hs : 0 ≤ ysl N ∧ ysl N ≤ 24 := by unfold ysl; omega
  have hc := isC_l hs.1 (show ysl N < 25 by omega)
  have e : zb (zr m 8 1 + zr m 8 2) = N := by rw [hT]; exact yb_id (by omega) (by omega)
  have r8 : zr (zsn (zsn (zsn (zsn (zsn (zsn (zsn m (10 + 4 * ysl N) 0 k) (10 + 4 * ysl N) 1 (-1)) (10 + 4 * ysl N) 2 x) (10 + 4 * ysl N) 3 y) (10 + 4 * ysl N) 4 0) (10 + 4 * ysl N) 5 0) (10 + 4 * ysl N) 9 0) 8 2 = zr m 8 2 := by
    rw [yr_sc (by omega), yr_sc (by omega), yr_sc (by omega), yr_sc (by omega), yr_sc (by omega), yr_sc (by omega), yr_sc (by omega)]
  refine w_26 ?_
  rw [e, c_24g (d := d) (by omega)]
  simp only [isC_pos hc, isC_O hc, Bool.and_true, Bool.true_and, cond_true]
  rw [c_1 hc, r8, show zb (zr m 8 2 + 1) = zr m 8 2 + 1 from yb_id (by omega) (by omega)]
  exact h _ (fun co wa => yDr_0 hc)
end YG
/-- what conditions say, N of them, those below c0 by the rows -/
def yPu (m : ZN) (c0 N : Int) (kd sg sd : Int → Int) : Prop := (0 ≤ c0 ∧ c0 ≤ 24 ∧ c0 ≤ N) ∧ (∀ i, 0 ≤ i → i < c0 → kd i = zr m 254 i ∧ sg i = zr m 255 i ∧ ∀ k, 0 ≤ k → k < 8 → sd (8 * i + k) = zr m 256 (8 * i + k)) ∧ ∀ i, 0 ≤ i → i < N → i < 24 → yWf (kd i) (sg i) (yA sd i) i
theorem yPu_n {m : ZN} {c0 N k s : Int} {kd sg sd ad : Int → Int} (h : yPu m c0 N kd sg sd) (W : N < 24 → yWf k s ad N) : yPu m c0 (N + 1) (yup kd N k) (yup sg N s) (yus sd N ad) := by
  obtain ⟨h1, h2, h3⟩ := h
  refine ⟨by omega, fun i i0 i1 => ?_, fun i i0 i1 i2 => ?_⟩
  · have a := yup_k (kd := kd) (sg := sg) (sd := sd) (N := N) (k := k) (s := s) (ad := ad) i i0 (by omega)
    have b := h2 i i0 i1
    exact ⟨a.1.symm.trans b.1, a.2.1.symm.trans b.2.1, fun p p0 p1 => (a.2.2 p p0 p1).symm.trans (b.2.2 p p0 p1)⟩
  · by_cases q : i = N
    · subst q
      rw [yup_n, yup_n]
      exact yWf_c (fun p p0 p1 => (yus_n p0 p1).symm) (W i2)
    · have a := yup_k (kd := kd) (sg := sg) (sd := sd) (N := N) (k := k) (s := s) (ad := ad) i i0 (by omega)
      rw [← a.1, ← a.2.1]
      exact yWf_c a.2.2 (h3 i i0 (by omega) i2)
/-- the class' fields of a draft -/
def yDf (M : ZN) (i kd sg : Int) (ad : Int → Int) : Prop := yCR (zr M (10 + 4 * i)) (zr M (12 + 4 * i)) (zr M (13 + 4 * i)) kd sg ad ∧ (kd ≤ 5 → zr M (10 + 4 * i) 5 = yLc kd ad)
/-- the class, in the midst of a tape -/
def yKs (m M : ZN) (T : Int → Int) (n c0 p N : Int) (kd sg sd : Int → Int) (no : Int) (O : Int → Int) (nw : Int) (W : Int → Int) : Prop :=
  (∀ b, b ≠ 8 → b ≠ 216 → b ≠ 218 → b ≠ 220 → b ≠ 221 → ¬ (10 + 4 * c0 ≤ b ∧ b ≤ 109) → zr M b = zr m b)
  ∧ (∀ j, j ≠ 2 → zr M 216 j = zr m 216 j) ∧ (zr M 8 1 = c0 ∧ zr M 8 2 = N - c0 ∧ 0 ≤ c0 ∧ c0 ≤ 24 ∧ c0 ≤ N)
  ∧ yTp M T n p
  ∧ (zr M 218 3 = no ∧ ∀ j, 0 ≤ j → j < no → zr M 220 j = O j)
  ∧ (zr M 218 5 = nw ∧ ∀ j, 0 ≤ j → j < nw → zr M 221 j = W j)
  ∧ ∀ i, c0 ≤ i → i < N → i < 24 → yDf M i (kd i) (sg i) (yA sd i)
section YC
variable {d : Nat} {m M : ZN} {T : Int → Int} {n c0 p N : Int} {kd sg sd : Int → Int} {no : Int} {O : Int → Int} {nw : Int} {W : Int → Int}
/-- the stacks change -/
theorem yKs.st (C : yKs m M T n c0 p N kd sg sd no O nw W) {M' : ZN} {no' nw' : Int} {O' W' : Int → Int} (f : ∀ b, b ≠ 218 → b ≠ 220 → b ≠ 221 → zr M' b = zr M b) (h1 : zr M' 218 3 = no' ∧ ∀ j, 0 ≤ j → j < no' → zr M' 220 j = O' j) (h2 : zr M' 218 5 = nw' ∧ ∀ j, 0 ≤ j → j < nw' → zr M' 221 j = W' j) : yKs m M' T n c0 p N kd sg sd no' O' nw' W' := by
  obtain ⟨k1, k2, k3, t1, k5, k6, k7⟩ := C
  refine ⟨fun b b0 b1 b2 b3 b4 b5 => by rw [f b b2 b3 b4]; exact k1 b b0 b1 b2 b3 b4 b5, fun j hj => by rw [f 216 (by decide) (by decide) (by decide)]; exact k2 j hj, by rw [f 8 (by decide) (by decide) (by decide)]; exact k3, ?_, h1, h2, fun i i0 i1 i2 => ?_⟩
  · obtain ⟨a1, a2, a3, a4, a5⟩ := t1
    exact ⟨by rw [f 216 (by decide) (by decide) (by decide)]; exact a1, by rw [f 216 (by decide) (by decide) (by decide)]; exact a2, a3, fun j j0 j1 => by rw [f 217 (by decide) (by decide) (by decide)]; exact a4 j j0 j1, a5⟩
  · have := k7 i i0 i1 i2
    unfold yDf at this ⊢
    rw [f (10 + 4 * i) (by omega) (by omega) (by omega), f (12 + 4 * i) (by omega) (by omega) (by omega), f (13 + 4 * i) (by omega) (by omega) (by omega)]
    exact this
/-- the place changes -/
theorem yKs.mv (C : yKs m M T n c0 p N kd sg sd no O nw W) {M' : ZN} {p' : Int} (f : yfT M M') (t : yTp M' T n p') : yKs m M' T n c0 p' N kd sg sd no O nw W := by
  obtain ⟨k1, k2, k3, _, k5, k6, k7⟩ := C
  have g : ∀ b, b ≠ 216 → zr M' b = zr M b := fun b hb => f.fn hb
  refine ⟨fun b b0 b1 b2 b3 b4 b5 => by rw [g b b1]; exact k1 b b0 b1 b2 b3 b4 b5, fun j hj => by rw [f 216 j (Or.inr hj)]; exact k2 j hj, by rw [g 8 (by decide)]; exact k3, t, by rw [g 218 (by decide), g 220 (by decide)]; exact k5, by rw [g 218 (by decide), g 221 (by decide)]; exact k6, fun i i0 i1 i2 => ?_⟩
  have := k7 i i0 i1 i2
  unfold yDf at this ⊢
  rw [g (10 + 4 * i) (by omega), g (12 + 4 * i) (by omega), g (13 + 4 * i) (by omega)]
  exact this
/-- a draft more -/
theorem yKs.dr (C : yKs m M T n c0 p N kd sg sd no O nw W) {M' : ZN} {p' k sn : Int} {ad : Int → Int} (f : ∀ b, b ≠ 10 + 4 * ysl N → b ≠ 12 + 4 * ysl N → b ≠ 13 + 4 * ysl N → b ≠ 8 → b ≠ 216 → zr M' b = zr M b) (f8 : zr M' 8 1 = zr M 8 1 ∧ zr M' 8 2 = zr M 8 2 + 1) (f2 : ∀ j, j ≠ 2 → zr M' 216 j = zr M 216 j) (t : yTp M' T n p') (hD : N < 24 → yDf M' N k sn ad) : yKs m M' T n c0 p' (N + 1) (yup kd N k) (yup sg N sn) (yus sd N ad) no O nw W := by
  obtain ⟨k1, k2, k3, _, k5, k6, k7⟩ := C
  have hs : c0 ≤ ysl N ∧ ysl N ≤ 24 ∧ ysl N ≤ N := by unfold ysl; omega
  refine ⟨fun b b0 b1 b2 b3 b4 b5 => by rw [f b (by omega) (by omega) (by omega) b0 b1]; exact k1 b b0 b1 b2 b3 b4 b5, fun j hj => by rw [f2 j hj]; exact k2 j hj, by omega, t, by rw [f 218 (by omega) (by omega) (by omega) (by omega) (by omega), f 220 (by omega) (by omega) (by omega) (by omega) (by omega)]; exact k5, by rw [f 218 (by omega) (by omega) (by omega) (by omega) (by omega), f 221 (by omega) (by omega) (by omega) (by omega) (by omega)]; exact k6, fun i i0 i1 i2 => ?_⟩
  by_cases q : i = N
  · subst q
    have h := hD i2
    rw [yup_n, yup_n]
    exact ⟨yCR_c (fun p p0 p1 => (yus_n p0 p1).symm) h.1, fun h5 => by rw [h.2 h5]; exact yLc_c (fun p p0 p1 => (yus_n p0 p1).symm)⟩
  · have a := yup_k (kd := kd) (sg := sg) (sd := sd) (N := N) (k := k) (s := sn) (ad := ad) i (by omega) (by omega)
    have h := k7 i i0 (by omega) i2
    have e := show ysl N = min N 24 from rfl
    rw [← a.1, ← a.2.1]
    unfold yDf at h ⊢
    rw [f (10 + 4 * i) (by omega) (by omega) (by omega) (by omega) (by omega), f (12 + 4 * i) (by omega) (by omega) (by omega) (by omega) (by omega), f (13 + 4 * i) (by omega) (by omega) (by omega) (by omega) (by omega)]
    exact ⟨yCR_c a.2.2 h.1, fun h5 => by rw [h.2 h5]; exact yLc_c a.2.2⟩
theorem yKs.O_c (C : yKs m M T n c0 p N kd sg sd no O nw W) {O' W' : Int → Int} (h : ∀ j, 0 ≤ j → j < no → O j = O' j) (h2 : ∀ j, 0 ≤ j → j < nw → W j = W' j) : yKs m M T n c0 p N kd sg sd no O' nw W' := by
  obtain ⟨k1, k2, k3, k4, k5, k6, k7⟩ := C
  exact ⟨k1, k2, k3, k4, ⟨k5.1, fun j j0 j1 => (k5.2 j j0 j1).trans (h j j0 j1)⟩, ⟨k6.1, fun j j0 j1 => (k6.2 j j0 j1).trans (h2 j j0 j1)⟩, k7⟩
/-- the two that a condition is over -/
def yov (x y : Int) : Int → Int := fun k => if k = 0 then x else if k = 1 then y else -1
theorem c_26s {k x y : Int} {K : ZN → Prop} (C : yKs m M T n c0 p N kd sg sd no O nw W) (hN : N ≤ 1000) (k6 : 6 ≤ k) (h : ∀ M', yKs m M' T n c0 p (N + 1) (yup kd N k) (yup sg N (-1)) (yus sd N (yov x y)) no O nw W → K M') : zcV (d + 2) 26 [zA 8, zI k, zI x, zI y] M K := by
  have C' := C
  obtain ⟨k1, k2, k3, t1, k5, k6', k7⟩ := C
  refine d_26g (N := N) (by omega) (by omega) (by omega) hN (fun M' D => ?_)
  have D0 := D (fun _ => 0) (fun _ => 0)
  have hs : 0 ≤ ysl N ∧ ysl N ≤ 24 := by unfold ysl; omega
  obtain ⟨d1, d2, d3, d4⟩ := D0
  have g216 : zr M' 216 = zr M 216 := d1 216 (by omega) (by omega) (by omega) (by omega)
  refine h M' (C'.dr (fun b b0 b1 b2 b3 b4 => d1 b b0 b1 b2 b3) d2 (fun j hj => by rw [g216]) ?_ (fun q => ?_))
  · obtain ⟨a1, a2, a3, a4, a5⟩ := t1
    exact ⟨by rw [g216]; exact a1, by rw [g216]; exact a2, a3, fun j j0 j1 => by rw [d1 217 (by omega) (by omega) (by omega) (by omega)]; exact a4 j j0 j1, a5⟩
  · have e : ysl N = N := by unfold ysl; omega
    have D1 := D (fun _ => 0) (fun _ => 0)
    rw [e] at D1
    refine ⟨yDr_R D1 (fun _ => ⟨rfl, rfl⟩) (fun z => by omega) ?_ (fun z => by omega) (fun z => by omega) (fun z => by omega) (fun z => by omega) (fun z => by omega) (fun z => by omega) (fun z => by omega), fun z => by omega⟩
    unfold ySz
    rw [if_neg (by omega), if_neg (by omega), if_neg (by omega)]
/-- the top of what is opened -/
theorem c_63 (C : yKs m M T n c0 p N kd sg sd no O nw W) (n1 : no ≤ 250) (K : Int → ZN → Prop) : zcI d 63 [zA 218] M K = K (if 0 < no then O (no - 1) else -1) M := by
  obtain ⟨k1, k2, k3, k4, k5, k6, k7⟩ := C
  refine zcI_eq (w_63 ?_) K
  rw [k5.1]
  by_cases q : 0 < no
  · rw [if_pos q, if_pos q, show zb (no - 1) = no - 1 from yb_id (by omega) (by omega), yck_of (by omega), k5.2 _ (by omega) (by omega)]
    exact ⟨rfl, rfl⟩
  · rw [if_neg q, if_neg q]; exact ⟨rfl, rfl⟩
theorem c_64 {K : ZN → Prop} (C : yKs m M T n c0 p N kd sg sd no O nw W) (n1 : no ≤ 250) (n0 : 0 < no) (h : ∀ M', yKs m M' T n c0 p N kd sg sd (no - 1) O nw W → K M') : zcV d 64 [zA 218] M K := by
  have C' := C
  obtain ⟨k1, k2, k3, k4, k5, k6, k7⟩ := C
  refine w_64 ?_
  rw [k5.1, if_pos n0, show zb (no - 1) = no - 1 from yb_id (by omega) (by omega)]
  refine h _ (C'.st (fun b b0 b1 b2 => by rw [yfc b0]) ⟨yr_ss (znp_o rfl), fun j j0 j1 => by rw [yr_sc (by decide)]; exact k5.2 j j0 (by omega)⟩ ⟨by rw [yr_so (by decide)]; exact k6.1, fun j j0 j1 => by rw [yr_sc (by decide)]; exact k6.2 j j0 j1⟩)
theorem c_62 {x : Int} {K : ZN → Prop} (C : yKs m M T n c0 p N kd sg sd no O nw W) (n0 : 0 ≤ no) (n1 : no < 250) (h : ∀ M', yKs m M' T n c0 p N kd sg sd (no + 1) (yup O no x) nw W → K M') : zcV d 62 [zA 218, zI x] M K := by
  have C' := C
  have np : ∀ j, znp' 220 j = true := ynl rfl
  obtain ⟨k1, k2, k3, k4, k5, k6, k7⟩ := C
  refine w_62 ?_
  rw [k5.1, if_pos n1, yck_of (by omega), yr_sc (by decide), k5.1, show zb (no + 1) = no + 1 from yb_id (by omega) (by omega)]
  refine h _ (C'.st (fun b b0 b1 b2 => by rw [yfc b0, yfc b1]) ⟨yr_ss (znp_o rfl), fun j j0 j1 => ?_⟩ ⟨by rw [yr_so (by decide), yr_sc (by decide)]; exact k6.1, fun j j0 j1 => by rw [yr_sc (by decide), yr_sc (by decide)]; exact k6.2 j j0 j1⟩)
  rw [yr_sc (by decide), yr_sa (np _)]
  by_cases q : j = no
  · rw [if_pos q, q, yup_n]
  · rw [if_neg q, yup_o (by omega)]; exact k5.2 j j0 (by omega)
theorem c_65 {x : Int} {K : ZN → Prop} (C : yKs m M T n c0 p N kd sg sd no O nw W) (n0 : 0 ≤ nw) (n1 : nw < 250) (h : ∀ M', yKs m M' T n c0 p N kd sg sd no O (nw + 1) (yup W nw x) → K M') : zcV d 65 [zA 218, zI x] M K := by
  have C' := C
  have np : ∀ j, znp' 221 j = true := ynl rfl
  obtain ⟨k1, k2, k3, k4, k5, k6, k7⟩ := C
  refine w_65 ?_
  rw [k6.1, if_pos n1, yck_of (by omega), yr_sc (by decide), k6.1, show zb (nw + 1) = nw + 1 from yb_id (by omega) (by omega)]
  refine h _ (C'.st (fun b b0 b1 b2 => by rw [yfc b0, yfc b2]) ⟨by rw [yr_so (by decide), yr_sc (by decide)]; exact k5.1, fun j j0 j1 => by rw [yr_sc (by decide), yr_sc (by decide)]; exact k5.2 j j0 j1⟩ ⟨yr_ss (znp_o rfl), fun j j0 j1 => ?_⟩)
  rw [yr_sc (by decide), yr_sa (np _)]
  by_cases q : j = nw
  · rw [if_pos q, q, yup_n]
  · rw [if_neg q, yup_o (by omega)]; exact k6.2 j j0 (by omega)
theorem c_66 {K : Int → ZN → Prop} (C : yKs m M T n c0 p N kd sg sd no O nw W) (n1 : nw ≤ 250) (n0 : 0 < nw) (h : ∀ M', yKs m M' T n c0 p N kd sg sd no O (nw - 1) W → K (W (nw - 1)) M') : zcI d 66 [zA 218] M K := by
  have C' := C
  obtain ⟨k1, k2, k3, k4, k5, k6, k7⟩ := C
  refine w_66 ?_
  rw [k6.1, if_pos n0, show zb (nw - 1) = nw - 1 from yb_id (by omega) (by omega), yr_ss (znp_o rfl), yck_of (by omega), yr_sc (by decide), k6.2 _ (by omega) (by omega)]
  refine h _ (C'.st (fun b b0 b1 b2 => by rw [yfc b0]) ⟨by rw [yr_so (by decide)]; exact k5.1, fun j j0 j1 => by rw [yr_sc (by decide)]; exact k5.2 j j0 j1⟩ ⟨yr_ss (znp_o rfl), fun j j0 j1 => by rw [yr_sc (by decide)]; exact k6.2 j j0 (by omega)⟩)
theorem c_27 (C : yKs m M T n c0 p N kd sg sd no O nw W) (hN : N ≤ 1000) (K : Int → ZN → Prop) : zcI d 27 [zA 8] M K = K (N - 1) M := by
  obtain ⟨k1, k2, k3, k4, k5, k6, k7⟩ := C
  refine zcI_eq (w_27 ?_) K
  rw [show zb (zr M 8 1 + zr M 8 2) = N from by rw [yb_id (by omega) (by omega)]; omega, yb_id (by omega) (by omega)]
  exact ⟨rfl, rfl⟩
end YC
