/-! ===== the class' answers, without the reference ===== -/
/-- n lines of values v, N conditions with truths T -/
def yG (n N pr : Int) (v : Int → Int) (T : Int → Int → Int) (m : ZN) : Prop :=
  ((zr m 4 1 = n ∧ 0 ≤ n ∧ n ≤ 60) ∧ ∀ j, 0 ≤ j → j < 3 * n → zr m 5 j = v j ∧ 0 ≤ v j ∧ v j ≤ 9) ∧ (zr m 4 2 = pr ∧ 0 ≤ pr ∧ pr ≤ 20) ∧ (zr m 8 1 = N ∧ 0 ≤ N ∧ N ≤ 24) ∧ ∀ c, 0 ≤ c → c < N → ∀ k, 0 ≤ k → k < 1000 → yTw (zr m (10 + 4 * c + 1)) k = T c k ∧ 0 ≤ T c k ∧ T c k ≤ 2
section QG
variable {d : Nat} {m : ZN} {n N pr : Int} {v : Int → Int} {T : Int → Int → Int}
theorem yG_Sc {m2 : ZN} (G : yG n N pr v T m) (h : ySc m m2) : yG n N pr v T m2 := by
  obtain ⟨⟨a1, a2⟩, a3, a4, a5⟩ := G
  have f : ∀ a : Int, a < 216 → zr m2 a = zr m a := fun a ha => h.fn (fun j => by unfold yscr; omega)
  unfold yG
  rw [f 4 (by decide), f 5 (by decide), f 8 (by decide)]
  exact ⟨⟨a1, a2⟩, a3, a4, fun c c0 c1 => by rw [f (10 + 4 * c + 1) (by omega)]; exact a5 c c0 c1⟩
theorem yG_v (G : yG n N pr v T m) : ∀ j, 0 ≤ j → j < 3 * zr m 4 1 → 0 ≤ zr m 5 j ∧ zr m 5 j ≤ 9 := fun j j0 j1 => by
  rw [G.1.1.1] at j1
  obtain ⟨h1, h2⟩ := G.1.2 j j0 j1
  rw [h1]
  exact h2
theorem yG_w (G : yG n N pr v T m) : ∀ j, 0 ≤ j → j < 3 * n → 0 ≤ v j ∧ v j ≤ 9 := fun j j0 j1 => (G.1.2 j j0 j1).2
theorem yG_k (G : yG n N pr v T m) {l o : Int} (l0 : 0 ≤ l) (l1 : l < n) (o0 : 0 ≤ o) (o5 : o ≤ 5) : yk3 (zr m 5) l o = yk3 v l o ∧ 0 ≤ yk3 v l o ∧ yk3 v l o < 1000 := by
  refine ⟨(yk3_c l0 l1 o0 o5 (fun j j0 j1 => (G.1.2 j j0 j1).1)), ?_⟩
  exact yk3_r (t := o) l0 l1 o0 o5 (yG_w G)
theorem e_170 (G : yG n N pr v T m) {c o : Int} (c0 : 0 ≤ c) (c1 : c < N) (o0 : 0 ≤ o) (o5 : o ≤ 5) (K : Int → ZN → Prop) : zcI (d + 2) 170 [zA 3, zI c, zI o] m K = K 1 m := by
  obtain ⟨n1, n2, n3⟩ := G.2.2.1
  rw [c_170 (d := d) (by omega) (by omega), if_pos (show (0 ≤ c ∧ c < zr m 8 1) ∧ 0 ≤ o ∧ o ≤ 5 from ⟨⟨c0, by omega⟩, o0, o5⟩)]
theorem e_truth (G : yG n N pr v T m) {c o k : Int} (c0 : 0 ≤ c) (c1 : c < N) (o0 : 0 ≤ o) (o5 : o ≤ 5) (k0 : 0 ≤ k) (k1 : k < 1000) (K : Int → ZN → Prop) : zcI (d + 9) 141 [zA 3, zI c, zI o, zI k] m K = K (T c (ypl o k)) m := by
  obtain ⟨n1, n2, n3⟩ := G.2.2.1
  have q1 : 0 ≤ c ∧ c < zr m 8 1 := ⟨c0, by omega⟩
  have hc := isC_l q1.1 (show c < 25 by omega)
  have hp := ypl_r o0 o5 k0 k1
  refine zcI_eq (w_141 ?_) K
  simp (disch := first | trivial | assumption | omega | exact ynl rfl _ | exact znp_o rfl | rfl | (simp (disch := first | decide | omega) only [yfc, yr_so, yr_ss, yfcc, yr_cs]; first | assumption | omega)) only [yck_of, yb_id, yPI_some, yPJ_some, yPA_some, yPV_none, yfc, yr_so, yr_ss, yfcc, yr_cs, ybif_t, yrd_1, yrd_2, yfcl, isC_pos, isC_O, isC_t, isC_c, isC_w, isC_f, isC_I1, isC_01, isC_I2, isC_I3, isC_02, isC_03, isC_n1, isC_n2, isC_n3, isC_r1, isC_r2, isC_r3, isC_np, isC_np1, isC_np2, isC_np3, Bool.true_or, Bool.and_true, Bool.true_and, cond_true, ↓c_181, ↓c_182, ↓c_183, ↓c_184, ↓c_185, ↓c_186, ↓c_187, ↓c_73, ↓c_33, ↓c_23, ↓c_170, ↓c_168, ↓if_pos, ↓if_neg, yl_lt, yl_gt, yl_eq, ↓c_24, ↓c_188, ↓c_319]
  exact ⟨(G.2.2.2 c c0 c1 _ hp.1 hp.2).1, trivial⟩
theorem e_keys (G : yG n N pr v T m) {c t : Int} (c0 : 0 ≤ c) (c1 : c < N) (t0 : 0 ≤ t) (t2 : t ≤ 2) (K : Int → ZN → Prop) : zcI (d + 9) 142 [zA 3, zI c, zI t] m K = K (ycnt (fun p => decide (T c p = t)) 1000) m := by
  obtain ⟨n1, n2, n3⟩ := G.2.2.1
  have q1 : 0 ≤ c ∧ c < zr m 8 1 := ⟨c0, by omega⟩
  have hc := isC_l q1.1 (show c < 25 by omega)
  refine zcI_eq (w_142 ?_) K
  simp (disch := first | trivial | assumption | omega | exact ynl rfl _ | exact znp_o rfl | rfl | (simp (disch := first | decide | omega) only [yfc, yr_so, yr_ss, yfcc, yr_cs]; first | assumption | omega)) only [yck_of, yb_id, yPI_some, yPJ_some, yPA_some, yPV_none, yfc, yr_so, yr_ss, yfcc, yr_cs, ybif_t, yrd_1, yrd_2, yfcl, isC_pos, isC_O, isC_t, isC_c, isC_w, isC_f, isC_I1, isC_01, isC_I2, isC_I3, isC_02, isC_03, isC_n1, isC_n2, isC_n3, isC_r1, isC_r2, isC_r3, isC_np, isC_np1, isC_np2, isC_np3, Bool.true_or, Bool.and_true, Bool.true_and, cond_true, ↓c_181, ↓c_182, ↓c_183, ↓c_184, ↓c_185, ↓c_186, ↓c_187, ↓c_73, ↓c_33, ↓c_23, ↓c_170, ↓c_168, ↓if_pos, ↓if_neg, yl_lt, yl_gt, yl_eq, ↓c_24, ↓c_18]
  exact ⟨ycnt_c (fun i i0 i1 => by rw [(G.2.2.2 c c0 c1 i i0 i1).1]), trivial⟩
theorem e_lines (G : yG n N pr v T m) {c t : Int} (c0 : 0 ≤ c) (c1 : c < N) (t0 : 0 ≤ t) (t2 : t ≤ 2) (K : Int → ZN → Prop) : zcI (d + 9) 143 [zA 3, zI c, zI t] m K = K (ycnt (fun l => decide (T c (yk3 v l 0) = t)) n) m := by
  obtain ⟨n1, n2, n3⟩ := G.2.2.1
  obtain ⟨l1, l2, l3⟩ := G.1.1
  have lv := yG_v G
  have q1 : 0 ≤ c ∧ c < zr m 8 1 := ⟨c0, by omega⟩
  have hc := isC_l q1.1 (show c < 25 by omega)
  refine zcI_eq (w_143 ?_) K
  simp (disch := first | trivial | assumption | omega | exact ynl rfl _ | exact znp_o rfl | rfl | (simp (disch := first | decide | omega) only [yfc, yr_so, yr_ss, yfcc, yr_cs]; first | assumption | omega)) only [yck_of, yb_id, yPI_some, yPJ_some, yPA_some, yPV_none, yfc, yr_so, yr_ss, yfcc, yr_cs, ybif_t, yrd_1, yrd_2, yfcl, isC_pos, isC_O, isC_t, isC_c, isC_w, isC_f, isC_I1, isC_01, isC_I2, isC_I3, isC_02, isC_03, isC_n1, isC_n2, isC_n3, isC_r1, isC_r2, isC_r3, isC_np, isC_np1, isC_np2, isC_np3, Bool.true_or, Bool.and_true, Bool.true_and, cond_true, ↓c_181, ↓c_182, ↓c_183, ↓c_184, ↓c_185, ↓c_186, ↓c_187, ↓c_73, ↓c_33, ↓c_23, ↓c_170, ↓c_168, ↓if_pos, ↓if_neg, yl_lt, yl_gt, yl_eq, ↓c_24, ↓c_41]
  refine ⟨?_, trivial⟩
  rw [l1]
  exact ycnt_c (fun i i0 i1 => by
    obtain ⟨k1, k2, k3⟩ := yG_k G (o := 0) i0 i1 (by decide) (by decide)
    rw [k1, (G.2.2.2 c c0 c1 _ k2 k3).1])
theorem e_alike (G : yG n N pr v T m) {a b : Int} (a0 : 0 ≤ a) (a1 : a < N) (b0 : 0 ≤ b) (b1 : b < N) (K : Int → ZN → Prop) : zcI (d + 9) 157 [zA 3, zI a, zI b] m K = K (yfnd (fun p => decide (T a p ≠ T b p)) 0 1000) m := by
  obtain ⟨n1, n2, n3⟩ := G.2.2.1
  have q1 : 0 ≤ a ∧ a < zr m 8 1 := ⟨a0, by omega⟩
  have q2 : 0 ≤ b ∧ b < zr m 8 1 := ⟨b0, by omega⟩
  have hc := isC_l q1.1 (show a < 25 by omega)
  have hb := isC_l q2.1 (show b < 25 by omega)
  refine zcI_eq (w_157 ?_) K
  simp (disch := first | trivial | assumption | omega | exact ynl rfl _ | exact znp_o rfl | rfl | (simp (disch := first | decide | omega) only [yfc, yr_so, yr_ss, yfcc, yr_cs]; first | assumption | omega)) only [yck_of, yb_id, yPI_some, yPJ_some, yPA_some, yPV_none, yfc, yr_so, yr_ss, yfcc, yr_cs, ybif_t, yrd_1, yrd_2, yfcl, isC_pos, isC_O, isC_t, isC_c, isC_w, isC_f, isC_I1, isC_01, isC_I2, isC_I3, isC_02, isC_03, isC_n1, isC_n2, isC_n3, isC_r1, isC_r2, isC_r3, isC_np, isC_np1, isC_np2, isC_np3, Bool.true_or, Bool.and_true, Bool.true_and, cond_true, ↓c_181, ↓c_182, ↓c_183, ↓c_184, ↓c_185, ↓c_186, ↓c_187, ↓c_73, ↓c_33, ↓c_23, ↓c_170, ↓c_168, ↓if_pos, ↓if_neg, yl_lt, yl_gt, yl_eq, ↓c_24, ↓c_20]
  exact ⟨yfnd_c (fun i i0 i1 => by rw [(G.2.2.2 a a0 a1 i i0 i1).1, (G.2.2.2 b b0 b1 i i0 i1).1]), trivial⟩
theorem e_implies (G : yG n N pr v T m) {a b : Int} (a0 : 0 ≤ a) (a1 : a < N) (b0 : 0 ≤ b) (b1 : b < N) (K : Int → ZN → Prop) : zcI (d + 9) 156 [zA 3, zI a, zI b] m K = K (yfnd (fun p => decide (T a p = 1 ∧ T b p ≠ 1)) 0 1000) m := by
  obtain ⟨n1, n2, n3⟩ := G.2.2.1
  have q1 : 0 ≤ a ∧ a < zr m 8 1 := ⟨a0, by omega⟩
  have q2 : 0 ≤ b ∧ b < zr m 8 1 := ⟨b0, by omega⟩
  have hc := isC_l q1.1 (show a < 25 by omega)
  have hb := isC_l q2.1 (show b < 25 by omega)
  refine zcI_eq (w_156 ?_) K
  simp (disch := first | trivial | assumption | omega | exact ynl rfl _ | exact znp_o rfl | rfl | (simp (disch := first | decide | omega) only [yfc, yr_so, yr_ss, yfcc, yr_cs]; first | assumption | omega)) only [yck_of, yb_id, yPI_some, yPJ_some, yPA_some, yPV_none, yfc, yr_so, yr_ss, yfcc, yr_cs, ybif_t, yrd_1, yrd_2, yfcl, isC_pos, isC_O, isC_t, isC_c, isC_w, isC_f, isC_I1, isC_01, isC_I2, isC_I3, isC_02, isC_03, isC_n1, isC_n2, isC_n3, isC_r1, isC_r2, isC_r3, isC_np, isC_np1, isC_np2, isC_np3, Bool.true_or, Bool.and_true, Bool.true_and, cond_true, ↓c_181, ↓c_182, ↓c_183, ↓c_184, ↓c_185, ↓c_186, ↓c_187, ↓c_73, ↓c_33, ↓c_23, ↓c_170, ↓c_168, ↓if_pos, ↓if_neg, yl_lt, yl_gt, yl_eq, ↓c_24]
  refine yfor (fun i => yfnd (fun p => decide (T a p = 1 ∧ T b p ≠ 1)) i 1000 = yfnd (fun p => decide (T a p = 1 ∧ T b p ≠ 1)) 0 1000 → zwpN (d + 9) 156 51 [some (zA 3), some (zI a), some (zI b), some (zA (10 + 4 * a)), some (zA (10 + 4 * b)), some (zI i)] [] m _) 0 1000 (by decide) (fun i i0 i1 hW hr => ?_) (fun hr => ?_) rfl
  · refine w_156_51 ?_
    simp (disch := first | trivial | assumption | omega | exact ynl rfl _ | exact znp_o rfl | rfl | (simp (disch := first | decide | omega) only [yfc, yr_so, yr_ss, yfcc, yr_cs]; first | assumption | omega)) only [yck_of, yb_id, yPI_some, yPJ_some, yPA_some, yPV_none, yfc, yr_so, yr_ss, yfcc, yr_cs, ybif_t, yrd_1, yrd_2, yfcl, isC_pos, isC_O, isC_t, isC_c, isC_w, isC_f, isC_I1, isC_01, isC_I2, isC_I3, isC_02, isC_03, isC_n1, isC_n2, isC_n3, isC_r1, isC_r2, isC_r3, isC_np, isC_np1, isC_np2, isC_np3, Bool.true_or, Bool.and_true, Bool.true_and, cond_true, ↓c_319, ↓if_pos]
    rw [(G.2.2.2 a a0 a1 i i0 i1).1, (G.2.2.2 b b0 b1 i i0 i1).1]
    by_cases z1 : T a i = 1
    · by_cases z2 : T b i = 1
      · rw [if_pos z1, if_pos z2]
        exact hW (by rw [← hr, yfnd_f i1 (decide_eq_false (fun h => h.2 z2))])
      · rw [if_pos z1, if_neg z2]
        rw [yfnd_t i1 (decide_eq_true ⟨z1, z2⟩)] at hr
        exact ⟨hr, trivial⟩
    · rw [if_neg z1]
      exact hW (by rw [← hr, yfnd_f i1 (decide_eq_false (fun h => z1 h.1))])
  · refine w_156_51 ?_
    rw [if_neg (by decide)]
    rw [yfnd_e (by decide)] at hr
    exact ⟨hr, rfl⟩
/-- the truths along an order -/
def yTo (T : Int → Int → Int) (c o : Int) : Int → Int := fun k => T c (ypl o k)
theorem e_91 (G : yG n N pr v T m) {c o : Int} {K : ZN → Prop} (c0 : 0 ≤ c) (c1 : c < N) (o0 : 0 ≤ o) (o5 : o ≤ 5) (h : ∀ M2, ySc m M2 → yRn (yTo T c o) M2 1000 → K M2) : zcV (d + 2) 91 [zA 222, zA (10 + 4 * c), zI o] m K := by
  obtain ⟨n1, n2, n3⟩ := G.2.2.1
  refine c_91 (t := yTo T c o) (isC_l c0 (by omega)) o0 o5 (fun k k0 k1 => ?_) (fun k k0 k1 => ?_) (fun M2 f R => h M2 (fun a j q => by rw [f a (by unfold yscr at q; omega)]) R)
  · have hp := ypl_r o0 o5 k0 k1
    exact (G.2.2.2 c c0 c1 _ hp.1 hp.2).1
  · have hp := ypl_r o0 o5 k0 k1
    exact (G.2.2.2 c c0 c1 _ hp.1 hp.2).2
theorem e_runs (G : yG n N pr v T m) {c o : Int} {K : Int → ZN → Prop} (c0 : 0 ≤ c) (c1 : c < N) (o0 : 0 ≤ o) (o5 : o ≤ 5) (h : ∀ M2, ySc m M2 → K (yrc (yTo T c o) 1000) M2) : zcI (d + 9) 145 [zA 3, zI c, zI o] m K := by
  obtain ⟨n1, n2, n3⟩ := G.2.2.1
  have z10 : ¬ (1 : Int) = 0 := by decide
  refine w_145 ?_
  rw [e_170 (d := d + 6) G c0 c1 o0 o5, if_neg z10, c_24 (d := d + 7) c0 (by omega)]
  refine e_91 (d := d + 6) G c0 c1 o0 o5 (fun M2 sc R => ?_)
  rw [R.1]
  exact h M2 sc
theorem e_run (G : yG n N pr v T m) {c o x : Int} {K : Int → ZN → Prop} (c0 : 0 ≤ c) (c1 : c < N) (o0 : 0 ≤ o) (o5 : o ≤ 5) (x0 : 0 ≤ x) (x1 : x < yrc (yTo T c o) 1000) (h : ∀ M2, ySc m M2 → K (1000 * yrF (yTo T c o) 1000 x + yrL (yTo T c o) 1000 x) M2) : zcI (d + 9) 146 [zA 3, zI c, zI o, zI x] m K := by
  obtain ⟨n1, n2, n3⟩ := G.2.2.1
  have z10 : ¬ (1 : Int) = 0 := by decide
  refine w_146 ?_
  rw [e_170 (d := d + 6) G c0 c1 o0 o5, if_neg z10, c_24 (d := d + 7) c0 (by omega)]
  refine e_91 (d := d + 6) G c0 c1 o0 o5 (fun M2 sc R => ?_)
  have hr := yrc_r (yTo T c o) 1000
  have ho := (yr_ord (yTo T c o) 1000).1 x x0 x1
  have hx := R.2.2 x x0 x1
  rw [R.1, c_181, show zb (yrc (yTo T c o) 1000 - 1) = yrc (yTo T c o) 1000 - 1 from yb_id (by omega) (by omega), if_pos (show 0 ≤ x ∧ x ≤ yrc (yTo T c o) 1000 - 1 from ⟨x0, by omega⟩), if_neg z10]
  refine w_92 ?_
  rw [yck_of (by omega), yck_of (by omega), hx.1, hx.2, show zb (1000 * yrF (yTo T c o) 1000 x) = 1000 * yrF (yTo T c o) 1000 x from yb_id (by omega) (by omega), show zb (1000 * yrF (yTo T c o) 1000 x + yrL (yTo T c o) 1000 x) = 1000 * yrF (yTo T c o) 1000 x + yrL (yTo T c o) 1000 x from yb_id (by omega) (by omega)]
  exact h M2 sc
theorem e_seek0 (G : yG n N pr v T m) {c o k : Int} (c0 : 0 ≤ c) (c1 : c < N) (o0 : 0 ≤ o) (o5 : o ≤ 5) (K : Int → ZN → Prop) : zcI (d + 9) 151 [zA 3, zI c, zI o, zI k, zI 0] m K = K (yfnd (fun p => decide (yTo T c o p = 1)) (max k 0) 1000) m := by
  obtain ⟨n1, n2, n3⟩ := G.2.2.1
  have q1 : 0 ≤ c ∧ c < zr m 8 1 := ⟨c0, by omega⟩
  have hc := isC_l q1.1 (show c < 25 by omega)
  refine zcI_eq (w_151 ?_) K
  simp (disch := first | trivial | assumption | omega | exact ynl rfl _ | exact znp_o rfl | rfl | (simp (disch := first | decide | omega) only [yfc, yr_so, yr_ss, yfcc, yr_cs]; first | assumption | omega)) only [yck_of, yb_id, yPI_some, yPJ_some, yPA_some, yPV_none, yfc, yr_so, yr_ss, yfcc, yr_cs, ybif_t, yrd_1, yrd_2, yfcl, isC_pos, isC_O, isC_t, isC_c, isC_w, isC_f, isC_I1, isC_01, isC_I2, isC_I3, isC_02, isC_03, isC_n1, isC_n2, isC_n3, isC_r1, isC_r2, isC_r3, isC_np, isC_np1, isC_np2, isC_np3, Bool.true_or, Bool.and_true, Bool.true_and, cond_true, ↓c_181, ↓c_182, ↓c_183, ↓c_184, ↓c_185, ↓c_186, ↓c_187, ↓c_73, ↓c_33, ↓c_23, ↓c_170, ↓c_168, ↓if_pos, ↓if_neg, yl_lt, yl_gt, yl_eq, ↓c_24, ↓c_176]
  exact ⟨yfnd_c (fun i i0 i1 => by
    have hp := ypl_r o0 o5 (show 0 ≤ i by omega) i1
    rw [(G.2.2.2 c c0 c1 _ hp.1 hp.2).1]; rfl), trivial⟩
theorem e_seek1 (G : yG n N pr v T m) {c o k : Int} (c0 : 0 ≤ c) (c1 : c < N) (o0 : 0 ≤ o) (o5 : o ≤ 5) (hk : -2147483648 ≤ k) (K : Int → ZN → Prop) : zcI (d + 9) 151 [zA 3, zI c, zI o, zI k, zI 1] m K = K (ylst (fun p => decide (yTo T c o p = 1)) (min k 999 + 1)) m := by
  obtain ⟨n1, n2, n3⟩ := G.2.2.1
  have q1 : 0 ≤ c ∧ c < zr m 8 1 := ⟨c0, by omega⟩
  have hc := isC_l q1.1 (show c < 25 by omega)
  refine zcI_eq (w_151 ?_) K
  simp (disch := first | trivial | assumption | omega | exact ynl rfl _ | exact znp_o rfl | rfl | (simp (disch := first | decide | omega) only [yfc, yr_so, yr_ss, yfcc, yr_cs]; first | assumption | omega)) only [yck_of, yb_id, yPI_some, yPJ_some, yPA_some, yPV_none, yfc, yr_so, yr_ss, yfcc, yr_cs, ybif_t, yrd_1, yrd_2, yfcl, isC_pos, isC_O, isC_t, isC_c, isC_w, isC_f, isC_I1, isC_01, isC_I2, isC_I3, isC_02, isC_03, isC_n1, isC_n2, isC_n3, isC_r1, isC_r2, isC_r3, isC_np, isC_np1, isC_np2, isC_np3, Bool.true_or, Bool.and_true, Bool.true_and, cond_true, ↓c_181, ↓c_182, ↓c_183, ↓c_184, ↓c_185, ↓c_186, ↓c_187, ↓c_73, ↓c_33, ↓c_23, ↓c_170, ↓c_168, ↓if_pos, ↓if_neg, yl_lt, yl_gt, yl_eq, ↓c_24, ↓c_177]
  exact ⟨ylst_c (fun i i0 i1 => by
    have hp := ypl_r o0 o5 i0 (show i < 1000 by omega)
    rw [(G.2.2.2 c c0 c1 _ hp.1 hp.2).1]; rfl), trivial⟩
end QG
