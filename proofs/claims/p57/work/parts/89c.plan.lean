/-! ===== the class' answers: same, plan, of, best ===== -/
section QC
variable {d : Nat} {m : ZN} {n N pr : Int} {v : Int → Int} {T : Int → Int → Int}
theorem e_same (G : yG n N pr v T m) {c : Int} {K : Int → ZN → Prop} (c0 : 0 ≤ c) (c1 : c < N) (h : ∀ r, 0 ≤ r → r ≤ c → K r m) : zcI (d + 9) 158 [zA 3, zI c] m K := by
  obtain ⟨n1, n2, n3⟩ := G.2.2.1
  have q1 : 0 ≤ c ∧ c < zr m 8 1 := ⟨c0, by omega⟩
  refine w_158 ?_
  simp (disch := first | trivial | assumption | omega | exact ynl rfl _ | exact znp_o rfl | rfl | (simp (disch := first | decide | omega) only [yfc, yr_so, yr_ss, yfcc, yr_cs]; first | assumption | omega)) only [yck_of, yb_id, yPI_some, yPJ_some, yPA_some, yPV_none, yfc, yr_so, yr_ss, yfcc, yr_cs, ybif_t, yrd_1, yrd_2, yfcl, ↓c_181, ↓c_182, ↓c_183, ↓c_184, ↓c_185, ↓c_186, ↓c_187, ↓c_73, ↓c_33, ↓c_23, ↓c_170, ↓c_168, ↓if_pos, ↓if_neg, yl_lt, yl_gt, yl_eq]
  refine yfor (fun i => zwpN (d + 9) 158 20 [some (zA 3), some (zI c), some (zI i)] [] m (zPI K)) 0 c c0 (fun i i0 i1 hW => ?_) ?_
  · refine w_158_20 ?_
    have hi := isC_l i0 (show i < 25 by omega)
    have hc := isC_l c0 (show c < 25 by omega)
    simp (disch := first | trivial | assumption | omega | exact ynl rfl _ | exact znp_o rfl | rfl | (simp (disch := first | decide | omega) only [yfc, yr_so, yr_ss, yfcc, yr_cs]; first | assumption | omega)) only [yck_of, yb_id, yPI_some, yPJ_some, yPA_some, yPV_none, yfc, yr_so, yr_ss, yfcc, yr_cs, ybif_t, yrd_1, yrd_2, yfcl, isC_pos, isC_O, isC_t, isC_c, isC_w, isC_f, isC_I1, isC_01, isC_I2, isC_I3, isC_02, isC_03, isC_n1, isC_n2, isC_n3, isC_r1, isC_r2, isC_r3, isC_np, isC_np1, isC_np2, isC_np3, Bool.true_or, Bool.and_true, Bool.true_and, cond_true, ↓c_24, ↓c_20, ↓if_pos]
    split
    · exact h i i0 (by omega)
    · exact hW
  · refine w_158_20 ?_
    rw [if_neg (by omega)]
    exact h c c0 (Int.le_refl _)
theorem e_planN (G : yG n N pr v T m) {c o x : Int} {K : Int → ZN → Prop} (c0 : 0 ≤ c) (c1 : c < N) (o0 : 0 ≤ o) (o5 : o ≤ 5) (x1 : 1 ≤ x) (x40 : x ≤ 40) (h : ∀ M2, ySc m M2 → K (min (yrc (yTo T c o) 1000) x) M2) : zcI (d + 9) 147 [zA 3, zI c, zI o, zI x, zI (-1)] m K := by
  have z10 : ¬ (1 : Int) = 0 := by decide
  obtain ⟨n1, n2, n3⟩ := G.2.2.1
  refine w_147 ?_
  rw [e_170 (d := d + 6) G c0 c1 o0 o5, if_neg z10, c_181, if_pos (show 1 ≤ x ∧ x ≤ 40 from ⟨x1, x40⟩), if_neg z10, c_24 (d := d + 7) c0 (by omega)]
  refine e_91 (d := d + 6) G c0 c1 o0 o5 (fun M2 sc R => ?_)
  refine w_93 ?_
  rw [R.1, if_pos rfl]
  exact h M2 sc
/-- the gaps in the order of their widths -/
def yGo (t a : Int → Int) : Prop := 1 ≤ yrc t 1000 → yOd (ywd t) a (yrc t 1000 - 1) (fun _ => true) (yrc t 1000 - 1)
/-- the gaps that x runs read over -/
def yGx (t a : Int → Int) (x : Int) : Int → Prop := yFj a (yrc t 1000 - min (yrc t 1000) x)
theorem e_mark (G : yG n N pr v T m) {c o x : Int} {K : ZN → Prop} (c0 : 0 ≤ c) (c1 : c < N) (o0 : 0 ≤ o) (o5 : o ≤ 5) (x1 : 1 ≤ x) (x40 : x ≤ 40) (h : ∀ M3 a, ySc m M3 → yRn (yTo T c o) M3 1000 → yGo (yTo T c o) a → (∀ g, 0 ≤ g → g < yrc (yTo T c o) 1000 - 1 → (zr M3 230 g = 0 ∧ ¬ yGx (yTo T c o) a x g) ∨ (zr M3 230 g = 1 ∧ yGx (yTo T c o) a x g)) → K M3) : zcV (d + 2) 91 [zA 222, zA (10 + 4 * c), zI o] m (fun n13 => zcV (d + 2) 96 [zA 222, zI x] n13 K) := by
  refine e_91 G c0 c1 o0 o5 (fun M2 sc R => ?_)
  have hr := yrc_r (yTo T c o) 1000
  refine c_96 (d := d) (t := yTo T c o) x1 x40 R.1 R.2.2 (fun M3 f R3 R4 => ?_)
  have sM : ySc m M3 := sc.trans (fun a j q => by rw [f a (by unfold yscr at q; omega) (by unfold yscr at q; omega) (by unfold yscr at q; omega) (by unfold yscr at q; omega)])
  refine h M3 (zr M3 227) sM (yRn_f R (fun b b0 b1 => f b (by omega) (by omega) (by omega) (by omega))) R3 (fun g g0 g1 => ?_)
  have := R4 g g0 g1
  rcases this.1 with h | h
  · refine Or.inl ⟨h, fun ⟨y, y0, y1, y2⟩ => ?_⟩
    have := this.2.2 ⟨y, y0, by omega, y2⟩
    omega
  · obtain ⟨y, y0, y1, y2⟩ := this.2.1 h
    exact Or.inr ⟨h, y, y0, by omega, y2⟩
/-- lines read by x runs -/
noncomputable def yLr (t a : Int → Int) (v : Int → Int) (n o x : Int) : Int := ycnt (fun l => ybo (yRd t (yGx t a x) (yk3 v l o))) n
theorem e_101 (G : yG n N pr v T m) {c o x : Int} {a : Int → Int} (o0 : 0 ≤ o) (o5 : o ≤ 5) (R : yRn (yTo T c o) m 1000) (hS : ∀ g, 0 ≤ g → g < yrc (yTo T c o) 1000 - 1 → (zr m 230 g = 0 ∧ ¬ yGx (yTo T c o) a x g) ∨ (zr m 230 g = 1 ∧ yGx (yTo T c o) a x g)) (K : Int → ZN → Prop) : zcI (d + 3) 101 [zA 222, zA 4, zI o] m K = K (yLr (yTo T c o) a v n o x) m := by
  obtain ⟨l1, l2, l3⟩ := G.1.1
  rw [c_101 (d := d) R hS o0 o5 (by omega) (by omega) (yG_v G)]
  congr 1
  unfold yLr
  rw [l1]
  exact ycnt_c (fun l a0 a1 => by rw [(yG_k G a0 a1 o0 o5).1])
theorem e_of0 (G : yG n N pr v T m) {c o x : Int} {K : Int → ZN → Prop} (c0 : 0 ≤ c) (c1 : c < N) (o0 : 0 ≤ o) (o5 : o ≤ 5) (x1 : 1 ≤ x) (x40 : x ≤ 40) (h : ∀ M3 a, ySc m M3 → yGo (yTo T c o) a → K (ycnt (fun k => ybo (yRd (yTo T c o) (yGx (yTo T c o) a x) k) && !decide (yTo T c o k = 1)) 1000) M3) : zcI (d + 9) 148 [zA 3, zI c, zI o, zI x, zI 0] m K := by
  have z10 : ¬ (1 : Int) = 0 := by decide
  obtain ⟨n1, n2, n3⟩ := G.2.2.1
  have hA := isC_l c0 (show c < 25 by omega)
  refine w_148 ?_
  rw [e_170 (d := d + 6) G c0 c1 o0 o5, if_neg z10, c_181, if_pos (show 1 ≤ x ∧ x ≤ 40 from ⟨x1, x40⟩), if_neg z10, c_181, if_pos (show (0 : Int) ≤ 0 ∧ (0 : Int) ≤ 4 by decide), if_neg z10, c_24 (d := d + 7) c0 (by omega)]
  simp only [isC_pos hA, Bool.and_true, cond_true]
  refine e_mark (d := d + 6) G c0 c1 o0 o5 x1 x40 (fun M3 a s3 R3 Ro hS => ?_)
  rw [if_pos trivial, c_100 (d := d + 7) R3 hS]
  exact h M3 a s3 Ro
theorem e_of1 (G : yG n N pr v T m) {c o x : Int} {K : Int → ZN → Prop} (c0 : 0 ≤ c) (c1 : c < N) (o0 : 0 ≤ o) (o5 : o ≤ 5) (x1 : 1 ≤ x) (x40 : x ≤ 40) (h : ∀ M3 a, ySc m M3 → yGo (yTo T c o) a → K (yLr (yTo T c o) a v n o x) M3) : zcI (d + 9) 148 [zA 3, zI c, zI o, zI x, zI 1] m K := by
  have z10 : ¬ (1 : Int) = 0 := by decide
  obtain ⟨n1, n2, n3⟩ := G.2.2.1
  have hA := isC_l c0 (show c < 25 by omega)
  refine w_148 ?_
  rw [e_170 (d := d + 6) G c0 c1 o0 o5, if_neg z10, c_181, if_pos (show 1 ≤ x ∧ x ≤ 40 from ⟨x1, x40⟩), if_neg z10, c_181, if_pos (show (0 : Int) ≤ 1 ∧ (1 : Int) ≤ 4 by decide), if_neg z10, c_24 (d := d + 7) c0 (by omega)]
  simp only [isC_pos hA, Bool.and_true, cond_true]
  refine e_mark (d := d + 6) G c0 c1 o0 o5 x1 x40 (fun M3 a s3 R3 Ro hS => ?_)
  rw [if_neg (by decide), if_pos trivial, e_101 (d := d + 5) (yG_Sc G s3) o0 o5 R3 hS]
  exact h M3 a s3 Ro
theorem e_of2 (G : yG n N pr v T m) {c o x : Int} {K : Int → ZN → Prop} (c0 : 0 ≤ c) (c1 : c < N) (o0 : 0 ≤ o) (o5 : o ≤ 5) (x1 : 1 ≤ x) (x40 : x ≤ 40) (h : ∀ M3 a, ySc m M3 → yGo (yTo T c o) a → K (yLr (yTo T c o) a v n o x - ycnt (yPc T v c) n) M3) : zcI (d + 9) 148 [zA 3, zI c, zI o, zI x, zI 2] m K := by
  have z10 : ¬ (1 : Int) = 0 := by decide
  obtain ⟨n1, n2, n3⟩ := G.2.2.1
  have hA := isC_l c0 (show c < 25 by omega)
  refine w_148 ?_
  rw [e_170 (d := d + 6) G c0 c1 o0 o5, if_neg z10, c_181, if_pos (show 1 ≤ x ∧ x ≤ 40 from ⟨x1, x40⟩), if_neg z10, c_181, if_pos (show (0 : Int) ≤ 2 ∧ (2 : Int) ≤ 4 by decide), if_neg z10, c_24 (d := d + 7) c0 (by omega)]
  simp only [isC_pos hA, Bool.and_true, cond_true]
  refine e_mark (d := d + 6) G c0 c1 o0 o5 x1 x40 (fun M3 a s3 R3 Ro hS => ?_)
  have G3 := yG_Sc G s3
  obtain ⟨l1, l2, l3⟩ := G3.1.1
  rw [if_neg (by decide), if_neg (by decide), if_pos trivial, e_101 (d := d + 5) G3 o0 o5 R3 hS, c_41 (d := d + 5) hA (by omega) (by omega) (yG_v G3)]
  have e1 : ycnt (fun l => decide (yTw (zr M3 (10 + 4 * c + 1)) (yk3 (zr M3 5) l 0) = 1)) (zr M3 4 1) = ycnt (yPc T v c) n := by
    rw [l1]
    exact ycnt_c (fun l a0 a1 => by
      obtain ⟨k1, k2, k3⟩ := yG_k G3 (o := 0) a0 a1 (by decide) (by decide)
      show _ = decide (T c (yk3 v l 0) = 1)
      rw [k1, (G3.2.2.2 c c0 c1 _ k2 k3).1])
  have r1 := ycnt_r (fun l => ybo (yRd (yTo T c o) (yGx (yTo T c o) a x) (yk3 v l o))) l2
  have r2 := ycnt_r (yPc T v c) l2
  rw [e1, show zb (yLr (yTo T c o) a v n o x - ycnt (yPc T v c) n) = yLr (yTo T c o) a v n o x - ycnt (yPc T v c) n from yb_id (by unfold yLr; omega) (by unfold yLr; omega)]
  exact h M3 a s3 Ro
theorem e_of3 (G : yG n N pr v T m) {c o x : Int} {K : Int → ZN → Prop} (c0 : 0 ≤ c) (c1 : c < N) (o0 : 0 ≤ o) (o5 : o ≤ 5) (x1 : 1 ≤ x) (x40 : x ≤ 40) (h : ∀ M3 a, ySc m M3 → yGo (yTo T c o) a → K (yCs (yTo T c o) a (fun l => yk3 v l o) n pr x) M3) : zcI (d + 9) 148 [zA 3, zI c, zI o, zI x, zI 3] m K := by
  have z10 : ¬ (1 : Int) = 0 := by decide
  obtain ⟨n1, n2, n3⟩ := G.2.2.1
  have hA := isC_l c0 (show c < 25 by omega)
  have hr := yrc_r (yTo T c o) 1000
  refine w_148 ?_
  rw [e_170 (d := d + 6) G c0 c1 o0 o5, if_neg z10, c_181, if_pos (show 1 ≤ x ∧ x ≤ 40 from ⟨x1, x40⟩), if_neg z10, c_181, if_pos (show (0 : Int) ≤ 3 ∧ (3 : Int) ≤ 4 by decide), if_neg z10, c_24 (d := d + 7) c0 (by omega)]
  simp only [isC_pos hA, Bool.and_true, cond_true]
  refine e_mark (d := d + 6) G c0 c1 o0 o5 x1 x40 (fun M3 a s3 R3 Ro hS => ?_)
  have G3 := yG_Sc G s3
  obtain ⟨l1, l2, l3⟩ := G3.1.1
  obtain ⟨p1, p2, p3⟩ := G3.2.1
  rw [if_neg (by decide), if_neg (by decide), if_neg (by decide), if_pos trivial]
  refine w_93 ?_
  rw [R3.1, e_101 (d := d + 5) G3 o0 o5 R3 hS, p1]
  have r1 := ycnt_r (fun l => ybo (yRd (yTo T c o) (yGx (yTo T c o) a x) (yk3 v l o))) l2
  have q1 : 0 ≤ pr * min (yrc (yTo T c o) 1000) x ∧ pr * min (yrc (yTo T c o) 1000) x ≤ 800 := by
    have h1 : 0 ≤ min (yrc (yTo T c o) 1000) x ∧ min (yrc (yTo T c o) 1000) x ≤ 40 := by omega
    exact ⟨Int.mul_nonneg p2 h1.1, Int.le_trans (Int.mul_le_mul p3 h1.2 h1.1 (by decide)) (by decide)⟩
  have e := h M3 a s3 Ro
  have e2 : yCs (yTo T c o) a (fun l => yk3 v l o) n pr x = pr * min (yrc (yTo T c o) 1000) x + yLr (yTo T c o) a v n o x := by
    unfold yCs yRj yLr yGx
    rw [Int.min_comm]
  rw [e2] at e
  rw [show zb (pr * min (yrc (yTo T c o) 1000) x) = pr * min (yrc (yTo T c o) 1000) x from yb_id (by omega) (by omega), show zb (pr * min (yrc (yTo T c o) 1000) x + yLr (yTo T c o) a v n o x) = pr * min (yrc (yTo T c o) 1000) x + yLr (yTo T c o) a v n o x from yb_id (by unfold yLr; omega) (by unfold yLr; omega)]
  exact e
theorem e_best1 (G : yG n N pr v T m) {c o : Int} {K : Int → ZN → Prop} (c0 : 0 ≤ c) (c1 : c < N) (o0 : 0 ≤ o) (o5 : o ≤ 5) (h : ∀ M3 a b, ySc m M3 → yGo (yTo T c o) a → yBs (yCs (yTo T c o) a (fun l => yk3 v l o) n pr) 1 b → K (yCs (yTo T c o) a (fun l => yk3 v l o) n pr b) M3) : zcI (d + 9) 149 [zA 3, zI c, zI o, zI 1] m K := by
  have z10 : ¬ (1 : Int) = 0 := by decide
  obtain ⟨n1, n2, n3⟩ := G.2.2.1
  refine w_149 ?_
  rw [e_170 (d := d + 6) G c0 c1 o0 o5, if_neg z10, c_181, if_pos (show (0 : Int) ≤ 1 ∧ (1 : Int) ≤ 1 by decide), if_neg z10, c_24 (d := d + 7) c0 (by omega)]
  refine e_91 (d := d + 6) G c0 c1 o0 o5 (fun M2 sc R => ?_)
  have G2 := yG_Sc G sc
  obtain ⟨l1, l2, l3⟩ := G2.1.1
  obtain ⟨p1, p2, p3⟩ := G2.2.1
  refine c_102 (d := d + 5) R o0 o5 (by omega) (by omega) (by omega) (by omega) (yG_v G2) (fun M3 a b f Ro hb h10 h11 => ?_)
  rw [if_neg (by decide), h11]
  have ec : yCs (yTo T c o) a (fun l => yk3 (zr M2 5) l o) (zr M2 4 1) (zr M2 4 2) = yCs (yTo T c o) a (fun l => yk3 v l o) n pr := funext fun x => by
    unfold yCs yRj
    rw [l1, p1]
    congr 1
    exact ycnt_c (fun l a0 a1 => by
      show ybo (yRd _ _ (yk3 (zr M2 5) l o)) = ybo (yRd _ _ (yk3 v l o))
      rw [(yG_k G2 a0 a1 o0 o5).1])
  rw [ec] at hb ⊢
  exact h M3 a b (sc.trans (fun a j q => by rw [f a (by unfold yscr at q; omega) (by unfold yscr at q; omega)])) Ro hb
end QC
