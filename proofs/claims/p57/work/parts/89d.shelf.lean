/-! ===== the class' answers: shelf 7, judge, status, refusals ===== -/
section QD
variable {d : Nat} {m : ZN} {n N pr : Int} {v : Int → Int} {T : Int → Int → Int}
theorem e_row {K : Int → ZN → Prop} (h : ∀ M2, (∀ a, a ≠ 213 → a ≠ 214 → a ≠ 215 → zr M2 a = zr m a) → zr M2 213 7 = 2 → zr M2 214 7 = 40 → K 1 M2) : zcI (d + 9) 114 [zA 3, zI 7, zI 2, zI 40] m K := by
  refine w_114 ?_
  simp (disch := first | trivial | assumption | omega | exact ynl rfl _ | exact znp_o rfl | rfl | (simp (disch := first | decide | omega) only [yfc, yr_so, yr_ss, yfcc, yr_cs]; first | assumption | omega)) only [yck_of, yb_id, yPI_some, yPJ_some, yPA_some, yPV_none, yfc, yr_so, yr_ss, yfcc, yr_cs, ybif_t, yrd_1, yrd_2, yfcl, ↓c_181, ↓c_182, ↓c_183, ↓c_184, ↓c_185, ↓c_186, ↓c_187, ↓c_73, ↓c_33, ↓c_23, ↓c_170, ↓c_168, ↓if_pos, ↓if_neg, yl_lt, yl_gt, yl_eq, ↓c_78]
  have e1 : znp' 213 7 = true := ynl rfl 7
  have e2 : znp' 214 7 = true := ynl rfl 7
  refine h _ (fun a a1 a2 a3 => ?_) ?_ ?_
  · rw [yfcc a3, yfc a2, yfc a1]
  · rw [yfcc (by decide), yfc (by decide), yr_ss e1]
  · rw [yfcc (by decide), yr_ss e2]
theorem e_set {i x : Int} {K : Int → ZN → Prop} (h1 : zr m 213 7 = 2) (h2 : zr m 214 7 = 40) (i0 : 0 ≤ i) (i1 : i < 40) (x0 : 0 ≤ x) (x1 : x < 60) (h : ∀ M2, (∀ a, a ≠ 215 → zr M2 a = zr m a) → (∀ y, zr M2 215 (280 + y) = if y = i then x else zr m 215 (280 + y)) → K 1 M2) : zcI (d + 9) 115 [zA 3, zI 7, zI i, zJ x] m K := by
  have e3 : ∀ j, znp' 215 j = true := ynl rfl
  refine w_115 ?_
  rw [c_73 (d := d + 7), if_pos (show (0 : Int) ≤ 7 ∧ (7 : Int) ≤ 7 by decide), if_neg (show ¬ (1 : Int) = 0 by decide), c_79 (by decide) (by decide), h1, if_pos (show (2 : Int) < 10 by decide), if_neg (show ¬ (2 : Int) = -1 by decide), if_pos (show (0 : Int) = 0 from rfl), c_82 (d := d + 7) (by decide) (by decide) (by rw [h2]; decide), h2, if_pos (show 0 ≤ i ∧ i < 40 from ⟨i0, i1⟩), if_neg (show ¬ (1 : Int) = 0 by decide), c_85 (d := d + 7) (by decide) (by decide) i0 i1, h1]
  have ef : yfit 2 x = x := by
    unfold yfit
    rw [if_neg (by decide), if_neg (by decide), if_pos rfl]
    exact yb_id (by omega) (by omega)
  rw [ef]
  refine h _ (fun a a1 => by rw [yfc a1]) (fun y => ?_)
  rw [yr_sa (e3 _)]
  by_cases q : y = i
  · rw [if_pos (by omega), if_pos q]
  · rw [if_neg (by omega), if_neg q]
theorem yG_f {m2 : ZN} (G : yG n N pr v T m) (h : ∀ a, a ≠ 213 → a ≠ 214 → a ≠ 215 → zr m2 a = zr m a) : yG n N pr v T m2 := by
  obtain ⟨⟨a1, a2⟩, a3, a4, a5⟩ := G
  unfold yG
  rw [h 4 (by decide) (by decide) (by decide), h 5 (by decide) (by decide) (by decide), h 8 (by decide) (by decide) (by decide)]
  exact ⟨⟨a1, a2⟩, a3, a4, fun c c0 c1 => by rw [h (10 + 4 * c + 1) (by omega) (by omega) (by omega)]; exact a5 c c0 c1⟩
theorem e_judge (G : yG n N pr v T m) {c o k : Int} {K : Int → ZN → Prop} (h1 : zr m 213 7 = 2) (h2 : zr m 214 7 = 40) (c0 : 0 ≤ c) (c1 : c < N) (o0 : 0 ≤ o) (o5 : o ≤ 5) (k0 : 0 ≤ k) (k1 : k ≤ 40) (kc : k ≤ ycnt (yPc T v c) n) (he : ∀ y, 0 ≤ y → y < k → ∀ r, yAt T v n c o y r → zr m 215 (280 + y) = r) (h : ∀ M2, ySc m M2 → K (if k < ycnt (yPc T v c) n then k else -1) M2) : zcI (d + 9) 160 [zA 3, zI c, zI o, zI 7, zI k] m K := by
  have z10 : ¬ (1 : Int) = 0 := by decide
  obtain ⟨n1, n2, n3⟩ := G.2.2.1
  obtain ⟨l1, l2, l3⟩ := G.1.1
  have cr := ycnt_r (yPc T v c) l2
  refine w_160 ?_
  rw [e_170 (d := d + 6) G c0 c1 o0 o5, if_neg z10, c_73 (d := d + 7), if_pos (show (0 : Int) ≤ 7 ∧ (7 : Int) ≤ 7 by decide), if_neg z10, c_181, if_pos (show 0 ≤ k ∧ k ≤ 40 from ⟨k0, k1⟩), if_neg z10, c_80_1 (d := d + 7) (by decide) (by decide) (by rw [h1]; decide) (by rw [h1]; decide), h2, if_neg (show ¬ (40 : Int) < k by omega), if_pos (show (0 : Int) = 0 from rfl), c_24 (d := d + 7) c0 (by omega)]
  refine e_47 (d := d + 5) G c0 c1 o0 o5 (fun M2 sc R => ?_)
  have cc := R.1
  have z215 : zr M2 215 = zr m 215 := sc.fn (fun j => by unfold yscr; omega)
  have hg : ∀ y, 0 ≤ y → y < zr M2 232 1 → 0 ≤ zr M2 233 y ∧ yAt T v n c o y (zr M2 233 y % 100) := fun y y0 y1 => by
    obtain ⟨i, i0, i1, i2, i3⟩ := R.2.2.1 y y0 y1
    have fr := yFc_r G (o := o) i0 i1 o0 o5
    have hx := yRk_p R y0 y1
    rw [i3] at hx ⊢
    rw [fr.2.2]
    exact ⟨fr.1, i0, i1, i2, hx⟩
  refine c_160l (d := d + 8) (g := fun y => zr M2 233 y % 100) (e := fun y => zr m 215 (40 * 7 + y)) (by decide) (by decide) k0 k1 rfl (by omega) (fun y y0 y1 => ⟨(hg y y0 y1).1, rfl⟩) (fun y y0 y1 => by rw [z215]) (fun r hr => ?_)
  show K r M2
  have e : r = if k < ycnt (yPc T v c) n then k else -1 := by
    rcases hr with ⟨r0, r1, r2, r3⟩ | ⟨r2, r3⟩
    · refine absurd ?_ (r3 (by omega))
      exact (he r r0 r1 _ (hg r r0 (by omega)).2).symm
    · rw [r3, cc.2]
  rw [e]
  exact h M2 sc
theorem e_st0 (K : Int → ZN → Prop) : zcI (d + 9) 167 [zA 3, zI 0] m K = K (zr m 4 1) m := by
  refine zcI_eq (w_167 ?_) K
  rw [if_pos rfl]
  exact ⟨rfl, rfl⟩
theorem e_st1 (K : Int → ZN → Prop) : zcI (d + 9) 167 [zA 3, zI 1] m K = K (zr m 8 1) m := by
  refine zcI_eq (w_167 ?_) K
  rw [if_neg (by decide), if_pos rfl]
  exact ⟨rfl, rfl⟩
theorem e_st5 (K : Int → ZN → Prop) : zcI (d + 9) 167 [zA 3, zI 5] m K = K (zr m 216 1) m := by
  refine zcI_eq (w_167 ?_) K
  rw [if_neg (by decide), if_neg (by decide), if_neg (by decide), if_neg (by decide), if_neg (by decide), if_pos rfl]
  exact ⟨rfl, rfl⟩
theorem e_st6 (K : Int → ZN → Prop) : zcI (d + 9) 167 [zA 3, zI 6] m K = K (zr m 4 3) m := by
  refine zcI_eq (w_167 ?_) K
  rw [if_neg (by decide), if_neg (by decide), if_neg (by decide), if_neg (by decide), if_neg (by decide), if_neg (by decide), if_pos rfl]
  exact ⟨rfl, rfl⟩
theorem e_st3 (G : yG n N pr v T m) {K : Int → ZN → Prop} (h : ∀ M2 r, ySc m M2 → r ≤ n → K r M2) : zcI (d + 9) 167 [zA 3, zI 3] m K := by
  obtain ⟨l1, l2, l3⟩ := G.1.1
  refine w_167 ?_
  rw [if_neg (by decide), if_neg (by decide), if_neg (by decide), if_pos rfl]
  refine c_178 (d := d + 6) (by omega) (by omega) (yG_v G) (fun M2 f => h M2 _ (fun a j q => by rw [f a (by unfold yscr at q; omega)]) ?_)
  have := ycnt_r (yfst (fun i => yk3 (zr m 5) i 0)) (show 0 ≤ zr m 4 1 by omega)
  omega
theorem e_st4 (G : yG n N pr v T m) {K : Int → ZN → Prop} (h : ∀ r, r ≤ 3 * n → K r m) : zcI (d + 9) 167 [zA 3, zI 4] m K := by
  obtain ⟨l1, l2, l3⟩ := G.1.1
  refine w_167 ?_
  rw [if_neg (by decide), if_neg (by decide), if_neg (by decide), if_neg (by decide), if_pos rfl, c_42 (d := d + 7) (by decide) (by decide) (by omega) (by omega), c_42 (d := d + 7) (by decide) (by decide) (by omega) (by omega), c_42 (d := d + 7) (by decide) (by decide) (by omega) (by omega)]
  have a0 := ycnt_r (fun n => decide (zr m 5 (3 * n + 0) = 0)) (show 0 ≤ zr m 4 1 by omega)
  have a1 := ycnt_r (fun n => decide (zr m 5 (3 * n + 1) = 0)) (show 0 ≤ zr m 4 1 by omega)
  have a2 := ycnt_r (fun n => decide (zr m 5 (3 * n + 2) = 0)) (show 0 ≤ zr m 4 1 by omega)
  refine h _ ?_
  rw [yb_id (by rw [yb_id (by omega) (by omega)]; omega) (by rw [yb_id (by omega) (by omega)]; omega), yb_id (by omega) (by omega)]
  omega
theorem e_st12 {k : Int} (k0 : 12 ≤ k) (k1 : k ≤ 16) (K : Int → ZN → Prop) : zcI (d + 9) 167 [zA 3, zI k] m K = K (zr m 234 (k - 12)) m := by
  refine zcI_eq (w_167 ?_) K
  rw [if_neg (by omega), if_neg (by omega), if_neg (by omega), if_neg (by omega), if_neg (by omega), if_neg (by omega), if_neg (by omega), if_neg (by omega), c_181, if_pos (show 12 ≤ k ∧ k ≤ 16 from ⟨k0, k1⟩), if_neg (show ¬ (1 : Int) = 0 by decide), show zb (k - 12) = k - 12 from yb_id (by omega) (by omega), yck_of (by omega)]
  exact ⟨rfl, rfl⟩
theorem e_lineOf (G : yG n N pr v T m) (K : Int → ZN → Prop) : zcI (d + 9) 139 [zA 3, zI (-1), zI 0] m K = K (-102) (zsn m 234 0 (zb (zr m 234 0 + 1))) := by
  obtain ⟨l1, l2, l3⟩ := G.1.1
  refine zcI_eq (w_139 ?_) K
  rw [c_33 (d := d + 7) (by omega) (by omega), if_neg (show ¬ (0 ≤ (-1 : Int) ∧ (-1 : Int) < zr m 4 1) by omega), if_pos (show (0 : Int) = 0 from rfl), c_168 (by decide) (by decide)]
  exact ⟨rfl, rfl⟩
theorem e_keysX (G : yG n N pr v T m) (K : Int → ZN → Prop) : zcI (d + 9) 142 [zA 3, zI 24, zI 0] m K = K (-102) (zsn m 234 0 (zb (zr m 234 0 + 1))) := by
  obtain ⟨n1, n2, n3⟩ := G.2.2.1
  refine zcI_eq (w_142 ?_) K
  rw [c_23 (d := d + 7) (by omega) (by omega), if_neg (show ¬ (0 ≤ (24 : Int) ∧ (24 : Int) < zr m 8 1) by omega), if_pos (show (0 : Int) = 0 from rfl), c_168 (by decide) (by decide)]
  exact ⟨rfl, rfl⟩
end QD
