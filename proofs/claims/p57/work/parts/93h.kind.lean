/-! ===== the law's isKind ===== -/
/-- what a condition's kind says of its truths -/
def yKd (N : Int) (T : Int → Int → Int) (m : ZN) : Prop := ∀ c, 0 ≤ c → c < N → ∃ k x y, zr m (10 + 4 * c) 0 = k ∧ zr m (10 + 4 * c) 2 = x ∧ zr m (10 + 4 * c) 3 = y ∧
  ((k ≤ 5 → x = -1 ∧ y = -1) ∧ k ≤ 9 ∧ (5 < k → 0 ≤ x ∧ x < c) ∧ (k = 6 ∨ k = 7 → 0 ≤ y ∧ y < c) ∧ (k = 6 ∨ k = 7 → ∀ p, 0 ≤ p → p < 1000 → T c p = yjoin k (T x p) (T y p)) ∧ (k = 8 ∨ k = 9 → ∀ p, 0 ≤ p → p < 1000 → T c p = yjoin k (T x p) (T x p)) ∧ (k = 2 → ∃ a, 0 ≤ a ∧ a ≤ 2 ∧ ∀ p, 0 ≤ p → p < 1000 → T c p = if ydig p a = 0 then 1 else 0))
theorem ydg_n : ∀ a : Nat, a < 3 → ycnt (fun p => decide ((if ydig p (a : Int) = 0 then (1 : Int) else 0) = 1)) 1000 = 100 := by decide +kernel
section KA
variable {d : Nat} {m : ZN} {n N pr : Int} {v : Int → Int} {T : Int → Int → Int} {L : Int} {xs : Int → Int}
theorem e_cond0 (G : yG n N pr v T m) {c : Int} (c0 : 0 ≤ c) (c1 : c < N) (K : Int → ZN → Prop) : zcI (d + 9) 138 [zA 3, zI c, zI 0] m K = K (zr m (10 + 4 * c) 0) m := by
  obtain ⟨n1, n2, n3⟩ := G.2.2.1
  have q1 : 0 ≤ c ∧ c < zr m 8 1 := ⟨c0, by omega⟩
  have hc := isC_l q1.1 (show c < 25 by omega)
  have f0 : zrd m (10 + 4 * c) 0 = zr m (10 + 4 * c) 0 := isC_f hc (Or.inl (by decide))
  refine zcI_eq (w_138 ?_) K
  simp (disch := first | trivial | assumption | omega | exact ynl rfl _ | exact znp_o rfl | rfl | (simp (disch := first | decide | omega) only [yfc, yr_so, yr_ss, yfcc, yr_cs]; first | assumption | omega)) only [yck_of, yb_id, yPI_some, yPJ_some, yPA_some, yPV_none, yfc, yr_so, yr_ss, yfcc, yr_cs, ybif_t, yrd_1, yrd_2, yfcl, isC_pos, isC_O, isC_t, isC_c, isC_w, isC_f, isC_I1, isC_01, isC_I2, isC_I3, isC_02, isC_03, isC_n1, isC_n2, isC_n3, isC_r1, isC_r2, isC_r3, isC_np, isC_np1, isC_np2, isC_np3, Bool.true_or, Bool.and_true, Bool.true_and, cond_true, ↓c_181, ↓c_182, ↓c_183, ↓c_184, ↓c_185, ↓c_186, ↓c_187, ↓c_73, ↓c_33, ↓c_23, ↓c_170, ↓c_168, ↓if_pos, ↓if_neg, yl_lt, yl_gt, yl_eq, ↓c_24]
  exact ⟨trivial, trivial⟩
theorem e_cond1 (G : yG n N pr v T m) {c : Int} (c0 : 0 ≤ c) (c1 : c < N) (K : Int → ZN → Prop) : zcI (d + 9) 138 [zA 3, zI c, zI 1] m K = K (zr m (10 + 4 * c) 2) m := by
  obtain ⟨n1, n2, n3⟩ := G.2.2.1
  have q1 : 0 ≤ c ∧ c < zr m 8 1 := ⟨c0, by omega⟩
  have hc := isC_l q1.1 (show c < 25 by omega)
  have f0 : zrd m (10 + 4 * c) 2 = zr m (10 + 4 * c) 2 := isC_f hc (Or.inl (by decide))
  refine zcI_eq (w_138 ?_) K
  simp (disch := first | trivial | assumption | omega | exact ynl rfl _ | exact znp_o rfl | rfl | (simp (disch := first | decide | omega) only [yfc, yr_so, yr_ss, yfcc, yr_cs]; first | assumption | omega)) only [yck_of, yb_id, yPI_some, yPJ_some, yPA_some, yPV_none, yfc, yr_so, yr_ss, yfcc, yr_cs, ybif_t, yrd_1, yrd_2, yfcl, isC_pos, isC_O, isC_t, isC_c, isC_w, isC_f, isC_I1, isC_01, isC_I2, isC_I3, isC_02, isC_03, isC_n1, isC_n2, isC_n3, isC_r1, isC_r2, isC_r3, isC_np, isC_np1, isC_np2, isC_np3, Bool.true_or, Bool.and_true, Bool.true_and, cond_true, ↓c_181, ↓c_182, ↓c_183, ↓c_184, ↓c_185, ↓c_186, ↓c_187, ↓c_73, ↓c_33, ↓c_23, ↓c_170, ↓c_168, ↓if_pos, ↓if_neg, yl_lt, yl_gt, yl_eq, ↓c_24]
  exact ⟨trivial, trivial⟩
theorem e_cond2 (G : yG n N pr v T m) {c : Int} (c0 : 0 ≤ c) (c1 : c < N) (K : Int → ZN → Prop) : zcI (d + 9) 138 [zA 3, zI c, zI 2] m K = K (zr m (10 + 4 * c) 3) m := by
  obtain ⟨n1, n2, n3⟩ := G.2.2.1
  have q1 : 0 ≤ c ∧ c < zr m 8 1 := ⟨c0, by omega⟩
  have hc := isC_l q1.1 (show c < 25 by omega)
  have f0 : zrd m (10 + 4 * c) 3 = zr m (10 + 4 * c) 3 := isC_f hc (Or.inl (by decide))
  refine zcI_eq (w_138 ?_) K
  simp (disch := first | trivial | assumption | omega | exact ynl rfl _ | exact znp_o rfl | rfl | (simp (disch := first | decide | omega) only [yfc, yr_so, yr_ss, yfcc, yr_cs]; first | assumption | omega)) only [yck_of, yb_id, yPI_some, yPJ_some, yPA_some, yPV_none, yfc, yr_so, yr_ss, yfcc, yr_cs, ybif_t, yrd_1, yrd_2, yfcl, isC_pos, isC_O, isC_t, isC_c, isC_w, isC_f, isC_I1, isC_01, isC_I2, isC_I3, isC_02, isC_03, isC_n1, isC_n2, isC_n3, isC_r1, isC_r2, isC_r3, isC_np, isC_np1, isC_np2, isC_np3, Bool.true_or, Bool.and_true, Bool.true_and, cond_true, ↓c_181, ↓c_182, ↓c_183, ↓c_184, ↓c_185, ↓c_186, ↓c_187, ↓c_73, ↓c_33, ↓c_23, ↓c_170, ↓c_168, ↓if_pos, ↓if_neg, yl_lt, yl_gt, yl_eq, ↓c_24]
  exact ⟨trivial, trivial⟩
theorem yfnd_n {p : Int → Bool} (h : ∀ i, 0 ≤ i → i < 1000 → p i = false) : yfnd p 0 1000 = -1 := by
  rcases yfnd_r p (a := 0) (n := 1000) (by decide) (by decide) with ⟨g, -⟩ | ⟨g1, g2, g3, -⟩
  · exact g
  · rw [h _ g1 g2] at g3
    cases g3
theorem f_kind {c : Int} {K : Int → ZN → Prop} (G : yG n N pr v T m) (Kd : yKd N T m) (c0 : 0 ≤ c) (c1 : c < N) (h : K 1 m) : zcI (d + 10) 327 [zA 3, zI c] m K := by
  obtain ⟨k, x, y, e0, e2, e3, g1, g2, g3, g4, g5, g6, g7⟩ := Kd c c0 c1
  have y1 : zck ((0 : Int) ≤ 1 ∧ (1 : Int) ≤ 1) (K 1 m) := ⟨by decide, h⟩
  have hT := G.2.2.2
  refine w_327 ?_
  rw [e_cond0 (d := d) G c0 c1, e_cond1 (d := d) G c0 c1, e_cond2 (d := d) G c0 c1, e0, e2, e3]
  by_cases k2 : k = 2
  · obtain ⟨a, a0, a2, ha⟩ := g7 k2
    have hn := ydg_n a.toNat (by omega)
    rw [Int.toNat_of_nonneg a0] at hn
    have s1 : ycnt (fun p => decide (T c p = 1)) 1000 = 100 := by
      rw [← hn]
      exact ycnt_c (fun i i0 i1 => by rw [ha i i0 i1])
    have s2 : ycnt (fun p => decide (T c p = 2)) 1000 = 0 := (ycnt_z 1000).2 (fun i i0 i1 => decide_eq_false (by rw [ha i i0 i1]; split <;> decide))
    rw [if_pos k2, e_keys (d := d) G c0 c1 (by decide) (by decide), if_pos s1, e_keys (d := d) G c0 c1 (by decide) (by decide), if_pos s2]
    exact y1
  · rw [if_neg k2]
    by_cases k5 : k ≤ 5
    · obtain ⟨x1, x2⟩ := g1 k5
      by_cases k3 : k = 3
      · rw [if_pos k3, if_pos x1, if_pos x2]; exact y1
      · rw [if_neg k3]
        by_cases k4 : k = 4
        · rw [if_pos k4, if_pos x1, if_pos x2]; exact y1
        · rw [if_neg k4]
          by_cases k55 : k = 5
          · rw [if_pos k55, if_pos x1, if_pos x2]; exact y1
          · rw [if_neg k55, if_neg (by omega), if_neg (by omega), if_neg (by omega), if_neg (by omega), if_pos x1, if_pos x2]; exact y1
    · obtain ⟨x0, xc⟩ := g3 (by omega)
      rw [if_neg (by omega), if_neg (by omega), if_neg (by omega)]
      by_cases k6 : k = 6
      · obtain ⟨yy0, yc⟩ := g4 (Or.inl k6)
        have ht := g5 (Or.inl k6)
        have i1 : yfnd (fun p => decide (T c p = 1 ∧ T x p ≠ 1)) 0 1000 = -1 := yfnd_n (fun i i0 i1 => decide_eq_false (fun z => by
          rw [ht i i0 i1, k6] at z
          have a := hT x x0 (by omega) i i0 i1
          have b := hT y yy0 (by omega) i i0 i1
          unfold yjoin at z
          rw [if_pos rfl] at z
          revert z
          split
          · intro z; omega
          · split
            · intro z; omega
            · intro z; omega))
        have i2 : yfnd (fun p => decide (T c p = 1 ∧ T y p ≠ 1)) 0 1000 = -1 := yfnd_n (fun i i0 i1 => decide_eq_false (fun z => by
          rw [ht i i0 i1, k6] at z
          have a := hT x x0 (by omega) i i0 i1
          have b := hT y yy0 (by omega) i i0 i1
          unfold yjoin at z
          rw [if_pos rfl] at z
          revert z
          split
          · intro z; omega
          · split
            · intro z; omega
            · intro z; omega))
        rw [if_pos k6, e_implies (d := d) G c0 c1 x0 (by omega), if_pos i1, e_implies (d := d) G c0 c1 yy0 (by omega), if_pos i2]
        exact y1
      · rw [if_neg k6]
        by_cases k7 : k = 7
        · obtain ⟨yy0, yc⟩ := g4 (Or.inr k7)
          have ht := g5 (Or.inr k7)
          have i1 : yfnd (fun p => decide (T x p = 1 ∧ T c p ≠ 1)) 0 1000 = -1 := yfnd_n (fun i i0 i1 => decide_eq_false (fun z => by
            rw [ht i i0 i1, k7] at z
            unfold yjoin at z
            rw [if_neg (by decide), if_pos rfl, if_pos (Or.inl z.1)] at z
            exact z.2 rfl))
          have i2 : yfnd (fun p => decide (T y p = 1 ∧ T c p ≠ 1)) 0 1000 = -1 := yfnd_n (fun i i0 i1 => decide_eq_false (fun z => by
            rw [ht i i0 i1, k7] at z
            unfold yjoin at z
            rw [if_neg (by decide), if_pos rfl, if_pos (Or.inr z.1)] at z
            exact z.2 rfl))
          rw [if_pos k7, e_implies (d := d) G x0 (by omega) c0 c1, if_pos i1, e_implies (d := d) G yy0 (by omega) c0 c1, if_pos i2]
          exact y1
        · rw [if_neg k7]
          have op : ∀ a t : Int, 0 ≤ a → a ≤ 2 → (t = 0 ∨ t = 1 ∨ t = 2) → (yopp a = t ↔ a = if t = 0 then 1 else if t = 1 then 0 else 2) := fun a t a0 a2 ht => by
            have ha : a = 0 ∨ a = 1 ∨ a = 2 := by omega
            rcases ha with rfl | rfl | rfl <;> rcases ht with rfl | rfl | rfl <;> decide
          by_cases k8 : k = 8
          · have ht := g6 (Or.inl k8)
            have hj : ∀ p, 0 ≤ p → p < 1000 → T c p = yopp (T x p) := fun p p0 p1 => by
              rw [ht p p0 p1, k8]
              unfold yjoin
              rw [if_neg (by decide), if_neg (by decide), if_pos rfl]
            have cn : ∀ t u : Int, (t = 0 ∨ t = 1 ∨ t = 2) → (u = if t = 0 then 1 else if t = 1 then 0 else 2) → ∀ p, 0 ≤ p → p < 1000 → decide (T c p = t) = decide (T x p = u) := fun t u h1 h2 p p0 p1 => by
              have a := hT x x0 (by omega) p p0 p1
              have := op (T x p) t a.2.1 a.2.2 h1
              rw [hj p p0 p1, h2]
              exact decide_eq_decide.2 this
            have s1 : ycnt (fun p => decide (T c p = 0)) 1000 = ycnt (fun p => decide (T x p = 1)) 1000 := ycnt_c (fun i i0 i1 => cn 0 1 (by decide) (by decide) i i0 i1)
            have s2 : ycnt (fun p => decide (T c p = 1)) 1000 = ycnt (fun p => decide (T x p = 0)) 1000 := ycnt_c (fun i i0 i1 => cn 1 0 (by decide) (by decide) i i0 i1)
            have s3 : ycnt (fun l => decide (T c (yk3 v l 0) = 2)) n = ycnt (fun l => decide (T x (yk3 v l 0) = 2)) n := ycnt_c (fun i i0 i1 => by
              have hk := yG_k G (o := 0) i0 i1 (by decide) (by decide)
              exact cn 2 2 (by decide) (by decide) _ hk.2.1 hk.2.2)
            rw [if_pos k8, e_keys (d := d) G c0 c1 (by decide) (by decide), e_keys (d := d) G x0 (by omega) (by decide) (by decide), if_pos s1, e_keys (d := d) G c0 c1 (by decide) (by decide), e_keys (d := d) G x0 (by omega) (by decide) (by decide), if_pos s2, e_lines (d := d) G c0 c1 (by decide) (by decide), e_lines (d := d) G x0 (by omega) (by decide) (by decide), if_pos s3]
            exact y1
          · rw [if_neg k8]
            have k9 : k = 9 := by omega
            have ht := g6 (Or.inr k9)
            have hj : ∀ p, 0 ≤ p → p < 1000 → T c p = if T x p = 1 then 1 else 0 := fun p p0 p1 => by
              rw [ht p p0 p1, k9]
              unfold yjoin
              rw [if_neg (by decide), if_neg (by decide), if_neg (by decide)]
            have cn : ∀ p, 0 ≤ p → p < 1000 → (T c p = 1 ↔ T x p = 1) := fun p p0 p1 => by
              rw [hj p p0 p1]
              split
              · next z => exact ⟨fun _ => z, fun _ => rfl⟩
              · next z => exact ⟨fun q => absurd q (by decide), fun q => absurd q z⟩
            have s0 : ycnt (fun p => decide (T c p = 2)) 1000 = 0 := (ycnt_z 1000).2 (fun i i0 i1 => decide_eq_false (by rw [hj i i0 i1]; split <;> decide))
            have s1 : ycnt (fun p => decide (T c p = 1)) 1000 = ycnt (fun p => decide (T x p = 1)) 1000 := ycnt_c (fun i i0 i1 => decide_eq_decide.2 (cn i i0 i1))
            have i1 : yfnd (fun p => decide (T c p = 1 ∧ T x p ≠ 1)) 0 1000 = -1 := yfnd_n (fun i i0 i1 => decide_eq_false (fun z => z.2 ((cn i i0 i1).1 z.1)))
            have i2 : yfnd (fun p => decide (T x p = 1 ∧ T c p ≠ 1)) 0 1000 = -1 := yfnd_n (fun i i0 i1 => decide_eq_false (fun z => z.2 ((cn i i0 i1).2 z.1)))
            rw [if_pos k9, e_keys (d := d) G c0 c1 (by decide) (by decide), if_pos s0, e_keys (d := d) G c0 c1 (by decide) (by decide), e_keys (d := d) G x0 (by omega) (by decide) (by decide), if_pos s1, e_implies (d := d) G c0 c1 x0 (by omega), if_pos i1, e_implies (d := d) G x0 (by omega) c0 c1, if_pos i2]
            exact y1
end KA
