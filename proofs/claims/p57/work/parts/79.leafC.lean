/-! ===== a leaf, read by the class ===== -/
def yLd (m0 M : ZN) (T : Int → Int) (n sp t k s r bits nn : Int) (co wa : Int → Int) : Prop := yDr (zsn m0 216 2 sp) M t k s (-1) (-1) r bits nn co wa ∧ yTp M T n sp
/-- what a leaf leaves, whole or not -/
def yLx (m0 M : ZN) (T : Int → Int) (n sp t : Int) : Prop := (∀ b, b ≠ 10 + 4 * t → b ≠ 12 + 4 * t → b ≠ 13 + 4 * t → b ≠ 8 → b ≠ 216 → zr M b = zr m0 b) ∧ (zr M 8 1 = zr m0 8 1 ∧ zr M 8 2 = zr m0 8 2 + 1) ∧ (∀ j, j ≠ 2 → zr M 216 j = zr m0 216 j) ∧ yTp M T n sp
section LD
variable {d : Nat} {m0 M : ZN} {T : Int → Int} {n sp t k s r bits nn : Int} {co wa : Int → Int}
theorem yLd.x (D : yLd m0 M T n sp t k s r bits nn co wa) (t0 : 0 ≤ t) (t1 : t ≤ 24) : yLx m0 M T n sp t := by
  obtain ⟨⟨d1, d2, d3, d4⟩, h⟩ := D
  refine ⟨fun b b0 b1 b2 b3 b4 => by rw [d1 b b0 b1 b2 b3, yfc b4], ?_, fun j hj => by rw [d1 216 (by omega) (by omega) (by omega) (by omega), yr_so hj], h⟩
  rw [yfc (show (8 : Int) ≠ 216 by decide)] at d2
  exact d2
theorem yLd.mv (D : yLd m0 M T n sp t k s r bits nn co wa) (t0 : 0 ≤ t) (t1 : t ≤ 24) {M' : ZN} {sp' : Int} (f : yfT M M') (h : yTp M' T n sp') : yLd m0 M' T n sp' t k s r bits nn co wa := by
  obtain ⟨⟨d1, d2, d3, d4⟩, _⟩ := D
  have n2 : znp' 216 2 = true := znp_o rfl
  refine ⟨⟨fun b b0 b1 b2 b3 => ?_, ?_, ?_, fun i i0 i1 => ?_⟩, h⟩
  · by_cases q : b = 216
    · subst q
      funext j
      by_cases z : j = 2
      · subst z; rw [h.2.1, yr_ss n2]
      · rw [f 216 j (Or.inr z), d1 216 b0 b1 b2 b3, yr_so z, yr_so z]
    · rw [f.fn q, d1 b b0 b1 b2 b3, yfc q, yfc q]
  · rw [f.fn (show (8 : Int) ≠ 216 by decide), yfc (show (8 : Int) ≠ 216 by decide)]
    rw [yfc (show (8 : Int) ≠ 216 by decide)] at d2
    exact d2
  · rw [f.fn (show 10 + 4 * t ≠ 216 by omega)]; exact d3
  · rw [f.fn (show 12 + 4 * t ≠ 216 by omega), f.fn (show 13 + 4 * t ≠ 216 by omega)]; exact d4 i i0 i1
theorem yTp.fr {M M' : ZN} {T : Int → Int} {n sp : Int} (h : yTp M T n sp) (f6 : zr M' 216 = zr M 216) (f7 : zr M' 217 = zr M 217) : yTp M' T n sp := by
  obtain ⟨a1, a2, a3, a4, a5⟩ := h
  exact ⟨by rw [f6]; exact a1, by rw [f6]; exact a2, a3, fun j j0 j1 => by rw [f7]; exact a4 j j0 j1, a5⟩
/-- a field of a draft is set -/
theorem yLd.fs (D : yLd m0 M T n sp t k s r bits nn co wa) (t0 : 0 ≤ t) (t1 : t ≤ 24) {j v : Int} (hj : j = 0 ∨ j = 1 ∨ j = 4) : yLd m0 (zsn M (10 + 4 * t) j v) T n sp t (if j = 0 then v else k) (if j = 1 then v else s) (if j = 4 then v else r) bits nn co wa := by
  obtain ⟨⟨d1, d2, ⟨e0, e1, e2, e3, e4, e5, e9⟩, d4⟩, h⟩ := D
  have hc := isC_l t0 (show t < 25 by omega)
  have np : ∀ i, (i = 0 ∨ i = 1 ∨ i = 2 ∨ i = 3 ∨ i = 4 ∨ i = 5 ∨ i = 9) → znp' (10 + 4 * t) i = true := fun i h => isC_np hc (by omega)
  refine ⟨⟨fun b b0 b1 b2 b3 => by rw [yfc b0]; exact d1 b b0 b1 b2 b3, by rw [yfc (by omega)]; exact d2, ?_, fun i i0 i1 => by rw [yfc (by omega), yfc (by omega)]; exact d4 i i0 i1⟩, h.fr (by rw [yfc (by omega)]) (by rw [yfc (by omega)])⟩
  rcases hj with rfl | rfl | rfl
  · exact ⟨yr_ss (np 0 (by decide)), by rw [yr_so (by decide)]; exact e1, by rw [yr_so (by decide)]; exact e2, by rw [yr_so (by decide)]; exact e3, by rw [yr_so (by decide)]; exact e4, by rw [yr_so (by decide)]; exact e5, by rw [yr_so (by decide)]; exact e9⟩
  · exact ⟨by rw [yr_so (by decide)]; exact e0, yr_ss (np 1 (by decide)), by rw [yr_so (by decide)]; exact e2, by rw [yr_so (by decide)]; exact e3, by rw [yr_so (by decide)]; exact e4, by rw [yr_so (by decide)]; exact e5, by rw [yr_so (by decide)]; exact e9⟩
  · exact ⟨by rw [yr_so (by decide)]; exact e0, by rw [yr_so (by decide)]; exact e1, by rw [yr_so (by decide)]; exact e2, by rw [yr_so (by decide)]; exact e3, yr_ss (np 4 (by decide)), by rw [yr_so (by decide)]; exact e5, by rw [yr_so (by decide)]; exact e9⟩
theorem l_2 {c w : Int} {K : ZN → Prop} (D : yLd m0 M T n sp t k s r bits nn co wa) (t0 : 0 ≤ t) (t1 : t ≤ 24) (n0 : 0 ≤ nn) (n1 : nn < 3) (h : ∀ M', yLd m0 M' T n sp t k s r (zor bits (zshl 1 c)) (nn + 1) (fun i => if i = nn then c else co i) (fun i => if i = nn then w else wa i) → K M') : zcV d 2 [zA (10 + 4 * t), zI c, zI w] M K := by
  refine d_2 D.1 (isC_l t0 (by omega)) n0 n1 (fun M2 D2 => h M2 ⟨D2, D.2.fr ?_ ?_⟩)
  · rw [D2.1 216 (by omega) (by omega) (by omega) (by omega), D.1.1 216 (by omega) (by omega) (by omega) (by omega)]
  · rw [D2.1 217 (by omega) (by omega) (by omega) (by omega), D.1.1 217 (by omega) (by omega) (by omega) (by omega)]
theorem l_4 {i v : Int} {K : ZN → Prop} (D : yLd m0 M T n sp t k s r bits nn co wa) (t0 : 0 ≤ t) (t1 : t ≤ 24) (i0 : 0 ≤ i) (i1 : i < nn) (n3 : nn ≤ 3) (h : ∀ M', yLd m0 M' T n sp t k s r bits nn co (yup wa i v) → K M') : zcV (d + 1) 4 [zA (10 + 4 * t), zI i, zI v] M K := by
  have hc := isC_l t0 (show t < 25 by omega)
  have np3 := isC_np3 hc
  have a3 : 10 + 4 * t + 3 = 13 + 4 * t := by omega
  have D0 := D
  obtain ⟨⟨d1, d2, ⟨e0, e1, e2, e3, e4, e5, e9⟩, d4⟩, hT⟩ := D
  refine w_4 ?_
  simp only [isC_pos hc, isC_O hc, cond_true, isC_f hc (show (0 : Int) ≤ 9 ∧ (9 : Int) < 8 ∨ (9 : Int) = 9 by decide), e9, c_181]
  rw [show zb (nn - 1) = nn - 1 from yb_id (by omega) (by omega), if_pos (show 0 ≤ i ∧ i ≤ nn - 1 by omega), if_neg (by decide), isC_w hc, isC_03 hc, isC_n3 hc, yck_of (by omega)]
  rw [a3] at np3 ⊢
  refine h _ ⟨⟨fun b b0 b1 b2 b3 => by rw [yfc b2]; exact d1 b b0 b1 b2 b3, by rw [yfc (by omega)]; exact d2, by rw [yfc (by omega)]; exact ⟨e0, e1, e2, e3, e4, e5, e9⟩, fun j j0 j1 => ⟨by rw [yfc (by omega)]; exact (d4 j j0 j1).1, ?_⟩⟩, hT.fr (by rw [yfc (by omega)]) (by rw [yfc (by omega)])⟩
  rw [yr_sa (np3 _)]
  by_cases q : j = i
  · rw [if_pos q, q, yup_n]
  · rw [if_neg q]; exact (d4 j j0 j1).2.trans (if_neg q).symm
theorem l_5 {c : Int} (D : yLd m0 M T n sp t k s r bits nn co wa) (t0 : 0 ≤ t) (t1 : t ≤ 24) (K : Int → ZN → Prop) : zcI d 5 [zA (10 + 4 * t), zI c] M K = K (if zand bits (zshl 1 c) = 0 then 0 else 1) M := by
  have hc := isC_l t0 (show t < 25 by omega)
  obtain ⟨⟨d1, d2, ⟨e0, e1, e2, e3, e4, e5, e9⟩, d4⟩, hT⟩ := D
  refine zcI_eq (w_5 ?_) K
  simp only [isC_pos hc, isC_O hc, cond_true, isC_f hc (show (0 : Int) ≤ 5 ∧ (5 : Int) < 8 ∨ (5 : Int) = 9 by decide), e5]
  by_cases q : zand bits (zshl 1 c) = 0
  · rw [if_pos q, if_pos q, yck_of (by decide)]; exact ⟨rfl, trivial⟩
  · rw [if_neg q, if_neg q, yck_of (by decide)]; exact ⟨rfl, trivial⟩
theorem l_3 (D : yLd m0 M T n sp t k s r bits nn co wa) (t0 : 0 ≤ t) (t1 : t ≤ 24) (K : Int → ZN → Prop) : zcI d 3 [zA (10 + 4 * t)] M K = K nn M := by
  have hc := isC_l t0 (show t < 25 by omega)
  obtain ⟨⟨d1, d2, ⟨e0, e1, e2, e3, e4, e5, e9⟩, d4⟩, hT⟩ := D
  refine zcI_eq (w_3 ?_) K
  simp only [isC_pos hc, isC_O hc, cond_true, isC_f hc (show (0 : Int) ≤ 9 ∧ (9 : Int) < 8 ∨ (9 : Int) = 9 by decide), e9]
  exact ⟨trivial, trivial⟩
theorem l_108 {q : Int} {K : Int → ZN → Prop} (D : yLd m0 M T n sp t k s r bits nn co wa) (t0 : 0 ≤ t) (t1 : t ≤ 24) (hq : ytx T n sp = q) (h : ∀ M', yLd m0 M' T n q t k s r bits nn co wa → K (ylq T n q) M') : zcI d 108 [zA 216] M K := by
  refine c_108 D.2 (fun M' f I => ?_)
  rw [ylt_q]
  rw [hq] at I ⊢
  exact h M' (D.mv t0 t1 f I)
theorem l_110 {q : Int} {K : Int → ZN → Prop} (D : yLd m0 M T n sp t k s r bits nn co wa) (t0 : 0 ≤ t) (t1 : t ≤ 24) (hq : ytx T n sp = q) (h : ∀ M', yLd m0 M' T n q t k s r bits nn co wa → K (if 97 ≤ ylq T n q ∧ ylq T n q ≤ 99 then ylq T n q - 97 else -1) M') : zcI (d + 1) 110 [zA 216] M K := by
  refine c_110 D.2 (fun M' f I => ?_)
  rw [ylt_q]
  rw [hq] at I ⊢
  exact h M' (D.mv t0 t1 f I)
theorem l_111 {q : Int} {K : Int → ZN → Prop} (D : yLd m0 M T n sp t k s r bits nn co wa) (t0 : 0 ≤ t) (t1 : t ≤ 24) (hq : ytx T n sp = q) (h : ∀ M', yLd m0 M' T n q t k s r bits nn co wa → K (ysg (ylq T n q)) M') : zcI (d + 1) 111 [zA 216] M K := by
  refine c_111 D.2 (fun M' f I => ?_)
  rw [ylt_q]
  rw [hq] at I ⊢
  exact h M' (D.mv t0 t1 f I)
theorem l_112 {q lo hi : Int} {K : Int → ZN → Prop} (D : yLd m0 M T n sp t k s r bits nn co wa) (t0 : 0 ≤ t) (t1 : t ≤ 24) (hq : ytx T n sp = q) (l0 : 0 ≤ lo) (l1 : lo ≤ 9) (h0 : -1 ≤ hi) (h1 : hi ≤ 9) (h : ∀ M', yLd m0 M' T n q t k s r bits nn co wa → K (if 48 + lo ≤ ylq T n q ∧ ylq T n q ≤ 48 + hi then ylq T n q - 48 else -1) M') : zcI (d + 1) 112 [zA 216, zI lo, zI hi] M K := by
  refine c_112 D.2 l0 l1 h0 h1 (fun M' f I => ?_)
  rw [ylt_q]
  rw [hq] at I ⊢
  exact h M' (D.mv t0 t1 f I)
theorem l_109 {K : ZN → Prop} (D : yLd m0 M T n sp t k s r bits nn co wa) (t0 : 0 ≤ t) (t1 : t ≤ 24) (hq : ylq T n sp ≠ -1) (h : ∀ M', yLd m0 M' T n (sp + 1) t k s r bits nn co wa → K M') : zcV d 109 [zA 216] M K := by
  refine c_109 D.2 ?_ (fun M' f I => h M' (D.mv t0 t1 f I))
  by_cases z : sp < n
  · exact z
  · unfold ylq at hq
    rw [if_neg z] at hq
    exact absurd rfl hq
end LD
