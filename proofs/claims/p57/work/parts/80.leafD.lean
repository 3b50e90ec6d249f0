/-! ===== a leaf, read by the class: its kinds ===== -/
theorem yz0 : ∀ v : Nat, v < 3 → zand 0 (zshl 1 v) = 0 := by decide +kernel
theorem yz0I {v : Int} (v0 : 0 ≤ v) (v1 : v ≤ 2) : zand 0 (zshl 1 v) = 0 := by
  obtain ⟨v, rfl⟩ := Int.eq_ofNat_of_zero_le v0
  exact yz0 v (by omega)
section LE
variable {d : Nat} {m0 M : ZN} {T : Int → Int} {n sp t k s r bits nn : Int} {co wa : Int → Int}
/-- a leaf that is whole -/
def yLe (m0 M : ZN) (T : Int → Int) (n p' t kd sg : Int) (a : Int → Int) : Prop := ∃ sp, yLx m0 M T n sp t ∧ ytx T n sp = p' ∧ yDf M t kd sg a
theorem ylq_lt {T : Int → Int} {n q : Int} (h : ylq T n q ≠ -1) : q < n := by
  by_cases z : q < n
  · exact z
  · unfold ylq at h
    rw [if_neg z] at h
    exact absurd rfl h
theorem c_68 {col q1 : Int} {K : Int → ZN → Prop} (D : yLd m0 M T n q1 t k s 0 (zor 0 (zshl 1 col)) 1 co wa) (t0 : 0 ≤ t) (t1 : t ≤ 24) (hco : co 0 = col) (c0 : 0 ≤ col) (c2 : col ≤ 2) (hg : ysg (ylq T n q1) ≠ -1) (hx : ytx T n q1 = q1) (h : yCmp T n col (ysg (ylq T n q1)) (ynq T n q1) (fun q => ∀ M', yLx m0 M' T n q t → K 0 M') (fun kd sg a p' => ∀ M', yLe m0 M' T n p' t kd sg a → K 1 M')) : zcI (d + 2) 68 [zA 216, zA (10 + 4 * t)] M K := by
  have hc := isC_l t0 (show t < 25 by omega)
  have l1 : ylq T n q1 ≠ -1 := fun z => hg (by rw [z]; rfl)
  refine w_68 ?_
  simp only [isC_pos hc, cond_true]
  refine l_111 (d := d) D t0 t1 hx (fun M1 D1 => ?_)
  simp only [isC_O hc, isC_np hc (show 0 ≤ (1 : Int) ∧ (1 : Int) < 8 ∨ (1 : Int) = 9 by decide), Bool.and_true, cond_true]
  have D2 := D1.fs t0 t1 (j := 1) (v := ysg (ylq T n q1)) (by decide)
  rw [if_neg (by decide), if_pos rfl, if_neg (by decide)] at D2
  refine l_109 D2 t0 t1 l1 (fun M3 D3 => ?_)
  refine l_112 (d := d) (q := ynq T n q1) D3 t0 t1 rfl (by decide) (by decide) (by decide) (by decide) (fun M4 D4 => ?_)
  have xq : ytx T n (ynq T n q1) = ynq T n q1 := ytx_i (by have := ylq_lt l1; omega)
  refine l_110 (d := d) (q := ynq T n q1) D4 t0 t1 xq (fun M5 D5 => ?_)
  unfold yCmp at h
  obtain ⟨q2, hq2⟩ : ∃ q2, q2 = ynq T n q1 := ⟨_, rfl⟩
  rw [← hq2] at h D5 xq ⊢
  have y := ymskI (y := 0) (c := col) (by decide) (by decide) c0 c2
  by_cases a : 97 ≤ ylq T n q2 ∧ ylq T n q2 ≤ 99
  · rw [if_neg (show ¬ (48 + 1 ≤ ylq T n q2 ∧ ylq T n q2 ≤ 48 + 9) by omega), if_pos rfl, if_pos a, if_neg (by omega), l_5 D5 t0 t1]
    have yk := y.2.2.2 (ylq T n q2 - 97) (by omega) (by omega)
    by_cases b : ylq T n q2 - 97 = col
    · rw [if_neg (fun z => z.2 b)] at h
      unfold yDg at h
      rw [if_neg (by omega)] at h
      rw [if_neg (fun z => (yk.1 z).2 b), if_neg (by decide), yck_of (by decide)]
      exact h M5 (D5.x t0 t1)
    · rw [if_pos ⟨a, b⟩] at h
      rw [if_pos (yk.2 ⟨yz0I (by omega) (by omega), b⟩), if_pos rfl]
      simp only [isC_np hc (show 0 ≤ (0 : Int) ∧ (0 : Int) < 8 ∨ (0 : Int) = 9 by decide), cond_true]
      have D6 := D5.fs t0 t1 (j := 0) (v := 3) (by decide)
      rw [if_pos rfl, if_neg (by decide), if_neg (by decide)] at D6
      refine l_2 D6 t0 t1 (by decide) (by decide) (fun M7 D7 => ?_)
      refine l_109 D7 t0 t1 (by omega) (fun M8 D8 => ?_)
      rw [yck_of (by decide)]
      refine h M8 ⟨q2 + 1, D8.x t0 t1, rfl, yDr_R D8.1 (fun z => by omega) (fun _ => ⟨rfl, rfl⟩) rfl (fun _ => by decide) (fun _ => by decide) (fun _ => ?_) (fun z => by omega) (fun z => by omega) (fun _ => ?_) (fun z => by omega), fun _ => ?_⟩
      · show (if (0 : Int) = 1 then _ else co 0) = col
        rw [if_neg (by decide)]; exact hco
      · show (if (1 : Int) = 1 then _ else _) = _
        rw [if_pos rfl]; rfl
      · rw [D8.1.2.2.1.2.2.2.2.2.1]
        have e := ybit0I (v := col) c0 (by omega)
        rw [e.1]; rfl
  · rw [if_neg (fun z => a z.1)] at h
    unfold yDg at h
    by_cases b : 48 + 1 ≤ ylq T n q2 ∧ ylq T n q2 ≤ 48 + 9
    · rw [if_pos b] at h
      rw [if_pos b, if_neg (by omega)]
      simp only [isC_np hc (show 0 ≤ (0 : Int) ∧ (0 : Int) < 8 ∨ (0 : Int) = 9 by decide), cond_true]
      have D6 := D5.fs t0 t1 (j := 0) (v := 0) (by decide)
      rw [if_pos rfl, if_neg (by decide), if_neg (by decide)] at D6
      refine l_4 (d := d) D6 t0 t1 (by decide) (by decide) (by decide) (fun M7 D7 => ?_)
      refine l_109 D7 t0 t1 (by omega) (fun M8 D8 => ?_)
      rw [yck_of (by decide)]
      refine h M8 ⟨q2 + 1, D8.x t0 t1, rfl, yDr_R D8.1 (fun z => by omega) (fun _ => ⟨rfl, rfl⟩) rfl (fun _ => by decide) (fun z => by omega) (fun _ => hco) (fun _ => rfl) (fun z => by omega) (fun z => by omega) (fun z => by omega), fun _ => ?_⟩
      rw [D8.1.2.2.1.2.2.2.2.2.1]
      have e := ybit0I (v := col) c0 (by omega)
      rw [e.1]; rfl
    · rw [if_neg b] at h
      rw [if_neg b, if_pos rfl, if_neg a, if_pos rfl, yck_of (by decide)]
      exact h M5 (D5.x t0 t1)
theorem c_69 {col q1 : Int} {K : Int → ZN → Prop} (D : yLd m0 M T n q1 t k (-1) 0 (zor 0 (zshl 1 col)) 1 co wa) (t0 : 0 ≤ t) (t1 : t ≤ 24) (hco : co 0 = col) (c0 : 0 ≤ col) (c2 : col ≤ 2) (l1 : ylq T n q1 ≠ -1) (p1 : 0 < q1) (h : yDg T n 1 9 (ynq T n q1) (fun q => ∀ M', yLx m0 M' T n q t → K 0 M') (fun v q => yAm T n (fun q => ∀ M', yLx m0 M' T n q t → K 0 M') (fun bits q' => ∀ M', yLe m0 M' T n q' t 1 (-1) (yt7 col bits (-1) (-1) (-1) (-1) (-1)) → K 1 M') 251 (zshl 1 v) q)) : zcI (d + 2) 69 [zA 216, zA (10 + 4 * t)] M K := by
  have hc := isC_l t0 (show t < 25 by omega)
  have hn : n ≤ 250 := D.2.2.2.1.2.2
  refine w_69 ?_
  simp only [isC_pos hc, isC_O hc, isC_np hc (show 0 ≤ (0 : Int) ∧ (0 : Int) < 8 ∨ (0 : Int) = 9 by decide), Bool.and_true, cond_true]
  have D2 := D.fs t0 t1 (j := 0) (v := 1) (by decide)
  rw [if_pos rfl, if_neg (by decide), if_neg (by decide)] at D2
  refine l_109 D2 t0 t1 l1 (fun M3 D3 => ?_)
  refine l_112 (d := d) (q := ynq T n q1) D3 t0 t1 rfl (by decide) (by decide) (by decide) (by decide) (fun M4 D4 => ?_)
  have q1n := ylq_lt l1
  have rq := ynq_r l1
  have loop : ∀ (f : Nat) (b q y : Int) (M : ZN), yLd m0 M T n q t 1 (-1) 0 (zor 0 (zshl 1 col)) 1 co wa → ytx T n q = q → 0 < b → b < 1024 → q ≤ n → n - q < f → 0 ≤ y → y < q → yAm T n (fun q => ∀ M', yLx m0 M' T n q t → K 0 M') (fun bits q' => ∀ M', yLe m0 M' T n q' t 1 (-1) (yt7 col bits (-1) (-1) (-1) (-1) (-1)) → K 1 M') f b q → zwpN (d + 2) 69 22 [some (zA 216), some (zA (10 + 4 * t)), some (zI b), some (zI (if 48 + 1 ≤ ylq T n q ∧ ylq T n q ≤ 48 + 9 then ylq T n q - 48 else -1)), some (zI y)] [] M (zPI K) := by
    intro f
    induction f with
    | zero => intro b q y M D hx b0 b1 qn hf; omega
    | succ f ih =>
      intro b q y M D hx b0 b1 qn hf y0 yq h
      rw [yAm_s] at h
      refine w_69_22 ?_
      rw [if_pos (by omega)]
      by_cases a : 49 ≤ ylq T n q ∧ ylq T n q ≤ 57
      · rw [if_pos a] at h
        rw [if_pos (show 48 + 1 ≤ ylq T n q ∧ ylq T n q ≤ 48 + 9 by omega), if_neg (by omega)]
        have rq := ynq_r (T := T) (n := n) (q := q) (by omega)
        refine l_109 D t0 t1 (by omega) (fun M1 D1 => ?_)
        refine l_112 (d := d) (q := ynq T n q) D1 t0 t1 rfl (by decide) (by decide) (by decide) (by decide) (fun M2 D2 => ?_)
        rw [show zb (y + 1) = y + 1 from yb_id (by omega) (by omega)]
        have hb := ybitsI (b := b) (v := ylq T n q - 48) (by omega) b1 (by omega) (by omega)
        exact ih _ _ (y + 1) M2 D2 (ytx_i (by omega)) hb.1 hb.2 (by omega) (by omega) (by omega) (by omega) h
      · rw [if_neg a] at h
        rw [if_neg (show ¬ (48 + 1 ≤ ylq T n q ∧ ylq T n q ≤ 48 + 9) by omega), if_pos rfl, if_neg (by omega)]
        refine l_108 D t0 t1 hx (fun M1 D1 => ?_)
        by_cases e : ylq T n q = 93
        · rw [if_pos e] at h
          rw [if_pos e]
          simp only [isC_pos hc, isC_O hc, cond_true]
          refine l_4 (d := d) D1 t0 t1 (by decide) (by decide) (by decide) (fun M2 D2 => ?_)
          refine l_109 D2 t0 t1 (by omega) (fun M3 D3 => ?_)
          rw [yck_of (by decide)]
          refine h M3 ⟨q + 1, D3.x t0 t1, rfl, yDr_R D3.1 (fun z => by omega) (fun _ => ⟨rfl, rfl⟩) rfl (fun _ => by decide) (fun z => by omega) (fun _ => hco) (fun _ => rfl) (fun z => by omega) (fun z => by omega) (fun z => by omega), fun _ => ?_⟩
          rw [D3.1.2.2.1.2.2.2.2.2.1]
          have e := ybit0I (v := col) c0 (by omega)
          rw [e.1]; rfl
        · rw [if_neg e] at h
          rw [if_neg e, yck_of (by decide)]
          exact h M1 (D1.x t0 t1)
  unfold yDg at h
  by_cases a : 48 + 1 ≤ ylq T n (ynq T n q1) ∧ ylq T n (ynq T n q1) ≤ 48 + 9
  · rw [if_pos a] at h
    rw [if_pos a]
    have e := ybit0I (v := ylq T n (ynq T n q1) - 48) (by omega) (by omega)
    have rq2 := ynq_r (T := T) (n := n) (q := ynq T n q1) (by omega)
    refine w_69_22 ?_
    rw [if_pos (by decide), if_neg (by omega)]
    refine l_109 D4 t0 t1 (by omega) (fun M5 D5 => ?_)
    refine l_112 (d := d) (q := ynq T n (ynq T n q1)) D5 t0 t1 rfl (by decide) (by decide) (by decide) (by decide) (fun M6 D6 => ?_)
    rw [e.1, show zb (0 + 1) = 1 from rfl]
    exact loop 251 _ _ 1 M6 D6 (ytx_i (by omega)) e.2.1 e.2.2 (by omega) (by omega) (by decide) (by omega) h
  · rw [if_neg a] at h
    rw [if_neg a]
    refine w_69_22 ?_
    rw [if_pos (by decide), if_pos rfl, if_pos rfl, yck_of (by decide)]
    exact h M4 (D4.x t0 t1)
theorem c_70 {col q1 : Int} {K : Int → ZN → Prop} (D : yLd m0 M T n q1 t k (-1) 0 (zor 0 (zshl 1 col)) 1 co wa) (t0 : 0 ≤ t) (t1 : t ≤ 24) (hco : co 0 = col) (c0 : 0 ≤ col) (c2 : col ≤ 2) (l1 : ylq T n q1 ≠ -1) (h : yDg T n 2 9 (ynq T n q1) (fun q => ∀ M', yLx m0 M' T n q t → K 0 M') (fun mm q => yDg T n 0 (mm - 1) q (fun q => ∀ M', yLx m0 M' T n q t → K 0 M') (fun r q' => ∀ M', yLe m0 M' T n q' t 4 (-1) (yt7 col mm r (-1) (-1) (-1) (-1)) → K 1 M'))) : zcI (d + 2) 70 [zA 216, zA (10 + 4 * t)] M K := by
  have hc := isC_l t0 (show t < 25 by omega)
  have e := ybit0I (v := col) c0 (by omega)
  refine w_70 ?_
  simp only [isC_pos hc, isC_O hc, isC_np hc (show 0 ≤ (0 : Int) ∧ (0 : Int) < 8 ∨ (0 : Int) = 9 by decide), isC_np hc (show 0 ≤ (4 : Int) ∧ (4 : Int) < 8 ∨ (4 : Int) = 9 by decide), Bool.and_true, cond_true]
  have D2 := D.fs t0 t1 (j := 0) (v := 4) (by decide)
  rw [if_pos rfl, if_neg (by decide), if_neg (by decide)] at D2
  refine l_109 D2 t0 t1 l1 (fun M3 D3 => ?_)
  refine l_112 (d := d) (q := ynq T n q1) D3 t0 t1 rfl (by decide) (by decide) (by decide) (by decide) (fun M4 D4 => ?_)
  unfold yDg at h
  by_cases a : 48 + 2 ≤ ylq T n (ynq T n q1) ∧ ylq T n (ynq T n q1) ≤ 48 + 9
  · rw [if_pos a] at h
    rw [if_pos a, if_neg (by omega)]
    refine l_109 D4 t0 t1 (by omega) (fun M5 D5 => ?_)
    rw [show zb (ylq T n (ynq T n q1) - 48 - 1) = ylq T n (ynq T n q1) - 48 - 1 from yb_id (by omega) (by omega)]
    refine l_112 (d := d) (q := ynq T n (ynq T n q1)) D5 t0 t1 rfl (by decide) (by decide) (by omega) (by omega) (fun M6 D6 => ?_)
    by_cases b : 48 + 0 ≤ ylq T n (ynq T n (ynq T n q1)) ∧ ylq T n (ynq T n (ynq T n q1)) ≤ 48 + (ylq T n (ynq T n q1) - 48 - 1)
    · rw [if_pos b] at h
      rw [if_pos b, if_neg (by omega)]
      refine l_109 D6 t0 t1 (by omega) (fun M7 D7 => ?_)
      refine l_4 (d := d) D7 t0 t1 (by decide) (by decide) (by decide) (fun M8 D8 => ?_)
      rw [yck_of (by decide)]
      have D9 := D8.fs t0 t1 (j := 4) (v := ylq T n (ynq T n (ynq T n q1)) - 48) (by decide)
      rw [if_neg (by decide), if_neg (by decide), if_pos rfl] at D9
      refine h _ ⟨ynq T n (ynq T n q1) + 1, D9.x t0 t1, rfl, yDr_R D9.1 (fun z => by omega) (fun _ => ⟨rfl, rfl⟩) rfl (fun _ => by decide) (fun z => by omega) (fun _ => hco) (fun _ => rfl) (fun _ => rfl) (fun z => by omega) (fun z => by omega), fun _ => ?_⟩
      rw [D9.1.2.2.1.2.2.2.2.2.1, e.1]; rfl
    · rw [if_neg b] at h
      rw [if_neg b, if_pos rfl, yck_of (by decide)]
      exact h M6 (D6.x t0 t1)
  · rw [if_neg a] at h
    rw [if_neg a, if_pos rfl, yck_of (by decide)]
    exact h M4 (D4.x t0 t1)
end LE
