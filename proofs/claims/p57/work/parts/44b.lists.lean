/-! ===== lists of conditions copied ===== -/
theorem ySz_r {kd sg i : Int} {a : Int → Int} (W : yWf kd sg a i) : 0 ≤ ySz kd a ∧ ySz kd a ≤ 3 := by
  have h5 := W.2.2.2.2.2.2.2.2.1
  unfold ySz
  by_cases q5 : kd = 5
  · rw [if_pos q5]
    have := (h5 q5).1
    omega
  · rw [if_neg q5]
    by_cases q3 : kd = 3
    · rw [if_pos q3]; omega
    · rw [if_neg q3]
      by_cases q : kd ≤ 5
      · rw [if_pos q]; omega
      · rw [if_neg q]; omega
def yCq (m M : ZN) (a b : Int) : Prop :=
  (∀ j, (0 ≤ j ∧ j < 8 ∨ j = 9) → zr M a j = zr m b j)
  ∧ (∀ k, 0 ≤ k → k < zr m b 9 → zr M (a + 2) k = zr m (b + 2) k ∧ zr M (a + 3) k = zr m (b + 3) k) ∧ ∀ p, 0 ≤ p → p < 1000 → yTw (zr M (a + 1)) p = yTw (zr m (b + 1)) p
theorem yCR_q {m M : ZN} {a b kd sg i : Int} {ad : Int → Int} (h : yCq m M a b) (W : yWf kd sg ad i) (R : yCR (zr m b) (zr m (b + 2)) (zr m (b + 3)) kd sg ad) : yCR (zr M a) (zr M (a + 2)) (zr M (a + 3)) kd sg ad := by
  obtain ⟨h1, h2, h3⟩ := h
  have h5 := W.2.2.2.2.2.2.2.2.1
  unfold yCR at R ⊢
  rw [h1 0 (by decide), h1 1 (by decide), h1 2 (by decide), h1 3 (by decide), h1 4 (by decide), h1 9 (by decide)]
  obtain ⟨r1, r2, r3, r4, r5, r6, r7, r8, r9, r10⟩ := R
  have hz : ySz kd ad = if kd = 5 then ad 0 else if kd = 3 then 2 else if kd ≤ 5 then 1 else 0 := rfl
  have z1 : kd ≤ 5 → 1 ≤ zr m b 9 := fun q => by
    rw [r5, hz]
    split
    · have := (h5 (by assumption)).1; omega
    · split
      · decide
      · decide
  have z3 : kd = 3 → 2 ≤ zr m b 9 := fun q => by
    rw [r5, hz, if_neg (by omega), if_pos q]; decide
  have z5 : kd = 5 → zr m b 9 = ad 0 := fun q => by rw [r5, hz, if_pos q]
  refine ⟨r1, r2, r3, r4, r5, fun q => ?_, fun q => ?_, r8, fun q => ?_, fun q => ?_⟩
  · rw [(h2 0 (by decide) (by have := z1 (by omega); omega)).1]; exact r6 q
  · rw [(h2 0 (by decide) (by have := z1 (by omega); omega)).2]; exact r7 q
  · rw [(h2 1 (by decide) (by have := z3 q; omega)).1]; exact r9 q
  · have w := (h5 q).1
    have z := z5 q
    obtain ⟨x1, x2, x3, x4, x5⟩ := r10 q
    rw [(h2 0 (by decide) (by omega)).1, (h2 0 (by decide) (by omega)).2, (h2 1 (by decide) (by omega)).1, (h2 1 (by decide) (by omega)).2]
    exact ⟨x1, x2, x3, x4, fun q3 => by rw [(h2 2 (by decide) (by omega)).1, (h2 2 (by decide) (by omega)).2]; exact x5 q3⟩
theorem yIC_q {m M : ZN} {a b N : Int} {kd sg sd : Int → Int} (h : ∀ i, 0 ≤ i → i < N → yCq m M (a + 4 * i) (b + 4 * i)) (hI : yIC (zr m) b N kd sg sd) : yIC (zr M) a N kd sg sd := by
  obtain ⟨i1, i2, i3⟩ := hI
  refine ⟨i1, fun i i0 iN => ?_, fun i i0 iN p p0 p1 => ?_⟩
  · obtain ⟨r, r5, r6, r7⟩ := i2 i i0 iN
    have q := h i i0 iN
    rw [q.1 5 (by decide), q.1 6 (by decide), q.1 7 (by decide)]
    refine ⟨?_, r5, r6, r7⟩
    rw [show b + 2 + 4 * i = b + 4 * i + 2 by omega, show b + 3 + 4 * i = b + 4 * i + 3 by omega] at r
    rw [show a + 2 + 4 * i = a + 4 * i + 2 by omega, show a + 3 + 4 * i = a + 4 * i + 3 by omega]
    exact yCR_q q (i1 i i0 iN) r
  · rw [show a + 1 + 4 * i = a + 4 * i + 1 by omega, (h i i0 iN).2.2 p p0 p1, show b + 4 * i + 1 = b + 1 + 4 * i by omega]
    exact i3 i i0 iN p p0 p1
section CL
variable {d : Nat} {m : ZN}
theorem c_22a {N : Int} {kd sg sd : Int → Int} {K : ZN → Prop} (hN : zr m 110 1 = N) (N0 : 0 ≤ N) (N24 : N ≤ 24) (hI : yIC (zr m) 112 N kd sg sd) (h : ∀ M2, (∀ c, ¬ (10 ≤ c ∧ c ≤ 109) → zr M2 c = zr m c) → yIC (zr M2) 10 N kd sg sd → K (zsn M2 8 1 N)) : zcV (d + 2) 22 [zA 8, zA 110] m K := by
  refine w_22a ?_
  refine yfor (fun n => ∀ M, (∀ c, ¬ (10 ≤ c ∧ c ≤ 109) → zr M c = zr m c) → (∀ i, 0 ≤ i → i < n → yCq m M (10 + 4 * i) (112 + 4 * i)) → zwpN (d + 2) 22 2 [some (zA 8), some (zA 110), some (zI n)] [] M (zPV K)) 0 N N0 (fun n n0 n1 hW M k1 k2 => ?_) (fun M k1 k2 => ?_) m (fun c _ => rfl) (fun i i0 i1 => by omega)
  · have ha := isC_l n0 (show n < 25 by omega)
    have hb := isC_k n0 (show n < 25 by omega)
    have hz := ySz_r (hI.1 n n0 n1)
    have h9 : zr M (112 + 4 * n) 9 = ySz (kd n) (yA sd n) := by
      rw [k1 _ (by omega)]
      exact (hI.2.1 n n0 n1).1.2.2.2.2.1
    refine w_22_2a ?_
    rw [k1 110 (by omega), hN, if_pos n1, yck_of (by omega), yck_of (by omega), yl_p n0 (by omega), yk_p n0 (by omega), isC_O ha, cond_true, yb_id (by omega) (by omega)]
    refine c_6 ha hb (by omega) (by omega) (by omega) (fun M2 k => ?_)
    obtain ⟨c1, c2, c3, c4⟩ := k
    refine hW M2 (fun c hc => ?_) (fun i i0 i1 => ?_)
    · rw [c1 c (by omega) (by omega) (by omega) (by omega)]
      exact k1 c hc
    · by_cases q : i = n
      · subst q
        have e0 : zr M (112 + 4 * i) = zr m (112 + 4 * i) := k1 _ (by omega)
        rw [e0] at c2 c3
        rw [k1 (112 + 4 * i + 2) (by omega), k1 (112 + 4 * i + 3) (by omega)] at c3
        rw [k1 (112 + 4 * i + 1) (by omega)] at c4
        exact ⟨c2, c3, c4⟩
      · have z := k2 i i0 (by omega)
        unfold yCq at z ⊢
        rw [c1 (10 + 4 * i) (by omega) (by omega) (by omega) (by omega), c1 (10 + 4 * i + 1) (by omega) (by omega) (by omega) (by omega), c1 (10 + 4 * i + 2) (by omega) (by omega) (by omega) (by omega), c1 (10 + 4 * i + 3) (by omega) (by omega) (by omega) (by omega)]
        exact z
  · refine w_22_2a ?_
    rw [k1 110 (by omega), hN, if_neg (by omega)]
    exact h M k1 (yIC_q k2 hI)
theorem c_22b {N : Int} {kd sg sd : Int → Int} {K : ZN → Prop} (hN : zr m 8 1 = N) (N0 : 0 ≤ N) (N24 : N ≤ 24) (hI : yIC (zr m) 10 N kd sg sd) (h : ∀ M2, (∀ c, ¬ (112 ≤ c ∧ c ≤ 211) → zr M2 c = zr m c) → yIC (zr M2) 112 N kd sg sd → K (zsn M2 110 1 N)) : zcV (d + 2) 22 [zA 110, zA 8] m K := by
  refine w_22b ?_
  refine yfor (fun n => ∀ M, (∀ c, ¬ (112 ≤ c ∧ c ≤ 211) → zr M c = zr m c) → (∀ i, 0 ≤ i → i < n → yCq m M (112 + 4 * i) (10 + 4 * i)) → zwpN (d + 2) 22 2 [some (zA 110), some (zA 8), some (zI n)] [] M (zPV K)) 0 N N0 (fun n n0 n1 hW M k1 k2 => ?_) (fun M k1 k2 => ?_) m (fun c _ => rfl) (fun i i0 i1 => by omega)
  · have ha := isC_k n0 (show n < 25 by omega)
    have hb := isC_l n0 (show n < 25 by omega)
    have hz := ySz_r (hI.1 n n0 n1)
    have h9 : zr M (10 + 4 * n) 9 = ySz (kd n) (yA sd n) := by
      rw [k1 _ (by omega)]
      exact (hI.2.1 n n0 n1).1.2.2.2.2.1
    refine w_22_2b ?_
    rw [k1 8 (by omega), hN, if_pos n1, yck_of (by omega), yck_of (by omega), yk_p n0 (by omega), yl_p n0 (by omega), isC_O ha, cond_true, yb_id (by omega) (by omega)]
    refine c_6 ha hb (by omega) (by omega) (by omega) (fun M2 k => ?_)
    obtain ⟨c1, c2, c3, c4⟩ := k
    refine hW M2 (fun c hc => ?_) (fun i i0 i1 => ?_)
    · rw [c1 c (by omega) (by omega) (by omega) (by omega)]
      exact k1 c hc
    · by_cases q : i = n
      · subst q
        have e0 : zr M (10 + 4 * i) = zr m (10 + 4 * i) := k1 _ (by omega)
        rw [e0] at c2 c3
        rw [k1 (10 + 4 * i + 2) (by omega), k1 (10 + 4 * i + 3) (by omega)] at c3
        rw [k1 (10 + 4 * i + 1) (by omega)] at c4
        exact ⟨c2, c3, c4⟩
      · have z := k2 i i0 (by omega)
        unfold yCq at z ⊢
        rw [c1 (112 + 4 * i) (by omega) (by omega) (by omega) (by omega), c1 (112 + 4 * i + 1) (by omega) (by omega) (by omega) (by omega), c1 (112 + 4 * i + 2) (by omega) (by omega) (by omega) (by omega), c1 (112 + 4 * i + 3) (by omega) (by omega) (by omega) (by omega)]
        exact z
  · refine w_22_2b ?_
    rw [k1 8 (by omega), hN, if_neg (by omega)]
    exact h M k1 (yIC_q k2 hI)
end CL
