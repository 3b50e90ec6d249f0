/-! ===== a new condition, in both ===== -/
def yup (f : Int → Int) (N v : Int) : Int → Int := fun j => if j = N then v else f j
def yus (f : Int → Int) (N : Int) (ad : Int → Int) : Int → Int := fun j => if 8 * N ≤ j ∧ j < 8 * N + 8 then ad (j - 8 * N) else f j
theorem yIC_fr2 {g g' : Int → Int → Int} {b N : Int} {kd sg sd : Int → Int} (h : yIC g b N kd sg sd) (hg : ∀ a, b ≤ a → a < b + 4 * N → g' a = g a) : yIC g' b N kd sg sd := by
  obtain ⟨h1, h2, h3⟩ := h
  refine ⟨h1, fun i i0 i1 => ?_, fun i i0 i1 => ?_⟩
  · rw [hg (b + 4 * i) (by omega) (by omega), hg (b + 2 + 4 * i) (by omega) (by omega), hg (b + 3 + 4 * i) (by omega) (by omega)]
    exact h2 i i0 i1
  · rw [hg (b + 1 + 4 * i) (by omega) (by omega)]
    exact h3 i i0 i1
/-- the words of well-formedness speak of the first eight numbers alone -/
theorem yWf_c {kd sg i : Int} {a b : Int → Int} (h : ∀ k, 0 ≤ k → k < 8 → a k = b k) (W : yWf kd sg a i) : yWf kd sg b i := by
  unfold yWf at W ⊢
  rw [← h 0 (by decide) (by decide), ← h 1 (by decide) (by decide), ← h 2 (by decide) (by decide), ← h 3 (by decide) (by decide), ← h 4 (by decide) (by decide), ← h 5 (by decide) (by decide), ← h 6 (by decide) (by decide)]
  exact W
theorem yCR_c {f co wa a b : Int → Int} {kd sg : Int} (h : ∀ k, 0 ≤ k → k < 8 → a k = b k) (R : yCR f co wa kd sg a) : yCR f co wa kd sg b := by
  unfold yCR ySz at R ⊢
  rw [← h 0 (by decide) (by decide), ← h 1 (by decide) (by decide), ← h 2 (by decide) (by decide), ← h 3 (by decide) (by decide), ← h 4 (by decide) (by decide), ← h 5 (by decide) (by decide), ← h 6 (by decide) (by decide)]
  exact R
theorem yLc_c {kd : Int} {a b : Int → Int} (h : ∀ k, 0 ≤ k → k < 8 → a k = b k) : yLc kd a = yLc kd b := by
  unfold yLc
  rw [← h 0 (by decide) (by decide), ← h 1 (by decide) (by decide), ← h 3 (by decide) (by decide), ← h 5 (by decide) (by decide)]
theorem yequ_c {a b : Int → Int} {key : Int} (n : Nat) (h : ∀ k, 0 ≤ k → k < 8 → a k = b k) (hn : n ≤ 3) : yequ a key n = yequ b key n := by
  induction n with
  | zero => rfl
  | succ n ih => rw [yequ_s, yequ_s, ih (by omega), h (1 + 2 * n) (by omega) (by omega), h (2 + 2 * n) (by omega) (by omega)]
theorem yord_c {a b : Int → Int} {s key : Int} (n : Nat) (h : ∀ k, 0 ≤ k → k < 8 → a k = b k) : ∀ k : Int, 0 ≤ k → k + n ≤ 3 → yord s a key n k = yord s b key n k := by
  induction n with
  | zero => intro k _ _; rfl
  | succ n ih => intro k k0 k1; rw [yord_s, yord_s, ih (k + 1) (by omega) (by omega), h (1 + 2 * k) (by omega) (by omega), h (2 + 2 * k) (by omega) (by omega)]
theorem yleaf_c {kd sg i key : Int} {a b : Int → Int} (h : ∀ k, 0 ≤ k → k < 8 → a k = b k) (W : yWf kd sg a i) : yleaf kd sg a key = yleaf kd sg b key := by
  unfold yleaf
  rw [← h 0 (by decide) (by decide), ← h 1 (by decide) (by decide), ← h 2 (by decide) (by decide)]
  by_cases q5 : kd = 5
  · have := (W.2.2.2.2.2.2.2.2.1 q5).1
    rw [yequ_c (a := a) (b := b) (a 0).toNat h (by omega), yord_c (a := a) (b := b) (a 0).toNat h 0 (by decide) (by omega)]
  · rw [if_neg q5, if_neg q5]
/-- conditions told alike are alike -/
theorem yS_c {kd sg sd kd' sg' sd' : Int → Int} {N : Int} (W : yWA kd sg sd N) (hN : N ≤ 24) (hk : ∀ i, 0 ≤ i → i < N → kd i = kd' i ∧ sg i = sg' i ∧ ∀ k, 0 ≤ k → k < 8 → sd (8 * i + k) = sd' (8 * i + k)) (i : Int) (i0 : 0 ≤ i) (i1 : i < N) : (∀ key, yST kd sg sd i key = yST kd' sg' sd' i key) ∧ yDp kd sd i = yDp kd' sd' i ∧ yCo kd sd i = yCo kd' sd' i ∧ yPa kd sd i = yPa kd' sd' i := by
  have wr := yWA_r W
  have h0 : ∀ i, 0 ≤ i → i < N → sd (8 * i) = sd' (8 * i) := fun i i0 i1 => by have := (hk i i0 i1).2.2 0 (by decide) (by decide); rw [Int.add_zero] at this; exact this
  have h1 : ∀ i, 0 ≤ i → i < N → sd (8 * i + 1) = sd' (8 * i + 1) := fun i i0 i1 => (hk i i0 i1).2.2 1 (by decide) (by decide)
  refine ⟨fun key => ?_, ?_, ?_, ?_⟩
  · refine congrFun (yrec_c wr (fun j j0 j1 => ⟨(hk j j0 j1).1, h0 j j0 j1, h1 j j0 j1, ?_, ?_⟩) 25 25 i i0 i1 (by omega) (by omega)) key
    · funext key
      rw [← (hk j j0 j1).1, ← (hk j j0 j1).2.1]
      exact yleaf_c (hk j j0 j1).2.2 (W j j0 j1)
    · funext x y key
      rw [(hk j j0 j1).1]
  · exact yrec_c wr (fun j j0 j1 => ⟨(hk j j0 j1).1, h0 j j0 j1, h1 j j0 j1, rfl, rfl⟩) 25 25 i i0 i1 (by omega) (by omega)
  · refine yrec_c wr (fun j j0 j1 => ⟨(hk j j0 j1).1, h0 j j0 j1, h1 j j0 j1, ?_, rfl⟩) 25 25 i i0 i1 (by omega) (by omega)
    rw [← (hk j j0 j1).1]
    exact yLc_c (hk j j0 j1).2.2
  · refine yrec_c wr (fun j j0 j1 => ⟨(hk j j0 j1).1, h0 j j0 j1, h1 j j0 j1, rfl, ?_⟩) 25 25 i i0 i1 (by omega) (by omega)
    funext x y
    rw [(hk j j0 j1).1]
theorem yIC_c {g : Int → Int → Int} {b N : Int} {kd sg sd kd' sg' sd' : Int → Int} (h : yIC g b N kd sg sd) (hN : N ≤ 24) (hk : ∀ i, 0 ≤ i → i < N → kd i = kd' i ∧ sg i = sg' i ∧ ∀ k, 0 ≤ k → k < 8 → sd (8 * i + k) = sd' (8 * i + k)) : yIC g b N kd' sg' sd' := by
  obtain ⟨h1, h2, h3⟩ := h
  have S := yS_c h1 hN hk
  refine ⟨fun i i0 i1 => ?_, fun i i0 i1 => ?_, fun i i0 i1 key k0 k1 => ?_⟩
  · rw [← (hk i i0 i1).1, ← (hk i i0 i1).2.1]
    exact yWf_c (hk i i0 i1).2.2 (h1 i i0 i1)
  · obtain ⟨r, r5, r6, r7⟩ := h2 i i0 i1
    rw [← (hk i i0 i1).1, ← (hk i i0 i1).2.1, ← (S i i0 i1).2.1, ← (S i i0 i1).2.2.1, ← (S i i0 i1).2.2.2]
    exact ⟨yCR_c (hk i i0 i1).2.2 r, r5, r6, r7⟩
  · rw [← (S i i0 i1).1]
    exact h3 i i0 i1 key k0 k1
theorem yIM_c {g : Int → Int → Int} {N : Int} {kd sg sd kd' sg' sd' : Int → Int} (h : yIM g N kd sg sd) (W : yWA kd sg sd N) (hN : N ≤ 24) (hk : ∀ i, 0 ≤ i → i < N → kd i = kd' i ∧ sg i = sg' i ∧ ∀ k, 0 ≤ k → k < 8 → sd (8 * i + k) = sd' (8 * i + k)) : yIM g N kd' sg' sd' := by
  have S := yS_c W hN hk
  intro i i0 i1
  obtain ⟨a1, a2, a3, a4⟩ := h i i0 i1
  rw [← (S i i0 i1).2.1, ← (S i i0 i1).2.2.1, ← (S i i0 i1).2.2.2]
  exact ⟨a1, a2, a3, fun key k0 k1 => by rw [← (S i i0 i1).1]; exact a4 key k0 k1⟩
theorem yup_o {f : Int → Int} {N v i : Int} (h : i < N) : yup f N v i = f i := if_neg (by omega)
theorem yup_n {f : Int → Int} {N v : Int} : yup f N v N = v := if_pos rfl
theorem yus_o {f ad : Int → Int} {N i k : Int} (h : i < N) (k1 : k < 8) : yus f N ad (8 * i + k) = f (8 * i + k) := if_neg (by omega)
theorem yus_n {f ad : Int → Int} {N k : Int} (k0 : 0 ≤ k) (k1 : k < 8) : yus f N ad (8 * N + k) = ad k := by
  unfold yus
  rw [if_pos (by omega), show 8 * N + k - 8 * N = k by omega]
theorem ycs1 {m : ZN} {a : Int} {F : Int → Int} (h : ∀ j, znp' a j = true) : zr (zcc m a F) a = F := funext fun j => yr_cs (h j)
section YN
variable {d : Nat} {m : ZN}
theorem c_29 (K : ZN → Prop) : zcV d 29 [zA 8] m K = K (zsn m 8 2 0) := by
  refine zcV_eq (w_29 ?_) K
  simp (disch := first | trivial | assumption | omega | exact ynl rfl _ | exact znp_o rfl | rfl | (simp (disch := first | decide | omega) only [yfc, yr_so, yr_ss, yfcc, yr_cs]; first | assumption | omega)) only [yck_of, yb_id, yPI_some, yPJ_some, yPA_some, yPV_none, yfc, yr_so, yr_ss, yfcc, yr_cs, ybif_t, yrd_1, yrd_2, yfcl]
theorem c_28 (h1 : 0 ≤ zr m 8 1) (h2 : zr m 8 1 ≤ 1000) (h3 : 0 ≤ zr m 8 2) (h4 : zr m 8 2 ≤ 1000) (K : Int → ZN → Prop) : zcI d 28 [zA 8] m K = K (if zr m 8 1 + zr m 8 2 ≤ 24 then 1 else 0) m := by
  refine zcI_eq (w_28 ?_) K
  by_cases q : zr m 8 1 + zr m 8 2 ≤ 24
  · simp (disch := first | trivial | assumption | omega | exact ynl rfl _ | exact znp_o rfl | rfl | (simp (disch := first | decide | omega) only [yfc, yr_so, yr_ss, yfcc, yr_cs]; first | assumption | omega)) only [yck_of, yb_id, yPI_some, yPJ_some, yPA_some, yPV_none, yfc, yr_so, yr_ss, yfcc, yr_cs, ybif_t, yrd_1, yrd_2, yfcl, ↓if_neg, ↓if_pos, and_self]
  · simp (disch := first | trivial | assumption | omega | exact ynl rfl _ | exact znp_o rfl | rfl | (simp (disch := first | decide | omega) only [yfc, yr_so, yr_ss, yfcc, yr_cs]; first | assumption | omega)) only [yck_of, yb_id, yPI_some, yPJ_some, yPA_some, yPV_none, yfc, yr_so, yr_ss, yfcc, yr_cs, ybif_t, yrd_1, yrd_2, yfcl, ↓if_neg, ↓if_pos, and_self]
/-- all drafts are settled -/
theorem c_30s {T n : Int} {o : Option ZV} {M : ZN} {kd sg sd : Int → Int} {P : Option ZV → ZN → Prop} (W : yWA kd sg sd T) (hT : T ≤ 24) (n0 : 0 ≤ n) (n1 : n < T) (hM : ∀ a, ¬ (10 ≤ a ∧ a ≤ 109) → zr M a = zr m a)
    (hR : ∀ i, 0 ≤ i → i < T → yCR (zr M (10 + 4 * i)) (zr M (12 + 4 * i)) (zr M (13 + 4 * i)) (kd i) (sg i) (yA sd i)) (hB : ∀ i, n ≤ i → i < T → kd i ≤ 5 → zr M (10 + 4 * i) 5 = yCo kd sd i) (hI : yIC (zr M) 10 n kd sg sd)
    (h : ∀ o M2, (∀ a, ¬ (10 ≤ a ∧ a ≤ 109) → zr M2 a = zr m a) → (∀ i, 0 ≤ i → i < T → yCR (zr M2 (10 + 4 * i)) (zr M2 (12 + 4 * i)) (zr M2 (13 + 4 * i)) (kd i) (sg i) (yA sd i)) → (∀ i, n + 1 ≤ i → i < T → kd i ≤ 5 → zr M2 (10 + 4 * i) 5 = yCo kd sd i) → yIC (zr M2) 10 (n + 1) kd sg sd → zwpN (d + 4) 30 20 [some (zA 8), some (zI T), some (zI (n + 1)), o] [] M2 P) : zwpN (d + 4) 30 20 [some (zA 8), some (zI T), some (zI n), o] [] M P := by
  have hc := isC_l n0 (show n < 25 by omega)
  have wr := yWA_r W
  have Wn := W n n0 n1
  have Rn := hR n n0 n1
  -- what the new memory is, from its four cells
  have fin : ∀ (M2 : ZN) (o : Option ZV), (∀ a, a ≠ 10 + 4 * n → a ≠ 10 + 4 * n + 1 → zr M2 a = zr M a) → (∀ j, j ≠ 5 → j ≠ 6 → j ≠ 7 → zr M2 (10 + 4 * n) j = zr M (10 + 4 * n) j) → zr M2 (10 + 4 * n) 5 = yCo kd sd n → zr M2 (10 + 4 * n) 6 = yDp kd sd n → zr M2 (10 + 4 * n) 7 = yPa kd sd n → (∀ p, 0 ≤ p → p < 1000 → yTw (zr M2 (10 + 4 * n + 1)) p = yST kd sg sd n p) → zwpN (d + 4) 30 20 [some (zA 8), some (zI T), some (zI (n + 1)), o] [] M2 P := fun M2 o e1 e2 e5 e6 e7 et => by
    have oth : ∀ i, i ≠ n → zr M2 (10 + 4 * i) = zr M (10 + 4 * i) ∧ zr M2 (12 + 4 * i) = zr M (12 + 4 * i) ∧ zr M2 (13 + 4 * i) = zr M (13 + 4 * i) ∧ zr M2 (11 + 4 * i) = zr M (11 + 4 * i) := fun i hi => ⟨e1 _ (by omega) (by omega), e1 _ (by omega) (by omega), e1 _ (by omega) (by omega), e1 _ (by omega) (by omega)⟩
    have R2 : ∀ i, 0 ≤ i → i < T → yCR (zr M2 (10 + 4 * i)) (zr M2 (12 + 4 * i)) (zr M2 (13 + 4 * i)) (kd i) (sg i) (yA sd i) := fun i i0 i1 => by
      by_cases q : i = n
      · subst q
        rw [e1 (12 + 4 * i) (by omega) (by omega), e1 (13 + 4 * i) (by omega) (by omega)]
        unfold yCR
        rw [e2 0 (by decide) (by decide) (by decide), e2 1 (by decide) (by decide) (by decide), e2 2 (by decide) (by decide) (by decide), e2 3 (by decide) (by decide) (by decide), e2 4 (by decide) (by decide) (by decide), e2 9 (by decide) (by decide) (by decide)]
        exact Rn
      · obtain ⟨o1, o2, o3, o4⟩ := oth i q
        rw [o1, o2, o3]
        exact hR i i0 i1
    refine h o M2 (fun a ha => ?_) R2 (fun i i0 i1 hk => ?_) ⟨fun i i0 i1 => W i i0 (by omega), fun i i0 i1 => ⟨?_, ?_⟩, fun i i0 i1 p p0 p1 => ?_⟩
    · rw [e1 a (by omega) (by omega)]
      exact hM a ha
    · rw [(oth i (by omega)).1]
      exact hB i (by omega) i1 hk
    · have := R2 i i0 (by omega)
      rw [show 10 + 2 + 4 * i = 12 + 4 * i by omega, show 10 + 3 + 4 * i = 13 + 4 * i by omega]
      exact this
    · by_cases q : i = n
      · subst q
        exact ⟨e5, e6, e7⟩
      · rw [(oth i q).1]
        exact (hI.2.1 i i0 (by omega)).2
    · by_cases q : i = n
      · subst q
        rw [show 10 + 1 + 4 * i = 10 + 4 * i + 1 by omega]
        exact et p p0 p1
      · rw [show 10 + 1 + 4 * i = 11 + 4 * i by omega, (oth i q).2.2.2, show 11 + 4 * i = 10 + 1 + 4 * i by omega]
        exact hI.2.2 i i0 (by omega) p p0 p1
  have ra2 : (10 + 4 * n + 2 : Int) = 12 + 4 * n := by omega
  have ra3 : (10 + 4 * n + 3 : Int) = 13 + 4 * n := by omega
  refine w_30_20 ?_
  rw [if_pos n1, yl_p n0 (by omega)]
  have k0 := Rn.1
  by_cases q : kd n ≤ 5
  · have Rn2 : yCR (zr M (10 + 4 * n)) (zr M (10 + 4 * n + 2)) (zr M (10 + 4 * n + 3)) (kd n) (sg n) (yA sd n) := by rw [ra2, ra3]; exact Rn
    have g0 : zrd M (10 + 4 * n) 0 = zr M (10 + 4 * n) 0 := isC_f hc (Or.inl (by decide))
    simp only [isC_pos hc, isC_O hc, Bool.and_true, cond_true, g0, yck_of (show 0 ≤ n ∧ n < 25 by omega), if_neg (show ¬ 5 < zr M (10 + 4 * n) 0 by omega), yb_id (show -2147483648 ≤ n + 1 by omega) (show n + 1 ≤ 2147483647 by omega)]
    rw [c_7 hc Rn2 Wn q]
    have np1 := isC_np1 hc
    refine fin _ _ (fun a a1 a2 => ?_) (fun j j5 j6 j7 => ?_) ?_ ?_ ?_ (fun p p0 p1 => ?_)
    · rw [yfcc a2, yfc a1, yfc a1]
    · rw [yr_cc (by omega), yr_so j7, yr_so j6]
    · rw [yr_cc (by omega), yr_so (by decide), yr_so (by decide)]
      exact hB n (Int.le_refl _) n1 q
    · rw [yr_cc (by omega), yr_so (by decide), yr_ss (isC_np hc (Or.inl (by decide))), yDp_l q]
    · rw [yr_cc (by omega), yr_ss (isC_np hc (Or.inl (by decide))), yPa_l q]
    · rw [ycs1 np1, yTw_Pk (fun x x0 x1 => by have := yleaf_r Wn q x0 x1; omega) p0 p1, yST_l q]
  · obtain ⟨w1, w2⟩ := wr n n0 n1 (by omega)
    have x0 : yA sd n 0 = sd (8 * n) := by show sd (8 * n + 0) = _; rw [Int.add_zero]
    have x1 : yA sd n 1 = sd (8 * n + 1) := rfl
    have hxy := Rn.2.2.1 (by omega)
    rw [x0, x1] at hxy
    have hk9 := Wn.1
    have np1 := isC_np1 hc
    have ib := isC_l w1.1 (show sd (8 * n) < 25 by omega)
    have i1 := hI.2.1 (sd (8 * n)) w1.1 w1.2
    have t1 := hI.2.2 (sd (8 * n)) w1.1 w1.2
    have d1 := yDp_r W hT 24 (sd (8 * n)) w1.1 (by omega) (by omega)
    have tr : ∀ p, 0 ≤ p → p < 1000 → 0 ≤ yTw (zr M (10 + 4 * sd (8 * n) + 1)) p ∧ yTw (zr M (10 + 4 * sd (8 * n) + 1)) p ≤ 2 := fun p p0 p1 => by
      rw [show 10 + 4 * sd (8 * n) + 1 = 10 + 1 + 4 * sd (8 * n) by omega, t1 p p0 p1]
      exact yST_r W hT 24 _ p w1.1 (by omega) (by omega) p0 p1
    -- the walk, for a second part y
    have go : ∀ y, 0 ≤ y → y < n → y = (if kd n ≤ 7 then sd (8 * n + 1) else sd (8 * n)) → ∀ M2 : ZN, M2 = zcc (zsn (zsn (zsn M (10 + 4 * n) 6 (1 + max (zr M (10 + 4 * sd (8 * n)) 6) (zr M (10 + 4 * y) 6))) (10 + 4 * n) 5 (zor (zr M (10 + 4 * sd (8 * n)) 5) (zr M (10 + 4 * y) 5))) (10 + 4 * n) 7 (if kd n = 6 then zor (zr M (10 + 4 * sd (8 * n)) 7) (zr M (10 + 4 * y) 7) else zshl 1 n)) (10 + 4 * n + 1) (yPk (zr M (10 + 4 * n + 1)) (fun p => yjoin (kd n) (yTw (zr M (10 + 4 * sd (8 * n) + 1)) p) (yTw (zr M (10 + 4 * y + 1)) p)) 1000) → zwpN (d + 4) 30 20 [some (zA 8), some (zI T), some (zI (n + 1)), some (zA (10 + 4 * n))] [] M2 P := fun y y0 y1 hy M2 e => by
      subst e
      have i2 := hI.2.1 y y0 y1
      have t2 := hI.2.2 y y0 y1
      refine fin _ _ (fun a a1 a2 => ?_) (fun j j5 j6 j7 => ?_) ?_ ?_ ?_ (fun p p0 p1 => ?_)
      · rw [yfcc a2, yfc a1, yfc a1, yfc a1]
      · rw [yr_cc (by omega), yr_so j7, yr_so j5, yr_so j6]
      · rw [yr_cc (by omega), yr_so (by decide), yr_ss (isC_np hc (Or.inl (by decide))), yCo_o wr n0 n1 (by omega) (by omega), ← hy, i1.2.1, i2.2.1]
      · rw [yr_cc (by omega), yr_so (by decide), yr_so (by decide), yr_ss (isC_np hc (Or.inl (by decide))), yDp_o wr n0 n1 (by omega) (by omega), ← hy, i1.2.2.1, i2.2.2.1]
      · rw [yr_cc (by omega), yr_ss (isC_np hc (Or.inl (by decide))), yPa_o wr n0 n1 (by omega) (by omega), ← hy, i1.2.2.2, i2.2.2.2]
      · rw [ycs1 np1, yTw_Pk (fun x x0 x1 => by have := yjoin_r (kd := kd n) (y := yTw (zr M (10 + 4 * y + 1)) x) (tr x x0 x1); omega) p0 p1, yST_o wr n0 n1 (by omega) (by omega), ← hy, ← t1 p p0 p1, ← t2 p p0 p1, show 10 + 4 * sd (8 * n) + 1 = 10 + 1 + 4 * sd (8 * n) by omega, show 10 + 4 * y + 1 = 10 + 1 + 4 * y by omega]
    by_cases q7 : kd n ≤ 7
    · have w2 := w2 q7
      have ic := isC_l w2.1 (show sd (8 * n + 1) < 25 by omega)
      have i2 := hI.2.1 (sd (8 * n + 1)) w2.1 w2.2
      have d2 := yDp_r W hT 24 (sd (8 * n + 1)) w2.1 (by omega) (by omega)
      have hd : 0 ≤ zr M (10 + 4 * sd (8 * n)) 6 ∧ zr M (10 + 4 * sd (8 * n)) 6 ≤ 100 ∧ 0 ≤ zr M (10 + 4 * sd (8 * n + 1)) 6 ∧ zr M (10 + 4 * sd (8 * n + 1)) 6 ≤ 100 := by rw [i1.2.2.1, i2.2.2.1]; omega
      have g0 : zrd M (10 + 4 * n) 0 = zr M (10 + 4 * n) 0 := isC_f hc (Or.inl (by decide))
      have g2 : zrd M (10 + 4 * n) 2 = sd (8 * n) := by rw [isC_f hc (Or.inl (by decide))]; exact hxy.1
      have g3 : zrd M (10 + 4 * n) 3 = sd (8 * n + 1) := by rw [isC_f hc (Or.inl (by decide))]; exact hxy.2
      simp only [isC_pos hc, isC_O hc, Bool.and_true, cond_true, g0, g2, g3, yck_of (show 0 ≤ n ∧ n < 25 by omega), if_pos (show 5 < zr M (10 + 4 * n) 0 by omega), c_24 w1.1 (show sd (8 * n) ≤ 24 by omega), c_24 w2.1 (show sd (8 * n + 1) ≤ 24 by omega), if_neg (show ¬ sd (8 * n + 1) = -1 by omega), yb_id (show -2147483648 ≤ n + 1 by omega) (show n + 1 ≤ 2147483647 by omega)]
      rw [c_8 (kd := kd n) hc ib ic (by omega) (by omega) k0 (by omega) hk9.2 hd]
      exact go _ w2.1 w2.2 (if_pos q7).symm _ rfl
    · have hd : 0 ≤ zr M (10 + 4 * sd (8 * n)) 6 ∧ zr M (10 + 4 * sd (8 * n)) 6 ≤ 100 ∧ 0 ≤ zr M (10 + 4 * sd (8 * n)) 6 ∧ zr M (10 + 4 * sd (8 * n)) 6 ≤ 100 := by rw [i1.2.2.1]; omega
      have w8 : yA sd n 1 = -1 := Wn.2.2.2.2.2.2.2.2.2.2.2 (by omega)
      rw [x1] at w8
      have g0 : zrd M (10 + 4 * n) 0 = zr M (10 + 4 * n) 0 := isC_f hc (Or.inl (by decide))
      have g2 : zrd M (10 + 4 * n) 2 = sd (8 * n) := by rw [isC_f hc (Or.inl (by decide))]; exact hxy.1
      have g3 : zrd M (10 + 4 * n) 3 = -1 := by rw [isC_f hc (Or.inl (by decide)), hxy.2]; exact w8
      simp only [isC_pos hc, isC_O hc, Bool.and_true, cond_true, g0, g2, g3, yck_of (show 0 ≤ n ∧ n < 25 by omega), if_pos (show 5 < zr M (10 + 4 * n) 0 by omega), c_24 w1.1 (show sd (8 * n) ≤ 24 by omega), if_true, yb_id (show -2147483648 ≤ n + 1 by omega) (show n + 1 ≤ 2147483647 by omega)]
      rw [c_8 (kd := kd n) hc ib ib (by omega) (by omega) k0 (by omega) hk9.2 hd]
      exact go _ w1.1 w1.2 (if_neg q7).symm _ rfl
end YN
section YN2
variable {d : Nat} {m : ZN}
/-- all drafts are settled -/
theorem c_30 {T : Int} {K : ZN → Prop} {kd sg sd : Int → Int} (W : yWA kd sg sd T) (hT : T ≤ 24) (n0 : 0 ≤ zr m 8 1) (n1 : zr m 8 1 ≤ T) (hd : zr m 8 1 + zr m 8 2 = T)
    (hR : ∀ i, 0 ≤ i → i < T → yCR (zr m (10 + 4 * i)) (zr m (12 + 4 * i)) (zr m (13 + 4 * i)) (kd i) (sg i) (yA sd i)) (hB : ∀ i, zr m 8 1 ≤ i → i < T → kd i ≤ 5 → zr m (10 + 4 * i) 5 = yCo kd sd i) (hI : yIC (zr m) 10 (zr m 8 1) kd sg sd)
    (h : ∀ M2, (∀ a, ¬ (10 ≤ a ∧ a ≤ 109) → zr M2 a = zr m a) → yIC (zr M2) 10 T kd sg sd → K (zsn (zsn M2 8 1 T) 8 2 0)) : zcV (d + 4) 30 [zA 8] m K := by
  refine w_30 ?_
  rw [yb_id (by omega) (by omega), hd, show min T 24 = T by omega]
  refine yfor (fun n => ∀ o M, (∀ a, ¬ (10 ≤ a ∧ a ≤ 109) → zr M a = zr m a) → (∀ i, 0 ≤ i → i < T → yCR (zr M (10 + 4 * i)) (zr M (12 + 4 * i)) (zr M (13 + 4 * i)) (kd i) (sg i) (yA sd i)) → (∀ i, n ≤ i → i < T → kd i ≤ 5 → zr M (10 + 4 * i) 5 = yCo kd sd i) → yIC (zr M) 10 n kd sg sd → zwpN (d + 4) 30 20 [some (zA 8), some (zI T), some (zI n), o] [] M (zPV K)) (zr m 8 1) T n1 (fun n n0' n1' hW o M k1 k2 k3 k4 => ?_) (fun o M k1 k2 k3 k4 => ?_) none m (fun _ _ => rfl) hR hB hI
  · exact c_30s W hT (by omega) n1' k1 k2 k3 k4 (fun o M2 j1 j2 j3 j4 => hW o M2 j1 j2 j3 j4)
  · refine w_30_20 ?_
    rw [if_neg (by omega)]
    exact h M k1 k4
theorem c_169 {T : Int} {K : Int → ZN → Prop} {kd sg sd : Int → Int} (W : yWA kd sg sd T) (hT : T ≤ 24) (n0 : 0 ≤ zr m 8 1) (n1 : zr m 8 1 ≤ T) (hd : zr m 8 1 + zr m 8 2 = T)
    (hR : ∀ i, 0 ≤ i → i < T → yCR (zr m (10 + 4 * i)) (zr m (12 + 4 * i)) (zr m (13 + 4 * i)) (kd i) (sg i) (yA sd i)) (hB : ∀ i, zr m 8 1 ≤ i → i < T → kd i ≤ 5 → zr m (10 + 4 * i) 5 = yCo kd sd i) (hI : yIC (zr m) 10 (zr m 8 1) kd sg sd)
    (h : ∀ M2, (∀ a, ¬ (10 ≤ a ∧ a ≤ 109) → zr M2 a = zr m a) → yIC (zr M2) 10 T kd sg sd → K (T - 1) (zsn (zsn M2 8 1 T) 8 2 0)) : zcI (d + 5) 169 [zA 3] m K := by
  refine w_169 ?_
  simp only [c_28 n0 (show zr m 8 1 ≤ 1000 by omega) (show 0 ≤ zr m 8 2 by omega) (show zr m 8 2 ≤ 1000 by omega), if_pos (show zr m 8 1 + zr m 8 2 ≤ 24 by omega), if_neg (show ¬ (1 : Int) = 0 by decide)]
  refine c_30 W hT n0 n1 hd hR hB hI (fun M2 k1 k2 => ?_)
  have e : zr (zsn (zsn M2 8 1 T) 8 2 0) 8 1 = T := by rw [yr_so (by decide), yr_ss (znp_o rfl)]
  rw [e, yb_id (by omega) (by omega)]
  exact h M2 k1 k2
theorem c_169f (n0 : 0 ≤ zr m 8 1) (n1 : zr m 8 1 ≤ 1000) (d0 : 0 ≤ zr m 8 2) (d1 : zr m 8 2 ≤ 1000) (hT : 24 < zr m 8 1 + zr m 8 2) (K : Int → ZN → Prop) : zcI (d + 5) 169 [zA 3] m K = K (-106) (zsn (zsn m 8 2 0) 234 (-102 - -106) (zb (zr (zsn m 8 2 0) 234 (-102 - -106) + 1))) := by
  refine zcI_eq (w_169 ?_) K
  simp only [c_28 n0 n1 d0 d1, if_neg (show ¬ zr m 8 1 + zr m 8 2 ≤ 24 by omega), if_true, c_29, c_168 (show (-106 : Int) ≤ -106 by decide) (show (-106 : Int) ≤ -102 by decide)]
  trivial
/-- a draft's own fields -/
theorem c_25 {k s : Int} (h1 : 0 ≤ zr m 8 1) (h2 : 0 ≤ zr m 8 2) (h3 : zr m 8 1 + zr m 8 2 ≤ 24) (K : Int → ZN → Prop) : zcA (d + 2) 25 [zA 8, zI k, zI s] m K = K (10 + 4 * (zr m 8 1 + zr m 8 2)) (zsn (zsn (zsn (zsn (zsn (zsn (zsn (zsn m (10 + 4 * (zr m 8 1 + zr m 8 2)) 0 k) (10 + 4 * (zr m 8 1 + zr m 8 2)) 1 s) (10 + 4 * (zr m 8 1 + zr m 8 2)) 2 (-1)) (10 + 4 * (zr m 8 1 + zr m 8 2)) 3 (-1)) (10 + 4 * (zr m 8 1 + zr m 8 2)) 4 0) (10 + 4 * (zr m 8 1 + zr m 8 2)) 5 0) (10 + 4 * (zr m 8 1 + zr m 8 2)) 9 0) 8 2 (zr m 8 2 + 1)) := by
  have e : zb (zr m 8 1 + zr m 8 2) = zr m 8 1 + zr m 8 2 := yb_id (by omega) (by omega)
  generalize hn : zr m 8 1 + zr m 8 2 = n at e h3 ⊢
  have hc := isC_l (show 0 ≤ n by omega) (show n < 25 by omega)
  refine zcA_eq (w_25 ?_) K
  simp only [hn]
  simp (disch := first | trivial | assumption | omega | exact ynl rfl _ | exact znp_o rfl | rfl | (simp (disch := first | decide | omega) only [yfc, yr_so, yr_ss, yfcc, yr_cs]; first | assumption | omega)) only [yck_of, yb_id, yPI_some, yPJ_some, yPA_some, yPV_none, yfc, yr_so, yr_ss, yfcc, yr_cs, ybif_t, yrd_1, yrd_2, yfcl, isC_pos, isC_O, isC_t, isC_c, isC_w, isC_f, isC_I1, isC_01, isC_I2, isC_I3, isC_02, isC_03, isC_n1, isC_n2, isC_n3, isC_r1, isC_r2, isC_r3, isC_np, isC_np1, isC_np2, isC_np3, Bool.true_or, Bool.and_true, Bool.true_and, cond_true, ↓c_24 (show 0 ≤ n by omega) h3, ↓c_1 hc, and_self]
theorem c_26 {k x y : Int} (h1 : 0 ≤ zr m 8 1) (h2 : 0 ≤ zr m 8 2) (h3 : zr m 8 1 + zr m 8 2 ≤ 24) (K : ZN → Prop) : zcV (d + 2) 26 [zA 8, zI k, zI x, zI y] m K = K (zsn (zsn (zsn (zsn (zsn (zsn (zsn (zsn m (10 + 4 * (zr m 8 1 + zr m 8 2)) 0 k) (10 + 4 * (zr m 8 1 + zr m 8 2)) 1 (-1)) (10 + 4 * (zr m 8 1 + zr m 8 2)) 2 x) (10 + 4 * (zr m 8 1 + zr m 8 2)) 3 y) (10 + 4 * (zr m 8 1 + zr m 8 2)) 4 0) (10 + 4 * (zr m 8 1 + zr m 8 2)) 5 0) (10 + 4 * (zr m 8 1 + zr m 8 2)) 9 0) 8 2 (zr m 8 2 + 1)) := by
  have e : zb (zr m 8 1 + zr m 8 2) = zr m 8 1 + zr m 8 2 := yb_id (by omega) (by omega)
  generalize hn : zr m 8 1 + zr m 8 2 = n at e h3 ⊢
  have hc := isC_l (show 0 ≤ n by omega) (show n < 25 by omega)
  refine zcV_eq (w_26 ?_) K
  simp only [hn]
  simp (disch := first | trivial | assumption | omega | exact ynl rfl _ | exact znp_o rfl | rfl | (simp (disch := first | decide | omega) only [yfc, yr_so, yr_ss, yfcc, yr_cs]; first | assumption | omega)) only [yck_of, yb_id, yPI_some, yPJ_some, yPA_some, yPV_none, yfc, yr_so, yr_ss, yfcc, yr_cs, ybif_t, yrd_1, yrd_2, yfcl, isC_pos, isC_O, isC_t, isC_c, isC_w, isC_f, isC_I1, isC_01, isC_I2, isC_I3, isC_02, isC_03, isC_n1, isC_n2, isC_n3, isC_r1, isC_r2, isC_r3, isC_np, isC_np1, isC_np2, isC_np3, Bool.true_or, Bool.and_true, Bool.true_and, cond_true, ↓c_24 (show 0 ≤ n by omega) h3, ↓c_1 hc, and_self]
end YN2
