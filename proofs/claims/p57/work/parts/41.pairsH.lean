/-! ===== pairs: conditions let go of, and read ===== -/
section PH
variable {d : Nat} {m : ZN} {L : Int} {xs : Int → Int} {Q : Int → Int → ZN → Prop}
theorem ysn_id {a j v : Int} (h : zr m a j = v) : zsn m a j v = m := zN_ext fun a' j' => by
  rw [zr_zsn]
  by_cases q : (a' = a ∧ j' = j) ∧ zpv a j = none
  · rw [if_pos q, q.1.1, q.1.2, h]
  · rw [if_neg q]
theorem c_88 {x : Int} (x0 : 0 ≤ x) (hh : ∀ s, 0 ≤ s → s < 8 → -1 ≤ zr m 213 s ∧ zr m 213 s ≤ 100) (K : ZN → Prop) : zcV (d + 1) 88 [zA 212, zI x] m K = K (zcc m 213 (fun s => if 0 ≤ s ∧ s < 8 then (if x + 10 ≤ zr m 213 s then -1 else zr m 213 s) else zr m 213 s)) := by
  have np : ∀ j, znp' 213 j = true := ynl rfl
  refine zcV_eq (w_88 ?_) K
  refine yfill (lo := 0) (n := 8) (fun s => if x + 10 ≤ zr m 213 s then -1 else zr m 213 s) (zr m 213) np (fun _ => rfl) (fun i M => zwpN (d + 1) 88 2 [some (zA 212), some (zI x), some (zI i)] [] M _) (by decide) (fun i i0 i1 hW => ?_) ?_
  · refine w_88_2 ?_
    rw [if_pos i1]
    simp only [Int.zero_add] at hW ⊢
    have hi := hh i i0 i1
    have er : zr (zcc m 213 (fun s => if 0 ≤ s ∧ s < i then (if x + 10 ≤ zr m 213 s then -1 else zr m 213 s) else zr m 213 s)) 213 i = zr m 213 i := by
      rw [yr_cs (np _), if_neg (by omega)]
    generalize zcc m 213 (fun s => if 0 ≤ s ∧ s < i then (if x + 10 ≤ zr m 213 s then -1 else zr m 213 s) else zr m 213 s) = M at hW er ⊢
    rw [c_77 i0 i1 (by rw [er]; exact hi), er, yb_id (by omega) (by omega)]
    by_cases q : x + 10 ≤ zr m 213 i
    · rw [if_neg (by rw [if_neg (by omega)]; omega), yck_of ⟨i0, i1⟩]
      rw [if_pos q] at hW
      exact hW
    · rw [if_pos (by split <;> omega)]
      rw [if_neg q, ysn_id er] at hW
      exact hW
  · refine w_88_2 ?_
    rw [if_neg (by decide)]
    rfl
/-- the reference forgets the shelves of a condition let go of: 261 where equal, 312 where no longer there -/
theorem c_261l {x : Int} {M : ZN} {P : Option ZV → ZN → Prop} (hx : zr M 236 10 = x) (h : P (some (zI x)) (zcc M 237 (fun s => if 0 ≤ s ∧ s < 8 then (if zr M 237 s = 2 ∧ zr M 250 s = x then 0 else zr M 237 s) else zr M 237 s))) : zwpN (d + 1) 261 26 [some (zA 236), some (zI 0)] [] M P := by
  have np : ∀ j, znp' 237 j = true := ynl rfl
  refine yfill (lo := 0) (n := 8) (fun s => if zr M 237 s = 2 ∧ zr M 250 s = x then 0 else zr M 237 s) (zr M 237) np (fun _ => rfl) (fun i M' => zwpN (d + 1) 261 26 [some (zA 236), some (zI i)] [] M' P) (by decide) (fun i i0 i1 hW => ?_) ?_
  · refine w_261_26 ?_
    rw [if_pos i1]
    simp only [Int.zero_add] at hW ⊢
    have er : zr (zcc M 237 (fun s => if 0 ≤ s ∧ s < i then (if zr M 237 s = 2 ∧ zr M 250 s = x then 0 else zr M 237 s) else zr M 237 s)) 237 i = zr M 237 i := by
      rw [yr_cs (np _), if_neg (by omega)]
    have e2 : zr (zcc M 237 (fun s => if 0 ≤ s ∧ s < i then (if zr M 237 s = 2 ∧ zr M 250 s = x then 0 else zr M 237 s) else zr M 237 s)) 250 i = zr M 250 i := by
      rw [yfcc (by decide)]
    have e3 : zr (zcc M 237 (fun s => if 0 ≤ s ∧ s < i then (if zr M 237 s = 2 ∧ zr M 250 s = x then 0 else zr M 237 s) else zr M 237 s)) 236 10 = x := by
      rw [yfcc (by decide), hx]
    generalize zcc M 237 (fun s => if 0 ≤ s ∧ s < i then (if zr M 237 s = 2 ∧ zr M 250 s = x then 0 else zr M 237 s) else zr M 237 s) = M' at hW er e2 e3 ⊢
    simp only [yck_of (show 0 ≤ i ∧ i < 8 from ⟨i0, i1⟩), er, e2, e3]
    rw [yb_id (by omega) (by omega)]
    by_cases q1 : zr M 237 i = 2
    · by_cases q2 : zr M 250 i = x
      · rw [if_pos q1, if_pos q2]
        rw [if_pos ⟨q1, q2⟩] at hW
        exact hW
      · rw [if_pos q1, if_neg q2]
        rw [if_neg (fun z => q2 z.2)] at hW
        exact hW
    · rw [if_neg q1]
      rw [if_neg (fun z => q1 z.1)] at hW
      exact hW
  · refine w_261_26 ?_
    rw [if_neg (by decide), yfcc (by decide), hx]
    exact h
theorem p_drop (I : yInv L xs m) (hQ : ∀ r m2, yInv L xs m2 → Q r r m2) : zcI (d + 9) 137 [zA 3] m (fun v m1 => zcI (d + 9) 261 [zA 236] m1 (fun v2 m2 => Q v v2 m2)) := by
  obtain ⟨n1, n2, n3⟩ := I.2.2.1.1
  have iC := I.2.2.1.2.1
  have iM := I.2.2.1.2.2
  refine w_137 ?_
  by_cases q : zr m 8 1 = 0
  · simp (disch := first | trivial | assumption | omega | exact ynl rfl _ | exact znp_o rfl | rfl | (simp (disch := first | decide | omega) only [yfc, yr_so, yr_ss, yfcc, yr_cs]; first | assumption | omega)) only [yck_of, yb_id, yPI_some, yPJ_some, yPA_some, yPV_none, yfc, yr_so, yr_ss, yfcc, yr_cs, ybif_t, yrd_1, yrd_2, yfcl, ↓c_181, ↓c_182, ↓c_183, ↓c_184, ↓c_185, ↓c_186, ↓c_187, ↓c_73, ↓c_33, ↓c_23, ↓c_170, ↓c_168, ↓if_pos, ↓if_neg, yl_lt, yl_gt, yl_eq]
    (refine w_261 ?_; simp (disch := first | trivial | assumption | omega | exact ynl rfl _ | exact znp_o rfl | rfl | (simp (disch := first | decide | omega) only [yfc, yr_so, yr_ss, yfcc, yr_cs]; first | assumption | omega)) only [yck_of, yb_id, yPI_some, yPJ_some, yPA_some, yPV_none, yfc, yr_so, yr_ss, yfcc, yr_cs, ybif_t, yrd_1, yrd_2, yfcl, ↓c_192, ↓c_193, ↓c_194, ↓c_251, ↓c_264, ↓c_191, ↓if_pos, ↓if_neg, yl_lt, yl_gt, yl_eq]; exact p_ref (by decide) (by decide) I (hQ _))
  · have s3 := fun s s0 s1 => yS3 I (s := s) s0 s1
    rw [if_neg q, yb_id (by omega) (by omega), yr_ss (znp_o rfl)]
    generalize hN : zr m 8 1 = N at *
    rw [c_88 (by omega) (fun s s0 s1 => by rw [yfc (by decide)]; rcases s3 s s0 s1 with h | h | h <;> omega)]
    refine w_261 ?_
    have f10 : zr (zcc (zsn m 8 1 (N - 1)) 213 (fun s => if 0 ≤ s ∧ s < 8 then (if N - 1 + 10 ≤ zr (zsn m 8 1 (N - 1)) 213 s then -1 else zr (zsn m 8 1 (N - 1)) 213 s) else zr (zsn m 8 1 (N - 1)) 213 s)) 236 10 = N := by rw [yfcc (by decide), yfc (by decide), ← n1]
    have fo : ∀ a, a ≠ 8 → a ≠ 213 → zr (zcc (zsn m 8 1 (N - 1)) 213 (fun s => if 0 ≤ s ∧ s < 8 then (if N - 1 + 10 ≤ zr (zsn m 8 1 (N - 1)) 213 s then -1 else zr (zsn m 8 1 (N - 1)) 213 s) else zr (zsn m 8 1 (N - 1)) 213 s)) a = zr m a := fun a h h' => by rw [yfcc h', yfc h]
    have f8 : zr (zcc (zsn m 8 1 (N - 1)) 213 (fun s => if 0 ≤ s ∧ s < 8 then (if N - 1 + 10 ≤ zr (zsn m 8 1 (N - 1)) 213 s then -1 else zr (zsn m 8 1 (N - 1)) 213 s) else zr (zsn m 8 1 (N - 1)) 213 s)) 8 1 = N - 1 := by rw [yfcc (by decide), yr_ss (znp_o rfl)]
    have f82 : zr (zcc (zsn m 8 1 (N - 1)) 213 (fun s => if 0 ≤ s ∧ s < 8 then (if N - 1 + 10 ≤ zr (zsn m 8 1 (N - 1)) 213 s then -1 else zr (zsn m 8 1 (N - 1)) 213 s) else zr (zsn m 8 1 (N - 1)) 213 s)) 8 2 = 0 := by rw [yfcc (by decide), yr_so (by decide)]; exact n3
    have np : ∀ j, znp' 213 j = true := ynl rfl
    have f213 : ∀ s, 0 ≤ s → s < 8 → zr (zcc (zsn m 8 1 (N - 1)) 213 (fun s => if 0 ≤ s ∧ s < 8 then (if N - 1 + 10 ≤ zr (zsn m 8 1 (N - 1)) 213 s then -1 else zr (zsn m 8 1 (N - 1)) 213 s) else zr (zsn m 8 1 (N - 1)) 213 s)) 213 s = if N - 1 + 10 ≤ zr m 213 s then -1 else zr m 213 s := fun s s0 s1 => by rw [yr_cs (np _), if_pos ⟨s0, s1⟩, yfc (by decide)]
    generalize zcc (zsn m 8 1 (N - 1)) 213 (fun s => if 0 ≤ s ∧ s < 8 then (if N - 1 + 10 ≤ zr (zsn m 8 1 (N - 1)) 213 s then -1 else zr (zsn m 8 1 (N - 1)) 213 s) else zr (zsn m 8 1 (N - 1)) 213 s) = M at *
    rw [f10, if_neg q, yb_id (by omega) (by omega), f8]
    refine c_261l (x := N - 1) (yr_ss (znp_o rfl)) ?_
    have np7 : ∀ j, znp' 237 j = true := ynl rfl
    show Q _ _ _
    have g1 : ∀ a, a ≠ 236 → a ≠ 237 → zr (zcc (zsn M 236 10 (N - 1)) 237 (fun s => if 0 ≤ s ∧ s < 8 then (if zr (zsn M 236 10 (N - 1)) 237 s = 2 ∧ zr (zsn M 236 10 (N - 1)) 250 s = N - 1 then 0 else zr (zsn M 236 10 (N - 1)) 237 s) else zr (zsn M 236 10 (N - 1)) 237 s)) a = zr M a := fun a h h' => by rw [yfcc h', yfc h]
    have g2 : ∀ j, j ≠ 10 → zr (zcc (zsn M 236 10 (N - 1)) 237 (fun s => if 0 ≤ s ∧ s < 8 then (if zr (zsn M 236 10 (N - 1)) 237 s = 2 ∧ zr (zsn M 236 10 (N - 1)) 250 s = N - 1 then 0 else zr (zsn M 236 10 (N - 1)) 237 s) else zr (zsn M 236 10 (N - 1)) 237 s)) 236 j = zr M 236 j := fun j h => by rw [yfcc (by decide), yr_so h]
    have g3 : zr (zcc (zsn M 236 10 (N - 1)) 237 (fun s => if 0 ≤ s ∧ s < 8 then (if zr (zsn M 236 10 (N - 1)) 237 s = 2 ∧ zr (zsn M 236 10 (N - 1)) 250 s = N - 1 then 0 else zr (zsn M 236 10 (N - 1)) 237 s) else zr (zsn M 236 10 (N - 1)) 237 s)) 236 10 = N - 1 := by rw [yfcc (by decide), yr_ss (znp_o rfl)]
    have g4 : ∀ s, 0 ≤ s → s < 8 → zr (zcc (zsn M 236 10 (N - 1)) 237 (fun s => if 0 ≤ s ∧ s < 8 then (if zr (zsn M 236 10 (N - 1)) 237 s = 2 ∧ zr (zsn M 236 10 (N - 1)) 250 s = N - 1 then 0 else zr (zsn M 236 10 (N - 1)) 237 s) else zr (zsn M 236 10 (N - 1)) 237 s)) 237 s = if zr m 237 s = 2 ∧ zr m 250 s = N - 1 then 0 else zr m 237 s := fun s s0 s1 => by
      rw [yr_cs (np7 _), if_pos ⟨s0, s1⟩]
      have x1 : zr (zsn M 236 10 (N - 1)) 237 = zr m 237 := by rw [yfc (by decide), fo 237 (by decide) (by decide)]
      have x2 : zr (zsn M 236 10 (N - 1)) 250 = zr m 250 := by rw [yfc (by decide), fo 250 (by decide) (by decide)]
      rw [x1, x2]
    generalize zcc (zsn M 236 10 (N - 1)) 237 (fun s => if 0 ≤ s ∧ s < 8 then (if zr (zsn M 236 10 (N - 1)) 237 s = 2 ∧ zr (zsn M 236 10 (N - 1)) 250 s = N - 1 then 0 else zr (zsn M 236 10 (N - 1)) 237 s) else zr (zsn M 236 10 (N - 1)) 237 s) = M2 at *
    have go : ∀ a, a ≠ 8 → a ≠ 213 → a ≠ 236 → a ≠ 237 → zr M2 a = zr m a := fun a h1 h2 h3 h4 => (g1 a h3 h4).trans (fo a h1 h2)
    have k8 : zr M2 8 1 = N - 1 := by rw [g1 8 (by decide) (by decide), f8]
    refine hQ _ _ (yInv_CS I (fun a ha => go a (by omega) (by omega) (by omega) (by omega)) (fun j hj => ?_) ⟨⟨?_, ?_, ?_⟩, ?_, ?_⟩ (fun s s0 s1 => ?_))
    · rw [g2 j hj, fo 236 (by omega) (by omega)]
    · rw [k8, g3]
    · rw [k8]
      omega
    · rw [g1 8 (by decide) (by decide), f82]
    · rw [k8, go 254 (by decide) (by decide) (by decide) (by decide), go 255 (by decide) (by decide) (by decide) (by decide), go 256 (by decide) (by decide) (by decide) (by decide)]
      obtain ⟨a1, a2, a3⟩ := iC
      exact yIC_fr2 ⟨fun i i0 i1 => a1 i i0 (by omega), fun i i0 i1 => a2 i i0 (by omega), fun i i0 i1 => a3 i i0 (by omega)⟩ (fun a h h' => go a (by omega) (by omega) (by omega) (by omega))
    · rw [k8, go 254 (by decide) (by decide) (by decide) (by decide), go 255 (by decide) (by decide) (by decide) (by decide), go 256 (by decide) (by decide) (by decide) (by decide)]
      exact yIM_fr (fun i i0 i1 => iM i i0 (by omega)) (fun a h h' => go a (by omega) (by omega) (by omega) (by omega))
    · have hs := I.2.2.2.2.1 s s0 s1
      have z := s3 s s0 s1
      rw [g1 213 (by decide) (by decide), f213 s s0 s1, g4 s s0 s1, k8, go 214 (by decide) (by decide) (by decide) (by decide), go 215 (by decide) (by decide) (by decide) (by decide), go 238 (by decide) (by decide) (by decide) (by decide), go 239 (by decide) (by decide) (by decide) (by decide), go 250 (by decide) (by decide) (by decide) (by decide), go (241 + s) (by omega) (by omega) (by omega) (by omega)]
      rw [hN] at hs
      rcases hs with h | h | h
      · rw [if_neg (by omega), if_neg (by omega)]
        exact Or.inl h
      · rw [if_neg (by omega), if_neg (by omega)]
        exact Or.inr (Or.inl h)
      · by_cases qn : zr m 250 s = N - 1
        · rw [if_pos (by omega), if_pos ⟨h.1, qn⟩]
          exact Or.inl ⟨rfl, rfl⟩
        · rw [if_neg (by omega), if_neg (fun z => qn z.2)]
          exact Or.inr (Or.inr ⟨h.1, h.2.1, h.2.2.1, by omega⟩)
theorem p_condOf (I : yInv L xs m) (hQ : ∀ r m2, yInv L xs m2 → Q r r m2) (i x : Int) : zcI (d + 9) 138 [zA 3, zI i, zI x] m (fun v m1 => zcI (d + 9) 262 [zA 236, zI i, zI x] m1 (fun v2 m2 => Q v v2 m2)) := by
  obtain ⟨n1, n2, n3⟩ := I.2.2.1.1
  have iC := I.2.2.1.2.1
  have iM := I.2.2.1.2.2
  refine w_138 ?_
  by_cases q1 : 0 ≤ i ∧ i < zr m 8 1
  · have hc := isC_l q1.1 (show i < 25 by omega)
    obtain ⟨r, r5, r6, r7⟩ := iC.2.1 i q1.1 q1.2
    have W := iC.1 i q1.1 q1.2
    obtain ⟨m5, m6, m7, _⟩ := iM i q1.1 q1.2
    have x0 : yA (zr m 256) i 0 = zr m 256 (8 * i) := by show zr m 256 (8 * i + 0) = _; rw [Int.add_zero]
    have x1 : yA (zr m 256) i 1 = zr m 256 (8 * i + 1) := rfl
    have f0 : zrd m (10 + 4 * i) 0 = zr m 254 i := by rw [isC_f hc (Or.inl (by decide))]; exact r.1
    have f1 : zrd m (10 + 4 * i) 1 = zr m 255 i := by rw [isC_f hc (Or.inl (by decide))]; exact r.2.1
    have f2 : zrd m (10 + 4 * i) 2 = if zr m 254 i < 6 then -1 else zr m 256 (8 * i) := by
      rw [isC_f hc (Or.inl (by decide))]
      by_cases q : zr m 254 i < 6
      · rw [if_pos q]; exact (r.2.2.2.1 (by omega)).1
      · rw [if_neg q, ← x0]; exact (r.2.2.1 (by omega)).1
    have f3 : zrd m (10 + 4 * i) 3 = if zr m 254 i = 6 then zr m 256 (8 * i + 1) else if zr m 254 i = 7 then zr m 256 (8 * i + 1) else -1 := by
      rw [isC_f hc (Or.inl (by decide))]
      have w8 := W.2.2.2.2.2.2.2.2.2.2.2
      have w9 := W.1
      by_cases q : zr m 254 i < 6
      · rw [if_neg (by omega), if_neg (by omega)]; exact (r.2.2.2.1 (by omega)).2
      · rw [(r.2.2.1 (by omega)).2, x1]
        by_cases q6 : zr m 254 i = 6
        · rw [if_pos q6]
        · rw [if_neg q6]
          by_cases q7 : zr m 254 i = 7
          · rw [if_pos q7]
          · rw [if_neg q7, ← x1]
            exact w8 (by omega)
    have f5 : zrd m (10 + 4 * i) 5 = zr m 262 i := by rw [isC_f hc (Or.inl (by decide)), r5, m5]
    have f6 : zrd m (10 + 4 * i) 6 = zr m 263 i := by rw [isC_f hc (Or.inl (by decide)), r6, m6]
    have f7 : zrd m (10 + 4 * i) 7 = zr m 264 i := by rw [isC_f hc (Or.inl (by decide)), r7, m7]
    have x4 : zb (8 * i) = 8 * i := yb_id (by omega) (by omega)
    have x5 : zb (8 * i + 1) = 8 * i + 1 := yb_id (by omega) (by omega)
    by_cases q2 : 0 ≤ x ∧ x ≤ 6
    · simp only [c_23 (d := d + 7) n2.1 n2.2, if_pos q1, if_neg (show ¬ (1 : Int) = 0 by decide), c_24 (d := d + 7) q1.1 (show i ≤ 24 by omega), isC_pos hc, isC_O hc, Bool.and_true, cond_true, f0, f1, f2, f3, f5, f6, f7]
      have go : ∀ v, (if x = 0 then v = zr m 254 i else if x = 1 then v = (if zr m 254 i < 6 then -1 else zr m 256 (8 * i)) else if x = 2 then v = (if zr m 254 i = 6 then zr m 256 (8 * i + 1) else if zr m 254 i = 7 then zr m 256 (8 * i + 1) else -1) else if x = 3 then v = zr m 262 i else if x = 4 then v = zr m 255 i else if x = 5 then v = zr m 263 i else v = zr m 264 i) → zcI (d + 9) 262 [zA 236, zI i, zI x] m (fun v2 m2 => Q v v2 m2) := fun v hv => by
        refine w_262 ?_
        simp only [c_193 (d := d + 7) (m := m) (show 0 ≤ zr m 236 10 by omega) (show zr m 236 10 ≤ 24 by omega), ← n1, if_pos q1, if_neg (show ¬ (1 : Int) = 0 by decide), c_192, if_pos q2, yck_of (show 0 ≤ i ∧ i < 24 by omega), x4, x5, yck_of (show 0 ≤ 8 * i ∧ 8 * i < 192 by omega), yck_of (show 0 ≤ 8 * i + 1 ∧ 8 * i + 1 < 192 by omega)]
        rcases (show x = 0 ∨ x = 1 ∨ x = 2 ∨ x = 3 ∨ x = 4 ∨ x = 5 ∨ x = 6 by omega) with rfl | rfl | rfl | rfl | rfl | rfl | rfl
        · rw [if_pos rfl] at hv ⊢
          rw [hv]; exact hQ _ _ I
        · rw [if_neg (by decide), if_pos rfl] at hv ⊢
          rw [hv]
          split
          · exact hQ _ _ I
          · exact hQ _ _ I
        · rw [if_neg (by decide), if_neg (by decide), if_pos rfl] at hv ⊢
          rw [hv]
          split
          · exact hQ _ _ I
          · split
            · exact hQ _ _ I
            · exact hQ _ _ I
        · rw [if_neg (by decide), if_neg (by decide), if_neg (by decide), if_pos rfl] at hv ⊢
          rw [hv]; exact hQ _ _ I
        · rw [if_neg (by decide), if_neg (by decide), if_neg (by decide), if_neg (by decide), if_pos rfl] at hv ⊢
          rw [hv]; exact hQ _ _ I
        · rw [if_neg (by decide), if_neg (by decide), if_neg (by decide), if_neg (by decide), if_neg (by decide), if_pos rfl] at hv ⊢
          rw [hv]; exact hQ _ _ I
        · rw [if_neg (by decide), if_neg (by decide), if_neg (by decide), if_neg (by decide), if_neg (by decide), if_neg (by decide)] at hv ⊢
          rw [hv]; exact hQ _ _ I
      rcases (show x = 0 ∨ x = 1 ∨ x = 2 ∨ x = 3 ∨ x = 4 ∨ x = 5 ∨ x = 6 by omega) with rfl | rfl | rfl | rfl | rfl | rfl | rfl <;> exact go _ rfl
    · simp (disch := first | trivial | assumption | omega | exact ynl rfl _ | exact znp_o rfl | rfl | (simp (disch := first | decide | omega) only [yfc, yr_so, yr_ss, yfcc, yr_cs]; first | assumption | omega)) only [yck_of, yb_id, yPI_some, yPJ_some, yPA_some, yPV_none, yfc, yr_so, yr_ss, yfcc, yr_cs, ybif_t, yrd_1, yrd_2, yfcl, isC_pos, isC_O, isC_t, isC_c, isC_w, isC_f, isC_I1, isC_01, isC_I2, isC_I3, isC_02, isC_03, isC_n1, isC_n2, isC_n3, isC_r1, isC_r2, isC_r3, isC_np, isC_np1, isC_np2, isC_np3, Bool.true_or, Bool.and_true, Bool.true_and, cond_true, ↓c_181, ↓c_182, ↓c_183, ↓c_184, ↓c_185, ↓c_186, ↓c_187, ↓c_73, ↓c_33, ↓c_23, ↓c_170, ↓c_168, ↓if_pos, ↓if_neg, yl_lt, yl_gt, yl_eq, ↓c_24, f0]
      (refine w_262 ?_; simp (disch := first | trivial | assumption | omega | exact ynl rfl _ | exact znp_o rfl | rfl | (simp (disch := first | decide | omega) only [yfc, yr_so, yr_ss, yfcc, yr_cs]; first | assumption | omega)) only [yck_of, yb_id, yPI_some, yPJ_some, yPA_some, yPV_none, yfc, yr_so, yr_ss, yfcc, yr_cs, ybif_t, yrd_1, yrd_2, yfcl, ↓c_192, ↓c_193, ↓c_194, ↓c_251, ↓c_264, ↓c_191, ↓if_pos, ↓if_neg, yl_lt, yl_gt, yl_eq, ↓c_193]; exact p_ref (by decide) (by decide) I (hQ _))
  · simp (disch := first | trivial | assumption | omega | exact ynl rfl _ | exact znp_o rfl | rfl | (simp (disch := first | decide | omega) only [yfc, yr_so, yr_ss, yfcc, yr_cs]; first | assumption | omega)) only [yck_of, yb_id, yPI_some, yPJ_some, yPA_some, yPV_none, yfc, yr_so, yr_ss, yfcc, yr_cs, ybif_t, yrd_1, yrd_2, yfcl, ↓c_181, ↓c_182, ↓c_183, ↓c_184, ↓c_185, ↓c_186, ↓c_187, ↓c_73, ↓c_33, ↓c_23, ↓c_170, ↓c_168, ↓if_pos, ↓if_neg, yl_lt, yl_gt, yl_eq]
    (refine w_262 ?_; simp (disch := first | trivial | assumption | omega | exact ynl rfl _ | exact znp_o rfl | rfl | (simp (disch := first | decide | omega) only [yfc, yr_so, yr_ss, yfcc, yr_cs]; first | assumption | omega)) only [yck_of, yb_id, yPI_some, yPJ_some, yPA_some, yPV_none, yfc, yr_so, yr_ss, yfcc, yr_cs, ybif_t, yrd_1, yrd_2, yfcl, ↓c_192, ↓c_193, ↓c_194, ↓c_251, ↓c_264, ↓c_191, ↓if_pos, ↓if_neg, yl_lt, yl_gt, yl_eq, ↓c_193]; exact p_ref (by decide) (by decide) I (hQ _))
end PH
