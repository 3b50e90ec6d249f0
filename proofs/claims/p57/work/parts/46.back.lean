/-! ===== pair: brought back ===== -/
section BK
variable {d : Nat} {m : ZN} {L : Int} {xs : Int → Int} {Q : Int → Int → ZN → Prop}
theorem c_312l {M : ZN} {P : Option ZV → ZN → Prop} (h : ∀ M2, (∀ c, c ≠ 237 → zr M2 c = zr M c) → (∀ s, 0 ≤ s → s < 8 → zr M2 237 s = if zr M 237 s = 2 ∧ ¬ zr M 250 s < zr M 236 10 then 0 else zr M 237 s) → P (some (zI 1)) M2) : zwpN (d + 1) 312 97 [some (zA 236), some (zI 0)] [] M P := by
  have np : ∀ j, znp' 237 j = true := ynl rfl
  refine yfill (lo := 0) (n := 8) (fun s => if zr M 237 s = 2 ∧ ¬ zr M 250 s < zr M 236 10 then 0 else zr M 237 s) (zr M 237) np (fun _ => rfl) (fun i M' => zwpN (d + 1) 312 97 [some (zA 236), some (zI i)] [] M' P) (by decide) (fun i i0 i1 hW => ?_) ?_
  · refine w_312_97 ?_
    rw [if_pos i1]
    simp only [Int.zero_add] at hW ⊢
    have er : zr (zcc M 237 (fun s => if 0 ≤ s ∧ s < i then (if zr M 237 s = 2 ∧ ¬ zr M 250 s < zr M 236 10 then 0 else zr M 237 s) else zr M 237 s)) 237 i = zr M 237 i := by
      rw [yr_cs (np _), if_neg (by omega)]
    have e2 : zr (zcc M 237 (fun s => if 0 ≤ s ∧ s < i then (if zr M 237 s = 2 ∧ ¬ zr M 250 s < zr M 236 10 then 0 else zr M 237 s) else zr M 237 s)) 250 i = zr M 250 i := by
      rw [yfcc (by decide)]
    have e3 : zr (zcc M 237 (fun s => if 0 ≤ s ∧ s < i then (if zr M 237 s = 2 ∧ ¬ zr M 250 s < zr M 236 10 then 0 else zr M 237 s) else zr M 237 s)) 236 10 = zr M 236 10 := by
      rw [yfcc (by decide)]
    generalize zcc M 237 (fun s => if 0 ≤ s ∧ s < i then (if zr M 237 s = 2 ∧ ¬ zr M 250 s < zr M 236 10 then 0 else zr M 237 s) else zr M 237 s) = M' at hW er e2 e3 ⊢
    simp only [yck_of (show 0 ≤ i ∧ i < 8 from ⟨i0, i1⟩), er, e2, e3]
    rw [yb_id (by omega) (by omega)]
    by_cases q1 : zr M 237 i = 2
    · by_cases q2 : zr M 250 i < zr M 236 10
      · rw [if_pos q1, if_pos q2]
        rw [if_neg (fun z => z.2 q2)] at hW
        exact hW
      · rw [if_pos q1, if_neg q2]
        rw [if_pos ⟨q1, q2⟩] at hW
        exact hW
    · rw [if_neg q1]
      rw [if_neg (fun z => q1 z.1)] at hW
      exact hW
  · refine w_312_97 ?_
    rw [if_neg (by decide)]
    refine h _ (fun c hc => by rw [yfcc hc]) (fun s s0 s1 => ?_)
    rw [yr_cs (np _), if_pos (by omega)]
theorem p_back (I : yInv L xs m) (hQ : ∀ r m2, yInv L xs m2 → Q r r m2) : zcI (d + 9) 166 [zA 3] m (fun v m1 => zcI (d + 9) 312 [zA 236] m1 (fun v2 m2 => Q v v2 m2)) := by
  obtain ⟨kk, kr⟩ := I.2.2.2.1
  have s3 := fun s s0 s1 => yS3 I (s := s) s0 s1
  have hS := I.2.2.2.2.1
  have hN8 := I.2.2.1.1.2.1
  have np5 : ∀ j, znp' 5 j = true := ynl rfl
  have np213 : ∀ j, znp' 213 j = true := ynl rfl
  refine w_166 ?_
  by_cases q : zr m 3 11 = 0
  · simp (disch := first | trivial | assumption | omega | exact ynl rfl _ | exact znp_o rfl | rfl | (simp (disch := first | decide | omega) only [yfc, yr_so, yr_ss, yfcc, yr_cs]; first | assumption | omega)) only [yck_of, yb_id, yPI_some, yPJ_some, yPA_some, yPV_none, yfc, yr_so, yr_ss, yfcc, yr_cs, ybif_t, yrd_1, yrd_2, yfcl, ↓c_181, ↓c_182, ↓c_183, ↓c_184, ↓c_185, ↓c_186, ↓c_187, ↓c_73, ↓c_33, ↓c_23, ↓c_170, ↓c_168, ↓if_pos, ↓if_neg, yl_lt, yl_gt, yl_eq]
    (refine w_312 ?_; simp (disch := first | trivial | assumption | omega | exact ynl rfl _ | exact znp_o rfl | rfl | (simp (disch := first | decide | omega) only [yfc, yr_so, yr_ss, yfcc, yr_cs]; first | assumption | omega)) only [yck_of, yb_id, yPI_some, yPJ_some, yPA_some, yPV_none, yfc, yr_so, yr_ss, yfcc, yr_cs, ybif_t, yrd_1, yrd_2, yfcl, ↓c_192, ↓c_193, ↓c_194, ↓c_251, ↓c_264, ↓c_191, ↓if_pos, ↓if_neg, yl_lt, yl_gt, yl_eq]; exact p_ref (by decide) (by decide) I (hQ _))
  rcases kr with k0 | ⟨k1, ⟨l1, l2, l3, l4, l5, l6, l7⟩, ⟨n1, n2⟩, kC⟩
  · exact absurd k0 q
  rw [if_neg q]
  refine w_32a ?_
  rw [yck_of (by decide)]
  have a1 : ∀ (M : ZN) (u v w : Int), (∀ c, c ≠ 4 → c ≠ 5 → zr (zsn (zsn (zsn (zcc M 5 (fun j => if 0 ≤ j ∧ j < 0 + 180 then zr M 7 (0 + (j - 0)) else zr M 5 j)) 4 1 u) 4 2 v) 4 3 w) c = zr M c) ∧ (∀ j, 0 ≤ j → j < 180 → zr (zsn (zsn (zsn (zcc M 5 (fun j => if 0 ≤ j ∧ j < 0 + 180 then zr M 7 (0 + (j - 0)) else zr M 5 j)) 4 1 u) 4 2 v) 4 3 w) 5 j = zr M 7 j) ∧ zr (zsn (zsn (zsn (zcc M 5 (fun j => if 0 ≤ j ∧ j < 0 + 180 then zr M 7 (0 + (j - 0)) else zr M 5 j)) 4 1 u) 4 2 v) 4 3 w) 4 1 = u ∧ zr (zsn (zsn (zsn (zcc M 5 (fun j => if 0 ≤ j ∧ j < 0 + 180 then zr M 7 (0 + (j - 0)) else zr M 5 j)) 4 1 u) 4 2 v) 4 3 w) 4 2 = v ∧ zr (zsn (zsn (zsn (zcc M 5 (fun j => if 0 ≤ j ∧ j < 0 + 180 then zr M 7 (0 + (j - 0)) else zr M 5 j)) 4 1 u) 4 2 v) 4 3 w) 4 3 = w := fun M u v w => by
    refine ⟨fun c h6 h7 => ?_, fun j j0 j1 => ?_, ?_, ?_, ?_⟩
    · rw [yfc h6, yfc h6, yfc h6, yfcc h7]
    · rw [yfc (by decide), yfc (by decide), yfc (by decide), yr_cs (np5 _), if_pos (by omega), show 0 + (j - 0) = j by omega]
    · rw [yr_so (by decide), yr_so (by decide), yr_ss (znp_o rfl)]
    · rw [yr_so (by decide), yr_ss (znp_o rfl)]
    · rw [yr_ss (znp_o rfl)]
  have e1 : zr (zcc m 5 (fun j => if 0 ≤ j ∧ j < 0 + 180 then zr m 7 (0 + (j - 0)) else zr m 5 j)) 6 1 = zr m 6 1 := by rw [yfcc (by decide)]
  rw [e1]
  have e2 : zr (zsn (zcc m 5 (fun j => if 0 ≤ j ∧ j < 0 + 180 then zr m 7 (0 + (j - 0)) else zr m 5 j)) 4 1 (zr m 6 1)) 6 2 = zr m 6 2 := by rw [yfc (by decide), yfcc (by decide)]
  rw [e2]
  have e3 : zr (zsn (zsn (zcc m 5 (fun j => if 0 ≤ j ∧ j < 0 + 180 then zr m 7 (0 + (j - 0)) else zr m 5 j)) 4 1 (zr m 6 1)) 4 2 (zr m 6 2)) 6 3 = zr m 6 3 := by rw [yfc (by decide), yfc (by decide), yfcc (by decide)]
  rw [e3]
  obtain ⟨b1, b2, b3, b4, b5⟩ := a1 m (zr m 6 1) (zr m 6 2) (zr m 6 3)
  generalize zsn (zsn (zsn (zcc m 5 (fun j => if 0 ≤ j ∧ j < 0 + 180 then zr m 7 (0 + (j - 0)) else zr m 5 j)) 4 1 (zr m 6 1)) 4 2 (zr m 6 2)) 4 3 (zr m 6 3) = M1 at *
  generalize hN : zr m 110 1 = N at *
  refine c_22a (d := d + 6) (N := N) (kd := zr m 258) (sg := zr m 259) (sd := zr m 260) (by rw [b1 110 (by decide) (by decide), hN]) n2.1 n2.2 (yIC_fr2 kC (fun a a0 a1 => b1 a (by omega) (by omega))) (fun M2 k1 k2 => ?_)
  have g0 : zr (zsn M2 8 1 N) 8 1 = N := yr_ss (znp_o rfl)
  have g82 : zr (zsn M2 8 1 N) 8 2 = 0 := by rw [yr_so (by decide), k1 8 (by decide), b1 8 (by decide) (by decide)]; exact I.2.2.1.1.2.2
  have f2 : ∀ c, c ≠ 8 → c ≠ 4 → c ≠ 5 → ¬ (10 ≤ c ∧ c ≤ 109) → zr (zsn M2 8 1 N) c = zr m c := fun c c1 c2 c3 c5 => by
    rw [yfc c1, k1 c c5, b1 c c2 c3]
  have g4 : zr (zsn M2 8 1 N) 4 = zr M1 4 := by rw [yfc (by decide), k1 4 (by decide)]
  have g5 : zr (zsn M2 8 1 N) 5 = zr M1 5 := by rw [yfc (by decide), k1 5 (by decide)]
  have gC : ∀ c, 10 ≤ c → c ≤ 109 → zr (zsn M2 8 1 N) c = zr M2 c := fun c c0 c1 => by rw [yfc (by omega)]
  rw [g0]
  generalize zsn M2 8 1 N = M3 at *
  have e213 : zr M3 213 = zr m 213 := f2 213 (by decide) (by decide) (by decide) (by decide)
  rw [c_88 n2.1 (fun s s0 s1 => by rw [e213]; rcases s3 s s0 s1 with h | h | h <;> omega), e213]
  have r1 : ∀ c, c ≠ 213 → zr (zcc M3 213 (fun s => if 0 ≤ s ∧ s < 8 then (if N + 10 ≤ zr m 213 s then -1 else zr m 213 s) else zr m 213 s)) c = zr M3 c := fun c hc => by rw [yfcc hc]
  have r2 : ∀ s, 0 ≤ s → s < 8 → zr (zcc M3 213 (fun s => if 0 ≤ s ∧ s < 8 then (if N + 10 ≤ zr m 213 s then -1 else zr m 213 s) else zr m 213 s)) 213 s = if N + 10 ≤ zr m 213 s then -1 else zr m 213 s := fun s s0 s1 => by rw [yr_cs (np213 _), if_pos ⟨s0, s1⟩]
  generalize zcc M3 213 (fun s => if 0 ≤ s ∧ s < 8 then (if N + 10 ≤ zr m 213 s then -1 else zr m 213 s) else zr m 213 s) = M4 at *
  have m236 : zr M4 236 = zr m 236 := by rw [r1 236 (by decide), f2 236 (by decide) (by decide) (by decide) (by decide)]
  refine w_312 ?_
  rw [m236, ← kk, if_neg q]
  simp (disch := first | trivial | assumption | omega | exact ynl rfl _ | exact znp_o rfl | rfl | (simp (disch := first | decide | omega) only [yfc, yr_so, yr_ss, yfcc, yr_cs]; first | assumption | omega)) only [yck_of, yb_id, yPI_some, yPJ_some, yPA_some, yPV_none, yfc, yr_so, yr_ss, yfcc, yr_cs, ybif_t, yrd_1, yrd_2, yfcl]
  have o1 : ∀ c, c ≠ 236 → zr (zsn (zsn (zsn (zsn M4 236 9 (zr m 236 18)) 236 10 (zr M4 236 19)) 236 11 (zr M4 236 20)) 236 12 (zr M4 236 21)) c = zr M4 c := fun c hc => by rw [yfc hc, yfc hc, yfc hc, yfc hc]
  have o2 : ∀ j, j ≠ 9 → j ≠ 10 → j ≠ 11 → j ≠ 12 → zr (zsn (zsn (zsn (zsn M4 236 9 (zr m 236 18)) 236 10 (zr M4 236 19)) 236 11 (zr M4 236 20)) 236 12 (zr M4 236 21)) 236 j = zr M4 236 j := fun j j1 j2 j3 j4 => by rw [yr_so j4, yr_so j3, yr_so j2, yr_so j1]
  have o3 : zr (zsn (zsn (zsn (zsn M4 236 9 (zr m 236 18)) 236 10 (zr M4 236 19)) 236 11 (zr M4 236 20)) 236 12 (zr M4 236 21)) 236 9 = zr m 236 18 ∧ zr (zsn (zsn (zsn (zsn M4 236 9 (zr m 236 18)) 236 10 (zr M4 236 19)) 236 11 (zr M4 236 20)) 236 12 (zr M4 236 21)) 236 10 = zr M4 236 19 ∧ zr (zsn (zsn (zsn (zsn M4 236 9 (zr m 236 18)) 236 10 (zr M4 236 19)) 236 11 (zr M4 236 20)) 236 12 (zr M4 236 21)) 236 11 = zr M4 236 20 ∧ zr (zsn (zsn (zsn (zsn M4 236 9 (zr m 236 18)) 236 10 (zr M4 236 19)) 236 11 (zr M4 236 20)) 236 12 (zr M4 236 21)) 236 12 = zr M4 236 21 := by
    refine ⟨?_, ?_, ?_, ?_⟩ <;> simp (disch := first | trivial | assumption | omega | exact ynl rfl _ | exact znp_o rfl | rfl | (simp (disch := first | decide | omega) only [yfc, yr_so, yr_ss, yfcc, yr_cs]; first | assumption | omega)) only [yck_of, yb_id, yPI_some, yPJ_some, yPA_some, yPV_none, yfc, yr_so, yr_ss, yfcc, yr_cs, ybif_t, yrd_1, yrd_2, yfcl]
  generalize zsn (zsn (zsn (zsn M4 236 9 (zr m 236 18)) 236 10 (zr M4 236 19)) 236 11 (zr M4 236 20)) 236 12 (zr M4 236 21) = M5 at *
  refine c_310 (n := 180) (by decide) (by decide) rfl rfl rfl rfl rfl (fun _ => rfl) (fun _ => rfl) (ynl rfl) (ynl rfl) (by decide) (fun M6 u1 v1 => ?_)
  refine c_310 (n := 24) (by decide) (by decide) rfl rfl rfl rfl rfl (fun _ => rfl) (fun _ => rfl) (ynl rfl) (ynl rfl) (by decide) (fun M7 u2 v2 => ?_)
  refine c_310 (n := 24) (by decide) (by decide) rfl rfl rfl rfl rfl (fun _ => rfl) (fun _ => rfl) (ynl rfl) (ynl rfl) (by decide) (fun M8 u3 v3 => ?_)
  refine c_310 (n := 192) (by decide) (by decide) rfl rfl rfl rfl rfl (fun _ => rfl) (fun _ => rfl) (ynl rfl) (ynl rfl) (by decide) (fun M9 u4 v4 => ?_)
  have U : ∀ c, c ≠ 253 → c ≠ 254 → c ≠ 255 → c ≠ 256 → zr M9 c = zr M5 c := fun c c1 c2 c3 c4 => by rw [u4 c c4, u3 c c3, u2 c c2, u1 c c1]
  have V : ∀ c, c ≠ 8 → c ≠ 4 → c ≠ 5 → ¬ (10 ≤ c ∧ c ≤ 109) → c ≠ 213 → c ≠ 236 → zr M5 c = zr m c := fun c c1 c2 c3 c4 c5 c6 => by rw [o1 c c6, r1 c c5, f2 c c1 c2 c3 c4]
  have w253 : ∀ j, 0 ≤ j → j < 180 → zr M9 253 j = zr m 257 j := fun j j0 j1 => by rw [u4 253 (by decide), u3 253 (by decide), u2 253 (by decide), v1 j j0 j1, V 257 (by decide) (by decide) (by decide) (by decide) (by decide) (by decide)]
  have w254 : ∀ j, 0 ≤ j → j < 24 → zr M9 254 j = zr m 258 j := fun j j0 j1 => by rw [u4 254 (by decide), u3 254 (by decide), v2 j j0 j1, u1 258 (by decide), V 258 (by decide) (by decide) (by decide) (by decide) (by decide) (by decide)]
  have w255 : ∀ j, 0 ≤ j → j < 24 → zr M9 255 j = zr m 259 j := fun j j0 j1 => by rw [u4 255 (by decide), v3 j j0 j1, u2 259 (by decide), u1 259 (by decide), V 259 (by decide) (by decide) (by decide) (by decide) (by decide) (by decide)]
  have w256 : ∀ j, 0 ≤ j → j < 192 → zr M9 256 j = zr m 260 j := fun j j0 j1 => by rw [v4 j j0 j1, u3 260 (by decide), u2 260 (by decide), u1 260 (by decide), V 260 (by decide) (by decide) (by decide) (by decide) (by decide) (by decide)]
  obtain ⟨t1, t2, t3, t4⟩ := o3
  rw [m236] at t2 t3 t4
  have t10 : zr M9 236 10 = N := by rw [U 236 (by decide) (by decide) (by decide) (by decide), t2, ← n1]
  have hk : ∀ i, 0 ≤ i → i < N → zr m 258 i = zr M9 254 i ∧ zr m 259 i = zr M9 255 i ∧ ∀ k, 0 ≤ k → k < 8 → zr m 260 (8 * i + k) = zr M9 256 (8 * i + k) := fun i i0 i1 => ⟨(w254 i i0 (by omega)).symm, (w255 i i0 (by omega)).symm, fun k k0 k1 => (w256 _ (by omega) (by omega)).symm⟩
  have IC9 : yIC (zr M9) 10 N (zr M9 254) (zr M9 255) (zr M9 256) := yIC_c (yIC_fr k2 (by omega) (fun a a0 a1 => by rw [U a (by omega) (by omega) (by omega) (by omega), o1 a (by omega), r1 a (by omega), gC a (by omega) (by omega)])) n2.2 hk
  refine c_219 (d := d + 4) (f := 0) (by rw [t10]; exact IC9.1) (by rw [t10]; exact n2.2) (by decide) (by rw [t10]; exact n2.1) (fun i i0 i1 => by omega) (fun M10 x1 x2 => ?_)
  rw [t10] at x2
  refine c_312l (d := d + 8) (fun M11 y1 y2 => ?_)
  have Z : ∀ c, c ≠ 237 → ¬ (261 ≤ c ∧ c ≤ 264) → zr M11 c = zr M9 c := fun c c1 c2 => by rw [y1 c c1, x1 c c2]
  have T : ∀ c, c ≠ 237 → ¬ (261 ≤ c ∧ c ≤ 264) → c ≠ 253 → c ≠ 254 → c ≠ 255 → c ≠ 256 → c ≠ 236 → c ≠ 213 → zr M11 c = zr M3 c := fun c c1 c2 c3 c4 c5 c6 c7 c8 => by rw [Z c c1 c2, U c c3 c4 c5 c6, o1 c c7, r1 c c8]
  have T2 : ∀ c, c ≠ 237 → ¬ (261 ≤ c ∧ c ≤ 264) → c ≠ 253 → c ≠ 254 → c ≠ 255 → c ≠ 256 → c ≠ 236 → c ≠ 213 → c ≠ 8 → c ≠ 4 → c ≠ 5 → ¬ (10 ≤ c ∧ c ≤ 109) → zr M11 c = zr m c := fun c c1 c2 c3 c4 c5 c6 c7 c8 c9 d1 d2 d3 => by rw [T c c1 c2 c3 c4 c5 c6 c7 c8, f2 c c9 d1 d2 d3]
  have z236 : zr M11 236 = zr M5 236 := by rw [Z 236 (by decide) (by decide), U 236 (by decide) (by decide) (by decide) (by decide)]
  have z8 : zr M11 8 = zr M3 8 := T 8 (by decide) (by decide) (by decide) (by decide) (by decide) (by decide) (by decide) (by decide)
  have z4 : zr M11 4 = zr M1 4 := by rw [T 4 (by decide) (by decide) (by decide) (by decide) (by decide) (by decide) (by decide) (by decide), g4]
  have z5 : zr M11 5 = zr M1 5 := by rw [T 5 (by decide) (by decide) (by decide) (by decide) (by decide) (by decide) (by decide) (by decide), g5]
  have z254 : zr M11 254 = zr M9 254 := Z 254 (by decide) (by decide)
  have z255 : zr M11 255 = zr M9 255 := Z 255 (by decide) (by decide)
  have z256 : zr M11 256 = zr M9 256 := Z 256 (by decide) (by decide)
  refine hQ _ _ (yInv_LCS I (fun a ha => T2 a (by omega) (by omega) (by omega) (by omega) (by omega) (by omega) (by omega) (by omega) (by omega) (by omega) (by omega) (by omega)) (fun j hj => ?_) ⟨?_, ?_, ?_, ?_, ?_, ?_, fun j j0 j1 => ?_⟩ ⟨⟨?_, ?_, ?_⟩, ?_, ?_⟩ (fun s s0 s1 => ?_))
  · rw [z236, o2 j (by omega) (by omega) (by omega) (by omega), m236]
  · rw [z4, z236, b3, t1, l1]
  · rw [z4, b3]
    exact l2
  · rw [z4, z236, b4, t3, l3]
  · rw [z4, b4]
    exact l4
  · rw [z4, z236, b5, t4, l5]
  · rw [z4, b5]
    exact l6
  · rw [z4, b3] at j1
    rw [z5, b2 j j0 (by omega), Z 253 (by decide) (by decide), w253 j j0 (by omega)]
    exact l7 j j0 j1
  · rw [z8, g0, z236, t2, ← n1]
  · rw [z8, g0]
    exact n2
  · rw [z8, g82]
  · rw [z8, g0, z254, z255, z256]
    exact yIC_fr IC9 (by omega) (fun a a0 a1 => Z a (by omega) (by omega))
  · rw [z8, g0, z254, z255, z256]
    exact yIM_fr x2 (fun a a0 a1 => y1 a (by omega))
  · have hs := hS s s0 s1
    have z := s3 s s0 s1
    have p237 : zr M10 237 = zr m 237 := by rw [x1 237 (by decide), U 237 (by decide) (by decide) (by decide) (by decide), V 237 (by decide) (by decide) (by decide) (by decide) (by decide) (by decide)]
    have p250 : zr M10 250 = zr m 250 := by rw [x1 250 (by decide), U 250 (by decide) (by decide) (by decide) (by decide), V 250 (by decide) (by decide) (by decide) (by decide) (by decide) (by decide)]
    have p236 : zr M10 236 10 = N := by rw [x1 236 (by decide), t10]
    have p213 : zr M11 213 s = if N + 10 ≤ zr m 213 s then -1 else zr m 213 s := by rw [Z 213 (by decide) (by decide), U 213 (by decide) (by decide) (by decide) (by decide), o1 213 (by decide), r2 s s0 s1]
    rw [p213, y2 s s0 s1, p237, p250, p236, z8, g0, T2 214 (by decide) (by decide) (by decide) (by decide) (by decide) (by decide) (by decide) (by decide) (by decide) (by decide) (by decide) (by decide), T2 215 (by decide) (by decide) (by decide) (by decide) (by decide) (by decide) (by decide) (by decide) (by decide) (by decide) (by decide) (by decide), T2 238 (by decide) (by decide) (by decide) (by decide) (by decide) (by decide) (by decide) (by decide) (by decide) (by decide) (by decide) (by decide), T2 239 (by decide) (by decide) (by decide) (by decide) (by decide) (by decide) (by decide) (by decide) (by decide) (by decide) (by decide) (by decide), T2 250 (by decide) (by decide) (by decide) (by decide) (by decide) (by decide) (by decide) (by decide) (by decide) (by decide) (by decide) (by decide), T2 (241 + s) (by omega) (by omega) (by omega) (by omega) (by omega) (by omega) (by omega) (by omega) (by omega) (by omega) (by omega) (by omega)]
    rcases hs with h | h | h
    · rw [if_neg (by omega), if_neg (by omega)]
      exact Or.inl h
    · rw [if_neg (by omega), if_neg (by omega)]
      exact Or.inr (Or.inl h)
    · by_cases qn : N ≤ zr m 250 s
      · rw [if_pos (by omega), if_pos ⟨h.1, by omega⟩]
        exact Or.inl ⟨rfl, rfl⟩
      · rw [if_neg (by omega), if_neg (fun z => z.2 (by omega))]
        exact Or.inr (Or.inr ⟨h.1, h.2.1, h.2.2.1, by omega⟩)
end BK
