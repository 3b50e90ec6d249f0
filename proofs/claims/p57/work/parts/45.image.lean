/-! ===== pairs: what is kept, and brought back ===== -/
section IM
variable {d : Nat} {m : ZN} {L : Int} {xs : Int → Int} {Q : Int → Int → ZN → Prop}
theorem c_310 {X Y n : Int} {K : ZN → Prop} (hn : 0 ≤ n) (hn2 : n < 1000) (p1 : zpos X = true) (p2 : zpos Y = true) (k1 : zkL Y = true) (k2 : zkI X = true) (k3 : zk0 Y = true) (l1 : ∀ M, zln M X = n) (l2 : ∀ M, zln M Y = n) (np : ∀ j, znp' Y j = true) (npx : ∀ j, znp' X j = true) (hne : X ≠ Y)
    (h : ∀ M2, (∀ c, c ≠ Y → zr M2 c = zr m c) → (∀ j, 0 ≤ j → j < n → zr M2 Y j = zr m X j) → K M2) : zcV d 310 [zA X, zA Y] m K := by
  refine w_310 ?_
  refine yfill (lo := 0) (n := n) (zr m X) (zr m Y) np (fun _ => rfl) (fun i M' => zwpN d 310 2 [some (zA X), some (zA Y), some (zI i)] [] M' (zPV K)) hn (fun i i0 i1 hW => ?_) ?_
  · refine w_310_2 ?_
    simp only [Int.zero_add] at hW ⊢
    simp only [p1, p2, k1, k2, k3, l1, l2, cond_true, if_pos i1, yck_of (show 0 ≤ i ∧ i < n from ⟨i0, i1⟩), yrd_np (npx i), yfcc hne, yb_id (show -2147483648 ≤ i + 1 by omega) (show i + 1 ≤ 2147483647 by omega)]
    exact hW
  · refine w_310_2 ?_
    simp only [Int.zero_add, p1, p2, k1, l1, l2, cond_true, if_neg (show ¬ n < n by omega)]
    refine h _ (fun c hc => by rw [yfcc hc]) (fun j j0 j1 => ?_)
    rw [yr_cs (np _), if_pos ⟨j0, j1⟩]
theorem yb8 (m : ZN) (X : Int) (i : Int) (i0 : 0 ≤ i) (i1 : i < 24) : ∀ k, 0 ≤ k → k < 8 → 0 ≤ 8 * i + k ∧ 8 * i + k < 192 := fun k _ _ => by omega
theorem p_image (I : yInv L xs m) (hQ : ∀ r m2, yInv L xs m2 → Q r r m2) : zcI (d + 9) 165 [zA 3] m (fun v m1 => zcI (d + 9) 311 [zA 236] m1 (fun v2 m2 => Q v v2 m2)) := by
  obtain ⟨n1, n2, n3⟩ := I.2.2.1.1
  have iC := I.2.2.1.2.1
  obtain ⟨l1, l2, l3, l4, l5, l6, l7⟩ := I.2.1
  have np7 : ∀ j, znp' 7 j = true := ynl rfl
  refine w_165 (w_32b ?_)
  rw [yck_of (by decide)]
  have a1 : ∀ (M : ZN) (u v w : Int), (∀ c, c ≠ 6 → c ≠ 7 → zr (zsn (zsn (zsn (zcc M 7 (fun j => if 0 ≤ j ∧ j < 0 + 180 then zr M 5 (0 + (j - 0)) else zr M 7 j)) 6 1 u) 6 2 v) 6 3 w) c = zr M c) ∧ (∀ j, 0 ≤ j → j < 180 → zr (zsn (zsn (zsn (zcc M 7 (fun j => if 0 ≤ j ∧ j < 0 + 180 then zr M 5 (0 + (j - 0)) else zr M 7 j)) 6 1 u) 6 2 v) 6 3 w) 7 j = zr M 5 j) ∧ zr (zsn (zsn (zsn (zcc M 7 (fun j => if 0 ≤ j ∧ j < 0 + 180 then zr M 5 (0 + (j - 0)) else zr M 7 j)) 6 1 u) 6 2 v) 6 3 w) 6 1 = u ∧ zr (zsn (zsn (zsn (zcc M 7 (fun j => if 0 ≤ j ∧ j < 0 + 180 then zr M 5 (0 + (j - 0)) else zr M 7 j)) 6 1 u) 6 2 v) 6 3 w) 6 2 = v ∧ zr (zsn (zsn (zsn (zcc M 7 (fun j => if 0 ≤ j ∧ j < 0 + 180 then zr M 5 (0 + (j - 0)) else zr M 7 j)) 6 1 u) 6 2 v) 6 3 w) 6 3 = w := fun M u v w => by
    refine ⟨fun c h6 h7 => ?_, fun j j0 j1 => ?_, ?_, ?_, ?_⟩
    · rw [yfc h6, yfc h6, yfc h6, yfcc h7]
    · rw [yfc (by decide), yfc (by decide), yfc (by decide), yr_cs (np7 _), if_pos (by omega), show 0 + (j - 0) = j by omega]
    · rw [yr_so (by decide), yr_so (by decide), yr_ss (znp_o rfl)]
    · rw [yr_so (by decide), yr_ss (znp_o rfl)]
    · rw [yr_ss (znp_o rfl)]
  have e1 : zr (zcc m 7 (fun j => if 0 ≤ j ∧ j < 0 + 180 then zr m 5 (0 + (j - 0)) else zr m 7 j)) 4 1 = zr m 4 1 := by rw [yfcc (by decide)]
  rw [e1]
  have e2 : zr (zsn (zcc m 7 (fun j => if 0 ≤ j ∧ j < 0 + 180 then zr m 5 (0 + (j - 0)) else zr m 7 j)) 6 1 (zr m 4 1)) 4 2 = zr m 4 2 := by rw [yfc (by decide), yfcc (by decide)]
  rw [e2]
  have e3 : zr (zsn (zsn (zcc m 7 (fun j => if 0 ≤ j ∧ j < 0 + 180 then zr m 5 (0 + (j - 0)) else zr m 7 j)) 6 1 (zr m 4 1)) 6 2 (zr m 4 2)) 4 3 = zr m 4 3 := by rw [yfc (by decide), yfc (by decide), yfcc (by decide)]
  rw [e3]
  obtain ⟨b1, b2, b3, b4, b5⟩ := a1 m (zr m 4 1) (zr m 4 2) (zr m 4 3)
  generalize zsn (zsn (zsn (zcc m 7 (fun j => if 0 ≤ j ∧ j < 0 + 180 then zr m 5 (0 + (j - 0)) else zr m 7 j)) 6 1 (zr m 4 1)) 6 2 (zr m 4 2)) 6 3 (zr m 4 3) = M1 at *
  refine c_22b (d := d + 6) (N := zr m 8 1) (kd := zr m 254) (sg := zr m 255) (sd := zr m 256) (by rw [b1 8 (by decide) (by decide)]) n2.1 n2.2 (yIC_fr2 iC (fun a a0 a1 => b1 a (by omega) (by omega))) (fun M2 k1 k2 => ?_)
  rw [yck_of (by decide)]
  refine w_311 ?_
  rw [yck_of (by decide)]
  have f2 : ∀ c, c ≠ 6 → c ≠ 7 → c ≠ 110 → c ≠ 3 → ¬ (112 ≤ c ∧ c ≤ 211) → zr (zsn (zsn M2 110 1 (zr m 8 1)) 3 11 1) c = zr m c := fun c c1 c2 c3 c4 c5 => by
    rw [yfc c4, yfc c3, k1 c c5, b1 c c1 c2]
  have g6 : zr (zsn (zsn M2 110 1 (zr m 8 1)) 3 11 1) 6 = zr M1 6 := by rw [yfc (by decide), yfc (by decide), k1 6 (by decide)]
  have g7 : zr (zsn (zsn M2 110 1 (zr m 8 1)) 3 11 1) 7 = zr M1 7 := by rw [yfc (by decide), yfc (by decide), k1 7 (by decide)]
  have g110 : zr (zsn (zsn M2 110 1 (zr m 8 1)) 3 11 1) 110 1 = zr m 8 1 := by rw [yfc (by decide), yr_ss (znp_o rfl)]
  have g3 : zr (zsn (zsn M2 110 1 (zr m 8 1)) 3 11 1) 3 11 = 1 := by rw [yr_ss (znp_o rfl)]
  have gC : ∀ c, 112 ≤ c → c ≤ 211 → zr (zsn (zsn M2 110 1 (zr m 8 1)) 3 11 1) c = zr M2 c := fun c c0 c1 => by rw [yfc (by omega), yfc (by omega)]
  generalize zsn (zsn M2 110 1 (zr m 8 1)) 3 11 1 = M3 at *
  simp (disch := first | trivial | assumption | omega | exact ynl rfl _ | exact znp_o rfl | rfl | (simp (disch := first | decide | omega) only [yfc, yr_so, yr_ss, yfcc, yr_cs]; first | assumption | omega)) only [yck_of, yb_id, yPI_some, yPJ_some, yPA_some, yPV_none, yfc, yr_so, yr_ss, yfcc, yr_cs, ybif_t, yrd_1, yrd_2, yfcl]
  have h1 : ∀ c, c ≠ 236 → zr (zsn (zsn (zsn (zsn (zsn M3 236 17 1) 236 18 (zr M3 236 9)) 236 19 (zr M3 236 10)) 236 20 (zr M3 236 11)) 236 21 (zr M3 236 12)) c = zr M3 c := fun c hc => by rw [yfc hc, yfc hc, yfc hc, yfc hc, yfc hc]
  have h2 : ∀ j, j ≠ 17 → j ≠ 18 → j ≠ 19 → j ≠ 20 → j ≠ 21 → zr (zsn (zsn (zsn (zsn (zsn M3 236 17 1) 236 18 (zr M3 236 9)) 236 19 (zr M3 236 10)) 236 20 (zr M3 236 11)) 236 21 (zr M3 236 12)) 236 j = zr M3 236 j := fun j j1 j2 j3 j4 j5 => by rw [yr_so j5, yr_so j4, yr_so j3, yr_so j2, yr_so j1]
  have h3 : zr (zsn (zsn (zsn (zsn (zsn M3 236 17 1) 236 18 (zr M3 236 9)) 236 19 (zr M3 236 10)) 236 20 (zr M3 236 11)) 236 21 (zr M3 236 12)) 236 17 = 1 ∧ zr (zsn (zsn (zsn (zsn (zsn M3 236 17 1) 236 18 (zr M3 236 9)) 236 19 (zr M3 236 10)) 236 20 (zr M3 236 11)) 236 21 (zr M3 236 12)) 236 18 = zr M3 236 9 ∧ zr (zsn (zsn (zsn (zsn (zsn M3 236 17 1) 236 18 (zr M3 236 9)) 236 19 (zr M3 236 10)) 236 20 (zr M3 236 11)) 236 21 (zr M3 236 12)) 236 19 = zr M3 236 10 ∧ zr (zsn (zsn (zsn (zsn (zsn M3 236 17 1) 236 18 (zr M3 236 9)) 236 19 (zr M3 236 10)) 236 20 (zr M3 236 11)) 236 21 (zr M3 236 12)) 236 20 = zr M3 236 11 ∧ zr (zsn (zsn (zsn (zsn (zsn M3 236 17 1) 236 18 (zr M3 236 9)) 236 19 (zr M3 236 10)) 236 20 (zr M3 236 11)) 236 21 (zr M3 236 12)) 236 21 = zr M3 236 12 := by
    refine ⟨?_, ?_, ?_, ?_, ?_⟩ <;> simp (disch := first | trivial | assumption | omega | exact ynl rfl _ | exact znp_o rfl | rfl | (simp (disch := first | decide | omega) only [yfc, yr_so, yr_ss, yfcc, yr_cs]; first | assumption | omega)) only [yck_of, yb_id, yPI_some, yPJ_some, yPA_some, yPV_none, yfc, yr_so, yr_ss, yfcc, yr_cs, ybif_t, yrd_1, yrd_2, yfcl]
  generalize zsn (zsn (zsn (zsn (zsn M3 236 17 1) 236 18 (zr M3 236 9)) 236 19 (zr M3 236 10)) 236 20 (zr M3 236 11)) 236 21 (zr M3 236 12) = M4 at *
  refine c_310 (n := 180) (by decide) (by decide) rfl rfl rfl rfl rfl (fun _ => rfl) (fun _ => rfl) (ynl rfl) (ynl rfl) (by decide) (fun M5 u1 v1 => ?_)
  refine c_310 (n := 24) (by decide) (by decide) rfl rfl rfl rfl rfl (fun _ => rfl) (fun _ => rfl) (ynl rfl) (ynl rfl) (by decide) (fun M6 u2 v2 => ?_)
  refine c_310 (n := 24) (by decide) (by decide) rfl rfl rfl rfl rfl (fun _ => rfl) (fun _ => rfl) (ynl rfl) (ynl rfl) (by decide) (fun M7 u3 v3 => ?_)
  refine c_310 (n := 192) (by decide) (by decide) rfl rfl rfl rfl rfl (fun _ => rfl) (fun _ => rfl) (ynl rfl) (ynl rfl) (by decide) (fun M8 u4 v4 => ?_)
  have U : ∀ c, c ≠ 257 → c ≠ 258 → c ≠ 259 → c ≠ 260 → zr M8 c = zr M4 c := fun c c1 c2 c3 c4 => by rw [u4 c c4, u3 c c3, u2 c c2, u1 c c1]
  have w257 : ∀ j, 0 ≤ j → j < 180 → zr M8 257 j = zr m 253 j := fun j j0 j1 => by rw [u4 257 (by decide), u3 257 (by decide), u2 257 (by decide), v1 j j0 j1, h1 253 (by decide), f2 253 (by decide) (by decide) (by decide) (by decide) (by decide)]
  have w258 : ∀ j, 0 ≤ j → j < 24 → zr M8 258 j = zr m 254 j := fun j j0 j1 => by rw [u4 258 (by decide), u3 258 (by decide), v2 j j0 j1, u1 254 (by decide), h1 254 (by decide), f2 254 (by decide) (by decide) (by decide) (by decide) (by decide)]
  have w259 : ∀ j, 0 ≤ j → j < 24 → zr M8 259 j = zr m 255 j := fun j j0 j1 => by rw [u4 259 (by decide), v3 j j0 j1, u2 255 (by decide), u1 255 (by decide), h1 255 (by decide), f2 255 (by decide) (by decide) (by decide) (by decide) (by decide)]
  have w260 : ∀ j, 0 ≤ j → j < 192 → zr M8 260 j = zr m 256 j := fun j j0 j1 => by rw [v4 j j0 j1, u3 256 (by decide), u2 256 (by decide), u1 256 (by decide), h1 256 (by decide), f2 256 (by decide) (by decide) (by decide) (by decide) (by decide)]
  have m236 : zr M3 236 = zr m 236 := f2 236 (by decide) (by decide) (by decide) (by decide) (by decide)
  obtain ⟨s1, s2, s3, s4, s5⟩ := h3
  refine hQ _ _ (yInv_K I (fun a ha => ?_) (fun j hj => ?_) ⟨?_, Or.inr ⟨?_, ⟨?_, ?_, ?_, ?_, ?_, ?_, fun j j0 j1 => ?_⟩, ⟨?_, ?_, ?_⟩, ?_⟩⟩)
  · rw [U a (by omega) (by omega) (by omega) (by omega), h1 a (by omega), f2 a (by omega) (by omega) (by omega) (by omega) (by omega)]
  · rw [U 236 (by omega) (by omega) (by omega) (by omega), h2 j (by omega) (by omega) (by omega) (by omega) (by omega), m236]
  · rw [U 236 (by omega) (by omega) (by omega) (by omega), U 3 (by omega) (by omega) (by omega) (by omega), h1 3 (by omega), g3, s1]
  · rw [U 3 (by omega) (by omega) (by omega) (by omega), h1 3 (by omega), g3]
  · rw [U 236 (by omega) (by omega) (by omega) (by omega), U 6 (by omega) (by omega) (by omega) (by omega), h1 6 (by omega), g6, b3, s2, m236, l1]
  · rw [U 6 (by omega) (by omega) (by omega) (by omega), h1 6 (by omega), g6, b3]
    exact l2
  · rw [U 236 (by omega) (by omega) (by omega) (by omega), U 6 (by omega) (by omega) (by omega) (by omega), h1 6 (by omega), g6, b4, s4, m236, l3]
  · rw [U 6 (by omega) (by omega) (by omega) (by omega), h1 6 (by omega), g6, b4]
    exact l4
  · rw [U 236 (by omega) (by omega) (by omega) (by omega), U 6 (by omega) (by omega) (by omega) (by omega), h1 6 (by omega), g6, b5, s5, m236, l5]
  · rw [U 6 (by omega) (by omega) (by omega) (by omega), h1 6 (by omega), g6, b5]
    exact l6
  · rw [U 6 (by omega) (by omega) (by omega) (by omega), h1 6 (by omega), g6, b3] at j1
    rw [U 7 (by omega) (by omega) (by omega) (by omega), h1 7 (by omega), g7, b2 j j0 (by omega), w257 j j0 (by omega)]
    exact l7 j j0 j1
  · rw [U 236 (by omega) (by omega) (by omega) (by omega), U 110 (by omega) (by omega) (by omega) (by omega), h1 110 (by omega), g110, s3, m236, n1]
  · rw [U 110 (by omega) (by omega) (by omega) (by omega), h1 110 (by omega), g110]
    exact n2.1
  · rw [U 110 (by omega) (by omega) (by omega) (by omega), h1 110 (by omega), g110]
    exact n2.2
  · rw [U 110 (by omega) (by omega) (by omega) (by omega), h1 110 (by omega), g110]
    refine yIC_c (yIC_fr k2 (by omega) (fun a a0 a1 => by rw [U a (by omega) (by omega) (by omega) (by omega), h1 a (by omega), gC a (by omega) (by omega)])) n2.2 (fun i i0 i1 => ⟨?_, ?_, fun k k0 k3 => ?_⟩)
    · rw [w258 i i0 (by omega)]
    · rw [w259 i i0 (by omega)]
    · rw [w260 _ (by omega) (by omega)]
end IM
