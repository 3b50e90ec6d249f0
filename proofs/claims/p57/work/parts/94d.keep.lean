/-! ===== what is kept, and what brings it back ===== -/
/-- what is kept: n lines of values v, a seed sd, N conditions of truths T -/
def yKp (n N : Int) (v : Int → Int) (T : Int → Int → Int) (sd : Int) (m : ZN) : Prop :=
  zr m 3 11 = 1 ∧ zr m 6 1 = n ∧ zr m 6 3 = sd ∧ (∀ j, 0 ≤ j → j < 3 * n → zr m 7 j = v j) ∧ zr m 110 1 = N ∧ ∃ kd sg sx, yIC (zr m) 112 N kd sg sx ∧ ∀ c, 0 ≤ c → c < N → ∀ k, 0 ≤ k → k < 1000 → yST kd sg sx c k = T c k
theorem yKp_fr {n N sd : Int} {v : Int → Int} {T : Int → Int → Int} {m M : ZN} (h : yKp n N v T sd m) (hN : N ≤ 24) (f : ∀ a, a = 3 ∨ a = 6 ∨ a = 7 ∨ a = 110 ∨ (112 ≤ a ∧ a ≤ 211) → zr M a = zr m a) : yKp n N v T sd M := by
  obtain ⟨h1, h2, h3, h4, h5, kd, sg, sx, h6, h7⟩ := h
  unfold yKp
  rw [f 3 (by omega), f 6 (by omega), f 7 (by omega), f 110 (by omega)]
  exact ⟨h1, h2, h3, h4, h5, kd, sg, sx, yIC_fr h6 (by omega) (fun a a0 a1 => f a (by omega)), h7⟩
section KP
variable {d : Nat} {m : ZN} {L : Int} {xs : Int → Int} {n N pr : Int} {v : Int → Int} {T : Int → Int → Int}
theorem e_image (D : yD L xs m) (G : yG n N pr v T m) {K : Int → ZN → Prop} (h : ∀ M, yKp n N v T (zr m 4 3) M → K 1 M) : zcI (d + 9) 165 [zA 3] m K := by
  obtain ⟨m2, hm, I⟩ := D
  have f : ∀ a : Int, a < 236 → zr m a = zr m2 a := fun a ha => funext fun j => hm a ha j
  obtain ⟨⟨⟨g1, g2, g3⟩, g4⟩, -, ⟨g5, g6, g7⟩, g8⟩ := G
  have iC := I.2.2.1.2.1
  rw [← f 8 (by decide), g5] at iC
  have iC2 : yIC (zr m) 10 N (zr m2 254) (zr m2 255) (zr m2 256) := yIC_fr iC (by omega) (fun a a0 a1 => f a (by omega))
  have np7 : ∀ j, znp' 7 j = true := ynl rfl
  refine w_165 (w_32b ?_)
  rw [yck_of (by decide)]
  have a1 : ∀ (M : ZN) (u v w : Int), (∀ c, c ≠ 6 → c ≠ 7 → zr (zsn (zsn (zsn (zcc M 7 (fun j => if 0 ≤ j ∧ j < 0 + 180 then zr M 5 (0 + (j - 0)) else zr M 7 j)) 6 1 u) 6 2 v) 6 3 w) c = zr M c) ∧ (∀ j, 0 ≤ j → j < 180 → zr (zsn (zsn (zsn (zcc M 7 (fun j => if 0 ≤ j ∧ j < 0 + 180 then zr M 5 (0 + (j - 0)) else zr M 7 j)) 6 1 u) 6 2 v) 6 3 w) 7 j = zr M 5 j) ∧ zr (zsn (zsn (zsn (zcc M 7 (fun j => if 0 ≤ j ∧ j < 0 + 180 then zr M 5 (0 + (j - 0)) else zr M 7 j)) 6 1 u) 6 2 v) 6 3 w) 6 1 = u ∧ zr (zsn (zsn (zsn (zcc M 7 (fun j => if 0 ≤ j ∧ j < 0 + 180 then zr M 5 (0 + (j - 0)) else zr M 7 j)) 6 1 u) 6 2 v) 6 3 w) 6 2 = v ∧ zr (zsn (zsn (zsn (zcc M 7 (fun j => if 0 ≤ j ∧ j < 0 + 180 then zr M 5 (0 + (j - 0)) else zr M 7 j)) 6 1 u) 6 2 v) 6 3 w) 6 3 = w := fun M u v w => by
    refine ⟨fun c h6 h7 => ?_, fun j j0 j1 => ?_, ?_, ?_, ?_⟩
    · rw [yfc h6, yfc h6, yfc h6, yfcc h7]
    · rw [yfc (by decide), yfc (by decide), yfc (by decide), yr_cs (np7 _), if_pos (by omega), show 0 + (j - 0) = j by omega]
    · rw [yr_so (by decide), yr_so (by decide), yr_ss (znp_o rfl)]
    · rw [yr_so (by decide), yr_ss (znp_o rfl)]
    · rw [yr_ss (znp_o rfl)]
  have e1 : zr (zcc m 7 (fun j => if 0 ≤ j ∧ j < 0 + 180 then zr m 5 (0 + (j - 0)) else zr m 7 j)) 4 1 = zr m 4 1 := by rw [yfcc (by decide)]
  rw [e1]
  have e2 : zr (zsn (zcc m 7 (fun j => if 0 ≤ j ∧ j < 0 + 180 then zr m 5 (0 + (j - 0)) else zr m 7 j)) 6 1 (zr m 4 1)) 4 2 = zr m 4 2 := by rw [yfc (by decide), yfcc (by decide)]
  rw [e2]
  have e3 : zr (zsn (zsn (zcc m 7 (fun j => if 0 ≤ j ∧ j < 0 + 180 then zr m 5 (0 + (j - 0)) else zr m 7 j)) 6 1 (zr m 4 1)) 6 2 (zr m 4 2)) 4 3 = zr m 4 3 := by rw [yfc (by decide), yfc (by decide), yfcc (by decide)]
  rw [e3]
  obtain ⟨b1, b2, b3, b4, b5⟩ := a1 m (zr m 4 1) (zr m 4 2) (zr m 4 3)
  generalize zsn (zsn (zsn (zcc m 7 (fun j => if 0 ≤ j ∧ j < 0 + 180 then zr m 5 (0 + (j - 0)) else zr m 7 j)) 6 1 (zr m 4 1)) 6 2 (zr m 4 2)) 6 3 (zr m 4 3) = M1 at *
  refine c_22b (d := d + 6) (N := N) (kd := zr m2 254) (sg := zr m2 255) (sd := zr m2 256) (by rw [b1 8 (by decide) (by decide)]; exact g5) g6 g7 (yIC_fr2 iC2 (fun a a0 a1 => b1 a (by omega) (by omega))) (fun M2 k1 k2 => ?_)
  rw [yck_of (by decide)]
  refine h _ ⟨yr_ss (znp_o rfl), ?_, ?_, fun j j0 j1 => ?_, ?_, zr m2 254, zr m2 255, zr m2 256, yIC_fr k2 (by omega) (fun a a0 a1 => by rw [yfc (by omega), yfc (by omega)]), fun c c0 c1 k p0 p1 => ?_⟩
  · rw [yfc (by decide), yfc (by decide), k1 6 (by decide), b3]
    exact g1
  · rw [yfc (by decide), yfc (by decide), k1 6 (by decide), b5]
  · rw [yfc (by decide), yfc (by decide), k1 7 (by decide), b2 j j0 (by omega)]
    exact (g4 j j0 j1).1
  · rw [yfc (by decide), yr_ss (znp_o rfl)]
  · have a := iC2.2.2 c c0 c1 k p0 p1
    have b := (g8 c c0 c1 k p0 p1).1
    rw [show 10 + 4 * c + 1 = 10 + 1 + 4 * c by omega] at b
    exact a.symm.trans b
theorem e_days (c0 : 0 ≤ zr m 4 1) (c1 : zr m 4 1 ≤ 60) {K : Int → ZN → Prop} (h : ∀ r M, (∀ a, a ≠ 4 → a ≠ 5 → zr M a = zr m a) → K r M) : zcI (d + 9) 163 [zA 3, zI 7] m K := by
  refine w_163 ?_
  rw [c_181, if_pos (show (1 : Int) ≤ 7 ∧ (7 : Int) ≤ 60 by decide), if_neg (show ¬ (1 : Int) = 0 by decide)]
  have key := yfor (fun i => ∀ v c s, 0 ≤ c → c ≤ 60 → zwpN (d + 9) 163 19 [some (zA 3), some (zI 7), some (zI i)] [] (yLM m v c s) (zPI K)) 0 7 (by decide) (fun i i0 i1 hW v c s c0 c1 => ?_) (fun v c s c0 c1 => ?_) (zr m 5) (zr m 4 1) (zr m 4 3) c0 c1
  · rw [← yLM_id m] at key
    exact key
  · refine w_163_19 ?_
    rw [if_pos i1, c_43 (d := d + 4) c0 c1, yb_id (by omega) (by omega)]
    have r := yDay_c (t := (v, c, s)) c0 c1
    exact hW _ _ _ r.1 r.2
  · refine w_163_19 ?_
    rw [if_neg (by decide)]
    exact h _ _ (fun a a4 a5 => funext fun j => yLM_o m v c s a5 (fun q => a4 q.1))
theorem e_drop (D : yD L xs m) {K : Int → ZN → Prop} (h : ∀ r M, (∀ a, a ≠ 8 → a ≠ 213 → a ≠ 234 → zr M a = zr m a) → K r M) : zcI (d + 9) 137 [zA 3] m K := by
  obtain ⟨m2, hm, I⟩ := D
  have f : ∀ a : Int, a < 236 → zr m a = zr m2 a := fun a ha => funext fun j => hm a ha j
  have s3 := fun s s0 s1 => yS3 I (s := s) s0 s1
  have n2 := I.2.2.1.1.2.1
  rw [← f 8 (by decide)] at n2
  refine w_137 ?_
  by_cases q : zr m 8 1 = 0
  · rw [if_pos q, c_168 (by decide) (by decide)]
    exact h _ _ (fun a _ _ a3 => yfc a3)
  · rw [if_neg q]
    have e : zr (zsn m 8 1 (zb (zr m 8 1 - 1))) 8 1 = zr m 8 1 - 1 := by rw [yr_ss (znp_o rfl)]; exact yb_id (by omega) (by omega)
    have e213 : zr (zsn m 8 1 (zb (zr m 8 1 - 1))) 213 = zr m2 213 := by rw [yfc (by decide)]; exact f 213 (by decide)
    rw [e, c_88 (d := d + 7) (by omega) (fun s s0 s1 => by rw [e213]; have n3 : zr m2 8 1 ≤ 24 := I.2.2.1.1.2.1.2; rcases s3 s s0 s1 with h | h | h <;> omega)]
    exact h _ _ (fun a a1 a2 _ => by rw [yfcc a2, yfc a1])
/-- what is brought back -/
theorem e_back (D : yD L xs m) (hn : n ≤ 60) (N0 : 0 ≤ N) (N24 : N ≤ 24) {sd : Int} (hk : yKp n N v T sd m) {K : Int → ZN → Prop} (h : ∀ M, zr M 4 1 = n → zr M 4 3 = sd → zr M 8 1 = N → (∀ j, 0 ≤ j → j < 3 * n → zr M 5 j = v j) → (∀ c, 0 ≤ c → c < N → ∀ k, 0 ≤ k → k < 1000 → yTw (zr M (10 + 4 * c + 1)) k = T c k) → K 1 M) : zcI (d + 9) 166 [zA 3] m K := by
  obtain ⟨m2, hm, I⟩ := D
  have f : ∀ a : Int, a < 236 → zr m a = zr m2 a := fun a ha => funext fun j => hm a ha j
  obtain ⟨h1, h2, h3, h4, h5, kd, sg, sx, kC, h7⟩ := hk
  have s3 := fun s s0 s1 => yS3 I (s := s) s0 s1
  have n24 := I.2.2.1.1.2.1
  have np5 : ∀ j, znp' 5 j = true := ynl rfl
  refine w_166 ?_
  rw [if_neg (by omega)]
  refine w_32a ?_
  rw [yck_of (by decide)]
  have a1 : ∀ (M : ZN) (u v w : Int), (∀ c, c ≠ 4 → c ≠ 5 → zr (zsn (zsn (zsn (zcc M 5 (fun j => if 0 ≤ j ∧ j < 0 + 180 then zr M 7 (0 + (j - 0)) else zr M 5 j)) 4 1 u) 4 2 v) 4 3 w) c = zr M c) ∧ (∀ j, 0 ≤ j → j < 180 → zr (zsn (zsn (zsn (zcc M 5 (fun j => if 0 ≤ j ∧ j < 0 + 180 then zr M 7 (0 + (j - 0)) else zr M 5 j)) 4 1 u) 4 2 v) 4 3 w) 5 j = zr M 7 j) ∧ zr (zsn (zsn (zsn (zcc M 5 (fun j => if 0 ≤ j ∧ j < 0 + 180 then zr M 7 (0 + (j - 0)) else zr M 5 j)) 4 1 u) 4 2 v) 4 3 w) 4 1 = u ∧ zr (zsn (zsn (zsn (zcc M 5 (fun j => if 0 ≤ j ∧ j < 0 + 180 then zr M 7 (0 + (j - 0)) else zr M 5 j)) 4 1 u) 4 2 v) 4 3 w) 4 2 = v ∧ zr (zsn (zsn (zsn (zcc M 5 (fun j => if 0 ≤ j ∧ j < 0 + 180 then zr M 7 (0 + (j - 0)) else zr M 5 j)) 4 1 u) 4 2 v) 4 3 w) 4 3 = w := fun M u v w => by
    refine ⟨fun c h6 h7 => ?_, fun j j0 j1 => ?_, ?_, ?_, ?_⟩
    · rw [yfc h6, yfc h6, yfc h6, yfcc h7]
    · rw [yfc (by decide), yfc (by decide), yfc (by decide), yr_cs (np5 _), if_pos (by omega), show 0 + (j - 0) = j by omega]
    · rw [yr_so (by decide), yr_so (by decide), yr_ss (znp_o rfl)]
    · rw [yr_so (by decide), yr_ss (znp_o rfl)]
    · rw [yr_ss (znp_o rfl)]
  have e1 : zr (zcc m 5 (fun j => if 0 ≤ j ∧ j < 0 + 180 then zr m 7 (0 + (j - 0)) else zr m 5 j)) 6 1 = zr m 6 1 := by rw [yfcc (by decide)]
  rw [e1]
  have e2 : zr (zsn (zcc m 5 (fun j => if 0 ≤ j ∧ j < 0 + 180 then zr m 7 (0 + (j - 0)) else zr m 5 j)) 4 1 (zr m 6 1)) 6 2 = zr m 6 2 := by rw [yfc (by decide), yfcc (by decide)]
  rw [e2]
  have e3 : zr (zsn (zsn (zcc m 5 (fun j => if 0 ≤ j ∧ j < 0 + 180 then zr m 7 (0 + (j - 0)) else zr m 5 j)) 4 1 (zr m 6 1)) 4 2 (zr m 6 2)) 6 3 = zr m 6 3 := by rw [yfc (by decide), yfc (by decide), yfcc (by decide)]
  rw [e3]
  obtain ⟨b1, b2, b3, b4, b5⟩ := a1 m (zr m 6 1) (zr m 6 2) (zr m 6 3)
  generalize zsn (zsn (zsn (zcc m 5 (fun j => if 0 ≤ j ∧ j < 0 + 180 then zr m 7 (0 + (j - 0)) else zr m 5 j)) 4 1 (zr m 6 1)) 4 2 (zr m 6 2)) 4 3 (zr m 6 3) = M1 at *
  refine c_22a (d := d + 6) (N := N) (kd := kd) (sg := sg) (sd := sx) (by rw [b1 110 (by decide) (by decide)]; exact h5) N0 N24 (yIC_fr2 kC (fun a a0 a1 => b1 a (by omega) (by omega))) (fun M2 k1 k2 => ?_)
  have g0 : zr (zsn M2 8 1 N) 8 1 = N := yr_ss (znp_o rfl)
  have g4 : zr (zsn M2 8 1 N) 4 = zr M1 4 := by rw [yfc (by decide), k1 4 (by decide)]
  have g5 : zr (zsn M2 8 1 N) 5 = zr M1 5 := by rw [yfc (by decide), k1 5 (by decide)]
  have gC : ∀ c, 10 ≤ c → c ≤ 109 → zr (zsn M2 8 1 N) c = zr M2 c := fun c c0 c1 => by rw [yfc (by omega)]
  have e213 : zr (zsn M2 8 1 N) 213 = zr m2 213 := by rw [yfc (by decide), k1 213 (by decide), b1 213 (by decide) (by decide)]; exact f 213 (by decide)
  rw [g0]
  generalize zsn M2 8 1 N = M3 at *
  rw [c_88 (d := d + 7) N0 (fun s s0 s1 => by rw [e213]; rcases s3 s s0 s1 with h | h | h <;> omega)]
  have r1 : ∀ c, c ≠ 213 → zr (zcc M3 213 (fun s => if 0 ≤ s ∧ s < 8 then (if N + 10 ≤ zr M3 213 s then -1 else zr M3 213 s) else zr M3 213 s)) c = zr M3 c := fun c hc => by rw [yfcc hc]
  refine h _ ?_ ?_ ?_ (fun j j0 j1 => ?_) (fun c c0 c1 k p0 p1 => ?_)
  · rw [r1 4 (by decide), g4, b3]; exact h2
  · rw [r1 4 (by decide), g4, b5]; exact h3
  · rw [r1 8 (by decide)]; exact g0
  · rw [r1 5 (by decide), g5, b2 j j0 (by omega)]; exact h4 j j0 j1
  · rw [r1 _ (by omega), gC _ (by omega) (by omega), show 10 + 4 * c + 1 = 10 + 1 + 4 * c by omega, k2.2.2 c c0 c1 k p0 p1]
    exact h7 c c0 c1 k p0 p1
end KP
