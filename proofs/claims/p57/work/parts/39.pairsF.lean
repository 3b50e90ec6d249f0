/-! ===== pairs: conditions told one by one ===== -/
/-- a draft in slot T -/
def yDr (m M : ZN) (T k s x y r bits n : Int) (co wa : Int → Int) : Prop :=
  (∀ b, b ≠ 10 + 4 * T → b ≠ 12 + 4 * T → b ≠ 13 + 4 * T → b ≠ 8 → zr M b = zr m b) ∧ (zr M 8 1 = zr m 8 1 ∧ zr M 8 2 = zr m 8 2 + 1)
  ∧ (zr M (10 + 4 * T) 0 = k ∧ zr M (10 + 4 * T) 1 = s ∧ zr M (10 + 4 * T) 2 = x ∧ zr M (10 + 4 * T) 3 = y ∧ zr M (10 + 4 * T) 4 = r ∧ zr M (10 + 4 * T) 5 = bits ∧ zr M (10 + 4 * T) 9 = n)
  ∧ ∀ i, 0 ≤ i → i < n → zr M (12 + 4 * T) i = co i ∧ zr M (13 + 4 * T) i = wa i
section PF
variable {d : Nat} {m : ZN} {L : Int} {xs : Int → Int} {Q : Int → Int → ZN → Prop}
theorem yDr_0 {T k s x y : Int} (hc : isC (10 + 4 * T)) {co wa : Int → Int} : yDr m (zsn (zsn (zsn (zsn (zsn (zsn (zsn (zsn m (10 + 4 * T) 0 k) (10 + 4 * T) 1 s) (10 + 4 * T) 2 x) (10 + 4 * T) 3 y) (10 + 4 * T) 4 0) (10 + 4 * T) 5 0) (10 + 4 * T) 9 0) 8 2 (zr m 8 2 + 1)) T k s x y 0 0 0 co wa := by
  have g : 10 ≤ 10 + 4 * T := by unfold isC at hc; omega
  have np : ∀ j, (j = 0 ∨ j = 1 ∨ j = 2 ∨ j = 3 ∨ j = 4 ∨ j = 5 ∨ j = 9) → znp' (10 + 4 * T) j = true := fun j h => isC_np hc (by omega)
  refine ⟨fun b b0 b1 b2 b3 => ?_, ⟨?_, ?_⟩, ⟨?_, ?_, ?_, ?_, ?_, ?_, ?_⟩, fun i i0 i1 => by omega⟩
  · rw [yfc b3, yfc b0, yfc b0, yfc b0, yfc b0, yfc b0, yfc b0, yfc b0]
  · rw [yr_so (by decide), yr_sc (by omega), yr_sc (by omega), yr_sc (by omega), yr_sc (by omega), yr_sc (by omega), yr_sc (by omega), yr_sc (by omega)]
  · rw [yr_ss (znp_o rfl)]
  · rw [yfc (by omega), yr_so (by decide), yr_so (by decide), yr_so (by decide), yr_so (by decide), yr_so (by decide), yr_so (by decide), yr_ss (np 0 (by decide))]
  · rw [yfc (by omega), yr_so (by decide), yr_so (by decide), yr_so (by decide), yr_so (by decide), yr_so (by decide), yr_ss (np 1 (by decide))]
  · rw [yfc (by omega), yr_so (by decide), yr_so (by decide), yr_so (by decide), yr_so (by decide), yr_ss (np 2 (by decide))]
  · rw [yfc (by omega), yr_so (by decide), yr_so (by decide), yr_so (by decide), yr_ss (np 3 (by decide))]
  · rw [yfc (by omega), yr_so (by decide), yr_so (by decide), yr_ss (np 4 (by decide))]
  · rw [yfc (by omega), yr_so (by decide), yr_ss (np 5 (by decide))]
  · rw [yfc (by omega), yr_ss (np 9 (by decide))]
theorem d_25 {T k s : Int} {K : Int → ZN → Prop} (hT : zr m 8 1 + zr m 8 2 = T) (h1 : 0 ≤ zr m 8 1) (h2 : 0 ≤ zr m 8 2) (h3 : T ≤ 24) (h : ∀ M, (∀ co wa, yDr m M T k s (-1) (-1) 0 0 0 co wa) → K (10 + 4 * T) M) : zcA (d + 2) 25 [zA 8, zI k, zI s] m K := by
  rw [c_25 h1 h2 (by omega), hT]
  exact h _ (fun co wa => yDr_0 (isC_l (by omega) (by omega)))
theorem d_26 {T k x y : Int} {K : ZN → Prop} (hT : zr m 8 1 + zr m 8 2 = T) (h1 : 0 ≤ zr m 8 1) (h2 : 0 ≤ zr m 8 2) (h3 : T ≤ 24) (h : ∀ M, (∀ co wa, yDr m M T k (-1) x y 0 0 0 co wa) → K M) : zcV (d + 2) 26 [zA 8, zI k, zI x, zI y] m K := by
  rw [c_26 h1 h2 (by omega), hT]
  exact h _ (fun co wa => yDr_0 (isC_l (by omega) (by omega)))
theorem d_2 {M : ZN} {T k s x y r bits n c w : Int} {co wa : Int → Int} {K : ZN → Prop} (D : yDr m M T k s x y r bits n co wa) (hc : isC (10 + 4 * T)) (n0 : 0 ≤ n) (n1 : n < 3) (h : ∀ M2, yDr m M2 T k s x y r (zor bits (zshl 1 c)) (n + 1) (fun i => if i = n then c else co i) (fun i => if i = n then w else wa i) → K M2) : zcV d 2 [zA (10 + 4 * T), zI c, zI w] M K := by
  obtain ⟨d1, ⟨d2, d3⟩, ⟨e0, e1, e2, e3, e4, e5, e9⟩, d5⟩ := D
  have g : 10 ≤ 10 + 4 * T := by unfold isC at hc; omega
  have np : ∀ j, (j = 0 ∨ j = 1 ∨ j = 2 ∨ j = 3 ∨ j = 4 ∨ j = 5 ∨ j = 9) → znp' (10 + 4 * T) j = true := fun j h => isC_np hc (by omega)
  have np2 := isC_np2 hc
  have np3 := isC_np3 hc
  rw [c_2 hc (by omega) (by omega), e9, e5]
  have a2 : 10 + 4 * T + 2 = 12 + 4 * T := by omega
  have a3 : 10 + 4 * T + 3 = 13 + 4 * T := by omega
  rw [a2] at np2 ⊢
  rw [a3] at np3 ⊢
  refine h _ ⟨fun b b0 b1 b2 b3 => ?_, ⟨?_, ?_⟩, ⟨?_, ?_, ?_, ?_, ?_, ?_, ?_⟩, fun i i0 i1 => ⟨?_, ?_⟩⟩
  · rw [yfc b0, yfc b0, yfc b2, yfc b1]
    exact d1 b b0 b1 b2 b3
  · rw [yfc (by omega), yfc (by omega), yfc (by omega), yfc (by omega)]
    exact d2
  · rw [yfc (by omega), yfc (by omega), yfc (by omega), yfc (by omega)]
    exact d3
  · rw [yr_so (by decide), yr_so (by decide), yfc (by omega), yfc (by omega)]
    exact e0
  · rw [yr_so (by decide), yr_so (by decide), yfc (by omega), yfc (by omega)]
    exact e1
  · rw [yr_so (by decide), yr_so (by decide), yfc (by omega), yfc (by omega)]
    exact e2
  · rw [yr_so (by decide), yr_so (by decide), yfc (by omega), yfc (by omega)]
    exact e3
  · rw [yr_so (by decide), yr_so (by decide), yfc (by omega), yfc (by omega)]
    exact e4
  · rw [yr_so (by decide), yr_ss (np 5 (by decide))]
  · rw [yr_ss (np 9 (by decide))]
  · rw [yfc (by omega), yfc (by omega), yfc (by omega), yr_sa (np2 _)]
    by_cases q : i = n
    · rw [if_pos q]
      exact (if_pos q).symm
    · rw [if_neg q]
      exact ((d5 i i0 (by omega)).1).trans (if_neg q).symm
  · rw [yfc (by omega), yfc (by omega), yr_sa (np3 _)]
    by_cases q : i = n
    · rw [if_pos q]
      exact (if_pos q).symm
    · rw [if_neg q, yfc (by omega)]
      exact ((d5 i i0 (by omega)).2).trans (if_neg q).symm
/-- the fields as the class wants them, of a draft -/
theorem yDr_R {M : ZN} {T k s x y r bits n : Int} {co wa ad : Int → Int} (D : yDr m M T k s x y r bits n co wa) (hxy : 6 ≤ k → x = ad 0 ∧ y = ad 1) (h5 : k ≤ 5 → x = -1 ∧ y = -1) (hn : n = ySz k ad) (hn0 : k ≤ 5 → 0 < n) (n3 : k = 3 → 1 < n)
    (hc : k ≤ 4 → co 0 = ad 0) (hw : k = 0 ∨ k = 1 ∨ k = 4 → wa 0 = ad 1) (hr : k = 4 → r = ad 2) (h3 : k = 3 → co 1 = ad 1)
    (hs : k = 5 → 2 ≤ n ∧ co 0 = ad 1 ∧ wa 0 = ad 2 ∧ co 1 = ad 3 ∧ wa 1 = ad 4 ∧ (ad 0 = 3 → 3 ≤ n ∧ co 2 = ad 5 ∧ wa 2 = ad 6)) : yCR (zr M (10 + 4 * T)) (zr M (12 + 4 * T)) (zr M (13 + 4 * T)) k s ad := by
  obtain ⟨d1, d2, ⟨e0, e1, e2, e3, e4, e5, e9⟩, d5⟩ := D
  refine ⟨e0, e1, fun h => ?_, fun h => ?_, by rw [e9]; exact hn, fun h => ?_, fun h => ?_, fun h => ?_, fun h => ?_, fun h => ?_⟩
  · rw [e2, e3]; exact hxy h
  · rw [e2, e3]; exact h5 h
  · rw [(d5 0 (by omega) (hn0 (by omega))).1]; exact hc h
  · rw [(d5 0 (by omega) (hn0 (by omega))).2]; exact hw h
  · rw [e4]; exact hr h
  · rw [(d5 1 (by omega) (n3 h)).1]; exact h3 h
  · obtain ⟨s0, s1, s2, s3, s4, s5⟩ := hs h
    rw [(d5 0 (by omega) (by omega)).1, (d5 0 (by omega) (by omega)).2, (d5 1 (by omega) (by omega)).1, (d5 1 (by omega) (by omega)).2]
    exact ⟨s1, s2, s3, s4, fun q => by rw [(d5 2 (by omega) (by have := (s5 q).1; omega)).1, (d5 2 (by omega) (by have := (s5 q).1; omega)).2]; exact (s5 q).2⟩
end PF
