/-! ===== a table: the fault, the values ===== -/
theorem ytf_r {T : Int → Int} {n s : Int} : ∀ (k : Nat) (i s : Int), 0 ≤ i → i + k = n → ytf T n i s = -1 ∨ (0 ≤ ytf T n i s ∧ ytf T n i s ≤ n) := by
  intro k
  induction k with
  | zero => intro i s i0 h; rw [ytf_e (by omega)]; split <;> omega
  | succ k ih =>
    intro i s i0 h
    rw [ytf_c (by omega)]
    split
    · exact ih (i + 1) s (by omega) (by omega)
    · split
      · split
        · exact ih (i + 1) 0 (by omega) (by omega)
        · omega
      · split
        · exact ih (i + 1) (s + 1) (by omega) (by omega)
        · omega
theorem ycnt_x {p : Int → Bool} : ∀ (n : Nat) (x : Int), 0 ≤ x → x < ycnt p n → ∃ i, 0 ≤ i ∧ i < (n : Int) ∧ p i = true ∧ ycnt p i = x := by
  intro n
  induction n with
  | zero => intro x x0 x1; have : x < 0 := x1; omega
  | succ n ih =>
    intro x x0 x1
    rw [show ((n + 1 : Nat) : Int) = (n : Int) + 1 by omega] at x1 ⊢
    cases q : p n
    · rw [ycnt_f (by omega) q] at x1
      obtain ⟨i, i0, i1, i2⟩ := ih x x0 x1
      exact ⟨i, i0, by omega, i2⟩
    · rw [ycnt_t (by omega) q] at x1
      by_cases z : x = ycnt p n
      · exact ⟨n, by omega, by omega, q, z.symm⟩
      · obtain ⟨i, i0, i1, i2⟩ := ih x x0 (by omega)
        exact ⟨i, i0, by omega, i2⟩
theorem ytd3 {k : Int} (h : 0 ≤ k) : Int.tdiv (3 * k) 3 = k := by
  rw [Int.tdiv_eq_ediv_of_nonneg (by omega)]; omega
section TC
variable {d : Nat} {m : ZN}
theorem c_229 {n : Int} (hn : zr m 236 7 = n) (n0 : 0 ≤ n) (n1 : n ≤ 250) (K : Int → ZN → Prop) : zcI (d + 2) 229 [zA 236] m K = K (ytf (zr m 251) n 0 0) m := by
  refine zcI_eq (w_229 ?_) K
  refine yfor (fun i => ∀ s o3, 0 ≤ s → s ≤ 3 → ytf (zr m 251) n i s = ytf (zr m 251) n 0 0 → zwpN (d + 2) 229 4 [some (zA 236), some (zI s), some (zI i), o3] [] m (zPI (fun v m1 => v = ytf (zr m 251) n 0 0 ∧ m1 = m))) 0 n n0 (fun i i0 i1 hW s o3 s0 s1 hf => ?_) (fun s o3 s0 s1 hf => ?_) 0 none (by decide) (by decide) rfl
  · refine w_229_4 ?_
    rw [ytf_c i1] at hf
    rw [hn, if_pos i1, yck_of (by omega), show zb (i + 1) = i + 1 from yb_id (by omega) (by omega), show zb (s + 1) = s + 1 from yb_id (by omega) (by omega)]
    by_cases q : zr m 251 i = 32
    · rw [if_pos q] at hf ⊢
      exact hW s _ s0 s1 hf
    · rw [if_neg q] at hf ⊢
      by_cases q3 : s = 3
      · rw [if_pos q3] at hf ⊢
        by_cases q4 : zr m 251 i = 59
        · rw [if_pos q4] at hf ⊢
          rw [if_pos q3]
          exact hW 0 _ (by decide) (by decide) hf
        · rw [if_neg q4] at hf ⊢
          exact ⟨hf, rfl⟩
      · rw [if_neg q3] at hf ⊢
        rw [c_228]
        by_cases q4 : zr m 251 i = 46 ∨ (49 ≤ zr m 251 i ∧ zr m 251 i ≤ 57)
        · rw [if_pos (show ycl (zr m 251 i) = true from decide_eq_true q4)] at hf
          rw [if_pos q4, if_neg (by decide), if_neg q3]
          exact hW (s + 1) _ (by omega) (by omega) hf
        · rw [if_neg (show ¬ ycl (zr m 251 i) = true from fun z => q4 (of_decide_eq_true z))] at hf
          rw [if_neg q4, if_pos rfl]
          exact ⟨hf, rfl⟩
  · refine w_229_4 ?_
    rw [ytf_e (by omega)] at hf
    rw [hn, if_neg (by omega)]
    by_cases q3 : s = 3
    · rw [if_pos q3] at hf ⊢; exact ⟨hf, rfl⟩
    · rw [if_neg q3] at hf ⊢; exact ⟨hf, rfl⟩
/-- the reference puts them behind its own -/
theorem c_230l {L0 k n f : Int} {K : Int → ZN → Prop} (n0 : 0 ≤ n) (n1 : n ≤ 250) (hL : zr m 236 9 = L0) (L1 : 0 ≤ L0) (k0 : 0 ≤ k) (hk : ycnt (fun i => ycl (zr m 251 i)) n = 3 * k) (L60 : L0 ≤ 60) (hR : ∀ j, 0 ≤ j → j < n → 0 ≤ zr m 251 j ∧ zr m 251 j ≤ 255) (hF : 60 < L0 + k → zcI (d + 1) 191 [zA 236, zI (-106)] m K) (h : L0 + k ≤ 60 → ∀ M, (∀ b, b ≠ 236 → b ≠ 253 → zr M b = zr m b) → (∀ j, j ≠ 9 → zr M 236 j = zr m 236 j) → zr M 236 9 = L0 + k → (∀ j, 0 ≤ j → j < 3 * L0 → zr M 253 j = zr m 253 j) → (∀ i, 0 ≤ i → i < n → ycl (zr m 251 i) = true → zr M 253 (3 * L0 + ycnt (fun i => ycl (zr m 251 i)) i) = yvl (zr m 251 i)) → K k M) : zwpN (d + 2) 230 38 [some (zA 236), some (zI f), some (zI n), some (zI 0), some (zI 0), none] [] m (zPI K) := by
  have n5 : ∀ j, znp' 253 j = true := ynl rfl
  have kk : k ≤ 250 := by
    have := ycnt_r (fun i => ycl (zr m 251 i)) n0
    omega
  refine yfor (fun i => zwpN (d + 2) 230 38 [some (zA 236), some (zI f), some (zI n), some (zI (ycnt (fun i => ycl (zr m 251 i)) i)), some (zI i), none] [] m (zPI K)) 0 n n0 (fun i i0 i1 hW => ?_) ?_
  · have hc := ycnt_r (fun i => ycl (zr m 251 i)) i0
    refine w_230_38 ?_
    rw [if_pos i1, yck_of (by omega), c_228, show zb (i + 1) = i + 1 from yb_id (by omega) (by omega)]
    by_cases q4 : zr m 251 i = 46 ∨ (49 ≤ zr m 251 i ∧ zr m 251 i ≤ 57)
    · rw [ycnt_t i0 (decide_eq_true q4)] at hW
      rw [if_pos q4, if_neg (by decide), show zb (ycnt (fun i => ycl (zr m 251 i)) i + 1) = ycnt (fun i => ycl (zr m 251 i)) i + 1 from yb_id (by omega) (by omega)]
      exact hW
    · rw [ycnt_f i0 (decide_eq_false q4)] at hW
      rw [if_neg q4, if_pos rfl, show zb (ycnt (fun i => ycl (zr m 251 i)) i + 0) = ycnt (fun i => ycl (zr m 251 i)) i from by rw [yb_id (by omega) (by omega)]; omega]
      exact hW
  · refine w_230_38 ?_
    rw [if_neg (by omega), yck_of (by decide), hL, hk, ytd3 k0, show zb k = k from yb_id (by omega) (by omega), show zb (L0 + k) = L0 + k from yb_id (by omega) (by omega), show zb (3 * L0) = 3 * L0 from yb_id (by omega) (by omega)]
    by_cases qF : 60 < L0 + k
    · rw [if_pos qF]; exact hF qF
    · rw [if_neg qF]
      suffices go : ∀ y4, y4 = 3 * L0 + ycnt (fun i => ycl (zr m 251 i)) 0 → zwpN (d + 2) 230 102 [some (zA 236), some (zI f), some (zI n), some (zI (3 * k)), some (zI y4), some (zI 0)] [] m (zPI K) from go _ (by rw [ycnt_0]; omega)
      refine yfor (fun i => ∀ (M : ZN), (∀ b, b ≠ 253 → zr M b = zr m b) → (∀ j, 0 ≤ j → j < 3 * L0 → zr M 253 j = zr m 253 j) → (∀ x, 0 ≤ x → x < i → ycl (zr m 251 x) = true → zr M 253 (3 * L0 + ycnt (fun i => ycl (zr m 251 i)) x) = yvl (zr m 251 x)) → ∀ y4, y4 = 3 * L0 + ycnt (fun i => ycl (zr m 251 i)) i → zwpN (d + 2) 230 102 [some (zA 236), some (zI f), some (zI n), some (zI (3 * k)), some (zI y4), some (zI i)] [] M (zPI K)) 0 n n0 (fun i i0 i1 hW M g1 g2 g3 y4 hy => ?_) (fun M g1 g2 g3 y4 hy => ?_) m (fun _ _ => rfl) (fun _ _ _ => rfl) (fun x x0 x1 => by omega)
      · have hc := ycnt_r (fun i => ycl (zr m 251 i)) i0
        have hR := hR i i0 i1
        refine w_230_102 ?_
        rw [if_pos i1, yck_of (by omega), g1 251 (by decide), c_228, show zb (i + 1) = i + 1 from yb_id (by omega) (by omega)]
        by_cases q4 : zr m 251 i = 46 ∨ (49 ≤ zr m 251 i ∧ zr m 251 i ≤ 57)
        · have hs : ycnt (fun i => ycl (zr m 251 i)) (i + 1) = ycnt (fun i => ycl (zr m 251 i)) i + 1 := ycnt_t i0 (decide_eq_true q4)
          have hle := ycnt_le (p := fun i => ycl (zr m 251 i)) (show 0 ≤ i + 1 by omega) (show i + 1 ≤ n by omega)
          have put : ∀ v, v = yvl (zr m 251 i) → zwpN (d + 2) 230 102 [some (zA 236), some (zI f), some (zI n), some (zI (3 * k)), some (zI (zb (y4 + 1))), some (zI (i + 1))] [] (zsn M 253 y4 v) (zPI K) := fun v hv => by
            rw [show zb (y4 + 1) = y4 + 1 from yb_id (by omega) (by omega)]
            refine hW _ (fun b hb => by rw [yfc hb]; exact g1 b hb) (fun j j0 j1 => by rw [yr_so (by omega)]; exact g2 j j0 j1) (fun x x0 x1 hx => ?_) _ (by omega)
            rw [yr_sa (n5 _)]
            by_cases z : x = i
            · rw [z, if_pos (by omega), hv]
            · have a : ycnt (fun i => ycl (zr m 251 i)) (x + 1) = ycnt (fun i => ycl (zr m 251 i)) x + 1 := ycnt_t x0 hx
              have b := ycnt_le (p := fun i => ycl (zr m 251 i)) (show 0 ≤ x + 1 by omega) (show x + 1 ≤ i by omega)
              rw [if_neg (by omega)]
              exact g3 x x0 (by omega) hx
          rw [if_pos q4, if_neg (by decide), yck_of (by omega), g1 251 (by decide)]
          by_cases q5 : zr m 251 i = 46
          · rw [if_pos q5, yck_of (by omega)]
            exact put 0 (by rw [q5]; rfl)
          · rw [if_neg q5, yck_of (by omega), yck_of (by omega), show zb (zr m 251 i - 48) = zr m 251 i - 48 from yb_id (by omega) (by omega)]
            exact put _ (by unfold yvl; rw [if_neg q5])
        · have hs : ycnt (fun i => ycl (zr m 251 i)) (i + 1) = ycnt (fun i => ycl (zr m 251 i)) i := ycnt_f i0 (decide_eq_false q4)
          rw [if_neg q4, if_pos rfl]
          refine hW M g1 g2 (fun x x0 x1 hx => ?_) y4 (by rw [hs]; exact hy)
          by_cases z : x = i
          · rw [z] at hx
            exact absurd (of_decide_eq_true hx) q4
          · exact g3 x x0 (by omega) hx
      · refine w_230_102 ?_
        rw [if_neg (by omega), yck_of (by decide), yck_of (by decide), ytd3 k0, show zb k = k from yb_id (by omega) (by omega), g1 236 (by decide), hL, show zb (L0 + k) = L0 + k from yb_id (by omega) (by omega)]
        refine h (by omega) _ (fun b b0 b1 => by rw [yfc b0]; exact g1 b b1) (fun j hj => by rw [yr_so hj, g1 236 (by decide)]) (yr_ss (znp_o rfl)) (fun j j0 j1 => by rw [yr_sc (by decide)]; exact g2 j j0 j1) (fun i i0 i1 hi => by rw [yr_sc (by decide)]; exact g3 i i0 i1 hi)
end TC
section PT
variable {d : Nat} {m : ZN} {L : Int} {xs : Int → Int} {Q : Int → Int → ZN → Prop}
theorem p_wr (I : yInv L xs m) {M : ZN} (sM : ySc m M) {x : Int} (h1 : -106 ≤ x) (h2 : x ≤ -102) : yInv L xs (zsn (zsn (zsn (zsn M 216 1 0) 234 (-102 - x) (zb (zr (zsn M 216 1 0) 234 (-102 - x) + 1))) 236 7 0) 252 (-x - 100) (zb (zr (zsn (zsn (zsn M 216 1 0) 234 (-102 - x) (zb (zr (zsn M 216 1 0) 234 (-102 - x) + 1))) 236 7 0) 252 (-x - 100) + 1))) := by
  have rf := I.2.2.2.2.2.2
  have n0 : ∀ j, znp' 234 j = true := ynl rfl
  have n2 : ∀ j, znp' 252 j = true := ynl rfl
  obtain ⟨A, hA⟩ : ∃ A, A = zb (zr (zsn M 216 1 0) 234 (-102 - x) + 1) := ⟨_, rfl⟩
  have eA : A = zb (zr m 234 (-102 - x) + 1) := by rw [hA, yr_sc (by decide), sM 234 _ (by unfold yscr; omega)]
  obtain ⟨B, hB⟩ : ∃ B, B = zb (zr (zsn (zsn (zsn M 216 1 0) 234 (-102 - x) A) 236 7 0) 252 (-x - 100) + 1) := ⟨_, rfl⟩
  have eB : B = zb (zr m 252 (-x - 100) + 1) := by rw [hB, yr_sc (by decide), yr_sc (by decide), yr_sc (by decide), sM 252 _ (by unfold yscr; omega)]
  rw [← hA, ← hB]
  have r : ∀ a j, a ≠ 252 → (a ≠ 236 ∨ j ≠ 7) → a ≠ 234 → a ≠ 216 → ¬ yscr a j → zr (zsn (zsn (zsn (zsn M 216 1 0) 234 (-102 - x) A) 236 7 0) 252 (-x - 100) B) a j = zr m a j := fun a j h1 h2 h3 h4 h5 => by
    rw [yr_sc h1]
    by_cases z : a = 236
    · rw [z, yr_so (by omega), yr_sc (by decide), yr_sc (by decide)]; exact sM 236 j (by rw [← z]; exact h5)
    · rw [yr_sc z, yr_sc h3, yr_sc h4]; exact sM a j h5
  refine yInv_LFRz I (fun a h => ?_) (fun j h => ?_) ?_ ?_ (fun k k0 k1 => ?_)
  · exact funext fun j => r a j (by omega) (by omega) (by omega) (by omega) (by unfold yscr; omega)
  · exact r 236 j (by decide) (by omega) (by decide) (by decide) (by unfold yscr; omega)
  · rw [r 4 1 (by decide) (by decide) (by decide) (by decide) (by unfold yscr; omega), r 236 9 (by decide) (by decide) (by decide) (by decide) (by unfold yscr; omega), r 4 2 (by decide) (by decide) (by decide) (by decide) (by unfold yscr; omega), r 236 11 (by decide) (by decide) (by decide) (by decide) (by unfold yscr; omega), r 4 3 (by decide) (by decide) (by decide) (by decide) (by unfold yscr; omega), r 236 12 (by decide) (by decide) (by decide) (by decide) (by unfold yscr; omega), funext (fun j => r 5 j (by decide) (Or.inl (by decide)) (by decide) (by decide) (by unfold yscr; omega)), funext (fun j => r 253 j (by decide) (Or.inl (by decide)) (by decide) (by decide) (by unfold yscr; omega))]
    exact I.2.1
  · have a : zr (zsn (zsn (zsn (zsn M 216 1 0) 234 (-102 - x) A) 236 7 0) 252 (-x - 100) B) 216 1 = 0 := by rw [yr_sc (by decide), yr_sc (by decide), yr_sc (by decide), yr_ss (znp_o rfl)]
    have b : zr (zsn (zsn (zsn (zsn M 216 1 0) 234 (-102 - x) A) 236 7 0) 252 (-x - 100) B) 236 7 = 0 := by rw [yr_sc (by decide), yr_ss (znp_o rfl)]
    rw [a, b]
    exact ⟨rfl, by decide, fun j j0 j1 => by omega⟩
  · have xx := rf k k0 k1
    have y := rf (-102 - x) (by omega) (by omega)
    rw [yr_sc (by decide), yr_sc (by decide), yr_sa (n0 _), yr_sa (n2 _), yr_sc (show (234 : Int) ≠ 216 by decide), yr_sc (show (252 : Int) ≠ 236 by decide), yr_sc (show (252 : Int) ≠ 234 by decide), yr_sc (show (252 : Int) ≠ 216 by decide), sM 234 _ (by unfold yscr; omega), sM 252 _ (by unfold yscr; omega)]
    by_cases q : k = -102 - x
    · rw [if_pos q, if_pos (by omega), eA, eB, y, show -102 - x + 2 = -x - 100 by omega]
    · rw [if_neg q, if_neg (by omega)]; exact xx
end PT
