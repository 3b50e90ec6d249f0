/-! ===== a table: the fault, the values ===== -/
theorem ytf_r {T : Int → Int} {n s : Int} : ∀ (k : Nat) (i s : Int), 0 ≤ i → i + k = n → ytf T n i s = -1 ∨ (0 ≤ ytf T n i s ∧ ytf T n i s ≤ n) := by
  intro k
  induction k with
  | zero => intro i s i0 h; rw [ytf_e (by omega)]; split <;> omega
  | succ k ih =>
    intro i s i0 h
    rw [ytf_c (by omega)]
    split
    · exact ih (i + 1) s (by omega) (by omega)
    · split
      · split
        · exact ih (i + 1) 0 (by omega) (by omega)
        · omega
      · split
        · exact ih (i + 1) (s + 1) (by omega) (by omega)
        · omega
theorem ycnt_x {p : Int → Bool} : ∀ (n : Nat) (x : Int), 0 ≤ x → x < ycnt p n → ∃ i, 0 ≤ i ∧ i < (n : Int) ∧ p i = true ∧ ycnt p i = x := by
  intro n
  induction n with
  | zero => intro x x0 x1; have : x < 0 := x1; omega
  | succ n ih =>
    intro x x0 x1
    rw [show ((n + 1 : Nat) : Int) = (n : Int) + 1 by omega] at x1 ⊢
    cases q : p n
    · rw [ycnt_f (by omega) q] at x1
      obtain ⟨i, i0, i1, i2⟩ := ih x x0 x1
      exact ⟨i, i0, by omega, i2⟩
    · rw [ycnt_t (by omega) q] at x1
      by_cases z : x = ycnt p n
      · exact ⟨n, by omega, by omega, q, z.symm⟩
      · obtain ⟨i, i0, i1, i2⟩ := ih x x0 (by omega)
        exact ⟨i, i0, by omega, i2⟩
theorem ytd3 {k : Int} (h : 0 ≤ k) : Int.tdiv (3 * k) 3 = k := by
  rw [Int.tdiv_eq_ediv_of_nonneg (by omega)]; omega
section TC
variable {d : Nat} {m : ZN}
theorem c_52 {T : Int → Int} {n : Int} {K : Int → ZN → Prop} (hn : zr m 216 1 = n) (n0 : 0 ≤ n) (n1 : n ≤ 250) (hT : ∀ j, 0 ≤ j → j < n → zr m 217 j = T j) (hR : ∀ j, 0 ≤ j → j < n → 0 ≤ T j ∧ T j ≤ 255) (h0 : ∀ M, ySc m M → ytf T n 0 0 ≠ -1 → zr M 216 2 = ytf T n 0 0 → K 0 M) (h1 : ∀ M k, ySc m M → ytf T n 0 0 = -1 → yTb T M n → 0 ≤ k → zr M 218 1 = 3 * k → K 1 M) : zcI (d + 3) 52 [zA 218, zA 216] m K := by
  refine w_52 (w_107 ?_)
  have I0 : yTp (zsn (zsn m 216 2 0) 218 1 0) T n 0 := by
    refine ⟨?_, ?_, by omega, fun j j0 j1 => ?_, hR⟩
    · rw [yr_sc (by decide), yr_so (by decide)]; exact hn
    · rw [yr_sc (by decide)]; exact yr_ss (znp_o rfl)
    · rw [yr_sc (by decide), yr_sc (by decide)]; exact hT j j0 j1
  have key : ∀ r : Nat, ∀ (M : ZN) p y o3, n - p < r → ySc m M → yTp M T n p → yTb T M p → 0 ≤ y → y ≤ p → zr M 218 1 = 3 * y → ytf T n p 0 = ytf T n 0 0 → zwpN (d + 3) 52 11 [some (zA 218), some (zA 216), some (zI y), o3] [] M (zPI K) := by
    intro r
    induction r with
    | zero => intro M p y o3 hr sM I; have := I.2.2.1; omega
    | succ r ih =>
      intro M p y o3 hr sM I V y0 y1 hc hf
      have hp := I.2.2.1
      refine w_52_11 ?_
      rw [if_neg (by omega)]
      refine c_53 (d := d) I V hf (fun M2 s2 e2 f0 f1 => ?_) (fun M2 p' s2 I2 V2 p2 c2 f2 => ?_)
      · rw [if_pos rfl, yck_of (by decide)]
        exact h0 M2 (sM.trans s2) (by omega) e2
      · have hp' := I2.2.2.1
        rw [if_neg (by decide)]
        refine c_108 I2 (fun M3 f3 I3 => ?_)
        have rl := ylt_r I2
        have rx := ytx_r (T := T) hp'.2.1
        have c3 : zr M3 218 1 = 3 * (y + 1) := by rw [f3 218 1 (Or.inl (by decide)), c2, hc]; omega
        have V3 : yTb T M3 (ytx T n p') := by
          have v := yTb_n (n := n) V2 hp'.1 hp'.2.1
          exact ⟨by rw [f3 218 1 (Or.inl (by decide))]; exact v.1, fun i i0 i1 hi => by rw [f3 219 _ (Or.inl (by decide))]; exact v.2 i i0 i1 hi⟩
        have s3 := (sM.trans s2).trans f3.sc
        rw [ytf_n hp'.2.1] at f2
        by_cases a : ylt T n p' = -1
        · have e := rl.2.2.2 a
          rw [if_pos a, yck_of (by decide)]
          rw [e] at V3 f2
          rw [ytf_e (by omega), if_pos rfl] at f2
          exact h1 M3 (y + 1) s3 f2.symm V3 (by omega) c3
        · have rr := rl.2.2.1 a
          have h32 := rx.2.2.1 rr.1
          rw [if_neg a]
          rw [ytf_c rr.1, if_neg h32, if_pos rfl, rr.2] at f2
          by_cases b : ylt T n p' = 59
          · rw [if_pos b] at f2 ⊢
            refine c_109 I3 rr.1 (fun M4 f4 I4 => ?_)
            rw [show zb (y + 1) = y + 1 from yb_id (by omega) (by omega)]
            refine ih M4 _ (y + 1) _ (by omega) (s3.trans f4.sc) I4 ?_ (by omega) (by omega) (by rw [f4 218 1 (Or.inl (by decide))]; exact c3) f2
            refine ⟨by rw [f4 218 1 (Or.inl (by decide)), ycnt_f (by omega) (by rw [rr.2, b]; rfl)]; exact V3.1, fun i i0 i1 hi => ?_⟩
            rw [f4 219 _ (Or.inl (by decide))]
            by_cases z : i = ytx T n p'
            · rw [z, rr.2, b] at hi; cases hi
            · exact V3.2 i i0 (by omega) hi
          · rw [if_neg b] at f2 ⊢
            rw [yck_of (by decide)]
            exact h0 M3 s3 (by omega) (by rw [I3.2.1]; exact f2)
  refine key 251 _ 0 0 none (by omega) (((ySc.refl m).sn _ (by unfold yscr; omega)).sn _ (by unfold yscr; omega)) I0 ⟨yr_ss (znp_o rfl), fun i i0 i1 => by omega⟩ (by decide) (by decide) (yr_ss (znp_o rfl)) rfl
theorem c_229 {n : Int} (hn : zr m 236 7 = n) (n0 : 0 ≤ n) (n1 : n ≤ 250) (K : Int → ZN → Prop) : zcI (d + 2) 229 [zA 236] m K = K (ytf (zr m 251) n 0 0) m := by
  refine zcI_eq (w_229 ?_) K
  refine yfor (fun i => ∀ s o3, 0 ≤ s → s ≤ 3 → ytf (zr m 251) n i s = ytf (zr m 251) n 0 0 → zwpN (d + 2) 229 4 [some (zA 236), some (zI s), some (zI i), o3] [] m (zPI (fun v m1 => v = ytf (zr m 251) n 0 0 ∧ m1 = m))) 0 n n0 (fun i i0 i1 hW s o3 s0 s1 hf => ?_) (fun s o3 s0 s1 hf => ?_) 0 none (by decide) (by decide) rfl
  · refine w_229_4 ?_
    rw [ytf_c i1] at hf
    rw [hn, if_pos i1, yck_of (by omega), show zb (i + 1) = i + 1 from yb_id (by omega) (by omega), show zb (s + 1) = s + 1 from yb_id (by omega) (by omega)]
    by_cases q : zr m 251 i = 32
    · rw [if_pos q] at hf ⊢
      exact hW s _ s0 s1 hf
    · rw [if_neg q] at hf ⊢
      by_cases q3 : s = 3
      · rw [if_pos q3] at hf ⊢
        by_cases q4 : zr m 251 i = 59
        · rw [if_pos q4] at hf ⊢
          rw [if_pos q3]
          exact hW 0 _ (by decide) (by decide) hf
        · rw [if_neg q4] at hf ⊢
          exact ⟨hf, rfl⟩
      · rw [if_neg q3] at hf ⊢
        rw [c_228]
        by_cases q4 : zr m 251 i = 46 ∨ (49 ≤ zr m 251 i ∧ zr m 251 i ≤ 57)
        · rw [if_pos (show ycl (zr m 251 i) = true from decide_eq_true q4)] at hf
          rw [if_pos q4, if_neg (by decide), if_neg q3]
          exact hW (s + 1) _ (by omega) (by omega) hf
        · rw [if_neg (show ¬ ycl (zr m 251 i) = true from fun z => q4 (of_decide_eq_true z))] at hf
          rw [if_neg q4, if_pos rfl]
          exact ⟨hf, rfl⟩
  · refine w_229_4 ?_
    rw [ytf_e (by omega)] at hf
    rw [hn, if_neg (by omega)]
    by_cases q3 : s = 3
    · rw [if_pos q3] at hf ⊢; exact ⟨hf, rfl⟩
    · rw [if_neg q3] at hf ⊢; exact ⟨hf, rfl⟩
/-- the class puts the values behind its lines -/
theorem c_127l {L0 k y1 y2 : Int} {K : Int → ZN → Prop} (hL : zr m 4 1 = L0) (L1 : 0 ≤ L0) (k0 : 0 ≤ k) (Lk : L0 + k ≤ 60) (hc : zr m 218 1 = 3 * k) (hk : k ≤ 83) (h : ∀ M, (∀ b, b ≠ 4 → b ≠ 5 → zr M b = zr m b) → zr M 4 1 = L0 + k → (∀ j, j ≠ 1 → zr M 4 j = zr m 4 j) → (∀ j, 0 ≤ j → j < 3 * L0 → zr M 5 j = zr m 5 j) → (∀ x, 0 ≤ x → x < 3 * k → zr M 5 (3 * L0 + x) = zr m 219 x) → K k M) : zwpN (d + 4) 127 76 [some (zA 3), some (zI y1), some (zI y2), some (zI k), some (zI 0)] [] m (zPI K) := by
  have n5 : ∀ j, znp' 5 j = true := ynl rfl
  refine yfor (fun i => ∀ M : ZN, (∀ b, b ≠ 4 → b ≠ 5 → zr M b = zr m b) → zr M 4 1 = L0 + i → (∀ j, j ≠ 1 → zr M 4 j = zr m 4 j) → (∀ j, 0 ≤ j → j < 3 * L0 → zr M 5 j = zr m 5 j) → (∀ x, 0 ≤ x → x < 3 * i → zr M 5 (3 * L0 + x) = zr m 219 x) → zwpN (d + 4) 127 76 [some (zA 3), some (zI y1), some (zI y2), some (zI k), some (zI i)] [] M (zPI K)) 0 k k0 (fun i i0 i1 hW M f g1 g2 g3 g4 => ?_) (fun M f g1 g2 g3 g4 => ?_) m (fun _ _ _ => rfl) (by omega) (fun _ _ => rfl) (fun _ _ _ => rfl) (fun x x0 x1 => by omega)
  · have v55 : ∀ c, 0 ≤ c → c ≤ 2 → ∀ K', zcI (d + 3) 55 [zA 218, zI i, zI c] M K' = K' (zr m 219 (3 * i + c)) M := fun c c0 c1 K' => by
      refine zcI_eq (w_55 ?_) K'
      rw [show zb (i * 3) = 3 * i from by rw [yb_id (by omega) (by omega)]; omega, show zb (3 * i + c) = 3 * i + c from yb_id (by omega) (by omega), f 218 (by decide) (by decide), hc, show zb (3 * k - 1) = 3 * k - 1 from yb_id (by omega) (by omega), c_181, if_pos (show 0 ≤ 3 * i + c ∧ 3 * i + c ≤ 3 * k - 1 by omega), if_neg (by decide), yck_of (by omega), f 219 (by decide) (by decide)]
      exact ⟨rfl, rfl⟩
    refine w_127_76 ?_
    rw [if_pos i1, v55 0 (by decide) (by decide), v55 1 (by decide) (by decide), v55 2 (by decide) (by decide), c_37 (d := d + 1) (by omega) (by omega), g1, show zb (i + 1) = i + 1 from yb_id (by omega) (by omega)]
    refine hW _ (fun b b0 b1 => ?_) ?_ (fun j hj => ?_) (fun j j0 j1 => ?_) (fun x x0 x1 => ?_)
    · rw [yfc b0, yfc b1, yfc b1, yfc b1]; exact f b b0 b1
    · rw [yr_ss (znp_o rfl)]; omega
    · rw [yr_so hj, yr_sc (by decide), yr_sc (by decide), yr_sc (by decide)]; exact g2 j hj
    · rw [yr_sc (by decide), yr_so (by omega), yr_so (by omega), yr_so (by omega)]; exact g3 j j0 j1
    · rw [yr_sc (by decide), yr_sa (n5 _), yr_sa (n5 _), yr_sa (n5 _)]
      by_cases q2 : x = 3 * i + 2
      · rw [if_pos (by omega), q2]
      · rw [if_neg (by omega)]
        by_cases q1 : x = 3 * i + 1
        · rw [if_pos (by omega), q1]
        · rw [if_neg (by omega)]
          by_cases q0 : x = 3 * i + 0
          · rw [if_pos (by omega), q0]
          · rw [if_neg (by omega)]; exact g4 x x0 (by omega)
  · refine w_127_76 ?_
    rw [if_neg (by omega)]
    exact h M f g1 g2 g3 g4
/-- the reference puts them behind its own -/
theorem c_230l {L0 k n f : Int} {K : Int → ZN → Prop} (n0 : 0 ≤ n) (n1 : n ≤ 250) (hL : zr m 236 9 = L0) (L1 : 0 ≤ L0) (k0 : 0 ≤ k) (hk : ycnt (fun i => ycl (zr m 251 i)) n = 3 * k) (L60 : L0 ≤ 60) (hR : ∀ j, 0 ≤ j → j < n → 0 ≤ zr m 251 j ∧ zr m 251 j ≤ 255) (hF : 60 < L0 + k → zcI (d + 1) 191 [zA 236, zI (-106)] m K) (h : L0 + k ≤ 60 → ∀ M, (∀ b, b ≠ 236 → b ≠ 253 → zr M b = zr m b) → (∀ j, j ≠ 9 → zr M 236 j = zr m 236 j) → zr M 236 9 = L0 + k → (∀ j, 0 ≤ j → j < 3 * L0 → zr M 253 j = zr m 253 j) → (∀ i, 0 ≤ i → i < n → ycl (zr m 251 i) = true → zr M 253 (3 * L0 + ycnt (fun i => ycl (zr m 251 i)) i) = yvl (zr m 251 i)) → K k M) : zwpN (d + 2) 230 38 [some (zA 236), some (zI f), some (zI n), some (zI 0), some (zI 0), none] [] m (zPI K) := by
  have n5 : ∀ j, znp' 253 j = true := ynl rfl
  have kk : k ≤ 250 := by
    have := ycnt_r (fun i => ycl (zr m 251 i)) n0
    omega
  refine yfor (fun i => zwpN (d + 2) 230 38 [some (zA 236), some (zI f), some (zI n), some (zI (ycnt (fun i => ycl (zr m 251 i)) i)), some (zI i), none] [] m (zPI K)) 0 n n0 (fun i i0 i1 hW => ?_) ?_
  · have hc := ycnt_r (fun i => ycl (zr m 251 i)) i0
    refine w_230_38 ?_
    rw [if_pos i1, yck_of (by omega), c_228, show zb (i + 1) = i + 1 from yb_id (by omega) (by omega)]
    by_cases q4 : zr m 251 i = 46 ∨ (49 ≤ zr m 251 i ∧ zr m 251 i ≤ 57)
    · rw [ycnt_t i0 (decide_eq_true q4)] at hW
      rw [if_pos q4, if_neg (by decide), show zb (ycnt (fun i => ycl (zr m 251 i)) i + 1) = ycnt (fun i => ycl (zr m 251 i)) i + 1 from yb_id (by omega) (by omega)]
      exact hW
    · rw [ycnt_f i0 (decide_eq_false q4)] at hW
      rw [if_neg q4, if_pos rfl, show zb (ycnt (fun i => ycl (zr m 251 i)) i + 0) = ycnt (fun i => ycl (zr m 251 i)) i from by rw [yb_id (by omega) (by omega)]; omega]
      exact hW
  · refine w_230_38 ?_
    rw [if_neg (by omega), yck_of (by decide), hL, hk, ytd3 k0, show zb k = k from yb_id (by omega) (by omega), show zb (L0 + k) = L0 + k from yb_id (by omega) (by omega), show zb (3 * L0) = 3 * L0 from yb_id (by omega) (by omega)]
    by_cases qF : 60 < L0 + k
    · rw [if_pos qF]; exact hF qF
    · rw [if_neg qF]
      suffices go : ∀ y4, y4 = 3 * L0 + ycnt (fun i => ycl (zr m 251 i)) 0 → zwpN (d + 2) 230 102 [some (zA 236), some (zI f), some (zI n), some (zI (3 * k)), some (zI y4), some (zI 0)] [] m (zPI K) from go _ (by rw [ycnt_0]; omega)
      refine yfor (fun i => ∀ (M : ZN), (∀ b, b ≠ 253 → zr M b = zr m b) → (∀ j, 0 ≤ j → j < 3 * L0 → zr M 253 j = zr m 253 j) → (∀ x, 0 ≤ x → x < i → ycl (zr m 251 x) = true → zr M 253 (3 * L0 + ycnt (fun i => ycl (zr m 251 i)) x) = yvl (zr m 251 x)) → ∀ y4, y4 = 3 * L0 + ycnt (fun i => ycl (zr m 251 i)) i → zwpN (d + 2) 230 102 [some (zA 236), some (zI f), some (zI n), some (zI (3 * k)), some (zI y4), some (zI i)] [] M (zPI K)) 0 n n0 (fun i i0 i1 hW M g1 g2 g3 y4 hy => ?_) (fun M g1 g2 g3 y4 hy => ?_) m (fun _ _ => rfl) (fun _ _ _ => rfl) (fun x x0 x1 => by omega)
      · have hc := ycnt_r (fun i => ycl (zr m 251 i)) i0
        have hR := hR i i0 i1
        refine w_230_102 ?_
        rw [if_pos i1, yck_of (by omega), g1 251 (by decide), c_228, show zb (i + 1) = i + 1 from yb_id (by omega) (by omega)]
        by_cases q4 : zr m 251 i = 46 ∨ (49 ≤ zr m 251 i ∧ zr m 251 i ≤ 57)
        · have hs : ycnt (fun i => ycl (zr m 251 i)) (i + 1) = ycnt (fun i => ycl (zr m 251 i)) i + 1 := ycnt_t i0 (decide_eq_true q4)
          have hle := ycnt_le (p := fun i => ycl (zr m 251 i)) (show 0 ≤ i + 1 by omega) (show i + 1 ≤ n by omega)
          have put : ∀ v, v = yvl (zr m 251 i) → zwpN (d + 2) 230 102 [some (zA 236), some (zI f), some (zI n), some (zI (3 * k)), some (zI (zb (y4 + 1))), some (zI (i + 1))] [] (zsn M 253 y4 v) (zPI K) := fun v hv => by
            rw [show zb (y4 + 1) = y4 + 1 from yb_id (by omega) (by omega)]
            refine hW _ (fun b hb => by rw [yfc hb]; exact g1 b hb) (fun j j0 j1 => by rw [yr_so (by omega)]; exact g2 j j0 j1) (fun x x0 x1 hx => ?_) _ (by omega)
            rw [yr_sa (n5 _)]
            by_cases z : x = i
            · rw [z, if_pos (by omega), hv]
            · have a : ycnt (fun i => ycl (zr m 251 i)) (x + 1) = ycnt (fun i => ycl (zr m 251 i)) x + 1 := ycnt_t x0 hx
              have b := ycnt_le (p := fun i => ycl (zr m 251 i)) (show 0 ≤ x + 1 by omega) (show x + 1 ≤ i by omega)
              rw [if_neg (by omega)]
              exact g3 x x0 (by omega) hx
          rw [if_pos q4, if_neg (by decide), yck_of (by omega), g1 251 (by decide)]
          by_cases q5 : zr m 251 i = 46
          · rw [if_pos q5, yck_of (by omega)]
            exact put 0 (by rw [q5]; rfl)
          · rw [if_neg q5, yck_of (by omega), yck_of (by omega), show zb (zr m 251 i - 48) = zr m 251 i - 48 from yb_id (by omega) (by omega)]
            exact put _ (by unfold yvl; rw [if_neg q5])
        · have hs : ycnt (fun i => ycl (zr m 251 i)) (i + 1) = ycnt (fun i => ycl (zr m 251 i)) i := ycnt_f i0 (decide_eq_false q4)
          rw [if_neg q4, if_pos rfl]
          refine hW M g1 g2 (fun x x0 x1 hx => ?_) y4 (by rw [hs]; exact hy)
          by_cases z : x = i
          · rw [z] at hx
            exact absurd (of_decide_eq_true hx) q4
          · exact g3 x x0 (by omega) hx
      · refine w_230_102 ?_
        rw [if_neg (by omega), yck_of (by decide), yck_of (by decide), ytd3 k0, show zb k = k from yb_id (by omega) (by omega), g1 236 (by decide), hL, show zb (L0 + k) = L0 + k from yb_id (by omega) (by omega)]
        refine h (by omega) _ (fun b b0 b1 => by rw [yfc b0]; exact g1 b b1) (fun j hj => by rw [yr_so hj, g1 236 (by decide)]) (yr_ss (znp_o rfl)) (fun j j0 j1 => by rw [yr_sc (by decide)]; exact g2 j j0 j1) (fun i i0 i1 hi => by rw [yr_sc (by decide)]; exact g3 i i0 i1 hi)
end TC
section PT
variable {d : Nat} {m : ZN} {L : Int} {xs : Int → Int} {Q : Int → Int → ZN → Prop}
theorem p_wr (I : yInv L xs m) {M : ZN} (sM : ySc m M) {x : Int} (h1 : -106 ≤ x) (h2 : x ≤ -102) : yInv L xs (zsn (zsn (zsn (zsn M 216 1 0) 234 (-102 - x) (zb (zr (zsn M 216 1 0) 234 (-102 - x) + 1))) 236 7 0) 252 (-x - 100) (zb (zr (zsn (zsn (zsn M 216 1 0) 234 (-102 - x) (zb (zr (zsn M 216 1 0) 234 (-102 - x) + 1))) 236 7 0) 252 (-x - 100) + 1))) := by
  have rf := I.2.2.2.2.2.2
  have n0 : ∀ j, znp' 234 j = true := ynl rfl
  have n2 : ∀ j, znp' 252 j = true := ynl rfl
  obtain ⟨A, hA⟩ : ∃ A, A = zb (zr (zsn M 216 1 0) 234 (-102 - x) + 1) := ⟨_, rfl⟩
  have eA : A = zb (zr m 234 (-102 - x) + 1) := by rw [hA, yr_sc (by decide), sM 234 _ (by unfold yscr; omega)]
  obtain ⟨B, hB⟩ : ∃ B, B = zb (zr (zsn (zsn (zsn M 216 1 0) 234 (-102 - x) A) 236 7 0) 252 (-x - 100) + 1) := ⟨_, rfl⟩
  have eB : B = zb (zr m 252 (-x - 100) + 1) := by rw [hB, yr_sc (by decide), yr_sc (by decide), yr_sc (by decide), sM 252 _ (by unfold yscr; omega)]
  rw [← hA, ← hB]
  have r : ∀ a j, a ≠ 252 → (a ≠ 236 ∨ j ≠ 7) → a ≠ 234 → a ≠ 216 → ¬ yscr a j → zr (zsn (zsn (zsn (zsn M 216 1 0) 234 (-102 - x) A) 236 7 0) 252 (-x - 100) B) a j = zr m a j := fun a j h1 h2 h3 h4 h5 => by
    rw [yr_sc h1]
    by_cases z : a = 236
    · rw [z, yr_so (by omega), yr_sc (by decide), yr_sc (by decide)]; exact sM 236 j (by rw [← z]; exact h5)
    · rw [yr_sc z, yr_sc h3, yr_sc h4]; exact sM a j h5
  refine yInv_LFRz I (fun a h => ?_) (fun j h => ?_) ?_ ?_ (fun k k0 k1 => ?_)
  · exact funext fun j => r a j (by omega) (by omega) (by omega) (by omega) (by unfold yscr; omega)
  · exact r 236 j (by decide) (by omega) (by decide) (by decide) (by unfold yscr; omega)
  · rw [r 4 1 (by decide) (by decide) (by decide) (by decide) (by unfold yscr; omega), r 236 9 (by decide) (by decide) (by decide) (by decide) (by unfold yscr; omega), r 4 2 (by decide) (by decide) (by decide) (by decide) (by unfold yscr; omega), r 236 11 (by decide) (by decide) (by decide) (by decide) (by unfold yscr; omega), r 4 3 (by decide) (by decide) (by decide) (by decide) (by unfold yscr; omega), r 236 12 (by decide) (by decide) (by decide) (by decide) (by unfold yscr; omega), funext (fun j => r 5 j (by decide) (Or.inl (by decide)) (by decide) (by decide) (by unfold yscr; omega)), funext (fun j => r 253 j (by decide) (Or.inl (by decide)) (by decide) (by decide) (by unfold yscr; omega))]
    exact I.2.1
  · have a : zr (zsn (zsn (zsn (zsn M 216 1 0) 234 (-102 - x) A) 236 7 0) 252 (-x - 100) B) 216 1 = 0 := by rw [yr_sc (by decide), yr_sc (by decide), yr_sc (by decide), yr_ss (znp_o rfl)]
    have b : zr (zsn (zsn (zsn (zsn M 216 1 0) 234 (-102 - x) A) 236 7 0) 252 (-x - 100) B) 236 7 = 0 := by rw [yr_sc (by decide), yr_ss (znp_o rfl)]
    rw [a, b]
    exact ⟨rfl, by decide, fun j j0 j1 => by omega⟩
  · have xx := rf k k0 k1
    have y := rf (-102 - x) (by omega) (by omega)
    rw [yr_sc (by decide), yr_sc (by decide), yr_sa (n0 _), yr_sa (n2 _), yr_sc (show (234 : Int) ≠ 216 by decide), yr_sc (show (252 : Int) ≠ 236 by decide), yr_sc (show (252 : Int) ≠ 234 by decide), yr_sc (show (252 : Int) ≠ 216 by decide), sM 234 _ (by unfold yscr; omega), sM 252 _ (by unfold yscr; omega)]
    by_cases q : k = -102 - x
    · rw [if_pos q, if_pos (by omega), eA, eB, y, show -102 - x + 2 = -x - 100 by omega]
    · rw [if_neg q, if_neg (by omega)]; exact xx
theorem p_table (I : yInv L xs m) (hQ : ∀ r m2, yInv L xs m2 → Q r r m2) : zcI (d + 9) 127 [zA 3] m (fun v m1 => zcI (d + 9) 230 [zA 236] m1 (fun v2 m2 => Q v v2 m2)) := by
  obtain ⟨l1, l2, l3, l4, l5, l6, l7⟩ := I.2.1
  obtain ⟨t1, t2, t3⟩ := I.2.2.2.2.2.1
  obtain ⟨n, hn⟩ : ∃ n, n = zr m 216 1 := ⟨_, rfl⟩
  rw [← hn] at t1 t2 t3
  have hR : ∀ j, 0 ≤ j → j < n → 0 ≤ zr m 251 j ∧ zr m 251 j ≤ 255 := fun j j0 j1 => by have := t3 j j0 j1; omega
  refine w_127 (c_52 (d := d + 5) (T := zr m 251) hn.symm t2.1 t2.2 (fun j j0 j1 => (t3 j j0 j1).1) hR (fun M sM hf he => ?_) (fun M k sM hf V k0 hc => ?_))
  · -- a fault
    refine w_106 ?_
    rw [if_pos rfl, c_168 (by decide) (by decide), he]
    have e251 : zr (zsn (zsn M 216 1 0) 234 (-102 - -102) (zb (zr (zsn M 216 1 0) 234 (-102 - -102) + 1))) 251 = zr m 251 := by rw [yfc (by decide), yfc (by decide)]; exact sM.fn (fun j => by unfold yscr; omega)
    have e7 : zr (zsn (zsn M 216 1 0) 234 (-102 - -102) (zb (zr (zsn M 216 1 0) 234 (-102 - -102) + 1))) 236 7 = n := by rw [yr_sc (by decide), yr_sc (by decide), sM 236 7 (by unfold yscr; omega)]; exact t1.symm
    refine w_230 ?_
    rw [c_229 (d := d + 6) e7 t2.1 t2.2, e251, if_neg hf, c_191 (by decide) (by decide)]
    exact hQ _ _ (p_wr I sM (by decide) (by decide))
  · have hk : ycnt (fun i => ycl (zr m 251 i)) n = 3 * k := by rw [← V.1]; exact hc
    have hkr := ycnt_r (fun i => ycl (zr m 251 i)) t2.1
    have fin := fun x (h1 : -106 ≤ x) (h2 : x ≤ -102) => p_wr (x := x) I sM h1 h2
    refine w_106 ?_
    rw [if_neg (by decide)]
    refine w_54 ?_
    have f1 : ∀ a j, (a ≠ 216 ∨ j ≠ 1) → zr (zsn M 216 1 0) a j = zr M a j := fun a j h => by rw [zr_zsn, if_neg (fun z => by have := z.1; omega)]
    have f2 : zr (zsn M 216 1 0) 216 1 = 0 := yr_ss (znp_o rfl)
    generalize zsn M 216 1 0 = M1 at *
    have e41 : zr M1 4 1 = zr m 236 9 := by rw [f1 4 1 (by decide), sM 4 1 (by unfold yscr; omega), l1]
    rw [f1 218 1 (by decide), hc, yck_of (by decide), ytd3 k0, show zb k = k from yb_id (by omega) (by omega), e41, show zb (zr m 236 9 + k) = zr m 236 9 + k from yb_id (by omega) (by omega)]
    have s1 : ∀ a j, ¬ yscr a j → (a ≠ 216 ∨ j ≠ 1) → zr M1 a j = zr m a j := fun a j q h => by rw [f1 a j h]; exact sM a j q
    by_cases qF : 60 < zr m 236 9 + k
    · rw [if_pos qF, c_168 (by decide) (by decide)]
      have fin := fin (-106) (by decide) (by decide)
      have e251 : zr (zsn M1 234 (-102 - -106) (zb (zr M1 234 (-102 - -106) + 1))) 251 = zr m 251 := by rw [yfc (by decide)]; exact funext fun j => s1 251 j (by unfold yscr; omega) (Or.inl (by decide))
      have e7 : zr (zsn M1 234 (-102 - -106) (zb (zr M1 234 (-102 - -106) + 1))) 236 7 = n := by rw [yr_sc (by decide), s1 236 7 (by unfold yscr; omega) (by decide)]; exact t1.symm
      have e9 : zr (zsn (zsn M1 234 (-102 - -106) (zb (zr M1 234 (-102 - -106) + 1))) 236 7 0) 236 9 = zr m 236 9 := by rw [yr_so (by decide), yr_sc (by decide), s1 236 9 (by unfold yscr; omega) (by decide)]
      refine w_230 ?_
      rw [c_229 (d := d + 6) e7 t2.1 t2.2, e251, if_pos hf, e7]
      have e251' : zr (zsn (zsn M1 234 (-102 - -106) (zb (zr M1 234 (-102 - -106) + 1))) 236 7 0) 251 = zr m 251 := by rw [yfc (by decide)]; exact e251
      refine c_230l (d := d + 7) t2.1 t2.2 e9 (by omega) k0 (by rw [e251']; exact hk) (by omega) (by rw [e251']; exact hR) (fun _ => ?_) (fun z => absurd qF (by omega))
      rw [c_191 (by decide) (by decide)]
      exact hQ _ _ fin
    · rw [if_neg qF]
      refine c_127l (d := d + 5) e41 (by omega) k0 (by omega) (by rw [f1 218 1 (by decide)]; exact hc) (by omega) (fun M2 g0 g1 g2 g3 g4 => ?_)
      have e251 : zr M2 251 = zr m 251 := by rw [g0 251 (by decide) (by decide)]; exact funext fun j => s1 251 j (by unfold yscr; omega) (Or.inl (by decide))
      have e7 : zr M2 236 7 = n := by rw [g0 236 (by decide) (by decide), s1 236 7 (by unfold yscr; omega) (by decide)]; exact t1.symm
      have e9 : zr (zsn M2 236 7 0) 236 9 = zr m 236 9 := by rw [yr_so (by decide), g0 236 (by decide) (by decide), s1 236 9 (by unfold yscr; omega) (by decide)]
      refine w_230 ?_
      rw [c_229 (d := d + 6) e7 t2.1 t2.2, e251, if_pos hf, e7]
      have e251' : zr (zsn M2 236 7 0) 251 = zr m 251 := by rw [yfc (by decide)]; exact e251
      refine c_230l (d := d + 7) t2.1 t2.2 e9 (by omega) k0 (by rw [e251']; exact hk) (by omega) (by rw [e251']; exact hR) (fun z => absurd z qF) (fun _ M3 k1 k2 k3 k4 k5 => ?_)
      rw [e251'] at k5
      have c1 : ∀ a, a ≠ 4 → a ≠ 5 → a ≠ 236 → a ≠ 253 → zr M3 a = zr M1 a := fun a a0 a1 a2 a3 => by rw [k1 a a2 a3, yfc a2, g0 a a0 a1]
      have c2 : ∀ j, j ≠ 9 → j ≠ 7 → zr M3 236 j = zr M1 236 j := fun j j0 j1 => by rw [k2 j j0, yr_so j1, g0 236 (by decide) (by decide)]
      have c4 : zr M3 4 = zr M2 4 := by rw [k1 4 (by decide) (by decide), yfc (by decide)]
      have c5 : zr M3 5 = zr M2 5 := by rw [k1 5 (by decide) (by decide), yfc (by decide)]
      refine hQ _ _ (yInv_LFRz I (fun a h => ?_) (fun j h => ?_) ⟨?_, ?_, ?_, ?_, ?_, ?_, fun j j0 j1 => ?_⟩ ?_ (fun k k0 k1 => ?_))
      · rw [c1 a (by omega) (by omega) (by omega) (by omega)]
        exact funext fun j => s1 a j (by unfold yscr; omega) (by omega)
      · rw [c2 j (by omega) (by omega)]
        exact s1 236 j (by unfold yscr; omega) (by omega)
      · rw [c4, g1, k3]
      · rw [c4, g1]; omega
      · rw [c4, g2 2 (by decide), c2 11 (by decide) (by decide), s1 4 2 (by unfold yscr; omega) (by decide), s1 236 11 (by unfold yscr; omega) (by decide)]; exact l3
      · rw [c4, g2 2 (by decide), s1 4 2 (by unfold yscr; omega) (by decide)]; exact l4
      · rw [c4, g2 3 (by decide), c2 12 (by decide) (by decide), s1 4 3 (by unfold yscr; omega) (by decide), s1 236 12 (by unfold yscr; omega) (by decide)]; exact l5
      · rw [c4, g2 3 (by decide), s1 4 3 (by unfold yscr; omega) (by decide)]; exact l6
      · rw [c4, g1] at j1
        rw [c5]
        by_cases q : j < 3 * zr m 236 9
        · have e := k4 j j0 q
          rw [g3 j j0 q, e, yfc (show (253 : Int) ≠ 236 by decide), g0 253 (by decide) (by decide), s1 5 j (by unfold yscr; omega) (Or.inl (by decide)), s1 253 j (by unfold yscr; omega) (Or.inl (by decide))]
          exact l7 j j0 (by omega)
        · obtain ⟨i, i0, i1, i2, i3⟩ := ycnt_x (p := fun i => ycl (zr m 251 i)) n.toNat (j - 3 * zr m 236 9) (by omega) (by rw [show ((n.toNat : Nat) : Int) = n by omega, hk]; omega)
          have e := k5 i i0 (by omega) i2
          have v := V.2 i i0 (by omega) i2
          have g := g4 (j - 3 * zr m 236 9) (by omega) (by omega)
          rw [i3] at e v
          rw [show 3 * zr m 236 9 + (j - 3 * zr m 236 9) = j by omega] at e g
          rw [g, e, f1 219 _ (Or.inl (by decide)), v]
          refine ⟨rfl, ?_⟩
          have := of_decide_eq_true i2
          unfold yvl
          split <;> omega
      · have a : zr M3 216 1 = 0 := by rw [c1 216 (by decide) (by decide) (by decide) (by decide)]; exact f2
        have b : zr M3 236 7 = 0 := by rw [k2 7 (by decide)]; exact yr_ss (znp_o rfl)
        rw [a, b]
        exact ⟨rfl, by decide, fun j j0 j1 => by omega⟩
      · rw [c1 234 (by decide) (by decide) (by decide) (by decide), c1 252 (by decide) (by decide) (by decide) (by decide), s1 234 _ (by unfold yscr; omega) (Or.inl (by decide)), s1 252 _ (by unfold yscr; omega) (Or.inl (by decide))]
        exact I.2.2.2.2.2.2 k k0 k1
end PT
