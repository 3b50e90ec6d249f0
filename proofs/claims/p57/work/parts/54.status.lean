/-! ===== pair: status ===== -/
theorem ycnt_z {p : Int → Bool} : ∀ n : Nat, ycnt p n = 0 ↔ ∀ i : Int, 0 ≤ i → i < n → p i = false := by
  intro n
  induction n with
  | zero => exact ⟨fun _ i i0 i1 => by omega, fun _ => rfl⟩
  | succ n ih =>
    rw [show ((n + 1 : Nat) : Int) = (n : Int) + 1 by omega, ycnt_s (by omega)]
    have hr := ycnt_r p (show 0 ≤ (n : Int) by omega)
    cases hp : p n
    · simp only [cond_false, Int.add_zero]
      rw [ih]
      constructor
      · intro h i i0 i1
        by_cases q : i = n
        · rw [q]; exact hp
        · exact h i i0 (by omega)
      · intro h i i0 i1
        exact h i i0 (by omega)
    · simp only [cond_true]
      constructor
      · intro h; omega
      · intro h
        have := h n (by omega) (by omega)
        rw [hp] at this; cases this
theorem ycnt_upd {s : Int → Int} {x : Int} (x0 : 0 ≤ x) : ∀ n : Nat, x < n → ycnt (fun g => decide ((if g = x then 1 else s g) ≠ 0)) n = ycnt (fun g => decide (s g ≠ 0)) n + (if s x = 0 then 1 else 0) := by
  intro n
  induction n with
  | zero => intro h; omega
  | succ n ih =>
    intro hx
    rw [show ((n + 1 : Nat) : Int) = (n : Int) + 1 by omega, ycnt_s (by omega), ycnt_s (by omega)]
    by_cases q : x = n
    · rw [ycnt_c (p := fun g => decide ((if g = x then 1 else s g) ≠ 0)) (n := n) (q := fun g => decide (s g ≠ 0)) (fun g g0 g1 => by rw [if_neg (by omega)])]
      rw [if_pos q.symm, decide_eq_true (show (1 : Int) ≠ 0 by decide), ← q]
      by_cases q2 : s x = 0
      · rw [if_pos q2, decide_eq_false (fun z => z q2)]
        simp only [cond_true, cond_false]; omega
      · rw [if_neg q2, decide_eq_true q2]
        simp only [cond_true]; omega
    · rw [ih (by omega), if_neg (show ¬ (n : Int) = x by omega)]
      omega
theorem ycnt_3 {p : Int → Bool} : ∀ n : Nat, ycnt p (3 * n) = ycnt (fun i => p (3 * i + 0)) n + ycnt (fun i => p (3 * i + 1)) n + ycnt (fun i => p (3 * i + 2)) n := by
  intro n
  induction n with
  | zero => rfl
  | succ n ih =>
    rw [show (3 * ((n + 1 : Nat) : Int)) = 3 * (n : Int) + 1 + 1 + 1 by omega, show ((n + 1 : Nat) : Int) = (n : Int) + 1 by omega, ycnt_s (by omega), ycnt_s (by omega), ycnt_s (by omega), ycnt_s (by omega), ycnt_s (by omega), ycnt_s (by omega), ih, show 3 * (n : Int) + 1 + 1 = 3 * n + 2 by omega, Int.add_zero]
    omega
/-- the first of its value -/
def yfst (v : Int → Int) : Int → Bool := fun i => decide (ycnt (fun j => decide (v j = v i)) i = 0)
theorem yfst_i {v : Int → Int} {i : Int} (i0 : 0 ≤ i) : yfst v i = true ↔ ∀ j, 0 ≤ j → j < i → v j ≠ v i := by
  unfold yfst
  rw [decide_eq_true_eq]
  have := ycnt_z (p := fun j => decide (v j = v i)) i.toNat
  rw [show ((i.toNat : Nat) : Int) = i by omega] at this
  rw [this]
  constructor
  · intro h j j0 j1
    have := h j j0 j1
    rwa [decide_eq_false_iff_not] at this
  · intro h j j0 j1
    rw [decide_eq_false_iff_not]
    exact h j j0 j1
section ST
variable {d : Nat} {m : ZN} {L : Int} {xs : Int → Int} {Q : Int → Int → ZN → Prop}
theorem c_178 {K : Int → ZN → Prop} (h5 : 0 ≤ zr m 4 1) (h6 : zr m 4 1 ≤ 60) (hv : ∀ j, 0 ≤ j → j < 3 * zr m 4 1 → 0 ≤ zr m 5 j ∧ zr m 5 j ≤ 9) (h : ∀ M2, (∀ b, b ≠ 235 → zr M2 b = zr m b) → K (ycnt (yfst (fun i => yk3 (zr m 5) i 0)) (zr m 4 1)) M2) : zcI (d + 2) 178 [zA 3] m K := by
  have np : ∀ j, znp' 235 j = true := ynl rfl
  refine w_178 (c_179 (fun M1 f1 z1 => ?_))
  refine yfor (fun k => ∀ M, (∀ b, b ≠ 235 → zr M b = zr m b) → (∀ g, 0 ≤ g → g < 1000 → (zr M 235 g = 0 ↔ ∀ j, 0 ≤ j → j < k → yk3 (zr m 5) j 0 ≠ g)) → ycnt (fun g => decide (zr M 235 g ≠ 0)) 1000 = ycnt (yfst (fun i => yk3 (zr m 5) i 0)) k → zwpN (d + 2) 178 6 [some (zA 3), some (zI k)] [] M (zPI K)) 0 (zr m 4 1) h5 (fun k k0 k1 hW M e1 e2 e3 => ?_) (fun M e1 e2 e3 => ?_) M1 f1 (fun g g0 g1 => ⟨fun _ j j0 j1 => by omega, fun _ => z1 g g0 g1⟩) ?_
  · have hk := yk3_r (t := 0) k0 k1 (by decide) (by decide) hv
    have f4 : zr M 4 = zr m 4 := e1 4 (by decide)
    have f5 : zr M 5 = zr m 5 := e1 5 (by decide)
    refine w_178_6 ?_
    rw [f4, if_pos k1, c_39 (d := d) k0 (by rw [f4]; exact k1) (by rw [f4]; exact h6) (by decide) (by decide) (by rw [f4, f5]; exact hv), f5, yck_of ⟨by decide, hk⟩, show zb (k + 1) = k + 1 from yb_id (by omega) (by omega)]
    have er : ∀ g, zr (zsn M 235 (yk3 (zr m 5) k 0) 1) 235 g = if g = yk3 (zr m 5) k 0 then 1 else zr M 235 g := fun g => yr_sa (np _)
    refine hW _ (fun b hb => by rw [yfc hb]; exact e1 b hb) (fun g g0 g1 => ?_) ?_
    · rw [er]
      by_cases q : g = yk3 (zr m 5) k 0
      · rw [if_pos q]
        exact ⟨fun z => absurd z (by decide), fun z => absurd q.symm (z k k0 (by omega))⟩
      · rw [if_neg q, e2 g g0 g1]
        constructor
        · intro z j j0 j1
          by_cases q2 : j = k
          · rw [q2]; exact fun w => q w.symm
          · exact z j j0 (by omega)
        · intro z j j0 j1
          exact z j j0 (by omega)
    · have hu := ycnt_upd (s := zr M 235) hk.1 1000 (by omega)
      rw [ycnt_c (q := fun g => decide ((if g = yk3 (zr m 5) k 0 then 1 else zr M 235 g) ≠ 0)) (fun g g0 g1 => by rw [er])]
      refine hu.trans ?_
      have e3' : ycnt (fun g => decide (zr M 235 g ≠ 0)) ((1000 : Nat) : Int) = _ := e3
      rw [e3', ycnt_s k0]
      have hi := yfst_i (v := fun i => yk3 (zr m 5) i 0) k0
      have hg := e2 _ hk.1 hk.2
      by_cases q : zr M 235 (yk3 (zr m 5) k 0) = 0
      · rw [if_pos q, hi.2 (hg.1 q)]; rfl
      · rw [if_neg q, Bool.eq_false_iff.2 (fun z => q (hg.2 (hi.1 z)))]; rfl
  · refine w_178_6 ?_
    rw [e1 4 (by decide), if_neg (by omega), c_180, e3]
    exact h M e1
  · rw [ycnt_c (q := fun _ => false) (fun g g0 g1 => decide_eq_false (fun z => z (z1 g g0 g1)))]
    have := (ycnt_z (p := fun _ => false) 1000).2 (fun _ _ _ => rfl)
    exact this
theorem c_313 {n : Int} (h9 : zr m 236 9 = n) (n0 : 0 ≤ n) (hn : n ≤ 60) (hv : ∀ j, 0 ≤ j → j < 3 * n → 0 ≤ zr m 253 j ∧ zr m 253 j ≤ 9) (K : Int → ZN → Prop) : zcI (d + 2) 313 [zA 236] m K = K (ycnt (yfst (fun i => yk3 (zr m 253) i 0)) n) m := by
  refine zcI_eq (w_313 ?_) K
  refine yfor (fun k => ∀ o, zwpN (d + 2) 313 4 [some (zA 236), some (zI (ycnt (yfst (fun i => yk3 (zr m 253) i 0)) k)), some (zI k), o] [] m _) 0 n n0 (fun k k0 k1 hW o => ?_) (fun o => ?_) none
  · have hr := ycnt_r (yfst (fun i => yk3 (zr m 253) i 0)) k0
    have hi := yfst_i (v := fun i => yk3 (zr m 253) i 0) k0
    refine w_313_4 ?_
    rw [h9, if_pos k1]
    refine yfor (fun l => (∀ j, 0 ≤ j → j < l → yk3 (zr m 253) j 0 ≠ yk3 (zr m 253) k 0) → zwpN (d + 2) 313 14 [some (zA 236), some (zI (ycnt (yfst (fun i => yk3 (zr m 253) i 0)) k)), some (zI k), some (zI l)] [] m _) 0 k k0 (fun l l0 l1 hL hl => ?_) (fun hl => ?_) (fun j j0 j1 => by omega)
    · refine w_313_14 ?_
      rw [c_210 (d := d) l0 (show l < n by omega) hn (by decide) (by decide) hv, c_210 (d := d) k0 k1 hn (by decide) (by decide) hv, show zb (l + 1) = l + 1 from yb_id (by omega) (by omega), show zb (k + 1) = k + 1 from yb_id (by omega) (by omega), Int.add_zero, show zb (ycnt (yfst (fun i => yk3 (zr m 253) i 0)) k) = ycnt (yfst (fun i => yk3 (zr m 253) i 0)) k from yb_id (by omega) (by omega)]
      by_cases q : yk3 (zr m 253) l 0 = yk3 (zr m 253) k 0
      · rw [if_pos q, if_neg (by omega)]
        have hW := hW (some (zI l))
        rw [ycnt_f k0 (Bool.eq_false_iff.2 (fun z => hi.1 z l l0 l1 q))] at hW
        exact hW
      · rw [if_neg q]
        refine hL (fun j j0 j1 => ?_)
        by_cases q2 : j = l
        · rw [q2]; exact q
        · exact hl j j0 (by omega)
    · refine w_313_14 ?_
      rw [c_210 (d := d) k0 k1 hn (by decide) (by decide) hv, c_210 (d := d) k0 k1 hn (by decide) (by decide) hv, show zb (k + 1) = k + 1 from yb_id (by omega) (by omega), if_pos rfl, if_pos rfl, show zb (ycnt (yfst (fun i => yk3 (zr m 253) i 0)) k + 1) = ycnt (yfst (fun i => yk3 (zr m 253) i 0)) k + 1 from yb_id (by omega) (by omega)]
      have hW := hW (some (zI k))
      rw [ycnt_t k0 (hi.2 hl)] at hW
      exact hW
  · refine w_313_4 ?_
    rw [h9, if_neg (by omega)]
    exact ⟨rfl, rfl⟩
theorem c_89 (K : Int → ZN → Prop) : zcI d 89 [zA 212] m K = K (ycnt (fun s => decide (zr m 213 s ≠ -1)) 8) m := by
  refine zcI_eq (w_89 ?_) K
  refine yfor (fun i => zwpN d 89 4 [some (zA 212), some (zI (ycnt (fun s => decide (zr m 213 s ≠ -1)) i)), some (zI i)] [] m _) 0 8 (by decide) (fun i i0 i1 hW => ?_) ?_
  · have hr := ycnt_r (fun s => decide (zr m 213 s ≠ -1)) i0
    refine w_89_4 ?_
    rw [if_pos i1, yck_of ⟨i0, i1⟩, show zb (i + 1) = i + 1 from yb_id (by omega) (by omega), show zb (ycnt (fun s => decide (zr m 213 s ≠ -1)) i + 1) = ycnt (fun s => decide (zr m 213 s ≠ -1)) i + 1 from yb_id (by omega) (by omega)]
    by_cases q : zr m 213 i = -1
    · rw [if_pos q]
      rw [ycnt_f i0 (decide_eq_false (fun z => z q))] at hW
      exact hW
    · rw [if_neg q]
      rw [ycnt_t i0 (decide_eq_true q)] at hW
      exact hW
  · refine w_89_4 ?_
    rw [if_neg (by decide)]
    exact ⟨rfl, rfl⟩
theorem p_status (I : yInv L xs m) (hQ : ∀ r m2, yInv L xs m2 → Q r r m2) (x : Int) : zcI (d + 9) 167 [zA 3, zI x] m (fun v m1 => zcI (d + 9) 314 [zA 236, zI x] m1 (fun v2 m2 => Q v v2 m2)) := by
  obtain ⟨n1, n2, n3⟩ := I.2.2.1.1
  obtain ⟨l1, l2, l3, l4, l5, l6, l7⟩ := I.2.1
  have lv : ∀ j, 0 ≤ j → j < 3 * zr m 4 1 → 0 ≤ zr m 253 j ∧ zr m 253 j ≤ 9 := fun j j0 j1 => (l7 j j0 j1).1 ▸ (l7 j j0 j1).2
  refine w_167 ?_
  by_cases x0 : x = 0
  · rw [if_pos x0, l1]
    refine w_314 ?_
    rw [if_pos x0]
    exact hQ _ _ I
  rw [if_neg x0]
  by_cases x1 : x = 1
  · rw [if_pos x1, n1]
    refine w_314 ?_
    rw [if_neg x0, if_pos x1]
    exact hQ _ _ I
  rw [if_neg x1]
  by_cases x2 : x = 2
  · rw [if_pos x2, l3]
    refine w_314 ?_
    rw [if_neg x0, if_neg x1, if_pos x2]
    exact hQ _ _ I
  rw [if_neg x2]
  by_cases x3 : x = 3
  · rw [if_pos x3]
    refine c_178 (d := d + 6) l2.1 l2.2 (fun j j0 j1 => (l7 j j0 j1).2) (fun M2 f => ?_)
    refine w_314 ?_
    have g253 : zr M2 253 = zr m 253 := f 253 (by decide)
    rw [if_neg x0, if_neg x1, if_neg x2, if_pos x3, c_313 (d := d + 6) (n := zr m 4 1) (by rw [f 236 (by decide), l1]) l2.1 l2.2 (by rw [g253]; exact lv), g253]
    rw [ycnt_c (p := yfst (fun i => yk3 (zr m 5) i 0)) (n := zr m 4 1) (q := yfst (fun i => yk3 (zr m 253) i 0)) (fun i i0 i1 => ?_)]
    · exact hQ _ _ (yInv_Sc I (fun a j q => by rw [f a (by unfold yscr at q; omega)]))
    · have ek : ∀ j, 0 ≤ j → j < zr m 4 1 → yk3 (zr m 5) j 0 = yk3 (zr m 253) j 0 := fun j j0 j1 => yk3_c j0 j1 (by decide) (by decide) (fun j j0 j1 => (l7 j j0 j1).1)
      unfold yfst
      rw [ycnt_c (p := fun j => decide (yk3 (zr m 5) j 0 = yk3 (zr m 5) i 0)) (n := i) (q := fun j => decide (yk3 (zr m 253) j 0 = yk3 (zr m 253) i 0)) (fun j j0 j1 => by rw [ek j j0 (by omega), ek i i0 i1])]
  rw [if_neg x3]
  by_cases x4 : x = 4
  · rw [if_pos x4, c_42 (d := d + 7) (by decide) (by decide) l2.1 l2.2, c_42 (d := d + 7) (by decide) (by decide) l2.1 l2.2, c_42 (d := d + 7) (by decide) (by decide) l2.1 l2.2]
    have hr0 := ycnt_r (fun n => decide (zr m 5 (3 * n + 0) = 0)) l2.1
    have hr1 := ycnt_r (fun n => decide (zr m 5 (3 * n + 1) = 0)) l2.1
    have hr2 := ycnt_r (fun n => decide (zr m 5 (3 * n + 2) = 0)) l2.1
    rw [show zb (ycnt (fun n => decide (zr m 5 (3 * n + 0) = 0)) (zr m 4 1) + ycnt (fun n => decide (zr m 5 (3 * n + 1) = 0)) (zr m 4 1)) = ycnt (fun n => decide (zr m 5 (3 * n + 0) = 0)) (zr m 4 1) + ycnt (fun n => decide (zr m 5 (3 * n + 1) = 0)) (zr m 4 1) from yb_id (by omega) (by omega), yb_id (by omega) (by omega)]
    have h3 := ycnt_3 (p := fun j => decide (zr m 5 j = 0)) (zr m 4 1).toNat
    rw [show (((zr m 4 1).toNat : Nat) : Int) = zr m 4 1 by omega] at h3
    rw [← h3, ycnt_c (p := fun j => decide (zr m 5 j = 0)) (q := fun j => decide (zr m 253 j = 0)) (fun j j0 j1 => by rw [(l7 j j0 j1).1])]
    refine w_314 ?_
    rw [if_neg x0, if_neg x1, if_neg x2, if_neg x3, if_pos x4]
    refine yfor (fun i => zwpN (d + 9) 314 70 [some (zA 236), some (zI x), some (zI (ycnt (fun j => decide (zr m 253 j = 0)) i)), some (zI i)] [] m _) 0 (3 * zr m 4 1) (by omega) (fun i i0 i1 hW => ?_) ?_
    · have hr := ycnt_r (fun j => decide (zr m 253 j = 0)) i0
      refine w_314_70 ?_
      rw [← l1, show zb (3 * zr m 4 1) = 3 * zr m 4 1 from yb_id (by omega) (by omega), if_pos i1, yck_of (by omega), Int.add_zero, show zb (i + 1) = i + 1 from yb_id (by omega) (by omega), show zb (ycnt (fun j => decide (zr m 253 j = 0)) i) = ycnt (fun j => decide (zr m 253 j = 0)) i from yb_id (by omega) (by omega), show zb (ycnt (fun j => decide (zr m 253 j = 0)) i + 1) = ycnt (fun j => decide (zr m 253 j = 0)) i + 1 from yb_id (by omega) (by omega)]
      by_cases q : zr m 253 i = 0
      · rw [if_pos q]
        rw [ycnt_t i0 (decide_eq_true q)] at hW
        exact hW
      · rw [if_neg q]
        rw [ycnt_f i0 (decide_eq_false q)] at hW
        exact hW
    · refine w_314_70 ?_
      rw [← l1, show zb (3 * zr m 4 1) = 3 * zr m 4 1 from yb_id (by omega) (by omega), if_neg (by omega)]
      exact hQ _ _ I
  rw [if_neg x4]
  by_cases x5 : x = 5
  · rw [if_pos x5, I.2.2.2.2.2.1.1]
    refine w_314 ?_
    rw [if_neg x0, if_neg x1, if_neg x2, if_neg x3, if_neg x4, if_pos x5]
    exact hQ _ _ I
  rw [if_neg x5]
  by_cases x6 : x = 6
  · rw [if_pos x6, l5]
    refine w_314 ?_
    rw [if_neg x0, if_neg x1, if_neg x2, if_neg x3, if_neg x4, if_neg x5, if_pos x6]
    exact hQ _ _ I
  rw [if_neg x6]
  by_cases x7 : x = 7
  · rw [if_pos x7, c_89]
    rw [ycnt_c (q := fun s => decide (zr m 237 s ≠ 0)) (fun s s0 s1 => by
      rcases yS3 I s0 s1 with h | h | h
      · rw [decide_eq_false (fun z => z h.2), decide_eq_false (fun z => z h.1)]
      · rw [decide_eq_true (by omega), decide_eq_true (by omega)]
      · rw [decide_eq_true (by omega), decide_eq_true (by omega)])]
    refine w_314 ?_
    rw [if_neg x0, if_neg x1, if_neg x2, if_neg x3, if_neg x4, if_neg x5, if_neg x6, if_pos x7]
    refine yfor (fun i => zwpN (d + 9) 314 117 [some (zA 236), some (zI x), some (zI (ycnt (fun s => decide (zr m 237 s ≠ 0)) i)), some (zI i)] [] m _) 0 8 (by decide) (fun i i0 i1 hW => ?_) ?_
    · have hr := ycnt_r (fun s => decide (zr m 237 s ≠ 0)) i0
      refine w_314_117 ?_
      rw [if_pos i1, yck_of ⟨i0, i1⟩, Int.add_zero, show zb (i + 1) = i + 1 from yb_id (by omega) (by omega), show zb (ycnt (fun s => decide (zr m 237 s ≠ 0)) i) = ycnt (fun s => decide (zr m 237 s ≠ 0)) i from yb_id (by omega) (by omega), show zb (ycnt (fun s => decide (zr m 237 s ≠ 0)) i + 1) = ycnt (fun s => decide (zr m 237 s ≠ 0)) i + 1 from yb_id (by omega) (by omega)]
      by_cases q : zr m 237 i = 0
      · rw [if_pos q]
        rw [ycnt_f i0 (decide_eq_false (fun z => z q))] at hW
        exact hW
      · rw [if_neg q]
        rw [ycnt_t i0 (decide_eq_true q)] at hW
        exact hW
    · refine w_314_117 ?_
      rw [if_neg (by decide)]
      exact hQ _ _ I
  rw [if_neg x7, c_181]
  by_cases q : 12 ≤ x ∧ x ≤ 16
  · have hR := I.2.2.2.2.2.2 (x - 12) (by omega) (by omega)
    rw [if_pos q, if_neg (by decide), show zb (x - 12) = x - 12 from yb_id (by omega) (by omega), yck_of (by omega), hR]
    refine w_314 ?_
    rw [if_neg x0, if_neg x1, if_neg x2, if_neg x3, if_neg x4, if_neg x5, if_neg x6, if_neg x7, c_192, if_pos q, if_neg (by decide), show zb (x - 10) = x - 10 from yb_id (by omega) (by omega), yck_of (by omega), show x - 12 + 2 = x - 10 by omega]
    exact hQ _ _ I
  · rw [if_neg q, if_pos rfl]
    refine w_314 ?_
    rw [if_neg x0, if_neg x1, if_neg x2, if_neg x3, if_neg x4, if_neg x5, if_neg x6, if_neg x7, c_192, if_neg q, if_pos rfl]
    exact hQ _ _ I
end ST
