/-! ===== lines found, in order, behind ===== -/
def ywo (md k : Int) : Int := if md = 0 then k else if md = 1 then k % 100 else k % 10
theorem yRk_c {p q : Int → Bool} {f g a : Int → Int} {k c : Int} (h : yRk p f a k c) (hpq : ∀ i, 0 ≤ i → i < k → p i = q i ∧ f i = g i) : yRk q g a k c := by
  obtain ⟨h1, h2, h3, h4, h5⟩ := h
  refine ⟨⟨h1.1, h1.2.trans (ycnt_c (fun i i0 i1 => (hpq i i0 i1).1))⟩, h2, fun x x0 x1 => ?_, fun v => ?_, fun i i0 i1 hi => ?_⟩
  · obtain ⟨i, i0, i1, i2, i3⟩ := h3 x x0 x1
    exact ⟨i, i0, i1, by rw [← (hpq i i0 i1).1]; exact i2, by rw [← (hpq i i0 i1).2]; exact i3⟩
  · rw [← h4 v]
    exact ycnt_c (fun i i0 i1 => by rw [(hpq i i0 i1).1, (hpq i i0 i1).2])
  · obtain ⟨x, x0, x1, x2⟩ := h5 i i0 i1 (by rw [(hpq i i0 i1).1]; exact hi)
    exact ⟨x, x0, x1, by rw [← (hpq i i0 i1).2]; exact x2⟩
section FN
variable {d : Nat} {m : ZN}
theorem c_292 {k md : Int} (k0 : 0 ≤ k) (K : Int → ZN → Prop) : zcI d 292 [zI k, zI md] m K = K (ywo md k) m := by
  refine zcI_eq (w_292 ?_) K
  simp only [yck_of (show ¬ (100 : Int) = 0 by decide), yck_of (show ¬ (10 : Int) = 0 by decide), Int.tmod_eq_emod_of_nonneg k0]
  unfold ywo
  split
  · exact ⟨rfl, trivial⟩
  · split <;> exact ⟨rfl, trivial⟩
theorem c_293 {i j t md n : Int} (i0 : 0 ≤ i) (i1 : i < n) (j0 : 0 ≤ j) (j1 : j < n) (hn : n ≤ 60) (t0 : 0 ≤ t) (t5 : t ≤ 5) (hv : ∀ j, 0 ≤ j → j < 3 * n → 0 ≤ zr m 253 j ∧ zr m 253 j ≤ 9) (K : Int → ZN → Prop) : zcI (d + 2) 293 [zA 236, zI i, zI j, zI t, zI md] m K = K (if ycode md (yk3 (zr m 253) i t) i < ycode md (yk3 (zr m 253) j t) j then 1 else 0) m := by
  have hi := yk3_r (t := t) i0 i1 t0 t5 hv
  have hj := yk3_r (t := t) j0 j1 t0 t5 hv
  have e := ycode_lt (md := md) hi.1 hi.2 i0 (show i < 60 by omega) hj.1 hj.2 j0 (show j < 60 by omega)
  refine zcI_eq (w_293 ?_) K
  simp only [c_210 (d := d) i0 i1 hn t0 t5 hv, c_210 (d := d) j0 j1 hn t0 t5 hv, c_292 hi.1, c_292 hj.1]
  rw [yck_of (show ((0 : Int) ≤ 1 ∧ (1 : Int) ≤ 1) by decide), yck_of (show ((0 : Int) ≤ 0 ∧ (0 : Int) ≤ 1) by decide)]
  unfold ywo
  by_cases q : ycode md (yk3 (zr m 253) i t) i < ycode md (yk3 (zr m 253) j t) j
  · rw [if_pos q]
    have q := e.1 q
    by_cases q1 : (if md = 0 then yk3 (zr m 253) i t else if md = 1 then yk3 (zr m 253) i t % 100 else yk3 (zr m 253) i t % 10) = (if md = 0 then yk3 (zr m 253) j t else if md = 1 then yk3 (zr m 253) j t % 100 else yk3 (zr m 253) j t % 10)
    · rw [if_pos q1] at q ⊢
      by_cases q2 : yk3 (zr m 253) i t = yk3 (zr m 253) j t
      · rw [if_pos q2] at q ⊢
        rw [if_pos q]
        exact ⟨rfl, trivial⟩
      · rw [if_neg q2] at q ⊢
        rw [if_pos q]
        exact ⟨rfl, trivial⟩
    · rw [if_neg q1] at q ⊢
      rw [if_pos q]
      exact ⟨rfl, trivial⟩
  · rw [if_neg q]
    have q := fun z => q (e.2 z)
    by_cases q1 : (if md = 0 then yk3 (zr m 253) i t else if md = 1 then yk3 (zr m 253) i t % 100 else yk3 (zr m 253) i t % 10) = (if md = 0 then yk3 (zr m 253) j t else if md = 1 then yk3 (zr m 253) j t % 100 else yk3 (zr m 253) j t % 10)
    · rw [if_pos q1] at q ⊢
      by_cases q2 : yk3 (zr m 253) i t = yk3 (zr m 253) j t
      · rw [if_pos q2] at q ⊢
        rw [if_neg q]
        exact ⟨rfl, trivial⟩
      · rw [if_neg q2] at q ⊢
        rw [if_neg q]
        exact ⟨rfl, trivial⟩
    · rw [if_neg q1] at q ⊢
      rw [if_neg q]
      exact ⟨rfl, trivial⟩
theorem yrk_lt {p : Int → Bool} {f : Int → Int} {n i k : Int} (i0 : 0 ≤ i) (i1 : i < n) (hi : p i = true) (h : f i < f k) : ycnt (fun j => p j && decide (f j < f i)) n < ycnt (fun j => p j && decide (f j < f k)) n := by
  have := ycnt_lt (p := fun j => p j && decide (f j < f i)) (q := fun j => p j && decide (f j < f k)) i0 (by show (p i && decide (f i < f i)) = false; rw [decide_eq_false (by omega), Bool.and_false]) (by show (p i && decide (f i < f k)) = true; rw [hi, decide_eq_true h]; rfl) n.toNat (by omega) (fun j j0 j1 hj => by
    have hj : (p j && decide (f j < f i)) = true := hj
    rw [Bool.and_eq_true, decide_eq_true_eq] at hj
    show (p j && decide (f j < f k)) = true
    rw [hj.1, decide_eq_true (by omega)]; rfl)
  rw [show ((n.toNat : Nat) : Int) = n by omega] at this
  exact this
theorem yrk_n {p : Int → Bool} {f : Int → Int} {n i : Int} (i0 : 0 ≤ i) (i1 : i < n) : ycnt (fun j => p j && decide (f j < f i)) n < n := by
  have := ycnt_lt (p := fun j => p j && decide (f j < f i)) (q := fun _ => true) i0 (by show (p i && decide (f i < f i)) = false; rw [decide_eq_false (by omega), Bool.and_false]) rfl n.toNat (by omega) (fun _ _ _ _ => rfl)
  rw [show ((n.toNat : Nat) : Int) = n by omega] at this
  have := ycnt_r (fun _ => true) (show 0 ≤ n by omega)
  omega
theorem c_294 {i t md n : Int} {K : ZN → Prop} {p : Int → Bool} {f : Int → Int} (h9 : zr m 236 9 = n) (n0 : 0 ≤ n) (hn : n ≤ 60) (i0 : 0 ≤ i) (i1 : i < 24) (t0 : 0 ≤ t) (t5 : t ≤ 5) (hv : ∀ j, 0 ≤ j → j < 3 * n → 0 ≤ zr m 253 j ∧ zr m 253 j ≤ 9)
    (hp : p = fun j => decide (zr m 261 (1000 * i + yk3 (zr m 253) j 0) = 1)) (hf : f = fun j => ycode md (yk3 (zr m 253) j t) j)
    (h : ∀ M2, (∀ b, b ≠ 236 → b ≠ 267 → zr M2 b = zr m b) → (∀ j, j ≠ 34 → zr M2 236 j = zr m 236 j) → zr M2 236 34 = ycnt p n → (∀ k, 0 ≤ k → k < n → p k = true → zr M2 267 (ycnt (fun j => p j && decide (f j < f k)) n) = k) → K M2) : zcV (d + 4) 294 [zA 236, zI i, zI t, zI md] m K := by
  have np : ∀ j, znp' 267 j = true := ynl rfl
  have inj : ∀ j k, 0 ≤ j → j < n → 0 ≤ k → k < n → f j = f k → j = k := fun j k j0 j1 k0 k1 e => by
    rw [hf] at e
    have e : ycode md (yk3 (zr m 253) j t) j = ycode md (yk3 (zr m 253) k t) k := e
    have hj := yk3_r (t := t) j0 j1 t0 t5 hv
    have hk := yk3_r (t := t) k0 k1 t0 t5 hv
    have r1 := ycode_r (md := md) hj.1 hj.2 j0 (show j < 60 by omega)
    have r2 := ycode_r (md := md) hk.1 hk.2 k0 (show k < 60 by omega)
    rw [e] at r1
    omega
  refine w_294 ?_
  rw [c_269 i0 i1 (by omega) (by omega) (by rw [h9]; exact hv), h9]
  have ep : (fun j => decide (zr m 261 (1000 * i + yk3 (zr m 253) j 0) = 1)) = p := hp.symm
  rw [ep]
  refine yfor (fun k => ∀ (M : ZN) o5 o6, (∀ b, b ≠ 236 → b ≠ 267 → zr M b = zr m b) → (∀ j, j ≠ 34 → zr M 236 j = zr m 236 j) → zr M 236 34 = ycnt p n → (∀ j, 0 ≤ j → j < k → p j = true → zr M 267 (ycnt (fun l => p l && decide (f l < f j)) n) = j) → zwpN (d + 4) 294 13 [some (zA 236), some (zI i), some (zI t), some (zI md), some (zI k), o5, o6] [] M (zPV K)) 0 n n0 (fun k k0 k1 hW M o5 o6 e1 e2 e3 e4 => ?_) (fun M o5 o6 e1 e2 e3 e4 => ?_) _ none none (fun b b0 b1 => by rw [yfc b0]) (fun j hj => by rw [yr_so hj]) (yr_ss (znp_o rfl)) (fun j j0 j1 => by omega)
  · have g9 : zr M 236 9 = n := by rw [e2 9 (by decide), h9]
    have g253 : zr M 253 = zr m 253 := e1 253 (by decide) (by decide)
    have g261 : zr M 261 = zr m 261 := e1 261 (by decide) (by decide)
    have hv2 : ∀ j, 0 ≤ j → j < 3 * n → 0 ≤ zr M 253 j ∧ zr M 253 j ≤ 9 := by rw [g253]; exact hv
    refine w_294_13 ?_
    rw [g9, if_pos k1]
    refine yfor (fun l => zwpN (d + 4) 294 28 [some (zA 236), some (zI i), some (zI t), some (zI md), some (zI k), some (zI (ycnt (fun j => p j && decide (f j < f k)) l)), some (zI l)] [] M (zPV K)) 0 n n0 (fun l l0 l1 hL => ?_) ?_
    · have hr := ycnt_r (fun j => p j && decide (f j < f k)) l0
      refine w_294_28 ?_
      rw [g9, if_pos l1, c_212 (d := d + 1) i0 i1 l0 l1 hn hv2, c_293 (d := d + 1) l0 l1 k0 k1 hn t0 t5 hv2, g253, g261, show zb (l + 1) = l + 1 from yb_id (by omega) (by omega), Int.add_zero, show zb (ycnt (fun j => p j && decide (f j < f k)) l) = ycnt (fun j => p j && decide (f j < f k)) l from yb_id (by omega) (by omega), show zb (ycnt (fun j => p j && decide (f j < f k)) l + 1) = ycnt (fun j => p j && decide (f j < f k)) l + 1 from yb_id (by omega) (by omega)]
      have epl : p l = decide (zr m 261 (1000 * i + yk3 (zr m 253) l 0) = 1) := by rw [hp]
      have efl : f l = ycode md (yk3 (zr m 253) l t) l := by rw [hf]
      have efk : f k = ycode md (yk3 (zr m 253) k t) k := by rw [hf]
      by_cases q : zr m 261 (1000 * i + yk3 (zr m 253) l 0) = 1
      · rw [decide_eq_true q] at epl
        rw [if_pos q]
        by_cases q2 : ycode md (yk3 (zr m 253) l t) l < ycode md (yk3 (zr m 253) k t) k
        · rw [if_pos q2, if_neg (by decide)]
          rw [ycnt_t l0 (by rw [epl, efl, efk, decide_eq_true q2]; rfl)] at hL
          exact hL
        · rw [if_neg q2, if_pos rfl]
          rw [ycnt_f l0 (by rw [efl, efk, decide_eq_false q2, Bool.and_false])] at hL
          exact hL
      · rw [decide_eq_false q] at epl
        rw [if_neg q]
        rw [ycnt_f l0 (by rw [epl]; rfl)] at hL
        exact hL
    · have hr := ycnt_r (fun j => p j && decide (f j < f k)) n0
      have hr2 := yrk_n (p := p) (f := f) k0 k1
      refine w_294_28 ?_
      rw [g9, if_neg (by omega), c_212 (d := d + 1) i0 i1 k0 k1 hn hv2, g253, g261, show zb (k + 1) = k + 1 from yb_id (by omega) (by omega)]
      have epk : p k = decide (zr m 261 (1000 * i + yk3 (zr m 253) k 0) = 1) := by rw [hp]
      by_cases q : zr m 261 (1000 * i + yk3 (zr m 253) k 0) = 1
      · rw [decide_eq_true q] at epk
        rw [if_pos q, yck_of (by omega)]
        refine hW _ _ _ (fun b b0 b1 => by rw [yfc b1]; exact e1 b b0 b1) (fun j hj => by rw [yr_sc (by decide)]; exact e2 j hj) (by rw [yr_sc (by decide)]; exact e3) (fun j j0 j1 hj => ?_)
        rw [yr_sa (np _)]
        by_cases q2 : j = k
        · rw [q2, if_pos rfl]
        · rw [if_neg ?_]
          · exact e4 j j0 (by omega) hj
          · intro z
            rcases Int.lt_trichotomy (f j) (f k) with w | w | w
            · have := yrk_lt (p := p) (n := n) j0 (by omega) hj w
              omega
            · exact q2 (inj j k j0 (by omega) k0 k1 w)
            · have := yrk_lt (p := p) (n := n) k0 k1 epk w
              omega
      · rw [decide_eq_false q] at epk
        rw [if_neg q]
        refine hW _ _ _ e1 e2 e3 (fun j j0 j1 hj => ?_)
        by_cases q2 : j = k
        · rw [q2, epk] at hj; cases hj
        · exact e4 j j0 (by omega) hj
  · refine w_294_13 ?_
    rw [e2 9 (by decide), h9, if_neg (by omega)]
    exact h M e1 e2 e3 (fun k k0 k1 hk => e4 k k0 k1 hk)
end FN
