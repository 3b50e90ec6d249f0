/-! ===== runs of keys ===== -/
def yrv (t : Int → Int) : Nat → Int
  | 0 => 0
  | k + 1 => if t k = 1 then 1 else 0
def yrc (t : Int → Int) : Nat → Int
  | 0 => 0
  | k + 1 => if t k = 1 ∧ yrv t k = 0 then yrc t k + 1 else yrc t k
def yrF (t : Int → Int) : Nat → Int → Int
  | 0 => fun _ => 0
  | k + 1 => fun i => if (t k = 1 ∧ yrv t k = 0) ∧ i = yrc t k then k else yrF t k i
def yrL (t : Int → Int) : Nat → Int → Int
  | 0 => fun _ => 0
  | k + 1 => fun i => if t k = 1 ∧ i = yrc t (k + 1) - 1 then k else yrL t k i
theorem yrv_s (t : Int → Int) (k : Nat) : yrv t (k + 1) = if t k = 1 then 1 else 0 := rfl
theorem yrc_s (t : Int → Int) (k : Nat) : yrc t (k + 1) = if t k = 1 ∧ yrv t k = 0 then yrc t k + 1 else yrc t k := rfl
theorem yrF_s (t : Int → Int) (k : Nat) (i : Int) : yrF t (k + 1) i = if (t k = 1 ∧ yrv t k = 0) ∧ i = yrc t k then (k : Int) else yrF t k i := rfl
theorem yrL_s (t : Int → Int) (k : Nat) (i : Int) : yrL t (k + 1) i = if t k = 1 ∧ i = yrc t (k + 1) - 1 then (k : Int) else yrL t k i := rfl
theorem yrc_r (t : Int → Int) : ∀ k : Nat, 0 ≤ yrc t k ∧ 2 * yrc t k ≤ k + yrv t k ∧ (yrv t k = 0 ∨ yrv t k = 1 ∧ 1 ≤ yrc t k) := by
  intro k
  induction k with
  | zero => exact ⟨Int.le_refl _, Int.le_refl _, Or.inl rfl⟩
  | succ k ih =>
    rw [yrv_s, yrc_s]
    by_cases q : t k = 1
    · rw [if_pos q]
      by_cases q2 : yrv t k = 0
      · rw [if_pos ⟨q, q2⟩]; omega
      · rw [if_neg (fun z => q2 z.2)]; omega
    · rw [if_neg q, if_neg (fun z => q z.1)]; omega
section RN
variable {d : Nat} {m : ZN}
/-- the class' hold of the runs -/
def yRn (t : Int → Int) (M : ZN) (k : Nat) : Prop :=
  zr M 222 8 = yrc t k ∧ (∀ y : Nat, y < k → zr M 226 y = yrc t (y + 1)) ∧ ∀ i, 0 ≤ i → i < yrc t k → zr M 224 i = yrF t k i ∧ zr M 225 i = yrL t k i
theorem c_91s {a o : Int} {k : Nat} {t : Int → Int} {M : ZN} {o5 : Option ZV} {P : Option ZV → ZN → Prop} (hA : isC a) (o0 : 0 ≤ o) (o1 : o ≤ 5) (hk : k < 1000) (ht : yTw (zr M (a + 1)) (ypl o k) = t k) (t0 : 0 ≤ t k) (t2 : t k ≤ 2) (R : yRn t M k) (h : ∀ M2 o5, (∀ b, ¬ (222 ≤ b ∧ b ≤ 226) → zr M2 b = zr M b) → yRn t M2 (k + 1) → zwpN (d + 2) 91 10 [some (zA 222), some (zA a), some (zI o), some (zI (yrv t (k + 1))), some (zI ((k : Int) + 1)), o5] [] M2 P) : zwpN (d + 2) 91 10 [some (zA 222), some (zA a), some (zI o), some (zI (yrv t k)), some (zI k), o5] [] M P := by
  have hr := yrc_r t k
  obtain ⟨r1, r2, r3⟩ := R
  have hp := ypl_r o0 o1 (show 0 ≤ (k : Int) by omega) (show (k : Int) < 1000 by omega)
  have k0 : 0 ≤ (k : Int) := by omega
  have k1 : (k : Int) < 1000 := by omega
  have ek : zb ((k : Int) + 1) = (k : Int) + 1 := yb_id (by omega) (by omega)
  have n4 : ∀ j, znp' 224 j = true := ynl rfl
  have n5 : ∀ j, znp' 225 j = true := ynl rfl
  have n6 : ∀ j, znp' 226 j = true := ynl rfl
  refine w_91_10 ?_
  simp only [if_pos k1, isC_pos hA, isC_O hA, cond_true, c_188 o0 o1 k0 k1, c_319 (d := d) hA hp.1 hp.2, ht, yck_of (show 0 ≤ (k : Int) ∧ (k : Int) < 1000 by omega), r1, ek, if_neg (show ¬ (1 : Int) = 0 by decide), if_true]
  have e9 : yrc t k + 1 - 1 = yrc t k := by omega
  have ec1 : zb (yrc t k + 1) = yrc t k + 1 := yb_id (by omega) (by omega)
  by_cases q : t k = 1
  · rw [if_pos q]
    by_cases q2 : yrv t k = 0
    · have hs : yrc t (k + 1) = yrc t k + 1 := by rw [yrc_s, if_pos ⟨q, q2⟩]
      have hv : yrv t (k + 1) = 1 := by rw [yrv_s, if_pos q]
      rw [hv] at h
      rw [if_pos q2, if_pos (by omega)]
      simp (disch := first | trivial | assumption | omega | exact ynl rfl _ | exact znp_o rfl | rfl | (simp (disch := first | decide | omega) only [yfc, yr_so, yr_ss, yfcc, yr_cs]; first | assumption | omega)) only [yck_of, yb_id, yPI_some, yPJ_some, yPA_some, yPV_none, yfc, yr_so, yr_ss, yfcc, yr_cs, ybif_t, yrd_1, yrd_2, yfcl, ↓if_pos, ec1, e9, r1]
      refine h _ _ (fun b hb => by rw [yfc (by omega), yfc (by omega), yfc (by omega), yfc (by omega)]) ⟨?_, fun y hy => ?_, fun i i0 i1 => ⟨?_, ?_⟩⟩
      · rw [yr_sc (by decide), yr_sc (by decide), yr_ss (znp_o rfl), hs]
      · rw [yr_sa (n6 _)]
        by_cases q3 : (y : Int) = k
        · rw [if_pos q3, show y = k by omega, hs]
        · rw [if_neg q3, yr_sc (by decide), yr_sc (by decide), yr_sc (by decide)]; exact r2 y (by omega)
      · rw [yr_sc (by decide), yr_sc (by decide), yr_sc (by decide), yr_sa (n4 _), yrF_s]
        by_cases q3 : i = yrc t k
        · rw [if_pos q3, if_pos ⟨⟨q, q2⟩, q3⟩]
        · rw [if_neg q3, if_neg (fun z => q3 z.2)]; exact (r3 i i0 (by omega)).1
      · rw [yr_sc (by decide), yr_sa (n5 _), yrL_s, hs, e9]
        by_cases q3 : i = yrc t k
        · rw [if_pos q3, if_pos ⟨q, q3⟩]
        · rw [if_neg q3, if_neg (fun z => q3 z.2), yr_sc (by decide), yr_sc (by decide)]; exact (r3 i i0 (by omega)).2
    · have hs : yrc t (k + 1) = yrc t k := by rw [yrc_s, if_neg (fun z => q2 z.2)]
      have hv : yrv t (k + 1) = 1 := by rw [yrv_s, if_pos q]
      have ecm : zb (yrc t k - 1) = yrc t k - 1 := yb_id (by omega) (by omega)
      rw [hv] at h
      rw [if_neg q2]
      simp (disch := first | trivial | assumption | omega | exact ynl rfl _ | exact znp_o rfl | rfl | (simp (disch := first | decide | omega) only [yfc, yr_so, yr_ss, yfcc, yr_cs]; first | assumption | omega)) only [yck_of, yb_id, yPI_some, yPJ_some, yPA_some, yPV_none, yfc, yr_so, yr_ss, yfcc, yr_cs, ybif_t, yrd_1, yrd_2, yfcl, ↓if_pos, ecm, r1]
      refine h _ _ (fun b hb => by rw [yfc (by omega), yfc (by omega)]) ⟨?_, fun y hy => ?_, fun i i0 i1 => ⟨?_, ?_⟩⟩
      · rw [yr_sc (by decide), yr_sc (by decide), hs, r1]
      · rw [yr_sa (n6 _)]
        by_cases q3 : (y : Int) = k
        · rw [if_pos q3, show y = k by omega, hs]
        · rw [if_neg q3, yr_sc (by decide)]; exact r2 y (by omega)
      · rw [yr_sc (by decide), yr_sc (by decide), yrF_s, if_neg (fun z => q2 z.1.2)]
        exact (r3 i i0 (by omega)).1
      · rw [yr_sc (by decide), yr_sa (n5 _), yrL_s, hs]
        by_cases q3 : i = yrc t k - 1
        · rw [if_pos q3, if_pos ⟨q, q3⟩]
        · rw [if_neg q3, if_neg (fun z => q3 z.2)]; exact (r3 i i0 (by omega)).2
  · have hs : yrc t (k + 1) = yrc t k := by rw [yrc_s, if_neg (fun z => q z.1)]
    have hv : yrv t (k + 1) = 0 := by rw [yrv_s, if_neg q]
    rw [hv] at h
    rw [if_neg q]
    refine h _ _ (fun b hb => by rw [yfc (by omega)]) ⟨?_, fun y hy => ?_, fun i i0 i1 => ⟨?_, ?_⟩⟩
    · rw [yr_sc (by decide), hs, r1]
    · rw [yr_sa (n6 _)]
      by_cases q3 : (y : Int) = k
      · rw [if_pos q3, show y = k by omega, hs]
      · rw [if_neg q3]; exact r2 y (by omega)
    · rw [yr_sc (by decide), yrF_s, if_neg (fun z => q z.1.1)]
      exact (r3 i i0 (by omega)).1
    · rw [yr_sc (by decide), yrL_s, if_neg (fun z => q z.1)]
      exact (r3 i i0 (by omega)).2
theorem c_91 {a o : Int} {t : Int → Int} {K : ZN → Prop} (hA : isC a) (o0 : 0 ≤ o) (o1 : o ≤ 5) (ht : ∀ k, 0 ≤ k → k < 1000 → yTw (zr m (a + 1)) (ypl o k) = t k) (tr : ∀ k, 0 ≤ k → k < 1000 → 0 ≤ t k ∧ t k ≤ 2) (h : ∀ M2, (∀ b, ¬ (222 ≤ b ∧ b ≤ 226) → zr M2 b = zr m b) → yRn t M2 1000 → K M2) : zcV (d + 2) 91 [zA 222, zA a, zI o] m K := by
  have ga : ¬ (222 ≤ a + 1 ∧ a + 1 ≤ 226) := by unfold isC at hA; omega
  refine w_91 ?_
  have key : ∀ r k : Nat, k + r = 1000 → ∀ (M : ZN) o5, (∀ b, ¬ (222 ≤ b ∧ b ≤ 226) → zr M b = zr m b) → yRn t M k → zwpN (d + 2) 91 10 [some (zA 222), some (zA a), some (zI o), some (zI (yrv t k)), some (zI k), o5] [] M (zPV K) := by
    intro r
    induction r with
    | zero =>
      intro k hk M o5 f R
      have : k = 1000 := by omega
      subst this
      refine w_91_10 ?_
      rw [if_neg (by decide)]
      exact h M f R
    | succ r ih =>
      intro k hk M o5 f R
      have tk := tr k (by omega) (by omega)
      refine c_91s hA o0 o1 (by omega) (by rw [f _ ga]; exact ht k (by omega) (by omega)) tk.1 tk.2 R (fun M2 o5 f2 R2 => ?_)
      have := ih (k + 1) (by omega) M2 o5 (fun b hb => by rw [f2 b hb]; exact f b hb) R2
      rw [show (((k + 1 : Nat)) : Int) = (k : Int) + 1 by omega] at this
      exact this
  refine key 1000 0 rfl _ none (fun b hb => by rw [yfc (by omega)]) ⟨yr_ss (znp_o rfl), fun y hy => by omega, fun i i0 i1 => ?_⟩
  have : i < 0 := i1
  omega
/-- the reference's rows of the runs -/
def yRm (t : Int → Int) (M : ZN) (k : Nat) : Prop :=
  zr M 236 32 = yrc t k ∧ ∀ i, 0 ≤ i → i < yrc t k → zr M 265 i = yrF t k i ∧ zr M 266 i = yrL t k i
theorem c_273s {c o : Int} {k : Nat} {t : Int → Int} {M : ZN} {o5 : Option ZV} {P : Option ZV → ZN → Prop} (c0 : 0 ≤ c) (c1 : c < 24) (o0 : 0 ≤ o) (o1 : o ≤ 5) (hk : k < 1000) (ht : zr M 261 (1000 * c + ypl o k) = t k) (R : yRm t M k) (h : ∀ M2 o5, ySc M M2 → yRm t M2 (k + 1) → zwpN (d + 2) 273 10 [some (zA 236), some (zI c), some (zI o), some (zI (yrv t (k + 1))), some (zI ((k : Int) + 1)), o5] [] M2 P) : zwpN (d + 2) 273 10 [some (zA 236), some (zI c), some (zI o), some (zI (yrv t k)), some (zI k), o5] [] M P := by
  have hr := yrc_r t k
  obtain ⟨r1, r3⟩ := R
  have hp := ypl_r o0 o1 (show 0 ≤ (k : Int) by omega) (show (k : Int) < 1000 by omega)
  have k0 : 0 ≤ (k : Int) := by omega
  have k1 : (k : Int) < 1000 := by omega
  have ek : zb ((k : Int) + 1) = (k : Int) + 1 := yb_id (by omega) (by omega)
  have n5 : ∀ j, znp' 265 j = true := ynl rfl
  have n6 : ∀ j, znp' 266 j = true := ynl rfl
  have e9 : yrc t k + 1 - 1 = yrc t k := by omega
  have ec1 : zb (yrc t k + 1) = yrc t k + 1 := yb_id (by omega) (by omega)
  refine w_273_10 ?_
  simp only [if_pos k1, c_209 (d := d) o0 o1 k0 k1, c_211 c0 c1 hp.1 hp.2, ht, r1, ek, if_neg (show ¬ (1 : Int) = 0 by decide), if_true]
  by_cases q : t k = 1
  · rw [if_pos q]
    by_cases q2 : yrv t k = 0
    · have hs : yrc t (k + 1) = yrc t k + 1 := by rw [yrc_s, if_pos ⟨q, q2⟩]
      have hv : yrv t (k + 1) = 1 := by rw [yrv_s, if_pos q]
      rw [hv] at h
      rw [if_pos q2]
      simp (disch := first | trivial | assumption | omega | exact ynl rfl _ | exact znp_o rfl | rfl | (simp (disch := first | decide | omega) only [yfc, yr_so, yr_ss, yfcc, yr_cs]; first | assumption | omega)) only [yck_of, yb_id, yPI_some, yPJ_some, yPA_some, yPV_none, yfc, yr_so, yr_ss, yfcc, yr_cs, ybif_t, yrd_1, yrd_2, yfcl, ↓if_pos, ec1, e9, r1]
      refine h _ _ ((((ySc.refl M).sn _ (by unfold yscr; omega)).sn _ (by unfold yscr; omega)).sn _ (by unfold yscr; omega)) ⟨?_, fun i i0 i1 => ⟨?_, ?_⟩⟩
      · rw [yr_sc (by decide), yr_ss (znp_o rfl), hs]
      · rw [yr_sc (by decide), yr_sc (by decide), yr_sa (n5 _), yrF_s]
        by_cases q3 : i = yrc t k
        · rw [if_pos q3, if_pos ⟨⟨q, q2⟩, q3⟩]
        · rw [if_neg q3, if_neg (fun z => q3 z.2)]; exact (r3 i i0 (by omega)).1
      · rw [yr_sa (n6 _), yrL_s, hs, e9]
        by_cases q3 : i = yrc t k
        · rw [if_pos q3, if_pos ⟨q, q3⟩]
        · rw [if_neg q3, if_neg (fun z => q3 z.2), yr_sc (by decide), yr_sc (by decide)]; exact (r3 i i0 (by omega)).2
    · have hs : yrc t (k + 1) = yrc t k := by rw [yrc_s, if_neg (fun z => q2 z.2)]
      have hv : yrv t (k + 1) = 1 := by rw [yrv_s, if_pos q]
      have ecm : zb (yrc t k - 1) = yrc t k - 1 := yb_id (by omega) (by omega)
      rw [hv] at h
      rw [if_neg q2, ecm, yck_of (by omega)]
      refine h _ _ ((ySc.refl M).sn _ (by unfold yscr; omega)) ⟨?_, fun i i0 i1 => ⟨?_, ?_⟩⟩
      · rw [yr_sc (by decide), hs, r1]
      · rw [yr_sc (by decide), yrF_s, if_neg (fun z => q2 z.1.2)]
        exact (r3 i i0 (by omega)).1
      · rw [yr_sa (n6 _), yrL_s, hs]
        by_cases q3 : i = yrc t k - 1
        · rw [if_pos q3, if_pos ⟨q, q3⟩]
        · rw [if_neg q3, if_neg (fun z => q3 z.2)]; exact (r3 i i0 (by omega)).2
  · have hs : yrc t (k + 1) = yrc t k := by rw [yrc_s, if_neg (fun z => q z.1)]
    have hv : yrv t (k + 1) = 0 := by rw [yrv_s, if_neg q]
    rw [hv] at h
    rw [if_neg q]
    refine h _ _ (ySc.refl M) ⟨?_, fun i i0 i1 => ⟨?_, ?_⟩⟩
    · rw [hs, r1]
    · rw [yrF_s, if_neg (fun z => q z.1.1)]
      exact (r3 i i0 (by omega)).1
    · rw [yrL_s, if_neg (fun z => q z.1)]
      exact (r3 i i0 (by omega)).2
theorem c_273 {c o : Int} {t : Int → Int} {K : ZN → Prop} (c0 : 0 ≤ c) (c1 : c < 24) (o0 : 0 ≤ o) (o1 : o ≤ 5) (ht : ∀ k, 0 ≤ k → k < 1000 → zr m 261 (1000 * c + ypl o k) = t k) (h : ∀ M2, ySc m M2 → yRm t M2 1000 → K M2) : zcV (d + 2) 273 [zA 236, zI c, zI o] m K := by
  refine w_273 ?_
  have key : ∀ r k : Nat, k + r = 1000 → ∀ (M : ZN) o5, ySc m M → yRm t M k → zwpN (d + 2) 273 10 [some (zA 236), some (zI c), some (zI o), some (zI (yrv t k)), some (zI k), o5] [] M (zPV K) := by
    intro r
    induction r with
    | zero =>
      intro k hk M o5 f R
      have : k = 1000 := by omega
      subst this
      refine w_273_10 ?_
      rw [if_neg (by decide)]
      exact h M f R
    | succ r ih =>
      intro k hk M o5 f R
      refine c_273s c0 c1 o0 o1 (by omega) (by rw [f 261 _ (by unfold yscr; omega)]; exact ht k (by omega) (by omega)) R (fun M2 o5 f2 R2 => ?_)
      have := ih (k + 1) (by omega) M2 o5 (f.trans f2) R2
      rw [show (((k + 1 : Nat)) : Int) = (k : Int) + 1 by omega] at this
      exact this
  refine key 1000 0 rfl _ none ((ySc.refl m).sn _ (by unfold yscr; omega)) ⟨yr_ss (znp_o rfl), fun i i0 i1 => ?_⟩
  have : i < 0 := i1
  omega
end RN
