/-! ===== what a plan reads: both ===== -/
theorem ycnt_0s {p : Int → Bool} {a : Int} (a0 : 0 ≤ a) : ∀ n : Nat, (∀ k, a ≤ k → k < a + n → p k = false) → ycnt p (a + n) = ycnt p a := by
  intro n
  induction n with
  | zero => intro _; rw [show a + ((0 : Nat) : Int) = a by omega]
  | succ n ih =>
    intro h
    rw [show a + ((n + 1 : Nat) : Int) = a + n + 1 by omega, ycnt_f (by omega) (h _ (by omega) (by omega))]
    exact ih (fun k k0 k1 => h k k0 (by omega))
theorem ycnt_1s {p : Int → Bool} {a : Int} (a0 : 0 ≤ a) : ∀ n : Nat, (∀ k, a ≤ k → k < a + n → p k = true) → ycnt p (a + n) = ycnt p a + n := by
  intro n
  induction n with
  | zero => intro _; rw [show a + ((0 : Nat) : Int) = a by omega]; omega
  | succ n ih =>
    intro h
    rw [show a + ((n + 1 : Nat) : Int) = a + n + 1 by omega, ycnt_t (by omega) (h _ (by omega) (by omega)), ih (fun k k0 k1 => h k k0 (by omega))]
    omega
theorem ycnt_0b {p : Int → Bool} {a b : Int} (a0 : 0 ≤ a) (ab : a ≤ b) (h : ∀ k, a ≤ k → k < b → p k = false) : ycnt p b = ycnt p a := by
  have := ycnt_0s (p := p) a0 (b - a).toNat (fun k k0 k1 => h k k0 (by omega))
  rw [show a + (((b - a).toNat : Nat) : Int) = b by omega] at this
  exact this
theorem ycnt_1b {p : Int → Bool} {a b : Int} (a0 : 0 ≤ a) (ab : a ≤ b) (h : ∀ k, a ≤ k → k < b → p k = true) : ycnt p b = ycnt p a + (b - a) := by
  have := ycnt_1s (p := p) a0 (b - a).toNat (fun k k0 k1 => h k k0 (by omega))
  rw [show a + (((b - a).toNat : Nat) : Int) = b by omega] at this
  rw [this]; omega
theorem yr_lt {t : Int → Int} {i : Int} (i0 : 0 ≤ i) : ∀ n : Nat, i + 1 + n < yrc t 1000 → yrL t 1000 i + 1 < yrF t 1000 (i + 1 + n) := by
  intro n
  have ord := (yr_ord t 1000).1
  induction n with
  | zero => intro h; rw [show i + 1 + ((0 : Nat) : Int) = i + 1 by omega] at h ⊢; exact (ord i i0 (by omega)).2.2.2 h
  | succ n ih =>
    intro h
    rw [show i + 1 + ((n + 1 : Nat) : Int) = i + 1 + n + 1 by omega] at h ⊢
    have := ih (by omega)
    have := ord (i + 1 + n) (by omega) (by omega)
    omega
theorem yr_l {t : Int → Int} {i j : Int} (i0 : 0 ≤ i) (ij : i < j) (j1 : j < yrc t 1000) : yrL t 1000 i + 1 < yrF t 1000 j := by
  have := yr_lt (t := t) i0 (j - i - 1).toNat
  rw [show i + 1 + (((j - i - 1).toNat : Nat) : Int) = j by omega] at this
  exact this j1
theorem yr_b {t : Int → Int} {g k : Int} (g0 : 0 ≤ g) (g1 : g < yrc t 1000) (k0 : yrF t 1000 g ≤ k) (k1 : k < 1000) (h : g + 1 < yrc t 1000 → k < yrF t 1000 (g + 1)) : 0 ≤ k ∧ ybg t k = g := by
  have o := (yr_ord t 1000).1 g g0 g1
  have b := yr_k (t := t) (k := k) (by omega) k1
  have a := (b.2.2.1 g g0 g1).1 k0
  refine ⟨by omega, ?_⟩
  by_cases q : ybg t k = g
  · exact q
  · have := (b.2.2.1 (g + 1) (by omega) (by omega)).2 (by omega)
    have := h (by omega)
    omega
section RD
variable {d : Nat} {m : ZN}
/-- the gap of a key -/
def ygp (t : Int → Int) (k : Int) : Int := if t k = 1 then -1 else if 0 ≤ ybg t k ∧ ybg t k ≤ yrc t 1000 - 2 then ybg t k else -1
def ygq (t : Int → Int) (k : Int) : Int := if 0 ≤ ybg t k ∧ ybg t k ≤ yrc t 1000 - 2 then ybg t k else -1
theorem ygq_p {t : Int → Int} {k : Int} (q : ¬ t k = 1) : ygq t k = ygp t k := by
  unfold ygp ygq
  rw [if_neg q]
theorem yRn_k {t : Int → Int} {k : Int} (R : yRn t m 1000) (k0 : 0 ≤ k) (k1 : k < 1000) : zr m 226 k = ybg t k + 1 := by
  have h := R.2.1 k.toNat (by omega)
  rw [show ((k.toNat : Nat) : Int) = k by omega] at h
  rw [h]; unfold ybg; omega
theorem c_98 {t : Int → Int} {k : Int} (R : yRn t m 1000) (k0 : 0 ≤ k) (k1 : k < 1000) (K : Int → ZN → Prop) : zcI (d + 1) 98 [zA 222, zI k] m K = K (ygq t k) m := by
  have hr := yrc_r t 1000
  have b := yr_k (t := t) k0 k1
  have h := yRn_k R k0 k1
  refine zcI_eq (w_98 ?_) K
  rw [yck_of (by omega), h, R.1, c_181, show zb (yrc t 1000 - 2) = yrc t 1000 - 2 from yb_id (by omega) (by omega), show zb (ybg t k + 1 - 1) = ybg t k from by rw [yb_id (by omega) (by omega)]; omega]
  unfold ygq
  by_cases q2 : 0 ≤ ybg t k ∧ ybg t k ≤ yrc t 1000 - 2
  · rw [if_pos q2, if_neg (by decide), if_pos q2]; exact ⟨rfl, rfl⟩
  · rw [if_neg q2, if_pos rfl, if_neg q2]; exact ⟨rfl, rfl⟩
theorem c_322 {t : Int → Int} {k : Int} (R : yRn t m 1000) (k0 : 0 ≤ k) (k1 : k < 1000) (K : Int → ZN → Prop) : zcI d 322 [zA 222, zI k] m K = K (if t k = 1 then 1 else 0) m := by
  have hr := yrc_r t 1000
  have b := yr_k (t := t) k0 k1
  have h := yRn_k R k0 k1
  refine zcI_eq (w_322 ?_) K
  rw [yck_of (by omega), h, show zb (ybg t k + 1 - 1) = ybg t k from by rw [yb_id (by omega) (by omega)]; omega]
  by_cases q2 : 0 ≤ ybg t k
  · have e := b.2.2.2.2 q2
    rw [if_pos (by omega), yck_of (by omega), yck_of (by omega), (R.2.2 _ q2 b.2.1).2]
    by_cases q : t k = 1
    · rw [if_neg (by have := e.1 q; omega), if_pos q, yck_of (by decide)]; exact ⟨rfl, rfl⟩
    · rw [if_pos (by have := fun z => q (e.2 z); omega), if_neg q, yck_of (by decide)]; exact ⟨rfl, rfl⟩
  · rw [if_neg (by omega), if_neg (fun q => q2 (b.2.2.2.1 q)), yck_of (by decide)]; exact ⟨rfl, rfl⟩
theorem c_99 {t : Int → Int} {k : Int} {S : Int → Prop} (R : yRn t m 1000) (hS : ∀ g, 0 ≤ g → g < yrc t 1000 - 1 → (zr m 230 g = 0 ∧ ¬ S g) ∨ (zr m 230 g = 1 ∧ S g)) (k0 : 0 ≤ k) (k1 : k < 1000) (K : Int → ZN → Prop) : zcI (d + 2) 99 [zA 222, zI k] m K = K (bif ybo (yRd t S k) then 1 else 0) m := by
  have hr := yrc_r t 1000
  have h := yRn_k R k0 k1
  refine zcI_eq (w_99 ?_) K
  rw [c_98 R k0 k1, c_322 R k0 k1]
  by_cases q : t k = 1
  · rw [if_pos q, if_neg (by decide), yck_of (by decide), ybo_t (show yRd t S k from Or.inl q)]; exact ⟨rfl, rfl⟩
  · rw [if_neg q, if_pos rfl]
    by_cases q2 : 0 ≤ ybg t k ∧ ybg t k ≤ yrc t 1000 - 2
    · have e : ygq t k = ybg t k := by unfold ygq; rw [if_pos q2]
      rw [e, if_neg (by omega), yck_of (by omega)]
      rcases hS _ q2.1 (by omega) with ⟨h1, h2⟩ | ⟨h1, h2⟩
      · rw [h1, if_pos rfl, yck_of (by decide), ybo_f (fun z => z.elim q (fun y => h2 y.2.2))]; exact ⟨rfl, rfl⟩
      · rw [h1, if_neg (by decide), yck_of (by decide), ybo_t (show yRd t S k from Or.inr ⟨q2.1, by omega, h2⟩)]; exact ⟨rfl, rfl⟩
    · have e : ygq t k = -1 := by unfold ygq; rw [if_neg q2]
      rw [e, if_pos rfl, yck_of (by decide), ybo_f (fun z => z.elim q (fun y => q2 ⟨y.1, by omega⟩))]; exact ⟨rfl, rfl⟩
theorem c_101 {t : Int → Int} {o : Int} {S : Int → Prop} (R : yRn t m 1000) (hS : ∀ g, 0 ≤ g → g < yrc t 1000 - 1 → (zr m 230 g = 0 ∧ ¬ S g) ∨ (zr m 230 g = 1 ∧ S g)) (o0 : 0 ≤ o) (o1 : o ≤ 5) (h5 : 0 ≤ zr m 4 1) (h6 : zr m 4 1 ≤ 60) (hv : ∀ j, 0 ≤ j → j < 3 * zr m 4 1 → 0 ≤ zr m 5 j ∧ zr m 5 j ≤ 9) (K : Int → ZN → Prop) : zcI (d + 3) 101 [zA 222, zA 4, zI o] m K = K (ycnt (fun l => ybo (yRd t S (yk3 (zr m 5) l o))) (zr m 4 1)) m := by
  refine zcI_eq (w_101 ?_) K
  obtain ⟨p, hp⟩ : ∃ p : Int → Bool, ∀ l, p l = ybo (yRd t S (yk3 (zr m 5) l o)) := ⟨_, fun _ => rfl⟩
  rw [show (fun l => ybo (yRd t S (yk3 (zr m 5) l o))) = p from funext fun l => (hp l).symm]
  refine yfor (fun i => zwpN (d + 3) 101 5 [some (zA 222), some (zA 4), some (zI o), some (zI (ycnt p i)), some (zI i)] [] m _) 0 (zr m 4 1) h5 (fun i i0 i1 hW => ?_) ?_
  · have hr := ycnt_r p i0
    have hk := yk3_r (t := o) i0 i1 o0 o1 hv
    refine w_101_5 ?_
    rw [if_pos i1, c_39 (d := d + 1) i0 i1 h6 o0 o1 hv, c_99 (d := d) R hS hk.1 hk.2, ← hp]
    rw [ycnt_s i0] at hW
    cases q : p i
    · rw [q] at hW
      rw [show (bif false then (1 : Int) else 0) = 0 from rfl, if_pos rfl, yb_id (by omega) (by omega)]
      rw [show ycnt p i + (bif false then (1 : Int) else 0) = ycnt p i from Int.add_zero _] at hW
      exact hW
    · rw [q] at hW
      rw [show (bif true then (1 : Int) else 0) = 1 from rfl, if_neg (by decide), show zb (i + 1) = i + 1 from yb_id (by omega) (by omega), show zb (ycnt p i + 1) = ycnt p i + 1 from yb_id (by omega) (by omega)]
      exact hW
  · refine w_101_5 ?_
    rw [if_neg (by omega)]
    exact ⟨rfl, rfl⟩
theorem c_280 {t : Int → Int} {n k : Int} {S : Int → Prop} (R : ySpM t S n m) (k0 : 0 ≤ k) (k1 : k < 1000) (K : Int → ZN → Prop) : zcI d 280 [zA 236, zI k] m K = K (bif ybo (yRd t S k) then 1 else 0) m := by
  have hr := yrc_r t 1000
  obtain ⟨n0, hn, e, he, hrow⟩ := R
  have nN := ySpE_n he n0 (by omega)
  refine zcI_eq (w_280 ?_) K
  refine yfor (fun i => (∀ j, 0 ≤ j → j < i → ¬ (yrF t 1000 (e (j - 1) + 1) ≤ k ∧ k ≤ yrL t 1000 (e j))) → zwpN d 280 2 [some (zA 236), some (zI k), some (zI i)] [] m _) 0 n n0 (fun i i0 i1 hW hno => ?_) (fun hno => ?_) (fun j j0 j1 => by omega)
  · have hx := hrow i i0 i1
    have nx : ¬ (yrF t 1000 (e (i - 1) + 1) ≤ k ∧ k ≤ yrL t 1000 (e i)) → zwpN d 280 2 [some (zA 236), some (zI k), some (zI (zb (i + 1)))] [] m _ := fun z => by
      rw [show zb (i + 1) = i + 1 from yb_id (by omega) (by omega)]
      refine hW (fun j j0 j1 => ?_)
      by_cases q : j = i
      · rw [q]; exact z
      · exact hno j j0 (by omega)
    refine w_280_2 ?_
    rw [hn, if_pos i1, yck_of (by omega), yck_of (by omega), hx.1, hx.2]
    by_cases q : k < yrF t 1000 (e (i - 1) + 1)
    · rw [if_pos q]; exact nx (by omega)
    · rw [if_neg q]
      by_cases q2 : yrL t 1000 (e i) < k
      · rw [if_pos q2]; exact nx (by omega)
      · rw [if_neg q2, yck_of (by decide), ybo_t ((yRd_e he k0 k1).1 ⟨i, i0, i1, by omega, by omega⟩)]; exact ⟨rfl, rfl⟩
  · refine w_280_2 ?_
    rw [hn, if_neg (by omega), yck_of (by decide), ybo_f (fun z => by
      obtain ⟨i, i0, i1, i2, i3⟩ := (yRd_e he k0 k1).2 z
      exact hno i i0 i1 ⟨i2, i3⟩)]
    exact ⟨rfl, rfl⟩
theorem c_281 {t : Int → Int} {c o n f : Int} {S : Int → Prop} (R : ySpM t S n m) (hf : f = 0 ∨ f = 1) (c0 : 0 ≤ c) (c1 : c < 24) (o0 : 0 ≤ o) (o1 : o ≤ 5) (h5 : 0 ≤ zr m 236 9) (h6 : zr m 236 9 ≤ 60) (hv : ∀ j, 0 ≤ j → j < 3 * zr m 236 9 → 0 ≤ zr m 253 j ∧ zr m 253 j ≤ 9) (K : Int → ZN → Prop) : zcI (d + 3) 281 [zA 236, zI c, zI o, zI f] m K = K (ycnt (fun l => ybo (yRd t S (yk3 (zr m 253) l o)) && (decide (f = 0) || !decide (zr m 261 (1000 * c + yk3 (zr m 253) l 0) = 1))) (zr m 236 9)) m := by
  refine zcI_eq (w_281 ?_) K
  obtain ⟨p, hp⟩ : ∃ p : Int → Bool, ∀ l, p l = (ybo (yRd t S (yk3 (zr m 253) l o)) && (decide (f = 0) || !decide (zr m 261 (1000 * c + yk3 (zr m 253) l 0) = 1))) := ⟨_, fun _ => rfl⟩
  rw [show (fun l => ybo (yRd t S (yk3 (zr m 253) l o)) && (decide (f = 0) || !decide (zr m 261 (1000 * c + yk3 (zr m 253) l 0) = 1))) = p from funext fun l => (hp l).symm]
  refine yfor (fun i => zwpN (d + 3) 281 6 [some (zA 236), some (zI c), some (zI o), some (zI f), some (zI (ycnt p i)), some (zI i)] [] m _) 0 (zr m 236 9) h5 (fun i i0 i1 hW => ?_) ?_
  · have hr := ycnt_r p i0
    have hk := yk3_r (t := o) i0 i1 o0 o1 hv
    have hpi := hp i
    rw [ycnt_s i0] at hW
    refine w_281_6 ?_
    rw [if_pos i1, c_210 (d := d + 1) i0 i1 h6 o0 o1 hv, c_280 R hk.1 hk.2, show zb (i + 1) = i + 1 from yb_id (by omega) (by omega), show zb (ycnt p i + 1) = ycnt p i + 1 from yb_id (by omega) (by omega), show zb (ycnt p i + 0) = ycnt p i + 0 from yb_id (by omega) (by omega)]
    cases q : ybo (yRd t S (yk3 (zr m 253) i o))
    · rw [hpi, q] at hW
      rw [show (bif false then (1 : Int) else 0) = 0 from rfl, if_pos rfl]
      exact hW
    · rw [show (bif true then (1 : Int) else 0) = 1 from rfl, if_neg (by decide)]
      rcases hf with q2 | q2
      · rw [hpi, q, decide_eq_true q2] at hW
        rw [if_pos q2]
        exact hW
      · rw [if_neg (by omega), c_212 (d := d) c0 c1 i0 i1 h6 hv]
        rw [hpi, q, decide_eq_false (show ¬ f = 0 by omega)] at hW
        by_cases q3 : zr m 261 (1000 * c + yk3 (zr m 253) i 0) = 1
        · rw [decide_eq_true q3] at hW
          rw [if_pos q3]
          exact hW
        · rw [decide_eq_false q3] at hW
          rw [if_neg q3]
          exact hW
  · refine w_281_6 ?_
    rw [if_neg (by omega)]
    exact ⟨rfl, rfl⟩
theorem c_282 {t u : Int → Int} {c o n : Int} {S : Int → Prop} (R : ySpM t S n m) (c0 : 0 ≤ c) (c1 : c < 24) (o0 : 0 ≤ o) (o1 : o ≤ 5) (hu : ∀ k, 0 ≤ k → k < 1000 → zr m 261 (1000 * c + ypl o k) = u k) (K : Int → ZN → Prop) : zcI (d + 2) 282 [zA 236, zI c, zI o] m K = K (ycnt (fun k => ybo (yRd t S k) && !decide (u k = 1)) 1000) m := by
  have hr := yrc_r t 1000
  have ord := (yr_ord t 1000).1
  obtain ⟨n0, hn, e, he, hrow⟩ := R
  have nN := ySpE_n he n0 (by omega)
  have er := ySpE_r he
  obtain ⟨p, hp⟩ : ∃ p : Int → Bool, ∀ k, p k = (ybo (yRd t S k) && !decide (u k = 1)) := ⟨_, fun _ => rfl⟩
  rw [show (fun k => ybo (yRd t S k) && !decide (u k = 1)) = p from funext fun l => (hp l).symm]
  obtain ⟨B, hB⟩ : ∃ B : Int → Int, ∀ i, B i = if i = 0 then 0 else yrL t 1000 (e (i - 1)) + 1 := ⟨_, fun _ => rfl⟩
  have B0 : B 0 = 0 := by rw [hB, if_pos rfl]
  have Bs : ∀ i, 0 ≤ i → B (i + 1) = yrL t 1000 (e i) + 1 := fun i i0 => by rw [hB, if_neg (by omega), show i + 1 - 1 = i by omega]
  have Br : ∀ i, 0 ≤ i → i ≤ n → 0 ≤ B i ∧ B i ≤ 1000 ∧ (∀ j, 0 ≤ j → j < i → yrL t 1000 (e j) < B i) ∧ (i < n → B i ≤ yrF t 1000 (e (i - 1) + 1)) := fun i i0 i1 => by
    by_cases q : i = 0
    · rw [q, B0]
      refine ⟨by decide, by decide, fun j j0 j1 => by omega, fun h => ?_⟩
      have := er 0 (by decide) h
      exact (ord _ this.1 (by omega)).1
    · have ri := er (i - 1) (by omega) (by omega)
      have oi := ord (e (i - 1)) (by omega) ri.2.2
      have hb : B i = yrL t 1000 (e (i - 1)) + 1 := by rw [hB, if_neg q]
      rw [hb]
      refine ⟨by omega, by omega, fun j j0 j1 => ?_, fun h => ?_⟩
      · by_cases q2 : j = i - 1
        · rw [q2]; omega
        · have rj := er j j0 (by omega)
          have lt := he.2.1 j (i - 1) (by omega) (by omega) (by omega)
          have := yr_l (t := t) (show 0 ≤ e j by omega) lt ri.2.2
          omega
      · have r2 := er i i0 h
        have := oi.2.2.2 (by omega)
        omega
  have nor : ∀ i k, 0 ≤ i → i ≤ n → B i ≤ k → k < 1000 → (i < n → k < yrF t 1000 (e (i - 1) + 1)) → p k = false := fun i k i0 i1 k0 k1 h => by
    have b := Br i i0 i1
    rw [hp, ybo_f (fun z => ?_)]
    · rfl
    · obtain ⟨j, j0, j1, j2, j3⟩ := (yRd_e he (by omega) k1).2 z
      by_cases q : j < i
      · have := b.2.2.1 j j0 q
        omega
      · have h := h (by omega)
        by_cases q2 : j = i
        · rw [q2] at j2; omega
        · have lt := he.2.1 (i - 1) (j - 1) (by omega) (by omega) (by omega)
          have ri := er i i0 (by omega)
          have rj := er j j0 j1
          have := yr_l (t := t) (show 0 ≤ e (i - 1) + 1 by omega) (show e (i - 1) + 1 < e (j - 1) + 1 by omega) (by omega)
          have := ord (e (i - 1) + 1) (by omega) (by omega)
          omega
  refine zcI_eq (w_282 ?_) K
  suffices go : ∀ o5, zwpN (d + 2) 282 5 [some (zA 236), some (zI c), some (zI o), some (zI (ycnt p (B 0))), some (zI 0), o5] [] m (zPI (fun v m1 => v = ycnt p 1000 ∧ m1 = m)) by
    have g := go none
    rw [B0] at g
    exact g
  refine yfor (fun i => ∀ o5, zwpN (d + 2) 282 5 [some (zA 236), some (zI c), some (zI o), some (zI (ycnt p (B i))), some (zI i), o5] [] m (zPI (fun v m1 => v = ycnt p 1000 ∧ m1 = m))) 0 n n0 (fun i i0 i1 hW o5 => ?_) (fun o5 => ?_)
  · have hx := hrow i i0 i1
    have ri := er i i0 i1
    have o1' := ord (e (i - 1) + 1) ri.1 (by omega)
    have o2' := ord (e i) (by omega) ri.2.2
    have b := Br i i0 (by omega)
    have FL : yrF t 1000 (e (i - 1) + 1) ≤ yrL t 1000 (e i) := by
      by_cases q : e (i - 1) + 1 = e i
      · rw [q]; omega
      · have := yr_l (t := t) ri.1 (show e (i - 1) + 1 < e i by omega) ri.2.2
        omega
    refine w_282_5 ?_
    rw [hn, if_pos i1, yck_of (by omega), hx.1, ← ycnt_0b (p := p) b.1 (b.2.2.2 i1) (fun k k0 k1 => nor i k i0 (by omega) k0 (by omega) (fun _ => k1))]
    refine yfor (fun k => zwpN (d + 2) 282 23 [some (zA 236), some (zI c), some (zI o), some (zI (ycnt p k)), some (zI i), some (zI k)] [] m (zPI (fun v m1 => v = ycnt p 1000 ∧ m1 = m))) (yrF t 1000 (e (i - 1) + 1)) (yrL t 1000 (e i) + 1) (by omega) (fun k k0 k1 hV => ?_) ?_
    · have hc := ycnt_r p (show 0 ≤ k by omega)
      have hpk := hp k
      rw [ycnt_s (by omega)] at hV
      rw [ybo_t ((yRd_e he (by omega) (by omega)).1 ⟨i, i0, i1, k0, by omega⟩)] at hpk
      refine w_282_23 ?_
      have hpl := ypl_r o0 o1 (show 0 ≤ k by omega) (show k < 1000 by omega)
      rw [yck_of (by omega), hx.2, if_neg (by omega), c_209 (d := d) o0 o1 (by omega) (by omega), c_211 c0 c1 hpl.1 hpl.2, hu k (by omega) (by omega), show zb (k + 1) = k + 1 from yb_id (by omega) (by omega), show zb (ycnt p k + 1) = ycnt p k + 1 from yb_id (by omega) (by omega), show zb (ycnt p k + 0) = ycnt p k + 0 from yb_id (by omega) (by omega)]
      by_cases q : u k = 1
      · rw [decide_eq_true q] at hpk
        rw [hpk] at hV
        rw [if_pos q]
        exact hV
      · rw [decide_eq_false q] at hpk
        rw [hpk] at hV
        rw [if_neg q]
        exact hV
    · refine w_282_23 ?_
      rw [yck_of (by omega), hx.2, if_pos (by omega), yb_id (by omega) (by omega), ← Bs i i0]
      exact hW _
  · refine w_282_5 ?_
    rw [hn, if_neg (by omega)]
    have b := Br n n0 (by omega)
    rw [ycnt_0b (p := p) b.1 b.2.1 (fun k k0 k1 => nor n k n0 (by omega) k0 k1 (fun z => by omega))]
    exact ⟨rfl, rfl⟩
theorem c_100 {t : Int → Int} {S : Int → Prop} (R : yRn t m 1000) (hS : ∀ g, 0 ≤ g → g < yrc t 1000 - 1 → (zr m 230 g = 0 ∧ ¬ S g) ∨ (zr m 230 g = 1 ∧ S g)) (K : Int → ZN → Prop) : zcI (d + 1) 100 [zA 222] m K = K (ycnt (fun k => ybo (yRd t S k) && !decide (t k = 1)) 1000) m := by
  have hr := yrc_r t 1000
  have ord := (yr_ord t 1000).1
  obtain ⟨p, hp⟩ : ∃ p : Int → Bool, ∀ k, p k = (ybo (yRd t S k) && !decide (t k = 1)) := ⟨_, fun _ => rfl⟩
  rw [show (fun k => ybo (yRd t S k) && !decide (t k = 1)) = p from funext fun l => (hp l).symm]
  have p1 : ∀ k, t k = 1 → p k = false := fun k q => by rw [hp, decide_eq_true q]; exact Bool.and_false _
  have pn : ∀ k, 0 ≤ k → k < 1000 → (ybg t k < 0 ∨ yrc t 1000 - 1 ≤ ybg t k) → p k = false := fun k k0 k1 h => by
    by_cases q : t k = 1
    · exact p1 k q
    · rw [hp, ybo_f (fun z => z.elim q (fun y => by omega))]; rfl
  refine zcI_eq (w_100 ?_) K
  by_cases hN : 1 ≤ yrc t 1000
  · have o0 := ord 0 (by decide) (by omega)
    have oN := ord (yrc t 1000 - 1) (by omega) (by omega)
    have go := yfor (fun g => zwpN (d + 1) 100 4 [some (zA 222), some (zI (ycnt p (yrF t 1000 g))), some (zI g)] [] m (zPI (fun v m1 => v = ycnt p 1000 ∧ m1 = m))) 0 (yrc t 1000 - 1) (by omega) (fun g g0 g1 hW => by
      have og := ord g g0 (by omega)
      have gl := og.2.2.2 (by omega)
      have og1 := ord (g + 1) (by omega) (by omega)
      have hc := ycnt_r p (show 0 ≤ yrF t 1000 g by omega)
      have inb : ∀ k, yrF t 1000 g ≤ k → k < yrF t 1000 (g + 1) → 0 ≤ k ∧ ybg t k = g := fun k k0 k1 => yr_b g0 (by omega) k0 (by omega) (fun _ => k1)
      have s1 : ycnt p (yrL t 1000 g + 1) = ycnt p (yrF t 1000 g) := ycnt_0b og.1 (by omega) (fun k k0 k1 => by
        have b := inb k k0 (by omega)
        have := (yr_k (t := t) b.1 (by omega)).2.2.2.2
        rw [b.2] at this
        exact p1 k ((this g0).2 (by omega)))
      have pg : ∀ k, yrL t 1000 g + 1 ≤ k → k < yrF t 1000 (g + 1) → ¬ t k = 1 ∧ ybg t k = g := fun k k0 k1 => by
        have b := inb k (by omega) k1
        have := (yr_k (t := t) b.1 (by omega)).2.2.2.2
        rw [b.2] at this
        exact ⟨fun z => by have := (this g0).1 z; omega, b.2⟩
      refine w_100_4 ?_
      rw [R.1, show zb (yrc t 1000 - 1) = yrc t 1000 - 1 from yb_id (by omega) (by omega), if_pos g1, yck_of (by omega), show zb (g + 1) = g + 1 from yb_id (by omega) (by omega)]
      rcases hS g g0 g1 with ⟨h1, h2⟩ | ⟨h1, h2⟩
      · rw [h1, if_pos rfl]
        rw [ycnt_0b (p := p) (a := yrL t 1000 g + 1) (by omega) (by omega) (fun k k0 k1 => by
          have b := pg k k0 k1
          rw [hp, ybo_f (fun z => z.elim b.1 (fun y => h2 (by rw [← b.2]; exact y.2.2)))]; rfl), s1] at hW
        exact hW
      · rw [h1, if_neg (by decide), c_94 (t := t) g0 (by omega) R.2.2]
        rw [ycnt_1b (p := p) (a := yrL t 1000 g + 1) (by omega) (by omega) (fun k k0 k1 => by
          have b := pg k k0 k1
          rw [hp, ybo_t (show yRd t S k from Or.inr ⟨by omega, by omega, by rw [b.2]; exact h2⟩), decide_eq_false b.1]; rfl), s1] at hW
        rw [show zb (ycnt p (yrF t 1000 g) + (yrF t 1000 (g + 1) - yrL t 1000 g - 1)) = ycnt p (yrF t 1000 g) + (yrF t 1000 (g + 1) - (yrL t 1000 g + 1)) from by rw [yb_id (by omega) (by omega)]; omega]
        exact hW) (by
      refine w_100_4 ?_
      rw [R.1, show zb (yrc t 1000 - 1) = yrc t 1000 - 1 from yb_id (by omega) (by omega), if_neg (by omega)]
      refine ⟨?_, rfl⟩
      exact (ycnt_0b oN.1 (by omega) (fun k k0 k1 => by
        have b := yr_b (t := t) (k := k) (g := yrc t 1000 - 1) (by omega) (by omega) k0 k1 (fun z => by omega)
        exact pn k b.1 k1 (by omega))).symm)
    rw [ycnt_0b (p := p) (a := 0) (b := yrF t 1000 0) (by decide) o0.1 (fun k k0 k1 => by
      have b := yr_k (t := t) k0 (show k < 1000 by omega)
      have := b.2.2.1 0 (by decide) (by omega)
      exact pn k k0 (by omega) (by omega))] at go
    exact go
  · refine w_100_4 ?_
    rw [R.1, show zb (yrc t 1000 - 1) = yrc t 1000 - 1 from yb_id (by omega) (by omega), if_neg (by omega)]
    refine ⟨?_, rfl⟩
    exact (ycnt_0b (a := 0) (by decide) (by decide) (fun k k0 k1 => pn k k0 k1 (by
      have b := yr_k (t := t) k0 k1
      omega))).symm
end RD
