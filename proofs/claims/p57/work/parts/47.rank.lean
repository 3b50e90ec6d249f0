/-! ===== lines put in order ===== -/
def yins (a : Int → Int) (y w : Int) : Int → Int := fun x => if x < y then a x else if x = y then w else a (x - 1)
theorem yins_l {a : Int → Int} {y w x : Int} (h : x < y) : yins a y w x = a x := if_pos h
theorem yins_e {a : Int → Int} {y w : Int} : yins a y w y = w := by unfold yins; rw [if_neg (by omega), if_pos rfl]
theorem yins_g {a : Int → Int} {y w x : Int} (h : y < x) : yins a y w x = a (x - 1) := by unfold yins; rw [if_neg (by omega), if_neg (by omega)]
theorem yins_cnt {a : Int → Int} {w v : Int} : ∀ (c : Nat) (y : Int), 0 ≤ y → y ≤ c → ycnt (fun x => decide (yins a y w x < v)) ((c : Int) + 1) = ycnt (fun x => decide (a x < v)) c + (if w < v then 1 else 0) := by
  intro c
  induction c with
  | zero =>
    intro y y0 y1
    have : y = 0 := by omega
    subst this
    rw [ycnt_s (by omega)]
    show ycnt _ 0 + (bif decide (yins a 0 w 0 < v) then 1 else 0) = ycnt _ 0 + _
    rw [yins_e, ycnt_0, ycnt_0]
    by_cases q : w < v
    · rw [decide_eq_true q, if_pos q]; rfl
    · rw [decide_eq_false q, if_neg q]; rfl
  | succ c ih =>
    intro y y0 y1
    rw [ycnt_s (by omega)]
    by_cases q : y = ((c + 1 : Nat) : Int)
    · rw [q, ycnt_c (q := fun x => decide (a x < v)) (fun x x0 x1 => by rw [yins_l x1]), yins_e]
      by_cases q : w < v
      · rw [decide_eq_true q, if_pos q]; rfl
      · rw [decide_eq_false q, if_neg q]; rfl
    · have e : ((c + 1 : Nat) : Int) = (c : Int) + 1 := by omega
      rw [e, ih y y0 (by omega), ycnt_s (p := fun x => decide (a x < v)) (show 0 ≤ (c : Int) by omega), yins_g (by omega), show (c : Int) + 1 - 1 = c by omega]
      omega
theorem ycnt_lx {x : Int} (x0 : 0 ≤ x) : ∀ c : Nat, x ≤ c → ycnt (fun y => decide (y < x)) c = x := by
  intro c
  induction c with
  | zero => intro h; rw [show x = 0 by omega]; rfl
  | succ c ih =>
    intro h
    have e : ((c + 1 : Nat) : Int) = (c : Int) + 1 := by omega
    rw [e]
    by_cases q : x = (c : Int) + 1
    · have key : ∀ n : Nat, n ≤ c + 1 → ycnt (fun y => decide (y < x)) n = n := fun n => by
        induction n with
        | zero => intro _; rfl
        | succ n ih => intro hn; rw [show ((n + 1 : Nat) : Int) = (n : Int) + 1 by omega, ycnt_t (by omega) (decide_eq_true (by omega)), ih (by omega)]
      have := key (c + 1) (Nat.le_refl _)
      rw [e] at this
      rw [this, q]
    · rw [ycnt_f (by omega) (decide_eq_false (by omega))]
      exact ih (by omega)
/-- fewer, where one more fits the other -/
theorem ycnt_mono {p q : Int → Bool} : ∀ n : Nat, (∀ i : Int, 0 ≤ i → i < n → p i = true → q i = true) → ycnt p n ≤ ycnt q n := by
  intro n
  induction n with
  | zero => intro _; exact Int.le_refl _
  | succ n ih =>
    intro h
    have e : ((n + 1 : Nat) : Int) = (n : Int) + 1 := by omega
    rw [e, ycnt_s (by omega), ycnt_s (by omega)]
    have := ih (fun i i0 i1 => h i i0 (by omega))
    have h2 := h n (by omega) (by omega)
    cases hp : p n
    · cases hq : q n
      · simpa using this
      · simp only [cond_false, cond_true]; omega
    · rw [h2 hp]
      simp only [cond_true]; omega
theorem ycnt_lt {p q : Int → Bool} {x : Int} (x0 : 0 ≤ x) (hp : p x = false) (hq : q x = true) : ∀ n : Nat, x < n → (∀ i : Int, 0 ≤ i → i < n → p i = true → q i = true) → ycnt p n < ycnt q n := by
  intro n
  induction n with
  | zero => intro h; omega
  | succ n ih =>
    intro hx h
    have e : ((n + 1 : Nat) : Int) = (n : Int) + 1 := by omega
    rw [e, ycnt_s (by omega), ycnt_s (by omega)]
    by_cases q1 : x = n
    · have := ycnt_mono (p := p) (q := q) n (fun i i0 i1 => h i i0 (by omega))
      rw [← q1, hp, hq]
      rw [← q1] at this
      simp only [cond_true, cond_false]; omega
    · have := ih (by omega) (fun i i0 i1 => h i i0 (by omega))
      have h2 := h n (by omega) (by omega)
      cases hp : p n
      · cases hq : q n
        · simpa using this
        · simp only [cond_false, cond_true]; omega
      · rw [h2 hp]
        simp only [cond_true]; omega
def ysrt (a : Int → Int) (c : Int) : Prop := ∀ x y, 0 ≤ x → x < y → y < c → a x < a y
/-- the first c places of a hold, in order, the numbers f of those before k that fit p -/
def yRk (p : Int → Bool) (f a : Int → Int) (k c : Int) : Prop :=
  (0 ≤ c ∧ c = ycnt p k) ∧ ysrt a c ∧ (∀ x, 0 ≤ x → x < c → ∃ i, 0 ≤ i ∧ i < k ∧ p i = true ∧ a x = f i) ∧ (∀ v, ycnt (fun j => p j && decide (f j < v)) k = ycnt (fun x => decide (a x < v)) c) ∧ ∀ i, 0 ≤ i → i < k → p i = true → ∃ x, 0 ≤ x ∧ x < c ∧ a x = f i
theorem yRk_0 (p : Int → Bool) (f a : Int → Int) : yRk p f a 0 0 := ⟨⟨Int.le_refl _, rfl⟩, fun x y _ _ _ => by omega, fun x _ _ => by omega, fun v => rfl, fun i _ _ => by omega⟩
theorem yRk_f {p : Int → Bool} {f a : Int → Int} {k c : Int} (k0 : 0 ≤ k) (h : yRk p f a k c) (hp : p k = false) : yRk p f a (k + 1) c := by
  obtain ⟨h1, h2, h3, h4, h5⟩ := h
  refine ⟨⟨h1.1, ?_⟩, h2, fun x x0 x1 => ?_, fun v => ?_, fun i i0 i1 hi => ?_⟩
  · rw [ycnt_f k0 hp]; exact h1.2
  · obtain ⟨i, i0, i1, i2, i3⟩ := h3 x x0 x1
    exact ⟨i, i0, by omega, i2, i3⟩
  · rw [ycnt_f k0 (by rw [hp]; rfl)]; exact h4 v
  · by_cases q : i = k
    · rw [q, hp] at hi; cases hi
    · exact h5 i i0 (by omega) hi
theorem yRk_t {p : Int → Bool} {f a b : Int → Int} {k c y : Int} (k0 : 0 ≤ k) (h : yRk p f a k c) (hp : p k = true) (hd : ∀ j, 0 ≤ j → j < k → f j ≠ f k) (y0 : 0 ≤ y) (y1 : y ≤ c) (hb : ∀ z, 0 ≤ z → z < c + 1 → b z = yins a y (f k) z) (lo : ∀ x, 0 ≤ x → x < y → a x ≤ f k) (hi : ∀ x, y ≤ x → x < c → f k < a x) : yRk p f b (k + 1) (c + 1) := by
  obtain ⟨h1, h2, h3, h4, h5⟩ := h
  have hne : ∀ x, 0 ≤ x → x < c → a x ≠ f k := fun x x0 x1 => by
    obtain ⟨i, i0, i1, i2, i3⟩ := h3 x x0 x1
    rw [i3]; exact hd i i0 i1
  refine ⟨⟨by omega, ?_⟩, fun x z x0 xz z1 => ?_, fun x x0 x1 => ?_, fun v => ?_, fun i i0 i1 hi' => ?_⟩
  · rw [ycnt_t k0 hp, ← h1.2]
  · rw [hb x x0 (by omega), hb z (by omega) z1]
    by_cases q1 : z < y
    · rw [yins_l (by omega), yins_l q1]
      exact h2 x z x0 xz (by omega)
    · by_cases q2 : z = y
      · rw [q2, yins_e, yins_l (x := x) (by omega)]
        have := lo x x0 (by omega)
        have := hne x x0 (by omega)
        omega
      · rw [yins_g (x := z) (by omega)]
        by_cases q3 : x < y
        · rw [yins_l (x := x) q3]
          exact h2 x (z - 1) x0 (by omega) (by omega)
        · by_cases q4 : x = y
          · rw [q4, yins_e]
            exact hi (z - 1) (by omega) (by omega)
          · rw [yins_g (x := x) (by omega)]
            exact h2 (x - 1) (z - 1) (by omega) (by omega) (by omega)
  · rw [hb x x0 x1]
    by_cases q1 : x < y
    · rw [yins_l q1]
      obtain ⟨i, i0, i1, i2, i3⟩ := h3 x x0 (by omega)
      exact ⟨i, i0, by omega, i2, i3⟩
    · by_cases q2 : x = y
      · rw [q2, yins_e]
        exact ⟨k, k0, by omega, hp, rfl⟩
      · rw [yins_g (by omega)]
        obtain ⟨i, i0, i1, i2, i3⟩ := h3 (x - 1) (by omega) (by omega)
        exact ⟨i, i0, by omega, i2, i3⟩
  · rw [ycnt_s k0, hp, Bool.true_and, h4 v, ycnt_c (p := fun x => decide (b x < v)) (n := c + 1) (q := fun x => decide (yins a y (f k) x < v)) (fun z z0 z1 => by rw [hb z z0 z1])]
    have := yins_cnt (a := a) (w := f k) (v := v) c.toNat y y0 (by omega)
    rw [show ((c.toNat : Nat) : Int) = c by omega] at this
    rw [this]
    by_cases q : f k < v
    · rw [decide_eq_true q, if_pos q]; rfl
    · rw [decide_eq_false q, if_neg q]; rfl
  · by_cases q : i = k
    · exact ⟨y, y0, by omega, by rw [hb y y0 (by omega), yins_e, q]⟩
    · obtain ⟨x, x0, x1, x2⟩ := h5 i i0 (by omega) hi'
      by_cases q1 : x < y
      · exact ⟨x, x0, by omega, by rw [hb x x0 (by omega), yins_l q1, x2]⟩
      · exact ⟨x + 1, by omega, by omega, by rw [hb (x + 1) (by omega) (by omega), yins_g (by omega), show x + 1 - 1 = x by omega, x2]⟩
/-- a place is the count of those before -/
theorem yRk_p {p : Int → Bool} {f a : Int → Int} {k c x : Int} (h : yRk p f a k c) (x0 : 0 ≤ x) (x1 : x < c) : ycnt (fun j => p j && decide (f j < a x)) k = x := by
  obtain ⟨h1, h2, h3, h4, h5⟩ := h
  rw [h4, ycnt_c (q := fun y => decide (y < x)) (fun y y0 y1 => ?_)]
  · have := ycnt_lx x0 c.toNat (by omega)
    rw [show ((c.toNat : Nat) : Int) = c by omega] at this
    exact this
  · by_cases q : y < x
    · rw [decide_eq_true q, decide_eq_true (h2 y x y0 q x1)]
    · rw [decide_eq_false q]
      refine decide_eq_false ?_
      by_cases q2 : y = x
      · rw [q2]; omega
      · have := h2 x y x0 (by omega) y1
        omega
def ycode (md key i : Int) : Int := ((if md = 0 then key else if md = 1 then key % 100 else key % 10) * 1000 + key) * 100 + i
theorem ycode_r {md key i : Int} (k0 : 0 ≤ key) (k1 : key < 1000) (i0 : 0 ≤ i) (i1 : i < 60) : 0 ≤ ycode md key i ∧ ycode md key i < 100000000 ∧ ycode md key i % 100 = i := by
  unfold ycode
  split
  · omega
  · split <;> omega
theorem ycode_lt {md k i k' i' : Int} (k0 : 0 ≤ k) (k1 : k < 1000) (i0 : 0 ≤ i) (i1 : i < 60) (k0' : 0 ≤ k') (k1' : k' < 1000) (i0' : 0 ≤ i') (i1' : i' < 60) : ycode md k i < ycode md k' i' ↔ (if (if md = 0 then k else if md = 1 then k % 100 else k % 10) = (if md = 0 then k' else if md = 1 then k' % 100 else k' % 10) then (if k = k' then i < i' else k < k') else (if md = 0 then k else if md = 1 then k % 100 else k % 10) < (if md = 0 then k' else if md = 1 then k' % 100 else k' % 10)) := by
  unfold ycode
  by_cases q0 : md = 0
  · simp only [if_pos q0]
    split <;> (try split) <;> omega
  · simp only [if_neg q0]
    by_cases q1 : md = 1
    · simp only [if_pos q1]
      split <;> (try split) <;> omega
    · simp only [if_neg q1]
      split <;> (try split) <;> omega
section RK
variable {d : Nat} {m : ZN}
theorem c_46 {k md i : Int} (k0 : 0 ≤ k) (k1 : k < 1000) (i0 : 0 ≤ i) (i1 : i < 60) (K : Int → ZN → Prop) : zcI d 46 [zI k, zI md, zI i] m K = K (ycode md k i) m := by
  refine zcI_eq (w_46 ?_) K
  have e1 : Int.tmod k 100 = k % 100 := Int.tmod_eq_emod_of_nonneg k0
  have e2 : Int.tmod k 10 = k % 10 := Int.tmod_eq_emod_of_nonneg k0
  simp only [yck_of (show ¬ (100 : Int) = 0 by decide), yck_of (show ¬ (10 : Int) = 0 by decide), e1, e2]
  have hz : ∀ w, 0 ≤ w → w < 1000 → zb (zb (zb (zb (w * 1000) + k) * 100) + i) = (w * 1000 + k) * 100 + i := fun w w0 w1 => by
    rw [show zb (w * 1000) = w * 1000 from yb_id (by omega) (by omega), show zb (w * 1000 + k) = w * 1000 + k from yb_id (by omega) (by omega), show zb ((w * 1000 + k) * 100) = (w * 1000 + k) * 100 from yb_id (by omega) (by omega), yb_id (by omega) (by omega)]
  rw [hz k k0 k1, hz (k % 100) (by omega) (by omega), hz (k % 10) (by omega) (by omega)]
  unfold ycode
  by_cases q0 : md = 0
  · simp only [if_pos q0]
    exact ⟨trivial, trivial⟩
  · simp only [if_neg q0]
    by_cases q1 : md = 1
    · simp only [if_pos q1]
      exact ⟨trivial, trivial⟩
    · simp only [if_neg q1]
      exact ⟨trivial, trivial⟩
theorem c_49 {x : Int} (x0 : 0 ≤ x) (x1 : x < 60) (h : 0 ≤ zr m 233 x) (K : Int → ZN → Prop) : zcI d 49 [zA 232, zI x] m K = K (zr m 233 x % 100) m := by
  refine zcI_eq (w_49 ?_) K
  rw [yck_of ⟨x0, x1⟩, yck_of (by decide), Int.tmod_eq_emod_of_nonneg h]
  exact ⟨rfl, rfl⟩
theorem c_48 {c w : Int} {a : Int → Int} {K : ZN → Prop} (hc : zr m 232 1 = c) (c0 : 0 ≤ c) (c1 : c < 60) (ha : ∀ z, 0 ≤ z → z < c → zr m 233 z = a z) (srt : ysrt a c) (h : ∀ M2 y, (∀ b, b ≠ 232 → b ≠ 233 → zr M2 b = zr m b) → zr M2 232 1 = c + 1 → 0 ≤ y → y ≤ c → (∀ z, 0 ≤ z → z < c + 1 → zr M2 233 z = yins a y w z) → (∀ x, 0 ≤ x → x < y → a x ≤ w) → (∀ x, y ≤ x → x < c → w < a x) → K M2) : zcV d 48 [zA 232, zI w] m K := by
  have np : ∀ j, znp' 233 j = true := ynl rfl
  refine w_48 ?_
  rw [hc, if_pos c1]
  have key : ∀ y : Nat, (y : Int) ≤ c → ∀ M : ZN, (∀ b, b ≠ 232 → b ≠ 233 → zr M b = zr m b) → zr M 232 1 = c → (∀ z : Int, 0 ≤ z → z < y → zr M 233 z = a z) → (∀ z : Int, (y : Int) < z → z < c + 1 → zr M 233 z = a (z - 1)) → (∀ x : Int, (y : Int) ≤ x → x < c → w < a x) → zwpN d 48 18 [some (zA 232), some (zI w), some (zI y)] [] M (zPV K) := by
    intro y
    have fin : ∀ (y : Int) (M : ZN), 0 ≤ y → y ≤ c → (∀ b, b ≠ 232 → b ≠ 233 → zr M b = zr m b) → zr M 232 1 = c → (∀ z, 0 ≤ z → z < y → zr M 233 z = a z) → (∀ z, y < z → z < c + 1 → zr M 233 z = a (z - 1)) → (∀ x, y ≤ x → x < c → w < a x) → (∀ x, 0 ≤ x → x < y → a x ≤ w) → K (zsn (zsn M 233 y w) 232 1 (zb (zr (zsn M 233 y w) 232 1 + 1))) := fun y M y0 y1 k1 k2 k3 k4 k5 k6 => by
      refine h _ y (fun b b0 b1 => by rw [yfc b0, yfc b1]; exact k1 b b0 b1) ?_ y0 y1 (fun z z0 z1 => ?_) k6 k5
      · rw [yr_ss (znp_o rfl), yr_sc (by decide), k2, yb_id (by omega) (by omega)]
      · rw [yfc (by decide), yr_sa (np _)]
        by_cases q : z = y
        · rw [if_pos q, q, yins_e]
        · rw [if_neg q]
          by_cases q2 : z < y
          · rw [yins_l q2]; exact k3 z z0 q2
          · rw [yins_g (by omega)]; exact k4 z (by omega) z1
    induction y with
    | zero =>
      intro _ M k1 k2 k3 k4 k5
      refine w_48_18 ?_
      rw [if_neg (by omega), yck_of (by omega)]
      exact fin 0 M (by decide) c0 k1 k2 (fun z z0 z1 => by omega) k4 k5 (fun x x0 x1 => by omega)
    | succ y ih =>
      intro hy M k1 k2 k3 k4 k5
      refine w_48_18 ?_
      have e : (((y + 1 : Nat) : Int) - 1) = y := by omega
      have e2 : (((y + 1 : Nat) : Int) + -1) = y := by omega
      rw [if_pos (by omega), e, e2, yb_id (show -2147483648 ≤ (y : Int) by omega) (by omega), yck_of (by omega), k3 y (by omega) (by omega)]
      by_cases q : w < a y
      · rw [if_pos q, yck_of (by omega), yck_of (by omega)]
        refine ih (by omega) _ (fun b b0 b1 => by rw [yfc b1]; exact k1 b b0 b1) (by rw [yr_sc (by decide)]; exact k2) (fun z z0 z1 => ?_) (fun z z0 z1 => ?_) (fun x x0 x1 => ?_)
        · rw [yr_so (by omega)]
          exact k3 z z0 (by omega)
        · rw [yr_sa (np _)]
          by_cases q2 : z = ((y + 1 : Nat) : Int)
          · rw [if_pos q2, show z - 1 = y by omega]
          · rw [if_neg q2]
            exact k4 z (by omega) z1
        · by_cases q2 : x = y
          · rw [q2]; exact q
          · exact k5 x (by omega) x1
      · rw [if_neg q, yck_of (by omega)]
        refine fin _ M (by omega) hy k1 k2 k3 k4 k5 (fun x x0 x1 => ?_)
        by_cases q2 : x = y
        · rw [q2]; omega
        · have := srt x y x0 (by omega) (by omega)
          omega
  have := key c.toNat (by omega) m (fun _ _ _ => rfl) hc (fun z z0 z1 => ha z z0 (by omega)) (fun z z0 z1 => by omega) (fun x x0 x1 => by omega)
  rw [show ((c.toNat : Nat) : Int) = c by omega] at this
  exact this
theorem c_47 {a t md : Int} {K : ZN → Prop} (hA : isC a) (t0 : 0 ≤ t) (t5 : t ≤ 5) (h5 : 0 ≤ zr m 4 1) (h6 : zr m 4 1 ≤ 60) (hv : ∀ j, 0 ≤ j → j < 3 * zr m 4 1 → 0 ≤ zr m 5 j ∧ zr m 5 j ≤ 9)
    (h : ∀ M2 c, (∀ b, b ≠ 232 → b ≠ 233 → zr M2 b = zr m b) → zr M2 232 1 = c → yRk (fun i => decide (yTw (zr m (a + 1)) (yk3 (zr m 5) i 0) = 1)) (fun i => ycode md (yk3 (zr m 5) i t) i) (zr M2 233) (zr m 4 1) c → K M2) : zcV (d + 3) 47 [zA 232, zA 4, zA a, zI t, zI md] m K := by
  have g : 10 ≤ a := by unfold isC at hA; omega
  have a1 : a + 1 ≠ 232 ∧ a + 1 ≠ 233 := by unfold isC at hA; omega
  refine w_47 ?_
  refine yfor (fun k => ∀ (M : ZN) c, (∀ b, b ≠ 232 → b ≠ 233 → zr M b = zr m b) → zr M 232 1 = c → yRk (fun i => decide (yTw (zr m (a + 1)) (yk3 (zr m 5) i 0) = 1)) (fun i => ycode md (yk3 (zr m 5) i t) i) (zr M 233) k c → zwpN (d + 3) 47 8 [some (zA 232), some (zA 4), some (zA a), some (zI t), some (zI md), some (zI k)] [] M (zPV K)) 0 (zr m 4 1) h5 (fun k k0 k1 hW M c e1 e2 R => ?_) (fun M c e1 e2 R => ?_) _ 0 (fun b b0 b1 => by rw [yfc b0]) (yr_ss (znp_o rfl)) (yRk_0 _ _ _)
  · have f4 : zr M 4 = zr m 4 := e1 4 (by decide) (by decide)
    have f5 : zr M 5 = zr m 5 := e1 5 (by decide) (by decide)
    have hk := yk3_r (t := t) k0 k1 t0 t5 hv
    refine w_47_8 ?_
    rw [f4, if_pos k1, isC_pos hA, cond_true, c_40 (d := d) hA k0 (by rw [f4]; exact k1) (by rw [f4]; exact h6) (by rw [f4, f5]; exact hv), f5, e1 (a + 1) a1.1 a1.2, show zb (k + 1) = k + 1 from yb_id (by omega) (by omega)]
    have hcn := ycnt_r (fun i => decide (yTw (zr m (a + 1)) (yk3 (zr m 5) i 0) = 1)) k0
    have hc := R.1
    by_cases q : yTw (zr m (a + 1)) (yk3 (zr m 5) k 0) = 1
    · rw [if_pos q, c_39 (d := d + 1) k0 (by rw [f4]; exact k1) (by rw [f4]; exact h6) t0 t5 (by rw [f4, f5]; exact hv), f5, c_46 hk.1 hk.2 k0 (by omega)]
      refine c_48 (a := zr M 233) e2 hc.1 (by omega) (fun _ _ _ => rfl) R.2.1 (fun M2 y u1 u2 u3 u4 u5 u6 u7 => ?_)
      refine hW M2 (c + 1) (fun b b0 b1 => by rw [u1 b b0 b1]; exact e1 b b0 b1) u2 (yRk_t k0 R (decide_eq_true q) (fun j j0 j1 => ?_) u3 u4 u5 u6 u7)
      intro z
      have hj := yk3_r (t := t) j0 (show j < zr m 4 1 by omega) t0 t5 hv
      have r1 := ycode_r (md := md) hj.1 hj.2 j0 (by omega)
      have r2 := ycode_r (md := md) hk.1 hk.2 k0 (by omega)
      have z : ycode md (yk3 (zr m 5) j t) j = ycode md (yk3 (zr m 5) k t) k := z
      rw [z] at r1
      omega
    · rw [if_neg q]
      exact hW M c e1 e2 (yRk_f k0 R (decide_eq_false q))
  · refine w_47_8 ?_
    rw [e1 4 (by decide) (by decide), if_neg (by omega)]
    exact h M c e1 e2 R
end RK
