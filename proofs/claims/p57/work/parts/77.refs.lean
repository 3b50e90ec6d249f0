/-! ===== the reference, in the midst of a tape ===== -/
def yTq (m : ZN) (T : Int → Int) (n : Int) : Prop := zr m 236 7 = n ∧ (0 ≤ n ∧ n ≤ 250) ∧ ∀ j, 0 ≤ j → j < n → zr m 251 j = T j ∧ 0 ≤ T j ∧ T j ≤ 255
def yRs (m M : ZN) (n s N : Int) (kd sg sd tf : Int → Int) (tg : Int) : Prop :=
  (∀ b, b ≠ 236 → b ≠ 254 → b ≠ 255 → b ≠ 256 → b ≠ 268 → zr M b = zr m b) ∧ (∀ j, j ≠ 35 → j ≠ 36 → j ≠ 37 → j ≠ 39 → zr M 236 j = zr m 236 j)
  ∧ (zr M 236 35 = s ∧ 0 ≤ s ∧ s ≤ n) ∧ zr M 236 36 = -1 ∧ (zr M 236 37 = N ∧ 0 ≤ N ∧ N ≤ 1000) ∧ zr M 236 39 = tg ∧ (∀ k, 0 ≤ k → k < 8 → zr M 268 k = tf k)
  ∧ ∀ i, 0 ≤ i → i < N → i < 24 → zr M 254 i = kd i ∧ zr M 255 i = sg i ∧ ∀ k, 0 ≤ k → k < 8 → zr M 256 (8 * i + k) = sd (8 * i + k)
/-- the reference behind a fault at q -/
def yRf (m M : ZN) (c0 q : Int) : Prop :=
  (∀ b, b ≠ 236 → b ≠ 254 → b ≠ 255 → b ≠ 256 → b ≠ 268 → zr M b = zr m b) ∧ (∀ j, j ≠ 35 → j ≠ 36 → j ≠ 37 → j ≠ 39 → zr M 236 j = zr m 236 j)
  ∧ (zr M 236 36 = q ∧ 0 ≤ q) ∧ (∀ j, 35 ≤ j → j ≤ 35 → 0 ≤ zr M 236 j ∧ zr M 236 j ≤ 250) ∧ ∀ i, 0 ≤ i → i < c0 → zr M 254 i = zr m 254 i ∧ zr M 255 i = zr m 255 i ∧ ∀ k, 0 ≤ k → k < 8 → zr M 256 (8 * i + k) = zr m 256 (8 * i + k)
section YR
variable {d : Nat} {m M : ZN} {T : Int → Int} {n c0 s N : Int} {kd sg sd tf : Int → Int} {tg : Int}
theorem yRs.w (R : yRs m M n s N kd sg sd tf tg) {v : Int} (v0 : 0 ≤ v) (v1 : v ≤ n) : yRs m (zsn M 236 35 v) n v N kd sg sd tf tg := by
  obtain ⟨r1, r2, r3, r4, r5, r6, r7, r8⟩ := R
  refine ⟨fun b b0 b1 b2 b3 b4 => by rw [yfc b0]; exact r1 b b0 b1 b2 b3 b4, fun j j0 j1 j2 j3 => by rw [yr_so j0]; exact r2 j j0 j1 j2 j3, ⟨yr_ss (znp_o rfl), v0, v1⟩, by rw [yr_so (by decide)]; exact r4, by rw [yr_so (by decide)]; exact r5, by rw [yr_so (by decide)]; exact r6, by rw [yfc (by decide)]; exact r7, by rw [yfc (by decide), yfc (by decide), yfc (by decide)]; exact r8⟩
theorem yRs.t (R : yRs m M n s N kd sg sd tf tg) (k v : Int) : yRs m (zsn M 268 k v) n s N kd sg sd (yup tf k v) tg := by
  have np : ∀ j, znp' 268 j = true := ynl rfl
  obtain ⟨r1, r2, r3, r4, r5, r6, r7, r8⟩ := R
  refine ⟨fun b b0 b1 b2 b3 b4 => by rw [yfc b4]; exact r1 b b0 b1 b2 b3 b4, by rw [yfc (by decide)]; exact r2, by rw [yfc (by decide)]; exact r3, by rw [yfc (by decide)]; exact r4, by rw [yfc (by decide)]; exact r5, by rw [yfc (by decide)]; exact r6, fun j j0 j1 => ?_, by rw [yfc (by decide), yfc (by decide), yfc (by decide)]; exact r8⟩
  rw [yr_sa (np _)]
  by_cases q : j = k
  · rw [if_pos q, q, yup_n]
  · rw [if_neg q]; exact (r7 j j0 j1).trans (if_neg q).symm
theorem yRs.g (R : yRs m M n s N kd sg sd tf tg) (v : Int) : yRs m (zsn M 236 39 v) n s N kd sg sd tf v := by
  obtain ⟨r1, r2, r3, r4, r5, r6, r7, r8⟩ := R
  exact ⟨fun b b0 b1 b2 b3 b4 => by rw [yfc b0]; exact r1 b b0 b1 b2 b3 b4, fun j j0 j1 j2 j3 => by rw [yr_so j3]; exact r2 j j0 j1 j2 j3, by rw [yr_so (by decide)]; exact r3, by rw [yr_so (by decide)]; exact r4, by rw [yr_so (by decide)]; exact r5, yr_ss (znp_o rfl), by rw [yfc (by decide)]; exact r7, by rw [yfc (by decide), yfc (by decide), yfc (by decide)]; exact r8⟩
theorem yRs.c (R : yRs m M n s N kd sg sd tf tg) {tf' : Int → Int} (h : ∀ k, 0 ≤ k → k < 8 → tf k = tf' k) : yRs m M n s N kd sg sd tf' tg := by
  obtain ⟨r1, r2, r3, r4, r5, r6, r7, r8⟩ := R
  exact ⟨r1, r2, r3, r4, r5, r6, fun k k0 k1 => (r7 k k0 k1).trans (h k k0 k1), r8⟩
theorem yRs.f (R : yRs m M n s N kd sg sd tf tg) (hP : yPu m c0 N kd sg sd) (hn : n ≤ 250) : yRf m (zsn M 236 36 s) c0 s := by
  obtain ⟨r1, r2, r3, r4, r5, r6, r7, r8⟩ := R
  obtain ⟨p1, p2, p3⟩ := hP
  refine ⟨fun b b0 b1 b2 b3 b4 => by rw [yfc b0]; exact r1 b b0 b1 b2 b3 b4, fun j j0 j1 j2 j3 => by rw [yr_so j1]; exact r2 j j0 j1 j2 j3, ⟨yr_ss (znp_o rfl), r3.2.1⟩, fun j j0 j1 => by rw [yr_so (by omega), show j = 35 by omega]; omega, fun i i0 i1 => ?_⟩
  have a := r8 i i0 (by omega) (by omega)
  have b := p2 i i0 i1
  rw [yfc (by decide), yfc (by decide), yfc (by decide)]
  exact ⟨a.1.trans b.1, a.2.1.trans b.2.1, fun k k0 k1 => (a.2.2 k k0 k1).trans (b.2.2 k k0 k1)⟩
theorem r_234 {K : Int → ZN → Prop} (Q : yTq m T n) (R : yRs m M n s N kd sg sd tf tg) (h : ∀ M', yRs m M' n (ytx T n s) N kd sg sd tf tg → K (ylt T n s) M') : zcI d 234 [zA 236] M K := by
  obtain ⟨Q1, Q2, Q3⟩ := Q
  have e7 : ∀ {M' : ZN} {s'}, yRs m M' n s' N kd sg sd tf tg → zr M' 236 7 = n := fun R => by rw [R.2.1 7 (by decide) (by decide) (by decide) (by decide)]; exact Q1
  have e251 : ∀ {M' : ZN} {s'}, yRs m M' n s' N kd sg sd tf tg → ∀ j, 0 ≤ j → j < n → zr M' 251 j = T j := fun R j j0 j1 => by rw [R.1 251 (by decide) (by decide) (by decide) (by decide) (by decide)]; exact (Q3 j j0 j1).1
  have key : ∀ k : Nat, ∀ (M' : ZN) s', s' + k = n → yRs m M' n s' N kd sg sd tf tg → ytx T n s' = ytx T n s → zwpN d 234 0 [some (zA 236)] [] M' (zPI K) := by
    intro k
    induction k with
    | zero =>
      intro M' s' hk R' hx
      have hp : ytx T n s = n := by rw [← hx, ytx_e (by omega)]; omega
      refine w_234_0 ?_
      rw [R'.2.2.1.1, e7 R', if_neg (by omega), if_neg (by omega)]
      have e : s' = n := by omega
      rw [e] at R'
      have g := h M' (by rw [hp]; exact R')
      unfold ylt at g
      rw [if_neg (by omega)] at g
      exact g
    | succ k ih =>
      intro M' s' hk R' hx
      have h3 := R'.2.2.1
      refine w_234_0 ?_
      rw [h3.1, e7 R', if_pos (by omega), yck_of (by omega), e251 R' s' h3.2.1 (by omega)]
      by_cases q : T s' = 32
      · rw [if_pos q, yb_id (by omega) (by omega)]
        exact ih _ (s' + 1) (by omega) (R'.w (by omega) (by omega)) (by rw [← ytx_b (by omega) q]; exact hx)
      · rw [if_neg q, if_pos (by omega), yck_of (by omega)]
        have hp : ytx T n s = s' := by rw [← hx, ytx_s (by omega) q]
        have g := h M' (by rw [hp]; exact R')
        unfold ylt at g
        rw [hp, if_pos (by omega)] at g
        exact g
  have h3 := R.2.2.1
  refine w_234 ?_
  by_cases q0 : s < n
  · rw [h3.1, e7 R, if_pos (by omega), yck_of (by omega), e251 R s h3.2.1 (by omega)]
    by_cases q : T s = 32
    · rw [if_pos q, yb_id (by omega) (by omega)]
      exact key (n - (s + 1)).toNat _ (s + 1) (by omega) (R.w (by omega) (by omega)) (ytx_b (by omega) q).symm
    · rw [if_neg q, if_pos (by omega), yck_of (by omega)]
      have hp : ytx T n s = s := ytx_s (by omega) q
      have g := h M (by rw [hp]; exact R)
      unfold ylt at g
      rw [hp, if_pos (by omega)] at g
      exact g
  · have hp : ytx T n s = s := ytx_e (by omega)
    rw [h3.1, e7 R, if_neg (by omega), if_neg (by omega)]
    have g := h M (by rw [hp]; exact R)
    unfold ylt at g
    rw [hp, if_neg (by omega)] at g
    exact g
theorem r_236 {K : Int → ZN → Prop} (R : yRs m M n s N kd sg sd tf tg) (hP : yPu m c0 N kd sg sd) (hn : n ≤ 250) (h : ∀ M', yRf m M' c0 s → K 0 M') : zcI d 236 [zA 236] M K := by
  refine w_236 ?_
  rw [R.2.2.2.1, if_pos rfl, R.2.2.1.1]
  exact h _ (R.f hP hn)
/-- the letter at a place that is no blank -/
def ylq (T : Int → Int) (n q : Int) : Int := if q < n then T q else -1
def ynq (T : Int → Int) (n q : Int) : Int := ytx T n (q + 1)
theorem ylt_q {T : Int → Int} {n s : Int} : ylt T n s = ylq T n (ytx T n s) := rfl
theorem ylq_r {T : Int → Int} {n q : Int} (Q : yTq m T n) (q0 : 0 ≤ q) (q1 : q ≤ n) : -1 ≤ ylq T n q ∧ ylq T n q ≤ 255 ∧ (ylq T n q ≠ -1 → q < n ∧ T q = ylq T n q) ∧ (ylq T n q = -1 → q = n) := by
  unfold ylq
  by_cases z : q < n
  · rw [if_pos z]
    have := Q.2.2 q q0 z
    exact ⟨by omega, by omega, fun _ => ⟨z, rfl⟩, fun y => by omega⟩
  · rw [if_neg z]
    exact ⟨by omega, by omega, fun y => by omega, fun _ => by omega⟩
/-- sees, and the letter is there -/
theorem r_235 {x : Int} {K : Int → ZN → Prop} (Q : yTq m T n) (R : yRs m M n s N kd sg sd tf tg) (hx : x ≠ -1) (h : ∀ M', (ylq T n (ytx T n s) = x → yRs m M' n (ytx T n s + 1) N kd sg sd tf tg → K 1 M') ∧ (ylq T n (ytx T n s) ≠ x → yRs m M' n (ytx T n s) N kd sg sd tf tg → K 0 M')) : zcI (d + 1) 235 [zA 236, zI x] M K := by
  have h3 := R.2.2.1
  have rx := ytx_r (T := T) h3.2.2
  refine w_235 ?_
  rw [R.2.2.2.1, if_pos rfl]
  refine r_234 Q R (fun M1 R1 => ?_)
  have rl := ylq_r (m := m) (q := ytx T n s) Q (by omega) rx.2.1
  rw [ylt_q, R1.2.2.1.1]
  have hn := Q.2.1
  by_cases q : ylq T n (ytx T n s) = x
  · have a := rl.2.2.1 (by omega)
    rw [if_pos q, if_neg (by decide), yck_of (by decide), show zb (ytx T n s + 1) = ytx T n s + 1 from yb_id (by omega) (by omega)]
    exact (h _).1 q (R1.w (by omega) (by omega))
  · rw [if_neg q, if_pos rfl, yck_of (by decide), show zb (ytx T n s + 0) = ytx T n s from by rw [yb_id (by omega) (by omega)]; omega]
    exact (h _).2 q (R1.w (by omega) (by omega))
/-- number -/
theorem r_239 {lo hi : Int} {K : Int → ZN → Prop} (Q : yTq m T n) (R : yRs m M n s N kd sg sd tf tg) (hP : yPu m c0 N kd sg sd) (l0 : 0 ≤ lo) (l1 : lo ≤ 9) (h0 : -1 ≤ hi) (h1 : hi ≤ 9) (h : ∀ M', (48 + lo ≤ ylq T n (ytx T n s) ∧ ylq T n (ytx T n s) ≤ 48 + hi → yRs m M' n (ytx T n s + 1) N kd sg sd tf tg → K (ylq T n (ytx T n s) - 48) M') ∧ (¬ (48 + lo ≤ ylq T n (ytx T n s) ∧ ylq T n (ytx T n s) ≤ 48 + hi) → yRf m M' c0 (ytx T n s) → K 0 M')) : zcI (d + 1) 239 [zA 236, zI lo, zI hi] M K := by
  have h3 := R.2.2.1
  have rx := ytx_r (T := T) h3.2.2
  have hn := Q.2.1
  refine w_239 ?_
  rw [R.2.2.2.1, if_pos rfl]
  refine r_234 Q R (fun M1 R1 => ?_)
  have rl := ylq_r (m := m) (q := ytx T n s) Q (by omega) rx.2.1
  rw [ylt_q, c_192, show zb (48 + lo) = 48 + lo from yb_id (by omega) (by omega), show zb (48 + hi) = 48 + hi from yb_id (by omega) (by omega)]
  by_cases q : 48 + lo ≤ ylq T n (ytx T n s) ∧ ylq T n (ytx T n s) ≤ 48 + hi
  · have a := rl.2.2.1 (by omega)
    rw [if_pos q, if_neg (by decide), R1.2.2.1.1, yck_of (by omega), yr_sc (by decide), R1.1 251 (by decide) (by decide) (by decide) (by decide) (by decide), (Q.2.2 _ (by omega) a.1).1, a.2, show zb (ytx T n s + 1) = ytx T n s + 1 from yb_id (by omega) (by omega), show zb (ylq T n (ytx T n s) - 48) = ylq T n (ytx T n s) - 48 from yb_id (by omega) (by omega)]
    exact (h _).1 q (R1.w (by omega) (by omega))
  · rw [if_neg q, if_pos rfl]
    exact r_236 R1 hP hn.2 (fun M' F => (h M').2 q F)
/-- signHere -/
theorem r_240 {K : ZN → Prop} (Q : yTq m T n) (R : yRs m M n s N kd sg sd tf tg) (hP : yPu m c0 N kd sg sd) (h : ∀ M', (ysg (ylq T n (ytx T n s)) ≠ -1 → yRs m M' n (ytx T n s + 1) N kd sg sd tf (ysg (ylq T n (ytx T n s))) → K M') ∧ (ysg (ylq T n (ytx T n s)) = -1 → yRf m M' c0 (ytx T n s) → K M')) : zcV (d + 1) 240 [zA 236] M K := by
  have h3 := R.2.2.1
  have rx := ytx_r (T := T) h3.2.2
  have hn := Q.2.1
  refine w_240 ?_
  rw [R.2.2.2.1, if_pos rfl]
  refine r_234 Q R (fun M1 R1 => ?_)
  have rl := ylq_r (m := m) (q := ytx T n s) Q (by omega) rx.2.1
  have v238 : ∀ (x : Int) K', zcI d 238 [zI x] M1 K' = K' (ysg x) M1 := fun x K' => by
    refine zcI_eq (w_238 ?_) K'
    unfold ysg
    by_cases q0 : x = 60
    · rw [if_pos q0, if_pos q0]; exact ⟨rfl, rfl⟩
    · rw [if_neg q0, if_neg q0]
      by_cases q1 : x = 61
      · rw [if_pos q1, if_pos q1]; exact ⟨rfl, rfl⟩
      · rw [if_neg q1, if_neg q1]
        by_cases q2 : x = 62
        · rw [if_pos q2, if_pos q2]; exact ⟨rfl, rfl⟩
        · rw [if_neg q2, if_neg q2]
          by_cases q3 : x = 126
          · rw [if_pos q3, if_pos q3]; exact ⟨rfl, rfl⟩
          · rw [if_neg q3, if_neg q3]; exact ⟨rfl, rfl⟩
  rw [ylt_q, v238]
  have R2 := R1.g (ysg (ylq T n (ytx T n s)))
  rw [R2.2.2.2.2.2.1]
  by_cases q : ysg (ylq T n (ytx T n s)) = -1
  · rw [if_pos q]
    exact r_236 R2 hP hn.2 (fun M' F => (h M').2 q F)
  · have a : ylq T n (ytx T n s) ≠ -1 := fun z => q (by rw [z]; rfl)
    have a := rl.2.2.1 a
    rw [if_neg q, R2.2.2.1.1, show zb (ytx T n s + 1) = ytx T n s + 1 from yb_id (by omega) (by omega)]
    exact (h _).1 q (R2.w (by omega) (by omega))
/-- make -/
theorem r_232 {k : Int} {K : Int → ZN → Prop} (R : yRs m M n s N kd sg sd tf tg) (hN : N < 1000) (h : ∀ M', yRs m M' n s (N + 1) (yup kd N k) (yup sg N tg) (yus sd N tf) tf tg → K N M') : zcI d 232 [zA 236, zI k] M K := by
  obtain ⟨r1, r2, r3, r4, r5, r6, r7, r8⟩ := R
  by_cases q : N < 24
  · rw [c_232 r5.1 r5.2.1 q]
    obtain ⟨s1, s2, s3, s4, s5, s6⟩ := ymk_r (m := M) (N := N) (kd := k) r6 r7
    refine h _ ⟨fun b b0 b1 b2 b3 b4 => by rw [s1 b (by omega)]; exact r1 b b0 b1 b2 b3 b4, fun j j0 j1 j2 j3 => by rw [s2 j j2]; exact r2 j j0 j1 j2 j3, by rw [s2 35 (by decide)]; exact r3, by rw [s2 36 (by decide)]; exact r4, ⟨s3, by omega, by omega⟩, by rw [s2 39 (by decide)]; exact r6, by rw [s1 268 (by omega)]; exact r7, fun i i0 i1 i2 => ?_⟩
    rw [s4, s5, s6]
    by_cases z : i = N
    · subst z
      rw [yup_n, yup_n, yup_n, yup_n]
      exact ⟨rfl, rfl, fun p p0 p1 => by rw [yus_n p0 p1, yus_n p0 p1]⟩
    · have a := r8 i i0 (by omega) i2
      rw [yup_o (by omega), yup_o (by omega), yup_o (by omega), yup_o (by omega)]
      exact ⟨a.1, a.2.1, fun p p0 p1 => by rw [yus_o (by omega) p1, yus_o (by omega) p1]; exact a.2.2 p p0 p1⟩
  · rw [c_232f r5.1 (by omega) (by omega)]
    refine h _ ⟨fun b b0 b1 b2 b3 b4 => by rw [yfc b0]; exact r1 b b0 b1 b2 b3 b4, fun j j0 j1 j2 j3 => by rw [yr_so j2]; exact r2 j j0 j1 j2 j3, by rw [yr_so (by decide)]; exact r3, by rw [yr_so (by decide)]; exact r4, ⟨yr_ss (znp_o rfl), by omega, by omega⟩, by rw [yr_so (by decide)]; exact r6, by rw [yfc (by decide)]; exact r7, fun i i0 i1 i2 => ?_⟩
    have a := r8 i i0 (by omega) i2
    rw [yfc (by decide), yfc (by decide), yfc (by decide), yup_o (by omega), yup_o (by omega)]
    exact ⟨a.1, a.2.1, fun p p0 p1 => by rw [yus_o (by omega) p1]; exact a.2.2 p p0 p1⟩
/-- clearTold -/
theorem r_231 {K : ZN → Prop} (R : yRs m M n s N kd sg sd tf tg) (h : ∀ M', yRs m M' n s N kd sg sd (fun _ => -1) (-1) → K M') : zcV d 231 [zA 236] M K := by
  have np : ∀ j, znp' 268 j = true := ynl rfl
  rw [c_231]
  obtain ⟨r1, r2, r3, r4, r5, r6, r7, r8⟩ := R.g (-1)
  refine h _ ⟨fun b b0 b1 b2 b3 b4 => by rw [yfcc b4]; exact r1 b b0 b1 b2 b3 b4, by rw [yfcc (by decide)]; exact r2, by rw [yfcc (by decide)]; exact r3, by rw [yfcc (by decide)]; exact r4, by rw [yfcc (by decide)]; exact r5, by rw [yfcc (by decide)]; exact r6, fun k k0 k1 => by rw [yr_cs (np _), if_pos ⟨k0, k1⟩], by rw [yfcc (by decide), yfcc (by decide), yfcc (by decide)]; exact r8⟩
/-- makeOver -/
theorem r_233 {k x y : Int} {K : Int → ZN → Prop} (R : yRs m M n s N kd sg sd tf tg) (hN : N < 1000) (h : ∀ M' tf' tg', yRs m M' n s (N + 1) (yup kd N k) (yup sg N (-1)) (yus sd N (yov x y)) tf' tg' → K N M') : zcI (d + 1) 233 [zA 236, zI k, zI x, zI y] M K := by
  refine w_233 (r_231 R (fun M1 R1 => ?_))
  rw [yck_of (by decide), yck_of (by decide)]
  refine r_232 ((R1.t 0 x).t 1 y) hN (fun M2 R2 => h M2 (yup (yup (fun _ => -1) 0 x) 1 y) (-1) ?_)
  have e : yus sd N (yup (yup (fun _ => -1) 0 x) 1 y) = yus sd N (yov x y) := yus_c (fun k k0 k1 => by
    unfold yup yov
    by_cases q1 : k = 1
    · rw [if_pos q1, if_neg (by omega), if_pos q1]
    · rw [if_neg q1]
      by_cases q0 : k = 0
      · rw [if_pos q0, if_pos q0]
      · rw [if_neg q0, if_neg q0, if_neg q1])
  rw [e] at R2
  exact R2
end YR
section YF
variable {d : Nat} {m M : ZN} {c0 q : Int}
theorem yRf.ch (F : yRf m M c0 q) {M' : ZN} (f : ∀ b, b ≠ 236 → b ≠ 268 → zr M' b = zr M b) (g : ∀ j, j ≠ 35 → j ≠ 39 → zr M' 236 j = zr M 236 j) (h : 0 ≤ zr M' 236 35 ∧ zr M' 236 35 ≤ 250) : yRf m M' c0 q := by
  obtain ⟨f1, f2, f3, f4, f5⟩ := F
  exact ⟨fun b b0 b1 b2 b3 b4 => by rw [f b b0 b4]; exact f1 b b0 b1 b2 b3 b4, fun j j0 j1 j2 j3 => by rw [g j j0 j3]; exact f2 j j0 j1 j2 j3, by rw [g 36 (by decide) (by decide)]; exact f3, fun j j0 j1 => by rw [show j = 35 by omega]; exact h, by rw [f 254 (by decide) (by decide), f 255 (by decide) (by decide), f 256 (by decide) (by decide)]; exact f5⟩
theorem yRf.t (F : yRf m M c0 q) (k v : Int) : yRf m (zsn M 268 k v) c0 q := F.ch (fun b _ b1 => by rw [yfc b1]) (fun j _ _ => by rw [yfc (by decide)]) (by rw [yfc (by decide)]; exact F.2.2.2.1 35 (by decide) (by decide))
theorem yRf.g (F : yRf m M c0 q) (v : Int) : yRf m (zsn M 236 39 v) c0 q := F.ch (fun b b0 _ => by rw [yfc b0]) (fun j _ j1 => by rw [yr_so j1]) (by rw [yr_so (by decide)]; exact F.2.2.2.1 35 (by decide) (by decide))
theorem f_236 {K : Int → ZN → Prop} (F : yRf m M c0 q) (h : ∀ M', yRf m M' c0 q → K 0 M') : zcI d 236 [zA 236] M K := by
  refine w_236 ?_
  have f3 := F.2.2.1
  rw [f3.1, if_neg (by omega)]
  obtain ⟨f1, f2, f3, f4, f5⟩ := F
  refine h _ ⟨fun b b0 b1 b2 b3 b4 => by rw [yfc b0]; exact f1 b b0 b1 b2 b3 b4, fun j j0 j1 j2 j3 => by rw [yr_so j1]; exact f2 j j0 j1 j2 j3, ⟨yr_ss (znp_o rfl), f3.2⟩, fun j j0 j1 => by rw [yr_so (by omega)]; exact f4 j j0 j1, by rw [yfc (by decide), yfc (by decide), yfc (by decide)]; exact f5⟩
theorem f_235 {x : Int} {K : Int → ZN → Prop} (F : yRf m M c0 q) (h : ∀ M', yRf m M' c0 q → K 0 M') : zcI (d + 1) 235 [zA 236, zI x] M K := by
  refine w_235 ?_
  have f3 := F.2.2.1
  have f4 := F.2.2.2.1 35 (by decide) (by decide)
  rw [f3.1, if_neg (by omega), if_pos rfl, yck_of (by decide), show zb (zr M 236 35 + 0) = zr M 236 35 from by rw [yb_id (by omega) (by omega)]; omega]
  exact h _ (F.ch (fun b b0 _ => by rw [yfc b0]) (fun j j0 _ => by rw [yr_so j0]) (by rw [yr_ss (znp_o rfl)]; exact f4))
theorem f_237 {x : Int} {K : ZN → Prop} (F : yRf m M c0 q) (h : K M) : zcV (d + 1) 237 [zA 236, zI x] M K := by
  refine w_237 ?_
  have f3 := F.2.2.1
  rw [f3.1, if_neg (by omega)]
  exact h
theorem f_239 {lo hi : Int} {K : Int → ZN → Prop} (F : yRf m M c0 q) (h : ∀ M', yRf m M' c0 q → K 0 M') : zcI (d + 1) 239 [zA 236, zI lo, zI hi] M K := by
  refine w_239 ?_
  have f3 := F.2.2.1
  rw [f3.1, if_neg (by omega)]
  exact f_236 F h
theorem f_240 {K : ZN → Prop} (F : yRf m M c0 q) (h : ∀ M', yRf m M' c0 q → K M') : zcV (d + 1) 240 [zA 236] M K := by
  refine w_240 ?_
  have f3 := F.2.2.1
  rw [f3.1, if_neg (by omega), yr_ss (znp_o rfl), if_pos rfl]
  exact f_236 (F.g (-1)) h
end YF
