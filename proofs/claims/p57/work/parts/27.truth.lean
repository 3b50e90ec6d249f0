/-! ===== what conditions are: contracts of the loops over keys and lines ===== -/
def yorN (p : Int → Bool) (f : Int → Int) : Nat → Int
  | 0 => 0
  | n + 1 => bif p n then zor (yorN p f n) (zshl 1 (f n)) else yorN p f n
def yors (p : Int → Bool) (f : Int → Int) (n : Int) : Int := yorN p f n.toNat
theorem yors_t {p : Int → Bool} {f : Int → Int} {n : Int} (h : 0 ≤ n) (q : p n = true) : yors p f (n + 1) = zor (yors p f n) (zshl 1 (f n)) := by
  obtain ⟨k, rfl⟩ := Int.eq_ofNat_of_zero_le h
  show (bif p k then _ else _) = _
  rw [q]
  rfl
theorem yors_f {p : Int → Bool} {f : Int → Int} {n : Int} (h : 0 ≤ n) (q : p n = false) : yors p f (n + 1) = yors p f n := by
  obtain ⟨k, rfl⟩ := Int.eq_ofNat_of_zero_le h
  show (bif p k then _ else _) = _
  rw [q]
  rfl
theorem yorN_r (p : Int → Bool) (f : Int → Int) : ∀ n, zi32 (yorN p f n)
  | 0 => (⟨by decide, by decide⟩ : zi32 0)
  | n + 1 => by
    unfold yorN
    cases p n
    · exact yorN_r p f n
    · exact zi32_r _
theorem yors_r (p : Int → Bool) (f : Int → Int) (n : Int) : zi32 (yors p f n) := yorN_r p f _
theorem yor0 {x : Int} (h : zi32 x) : zor x 0 = x := by
  unfold zor
  rw [show (Int32.ofInt x ||| Int32.ofInt 0) = Int32.ofInt x from by
    have : Int32.ofInt 0 = 0 := rfl
    rw [this, Int32.or_zero]]
  exact zi32_of x h
theorem yorN_c {p q : Int → Bool} {f g : Int → Int} (n : Nat) (h : ∀ i : Nat, i < n → p i = q i ∧ (p i = true → f i = g i)) : yorN p f n = yorN q g n := by
  induction n with
  | zero => rfl
  | succ n ih =>
    obtain ⟨h1, h2⟩ := h n (Nat.lt_succ_self n)
    show (bif p n then zor (yorN p f n) (zshl 1 (f n)) else yorN p f n) = (bif q n then zor (yorN q g n) (zshl 1 (g n)) else yorN q g n)
    rw [ih (fun i hi => h i (Nat.lt_succ_of_lt hi)), ← h1]
    cases e : p n with
    | false => show yorN q g n = yorN q g n; rfl
    | true => rw [h2 e]
theorem yors_c {p q : Int → Bool} {f g : Int → Int} {n : Int} (h : ∀ i, 0 ≤ i → i < n → p i = q i ∧ (p i = true → f i = g i)) : yors p f n = yors q g n := yorN_c _ (fun i hi => h i (by omega) (by omega))
theorem ydig_w {key c : Int} (h1 : 0 ≤ key) (h2 : key < 1000) (h3 : 0 ≤ c) (h4 : c ≤ 2) : key / ywg c % 10 = ydig key c := by
  have hc : c = 0 ∨ c = 1 ∨ c = 2 := by omega
  rcases hc with rfl | rfl | rfl
  · show key / 100 % 10 = key / 100; omega
  · rfl
  · show key / 1 % 10 = key % 10; omega
theorem ywg_p (c : Int) : 0 < ywg c ∧ ywg c ≤ 100 := by rcases ywg_r c with h | h | h <;> rw [h] <;> omega
section YT
variable {d : Nat} {m : ZN}
theorem c_188 {t key : Int} (h1 : 0 ≤ t) (h2 : t ≤ 5) (h3 : 0 ≤ key) (h4 : key < 1000) (K : Int → ZN → Prop) : zcI d 188 [zI t, zI key] m K = K (ypl t key) m := by
  have d0 := ydig_r (p := 0) h3 h4
  have d1 := ydig_r (p := 1) h3 h4
  have d2 := ydig_r (p := 2) h3 h4
  have e0 := ycat_r (j := 3 * t) (by omega) (by omega)
  have e1 := ycat_r (j := 3 * t + 1) (by omega) (by omega)
  have e2 := ycat_r (j := 3 * t + 2) (by omega) (by omega)
  have w0 := ywg_r (ycat (3 * t))
  have w1 := ywg_r (ycat (3 * t + 1))
  have w2 := ywg_r (ycat (3 * t + 2))
  have f0 : key / 100 = ydig key 0 := rfl
  have f1 : key / 10 % 10 = ydig key 1 := rfl
  have f2 : key % 10 = ydig key 2 := rfl
  have b0 : 0 ≤ ydig key 0 * ywg (ycat (3 * t)) ∧ ydig key 0 * ywg (ycat (3 * t)) ≤ 900 := by rcases w0 with w | w | w <;> rw [w] <;> omega
  have b1 : 0 ≤ ydig key 1 * ywg (ycat (3 * t + 1)) ∧ ydig key 1 * ywg (ycat (3 * t + 1)) ≤ 900 := by rcases w1 with w | w | w <;> rw [w] <;> omega
  have b2 : 0 ≤ ydig key 2 * ywg (ycat (3 * t + 2)) ∧ ydig key 2 * ywg (ycat (3 * t + 2)) ≤ 900 := by rcases w2 with w | w | w <;> rw [w] <;> omega
  refine zcI_eq (w_188 ?_) K
  simp (disch := first | trivial | assumption | omega | exact ynl rfl _ | exact znp_o rfl | rfl | (simp (disch := first | decide | omega) only [yfc, yr_so, yr_ss, yfcc, yr_cs]; first | assumption | omega)) only [yck_of, yb_id, yPI_some, yPJ_some, yPA_some, yPV_none, yfc, yr_so, yr_ss, yfcc, yr_cs, ybif_t, yrd_1, yrd_2, Int.tdiv_eq_ediv_of_nonneg, Int.tmod_eq_emod_of_nonneg, f0, f1, f2, and_true]
  rfl
theorem c_18 {a t : Int} (hc : isC a) (K : Int → ZN → Prop) : zcI (d + 2) 18 [zA a, zI t] m K = K (ycnt (fun p => decide (yTw (zr m (a + 1)) p = t)) 1000) m := by
  refine zcI_eq (w_18 ?_) K
  refine yfor (fun i => zwpN (d + 2) 18 4 [some (zA a), some (zI t), some (zI (ycnt (fun p => decide (yTw (zr m (a + 1)) p = t)) i)), some (zI i)] [] m _) 0 1000 (by decide) (fun i i0 i1 hW => ?_) ?_
  · refine w_18_4 ?_
    have hr := ycnt_r (fun p => decide (yTw (zr m (a + 1)) p = t)) i0
    simp (disch := first | trivial | assumption | omega | exact ynl rfl _ | exact znp_o rfl | rfl | (simp (disch := first | decide | omega) only [yfc, yr_so, yr_ss, yfcc, yr_cs]; first | assumption | omega)) only [yck_of, yb_id, yPI_some, yPJ_some, yPA_some, yPV_none, yfc, yr_so, yr_ss, yfcc, yr_cs, ybif_t, yrd_1, yrd_2, isC_pos, isC_O, isC_t, isC_c, isC_w, isC_f, isC_I1, isC_01, isC_I2, isC_I3, isC_02, isC_03, isC_n1, isC_n2, isC_n3, isC_r1, isC_r2, isC_r3, isC_np, isC_np1, isC_np2, isC_np3, Bool.true_or, Bool.and_true, Bool.true_and, cond_true, ↓c_319, ↓if_pos]
    by_cases q : yTw (zr m (a + 1)) i = t
    · rw [if_pos q, ← ycnt_t (p := fun p => decide (yTw (zr m (a + 1)) p = t)) i0 (decide_eq_true q)]
      exact hW
    · rw [if_neg q, ← ycnt_f (p := fun p => decide (yTw (zr m (a + 1)) p = t)) i0 (decide_eq_false q)]
      exact hW
  · refine w_18_4 ?_
    rw [if_neg (by decide)]
    exact ⟨rfl, rfl⟩
theorem c_267 {c t : Int} (h1 : 0 ≤ c) (h2 : c < 24) (K : Int → ZN → Prop) : zcI (d + 1) 267 [zA 236, zI c, zI t] m K = K (ycnt (fun p => decide (zr m 261 (1000 * c + p) = t)) 1000) m := by
  refine zcI_eq (w_267 ?_) K
  refine yfor (fun i => zwpN (d + 1) 267 5 [some (zA 236), some (zI c), some (zI t), some (zI (ycnt (fun p => decide (zr m 261 (1000 * c + p) = t)) i)), some (zI i)] [] m _) 0 1000 (by decide) (fun i i0 i1 hW => ?_) ?_
  · refine w_267_5 ?_
    have hr := ycnt_r (fun p => decide (zr m 261 (1000 * c + p) = t)) i0
    simp (disch := first | trivial | assumption | omega | exact ynl rfl _ | exact znp_o rfl | rfl | (simp (disch := first | decide | omega) only [yfc, yr_so, yr_ss, yfcc, yr_cs]; first | assumption | omega)) only [yck_of, yb_id, yPI_some, yPJ_some, yPA_some, yPV_none, yfc, yr_so, yr_ss, yfcc, yr_cs, ybif_t, yrd_1, yrd_2, ↓c_211, ↓if_pos, Int.add_zero]
    by_cases q : zr m 261 (1000 * c + i) = t
    · rw [if_pos q, ← ycnt_t (p := fun p => decide (zr m 261 (1000 * c + p) = t)) i0 (decide_eq_true q)]
      exact hW
    · rw [if_neg q, ← ycnt_f (p := fun p => decide (zr m 261 (1000 * c + p) = t)) i0 (decide_eq_false q)]
      exact hW
  · refine w_267_5 ?_
    rw [if_neg (by decide)]
    exact ⟨rfl, rfl⟩
theorem c_271 {i c : Int} (h1 : 0 ≤ i) (h2 : i < 24) (K : Int → ZN → Prop) : zcI (d + 1) 271 [zA 236, zI i, zI c] m K = K (yors (fun p => decide (zr m 261 (1000 * i + p) = 1)) (fun p => ydig p c) 1000) m := by
  refine zcI_eq (w_271 ?_) K
  refine yfor (fun k => zwpN (d + 1) 271 5 [some (zA 236), some (zI i), some (zI c), some (zI (yors (fun p => decide (zr m 261 (1000 * i + p) = 1)) (fun p => ydig p c) k)), some (zI k)] [] m _) 0 1000 (by decide) (fun k i0 i1 hW => ?_) ?_
  · refine w_271_5 ?_
    simp (disch := first | trivial | assumption | omega | exact ynl rfl _ | exact znp_o rfl | rfl | (simp (disch := first | decide | omega) only [yfc, yr_so, yr_ss, yfcc, yr_cs]; first | assumption | omega)) only [yck_of, yb_id, yPI_some, yPJ_some, yPA_some, yPV_none, yfc, yr_so, yr_ss, yfcc, yr_cs, ybif_t, yrd_1, yrd_2, ↓c_211, ↓c_207, ↓if_pos, yor0 (yors_r _ _ _)]
    by_cases q : zr m 261 (1000 * i + k) = 1
    · rw [if_pos q, ← yors_t (p := fun p => decide (zr m 261 (1000 * i + p) = 1)) (f := fun p => ydig p c) i0 (decide_eq_true q)]
      exact hW
    · rw [if_neg q, ← yors_f (p := fun p => decide (zr m 261 (1000 * i + p) = 1)) (f := fun p => ydig p c) i0 (decide_eq_false q)]
      exact hW
  · refine w_271_5 ?_
    rw [if_neg (by decide)]
    exact ⟨rfl, rfl⟩
theorem c_20 {a b : Int} (ha : isC a) (hb : isC b) (K : Int → ZN → Prop) : zcI (d + 2) 20 [zA a, zA b] m K = K (yfnd (fun p => decide (yTw (zr m (a + 1)) p ≠ yTw (zr m (b + 1)) p)) 0 1000) m := by
  refine zcI_eq (w_20 ?_) K
  refine yfor (fun i => yfnd (fun p => decide (yTw (zr m (a + 1)) p ≠ yTw (zr m (b + 1)) p)) i 1000 = yfnd (fun p => decide (yTw (zr m (a + 1)) p ≠ yTw (zr m (b + 1)) p)) 0 1000 → zwpN (d + 2) 20 2 [some (zA a), some (zA b), some (zI i)] [] m _) 0 1000 (by decide) (fun i i0 i1 hW hr => ?_) (fun hr => ?_) rfl
  · refine w_20_2 ?_
    simp (disch := first | trivial | assumption | omega | exact ynl rfl _ | exact znp_o rfl | rfl | (simp (disch := first | decide | omega) only [yfc, yr_so, yr_ss, yfcc, yr_cs]; first | assumption | omega)) only [yck_of, yb_id, yPI_some, yPJ_some, yPA_some, yPV_none, yfc, yr_so, yr_ss, yfcc, yr_cs, ybif_t, yrd_1, yrd_2, isC_pos, isC_O, isC_t, isC_c, isC_w, isC_f, isC_I1, isC_01, isC_I2, isC_I3, isC_02, isC_03, isC_n1, isC_n2, isC_n3, isC_r1, isC_r2, isC_r3, isC_np, isC_np1, isC_np2, isC_np3, Bool.true_or, Bool.and_true, Bool.true_and, cond_true, ↓c_319, ↓if_pos]
    by_cases q : yTw (zr m (a + 1)) i = yTw (zr m (b + 1)) i
    · rw [if_pos q]
      refine hW ?_
      rw [← hr, yfnd_f (p := fun p => decide (yTw (zr m (a + 1)) p ≠ yTw (zr m (b + 1)) p)) i1 (decide_eq_false (fun h => h q))]
    · rw [if_neg q]
      refine ⟨?_, trivial⟩
      rw [← hr, yfnd_t (p := fun p => decide (yTw (zr m (a + 1)) p ≠ yTw (zr m (b + 1)) p)) i1 (decide_eq_true q)]
  · refine w_20_2 ?_
    rw [if_neg (by decide)]
    exact ⟨by rw [← hr, yfnd_e (by decide)], rfl⟩
theorem c_299 {a b : Int} (a1 : 0 ≤ a) (a2 : a < 24) (b1 : 0 ≤ b) (b2 : b < 24) (K : Int → ZN → Prop) : zcI (d + 1) 299 [zA 236, zI a, zI b] m K = K (yfnd (fun p => decide (zr m 261 (1000 * a + p) ≠ zr m 261 (1000 * b + p))) 0 1000) m := by
  refine zcI_eq (w_299 ?_) K
  refine yfor (fun i => yfnd (fun p => decide (zr m 261 (1000 * a + p) ≠ zr m 261 (1000 * b + p))) i 1000 = yfnd (fun p => decide (zr m 261 (1000 * a + p) ≠ zr m 261 (1000 * b + p))) 0 1000 → zwpN (d + 1) 299 2 [some (zA 236), some (zI a), some (zI b), some (zI i)] [] m _) 0 1000 (by decide) (fun i i0 i1 hW hr => ?_) (fun hr => ?_) rfl
  · refine w_299_2 ?_
    simp (disch := first | trivial | assumption | omega | exact ynl rfl _ | exact znp_o rfl | rfl | (simp (disch := first | decide | omega) only [yfc, yr_so, yr_ss, yfcc, yr_cs]; first | assumption | omega)) only [yck_of, yb_id, yPI_some, yPJ_some, yPA_some, yPV_none, yfc, yr_so, yr_ss, yfcc, yr_cs, ybif_t, yrd_1, yrd_2, ↓c_211, ↓if_pos]
    by_cases q : zr m 261 (1000 * a + i) = zr m 261 (1000 * b + i)
    · rw [if_pos q]
      refine hW ?_
      rw [← hr, yfnd_f (p := fun p => decide (zr m 261 (1000 * a + p) ≠ zr m 261 (1000 * b + p))) i1 (decide_eq_false (fun h => h q))]
    · rw [if_neg q]
      refine ⟨?_, trivial⟩
      rw [← hr, yfnd_t (p := fun p => decide (zr m 261 (1000 * a + p) ≠ zr m 261 (1000 * b + p))) i1 (decide_eq_true q)]
  · refine w_299_2 ?_
    rw [if_neg (by decide)]
    exact ⟨by rw [← hr, yfnd_e (by decide)], rfl⟩
theorem c_40 {a n : Int} (ha : isC a) (h1 : 0 ≤ n) (h2 : n < zr m 4 1) (h6 : zr m 4 1 ≤ 60) (hv : ∀ j, 0 ≤ j → j < 3 * zr m 4 1 → 0 ≤ zr m 5 j ∧ zr m 5 j ≤ 9) (K : Int → ZN → Prop) : zcI (d + 2) 40 [zA 4, zA a, zI n] m K = K (yTw (zr m (a + 1)) (yk3 (zr m 5) n 0)) m := by
  have hk := yk3_r (t := 0) h1 h2 (by decide) (by decide) hv
  refine zcI_eq (w_40 ?_) K
  simp (disch := first | trivial | assumption | omega | exact ynl rfl _ | exact znp_o rfl | rfl | (simp (disch := first | decide | omega) only [yfc, yr_so, yr_ss, yfcc, yr_cs]; first | assumption | omega)) only [yck_of, yb_id, yPI_some, yPJ_some, yPA_some, yPV_none, yfc, yr_so, yr_ss, yfcc, yr_cs, ybif_t, yrd_1, yrd_2, isC_pos, isC_O, isC_t, isC_c, isC_w, isC_f, isC_I1, isC_01, isC_I2, isC_I3, isC_02, isC_03, isC_n1, isC_n2, isC_n3, isC_r1, isC_r2, isC_r3, isC_np, isC_np1, isC_np2, isC_np3, Bool.true_or, Bool.and_true, Bool.true_and, cond_true, ↓c_39, ↓c_319, and_self]
theorem c_212 {i n c : Int} (i1 : 0 ≤ i) (i2 : i < 24) (h1 : 0 ≤ n) (h2 : n < c) (h6 : c ≤ 60) (hv : ∀ j, 0 ≤ j → j < 3 * c → 0 ≤ zr m 253 j ∧ zr m 253 j ≤ 9) (K : Int → ZN → Prop) : zcI (d + 2) 212 [zA 236, zI i, zI n] m K = K (zr m 261 (1000 * i + yk3 (zr m 253) n 0)) m := by
  have hk := yk3_r (t := 0) h1 h2 (by decide) (by decide) hv
  refine zcI_eq (w_212 ?_) K
  simp (disch := first | trivial | assumption | omega | exact ynl rfl _ | exact znp_o rfl | rfl | (simp (disch := first | decide | omega) only [yfc, yr_so, yr_ss, yfcc, yr_cs]; first | assumption | omega)) only [yck_of, yb_id, yPI_some, yPJ_some, yPA_some, yPV_none, yfc, yr_so, yr_ss, yfcc, yr_cs, ybif_t, yrd_1, yrd_2, ↓c_210 (c := c), ↓c_211, and_self]
theorem c_41 {a t : Int} (ha : isC a) (h5 : 0 ≤ zr m 4 1) (h6 : zr m 4 1 ≤ 60) (hv : ∀ j, 0 ≤ j → j < 3 * zr m 4 1 → 0 ≤ zr m 5 j ∧ zr m 5 j ≤ 9) (K : Int → ZN → Prop) : zcI (d + 3) 41 [zA 4, zA a, zI t] m K = K (ycnt (fun n => decide (yTw (zr m (a + 1)) (yk3 (zr m 5) n 0) = t)) (zr m 4 1)) m := by
  refine zcI_eq (w_41 ?_) K
  refine yfor (fun i => zwpN (d + 3) 41 5 [some (zA 4), some (zA a), some (zI t), some (zI (ycnt (fun n => decide (yTw (zr m (a + 1)) (yk3 (zr m 5) n 0) = t)) i)), some (zI i)] [] m _) 0 (zr m 4 1) h5 (fun i i0 i1 hW => ?_) ?_
  · refine w_41_5 ?_
    have hr := ycnt_r (fun n => decide (yTw (zr m (a + 1)) (yk3 (zr m 5) n 0) = t)) i0
    simp (disch := first | trivial | assumption | omega | exact ynl rfl _ | exact znp_o rfl | rfl | (simp (disch := first | decide | omega) only [yfc, yr_so, yr_ss, yfcc, yr_cs]; first | assumption | omega)) only [yck_of, yb_id, yPI_some, yPJ_some, yPA_some, yPV_none, yfc, yr_so, yr_ss, yfcc, yr_cs, ybif_t, yrd_1, yrd_2, isC_pos, isC_O, isC_t, isC_c, isC_w, isC_f, isC_I1, isC_01, isC_I2, isC_I3, isC_02, isC_03, isC_n1, isC_n2, isC_n3, isC_r1, isC_r2, isC_r3, isC_np, isC_np1, isC_np2, isC_np3, Bool.true_or, Bool.and_true, Bool.true_and, cond_true, ↓c_40, ↓if_pos]
    by_cases q : yTw (zr m (a + 1)) (yk3 (zr m 5) i 0) = t
    · rw [if_pos q, ← ycnt_t (p := fun n => decide (yTw (zr m (a + 1)) (yk3 (zr m 5) n 0) = t)) i0 (decide_eq_true q)]
      exact hW
    · rw [if_neg q, ← ycnt_f (p := fun n => decide (yTw (zr m (a + 1)) (yk3 (zr m 5) n 0) = t)) i0 (decide_eq_false q)]
      exact hW
  · refine w_41_5 ?_
    rw [if_neg (by omega)]
    exact ⟨rfl, rfl⟩
theorem c_269 {c t : Int} (i1 : 0 ≤ c) (i2 : c < 24) (h5 : 0 ≤ zr m 236 9) (h6 : zr m 236 9 ≤ 60) (hv : ∀ j, 0 ≤ j → j < 3 * zr m 236 9 → 0 ≤ zr m 253 j ∧ zr m 253 j ≤ 9) (K : Int → ZN → Prop) : zcI (d + 3) 269 [zA 236, zI c, zI t] m K = K (ycnt (fun n => decide (zr m 261 (1000 * c + yk3 (zr m 253) n 0) = t)) (zr m 236 9)) m := by
  refine zcI_eq (w_269 ?_) K
  refine yfor (fun i => zwpN (d + 3) 269 5 [some (zA 236), some (zI c), some (zI t), some (zI (ycnt (fun n => decide (zr m 261 (1000 * c + yk3 (zr m 253) n 0) = t)) i)), some (zI i)] [] m _) 0 (zr m 236 9) h5 (fun i i0 i1 hW => ?_) ?_
  · refine w_269_5 ?_
    have hr := ycnt_r (fun n => decide (zr m 261 (1000 * c + yk3 (zr m 253) n 0) = t)) i0
    simp (disch := first | trivial | assumption | omega | exact ynl rfl _ | exact znp_o rfl | rfl | (simp (disch := first | decide | omega) only [yfc, yr_so, yr_ss, yfcc, yr_cs]; first | assumption | omega)) only [yck_of, yb_id, yPI_some, yPJ_some, yPA_some, yPV_none, yfc, yr_so, yr_ss, yfcc, yr_cs, ybif_t, yrd_1, yrd_2, ↓c_212 (c := zr m 236 9), ↓if_pos, Int.add_zero]
    by_cases q : zr m 261 (1000 * c + yk3 (zr m 253) i 0) = t
    · rw [if_pos q, ← ycnt_t (p := fun n => decide (zr m 261 (1000 * c + yk3 (zr m 253) n 0) = t)) i0 (decide_eq_true q)]
      exact hW
    · rw [if_neg q, ← ycnt_f (p := fun n => decide (zr m 261 (1000 * c + yk3 (zr m 253) n 0) = t)) i0 (decide_eq_false q)]
      exact hW
  · refine w_269_5 ?_
    rw [if_neg (by omega)]
    exact ⟨rfl, rfl⟩
theorem c_42 {c v : Int} (h1 : 0 ≤ c) (h2 : c ≤ 2) (h5 : 0 ≤ zr m 4 1) (h6 : zr m 4 1 ≤ 60) (K : Int → ZN → Prop) : zcI (d + 1) 42 [zA 4, zI c, zI v] m K = K (ycnt (fun n => decide (zr m 5 (3 * n + c) = v)) (zr m 4 1)) m := by
  refine zcI_eq (w_42 ?_) K
  refine yfor (fun i => zwpN (d + 1) 42 5 [some (zA 4), some (zI c), some (zI v), some (zI (ycnt (fun n => decide (zr m 5 (3 * n + c) = v)) i)), some (zI i)] [] m _) 0 (zr m 4 1) h5 (fun i i0 i1 hW => ?_) ?_
  · refine w_42_5 ?_
    have hr := ycnt_r (fun n => decide (zr m 5 (3 * n + c) = v)) i0
    simp (disch := first | trivial | assumption | omega | exact ynl rfl _ | exact znp_o rfl | rfl | (simp (disch := first | decide | omega) only [yfc, yr_so, yr_ss, yfcc, yr_cs]; first | assumption | omega)) only [yck_of, yb_id, yPI_some, yPJ_some, yPA_some, yPV_none, yfc, yr_so, yr_ss, yfcc, yr_cs, ybif_t, yrd_1, yrd_2, ↓c_34, ↓if_pos]
    by_cases q : zr m 5 (3 * i + c) = v
    · rw [if_pos q, ← ycnt_t (p := fun n => decide (zr m 5 (3 * n + c) = v)) i0 (decide_eq_true q)]
      exact hW
    · rw [if_neg q, ← ycnt_f (p := fun n => decide (zr m 5 (3 * n + c) = v)) i0 (decide_eq_false q)]
      exact hW
  · refine w_42_5 ?_
    rw [if_neg (by omega)]
    exact ⟨rfl, rfl⟩
end YT
