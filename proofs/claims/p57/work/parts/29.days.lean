/-! ===== strike, copy, whatIf, days ===== -/
def yrem (v : Int → Int) (n c : Int) : Int → Int := fun j => if 3 * n ≤ j ∧ j < 3 * (c - 1) then v (j + 3) else v j
def yput (v : Int → Int) (n a b c : Int) : Int → Int := fun j => if j = 3 * n + 2 then c else if j = 3 * n + 1 then b else if j = 3 * n then a else v j
def ynx (s : Int) : Int := zb (zb (s * 1103515245) + 12345)
def yrnd (s n : Int) : Int := Int.tmod (zushr s 16) n
theorem yush (s : Int) : 0 ≤ zushr s 16 ∧ zushr s 16 ≤ 65535 := by
  unfold zushr
  generalize hx : ((Int32.ofInt s).toUInt32 >>> ((Int32.ofInt 16).toUInt32 &&& Int32.toUInt32 31)) = x
  have h : x.toNat < 65536 := by
    rw [← hx]
    have e : ((Int32.ofInt 16).toUInt32 &&& Int32.toUInt32 31) = 16 := by decide
    rw [e, UInt32.toNat_shiftRight]
    have h2 := (Int32.ofInt s).toUInt32.toNat_lt
    show (Int32.ofInt s).toUInt32.toNat >>> 16 < 65536
    rw [Nat.shiftRight_eq_div_pow]
    omega
  show 0 ≤ x.toBitVec.toInt ∧ x.toBitVec.toInt ≤ 65535
  have hx2 : x.toBitVec.toNat = x.toNat := rfl
  rw [BitVec.toInt_eq_toNat_of_lt (by rw [hx2]; omega), hx2]
  omega
theorem yrnd_r (s : Int) {n : Int} (h : 0 < n) : 0 ≤ yrnd s n ∧ yrnd s n < n := by
  unfold yrnd
  rw [Int.tmod_eq_emod_of_nonneg (yush s).1]
  exact ⟨Int.emod_nonneg _ (by omega), Int.emod_lt_of_pos _ h⟩
/-- the table in the class' cells, in the reference's -/
def yLM (m : ZN) (v : Int → Int) (c s : Int) : ZN := zsn (zsn (zcc m 5 v) 4 1 c) 4 3 s
def yMM (m : ZN) (v : Int → Int) (c s : Int) : ZN := zsn (zsn (zcc m 253 v) 236 9 c) 236 12 s
theorem yLM_ext {m M : ZN} {v : Int → Int} {c s : Int} (h : ∀ a j, a ≠ 5 → ¬ (a = 4 ∧ (j = 1 ∨ j = 3)) → zr M a j = zr m a j) (h5 : ∀ j, zr M 5 j = v j) (h1 : zr M 4 1 = c) (h3 : zr M 4 3 = s) : M = yLM m v c s := zN_ext fun a j => by
  have np : ∀ j, znp' 5 j = true := ynl rfl
  unfold yLM
  by_cases e5 : a = 5
  · subst e5
    rw [yr_sc (by decide), yr_sc (by decide), yr_cs (np j), h5]
  · by_cases e4 : a = 4
    · subst e4
      by_cases j3 : j = 3
      · subst j3
        rw [yr_ss rfl, h3]
      · rw [yr_so j3]
        by_cases j1 : j = 1
        · subst j1
          rw [yr_ss rfl, h1]
        · rw [yr_so j1, yr_cc (by decide), h _ _ e5 (by omega)]
    · rw [yr_sc e4, yr_sc e4, yr_cc e5, h _ _ e5 (by omega)]
theorem yMM_ext {m M : ZN} {v : Int → Int} {c s : Int} (h : ∀ a j, a ≠ 253 → ¬ (a = 236 ∧ (j = 9 ∨ j = 12)) → zr M a j = zr m a j) (h5 : ∀ j, zr M 253 j = v j) (h1 : zr M 236 9 = c) (h3 : zr M 236 12 = s) : M = yMM m v c s := zN_ext fun a j => by
  have np : ∀ j, znp' 253 j = true := ynl rfl
  unfold yMM
  by_cases e5 : a = 253
  · subst e5
    rw [yr_sc (by decide), yr_sc (by decide), yr_cs (np j), h5]
  · by_cases e4 : a = 236
    · subst e4
      by_cases j3 : j = 12
      · subst j3
        rw [yr_ss rfl, h3]
      · rw [yr_so j3]
        by_cases j1 : j = 9
        · subst j1
          rw [yr_ss rfl, h1]
        · rw [yr_so j1, yr_cc (by decide), h _ _ e5 (by omega)]
    · rw [yr_sc e4, yr_sc e4, yr_cc e5, h _ _ e5 (by omega)]
theorem yLM_id (m : ZN) : m = yLM m (zr m 5) (zr m 4 1) (zr m 4 3) := yLM_ext (fun _ _ _ _ => rfl) (fun _ => rfl) rfl rfl
theorem yMM_id (m : ZN) : m = yMM m (zr m 253) (zr m 236 9) (zr m 236 12) := yMM_ext (fun _ _ _ _ => rfl) (fun _ => rfl) rfl rfl
theorem yLM_5 (m : ZN) (v : Int → Int) (c s : Int) : zr (yLM m v c s) 5 = v := funext fun j => by
  unfold yLM
  rw [yr_sc (by decide), yr_sc (by decide), yr_cs (ynl rfl j)]
theorem yLM_1 (m : ZN) (v : Int → Int) (c s : Int) : zr (yLM m v c s) 4 1 = c := by
  unfold yLM
  rw [yr_so (by decide), yr_ss rfl]
theorem yLM_3 (m : ZN) (v : Int → Int) (c s : Int) : zr (yLM m v c s) 4 3 = s := by
  unfold yLM
  rw [yr_ss rfl]
theorem yLM_o (m : ZN) (v : Int → Int) (c s : Int) {a j : Int} (h5 : a ≠ 5) (h4 : ¬ (a = 4 ∧ (j = 1 ∨ j = 3))) : zr (yLM m v c s) a j = zr m a j := by
  unfold yLM
  by_cases e4 : a = 4
  · subst e4
    rw [yr_so (by omega), yr_so (by omega), yr_cc h5]
  · rw [yr_sc e4, yr_sc e4, yr_cc h5]
theorem yMM_5 (m : ZN) (v : Int → Int) (c s : Int) : zr (yMM m v c s) 253 = v := funext fun j => by
  unfold yMM
  rw [yr_sc (by decide), yr_sc (by decide), yr_cs (ynl rfl j)]
theorem yMM_1 (m : ZN) (v : Int → Int) (c s : Int) : zr (yMM m v c s) 236 9 = c := by
  unfold yMM
  rw [yr_so (by decide), yr_ss rfl]
theorem yMM_3 (m : ZN) (v : Int → Int) (c s : Int) : zr (yMM m v c s) 236 12 = s := by
  unfold yMM
  rw [yr_ss rfl]
theorem yMM_o (m : ZN) (v : Int → Int) (c s : Int) {a j : Int} (h5 : a ≠ 253) (h4 : ¬ (a = 236 ∧ (j = 9 ∨ j = 12))) : zr (yMM m v c s) a j = zr m a j := by
  unfold yMM
  by_cases e4 : a = 236
  · subst e4
    rw [yr_so (by omega), yr_so (by omega), yr_cc h5]
  · rw [yr_sc e4, yr_sc e4, yr_cc h5]
/-- one day -/
def yD1 (v : Int → Int) (c s : Int) : (Int → Int) × Int × Int :=
  if c < 60 then (yput v c (yrnd (ynx s) 10) (yrnd (ynx (ynx s)) 10) (yrnd (ynx (ynx (ynx s))) 10), c + 1, ynx (ynx (ynx s)))
  else (yput v (yrnd (ynx (ynx (ynx (ynx s)))) 60) (yrnd (ynx s) 10) (yrnd (ynx (ynx s)) 10) (yrnd (ynx (ynx (ynx s))) 10), c, ynx (ynx (ynx (ynx s))))
def yD2 (t : (Int → Int) × Int × Int) : (Int → Int) × Int × Int :=
  if yrnd (ynx t.2.2) 8 = 0 then (yrem t.1 (yrnd (ynx (ynx t.2.2)) t.2.1) t.2.1, t.2.1 - 1, ynx (ynx t.2.2)) else (t.1, t.2.1, ynx t.2.2)
def yDay (t : (Int → Int) × Int × Int) : (Int → Int) × Int × Int := yD2 (yD1 t.1 t.2.1 t.2.2)
theorem yD1_c {v : Int → Int} {c s : Int} (h1 : 0 ≤ c) (h2 : c ≤ 60) : 1 ≤ (yD1 v c s).2.1 ∧ (yD1 v c s).2.1 ≤ 60 := by
  unfold yD1
  split
  · exact ⟨by show 1 ≤ c + 1; omega, by show c + 1 ≤ 60; omega⟩
  · exact ⟨by show 1 ≤ c; omega, h2⟩
theorem yDay_c {t : (Int → Int) × Int × Int} (h1 : 0 ≤ t.2.1) (h2 : t.2.1 ≤ 60) : 0 ≤ (yDay t).2.1 ∧ (yDay t).2.1 ≤ 60 := by
  have h := yD1_c (v := t.1) (s := t.2.2) h1 h2
  unfold yDay yD2
  split
  · exact ⟨by show 0 ≤ (yD1 t.1 t.2.1 t.2.2).2.1 - 1; omega, by show (yD1 t.1 t.2.1 t.2.2).2.1 - 1 ≤ 60; omega⟩
  · exact ⟨by show 0 ≤ (yD1 t.1 t.2.1 t.2.2).2.1; omega, h.2⟩
theorem ynx_r (s : Int) : zi32 (ynx s) := zb_r _
theorem yDay_s (t : (Int → Int) × Int × Int) : zi32 (yDay t).2.2 := by
  unfold yDay yD2
  split
  · exact ynx_r _
  · exact ynx_r _
/-- two tables that agree, with values in range -/
def yAg (v v' : Int → Int) (c : Int) : Prop := ∀ j, 0 ≤ j → j < 3 * c → v j = v' j ∧ 0 ≤ v j ∧ v j ≤ 9
theorem yAg_put {v v' : Int → Int} {c n a b e c' : Int} (h : yAg v v' c) (hn : 0 ≤ n) (hc : c' ≤ c ∨ (n = c ∧ c' = c + 1)) (ha : 0 ≤ a ∧ a < 10) (hb : 0 ≤ b ∧ b < 10) (he : 0 ≤ e ∧ e < 10) : yAg (yput v n a b e) (yput v' n a b e) c' := by
  intro j j0 j1
  unfold yput
  by_cases q2 : j = 3 * n + 2
  · rw [if_pos q2, if_pos q2]; exact ⟨rfl, by omega⟩
  · rw [if_neg q2, if_neg q2]
    by_cases q1 : j = 3 * n + 1
    · rw [if_pos q1, if_pos q1]; exact ⟨rfl, by omega⟩
    · rw [if_neg q1, if_neg q1]
      by_cases q0 : j = 3 * n
      · rw [if_pos q0, if_pos q0]; exact ⟨rfl, by omega⟩
      · rw [if_neg q0, if_neg q0]
        exact h j j0 (by omega)
theorem yAg_rem {v v' : Int → Int} {c n : Int} (h : yAg v v' c) (hn : 0 ≤ n) (hc : n < c) : yAg (yrem v n c) (yrem v' n c) (c - 1) := by
  intro j j0 j1
  unfold yrem
  by_cases q : 3 * n ≤ j ∧ j < 3 * (c - 1)
  · rw [if_pos q, if_pos q]; exact h _ (by omega) (by omega)
  · rw [if_neg q, if_neg q]; exact h _ (by omega) (by omega)
theorem yDay_ag {v v' : Int → Int} {c s : Int} (h : yAg v v' c) (h1 : 0 ≤ c) (h2 : c ≤ 60) : (yDay (v, c, s)).2 = (yDay (v', c, s)).2 ∧ yAg (yDay (v, c, s)).1 (yDay (v', c, s)).1 (yDay (v, c, s)).2.1 := by
  have r10 : ∀ s, 0 ≤ yrnd s 10 ∧ yrnd s 10 < 10 := fun s => yrnd_r s (by decide)
  have key : (yD1 v c s).2 = (yD1 v' c s).2 ∧ yAg (yD1 v c s).1 (yD1 v' c s).1 (yD1 v c s).2.1 := by
    unfold yD1
    by_cases q : c < 60
    · rw [if_pos q, if_pos q]
      exact ⟨rfl, yAg_put h h1 (Or.inr ⟨rfl, rfl⟩) (r10 _) (r10 _) (r10 _)⟩
    · rw [if_neg q, if_neg q]
      exact ⟨rfl, yAg_put h (yrnd_r _ (by decide)).1 (Or.inl (Int.le_refl _)) (r10 _) (r10 _) (r10 _)⟩
  have hc := yD1_c (v := v) (s := s) h1 h2
  obtain ⟨k1, k2⟩ := key
  unfold yDay yD2
  have r := yrnd_r (ynx (ynx (yD1 v c s).2.2)) (n := (yD1 v c s).2.1) (by omega)
  by_cases q : yrnd (ynx (yD1 v c s).2.2) 8 = 0
  · simp only [← k1, if_pos q]
    exact ⟨trivial, yAg_rem k2 r.1 r.2⟩
  · simp only [← k1, if_neg q]
    exact ⟨trivial, k2⟩
def yDaysN : Nat → (Int → Int) × Int × Int → (Int → Int) × Int × Int
  | 0, t => t
  | n + 1, t => yDay (yDaysN n t)
def yDays (n : Int) (t : (Int → Int) × Int × Int) : (Int → Int) × Int × Int := yDaysN n.toNat t
theorem yDays_s {n : Int} (h : 0 ≤ n) (t : (Int → Int) × Int × Int) : yDays (n + 1) t = yDay (yDays n t) := by
  obtain ⟨k, rfl⟩ := Int.eq_ofNat_of_zero_le h
  rfl
theorem yDays_ag {v v' : Int → Int} {c s : Int} (h : yAg v v' c) (h1 : 0 ≤ c) (h2 : c ≤ 60) (hs : zi32 s) (n : Nat) : (yDaysN n (v, c, s)).2 = (yDaysN n (v', c, s)).2 ∧ yAg (yDaysN n (v, c, s)).1 (yDaysN n (v', c, s)).1 (yDaysN n (v, c, s)).2.1 ∧ (0 ≤ (yDaysN n (v, c, s)).2.1 ∧ (yDaysN n (v, c, s)).2.1 ≤ 60) ∧ zi32 (yDaysN n (v, c, s)).2.2 := by
  induction n with
  | zero => exact ⟨rfl, h, ⟨h1, h2⟩, hs⟩
  | succ n ih =>
    obtain ⟨a1, a2, a3, a4⟩ := ih
    have e := yDay_ag (v := (yDaysN n (v, c, s)).1) (v' := (yDaysN n (v', c, s)).1) (c := (yDaysN n (v, c, s)).2.1) (s := (yDaysN n (v, c, s)).2.2) a2 a3.1 a3.2
    have e2 : ((yDaysN n (v', c, s)).1, (yDaysN n (v, c, s)).2.1, (yDaysN n (v, c, s)).2.2) = yDaysN n (v', c, s) := by rw [a1]
    rw [e2] at e
    exact ⟨e.1, e.2, yDay_c a3.1 a3.2, yDay_s _⟩
theorem yfcl {m : ZN} {a : Int} {F : Int → Int} (h : Nat.blt (zshF a).1 4 = true) : zr (zcc m a F) a = F := yfcs (ynl h)
section YD
variable {d : Nat} {m : ZN} {L : Int} {xs : Int → Int} {Q : Int → Int → ZN → Prop}
theorem c_38 {n : Int} (h1 : 0 ≤ n) (h2 : n < zr m 4 1) (h3 : zr m 4 1 ≤ 60) (K : ZN → Prop) : zcV (d + 2) 38 [zA 4, zI n] m K = K (zsn (zcc m 5 (yrem (zr m 5) n (zr m 4 1))) 4 1 (zr m 4 1 - 1)) := by
  refine zcV_eq (w_38 ?_) K
  simp (disch := first | trivial | assumption | omega | exact ynl rfl _ | exact znp_o rfl | rfl | (simp (disch := first | decide | omega) only [yfc, yr_so, yr_ss, yfcc, yr_cs]; first | assumption | omega)) only [yck_of, yb_id, yPI_some, yPJ_some, yPA_some, yPV_none, yfc, yr_so, yr_ss, yfcc, yr_cs, ybif_t, yrd_1, yrd_2, ↓c_33, ↓if_pos, ↓if_neg, ym3]
  rw [ycc_F (G := yrem (zr m 5) n (zr m 4 1)) (fun j => by
    unfold yrem
    by_cases q : 3 * n ≤ j ∧ j < 3 * (zr m 4 1 - 1)
    · rw [if_pos q, if_pos (by omega), show 3 * (n + 1) + (j - (3 * (n + 1) - 3)) = j + 3 by omega]
    · rw [if_neg q, if_neg (by omega)])]
theorem c_223 {n : Int} (h1 : 0 ≤ n) (h2 : n < zr m 236 9) (h3 : zr m 236 9 ≤ 60) (K : ZN → Prop) : zcV d 223 [zA 236, zI n] m K = K (zcc (zsn m 236 9 (zr m 236 9 - 1)) 253 (yrem (zr m 253) n (zr m 236 9))) := by
  have np : ∀ j, znp' 253 j = true := ynl rfl
  refine zcV_eq (w_223 ?_) K
  simp (disch := first | trivial | assumption | omega | exact ynl rfl _ | exact znp_o rfl | rfl | (simp (disch := first | decide | omega) only [yfc, yr_so, yr_ss, yfcc, yr_cs]; first | assumption | omega)) only [yck_of, yb_id, yPI_some, yPJ_some, yPA_some, yPV_none, yfc, yr_so, yr_ss, yfcc, yr_cs, ybif_t, yrd_1, yrd_2]
  have e0 : zsn m 236 9 (zr m 236 9 - 1) = zcc (zsn m 236 9 (zr m 236 9 - 1)) 253 (fun j => if 3 * n ≤ j ∧ j < 3 * n then zr m 253 (j + 3) else zr m 253 j) := by
    rw [ycc_F (G := zr (zsn m 236 9 (zr m 236 9 - 1)) 253) (fun j => by rw [if_neg (by omega), yr_sc (by decide)]), ycc_id np]
  have key := yfor (fun i => zwpN d 223 14 [some (zA 236), some (zI n), some (zI i)] [] (zcc (zsn m 236 9 (zr m 236 9 - 1)) 253 (fun j => if 3 * n ≤ j ∧ j < i then zr m 253 (j + 3) else zr m 253 j)) (zPV fun m1 => m1 = zcc (zsn m 236 9 (zr m 236 9 - 1)) 253 (yrem (zr m 253) n (zr m 236 9)))) (3 * n) (3 * (zr m 236 9 - 1)) (by omega) (fun i i0 i1 hW => ?_) ?_
  · rw [← e0] at key
    exact key
  · refine w_223_14 ?_
    simp (disch := first | trivial | assumption | omega | exact ynl rfl _ | exact znp_o rfl | rfl | (simp (disch := first | decide | omega) only [yfc, yr_so, yr_ss, yfcc, yr_cs]; first | assumption | omega)) only [yck_of, yb_id, yPI_some, yPJ_some, yPA_some, yPV_none, yfc, yr_so, yr_ss, yfcc, yr_cs, ybif_t, yrd_1, yrd_2, ↓if_pos]
    rw [if_neg (by omega), ycc_sn np, ycc_F (G := fun j => if 3 * n ≤ j ∧ j < i + 1 then zr m 253 (j + 3) else zr m 253 j) (fun j => by
      by_cases q : j = i
      · rw [if_pos q, if_pos (by omega), q]
      · rw [if_neg q]
        by_cases q2 : 3 * n ≤ j ∧ j < i
        · rw [if_pos q2, if_pos (by omega)]
        · rw [if_neg q2, if_neg (by omega)])]
    exact hW
  · refine w_223_14 ?_
    simp (disch := first | trivial | assumption | omega | exact ynl rfl _ | exact znp_o rfl | rfl | (simp (disch := first | decide | omega) only [yfc, yr_so, yr_ss, yfcc, yr_cs]; first | assumption | omega)) only [yck_of, yb_id, yPI_some, yPJ_some, yPA_some, yPV_none, yfc, yr_so, yr_ss, yfcc, yr_cs, ybif_t, yrd_1, yrd_2, ↓if_neg]
    rfl
theorem p_strike (I : yInv L xs m) (hQ : ∀ r m2, yInv L xs m2 → Q r r m2) (n : Int) : zcI (d + 9) 123 [zA 3, zI n] m (fun v1 m1 => zcI (d + 9) 224 [zA 236, zI n] m1 (fun v2 m2 => Q v1 v2 m2)) := by
  obtain ⟨l1, l2, l3, l4, l5, l6, l7⟩ := I.2.1
  refine w_123 ?_
  by_cases q1 : 0 ≤ n ∧ n < zr m 4 1
  · simp (disch := first | trivial | assumption | omega | exact ynl rfl _ | exact znp_o rfl | rfl | (simp (disch := first | decide | omega) only [yfc, yr_so, yr_ss, yfcc, yr_cs]; first | assumption | omega)) only [yck_of, yb_id, yPI_some, yPJ_some, yPA_some, yPV_none, yfc, yr_so, yr_ss, yfcc, yr_cs, ybif_t, yrd_1, yrd_2, ↓c_181, ↓c_182, ↓c_183, ↓c_184, ↓c_185, ↓c_186, ↓c_187, ↓c_73, ↓c_33, ↓c_23, ↓c_170, ↓c_168, ↓if_pos, ↓if_neg, yl_lt, yl_gt, yl_eq, ↓c_38]
    refine w_224 ?_
    simp (disch := first | trivial | assumption | omega | exact ynl rfl _ | exact znp_o rfl | rfl | (simp (disch := first | decide | omega) only [yfc, yr_so, yr_ss, yfcc, yr_cs]; first | assumption | omega)) only [yck_of, yb_id, yPI_some, yPJ_some, yPA_some, yPV_none, yfc, yr_so, yr_ss, yfcc, yr_cs, ybif_t, yrd_1, yrd_2, ↓c_192, ↓c_193, ↓c_194, ↓c_251, ↓c_264, ↓c_191, ↓if_pos, ↓if_neg, yl_lt, yl_gt, yl_eq, ↓c_194, ↓c_223]
    rw [← l1]
    refine hQ _ _ (yInv_L I (fun a ha => ?_) (fun j hj => ?_) ?_)
    · rw [yfcc (by omega), yfc (by omega), yfc (by omega), yfcc (by omega)]
    · rw [yr_cc (by decide), yr_so (by omega), yr_sc (by decide), yr_cc (by decide)]
    · simp (disch := first | trivial | assumption | omega | exact ynl rfl _ | exact znp_o rfl | rfl | (simp (disch := first | decide | omega) only [yfc, yr_so, yr_ss, yfcc, yr_cs]; first | assumption | omega)) only [yck_of, yb_id, yPI_some, yPJ_some, yPA_some, yPV_none, yfc, yr_so, yr_ss, yfcc, yr_cs, ybif_t, yrd_1, yrd_2]
      have e6 : zr (zcc (zsn (zsn (zcc m 5 (yrem (zr m 5) n (zr m 4 1))) 4 1 (zr m 4 1 - 1)) 236 9 (zr m 4 1 - 1)) 253 (yrem (zr m 253) n (zr m 4 1))) 253 = yrem (zr m 253) n (zr m 4 1) := yfcs (ynl rfl)
      rw [yfcs (m := m) (ynl rfl), e6]
      exact ⟨rfl, by omega, l3, l4, l5, l6, yAg_rem l7 q1.1 q1.2⟩
  · simp (disch := first | trivial | assumption | omega | exact ynl rfl _ | exact znp_o rfl | rfl | (simp (disch := first | decide | omega) only [yfc, yr_so, yr_ss, yfcc, yr_cs]; first | assumption | omega)) only [yck_of, yb_id, yPI_some, yPJ_some, yPA_some, yPV_none, yfc, yr_so, yr_ss, yfcc, yr_cs, ybif_t, yrd_1, yrd_2, ↓c_181, ↓c_182, ↓c_183, ↓c_184, ↓c_185, ↓c_186, ↓c_187, ↓c_73, ↓c_33, ↓c_23, ↓c_170, ↓c_168, ↓if_pos, ↓if_neg, yl_lt, yl_gt, yl_eq]
    (refine w_224 ?_; simp (disch := first | trivial | assumption | omega | exact ynl rfl _ | exact znp_o rfl | rfl | (simp (disch := first | decide | omega) only [yfc, yr_so, yr_ss, yfcc, yr_cs]; first | assumption | omega)) only [yck_of, yb_id, yPI_some, yPJ_some, yPA_some, yPV_none, yfc, yr_so, yr_ss, yfcc, yr_cs, ybif_t, yrd_1, yrd_2, ↓c_192, ↓c_193, ↓c_194, ↓c_251, ↓c_264, ↓c_191, ↓if_pos, ↓if_neg, yl_lt, yl_gt, yl_eq, ↓c_194]; exact p_ref (by decide) (by decide) I (hQ _))
/-- draws -/
theorem c_44 {n : Int} (h : 0 < n) (K : Int → ZN → Prop) : zcI d 44 [zA 4, zI n] m K = K (yrnd (ynx (zr m 4 3)) n) (zsn m 4 3 (ynx (zr m 4 3))) := by
  refine zcI_eq (w_44 ?_) K
  have e : zb (zb (zr m 4 3 * 1103515245) + 12345) = ynx (zr m 4 3) := rfl
  rw [e, if_pos h, yr_ss rfl, yck_of (by omega)]
  exact ⟨rfl, rfl⟩
theorem c_307 {n : Int} (h : 0 < n) (K : Int → ZN → Prop) : zcI d 307 [zA 236, zI n] m K = K (yrnd (ynx (zr m 236 12)) n) (zsn m 236 12 (ynx (zr m 236 12))) := by
  refine zcI_eq (w_307 ?_) K
  have e : zb (zb (zr m 236 12 * 1103515245) + 12345) = ynx (zr m 236 12) := rfl
  rw [e, yr_ss rfl, yck_of (by omega)]
  exact ⟨rfl, rfl⟩
end YD
