/-! ===== a tape that is read ===== -/
def ytxN (T : Int → Int) : Nat → Int → Int
  | 0, i => i
  | k + 1, i => if T i = 32 then ytxN T k (i + 1) else i
/-- the next place behind blanks -/
def ytx (T : Int → Int) (n i : Int) : Int := ytxN T (n - i).toNat i
theorem ytx_e {T : Int → Int} {n i : Int} (h : n ≤ i) : ytx T n i = i := by unfold ytx; rw [show (n - i).toNat = 0 by omega]; rfl
theorem ytx_b {T : Int → Int} {n i : Int} (h : i < n) (q : T i = 32) : ytx T n i = ytx T n (i + 1) := by
  unfold ytx
  rw [show (n - i).toNat = (n - (i + 1)).toNat + 1 by omega]
  show (if T i = 32 then _ else _) = _
  rw [if_pos q]
theorem ytx_s {T : Int → Int} {n i : Int} (h : i < n) (q : T i ≠ 32) : ytx T n i = i := by
  unfold ytx
  rw [show (n - i).toNat = (n - (i + 1)).toNat + 1 by omega]
  show (if T i = 32 then _ else _) = _
  rw [if_neg q]
theorem ytx_k {T : Int → Int} {n : Int} : ∀ (k : Nat) (i : Int), i + k = n → i ≤ ytx T n i ∧ ytx T n i ≤ n ∧ (ytx T n i < n → T (ytx T n i) ≠ 32) ∧ ∀ j, i ≤ j → j < ytx T n i → T j = 32 := by
  intro k
  induction k with
  | zero => intro i h; rw [ytx_e (by omega)]; exact ⟨by omega, by omega, fun z => by omega, fun j j0 j1 => by omega⟩
  | succ k ih =>
    intro i h
    by_cases q : T i = 32
    · rw [ytx_b (by omega) q]
      obtain ⟨a, b, c, e⟩ := ih (i + 1) (by omega)
      refine ⟨by omega, b, c, fun j j0 j1 => ?_⟩
      by_cases z : j = i
      · rw [z]; exact q
      · exact e j (by omega) j1
    · rw [ytx_s (by omega) q]
      exact ⟨by omega, by omega, fun _ => q, fun j j0 j1 => by omega⟩
theorem ytx_r {T : Int → Int} {n i : Int} (h : i ≤ n) : i ≤ ytx T n i ∧ ytx T n i ≤ n ∧ (ytx T n i < n → T (ytx T n i) ≠ 32) ∧ ∀ j, i ≤ j → j < ytx T n i → T j = 32 := ytx_k (n - i).toNat i (by omega)
theorem ytx_i {T : Int → Int} {n i : Int} (h : i ≤ n) : ytx T n (ytx T n i) = ytx T n i := by
  have r := ytx_r (T := T) h
  rcases Int.lt_or_le (ytx T n i) n with q | q
  · exact ytx_s q (r.2.2.1 q)
  · exact ytx_e q
/-- the letter there; -1: none -/
def ylt (T : Int → Int) (n p : Int) : Int := if ytx T n p < n then T (ytx T n p) else -1
theorem ylt_i {T : Int → Int} {n i : Int} (h : i ≤ n) : ylt T n (ytx T n i) = ylt T n i := by unfold ylt; rw [ytx_i h]
/-- the tape T of n letters, read from p on -/
def yTp (m : ZN) (T : Int → Int) (n p : Int) : Prop := zr m 216 1 = n ∧ zr m 216 2 = p ∧ (0 ≤ p ∧ p ≤ n ∧ n ≤ 250) ∧ (∀ j, 0 ≤ j → j < n → zr m 217 j = T j) ∧ ∀ j, 0 ≤ j → j < n → 0 ≤ T j ∧ T j ≤ 255
/-- only the place has changed -/
def yfT (m M : ZN) : Prop := ∀ b j, (b ≠ 216 ∨ j ≠ 2) → zr M b j = zr m b j
theorem yfT.refl (m : ZN) : yfT m m := fun _ _ _ => rfl
theorem yfT.trans {m m1 m2 : ZN} (h1 : yfT m m1) (h2 : yfT m1 m2) : yfT m m2 := fun b j h => (h2 b j h).trans (h1 b j h)
theorem yfT.sc {m M : ZN} (h : yfT m M) : ySc m M := fun a j q => h a j (by unfold yscr at q; omega)
theorem yfT.fn {m M : ZN} (h : yfT m M) {a : Int} (q : a ≠ 216) : zr M a = zr m a := funext fun j => h a j (Or.inl q)
theorem yfT.sn (m : ZN) (v : Int) : yfT m (zsn m 216 2 v) := fun b j h => by rw [zr_zsn, if_neg (fun z => by have := z.1; omega)]
theorem yTp.mv {m M : ZN} {T : Int → Int} {n p q : Int} (I : yTp m T n p) (h : yfT m M) (hq : zr M 216 2 = q) (q0 : 0 ≤ q) (q1 : q ≤ n) : yTp M T n q := by
  obtain ⟨h1, h2, h3, h4, h5⟩ := I
  exact ⟨by rw [h 216 1 (by omega)]; exact h1, hq, ⟨q0, q1, h3.2.2⟩, fun j j0 j1 => by rw [h 217 j (by omega)]; exact h4 j j0 j1, h5⟩
theorem ylt_r {m : ZN} {T : Int → Int} {n p : Int} (I : yTp m T n p) : -1 ≤ ylt T n p ∧ ylt T n p ≤ 255 ∧ (ylt T n p ≠ -1 → ytx T n p < n ∧ T (ytx T n p) = ylt T n p) ∧ (ylt T n p = -1 → ytx T n p = n) := by
  obtain ⟨h1, h2, h3, h4, h5⟩ := I
  have r := ytx_r (T := T) h3.2.1
  unfold ylt
  by_cases q : ytx T n p < n
  · rw [if_pos q]
    have := h5 _ (by omega) q
    exact ⟨by omega, by omega, fun _ => ⟨q, rfl⟩, fun z => by omega⟩
  · rw [if_neg q]
    exact ⟨by omega, by omega, fun z => by omega, fun _ => by omega⟩
section TP
variable {d : Nat} {m : ZN}
theorem c_108 {T : Int → Int} {n p : Int} {K : Int → ZN → Prop} (I : yTp m T n p) (h : ∀ M, yfT m M → yTp M T n (ytx T n p) → K (ylt T n p) M) : zcI d 108 [zA 216] m K := by
  have key : ∀ k : Nat, ∀ (M : ZN) p', p' + k = n → yfT m M → yTp M T n p' → ytx T n p' = ytx T n p → zwpN d 108 0 [some (zA 216)] [] M (zPI K) := by
    intro k
    induction k with
    | zero =>
      intro M p' hk f I' hx
      have hp : ytx T n p = n := by rw [← hx, ytx_e (by omega)]; omega
      refine w_108_0 ?_
      have e : p' = n := by omega
      rw [e] at I'
      rw [I'.2.1, I'.1, if_neg (by omega), if_neg (by omega)]
      have g := h M f (by rw [hp]; exact I')
      unfold ylt at g
      rw [if_neg (by omega)] at g
      exact g
    | succ k ih =>
      intro M p' hk f I' hx
      obtain ⟨h1, h2, h3, h4, h5⟩ := I'
      have r5 := h5 p' h3.1 (by omega)
      refine w_108_0 ?_
      rw [h2, h1, if_pos (by omega), yck_of (by omega), h4 p' h3.1 (by omega)]
      by_cases q : T p' = 32
      · rw [if_pos q, yb_id (by omega) (by omega)]
        exact ih _ (p' + 1) (by omega) (f.trans (yfT.sn _ _)) (yTp.mv ⟨h1, h2, h3, h4, h5⟩ (yfT.sn _ _) (yr_ss (znp_o rfl)) (by omega) (by omega)) (by rw [← ytx_b (by omega) q]; exact hx)
      · rw [if_neg q, if_pos (by omega), yck_of (by omega)]
        have hp : ytx T n p = p' := by rw [← hx, ytx_s (by omega) q]
        have g := h M f (by rw [hp]; exact ⟨h1, h2, h3, h4, h5⟩)
        unfold ylt at g
        rw [hp, if_pos (by omega)] at g
        exact g
  have I0 := I
  obtain ⟨h1, h2, h3, h4, h5⟩ := I
  refine w_108 ?_
  by_cases q0 : p < n
  · have r5 := h5 p h3.1 (by omega)
    rw [h2, h1, if_pos (by omega), yck_of (by omega), h4 p h3.1 (by omega)]
    by_cases q : T p = 32
    · rw [if_pos q, yb_id (by omega) (by omega)]
      exact key (n - (p + 1)).toNat _ (p + 1) (by omega) (yfT.sn _ _) (yTp.mv I0 (yfT.sn _ _) (yr_ss (znp_o rfl)) (by omega) (by omega)) (ytx_b (by omega) q).symm
    · rw [if_neg q, if_pos (by omega), yck_of (by omega)]
      have hp : ytx T n p = p := ytx_s (by omega) q
      have g := h m (yfT.refl m) (by rw [hp]; exact I0)
      unfold ylt at g
      rw [hp, if_pos (by omega)] at g
      exact g
  · have hp : ytx T n p = p := ytx_e (by omega)
    rw [h2, h1, if_neg (by omega), if_neg (by omega)]
    have g := h m (yfT.refl m) (by rw [hp]; exact I0)
    unfold ylt at g
    rw [hp, if_neg (by omega)] at g
    exact g
theorem c_109 {T : Int → Int} {n p : Int} {K : ZN → Prop} (I : yTp m T n p) (hp : p < n) (h : ∀ M, yfT m M → yTp M T n (p + 1) → K M) : zcV d 109 [zA 216] m K := by
  refine w_109 ?_
  have hn := I.2.2.1
  rw [I.2.1, I.1, if_pos hp, yb_id (by omega) (by omega)]
  exact h _ (yfT.sn _ _) (I.mv (yfT.sn _ _) (yr_ss (znp_o rfl)) (by omega) (by omega))
theorem c_112 {T : Int → Int} {n p lo hi : Int} {K : Int → ZN → Prop} (I : yTp m T n p) (l0 : 0 ≤ lo) (l1 : lo ≤ 9) (h0 : -1 ≤ hi) (h1 : hi ≤ 9) (h : ∀ M, yfT m M → yTp M T n (ytx T n p) → K (if 48 + lo ≤ ylt T n p ∧ ylt T n p ≤ 48 + hi then ylt T n p - 48 else -1) M) : zcI (d + 1) 112 [zA 216, zI lo, zI hi] m K := by
  have r := ylt_r I
  refine w_112 (c_108 I (fun M f I' => ?_))
  have g := h M f I'
  rw [c_181, show zb (48 + lo) = 48 + lo from yb_id (by omega) (by omega), show zb (48 + hi) = 48 + hi from yb_id (by omega) (by omega)]
  by_cases q : 48 + lo ≤ ylt T n p ∧ ylt T n p ≤ 48 + hi
  · rw [if_pos q] at g ⊢
    rw [if_neg (by decide), yb_id (by omega) (by omega)]
    exact g
  · rw [if_neg q] at g ⊢
    rw [if_pos rfl]
    exact g
theorem c_110 {T : Int → Int} {n p : Int} {K : Int → ZN → Prop} (I : yTp m T n p) (h : ∀ M, yfT m M → yTp M T n (ytx T n p) → K (if 97 ≤ ylt T n p ∧ ylt T n p ≤ 99 then ylt T n p - 97 else -1) M) : zcI (d + 1) 110 [zA 216] m K := by
  have r := ylt_r I
  refine w_110 (c_108 I (fun M f I' => ?_))
  have g := h M f I'
  rw [c_181]
  by_cases q : 97 ≤ ylt T n p ∧ ylt T n p ≤ 99
  · rw [if_pos q] at g ⊢
    rw [if_neg (by decide), yb_id (by omega) (by omega)]
    exact g
  · rw [if_neg q] at g ⊢
    rw [if_pos rfl]
    exact g
/-- the sign of a letter -/
def ysg (x : Int) : Int := if x = 60 then 0 else if x = 61 then 1 else if x = 62 then 2 else if x = 126 then 3 else -1
theorem c_111 {T : Int → Int} {n p : Int} {K : Int → ZN → Prop} (I : yTp m T n p) (h : ∀ M, yfT m M → yTp M T n (ytx T n p) → K (ysg (ylt T n p)) M) : zcI (d + 1) 111 [zA 216] m K := by
  refine w_111 (c_108 I (fun M f I' => ?_))
  have g := h M f I'
  unfold ysg at g
  by_cases q0 : ylt T n p = 60
  · rw [if_pos q0] at g ⊢; exact g
  · rw [if_neg q0] at g ⊢
    by_cases q1 : ylt T n p = 61
    · rw [if_pos q1] at g ⊢; exact g
    · rw [if_neg q1] at g ⊢
      by_cases q2 : ylt T n p = 62
      · rw [if_pos q2] at g ⊢; exact g
      · rw [if_neg q2] at g ⊢
        by_cases q3 : ylt T n p = 126
        · rw [if_pos q3] at g ⊢; exact g
        · rw [if_neg q3] at g ⊢; exact g
end TP
/-! ===== a table read ===== -/
def ycl (x : Int) : Bool := decide (x = 46 ∨ (49 ≤ x ∧ x ≤ 57))
def yvl (x : Int) : Int := if x = 46 then 0 else x - 48
def ytfN (T : Int → Int) (n : Int) : Nat → Int → Int → Int
  | 0, _, s => if s = 3 then -1 else n
  | k + 1, i, s => if T i = 32 then ytfN T n k (i + 1) s else if s = 3 then (if T i = 59 then ytfN T n k (i + 1) 0 else i) else (if ycl (T i) = true then ytfN T n k (i + 1) (s + 1) else i)
/-- the fault of a table from i on, s signs into a line -/
def ytf (T : Int → Int) (n i s : Int) : Int := ytfN T n (n - i).toNat i s
theorem ytf_e {T : Int → Int} {n i s : Int} (h : n ≤ i) : ytf T n i s = if s = 3 then -1 else n := by unfold ytf; rw [show (n - i).toNat = 0 by omega]; rfl
theorem ytf_c {T : Int → Int} {n i s : Int} (h : i < n) : ytf T n i s = if T i = 32 then ytf T n (i + 1) s else if s = 3 then (if T i = 59 then ytf T n (i + 1) 0 else i) else (if ycl (T i) = true then ytf T n (i + 1) (s + 1) else i) := by
  unfold ytf
  rw [show (n - i).toNat = (n - (i + 1)).toNat + 1 by omega]
  rfl
theorem ytf_k {T : Int → Int} {n s : Int} : ∀ (k : Nat) (i : Int), i + k = n → ytf T n i s = ytf T n (ytx T n i) s := by
  intro k
  induction k with
  | zero => intro i h; rw [ytx_e (by omega)]
  | succ k ih =>
    intro i h
    by_cases q : T i = 32
    · rw [ytx_b (by omega) q, ytf_c (by omega), if_pos q]; exact ih (i + 1) (by omega)
    · rw [ytx_s (by omega) q]
theorem ytf_n {T : Int → Int} {n i s : Int} (h : i ≤ n) : ytf T n i s = ytf T n (ytx T n i) s := ytf_k (n - i).toNat i (by omega)
/-- the values of the first p letters are held -/
def yTb (T : Int → Int) (M : ZN) (p : Int) : Prop := zr M 218 1 = ycnt (fun i => ycl (T i)) p ∧ ∀ i, 0 ≤ i → i < p → ycl (T i) = true → zr M 219 (ycnt (fun i => ycl (T i)) i) = yvl (T i)
theorem yTb_n {T : Int → Int} {M : ZN} {n p : Int} (h : yTb T M p) (p0 : 0 ≤ p) (p1 : p ≤ n) : yTb T M (ytx T n p) := by
  have r := ytx_r (T := T) p1
  have b : ∀ k, p ≤ k → k < ytx T n p → ycl (T k) = false := fun k k0 k1 => by
    rw [r.2.2.2 k k0 k1]; rfl
  refine ⟨by rw [ycnt_0b p0 r.1 b]; exact h.1, fun i i0 i1 hi => ?_⟩
  by_cases q : i < p
  · exact h.2 i i0 q hi
  · rw [b i (by omega) i1] at hi; cases hi
theorem ycnt_le {p : Int → Bool} {a b : Int} (a0 : 0 ≤ a) (ab : a ≤ b) : ycnt p a ≤ ycnt p b := by
  have key : ∀ k : Nat, ycnt p a ≤ ycnt p (a + k) := by
    intro k
    induction k with
    | zero => rw [show a + ((0 : Nat) : Int) = a by omega]; exact Int.le_refl _
    | succ k ih =>
      rw [show a + ((k + 1 : Nat) : Int) = a + k + 1 by omega, ycnt_s (by omega)]
      cases p (a + k)
      · show ycnt p a ≤ ycnt p (a + k) + 0
        omega
      · show ycnt p a ≤ ycnt p (a + k) + 1
        omega
  have := key (b - a).toNat
  rw [show a + (((b - a).toNat : Nat) : Int) = b by omega] at this
  exact this
/-- a value more -/
theorem yTb_s {T : Int → Int} {M : ZN} {q : Int} (h : yTb T M q) (q0 : 0 ≤ q) (q1 : q < 250) (hc : ycl (T q) = true) : yTb T (zsn (zsn M 219 (zr M 218 1) (yvl (T q))) 218 1 (zr M 218 1 + 1)) (q + 1) := by
  have n9 : ∀ j, znp' 219 j = true := ynl rfl
  refine ⟨by rw [yr_ss (znp_o rfl), h.1, ycnt_t q0 hc], fun i i0 i1 hi => ?_⟩
  rw [yr_sc (by decide), yr_sa (n9 _)]
  by_cases z : i = q
  · rw [z, if_pos h.1.symm]
  · have a : ycnt (fun i => ycl (T i)) (i + 1) = ycnt (fun i => ycl (T i)) i + 1 := ycnt_t i0 hi
    have b := ycnt_le (p := fun i => ycl (T i)) (show 0 ≤ i + 1 by omega) (show i + 1 ≤ q by omega)
    rw [if_neg (by rw [h.1]; omega)]
    exact h.2 i i0 (by omega) hi
section TB
variable {d : Nat} {m : ZN}
end TB
