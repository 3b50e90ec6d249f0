/-! ===== pair: signs ===== -/
def yall (F : Int → Bool) (n : Int) : Bool := decide (ycnt (fun i => !F i) n = 0)
theorem yall_i {F : Int → Bool} {n : Int} (n0 : 0 ≤ n) : yall F n = true ↔ ∀ i, 0 ≤ i → i < n → F i = true := by
  unfold yall
  rw [decide_eq_true_eq]
  have := ycnt_z (p := fun i => !F i) n.toNat
  rw [show ((n.toNat : Nat) : Int) = n by omega] at this
  rw [this]
  constructor
  · intro h i i0 i1
    have := h i i0 i1
    cases hF : F i
    · rw [hF] at this; cases this
    · rfl
  · intro h i i0 i1
    rw [h i i0 i1]; rfl
theorem yall_n {F : Int → Bool} {n i : Int} (i0 : 0 ≤ i) (i1 : i < n) (h : F i = false) : yall F n = false := by
  refine Bool.eq_false_iff.2 (fun z => ?_)
  have := (yall_i (show 0 ≤ n by omega)).1 z i i0 i1
  rw [h] at this; cases this
def ymk4 (f : Int → Bool) : Nat → Int
  | 0 => 0
  | k + 1 => if f k = true then zor (ymk4 f k) (zshl 1 k) else ymk4 f k
theorem yor16 : ∀ y : Nat, y < 16 → (zor y 0 = y) ∧ ∀ k : Nat, k < 4 → 0 ≤ zor y (zshl 1 k) ∧ zor y (zshl 1 k) < 16 := by decide +kernel
theorem ymk4_r (f : Int → Bool) : ∀ k : Nat, k ≤ 4 → 0 ≤ ymk4 f k ∧ ymk4 f k < 16 := by
  intro k
  induction k with
  | zero => intro _; exact ⟨Int.le_refl _, (by decide : (0 : Int) < 16)⟩
  | succ k ih =>
    intro h
    have := ih (by omega)
    show 0 ≤ (if f k = true then zor (ymk4 f k) (zshl 1 k) else ymk4 f k) ∧ (if f k = true then zor (ymk4 f k) (zshl 1 k) else ymk4 f k) < 16
    split
    · obtain ⟨n, hn⟩ := Int.eq_ofNat_of_zero_le this.1
      rw [hn]
      exact (yor16 n (by omega)).2 k (by omega)
    · exact this
/-- a line told and what its value says -/
def yFt (v e : Int → Int) (col s w : Int) : Int → Bool := fun i => decide ((if v (3 * e (2 * i) + col) = 0 then 0 else yhold s (v (3 * e (2 * i) + col)) w) = e (2 * i + 1))
def yTl (e : Int → Int) (c : Int) : Int → Bool := fun i => decide ((0 ≤ e (2 * i) ∧ e (2 * i) < c) ∧ 0 ≤ e (2 * i + 1) ∧ e (2 * i + 1) ≤ 1)
section SG
variable {d : Nat} {m : ZN} {L : Int} {xs : Int → Int} {Q : Int → Int → ZN → Prop}
theorem c_172 {s n c : Int} {e : Int → Int} (s0 : 0 ≤ s) (s8 : s < 8) (n0 : 0 ≤ n) (n1 : n ≤ 20) (hc : zr m 4 1 = c) (he : ∀ y, 0 ≤ y → y < 2 * n → zr m 215 (40 * s + y) = e y) (K : Int → ZN → Prop) : zcI (d + 1) 172 [zA 3, zI s, zI n] m K = K (if yall (yTl e c) n = true then 1 else 0) m := by
  refine zcI_eq (w_172 ?_) K
  refine yfor (fun l => ∀ o4 o6, (∀ i, 0 ≤ i → i < l → yTl e c i = true) → zwpN (d + 1) 172 2 [some (zA 3), some (zI s), some (zI n), some (zI l), o4, none, o6, none] [] m _) 0 n n0 (fun l l0 l1 hW o4 o6 hl => ?_) (fun o4 o6 hl => ?_) none none (fun i i0 i1 => by omega)
  · refine w_172_2 ?_
    rw [if_pos l1, show zb (2 * l) = 2 * l from yb_id (by omega) (by omega), show zb (2 * l + 1) = 2 * l + 1 from yb_id (by omega) (by omega), show zb (l + 1) = l + 1 from yb_id (by omega) (by omega), c_84 s0 s8 (show 0 ≤ 2 * l by omega) (by omega), c_84 s0 s8 (show 0 ≤ 2 * l + 1 by omega) (by omega), he _ (by omega) (by omega), he _ (by omega) (by omega), hc]
    simp only [yl_lt, yl_gt, yck_of (show ((0 : Int) ≤ 0 ∧ (0 : Int) ≤ 1) by decide)]
    by_cases q : (0 ≤ e (2 * l) ∧ e (2 * l) < c) ∧ 0 ≤ e (2 * l + 1) ∧ e (2 * l + 1) ≤ 1
    · rw [if_neg (by omega), if_pos (by omega), if_neg (by omega), if_neg (by omega)]
      refine hW _ _ (fun i i0 i1 => ?_)
      by_cases q2 : i = l
      · rw [q2]; exact decide_eq_true q
      · exact hl i i0 (by omega)
    · have hf : yall (yTl e c) n = false := yall_n l0 l1 (decide_eq_false q)
      rw [hf]
      by_cases q1 : e (2 * l) < 0
      · rw [if_pos q1]; exact ⟨rfl, rfl⟩
      · rw [if_neg q1]
        by_cases q2 : e (2 * l) < c
        · rw [if_pos q2]
          by_cases q3 : e (2 * l + 1) < 0
          · rw [if_pos q3]; exact ⟨rfl, rfl⟩
          · rw [if_neg q3, if_pos (by omega)]; exact ⟨rfl, rfl⟩
        · rw [if_neg q2]; exact ⟨rfl, rfl⟩
  · refine w_172_2 ?_
    rw [if_neg (by omega), yck_of (by decide), (yall_i n0).2 hl]
    exact ⟨rfl, rfl⟩
theorem c_173 {col sg w s n c : Int} {e : Int → Int} (s0 : 0 ≤ s) (s8 : s < 8) (n0 : 0 ≤ n) (n1 : n ≤ 20) (hc : zr m 4 1 = c) (c60 : c ≤ 60) (k0 : 0 ≤ col) (k2 : col ≤ 2) (g0 : 0 ≤ sg) (g3 : sg ≤ 3) (hw : w ≠ 0) (he : ∀ y, 0 ≤ y → y < 2 * n → zr m 215 (40 * s + y) = e y) (hT : ∀ i, 0 ≤ i → i < n → yTl e c i = true) (K : Int → ZN → Prop) : zcI (d + 1) 173 [zA 3, zI col, zI sg, zI w, zI s, zI n] m K = K (if yall (yFt (zr m 5) e col sg w) n = true then 1 else 0) m := by
  refine zcI_eq (w_173 ?_) K
  refine yfor (fun l => ∀ o7 o8, (∀ i, 0 ≤ i → i < l → yFt (zr m 5) e col sg w i = true) → zwpN (d + 1) 173 3 [some (zA 3), some (zI col), some (zI sg), some (zI w), some (zI s), some (zI n), some (zI l), o7, o8] [] m _) 0 n n0 (fun l l0 l1 hW o7 o8 hl => ?_) (fun o7 o8 hl => ?_) none none (fun i i0 i1 => by omega)
  · have hTl := of_decide_eq_true (hT l l0 l1)
    refine w_173_3 ?_
    rw [if_pos l1, show zb (2 * l) = 2 * l from yb_id (by omega) (by omega), show zb (2 * l + 1) = 2 * l + 1 from yb_id (by omega) (by omega), show zb (l + 1) = l + 1 from yb_id (by omega) (by omega), c_84 s0 s8 (show 0 ≤ 2 * l by omega) (by omega), c_84 s0 s8 (show 0 ≤ 2 * l + 1 by omega) (by omega), he _ (by omega) (by omega), he _ (by omega) (by omega), show zb (e (2 * l)) = e (2 * l) from yb_id (by omega) (by omega)]
    simp only [yl_eq, c_34 (m := m) hTl.1.1 (show e (2 * l) < 60 by omega) k0 k2, c_189 g0 g3, yck_of (show ((0 : Int) ≤ 0 ∧ (0 : Int) ≤ 1) by decide), if_true, if_neg (show ¬ (0 : Int) = 1 by decide), if_neg (show ¬ (1 : Int) = 0 by decide)]
    have hr := yhold_r sg (zr m 5 (3 * e (2 * l) + col)) w
    have hv : (if zr m 5 (3 * e (2 * l) + col) = 0 ∨ w = 0 then 2 else yhold sg (zr m 5 (3 * e (2 * l) + col)) w) = 1 ↔ (if zr m 5 (3 * e (2 * l) + col) = 0 then 0 else yhold sg (zr m 5 (3 * e (2 * l) + col)) w) = 1 := by
      by_cases q : zr m 5 (3 * e (2 * l) + col) = 0
      · rw [if_pos (Or.inl q), if_pos q]; decide
      · rw [if_neg (fun z => z.elim q hw), if_neg q]
    have hb : (if zr m 5 (3 * e (2 * l) + col) = 0 then 0 else yhold sg (zr m 5 (3 * e (2 * l) + col)) w) = 0 ∨ (if zr m 5 (3 * e (2 * l) + col) = 0 then 0 else yhold sg (zr m 5 (3 * e (2 * l) + col)) w) = 1 := by
      split
      · exact Or.inl rfl
      · omega
    have good : (if zr m 5 (3 * e (2 * l) + col) = 0 then 0 else yhold sg (zr m 5 (3 * e (2 * l) + col)) w) = e (2 * l + 1) → ∀ i, 0 ≤ i → i < l + 1 → yFt (zr m 5) e col sg w i = true := fun q i i0 i1 => by
      by_cases q2 : i = l
      · rw [q2]; exact decide_eq_true q
      · exact hl i i0 (by omega)
    have bad : ¬ (if zr m 5 (3 * e (2 * l) + col) = 0 then 0 else yhold sg (zr m 5 (3 * e (2 * l) + col)) w) = e (2 * l + 1) → yall (yFt (zr m 5) e col sg w) n = false := fun q => yall_n l0 l1 (decide_eq_false q)
    generalize (if zr m 5 (3 * e (2 * l) + col) = 0 then 0 else yhold sg (zr m 5 (3 * e (2 * l) + col)) w) = u at hv hb good bad
    generalize (if zr m 5 (3 * e (2 * l) + col) = 0 ∨ w = 0 then 2 else yhold sg (zr m 5 (3 * e (2 * l) + col)) w) = u2 at hv
    by_cases q1 : e (2 * l + 1) = 1
    · rw [if_pos q1]
      by_cases q2 : u2 = 1
      · rw [if_pos q2]
        exact hW _ _ (good (by have := hv.1 q2; omega))
      · rw [if_neg q2, bad (fun z => q2 (hv.2 (by omega)))]
        exact ⟨rfl, rfl⟩
    · rw [if_neg q1]
      by_cases q2 : u2 = 1
      · rw [if_pos q2, bad (fun z => by have := hv.1 q2; omega)]
        exact ⟨rfl, rfl⟩
      · rw [if_neg q2]
        refine hW _ _ (good ?_)
        have : ¬ u = 1 := fun z => q2 (hv.2 z)
        omega
  · refine w_173_3 ?_
    rw [if_neg (by omega), yck_of (by decide), (yall_i n0).2 hl]
    exact ⟨rfl, rfl⟩
theorem c_302 {col sg w s n c : Int} {e : Int → Int} (s0 : 0 ≤ s) (s8 : s < 8) (n0 : 0 ≤ n) (n1 : n ≤ 20) (c60 : c ≤ 60) (k0 : 0 ≤ col) (k2 : col ≤ 2) (g0 : 0 ≤ sg) (g3 : sg ≤ 3) (he : ∀ y, 0 ≤ y → y < 2 * n → zr m (241 + s) y = e y) (hT : ∀ i, 0 ≤ i → i < n → yTl e c i = true) (K : Int → ZN → Prop) : zcI (d + 1) 302 [zA 236, zI col, zI w, zI s, zI n, zI sg] m K = K (if yall (yFt (zr m 253) e col sg w) n = true then 1 else 0) m := by
  refine zcI_eq (w_302 ?_) K
  refine yfor (fun l => ∀ o7 o8, (∀ i, 0 ≤ i → i < l → yFt (zr m 253) e col sg w i = true) → zwpN (d + 1) 302 3 [some (zA 236), some (zI col), some (zI w), some (zI s), some (zI n), some (zI sg), some (zI l), o7, o8] [] m _) 0 n n0 (fun l l0 l1 hW o7 o8 hl => ?_) (fun o7 o8 hl => ?_) none none (fun i i0 i1 => by omega)
  · have hTl := of_decide_eq_true (hT l l0 l1)
    refine w_302_3 ?_
    simp only [if_pos l1, isR_p s0 s8, isR_J s0 s8, isR_n s0 s8, isR_r s0 s8, cond_true, yck_of (show 0 ≤ s ∧ s < 8 from ⟨s0, s8⟩), show zb (2 * l) = 2 * l from yb_id (by omega) (by omega), show zb (2 * l + 1) = 2 * l + 1 from yb_id (by omega) (by omega), show zb (l + 1) = l + 1 from yb_id (by omega) (by omega), he (2 * l) (by omega) (by omega), he (2 * l + 1) (by omega) (by omega), show zb (e (2 * l)) = e (2 * l) from yb_id (by omega) (by omega), show zb (3 * e (2 * l)) = 3 * e (2 * l) from yb_id (by omega) (by omega), show zb (3 * e (2 * l) + col) = 3 * e (2 * l) + col from yb_id (by omega) (by omega), yck_of (show 0 ≤ 2 * l ∧ 2 * l < 40 by omega), yck_of (show 0 ≤ 2 * l + 1 ∧ 2 * l + 1 < 40 by omega), yck_of (show 0 ≤ 3 * e (2 * l) + col ∧ 3 * e (2 * l) + col < 180 by omega), c_213 g0 g3, yl_eq, yck_of (show ((0 : Int) ≤ 0 ∧ (0 : Int) ≤ 1) by decide)]
    have good : (if zr m 253 (3 * e (2 * l) + col) = 0 then 0 else yhold sg (zr m 253 (3 * e (2 * l) + col)) w) = e (2 * l + 1) → ∀ i, 0 ≤ i → i < l + 1 → yFt (zr m 253) e col sg w i = true := fun q i i0 i1 => by
      by_cases q2 : i = l
      · rw [q2]; exact decide_eq_true q
      · exact hl i i0 (by omega)
    have bad : ¬ (if zr m 253 (3 * e (2 * l) + col) = 0 then 0 else yhold sg (zr m 253 (3 * e (2 * l) + col)) w) = e (2 * l + 1) → yall (yFt (zr m 253) e col sg w) n = false := fun q => yall_n l0 l1 (decide_eq_false q)
    by_cases q1 : zr m 253 (3 * e (2 * l) + col) = 0
    · rw [if_pos q1] at good bad ⊢
      by_cases q2 : 0 = e (2 * l + 1)
      · rw [if_pos q2]
        exact hW _ _ (good q2)
      · rw [if_neg q2, bad q2]
        exact ⟨rfl, rfl⟩
    · rw [if_neg q1] at good bad ⊢
      by_cases q2 : yhold sg (zr m 253 (3 * e (2 * l) + col)) w = e (2 * l + 1)
      · rw [if_pos q2]
        exact hW _ _ (good q2)
      · rw [if_neg q2, bad q2]
        exact ⟨rfl, rfl⟩
  · refine w_302_3 ?_
    rw [if_neg (by omega), yck_of (by decide), (yall_i n0).2 hl]
    exact ⟨rfl, rfl⟩
theorem c_159l {c w s n : Int} {f : Int → Bool} {P : Option ZV → ZN → Prop} (hf : ∀ g, 0 ≤ g → g ≤ 3 → ∀ K', zcI d 173 [zA 3, zI c, zI g, zI w, zI s, zI n] m K' = K' (if f g = true then 1 else 0) m) (h : P (some (zI (ymk4 f 4))) m) : zwpN (d + 1) 159 88 [some (zA 3), some (zI c), some (zI w), some (zI s), some (zI n), some (zI 0), some (zI 0), some (zI 0)] [] m P := by
  have key : ∀ r k : Nat, k + r = 4 → zwpN (d + 1) 159 88 [some (zA 3), some (zI c), some (zI w), some (zI s), some (zI n), some (zI 0), some (zI (ymk4 f k)), some (zI k)] [] m P := by
    intro r
    induction r with
    | zero =>
      intro k hk
      have : k = 4 := by omega
      subst this
      refine w_159_88 ?_
      rw [if_pos (by decide)]
      exact h
    | succ r ih =>
      intro k hk
      have hn := ih (k + 1) (by omega)
      have e : (((k + 1 : Nat)) : Int) = (k : Int) + 1 := by omega
      rw [e] at hn
      refine w_159_88 ?_
      rw [if_neg (by omega), hf k (by omega) (by omega), show zb ((k : Int) + 1) = (k : Int) + 1 from yb_id (by omega) (by omega)]
      have hs : ymk4 f (k + 1) = if f k = true then zor (ymk4 f k) (zshl 1 k) else ymk4 f k := rfl
      rw [hs] at hn
      by_cases q : f k = true
      · rw [if_pos q] at hn
        rw [if_pos q, if_neg (by decide)]
        exact hn
      · rw [if_neg q] at hn
        rw [if_neg q, if_pos rfl]
        exact hn
  exact key 4 0 rfl
theorem c_303l {c w s n : Int} {f : Int → Bool} {P : Option ZV → ZN → Prop} (hf : ∀ g, 0 ≤ g → g ≤ 3 → ∀ K', zcI d 302 [zA 236, zI c, zI w, zI s, zI n, zI g] m K' = K' (if f g = true then 1 else 0) m) (h : P (some (zI (ymk4 f 4))) m) : zwpN (d + 1) 303 145 [some (zA 236), some (zI c), some (zI w), some (zI s), some (zI n), some (zI 0), some (zI 0), some (zI 0)] [] m P := by
  have key : ∀ r k : Nat, k + r = 4 → zwpN (d + 1) 303 145 [some (zA 236), some (zI c), some (zI w), some (zI s), some (zI n), some (zI 0), some (zI (ymk4 f k)), some (zI k)] [] m P := by
    intro r
    induction r with
    | zero =>
      intro k hk
      have : k = 4 := by omega
      subst this
      refine w_303_145 ?_
      rw [if_neg (by decide)]
      exact h
    | succ r ih =>
      intro k hk
      have hn := ih (k + 1) (by omega)
      have hr := ymk4_r f k (by omega)
      have h0 : zor (ymk4 f k) 0 = ymk4 f k := by
        obtain ⟨y, hy⟩ := Int.eq_ofNat_of_zero_le hr.1
        rw [hy]
        exact (yor16 y (by omega)).1
      have e : (((k + 1 : Nat)) : Int) = (k : Int) + 1 := by omega
      rw [e] at hn
      refine w_303_145 ?_
      rw [if_pos (by omega), hf k (by omega) (by omega), show zb ((k : Int) + 1) = (k : Int) + 1 from yb_id (by omega) (by omega), h0]
      have hs : ymk4 f (k + 1) = if f k = true then zor (ymk4 f k) (zshl 1 k) else ymk4 f k := rfl
      rw [hs] at hn
      by_cases q : f k = true
      · rw [if_pos q] at hn
        rw [if_pos q, if_neg (by decide)]
        exact hn
      · rw [if_neg q] at hn
        rw [if_neg q, if_pos rfl]
        exact hn
  exact key 4 0 rfl
theorem c_303t {c w s n cc : Int} {e : Int → Int} {P : Option ZV → ZN → Prop} (h9 : zr m 236 9 = cc) (c60 : cc ≤ 60) (c0 : 0 ≤ cc) (s0 : 0 ≤ s) (s8 : s < 8) (n0 : 0 ≤ n) (n1 : n ≤ 20) (he : ∀ y, 0 ≤ y → y < 2 * n → zr m (241 + s) y = e y) (hb : yall (yTl e cc) n = false → P (some (zI (-105))) (zsn m 252 (-(-105) - 100) (zb (zr m 252 (-(-105) - 100) + 1)))) (hg : yall (yTl e cc) n = true → zwpN (d + 1) 303 145 [some (zA 236), some (zI c), some (zI w), some (zI s), some (zI n), some (zI 0), some (zI 0), some (zI 0)] [] m P) : zwpN (d + 1) 303 73 [some (zA 236), some (zI c), some (zI w), some (zI s), some (zI n), some (zI 0), some (zI 0), none] [] m P := by
  refine yfor (fun l => (∀ i, 0 ≤ i → i < l → yTl e cc i = true) → zwpN (d + 1) 303 73 [some (zA 236), some (zI c), some (zI w), some (zI s), some (zI n), some (zI 0), some (zI l), none] [] m P) 0 n n0 (fun l l0 l1 hW hl => ?_) (fun hl => ?_) (fun i i0 i1 => by omega)
  · refine w_303_73 ?_
    simp only [if_pos l1, isR_p s0 s8, isR_J s0 s8, isR_n s0 s8, isR_r s0 s8, cond_true, yck_of (show 0 ≤ s ∧ s < 8 from ⟨s0, s8⟩), show zb (2 * l) = 2 * l from yb_id (by omega) (by omega), show zb (2 * l + 1) = 2 * l + 1 from yb_id (by omega) (by omega), show zb (l + 1) = l + 1 from yb_id (by omega) (by omega), he (2 * l) (by omega) (by omega), he (2 * l + 1) (by omega) (by omega), yck_of (show 0 ≤ 2 * l ∧ 2 * l < 40 by omega), yck_of (show 0 ≤ 2 * l + 1 ∧ 2 * l + 1 < 40 by omega), h9, show zb (cc - 1) = cc - 1 from yb_id (by omega) (by omega), c_192]
    by_cases q1 : 0 ≤ e (2 * l) ∧ e (2 * l) ≤ cc - 1
    · simp only [if_pos q1, if_neg (show ¬ (1 : Int) = 0 by decide)]
      by_cases q2 : 0 ≤ e (2 * l + 1) ∧ e (2 * l + 1) ≤ 1
      · simp only [if_pos q2, if_neg (show ¬ (1 : Int) = 0 by decide)]
        refine hW (fun i i0 i1 => ?_)
        by_cases q3 : i = l
        · rw [q3]; exact decide_eq_true ⟨⟨q1.1, by omega⟩, q2⟩
        · exact hl i i0 (by omega)
      · simp only [if_neg q2, if_true]
        rw [c_191 (by decide) (by decide)]
        exact hb (yall_n l0 l1 (decide_eq_false (fun z => q2 z.2)))
    · simp only [if_neg q1, if_true]
      rw [c_191 (by decide) (by decide)]
      exact hb (yall_n l0 l1 (decide_eq_false (fun z => q1 ⟨z.1.1, by omega⟩)))
  · refine w_303_73 ?_
    rw [if_neg (by omega)]
    exact hg ((yall_i n0).2 hl)
theorem p_signs (I : yInv L xs m) (hQ : ∀ r m2, yInv L xs m2 → Q r r m2) (c w s n : Int) : zcI (d + 9) 159 [zA 3, zI c, zI w, zI s, zI n] m (fun v m1 => zcI (d + 9) 303 [zA 236, zI c, zI w, zI s, zI n] m1 (fun v2 m2 => Q v v2 m2)) := by
  obtain ⟨l1, l2, l3, l4, l5, l6, l7⟩ := I.2.1
  have z10 : ¬ (1 : Int) = 0 := by decide
  refine w_159 ?_
  by_cases q1 : 0 ≤ c ∧ c ≤ 2
  · by_cases q2 : 1 ≤ w ∧ w ≤ 9
    · by_cases q3 : 0 ≤ s ∧ s ≤ 7
      · by_cases q4 : 0 ≤ n ∧ n ≤ 20
        · have s8 : s < 8 := by omega
          have e2b : zb (2 * n) = 2 * n := yb_id (by omega) (by omega)
          rcases yS3 I q3.1 s8 with h | h | h
          · simp (disch := first | trivial | assumption | omega | exact ynl rfl _ | exact znp_o rfl | rfl | (simp (disch := first | decide | omega) only [yfc, yr_so, yr_ss, yfcc, yr_cs]; first | assumption | omega)) only [yck_of, yb_id, yPI_some, yPJ_some, yPA_some, yPV_none, yfc, yr_so, yr_ss, yfcc, yr_cs, ybif_t, yrd_1, yrd_2, yfcl, ↓c_181, ↓c_182, ↓c_183, ↓c_184, ↓c_185, ↓c_186, ↓c_187, ↓c_73, ↓c_33, ↓c_23, ↓c_170, ↓c_168, ↓if_pos, ↓if_neg, yl_lt, yl_gt, yl_eq, ↓c_80_0]
            (refine w_303 ?_; simp (disch := first | trivial | assumption | omega | exact ynl rfl _ | exact znp_o rfl | rfl | (simp (disch := first | decide | omega) only [yfc, yr_so, yr_ss, yfcc, yr_cs]; first | assumption | omega)) only [yck_of, yb_id, yPI_some, yPJ_some, yPA_some, yPV_none, yfc, yr_so, yr_ss, yfcc, yr_cs, ybif_t, yrd_1, yrd_2, yfcl, ↓c_192, ↓c_193, ↓c_194, ↓c_251, ↓c_264, ↓c_191, ↓if_pos, ↓if_neg, yl_lt, yl_gt, yl_eq, ↓c_257_0]; exact p_ref (by decide) (by decide) I (hQ _))
          · by_cases qs : zr m 239 s < 2 * n
            · have : zr m 214 s < 2 * n := by omega
              simp (disch := first | trivial | assumption | omega | exact ynl rfl _ | exact znp_o rfl | rfl | (simp (disch := first | decide | omega) only [yfc, yr_so, yr_ss, yfcc, yr_cs]; first | assumption | omega)) only [yck_of, yb_id, yPI_some, yPJ_some, yPA_some, yPV_none, yfc, yr_so, yr_ss, yfcc, yr_cs, ybif_t, yrd_1, yrd_2, yfcl, ↓c_181, ↓c_182, ↓c_183, ↓c_184, ↓c_185, ↓c_186, ↓c_187, ↓c_73, ↓c_33, ↓c_23, ↓c_170, ↓c_168, ↓if_pos, ↓if_neg, yl_lt, yl_gt, yl_eq, ↓c_80_1]
              (refine w_303 ?_; simp (disch := first | trivial | assumption | omega | exact ynl rfl _ | exact znp_o rfl | rfl | (simp (disch := first | decide | omega) only [yfc, yr_so, yr_ss, yfcc, yr_cs]; first | assumption | omega)) only [yck_of, yb_id, yPI_some, yPJ_some, yPA_some, yPV_none, yfc, yr_so, yr_ss, yfcc, yr_cs, ybif_t, yrd_1, yrd_2, yfcl, ↓c_192, ↓c_193, ↓c_194, ↓c_251, ↓c_264, ↓c_191, ↓if_pos, ↓if_neg, yl_lt, yl_gt, yl_eq, ↓c_257_1]; exact p_ref (by decide) (by decide) I (hQ _))
            · have qs' : ¬ zr m 214 s < 2 * n := by omega
              obtain ⟨e, hE⟩ : ∃ e : Int → Int, e = fun j => zr m 215 (40 * s + j) := ⟨_, rfl⟩
              have he : ∀ j, 0 ≤ j → j < 2 * n → zr m 215 (40 * s + j) = e j := fun j _ _ => by rw [hE]
              have he2 : ∀ j, 0 ≤ j → j < 2 * n → zr m (241 + s) j = e j := fun j j0 j1 => by rw [hE]; exact (h.2.2.2.2.2 j j0 (by omega)).symm
              have mo : ∀ v M, (∀ a, a ≠ 234 → zr M a = zr m a) → zwpN (d + 9) 303 73 [some (zA 236), some (zI c), some (zI w), some (zI s), some (zI n), some (zI 0), some (zI 0), none] [] M (zPI (fun v2 m2 => Q v v2 m2)) → zcI (d + 9) 303 [zA 236, zI c, zI w, zI s, zI n] M (fun v2 m2 => Q v v2 m2) := fun v M f h' => by
                refine w_303 ?_
                simp only [c_251 (d := d + 7), if_pos q1, if_neg z10, c_192, if_pos q2, if_pos q3, if_pos q4, e2b, c_257_g (d := d + 6) q3.1 s8 (show zr M 237 s = 1 by rw [f 237 (by decide)]; exact h.1) (show ¬ zr M 239 s < 2 * n by rw [f 239 (by decide)]; exact qs), if_true]
                exact h'
              simp only [c_182 (d := d + 7), if_pos q1, if_neg z10, c_187 (d := d + 7), if_pos q2, c_73 (d := d + 7), if_pos q3, c_181, if_pos q4, e2b, c_80_1 (d := d + 7) q3.1 s8 (show 0 ≤ zr m 213 s by omega) (show zr m 213 s ≤ 4 by omega), if_neg qs', if_true]
              rw [c_172 (d := d + 7) q3.1 s8 q4.1 q4.2 rfl he]
              cases t : yall (yTl e (zr m 4 1)) n
              · rw [if_neg (show ¬ (false = true) by decide), if_pos rfl]
                simp only [c_168 (m := m) (show -106 ≤ (-105 : Int) by decide) (show (-105 : Int) ≤ -102 by decide)]
                refine mo _ _ (fun a ha => by rw [yfc ha]) ?_
                refine c_303t (d := d + 8) (e := e) (cc := zr m 4 1) (by rw [yfc (by decide), l1]) l2.2 l2.1 q3.1 s8 q4.1 q4.2 (fun y y0 y1 => by rw [yfc (by omega)]; exact he2 y y0 y1) (fun _ => ?_) (fun z => by rw [t] at z; cases z)
                exact p_ref2 (x := -105) (by decide) (by decide) I (hQ _) (ySc.refl _)
              · rw [if_pos rfl, if_neg z10]
                have hT := (yall_i q4.1).1 t
                refine c_159l (d := d + 8) (f := fun g => yall (yFt (zr m 5) e c g w) n) (fun g g0 g3 K' => c_173 (d := d + 7) q3.1 s8 q4.1 q4.2 rfl l2.2 q1.1 q1.2 g0 g3 (by omega) he hT K') ?_
                show zcI (d + 9) 303 _ m (fun v2 m2 => Q _ v2 m2)
                refine mo _ m (fun _ _ => rfl) ?_
                refine c_303t (d := d + 8) (e := e) (cc := zr m 4 1) l1.symm l2.2 l2.1 q3.1 s8 q4.1 q4.2 he2 (fun z => by rw [t] at z; cases z) (fun _ => ?_)
                refine c_303l (d := d + 8) (f := fun g => yall (yFt (zr m 5) e c g w) n) (fun g g0 g3 K' => ?_) (hQ _ _ I)
                rw [c_302 (d := d + 7) (c := zr m 4 1) q3.1 s8 q4.1 q4.2 l2.2 q1.1 q1.2 g0 g3 he2 hT]
                have ef : yall (yFt (zr m 253) e c g w) n = yall (yFt (zr m 5) e c g w) n := by
                  unfold yall
                  rw [ycnt_c (p := fun i => !yFt (zr m 253) e c g w i) (n := n) (q := fun i => !yFt (zr m 5) e c g w i) (fun i i0 i1 => by
                    have hTi := of_decide_eq_true (hT i i0 i1)
                    unfold yFt
                    rw [(l7 (3 * e (2 * i) + c) (by omega) (by omega)).1])]
                rw [ef]
          · simp (disch := first | trivial | assumption | omega | exact ynl rfl _ | exact znp_o rfl | rfl | (simp (disch := first | decide | omega) only [yfc, yr_so, yr_ss, yfcc, yr_cs]; first | assumption | omega)) only [yck_of, yb_id, yPI_some, yPJ_some, yPA_some, yPV_none, yfc, yr_so, yr_ss, yfcc, yr_cs, ybif_t, yrd_1, yrd_2, yfcl, ↓c_181, ↓c_182, ↓c_183, ↓c_184, ↓c_185, ↓c_186, ↓c_187, ↓c_73, ↓c_33, ↓c_23, ↓c_170, ↓c_168, ↓if_pos, ↓if_neg, yl_lt, yl_gt, yl_eq, ↓c_80_2]
            (refine w_303 ?_; simp (disch := first | trivial | assumption | omega | exact ynl rfl _ | exact znp_o rfl | rfl | (simp (disch := first | decide | omega) only [yfc, yr_so, yr_ss, yfcc, yr_cs]; first | assumption | omega)) only [yck_of, yb_id, yPI_some, yPJ_some, yPA_some, yPV_none, yfc, yr_so, yr_ss, yfcc, yr_cs, ybif_t, yrd_1, yrd_2, yfcl, ↓c_192, ↓c_193, ↓c_194, ↓c_251, ↓c_264, ↓c_191, ↓if_pos, ↓if_neg, yl_lt, yl_gt, yl_eq, ↓c_257_2]; exact p_ref (by decide) (by decide) I (hQ _))
        · simp (disch := first | trivial | assumption | omega | exact ynl rfl _ | exact znp_o rfl | rfl | (simp (disch := first | decide | omega) only [yfc, yr_so, yr_ss, yfcc, yr_cs]; first | assumption | omega)) only [yck_of, yb_id, yPI_some, yPJ_some, yPA_some, yPV_none, yfc, yr_so, yr_ss, yfcc, yr_cs, ybif_t, yrd_1, yrd_2, yfcl, ↓c_181, ↓c_182, ↓c_183, ↓c_184, ↓c_185, ↓c_186, ↓c_187, ↓c_73, ↓c_33, ↓c_23, ↓c_170, ↓c_168, ↓if_pos, ↓if_neg, yl_lt, yl_gt, yl_eq]
          (refine w_303 ?_; simp (disch := first | trivial | assumption | omega | exact ynl rfl _ | exact znp_o rfl | rfl | (simp (disch := first | decide | omega) only [yfc, yr_so, yr_ss, yfcc, yr_cs]; first | assumption | omega)) only [yck_of, yb_id, yPI_some, yPJ_some, yPA_some, yPV_none, yfc, yr_so, yr_ss, yfcc, yr_cs, ybif_t, yrd_1, yrd_2, yfcl, ↓c_192, ↓c_193, ↓c_194, ↓c_251, ↓c_264, ↓c_191, ↓if_pos, ↓if_neg, yl_lt, yl_gt, yl_eq]; exact p_ref (by decide) (by decide) I (hQ _))
      · simp (disch := first | trivial | assumption | omega | exact ynl rfl _ | exact znp_o rfl | rfl | (simp (disch := first | decide | omega) only [yfc, yr_so, yr_ss, yfcc, yr_cs]; first | assumption | omega)) only [yck_of, yb_id, yPI_some, yPJ_some, yPA_some, yPV_none, yfc, yr_so, yr_ss, yfcc, yr_cs, ybif_t, yrd_1, yrd_2, yfcl, ↓c_181, ↓c_182, ↓c_183, ↓c_184, ↓c_185, ↓c_186, ↓c_187, ↓c_73, ↓c_33, ↓c_23, ↓c_170, ↓c_168, ↓if_pos, ↓if_neg, yl_lt, yl_gt, yl_eq]
        (refine w_303 ?_; simp (disch := first | trivial | assumption | omega | exact ynl rfl _ | exact znp_o rfl | rfl | (simp (disch := first | decide | omega) only [yfc, yr_so, yr_ss, yfcc, yr_cs]; first | assumption | omega)) only [yck_of, yb_id, yPI_some, yPJ_some, yPA_some, yPV_none, yfc, yr_so, yr_ss, yfcc, yr_cs, ybif_t, yrd_1, yrd_2, yfcl, ↓c_192, ↓c_193, ↓c_194, ↓c_251, ↓c_264, ↓c_191, ↓if_pos, ↓if_neg, yl_lt, yl_gt, yl_eq]; exact p_ref (by decide) (by decide) I (hQ _))
    · simp (disch := first | trivial | assumption | omega | exact ynl rfl _ | exact znp_o rfl | rfl | (simp (disch := first | decide | omega) only [yfc, yr_so, yr_ss, yfcc, yr_cs]; first | assumption | omega)) only [yck_of, yb_id, yPI_some, yPJ_some, yPA_some, yPV_none, yfc, yr_so, yr_ss, yfcc, yr_cs, ybif_t, yrd_1, yrd_2, yfcl, ↓c_181, ↓c_182, ↓c_183, ↓c_184, ↓c_185, ↓c_186, ↓c_187, ↓c_73, ↓c_33, ↓c_23, ↓c_170, ↓c_168, ↓if_pos, ↓if_neg, yl_lt, yl_gt, yl_eq]
      (refine w_303 ?_; simp (disch := first | trivial | assumption | omega | exact ynl rfl _ | exact znp_o rfl | rfl | (simp (disch := first | decide | omega) only [yfc, yr_so, yr_ss, yfcc, yr_cs]; first | assumption | omega)) only [yck_of, yb_id, yPI_some, yPJ_some, yPA_some, yPV_none, yfc, yr_so, yr_ss, yfcc, yr_cs, ybif_t, yrd_1, yrd_2, yfcl, ↓c_192, ↓c_193, ↓c_194, ↓c_251, ↓c_264, ↓c_191, ↓if_pos, ↓if_neg, yl_lt, yl_gt, yl_eq]; exact p_ref (by decide) (by decide) I (hQ _))
  · simp (disch := first | trivial | assumption | omega | exact ynl rfl _ | exact znp_o rfl | rfl | (simp (disch := first | decide | omega) only [yfc, yr_so, yr_ss, yfcc, yr_cs]; first | assumption | omega)) only [yck_of, yb_id, yPI_some, yPJ_some, yPA_some, yPV_none, yfc, yr_so, yr_ss, yfcc, yr_cs, ybif_t, yrd_1, yrd_2, yfcl, ↓c_181, ↓c_182, ↓c_183, ↓c_184, ↓c_185, ↓c_186, ↓c_187, ↓c_73, ↓c_33, ↓c_23, ↓c_170, ↓c_168, ↓if_pos, ↓if_neg, yl_lt, yl_gt, yl_eq]
    (refine w_303 ?_; simp (disch := first | trivial | assumption | omega | exact ynl rfl _ | exact znp_o rfl | rfl | (simp (disch := first | decide | omega) only [yfc, yr_so, yr_ss, yfcc, yr_cs]; first | assumption | omega)) only [yck_of, yb_id, yPI_some, yPJ_some, yPA_some, yPV_none, yfc, yr_so, yr_ss, yfcc, yr_cs, ybif_t, yrd_1, yrd_2, yfcl, ↓c_192, ↓c_193, ↓c_194, ↓c_251, ↓c_264, ↓c_191, ↓if_pos, ↓if_neg, yl_lt, yl_gt, yl_eq]; exact p_ref (by decide) (by decide) I (hQ _))
end SG
