/-! ===== pair: signs ===== -/
def yall (F : Int → Bool) (n : Int) : Bool := decide (ycnt (fun i => !F i) n = 0)
theorem yall_i {F : Int → Bool} {n : Int} (n0 : 0 ≤ n) : yall F n = true ↔ ∀ i, 0 ≤ i → i < n → F i = true := by
  unfold yall
  rw [decide_eq_true_eq]
  have := ycnt_z (p := fun i => !F i) n.toNat
  rw [show ((n.toNat : Nat) : Int) = n by omega] at this
  rw [this]
  constructor
  · intro h i i0 i1
    have := h i i0 i1
    cases hF : F i
    · rw [hF] at this; cases this
    · rfl
  · intro h i i0 i1
    rw [h i i0 i1]; rfl
theorem yall_n {F : Int → Bool} {n i : Int} (i0 : 0 ≤ i) (i1 : i < n) (h : F i = false) : yall F n = false := by
  refine Bool.eq_false_iff.2 (fun z => ?_)
  have := (yall_i (show 0 ≤ n by omega)).1 z i i0 i1
  rw [h] at this; cases this
def ymk4 (f : Int → Bool) : Nat → Int
  | 0 => 0
  | k + 1 => if f k = true then zor (ymk4 f k) (zshl 1 k) else ymk4 f k
theorem yor16 : ∀ y : Nat, y < 16 → (zor y 0 = y) ∧ ∀ k : Nat, k < 4 → 0 ≤ zor y (zshl 1 k) ∧ zor y (zshl 1 k) < 16 := by decide +kernel
theorem ymk4_r (f : Int → Bool) : ∀ k : Nat, k ≤ 4 → 0 ≤ ymk4 f k ∧ ymk4 f k < 16 := by
  intro k
  induction k with
  | zero => intro _; exact ⟨Int.le_refl _, (by decide : (0 : Int) < 16)⟩
  | succ k ih =>
    intro h
    have := ih (by omega)
    show 0 ≤ (if f k = true then zor (ymk4 f k) (zshl 1 k) else ymk4 f k) ∧ (if f k = true then zor (ymk4 f k) (zshl 1 k) else ymk4 f k) < 16
    split
    · obtain ⟨n, hn⟩ := Int.eq_ofNat_of_zero_le this.1
      rw [hn]
      exact (yor16 n (by omega)).2 k (by omega)
    · exact this
/-- a line told and what its value says -/
def yFt (v e : Int → Int) (col s w : Int) : Int → Bool := fun i => decide ((if v (3 * e (2 * i) + col) = 0 then 0 else yhold s (v (3 * e (2 * i) + col)) w) = e (2 * i + 1))
def yTl (e : Int → Int) (c : Int) : Int → Bool := fun i => decide ((0 ≤ e (2 * i) ∧ e (2 * i) < c) ∧ 0 ≤ e (2 * i + 1) ∧ e (2 * i + 1) ≤ 1)
section SG
variable {d : Nat} {m : ZN} {L : Int} {xs : Int → Int} {Q : Int → Int → ZN → Prop}
theorem c_302 {col sg w s n c : Int} {e : Int → Int} (s0 : 0 ≤ s) (s8 : s < 8) (n0 : 0 ≤ n) (n1 : n ≤ 20) (c60 : c ≤ 60) (k0 : 0 ≤ col) (k2 : col ≤ 2) (g0 : 0 ≤ sg) (g3 : sg ≤ 3) (he : ∀ y, 0 ≤ y → y < 2 * n → zr m (241 + s) y = e y) (hT : ∀ i, 0 ≤ i → i < n → yTl e c i = true) (K : Int → ZN → Prop) : zcI (d + 1) 302 [zA 236, zI col, zI w, zI s, zI n, zI sg] m K = K (if yall (yFt (zr m 253) e col sg w) n = true then 1 else 0) m := by
  refine zcI_eq (w_302 ?_) K
  refine yfor (fun l => ∀ o7 o8, (∀ i, 0 ≤ i → i < l → yFt (zr m 253) e col sg w i = true) → zwpN (d + 1) 302 3 [some (zA 236), some (zI col), some (zI w), some (zI s), some (zI n), some (zI sg), some (zI l), o7, o8] [] m _) 0 n n0 (fun l l0 l1 hW o7 o8 hl => ?_) (fun o7 o8 hl => ?_) none none (fun i i0 i1 => by omega)
  · have hTl := of_decide_eq_true (hT l l0 l1)
    refine w_302_3 ?_
    simp only [if_pos l1, isR_p s0 s8, isR_J s0 s8, isR_n s0 s8, isR_r s0 s8, cond_true, yck_of (show 0 ≤ s ∧ s < 8 from ⟨s0, s8⟩), show zb (2 * l) = 2 * l from yb_id (by omega) (by omega), show zb (2 * l + 1) = 2 * l + 1 from yb_id (by omega) (by omega), show zb (l + 1) = l + 1 from yb_id (by omega) (by omega), he (2 * l) (by omega) (by omega), he (2 * l + 1) (by omega) (by omega), show zb (e (2 * l)) = e (2 * l) from yb_id (by omega) (by omega), show zb (3 * e (2 * l)) = 3 * e (2 * l) from yb_id (by omega) (by omega), show zb (3 * e (2 * l) + col) = 3 * e (2 * l) + col from yb_id (by omega) (by omega), yck_of (show 0 ≤ 2 * l ∧ 2 * l < 40 by omega), yck_of (show 0 ≤ 2 * l + 1 ∧ 2 * l + 1 < 40 by omega), yck_of (show 0 ≤ 3 * e (2 * l) + col ∧ 3 * e (2 * l) + col < 180 by omega), c_213 g0 g3, yl_eq, yck_of (show ((0 : Int) ≤ 0 ∧ (0 : Int) ≤ 1) by decide)]
    have good : (if zr m 253 (3 * e (2 * l) + col) = 0 then 0 else yhold sg (zr m 253 (3 * e (2 * l) + col)) w) = e (2 * l + 1) → ∀ i, 0 ≤ i → i < l + 1 → yFt (zr m 253) e col sg w i = true := fun q i i0 i1 => by
      by_cases q2 : i = l
      · rw [q2]; exact decide_eq_true q
      · exact hl i i0 (by omega)
    have bad : ¬ (if zr m 253 (3 * e (2 * l) + col) = 0 then 0 else yhold sg (zr m 253 (3 * e (2 * l) + col)) w) = e (2 * l + 1) → yall (yFt (zr m 253) e col sg w) n = false := fun q => yall_n l0 l1 (decide_eq_false q)
    by_cases q1 : zr m 253 (3 * e (2 * l) + col) = 0
    · rw [if_pos q1] at good bad ⊢
      by_cases q2 : 0 = e (2 * l + 1)
      · rw [if_pos q2]
        exact hW _ _ (good q2)
      · rw [if_neg q2, bad q2]
        exact ⟨rfl, rfl⟩
    · rw [if_neg q1] at good bad ⊢
      by_cases q2 : yhold sg (zr m 253 (3 * e (2 * l) + col)) w = e (2 * l + 1)
      · rw [if_pos q2]
        exact hW _ _ (good q2)
      · rw [if_neg q2, bad q2]
        exact ⟨rfl, rfl⟩
  · refine w_302_3 ?_
    rw [if_neg (by omega), yck_of (by decide), (yall_i n0).2 hl]
    exact ⟨rfl, rfl⟩
theorem c_303l {c w s n : Int} {f : Int → Bool} {P : Option ZV → ZN → Prop} (hf : ∀ g, 0 ≤ g → g ≤ 3 → ∀ K', zcI d 302 [zA 236, zI c, zI w, zI s, zI n, zI g] m K' = K' (if f g = true then 1 else 0) m) (h : P (some (zI (ymk4 f 4))) m) : zwpN (d + 1) 303 145 [some (zA 236), some (zI c), some (zI w), some (zI s), some (zI n), some (zI 0), some (zI 0), some (zI 0)] [] m P := by
  have key : ∀ r k : Nat, k + r = 4 → zwpN (d + 1) 303 145 [some (zA 236), some (zI c), some (zI w), some (zI s), some (zI n), some (zI 0), some (zI (ymk4 f k)), some (zI k)] [] m P := by
    intro r
    induction r with
    | zero =>
      intro k hk
      have : k = 4 := by omega
      subst this
      refine w_303_145 ?_
      rw [if_neg (by decide)]
      exact h
    | succ r ih =>
      intro k hk
      have hn := ih (k + 1) (by omega)
      have hr := ymk4_r f k (by omega)
      have h0 : zor (ymk4 f k) 0 = ymk4 f k := by
        obtain ⟨y, hy⟩ := Int.eq_ofNat_of_zero_le hr.1
        rw [hy]
        exact (yor16 y (by omega)).1
      have e : (((k + 1 : Nat)) : Int) = (k : Int) + 1 := by omega
      rw [e] at hn
      refine w_303_145 ?_
      rw [if_pos (by omega), hf k (by omega) (by omega), show zb ((k : Int) + 1) = (k : Int) + 1 from yb_id (by omega) (by omega), h0]
      have hs : ymk4 f (k + 1) = if f k = true then zor (ymk4 f k) (zshl 1 k) else ymk4 f k := rfl
      rw [hs] at hn
      by_cases q : f k = true
      · rw [if_pos q] at hn
        rw [if_pos q, if_neg (by decide)]
        exact hn
      · rw [if_neg q] at hn
        rw [if_neg q, if_pos rfl]
        exact hn
  exact key 4 0 rfl
theorem c_303t {c w s n cc : Int} {e : Int → Int} {P : Option ZV → ZN → Prop} (h9 : zr m 236 9 = cc) (c60 : cc ≤ 60) (c0 : 0 ≤ cc) (s0 : 0 ≤ s) (s8 : s < 8) (n0 : 0 ≤ n) (n1 : n ≤ 20) (he : ∀ y, 0 ≤ y → y < 2 * n → zr m (241 + s) y = e y) (hb : yall (yTl e cc) n = false → P (some (zI (-105))) (zsn m 252 (-(-105) - 100) (zb (zr m 252 (-(-105) - 100) + 1)))) (hg : yall (yTl e cc) n = true → zwpN (d + 1) 303 145 [some (zA 236), some (zI c), some (zI w), some (zI s), some (zI n), some (zI 0), some (zI 0), some (zI 0)] [] m P) : zwpN (d + 1) 303 73 [some (zA 236), some (zI c), some (zI w), some (zI s), some (zI n), some (zI 0), some (zI 0), none] [] m P := by
  refine yfor (fun l => (∀ i, 0 ≤ i → i < l → yTl e cc i = true) → zwpN (d + 1) 303 73 [some (zA 236), some (zI c), some (zI w), some (zI s), some (zI n), some (zI 0), some (zI l), none] [] m P) 0 n n0 (fun l l0 l1 hW hl => ?_) (fun hl => ?_) (fun i i0 i1 => by omega)
  · refine w_303_73 ?_
    simp only [if_pos l1, isR_p s0 s8, isR_J s0 s8, isR_n s0 s8, isR_r s0 s8, cond_true, yck_of (show 0 ≤ s ∧ s < 8 from ⟨s0, s8⟩), show zb (2 * l) = 2 * l from yb_id (by omega) (by omega), show zb (2 * l + 1) = 2 * l + 1 from yb_id (by omega) (by omega), show zb (l + 1) = l + 1 from yb_id (by omega) (by omega), he (2 * l) (by omega) (by omega), he (2 * l + 1) (by omega) (by omega), yck_of (show 0 ≤ 2 * l ∧ 2 * l < 40 by omega), yck_of (show 0 ≤ 2 * l + 1 ∧ 2 * l + 1 < 40 by omega), h9, show zb (cc - 1) = cc - 1 from yb_id (by omega) (by omega), c_192]
    by_cases q1 : 0 ≤ e (2 * l) ∧ e (2 * l) ≤ cc - 1
    · simp only [if_pos q1, if_neg (show ¬ (1 : Int) = 0 by decide)]
      by_cases q2 : 0 ≤ e (2 * l + 1) ∧ e (2 * l + 1) ≤ 1
      · simp only [if_pos q2, if_neg (show ¬ (1 : Int) = 0 by decide)]
        refine hW (fun i i0 i1 => ?_)
        by_cases q3 : i = l
        · rw [q3]; exact decide_eq_true ⟨⟨q1.1, by omega⟩, q2⟩
        · exact hl i i0 (by omega)
      · simp only [if_neg q2, if_true]
        rw [c_191 (by decide) (by decide)]
        exact hb (yall_n l0 l1 (decide_eq_false (fun z => q2 z.2)))
    · simp only [if_neg q1, if_true]
      rw [c_191 (by decide) (by decide)]
      exact hb (yall_n l0 l1 (decide_eq_false (fun z => q1 ⟨z.1.1, by omega⟩)))
  · refine w_303_73 ?_
    rw [if_neg (by omega)]
    exact hg ((yall_i n0).2 hl)
end SG
