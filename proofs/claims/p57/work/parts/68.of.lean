/-! ===== what a plan reads, drops, costs: all of it ===== -/
theorem ypl_k {v : Int → Int} {n t c : Int} (h1 : 0 ≤ n) (h2 : n < c) (h3 : 0 ≤ t) (h4 : t ≤ 5) (hv : ∀ j, 0 ≤ j → j < 3 * c → 0 ≤ v j ∧ v j ≤ 9) : ypl t (yk3 v n t) = yk3 v n 0 := by
  have k : ∀ x y z : Int, (0 ≤ x ∧ x ≤ 9) → (0 ≤ y ∧ y ≤ 9) → (0 ≤ z ∧ z ≤ 9) → ydig (100 * x + 10 * y + z) 0 = x ∧ ydig (100 * x + 10 * y + z) 1 = y ∧ ydig (100 * x + 10 * y + z) 2 = z := fun x y z hx hy hz => by
    unfold ydig
    refine ⟨by rw [if_pos rfl]; omega, by rw [if_neg (by decide), if_pos rfl]; omega, by rw [if_neg (by decide), if_neg (by decide)]; omega⟩
  have e0 := ycat_r (j := 3 * t) (by omega) (by omega)
  have e1 := ycat_r (j := 3 * t + 1) (by omega) (by omega)
  have e2 := ycat_r (j := 3 * t + 2) (by omega) (by omega)
  have kk := k (v (3 * n + ycat (3 * t))) (v (3 * n + ycat (3 * t + 1))) (v (3 * n + ycat (3 * t + 2))) (hv _ (by omega) (by omega)) (hv _ (by omega) (by omega)) (hv _ (by omega) (by omega))
  unfold ypl
  rw [show yk3 v n t = 100 * v (3 * n + ycat (3 * t)) + 10 * v (3 * n + ycat (3 * t + 1)) + v (3 * n + ycat (3 * t + 2)) from rfl, kk.1, kk.2.1, kk.2.2]
  clear kk k e0 e1 e2 hv
  rcases yt6 h3 h4 with rfl | rfl | rfl | rfl | rfl | rfl
  · show v (3 * n + 0) * 100 + v (3 * n + 1) * 10 + v (3 * n + 2) * 1 = 100 * v (3 * n + 0) + 10 * v (3 * n + 1) + v (3 * n + 2)
    omega
  · show v (3 * n + 0) * 100 + v (3 * n + 2) * 1 + v (3 * n + 1) * 10 = 100 * v (3 * n + 0) + 10 * v (3 * n + 1) + v (3 * n + 2)
    omega
  · show v (3 * n + 1) * 10 + v (3 * n + 0) * 100 + v (3 * n + 2) * 1 = 100 * v (3 * n + 0) + 10 * v (3 * n + 1) + v (3 * n + 2)
    omega
  · show v (3 * n + 1) * 10 + v (3 * n + 2) * 1 + v (3 * n + 0) * 100 = 100 * v (3 * n + 0) + 10 * v (3 * n + 1) + v (3 * n + 2)
    omega
  · show v (3 * n + 2) * 1 + v (3 * n + 0) * 100 + v (3 * n + 1) * 10 = 100 * v (3 * n + 0) + 10 * v (3 * n + 1) + v (3 * n + 2)
    omega
  · show v (3 * n + 2) * 1 + v (3 * n + 1) * 10 + v (3 * n + 0) * 100 = 100 * v (3 * n + 0) + 10 * v (3 * n + 1) + v (3 * n + 2)
    omega
theorem ycnt_or {p q r : Int → Bool} : ∀ n : Nat, (∀ i : Int, 0 ≤ i → i < n → (r i = true ↔ p i = true ∨ q i = true) ∧ ¬ (p i = true ∧ q i = true)) → ycnt r n = ycnt p n + ycnt q n := by
  intro n
  induction n with
  | zero => intro _; rfl
  | succ n ih =>
    intro h
    rw [show ((n + 1 : Nat) : Int) = (n : Int) + 1 by omega, ycnt_s (by omega), ycnt_s (by omega), ycnt_s (by omega), ih (fun i i0 i1 => h i i0 (by omega))]
    have := h n (by omega) (by omega)
    cases hp : p n <;> cases hq : q n <;> cases hr : r n <;> simp [hp, hq, hr] at this ⊢ <;> omega
theorem yRd_c {t : Int → Int} {S T : Int → Prop} {k : Int} (h : ∀ g, 0 ≤ g → g < yrc t 1000 - 1 → (S g ↔ T g)) : yRd t S k ↔ yRd t T k :=
  ⟨fun z => z.imp id (fun y => ⟨y.1, y.2.1, (h _ y.1 y.2.1).1 y.2.2⟩), fun z => z.imp id (fun y => ⟨y.1, y.2.1, (h _ y.1 y.2.1).2 y.2.2⟩)⟩
theorem ySpM_c {t : Int → Int} {S T : Int → Prop} {n : Int} {M : ZN} (R : ySpM t S n M) (h : ∀ g, 0 ≤ g → g < yrc t 1000 - 1 → (S g ↔ T g)) : ySpM t T n M := by
  obtain ⟨n0, hn, e, he, hrow⟩ := R
  exact ⟨n0, hn, e, ySpE_c he h, hrow⟩
/-- the first j of a hold -/
def yFj (a : Int → Int) (j : Int) (g : Int) : Prop := ∃ y, 0 ≤ y ∧ y < j ∧ a y = g
theorem ybo_n {P : Prop} : ybo P = false ↔ ¬ P := ⟨fun h z => absurd ((ybo_t z).symm.trans h) (by decide), ybo_f⟩
theorem ycnt_pq {p : Int → Bool} (n : Nat) : 0 < ycnt p n ↔ ∃ x, 0 ≤ x ∧ x < (n : Int) ∧ p x = true := by
  have hr := ycnt_r p (show (0 : Int) ≤ n by omega)
  constructor
  · intro h
    refine Classical.byContradiction (fun z => ?_)
    have := (ycnt_z (p := p) n).2 (fun x x0 x1 => by
      cases q : p x
      · rfl
      · exact absurd ⟨x, x0, x1, q⟩ z)
    omega
  · intro ⟨x, x0, x1, x2⟩
    refine Classical.byContradiction (fun z => ?_)
    have := (ycnt_z (p := p) n).1 (by omega) x x0 x1
    rw [x2] at this
    cases this
theorem ycnt_pk {p : Int → Prop} {u : Int → Int} : 0 < ycnt (fun x => ybo (p x) && !decide (u x = 1)) 1000 ↔ ∃ x, 0 ≤ x ∧ x < 1000 ∧ p x ∧ ¬ u x = 1 := by
  refine (ycnt_pq 1000).trans ⟨fun ⟨x, x0, x1, x2⟩ => ⟨x, x0, x1, ?_⟩, fun ⟨x, x0, x1, x2, x3⟩ => ⟨x, x0, x1, ?_⟩⟩
  · have h := (Bool.and_eq_true_iff.1 x2)
    refine ⟨ybo_i.1 h.1, fun z => ?_⟩
    rw [decide_eq_true z] at h
    exact absurd h.2 (by decide)
  · show (ybo (p x) && !decide (u x = 1)) = true
    rw [ybo_t x2, decide_eq_false x3]; rfl
section OF
variable {d : Nat} {m : ZN}
/-- parts of a plan that aren't true all over it -/
def yStl (m : ZN) (o : Int) (t : Int → Int) (S : Int → Prop) (a : Nat) (j : Nat) : Prop := a.testBit j = true ∧ ∃ k, 0 ≤ k ∧ k < 1000 ∧ yRd t S k ∧ ¬ yTt m j o k = 1
theorem d_283 {t : Int → Int} {S : Int → Prop} {n c o : Int} {M : ZN} (R : ySpM t S n M) (h261 : zr M 261 = zr m 261) (c0 : 0 ≤ c) (c1 : c < 24) (o0 : 0 ≤ o) (o1 : o ≤ 5) {a : Nat} (ha : zr M 264 c = a) (ha2 : a < 16777216) (K : Int → ZN → Prop) : zcI (d + 3) 283 [zA 236, zI c, zI o] M K = K (yset (yStl m o t S a) (c.toNat + 1)) M := by
  refine zcI_eq (w_283 ?_) K
  refine yfor (fun j => zwpN (d + 3) 283 5 [some (zA 236), some (zI c), some (zI o), some (zI (yset (yStl m o t S a) j.toNat)), some (zI j)] [] M (zPI (fun v m1 => v = yset (yStl m o t S a) (c.toNat + 1) ∧ m1 = M))) 0 (c + 1) (by omega) (fun j j0 j1 hW => ?_) ?_
  · obtain ⟨k, rfl⟩ := Int.eq_ofNat_of_zero_le j0
    rw [show ((k : Int) + 1).toNat = k + 1 by omega] at hW
    rw [show ((k : Int)).toNat = k by omega]
    refine w_283_5 ?_
    rw [if_neg (by omega), yck_of (by omega), ha, show zb ((k : Int) + 1) = (k : Int) + 1 from yb_id (by omega) (by omega)]
    by_cases q : a.testBit k = true
    · rw [if_pos ((ybt2 ha2 (by omega)).2 q), c_282 (d := d) (u := yTt m k o) R (by omega) (by omega) o0 o1 (fun x _ _ => by rw [h261]; rfl)]
      cases qq : ybo (∃ x, 0 ≤ x ∧ x < 1000 ∧ yRd t S x ∧ ¬ yTt m k o x = 1) with
      | true =>
        have q2 := ybo_i.1 qq
        rw [yset_t ⟨q, q2⟩] at hW
        rw [if_pos (ycnt_pk.2 q2)]
        exact hW
      | false =>
        have q2 := ybo_n.1 qq
        rw [yset_f (fun z => q2 z.2)] at hW
        rw [if_neg (fun z => q2 (ycnt_pk.1 z))]
        exact hW
    · rw [yset_f (fun z => q z.1)] at hW
      rw [if_neg (fun z => q ((ybt2 ha2 (by omega)).1 z))]
      exact hW
  · refine w_283_5 ?_
    rw [if_pos (by omega), show (c + 1).toNat = c.toNat + 1 by omega]
    exact ⟨rfl, rfl⟩
theorem d_174 {t : Int → Int} {S : Int → Prop} {c o : Int} {M : ZN} (R : yRn t M 1000) (hS : ∀ g, 0 ≤ g → g < yrc t 1000 - 1 → (zr M 230 g = 0 ∧ ¬ S g) ∨ (zr M 230 g = 1 ∧ S g)) (h8 : zr M 8 1 = c) (c0 : 0 ≤ c) (c1 : c ≤ 24) (hT : ∀ j, 0 ≤ j → j < c → ∀ k, 0 ≤ k → k < 1000 → yTw (zr M (10 + 4 * j + 1)) k = zr m 261 (1000 * j + k)) (o0 : 0 ≤ o) (o1 : o ≤ 5) {a : Nat} (ha2 : a < 16777216) (K : Int → ZN → Prop) : zcI (d + 4) 174 [zA 3, zI a, zI o] M K = K (yset (yStl m o t S a) c.toNat) M := by
  refine zcI_eq (w_174 ?_) K
  refine yfor (fun j => zwpN (d + 4) 174 5 [some (zA 3), some (zI a), some (zI o), some (zI (yset (yStl m o t S a) j.toNat)), some (zI j)] [] M (zPI (fun v m1 => v = yset (yStl m o t S a) c.toNat ∧ m1 = M))) 0 c c0 (fun j j0 j1 hW => ?_) ?_
  · obtain ⟨k, rfl⟩ := Int.eq_ofNat_of_zero_le j0
    rw [show ((k : Int) + 1).toNat = k + 1 by omega] at hW
    rw [show ((k : Int)).toNat = k by omega]
    refine w_174_5 ?_
    rw [h8, if_pos j1, show zb ((k : Int) + 1) = (k : Int) + 1 from yb_id (by omega) (by omega)]
    by_cases q : a.testBit k = true
    · rw [if_neg (fun z => by rw [(ybt1 ha2 (by omega)).1 z] at q; cases q), c_24 (d := d + 2) (by omega) (by omega), c_175 (d := d) (u := yTt m k o) (isC_l (by omega) (by omega)) R hS o0 o1 (fun x x0 x1 => by
        have hp := ypl_r o0 o1 x0 x1
        rw [hT k (by omega) j1 _ hp.1 hp.2]; rfl)]
      by_cases q2 : ∃ x, 0 ≤ x ∧ x < 1000 ∧ yRd t S x ∧ ¬ yTt m k o x = 1
      · rw [yset_t ⟨q, q2⟩] at hW
        rw [ybo_t q2, show (bif true then (0 : Int) else 1) = 0 from rfl, if_pos rfl]
        exact hW
      · rw [yset_f (fun z => q2 z.2)] at hW
        rw [ybo_f q2, show (bif false then (0 : Int) else 1) = 1 from rfl, if_neg (by decide)]
        exact hW
    · rw [yset_f (fun z => q z.1)] at hW
      rw [if_pos ((ybt1 ha2 (by omega)).2 (Bool.eq_false_iff.2 q))]
      exact hW
  · refine w_174_5 ?_
    rw [h8, if_neg (by omega)]
    exact ⟨rfl, rfl⟩
/-- what the document asks of a plan's marks T with n spans -/
noncomputable def yOfv (m : ZN) (c o : Int) (T : Int → Prop) (n w : Int) : Int :=
  if w = 0 then ycnt (fun k => ybo (yRd (yTt m c o) T k) && !decide (yTt m c o k = 1)) 1000
  else if w = 1 then ycnt (fun l => ybo (yRd (yTt m c o) T (yk3 (zr m 253) l o))) (zr m 236 9)
  else if w = 2 then ycnt (fun l => ybo (yRd (yTt m c o) T (yk3 (zr m 253) l o)) && !decide (zr m 261 (1000 * c + yk3 (zr m 253) l 0) = 1)) (zr m 236 9)
  else if w = 3 then zr m 236 11 * n + ycnt (fun l => ybo (yRd (yTt m c o) T (yk3 (zr m 253) l o))) (zr m 236 9)
  else yset (yStl m o (yTt m c o) T (zr m 264 c).toNat) (c.toNat + 1)
end OF
