/-! ===== a turn of one letter and what it says: as the document has it ===== -/
def yDg (T : Int → Int) (n lo hi q : Int) (E : Int → Prop) (S : Int → Int → Prop) : Prop := if 48 + lo ≤ ylq T n q ∧ ylq T n q ≤ 48 + hi then S (ylq T n q - 48) (ynq T n q) else E q
def ySn (T : Int → Int) (n q : Int) (E : Int → Prop) (S : Int → Int → Prop) : Prop := if ysg (ylq T n q) = -1 then E q else S (ysg (ylq T n q)) (ynq T n q)
def yt7 (x0 x1 x2 x3 x4 x5 x6 : Int) : Int → Int := fun k => if k = 0 then x0 else if k = 1 then x1 else if k = 2 then x2 else if k = 3 then x3 else if k = 4 then x4 else if k = 5 then x5 else if k = 6 then x6 else -1
def yAm (T : Int → Int) (n : Int) (E : Int → Prop) (S : Int → Int → Prop) : Nat → Int → Int → Prop
  | 0, _, q => E q
  | f + 1, bits, q => if 49 ≤ ylq T n q ∧ ylq T n q ≤ 57 then yAm T n E S f (zor bits (zshl 1 (ylq T n q - 48))) (ynq T n q) else if ylq T n q = 93 then S bits (ynq T n q) else E q
theorem yAm_s (T : Int → Int) (n : Int) (E : Int → Prop) (S : Int → Int → Prop) (f : Nat) (bits q : Int) : yAm T n E S (f + 1) bits q = (if 49 ≤ ylq T n q ∧ ylq T n q ≤ 57 then yAm T n E S f (zor bits (zshl 1 (ylq T n q - 48))) (ynq T n q) else if ylq T n q = 93 then S bits (ynq T n q) else E q) := rfl
def ySvl (T : Int → Int) (n col q : Int) (E : Int → Prop) (S : Int → Int → (Int → Int) → Int → Prop) : Prop :=
  if ylq T n q - 97 = col then E q
  else if 97 ≤ ylq T n (ynq T n q) ∧ ylq T n (ynq T n q) ≤ 99 then
    (if ylq T n (ynq T n q) - 97 = col ∨ ylq T n (ynq T n q) - 97 = ylq T n q - 97 then E (ynq T n q)
    else ySn T n (ynq T n (ynq T n q)) E (fun g q3 => yDg T n 1 9 q3 E (fun v1 q4 => yDg T n 1 9 q4 E (fun v2 q5 => yDg T n 1 9 q5 E (fun v3 q6 => S 5 g (yt7 3 col v1 (ylq T n q - 97) v2 (ylq T n (ynq T n q) - 97) v3) q6)))))
  else ySn T n (ynq T n q) E (fun g q3 => yDg T n 1 9 q3 E (fun v1 q4 => yDg T n 1 9 q4 E (fun v2 q5 => S 5 g (yt7 2 col v1 (ylq T n q - 97) v2 (-1) (-1)) q5)))
def yCmp (T : Int → Int) (n col g q : Int) (E : Int → Prop) (S : Int → Int → (Int → Int) → Int → Prop) : Prop :=
  if (97 ≤ ylq T n q ∧ ylq T n q ≤ 99) ∧ ylq T n q - 97 ≠ col then S 3 g (yt7 col (ylq T n q - 97) (-1) (-1) (-1) (-1) (-1)) (ynq T n q)
  else yDg T n 1 9 q E (fun v q' => S 0 g (yt7 col v (-1) (-1) (-1) (-1) (-1)) q')
def yLeaf (T : Int → Int) (n p : Int) (E : Int → Prop) (S : Int → Int → (Int → Int) → Int → Prop) : Prop :=
  if 97 ≤ ylq T n (ynq T n p) ∧ ylq T n (ynq T n p) ≤ 99 then ySvl T n (T p - 97) (ynq T n p) E S
  else if ysg (ylq T n (ynq T n p)) ≠ -1 then yCmp T n (T p - 97) (ysg (ylq T n (ynq T n p))) (ynq T n (ynq T n p)) E S
  else if ylq T n (ynq T n p) = 91 then yDg T n 1 9 (ynq T n (ynq T n p)) E (fun v q => yAm T n E (fun bits q' => S 1 (-1) (yt7 (T p - 97) bits (-1) (-1) (-1) (-1) (-1)) q') 251 (zshl 1 v) q)
  else if ylq T n (ynq T n p) = 63 then S 2 (-1) (yt7 (T p - 97) (-1) (-1) (-1) (-1) (-1) (-1)) (ynq T n (ynq T n p))
  else if ylq T n (ynq T n p) = 37 then yDg T n 2 9 (ynq T n (ynq T n p)) E (fun mm q => yDg T n 0 (mm - 1) q E (fun r q' => S 4 (-1) (yt7 (T p - 97) mm r (-1) (-1) (-1) (-1)) q'))
  else E (ynq T n p)
/-- one way or the other it ends behind p -/
def yOk (T : Int → Int) (n p : Int) (X : (Int → Prop) → (Int → Int → (Int → Int) → Int → Prop) → Prop) : Prop := (∃ q, p < q ∧ q ≤ n ∧ ∀ E S, E q → X E S) ∨ ∃ kd sg a p', (p < p' ∧ p' ≤ n ∧ ytx T n p' = p') ∧ (kd ≤ 5 ∧ ∀ i, yWf kd sg a i) ∧ ∀ E S, S kd sg a p' → X E S
section OK
variable {T : Int → Int} {n p : Int}
theorem yOk_e {q : Int} (h0 : p < q) (h1 : q ≤ n) : yOk T n p (fun E _ => E q) := Or.inl ⟨q, h0, h1, fun _ _ h => h⟩
theorem yOk_s {kd sg p' : Int} {a : Int → Int} (h0 : p < p') (h1 : p' ≤ n) (hx : ytx T n p' = p') (h5 : kd ≤ 5) (W : ∀ i, yWf kd sg a i) : yOk T n p (fun _ S => S kd sg a p') := Or.inr ⟨kd, sg, a, p', ⟨h0, h1, hx⟩, ⟨h5, W⟩, fun _ _ h => h⟩
theorem yOk_if {c : Prop} [Decidable c] {X Y : (Int → Prop) → (Int → Int → (Int → Int) → Int → Prop) → Prop} (h1 : c → yOk T n p X) (h2 : ¬ c → yOk T n p Y) : yOk T n p (fun E S => if c then X E S else Y E S) := by
  by_cases q : c
  · rw [show (fun E S => if c then X E S else Y E S) = X from funext fun E => funext fun S => if_pos q]; exact h1 q
  · rw [show (fun E S => if c then X E S else Y E S) = Y from funext fun E => funext fun S => if_neg q]; exact h2 q
theorem ynq_r {q : Int} (h : ylq T n q ≠ -1) : q < ynq T n q ∧ ynq T n q ≤ n := by
  have hq : q < n := by
    unfold ylq at h
    by_cases z : q < n
    · exact z
    · rw [if_neg z] at h; exact absurd rfl h
  have := ytx_r (T := T) (show q + 1 ≤ n by omega)
  unfold ynq
  omega
theorem ynq_x {q : Int} (h : ylq T n q ≠ -1) : ytx T n (ynq T n q) = ynq T n q := ytx_i (by
  by_cases z : q < n
  · omega
  · unfold ylq at h
    rw [if_neg z] at h; exact absurd rfl h)
theorem yOk_dg {lo hi q : Int} {G : Int → Int → (Int → Prop) → (Int → Int → (Int → Int) → Int → Prop) → Prop} (l0 : 0 ≤ lo) (h0 : p < q) (h1 : q ≤ n) (h : ∀ v q', lo ≤ v → v ≤ hi → p < q' → q' ≤ n → ytx T n q' = q' → yOk T n p (fun E S => G v q' E S)) : yOk T n p (fun E S => yDg T n lo hi q E (fun v q' => G v q' E S)) := by
  unfold yDg
  refine yOk_if (fun z => ?_) (fun _ => yOk_e h0 h1)
  have := ynq_r (T := T) (n := n) (q := q) (by omega)
  exact h _ _ (by omega) (by omega) (by omega) this.2 (ynq_x (by omega))
theorem ysg_r (x : Int) : ysg x = -1 ∨ (0 ≤ ysg x ∧ ysg x ≤ 3) := by
  unfold ysg
  split
  · omega
  · split
    · omega
    · split
      · omega
      · split
        · omega
        · omega
theorem yOk_sn {q : Int} {G : Int → Int → (Int → Prop) → (Int → Int → (Int → Int) → Int → Prop) → Prop} (h0 : p < q) (h1 : q ≤ n) (h : ∀ v q', 0 ≤ v → v ≤ 3 → p < q' → q' ≤ n → ytx T n q' = q' → yOk T n p (fun E S => G v q' E S)) : yOk T n p (fun E S => ySn T n q E (fun v q' => G v q' E S)) := by
  unfold ySn
  refine yOk_if (fun _ => yOk_e h0 h1) (fun z => ?_)
  have := ynq_r (T := T) (n := n) (q := q) (fun y => z (by rw [y]; rfl))
  have := ysg_r (ylq T n q)
  exact h _ _ (by omega) (by omega) (by omega) (by omega) (ynq_x (fun y => z (by rw [y]; rfl)))
theorem ybits : ∀ b : Nat, b < 1024 → ∀ v : Nat, v < 10 → 0 < zor b (zshl 1 v) ∧ zor b (zshl 1 v) < 1024 := by decide +kernel
theorem ybitsI {b v : Int} (b0 : 0 ≤ b) (b1 : b < 1024) (v0 : 0 ≤ v) (v1 : v < 10) : 0 < zor b (zshl 1 v) ∧ zor b (zshl 1 v) < 1024 := by
  obtain ⟨b, rfl⟩ := Int.eq_ofNat_of_zero_le b0
  obtain ⟨v, rfl⟩ := Int.eq_ofNat_of_zero_le v0
  exact ybits b (by omega) v (by omega)
theorem ybit0 : ∀ v : Nat, v < 10 → zor 0 (zshl 1 v) = zshl 1 v ∧ 0 < zshl 1 v ∧ zshl 1 v < 1024 := by decide +kernel
theorem ybit0I {v : Int} (v0 : 0 ≤ v) (v1 : v < 10) : zor 0 (zshl 1 v) = zshl 1 v ∧ 0 < zshl 1 v ∧ zshl 1 v < 1024 := by
  obtain ⟨v, rfl⟩ := Int.eq_ofNat_of_zero_le v0
  exact ybit0 v (by omega)
theorem yOk_am {G : Int → Int → (Int → Prop) → (Int → Int → (Int → Int) → Int → Prop) → Prop} (h : ∀ bits q', 0 < bits → bits < 1024 → p < q' → q' ≤ n → ytx T n q' = q' → yOk T n p (fun E S => G bits q' E S)) : ∀ (f : Nat) (bits q : Int), 0 < bits → bits < 1024 → p < q → q ≤ n → yOk T n p (fun E S => yAm T n E (fun bits q' => G bits q' E S) f bits q) := by
  intro f
  induction f with
  | zero => intro bits q _ _ h0 h1; exact yOk_e h0 h1
  | succ f ih =>
    intro bits q b0 b1 h0 h1
    rw [show (fun E S => yAm T n E (fun bits q' => G bits q' E S) (f + 1) bits q) = (fun E S => if 49 ≤ ylq T n q ∧ ylq T n q ≤ 57 then yAm T n E (fun bits q' => G bits q' E S) f (zor bits (zshl 1 (ylq T n q - 48))) (ynq T n q) else if ylq T n q = 93 then G bits (ynq T n q) E S else E q) from rfl]
    refine yOk_if (fun z => ?_) (fun _ => yOk_if (fun z => ?_) (fun _ => yOk_e h0 h1))
    · have := ynq_r (T := T) (n := n) (q := q) (by omega)
      have b := ybitsI (b := bits) (v := ylq T n q - 48) (by omega) b1 (by omega) (by omega)
      exact ih _ _ b.1 b.2 (by omega) (by omega)
    · have := ynq_r (T := T) (n := n) (q := q) (by omega)
      exact h bits _ b0 b1 (by omega) (by omega) (ynq_x (by omega))
theorem yLeaf_t (p1 : p < n) (hc : 97 ≤ T p ∧ T p ≤ 99) : yOk T n p (yLeaf T n p) := by
  have l1 : ylq T n p ≠ -1 := by unfold ylq; rw [if_pos p1]; omega
  have q1 := ynq_r (T := T) (n := n) (q := p) l1
  have e : ∀ k x0 x1 x2 x3 x4 x5 x6, k = 0 → yt7 x0 x1 x2 x3 x4 x5 x6 k = x0 := fun k x0 x1 x2 x3 x4 x5 x6 h => by rw [h]; rfl
  unfold yLeaf
  refine yOk_if (fun z => ?_) (fun _ => yOk_if (fun z => ?_) (fun _ => yOk_if (fun z => ?_) (fun _ => yOk_if (fun z => ?_) (fun _ => yOk_if (fun z => ?_) (fun _ => yOk_e q1.1 q1.2)))))
  · have q2 := ynq_r (T := T) (n := n) (q := ynq T n p) (by omega)
    unfold ySvl
    refine yOk_if (fun _ => yOk_e q1.1 q1.2) (fun z1 => yOk_if (fun z2 => yOk_if (fun _ => yOk_e (by omega) q2.2) (fun z3 => ?_)) (fun _ => ?_))
    · have q3 := ynq_r (T := T) (n := n) (q := ynq T n (ynq T n p)) (by omega)
      refine yOk_sn (by omega) (by omega) (fun g q g0 g1 h0 h1 _ => yOk_dg (by decide) h0 h1 (fun v1 q4 a0 a1 h2 h3 _ => yOk_dg (by decide) h2 h3 (fun v2 q5 a2 a3 h4 h5 _ => yOk_dg (by decide) h4 h5 (fun v3 q6 a4 a5 h6 h7 kx => yOk_s h6 h7 kx (by decide) (fun i => ?_)))))
      refine ⟨by decide, fun _ => ⟨g0, g1⟩, fun h => absurd rfl h.2.2, fun h => by omega, fun h => by omega, fun h => by omega, fun h => by omega, fun h => by omega, fun _ => ⟨Or.inr rfl, ?_, ⟨a0, a1⟩, ?_, ⟨a2, a3⟩, fun _ => ⟨?_, ⟨a4, a5⟩⟩⟩, fun h => by omega, fun h => by omega, fun h => by omega⟩
      · show 0 ≤ T p - 97 ∧ T p - 97 ≤ 2
        omega
      · show 0 ≤ ylq T n (ynq T n p) - 97 ∧ ylq T n (ynq T n p) - 97 ≤ 2 ∧ ylq T n (ynq T n p) - 97 ≠ T p - 97
        omega
      · show 0 ≤ ylq T n (ynq T n (ynq T n p)) - 97 ∧ ylq T n (ynq T n (ynq T n p)) - 97 ≤ 2 ∧ ylq T n (ynq T n (ynq T n p)) - 97 ≠ T p - 97 ∧ ylq T n (ynq T n (ynq T n p)) - 97 ≠ ylq T n (ynq T n p) - 97
        omega
    · refine yOk_sn (by omega) (by omega) (fun g q g0 g1 h0 h1 _ => yOk_dg (by decide) h0 h1 (fun v1 q4 a0 a1 h2 h3 _ => yOk_dg (by decide) h2 h3 (fun v2 q5 a2 a3 h4 h5 kx => yOk_s h4 h5 kx (by decide) (fun i => ?_))))
      refine ⟨by decide, fun _ => ⟨g0, g1⟩, fun h => absurd rfl h.2.2, fun h => by omega, fun h => by omega, fun h => by omega, fun h => by omega, fun h => by omega, fun _ => ⟨Or.inl rfl, ?_, ⟨a0, a1⟩, ?_, ⟨a2, a3⟩, fun h => ?_⟩, fun h => by omega, fun h => by omega, fun h => by omega⟩
      · show 0 ≤ T p - 97 ∧ T p - 97 ≤ 2
        omega
      · show 0 ≤ ylq T n (ynq T n p) - 97 ∧ ylq T n (ynq T n p) - 97 ≤ 2 ∧ ylq T n (ynq T n p) - 97 ≠ T p - 97
        omega
      · exact absurd (show (2 : Int) = 3 from h) (by decide)
  · have q2 := ynq_r (T := T) (n := n) (q := ynq T n p) (fun y => z (by rw [y]; rfl))
    have g := (ysg_r (ylq T n (ynq T n p))).resolve_left z
    unfold yCmp
    refine yOk_if (fun z1 => ?_) (fun _ => yOk_dg (by decide) (by omega) q2.2 (fun v q' a0 a1 h0 h1 kx => yOk_s h0 h1 kx (by decide) (fun i => ?_)))
    · have q3 := ynq_r (T := T) (n := n) (q := ynq T n (ynq T n p)) (by omega)
      refine yOk_s (by omega) (by omega) (ynq_x (by omega)) (by decide) (fun i => ?_)
      refine ⟨by decide, fun _ => g, fun h => absurd rfl h.2.1, fun _ => ?_, fun h => by omega, fun h => by omega, fun _ => ?_, fun h => by omega, fun h => by omega, fun h => by omega, fun h => by omega, fun h => by omega⟩
      · show 0 ≤ T p - 97 ∧ T p - 97 ≤ 2
        omega
      · show 0 ≤ ylq T n (ynq T n (ynq T n p)) - 97 ∧ ylq T n (ynq T n (ynq T n p)) - 97 ≤ 2 ∧ ylq T n (ynq T n (ynq T n p)) - 97 ≠ T p - 97
        omega
    · refine ⟨by decide, fun _ => g, fun h => absurd rfl h.1, fun _ => ?_, fun _ => ⟨a0, a1⟩, fun h => by omega, fun h => by omega, fun h => by omega, fun h => by omega, fun h => by omega, fun h => by omega, fun h => by omega⟩
      show 0 ≤ T p - 97 ∧ T p - 97 ≤ 2
      omega
  · have q2 := ynq_r (T := T) (n := n) (q := ynq T n p) (by omega)
    refine yOk_dg (by decide) (by omega) q2.2 (fun v q' a0 a1 h0 h1 _ => ?_)
    have b := ybit0I (v := v) (by omega) (by omega)
    refine yOk_am (G := fun bits q' E S => S 1 (-1) (yt7 (T p - 97) bits (-1) (-1) (-1) (-1) (-1)) q') (fun bits q' b0 b1 h0 h1 kx => yOk_s h0 h1 kx (by decide) (fun i => ?_)) 251 _ q' b.2.1 b.2.2 h0 h1
    refine ⟨by decide, fun h => by omega, fun _ => rfl, fun _ => ?_, fun h => by omega, fun _ => ?_, fun h => by omega, fun h => by omega, fun h => by omega, fun h => by omega, fun h => by omega, fun h => by omega⟩
    · show 0 ≤ T p - 97 ∧ T p - 97 ≤ 2
      omega
    · show 0 ≤ bits ∧ bits ≤ 1023
      omega
  · have q2 := ynq_r (T := T) (n := n) (q := ynq T n p) (by omega)
    refine yOk_s (by omega) q2.2 (ynq_x (by omega)) (by decide) (fun i => ?_)
    refine ⟨by decide, fun h => by omega, fun _ => rfl, fun _ => ?_, fun h => by omega, fun h => by omega, fun h => by omega, fun h => by omega, fun h => by omega, fun h => by omega, fun h => by omega, fun h => by omega⟩
    show 0 ≤ T p - 97 ∧ T p - 97 ≤ 2
    omega
  · have q2 := ynq_r (T := T) (n := n) (q := ynq T n p) (by omega)
    refine yOk_dg (by decide) (by omega) q2.2 (fun mm q' a0 a1 h0 h1 _ => yOk_dg (by decide) h0 h1 (fun r q5 a2 a3 h2 h3 kx => yOk_s h2 h3 kx (by decide) (fun i => ?_)))
    refine ⟨by decide, fun h => by omega, fun _ => rfl, fun _ => ?_, fun h => by omega, fun h => by omega, fun h => by omega, fun _ => ?_, fun h => by omega, fun h => by omega, fun h => by omega, fun h => by omega⟩
    · show 0 ≤ T p - 97 ∧ T p - 97 ≤ 2
      omega
    · show 2 ≤ mm ∧ mm ≤ 9 ∧ 0 ≤ r ∧ r < mm
      omega
end OK
