/-! ===== pair: a condition on several columns ===== -/
theorem ySc.sn2 {m M : ZN} (h : ySc m M) (a j v : Int) : ySc (zsn m a j v) (zsn M a j v) := fun a' j' q => by
  rw [zr_zsn, zr_zsn, h a' j' q]
/-- a refusal, with places that no call needs changed before the reference counts it -/
theorem p_ref2 {L : Int} {xs : Int → Int} {m M2 : ZN} {x : Int} {Q : ZN → Prop} (h1 : -106 ≤ x) (h2 : x ≤ -102) (I : yInv L xs m) (hQ : ∀ m2, yInv L xs m2 → Q m2) (h : ySc (zsn m 234 (-102 - x) (zb (zr m 234 (-102 - x) + 1))) M2) : Q (zsn M2 252 (-x - 100) (zb (zr M2 252 (-x - 100) + 1))) := by
  have I2 : yInv L xs (zsn (zsn m 234 (-102 - x) (zb (zr m 234 (-102 - x) + 1))) 252 (-x - 100) (zb (zr m 252 (-x - 100) + 1))) := p_ref h1 h2 I (fun _ h => h)
  have e : zr M2 252 (-x - 100) = zr m 252 (-x - 100) := by rw [h 252 _ (by unfold yscr; omega), yr_sc (by decide)]
  rw [e]
  exact hQ _ (yInv_Sc I2 (h.sn2 _ _ _))
section PI
variable {d : Nat} {m : ZN} {L : Int} {xs : Int → Int} {Q : Int → Int → ZN → Prop}
theorem yte_2 {e : Int → Int} (h : yte e 2 0 0 = true) : ((0 ≤ e 0 ∧ e 0 ≤ 2) ∧ 1 ≤ e 1 ∧ e 1 ≤ 9) ∧ ((0 ≤ e 2 ∧ e 2 ≤ 2) ∧ 1 ≤ e 3 ∧ e 3 ≤ 9) ∧ e 2 ≠ e 0 := by
  rw [yte_s, yte_s, Bool.and_eq_true, Bool.and_eq_true, decide_eq_true_eq, decide_eq_true_eq] at h
  obtain ⟨⟨a1, a2, a3⟩, ⟨b1, b2, b3⟩, _⟩ := h
  have a1 : 0 ≤ e 0 ∧ e 0 ≤ 2 := a1
  have b1 : 0 ≤ e 2 ∧ e 2 ≤ 2 := b1
  have b3 : zand (zor 0 (zshl 1 (e 0))) (zshl 1 (e 2)) = 0 := b3
  obtain ⟨_, _, _, x⟩ := ymskI (y := 0) (by decide) (by decide) a1.1 a1.2
  exact ⟨⟨a1, a2⟩, ⟨b1, b2⟩, ((x _ b1.1 (by omega)).1 b3).2⟩
theorem yte_3 {e : Int → Int} (h : yte e 3 0 0 = true) : (((0 ≤ e 0 ∧ e 0 ≤ 2) ∧ 1 ≤ e 1 ∧ e 1 ≤ 9) ∧ ((0 ≤ e 2 ∧ e 2 ≤ 2) ∧ 1 ≤ e 3 ∧ e 3 ≤ 9) ∧ e 2 ≠ e 0) ∧ ((0 ≤ e 4 ∧ e 4 ≤ 2) ∧ 1 ≤ e 5 ∧ e 5 ≤ 9) ∧ e 4 ≠ e 0 ∧ e 4 ≠ e 2 := by
  rw [yte_s, yte_s, yte_s, Bool.and_eq_true, Bool.and_eq_true, Bool.and_eq_true, decide_eq_true_eq, decide_eq_true_eq, decide_eq_true_eq] at h
  obtain ⟨⟨a1, a2, a3⟩, ⟨b1, b2, b3⟩, ⟨c1, c2, c3⟩, _⟩ := h
  have a1 : 0 ≤ e 0 ∧ e 0 ≤ 2 := a1
  have b1 : 0 ≤ e 2 ∧ e 2 ≤ 2 := b1
  have c1 : 0 ≤ e 4 ∧ e 4 ≤ 2 := c1
  have b3 : zand (zor 0 (zshl 1 (e 0))) (zshl 1 (e 2)) = 0 := b3
  have c3 : zand (zor (zor 0 (zshl 1 (e 0))) (zshl 1 (e 2))) (zshl 1 (e 4)) = 0 := c3
  obtain ⟨_, y0, y1, x⟩ := ymskI (y := 0) (by decide) (by decide) a1.1 a1.2
  obtain ⟨_, _, _, x2⟩ := ymskI y0 y1 b1.1 b1.2
  have z := (x2 _ c1.1 (by omega)).1 c3
  exact ⟨⟨⟨a1, a2⟩, ⟨b1, b2⟩, ((x _ b1.1 (by omega)).1 b3).2⟩, ⟨c1, c2⟩, ((x _ c1.1 (by omega)).1 z.1).2, z.2⟩
end PI
