/-! ===== the true memory and a ghost that holds the reference, too ===== -/
theorem zcI_w {d k : Nat} {a : ZS} {m : ZN} {K K' : Int → ZN → Prop} (h : zcI d k a m K) (f : ∀ v m1, K v m1 → K' v m1) : zcI d k a m K' := by
  obtain ⟨n, x, m1, h1, h2⟩ := h
  exact ⟨n, x, m1, h1, f _ _ h2⟩
theorem zcI_and {d k : Nat} {a : ZS} {m : ZN} {K K' : Int → ZN → Prop} (h : zcI d k a m K) (h' : zcI d k a m K') : zcI d k a m (fun v m1 => K v m1 ∧ K' v m1) := by
  obtain ⟨n, x, m1, h1, h2⟩ := h
  obtain ⟨n', x', m1', h1', h2'⟩ := h'
  have e := zbody_det h1 h1'
  obtain ⟨e1, e2⟩ := Prod.mk.inj e
  cases e1
  have e3 : m1 = m1' := Subtype.ext e2
  subst e3
  exact ⟨n, x, m1, h1, h2, h2'⟩
def yD (L : Int) (xs : Int → Int) (m : ZN) : Prop := ∃ m2, zsm m m2 ∧ yInv L xs m2
theorem yD_Sc {L : Int} {xs : Int → Int} {m m' : ZN} (h : yD L xs m) (s : ySc m m') : yD L xs m' := by
  obtain ⟨m2, hm, I⟩ := h
  have hz : zok (fun a j => if a < 236 then m'.1 a j else m2.1 a j) := fun a j p hp => by
    show (if a < 236 then m'.1 a j else m2.1 a j) = p
    split
    · exact m'.2 a j p hp
    · exact m2.2 a j p hp
  refine ⟨⟨_, hz⟩, fun a ha j => (if_pos ha).symm, yInv_Sc I (fun a j q => ?_)⟩
  show (if a < 236 then m'.1 a j else m2.1 a j) = m2.1 a j
  by_cases ha : a < 236
  · rw [if_pos ha]
    exact (s a j q).trans (hm a ha j)
  · rw [if_neg ha]
/-- a pair under a ghost -/
theorem yD_p {d d2 k k2 : Nat} {args args2 : ZS} {m : ZN} {L : Int} {xs : Int → Int} (h : yD L xs m) (hk : zSc k = true) (ha : zarg zcls args = true) (hk2 : zSr k2 = true) (ha2 : zarg zref args2 = true) (p : ∀ m2, yInv L xs m2 → zcI d k args m2 (fun v m1 => zcI d2 k2 args2 m1 (fun v2 m3 => v = v2 ∧ yInv L xs m3))) : zcI d k args m (fun _ m3 => yD L xs m3) := by
  obtain ⟨m2, hm, I⟩ := h
  exact zcI_w (zcI_p hk ha hk2 ha2 hm (p m2 I)) (fun v m1 ⟨m4, v2, s, e, I4⟩ => ⟨m4, s, I4⟩)
/-- the class' object, with what it holds -/
def yE (L : Int) (xs : Int → Int) (n N pr : Int) (v : Int → Int) (T : Int → Int → Int) (m : ZN) : Prop := yD L xs m ∧ yG n N pr v T m
theorem yE_Sc {L : Int} {xs : Int → Int} {n N pr : Int} {v : Int → Int} {T : Int → Int → Int} {m m' : ZN} (h : yE L xs n N pr v T m) (s : ySc m m') : yE L xs n N pr v T m' := ⟨yD_Sc h.1 s, yG_Sc h.2 s⟩
section QF
variable {d : Nat} {m : ZN} {n N pr : Int} {v : Int → Int} {T : Int → Int → Int} {L : Int} {xs : Int → Int}
theorem f_row {K : Int → ZN → Prop} (E : yE L xs n N pr v T m) (h : ∀ M2, yE L xs n N pr v T M2 → zr M2 213 7 = 2 → zr M2 214 7 = 40 → K 1 M2) : zcI (d + 9) 114 [zA 3, zI 7, zI 2, zI 40] m K := by
  refine zcI_w (zcI_and (e_row (d := d) (K := fun r M2 => r = 1 ∧ (∀ a, a ≠ 213 → a ≠ 214 → a ≠ 215 → zr M2 a = zr m a) ∧ zr M2 213 7 = 2 ∧ zr M2 214 7 = 40) (fun M2 a b c => ⟨rfl, a, b, c⟩)) (yD_p (d := d + 9) (d2 := d + 9) (k2 := 196) (args2 := [zA 236, zI 7, zI 2, zI 40]) E.1 rfl rfl rfl rfl (fun m2 I => p_row I (fun r m3 I3 => ⟨rfl, I3⟩) 7 2 40))) (fun r M2 ⟨⟨e, f, a, b⟩, D⟩ => ?_)
  rw [e]
  exact h M2 ⟨D, yG_f E.2 f⟩ a b
theorem f_set {i x : Int} {K : Int → ZN → Prop} (E : yE L xs n N pr v T m) (h1 : zr m 213 7 = 2) (h2 : zr m 214 7 = 40) (i0 : 0 ≤ i) (i1 : i < 40) (x0 : 0 ≤ x) (x1 : x < 60) (h : ∀ M2, yE L xs n N pr v T M2 → zr M2 213 7 = 2 → zr M2 214 7 = 40 → (∀ y, zr M2 215 (280 + y) = if y = i then x else zr m 215 (280 + y)) → K 1 M2) : zcI (d + 9) 115 [zA 3, zI 7, zI i, zJ x] m K := by
  refine zcI_w (zcI_and (e_set (d := d) (K := fun r M2 => r = 1 ∧ (∀ a, a ≠ 215 → zr M2 a = zr m a) ∧ (∀ y, zr M2 215 (280 + y) = if y = i then x else zr m 215 (280 + y))) h1 h2 i0 i1 x0 x1 (fun M2 a b => ⟨rfl, a, b⟩)) (yD_p (d := d + 9) (d2 := d + 9) (k2 := 199) (args2 := [zA 236, zI 7, zI i, zJ x]) E.1 rfl rfl rfl rfl (fun m2 I => p_set I (fun r m3 I3 => ⟨rfl, I3⟩) 7 i x))) (fun r M2 ⟨⟨e, f, a⟩, D⟩ => ?_)
  rw [e]
  exact h M2 ⟨D, yG_f E.2 (fun a _ _ q => f a q)⟩ (by rw [f 213 (by decide)]; exact h1) (by rw [f 214 (by decide)]; exact h2) a
end QF
