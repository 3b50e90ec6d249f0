/-! ===== the class' answers: found, behind, same, plan, of, best ===== -/
section QB
variable {d : Nat} {m : ZN} {n N pr : Int} {v : Int → Int} {T : Int → Int → Int}
/-- is line l one that the condition holds of; the order of the lines -/
def yPc (T : Int → Int → Int) (v : Int → Int) (c : Int) : Int → Bool := fun l => decide (T c (yk3 v l 0) = 1)
def yFc (v : Int → Int) (o : Int) : Int → Int := fun l => ycode 0 (yk3 v l o) l
theorem yFc_r (G : yG n N pr v T m) {o i : Int} (i0 : 0 ≤ i) (i1 : i < n) (o0 : 0 ≤ o) (o5 : o ≤ 5) : 0 ≤ yFc v o i ∧ yFc v o i < 100000000 ∧ yFc v o i % 100 = i := by
  have hk := yG_k G (o := o) i0 i1 o0 o5
  exact ycode_r hk.2.1 hk.2.2 i0 (by have := G.1.1; omega)
theorem e_47 (G : yG n N pr v T m) {c o : Int} {K : ZN → Prop} (c0 : 0 ≤ c) (c1 : c < N) (o0 : 0 ≤ o) (o5 : o ≤ 5) (h : ∀ M2, ySc m M2 → yRk (yPc T v c) (yFc v o) (zr M2 233) n (zr M2 232 1) → K M2) : zcV (d + 3) 47 [zA 232, zA 4, zA (10 + 4 * c), zI o, zI 0] m K := by
  obtain ⟨n1, n2, n3⟩ := G.2.2.1
  obtain ⟨l1, l2, l3⟩ := G.1.1
  refine c_47 (isC_l c0 (by omega)) o0 o5 (by omega) (by omega) (yG_v G) (fun M2 cc e1 e2 R => ?_)
  refine h M2 (fun a j q => by rw [e1 a (by unfold yscr at q; omega) (by unfold yscr at q; omega)]) ?_
  rw [e2, ← l1]
  refine yRk_c R (fun i i0 i1 => ?_)
  rw [l1] at i1
  obtain ⟨k1, k2, k3⟩ := yG_k G (o := 0) i0 i1 (by decide) (by decide)
  obtain ⟨j1, j2, j3⟩ := yG_k G (o := o) i0 i1 o0 o5
  refine ⟨?_, ?_⟩
  · show decide (yTw (zr m (10 + 4 * c + 1)) (yk3 (zr m 5) i 0) = 1) = decide (T c (yk3 v i 0) = 1)
    rw [k1, (G.2.2.2 c c0 c1 _ k2 k3).1]
  · show ycode 0 (yk3 (zr m 5) i o) i = ycode 0 (yk3 v i o) i
    rw [j1]
theorem e_foundN (G : yG n N pr v T m) {c o : Int} {K : Int → ZN → Prop} (c0 : 0 ≤ c) (c1 : c < N) (o0 : 0 ≤ o) (o5 : o ≤ 5) (h : ∀ M2, ySc m M2 → K (ycnt (yPc T v c) n) M2) : zcI (d + 9) 153 [zA 3, zI c, zI o, zI (-1)] m K := by
  have z10 : ¬ (1 : Int) = 0 := by decide
  obtain ⟨n1, n2, n3⟩ := G.2.2.1
  refine w_153 ?_
  rw [e_170 (d := d + 6) G c0 c1 o0 o5, if_neg z10, c_24 (d := d + 7) c0 (by omega)]
  refine e_47 (d := d + 5) G c0 c1 o0 o5 (fun M2 sc R => ?_)
  rw [if_pos rfl, R.1.2]
  exact h M2 sc
/-- line r stands at place x among those found -/
def yAt (T : Int → Int → Int) (v : Int → Int) (n c o x r : Int) : Prop := 0 ≤ r ∧ r < n ∧ yPc T v c r = true ∧ ycnt (fun j => yPc T v c j && decide (yFc v o j < yFc v o r)) n = x
theorem e_found (G : yG n N pr v T m) {c o x : Int} {K : Int → ZN → Prop} (c0 : 0 ≤ c) (c1 : c < N) (o0 : 0 ≤ o) (o5 : o ≤ 5) (x0 : 0 ≤ x) (x1 : x < ycnt (yPc T v c) n) (h : ∀ M2 r, ySc m M2 → yAt T v n c o x r → K r M2) : zcI (d + 9) 153 [zA 3, zI c, zI o, zI x] m K := by
  have z10 : ¬ (1 : Int) = 0 := by decide
  obtain ⟨n1, n2, n3⟩ := G.2.2.1
  obtain ⟨l1, l2, l3⟩ := G.1.1
  have cr := ycnt_r (yPc T v c) l2
  refine w_153 ?_
  rw [e_170 (d := d + 6) G c0 c1 o0 o5, if_neg z10, c_24 (d := d + 7) c0 (by omega)]
  refine e_47 (d := d + 5) G c0 c1 o0 o5 (fun M2 sc R => ?_)
  have cc := R.1
  rw [if_neg (by omega), c_181, show zb (zr M2 232 1 - 1) = zr M2 232 1 - 1 from yb_id (by omega) (by omega), if_pos (show 0 ≤ x ∧ x ≤ zr M2 232 1 - 1 from ⟨x0, by omega⟩), if_neg z10]
  have hx := yRk_p R x0 (by omega)
  obtain ⟨i, i0, i1, i2, i3⟩ := R.2.2.1 x x0 (by omega)
  have fr := yFc_r G (o := o) i0 i1 o0 o5
  rw [c_49 x0 (by omega) (by rw [i3]; exact fr.1), i3, fr.2.2]
  rw [i3] at hx
  exact h M2 i sc ⟨i0, i1, i2, hx⟩
theorem e_behind (G : yG n N pr v T m) {c o x : Int} {K : Int → ZN → Prop} (c0 : 0 ≤ c) (c1 : c < N) (o0 : 0 ≤ o) (o5 : o ≤ 5) (x0 : 0 ≤ x) (x1 : x < n) (h : ∀ M2 r, ySc m M2 → yBh (yPc T v c) (yFc v o) (yFc v o x) n r → K r M2) : zcI (d + 9) 155 [zA 3, zI c, zI o, zI x] m K := by
  have z10 : ¬ (1 : Int) = 0 := by decide
  obtain ⟨n1, n2, n3⟩ := G.2.2.1
  obtain ⟨l1, l2, l3⟩ := G.1.1
  have cr := ycnt_r (yPc T v c) l2
  refine w_155 ?_
  rw [e_170 (d := d + 6) G c0 c1 o0 o5, if_neg z10, c_33 (d := d + 7) (by omega) (by omega), if_pos (show 0 ≤ x ∧ x < zr m 4 1 from ⟨x0, by omega⟩), if_neg z10, c_24 (d := d + 7) c0 (by omega)]
  refine e_47 (d := d + 5) G c0 c1 o0 o5 (fun M2 sc R => ?_)
  have cc := R.1
  have G2 := yG_Sc G sc
  obtain ⟨l1', l2', l3'⟩ := G2.1.1
  have hk := yG_k G2 (o := o) x0 x1 o0 o5
  have fr := fun i i0 i1 => yFc_r G (o := o) (i := i) i0 i1 o0 o5
  rw [c_39 (d := d + 7) x0 (by omega) (by omega) o0 o5 (yG_v G2), hk.1, c_46 hk.2.1 hk.2.2 x0 (by omega)]
  refine c_50 (d := d + 7) (a := zr M2 233) rfl cc.1 (by omega) (fun _ _ _ => rfl) (fun z z0 z1 => ?_) (fun z z0 z1 k1 k2 => ?_) (fun k => ?_)
  · obtain ⟨i, i0, i1, i2, i3⟩ := R.2.2.1 z z0 z1
    rw [i3]; exact (fr i i0 i1).1
  · obtain ⟨i, i0, i1, i2, i3⟩ := R.2.2.1 z z0 z1
    rw [i3, (fr i i0 i1).2.2]
    refine h M2 i sc (Or.inr ⟨i0, i1, i2, by rw [← i3]; exact k2, fun j j0 j1 jp jw => ?_⟩)
    obtain ⟨y, y0, y1, y2⟩ := R.2.2.2.2 j j0 j1 jp
    rw [← i3]
    have h2 : zr M2 233 z ≤ zr M2 233 y := by
      by_cases q : y < z
      · have := k1 y y0 q
        have jw : yFc v o x < yFc v o j := jw
        have e : ycode 0 (yk3 v x o) x = yFc v o x := rfl
        omega
      · by_cases q4 : y = z
        · rw [q4]; exact Int.le_refl _
        · have := R.2.1 z y z0 (by omega) y1
          omega
    omega
  · refine h M2 (-1) sc (Or.inl ⟨rfl, fun j j0 j1 jp => ?_⟩)
    obtain ⟨y, y0, y1, y2⟩ := R.2.2.2.2 j j0 j1 jp
    have := k y y0 y1
    have e : ycode 0 (yk3 v x o) x = yFc v o x := rfl
    omega
end QB
