/-! ===== the law's isFair ===== -/
section FA
variable {d : Nat} {m : ZN} {n N pr : Int} {v : Int → Int} {T : Int → Int → Int} {L : Int} {xs : Int → Int}
/-- the lines found are told to shelf 7, one behind the other, and judged -/
theorem f_417 {c o y3 y4 y5 k : Int} {o10 : Option ZV} {P : Option ZV → ZN → Prop} (E : yE L xs n N pr v T m) (h1 : zr m 213 7 = 2) (h2 : zr m 214 7 = 40) (c0 : 0 ≤ c) (c1 : c < N) (o0 : 0 ≤ o) (o5 : o ≤ 5) (k0 : 0 ≤ k) (k1 : k ≤ 40) (kf : k ≤ ycnt (yPc T v c) n) (h : ∀ M2, yE L xs n N pr v T M2 → P (some (zI 1)) M2) : zwpN (d + 10) 326 417 [some (zA 3), some (zI c), some (zI o), some (zI y3), some (zI y4), some (zI y5), some (zI (ycnt (yPc T v c) n)), some (zI k), some (zI (-1)), some (zI 0), o10] [] m P := by
  obtain ⟨l1, l2, l3⟩ := E.2.1.1
  refine yfor (fun i => ∀ (m : ZN) (y8 : Int) (o10 : Option ZV), yE L xs n N pr v T m → zr m 213 7 = 2 → zr m 214 7 = 40 → (∀ y, 0 ≤ y → y < i → ∀ r, yAt T v n c o y r → zr m 215 (280 + y) = r) → (i = 0 ∧ y8 = -1 ∨ 0 < i ∧ yAt T v n c o (i - 1) y8) → zwpN (d + 10) 326 417 [some (zA 3), some (zI c), some (zI o), some (zI y3), some (zI y4), some (zI y5), some (zI (ycnt (yPc T v c) n)), some (zI k), some (zI y8), some (zI i), o10] [] m P) 0 k k0 (fun i i0 i1 hW m y8 o10 E h1 h2 hs hy => ?_) (fun m y8 o10 E h1 h2 hs hy => ?_) m (-1) o10 E h1 h2 (fun y y0 y1 => by omega) (Or.inl ⟨rfl, rfl⟩)
  · refine w_326_417 ?_
    rw [if_pos i1]
    refine e_found (d := d) E.2 c0 c1 o0 o5 i0 (by omega) (fun M2 r sc hr => ?_)
    have E2 := yE_Sc E sc
    have z213 : zr M2 213 = zr m 213 := sc.fn (fun j => by unfold yscr; omega)
    have z214 : zr M2 214 = zr m 214 := sc.fn (fun j => by unfold yscr; omega)
    have z215 : zr M2 215 = zr m 215 := sc.fn (fun j => by unfold yscr; omega)
    have go : ∀ M3, ySc M2 M3 → zcI (d + 9) 115 [zA 3, zI 7, zI i, zJ r] M3 (fun v6 n5 => zwpN (d + 10) 326 417 [some (zA 3), some (zI c), some (zI o), some (zI y3), some (zI y4), some (zI y5), some (zI (ycnt (yPc T v c) n)), some (zI k), some (zI r), some (zI (zb (i + 1))), some (zI r)] [] n5 P) := fun M3 s3 => by
      have y213 : zr M3 213 = zr m 213 := (s3.fn (fun j => by unfold yscr; omega)).trans z213
      have y214 : zr M3 214 = zr m 214 := (s3.fn (fun j => by unfold yscr; omega)).trans z214
      have y215 : zr M3 215 = zr m 215 := (s3.fn (fun j => by unfold yscr; omega)).trans z215
      refine f_set (d := d) (yE_Sc E2 s3) (by rw [y213]; exact h1) (by rw [y214]; exact h2) i0 (by omega) hr.1 (by have := hr.2.1; omega) (fun M4 E4 q1 q2 q3 => ?_)
      rw [show zb (i + 1) = i + 1 from yb_id (by omega) (by omega)]
      refine hW M4 r _ E4 q1 q2 (fun y y0 y1 s hs' => ?_) (Or.inr ⟨by omega, by rw [show i + 1 - 1 = i by omega]; exact hr⟩)
      rw [q3 y]
      by_cases q : y = i
      · rw [if_pos q]
        rw [q] at hs'
        exact yAt_u E.2 o0 o5 hr hs'
      · rw [if_neg q, y215]
        exact hs y y0 (by omega) s hs'
    rcases hy with ⟨e1, e2⟩ | ⟨e1, e2⟩
    · rw [if_pos (show y8 < 0 by omega)]
      exact go M2 (ySc.refl M2)
    · have hy0 := e2.1
      rw [if_neg (show ¬ y8 < 0 by omega)]
      refine e_behind (d := d) E2.2 c0 c1 o0 o5 e2.1 e2.2.1 (fun M3 b s3 hb => ?_)
      have e3 : b = r := yAt_next (yFc_i E.2 o0 o5) l2 e2 (by rw [show i - 1 + 1 = i by omega]; exact hr) hb
      rw [if_pos e3]
      exact go M3 s3
  · refine w_326_417 ?_
    rw [if_neg (by omega)]
    refine e_judge (d := d) E.2 h1 h2 c0 c1 o0 o5 k0 k1 kf hs (fun M2 sc => ?_)
    have fin := h M2 (yE_Sc E sc)
    by_cases q : k < ycnt (yPc T v c) n
    · rw [if_pos q, if_pos q, if_pos rfl, yck_of (by decide)]
      exact fin
    · rw [if_neg q, if_neg q, if_pos rfl, yck_of (by decide)]
      exact fin
/-- plans of 1 to 4 runs -/
theorem f_281 {c o y4 y5 : Int} {o8 : Option ZV} {P : Option ZV → ZN → Prop} (E : yE L xs n N pr v T m) (c0 : 0 ≤ c) (c1 : c < N) (o0 : 0 ≤ o) (o5 : o ≤ 5) (h : ∀ M2, yE L xs n N pr v T M2 → P (some (zI 1)) M2) : zwpN (d + 10) 326 281 [some (zA 3), some (zI c), some (zI o), some (zI (yrc (yTo T c o) 1000)), some (zI y4), some (zI y5), some (zI (ycnt (yPc T v c) n)), some (zI 1), o8, none, none] [] m P := by
  obtain ⟨l1, l2, l3⟩ := E.2.1.1
  have cr := ycnt_r (yPc T v c) l2
  refine yfor (fun x => ∀ m : ZN, yE L xs n N pr v T m → zwpN (d + 10) 326 281 [some (zA 3), some (zI c), some (zI o), some (zI (yrc (yTo T c o) 1000)), some (zI y4), some (zI y5), some (zI (ycnt (yPc T v c) n)), some (zI x), o8, none, none] [] m P) 1 5 (by decide) (fun x x1 x5 hW m E => ?_) (fun m E => ?_) m E
  · refine w_326_281 ?_
    rw [if_pos x5]
    refine e_of1 (d := d) E.2 c0 c1 o0 o5 x1 (by omega) (fun M1 a1 s1 R1 => ?_)
    have E1 := yE_Sc E s1
    refine e_of2 (d := d) E1.2 c0 c1 o0 o5 x1 (by omega) (fun M2 a2 s2 R2 => ?_)
    have E2 := yE_Sc E1 s2
    rw [yLr_u R2 R1 x1, show yLr (yTo T c o) a1 v n o x - (yLr (yTo T c o) a1 v n o x - ycnt (yPc T v c) n) = ycnt (yPc T v c) n by omega, show zb (ycnt (yPc T v c) n) = ycnt (yPc T v c) n from yb_id (by omega) (by omega), if_pos rfl]
    refine e_planN (d := d) E2.2 c0 c1 o0 o5 x1 (by omega) (fun M3 s3 => ?_)
    have E3 := yE_Sc E2 s3
    have go : zcI (d + 9) 148 [zA 3, zI c, zI o, zI x, zI 0] M3 (fun v20 n19 => zcI (d + 9) 148 [zA 3, zI c, zI o, zI (zb (x + 1)), zI 0] n19 (fun v22 n21 => if v20 < v22 then zck ((0 : Int) ≤ 0 ∧ (0 : Int) ≤ 1) (P (some (zI 0)) n21) else zcI (d + 9) 148 [zA 3, zI c, zI o, zI x, zI 3] n21 (fun v24 n23 => zcI (d + 9) 149 [zA 3, zI c, zI o, zI 1] n23 (fun v26 n25 => if v24 < v26 then zck ((0 : Int) ≤ 0 ∧ (0 : Int) ≤ 1) (P (some (zI 0)) n25) else zwpN (d + 10) 326 281 [some (zA 3), some (zI c), some (zI o), some (zI (yrc (yTo T c o) 1000)), some (zI y4), some (zI y5), some (zI (ycnt (yPc T v c) n)), some (zI (zb (x + 1))), o8, none, none] [] n25 P)))) := by
      rw [show zb (x + 1) = x + 1 from yb_id (by omega) (by omega)]
      refine e_of0 (d := d) E3.2 c0 c1 o0 o5 x1 (by omega) (fun M4 a4 s4 R4 => ?_)
      have E4 := yE_Sc E3 s4
      refine e_of0 (d := d) E4.2 c0 c1 o0 o5 (by omega) (by omega) (fun M5 a5 s5 R5 => ?_)
      have E5 := yE_Sc E4 s5
      rw [if_neg (by have := yOf0_le R4 R5 x1; omega)]
      refine e_of3 (d := d) E5.2 c0 c1 o0 o5 x1 (by omega) (fun M6 a6 s6 R6 => ?_)
      have E6 := yE_Sc E5 s6
      refine e_best1 (d := d) E6.2 c0 c1 o0 o5 (fun M7 a7 b s7 R7 hb => ?_)
      have hle := hb.2.2.1 x x1 (by omega)
      rw [yCs_u R6 R7 x1, if_neg (by omega)]
      exact hW M7 (yE_Sc E6 s7)
    by_cases q : yrc (yTo T c o) 1000 < x
    · rw [if_pos q, if_pos (by omega)]
      exact go
    · rw [if_neg q, if_pos (by omega)]
      exact go
  · refine w_326_281 ?_
    rw [if_neg (by decide)]
    by_cases q : ycnt (yPc T v c) n < 40
    · rw [if_pos q]
      exact f_row (d := d) E (fun M2 E2 q1 q2 => f_417 E2 q1 q2 c0 c1 o0 o5 cr.1 (by omega) (Int.le_refl _) h)
    · rw [if_neg q]
      exact f_row (d := d) E (fun M2 E2 q1 q2 => f_417 E2 q1 q2 c0 c1 o0 o5 (by decide) (by decide) (by omega) h)
end FA
