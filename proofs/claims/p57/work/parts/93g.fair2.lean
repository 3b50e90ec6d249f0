/-! ===== the law's isFair, whole ===== -/
section FB
variable {d : Nat} {m : ZN} {n N pr : Int} {v : Int → Int} {T : Int → Int → Int} {L : Int} {xs : Int → Int}
theorem ydm {F G : Int} (f0 : 0 ≤ F) (f1 : F < 1000) (g0 : 0 ≤ G) (g1 : G < 1000) : zb (Int.tdiv (1000 * F + G) 1000) = F ∧ Int.tmod (1000 * F + G) 1000 = G := by
  have e1 : Int.tdiv (1000 * F + G) 1000 = F := by rw [Int.tdiv_eq_ediv_of_nonneg (by omega)]; omega
  have e2 : Int.tmod (1000 * F + G) 1000 = G := by rw [Int.tmod_eq_emod_of_nonneg (by omega)]; omega
  rw [e1, e2]
  exact ⟨yb_id (by omega) (by omega), rfl⟩
theorem f_73 {c o : Int} {o7 o8 : Option ZV} {P : Option ZV → ZN → Prop} (E : yE L xs n N pr v T m) (c0 : 0 ≤ c) (c1 : c < N) (o0 : 0 ≤ o) (o5 : o ≤ 5) (h : ∀ M2, yE L xs n N pr v T M2 → P (some (zI 1)) M2) : zwpN (d + 10) 326 73 [some (zA 3), some (zI c), some (zI o), some (zI (yrc (yTo T c o) 1000)), some (zI 0), some (zI (-2)), some (zI 0), o7, o8, none, none] [] m P := by
  obtain ⟨l1, l2, l3⟩ := E.2.1.1
  have hr := yrc_r (yTo T c o) 1000
  have ho := (yr_ord (yTo T c o) 1000).1
  have hc9 := fun b => ycnt_r (fun k => decide (yTo T c o k = 1)) (n := b)
  refine yfor (fun i => ∀ (m : ZN) (e s : Int) (o7 o8 : Option ZV), yE L xs n N pr v T m → (i = 0 ∧ e = -2 ∧ s = 0 ∨ 0 < i ∧ e = yrL (yTo T c o) 1000 (i - 1) ∧ s = ycnt (fun k => decide (yTo T c o k = 1)) (e + 1)) → zwpN (d + 10) 326 73 [some (zA 3), some (zI c), some (zI o), some (zI (yrc (yTo T c o) 1000)), some (zI s), some (zI e), some (zI i), o7, o8, none, none] [] m P) 0 (yrc (yTo T c o) 1000) hr.1 (fun i i0 i1 hW m e s o7 o8 E hy => ?_) (fun m e s o7 o8 E hy => ?_) m (-2) 0 o7 o8 E (Or.inl ⟨rfl, rfl, rfl⟩)
  · obtain ⟨f0, f1, f2, f3⟩ := ho i i0 i1
    obtain ⟨dm1, dm2⟩ := ydm f0 (by omega) (show 0 ≤ yrL (yTo T c o) 1000 i by omega) (by omega)
    have hend : e + 1 < yrF (yTo T c o) 1000 i ∧ -2 ≤ e := by
      rcases hy with ⟨a1, a2, a3⟩ | ⟨a1, a2, a3⟩
      · omega
      · have := (ho (i - 1) (by omega) (by omega)).2.2.2 (by omega)
        rw [show i - 1 + 1 = i by omega] at this
        have := ho (i - 1) (by omega) (by omega)
        omega
    have hlo : i = 0 ∨ yrL (yTo T c o) 1000 (i - 1) < max (e + 1) 0 := by
      rcases hy with ⟨a1, a2, a3⟩ | ⟨a1, a2, a3⟩
      · exact Or.inl a1
      · exact Or.inr (by omega)
    have hsum : s = ycnt (fun k => decide (yTo T c o k = 1)) (max (e + 1) 0) := by
      rcases hy with ⟨a1, a2, a3⟩ | ⟨a1, a2, a3⟩
      · rw [a2, a3]; rfl
      · have := ho (i - 1) (by omega) (by omega)
        rw [a3, Int.max_eq_left (by omega)]
    have tF : yTo T c o (yrF (yTo T c o) 1000 i) = 1 := (yr_t f0 (by omega)).2 ⟨i, i0, i1, Int.le_refl _, f1⟩
    have tL : yTo T c o (yrL (yTo T c o) 1000 i) = 1 := (yr_t (by omega) (by omega)).2 ⟨i, i0, i1, f1, Int.le_refl _⟩
    have cnt := yr_cnt (t := yTo T c o) i0 i1 (b := max (e + 1) 0) (by omega) (by omega) hlo
    refine w_326_73 ?_
    rw [if_pos i1]
    refine e_run (d := d) E.2 c0 c1 o0 o5 i0 i1 (fun M1 s1 => ?_)
    have E1 := yE_Sc E s1
    rw [yck_of (by decide)]
    refine e_run (d := d) E1.2 c0 c1 o0 o5 i0 i1 (fun M2 s2 => ?_)
    have E2 := yE_Sc E1 s2
    rw [yck_of (by decide), dm1, dm2, e_truth (d := d) E2.2 c0 c1 o0 o5 f0 (by omega), if_pos (show T c (ypl o (yrF (yTo T c o) 1000 i)) = 1 from tF), e_truth (d := d) E2.2 c0 c1 o0 o5 (by omega) (by omega), if_pos (show T c (ypl o (yrL (yTo T c o) 1000 i)) = 1 from tL)]
    have sk0 : yfnd (fun p => decide (yTo T c o p = 1)) (max (e + 1) 0) 1000 = yrF (yTo T c o) 1000 i := by
      rcases yfnd_r (fun p => decide (yTo T c o p = 1)) (a := max (e + 1) 0) (n := 1000) (by omega) (by omega) with ⟨-, g⟩ | ⟨g1, g2, g3, g4⟩
      · have := g (yrF (yTo T c o) 1000 i) (by omega) (by omega)
        exact absurd tF (of_decide_eq_false this)
      · by_cases q : yfnd (fun p => decide (yTo T c o p = 1)) (max (e + 1) 0) 1000 < yrF (yTo T c o) 1000 i
        · exact absurd (of_decide_eq_true g3) (yr_gap i0 (by omega) (by omega) g2 (by
            rcases hlo with z | z
            · exact Or.inl z
            · exact Or.inr (by omega)) (Or.inr q))
        · by_cases q2 : yfnd (fun p => decide (yTo T c o p = 1)) (max (e + 1) 0) 1000 = yrF (yTo T c o) 1000 i
          · exact q2
          · have := g4 (yrF (yTo T c o) 1000 i) (by omega) (by omega)
            exact absurd tF (of_decide_eq_false this)
    have sk1 : ylst (fun p => decide (yTo T c o p = 1)) (min (yrL (yTo T c o) 1000 i) 999 + 1) = yrL (yTo T c o) 1000 i := by
      rw [Int.min_eq_left (by omega)]
      exact ylst_t (by omega) (decide_eq_true tL)
    have eb : zb (e + 1) = e + 1 := yb_id (by omega) (by omega)
    have hcb := hc9 (max (e + 1) 0) (by omega)
    have es : zb (s + zb (zb (yrL (yTo T c o) 1000 i - yrF (yTo T c o) 1000 i) + 1)) = ycnt (fun k => decide (yTo T c o k = 1)) (yrL (yTo T c o) 1000 i + 1) := by
      rw [show zb (yrL (yTo T c o) 1000 i - yrF (yTo T c o) 1000 i) = yrL (yTo T c o) 1000 i - yrF (yTo T c o) 1000 i from yb_id (by omega) (by omega), show zb (yrL (yTo T c o) 1000 i - yrF (yTo T c o) 1000 i + 1) = yrL (yTo T c o) 1000 i - yrF (yTo T c o) 1000 i + 1 from yb_id (by omega) (by omega), hsum, cnt]
      exact yb_id (by omega) (by omega)
    have nxt := fun o7 o8 => hW M2 (yrL (yTo T c o) 1000 i) _ o7 o8 E2 (Or.inr ⟨by omega, by rw [show i + 1 - 1 = i by omega], rfl⟩)
    have ei : zb (i + 1) = i + 1 := yb_id (by omega) (by omega)
    by_cases q9 : yrL (yTo T c o) 1000 i < 999
    · have tN : ¬ yTo T c o (yrL (yTo T c o) 1000 i + 1) = 1 := yr_gap (i := i + 1) (by omega) (by omega) (by omega) (by omega) (Or.inr (by rw [show i + 1 - 1 = i by omega]; omega)) (by
        by_cases z : i + 1 = yrc (yTo T c o) 1000
        · exact Or.inl z
        · exact Or.inr (f3 (by omega)))
      rw [if_pos q9, show zb (yrL (yTo T c o) 1000 i + 1) = yrL (yTo T c o) 1000 i + 1 from yb_id (by omega) (by omega), e_truth (d := d) E2.2 c0 c1 o0 o5 (by omega) (by omega), if_neg (show ¬ T c (ypl o (yrL (yTo T c o) 1000 i + 1)) = 1 from tN), eb, if_pos hend.1, e_seek0 (d := d) E2.2 c0 c1 o0 o5, if_pos sk0, e_seek1 (d := d) E2.2 c0 c1 o0 o5 (by omega), if_pos sk1, es, ei]
      exact nxt _ _
    · rw [if_neg q9, eb, if_pos hend.1, e_seek0 (d := d) E2.2 c0 c1 o0 o5, if_pos sk0, e_seek1 (d := d) E2.2 c0 c1 o0 o5 (by omega), if_pos sk1, es, ei]
      exact nxt _ _
  · have hs : s = ycnt (fun k => decide (T c k = 1)) 1000 := by
      rw [← yto_cnt T c o0 o5]
      rcases hy with ⟨a1, a2, a3⟩ | ⟨a1, a2, a3⟩
      · rw [a3, ycnt_0b (p := fun k => decide (yTo T c o k = 1)) (a := 0) (b := 1000) (by decide) (by decide) (fun k k0 k1 => decide_eq_false (yr_gap (i := 0) (by decide) hr.1 k0 k1 (Or.inl rfl) (Or.inl a1.symm)))]
        rfl
      · have ht := ho (yrc (yTo T c o) 1000 - 1) (by omega) (by omega)
        rw [a3, a2]
        exact (ycnt_0b (p := fun k => decide (yTo T c o k = 1)) (a := yrL (yTo T c o) 1000 (yrc (yTo T c o) 1000 - 1) + 1) (b := 1000) (by omega) (by omega) (fun k k0 k1 => decide_eq_false (yr_gap (i := yrc (yTo T c o) 1000) hr.1 (Int.le_refl _) (by omega) k1 (Or.inr (by omega)) (Or.inl rfl)))).symm
    refine w_326_73 ?_
    rw [if_neg (by omega), e_lines (d := d) E.2 c0 c1 (by decide) (by decide), e_keys (d := d) E.2 c0 c1 (by decide) (by decide), if_pos hs]
    refine e_foundN (d := d) E.2 c0 c1 o0 o5 (fun M2 s2 => ?_)
    have E2 := yE_Sc E s2
    rw [if_pos (show ycnt (yPc T v c) n = ycnt (fun l => decide (T c (yk3 v l 0) = 1)) n from rfl)]
    refine e_same (d := d) E2.2 c0 c1 (fun r r0 r1 => ?_)
    have i1 : yfnd (fun p => decide (T c p = 1 ∧ T c p ≠ 1)) 0 1000 = -1 := by
      rcases yfnd_r (fun p => decide (T c p = 1 ∧ T c p ≠ 1)) (a := 0) (n := 1000) (by decide) (by decide) with ⟨h, -⟩ | ⟨-, -, h, -⟩
      · exact h
      · have := of_decide_eq_true h
        exact absurd this.1 this.2
    have i2 : yfnd (fun p => decide (T c p ≠ T c p)) 0 1000 = -1 := by
      rcases yfnd_r (fun p => decide (T c p ≠ T c p)) (a := 0) (n := 1000) (by decide) (by decide) with ⟨h, -⟩ | ⟨-, -, h, -⟩
      · exact h
      · exact absurd rfl (of_decide_eq_true h)
    rw [if_neg (by omega), e_implies (d := d) E2.2 c0 c1 c0 c1, if_pos i1, e_alike (d := d) E2.2 c0 c1 c0 c1, if_pos i2]
    exact f_281 E2 c0 c1 o0 o5 h
/-- a condition is fair -/
theorem f_fair {c o : Int} {K : Int → ZN → Prop} (E : yE L xs n N pr v T m) (c0 : 0 ≤ c) (c1 : c < N) (o0 : 0 ≤ o) (o5 : o ≤ 5) (h : ∀ M2, yE L xs n N pr v T M2 → K 1 M2) : zcI (d + 10) 326 [zA 3, zI c, zI o] m K := by
  obtain ⟨l1, l2, l3⟩ := E.2.1.1
  have hT := E.2.2.2.2 c c0 c1
  have s1 := y3sum (f := T c) 1000 (fun i i0 i1 => (hT i i0 i1).2)
  have s2 := y3sum (f := fun l => T c (yk3 v l 0)) n.toNat (fun i i0 i1 => by
    have hk := yG_k E.2 (o := 0) i0 (show i < n by omega) (by decide) (by decide)
    exact (hT _ hk.2.1 hk.2.2).2)
  rw [Int.toNat_of_nonneg l2] at s2
  have r0 := fun t => ycnt_r (fun p => decide (T c p = t)) (show (0 : Int) ≤ 1000 by decide)
  have q0 := fun t => ycnt_r (fun l => decide (T c (yk3 v l 0) = t)) l2
  have a0 := r0 0
  have a1 := r0 1
  have a2 := r0 2
  have b0 := q0 0
  have b1 := q0 1
  have b2 := q0 2
  refine w_326 ?_
  rw [e_keys (d := d) E.2 c0 c1 (by decide) (by decide), e_keys (d := d) E.2 c0 c1 (by decide) (by decide), e_keys (d := d) E.2 c0 c1 (by decide) (by decide), if_pos (by rw [show zb (ycnt (fun p => decide (T c p = 0)) 1000 + ycnt (fun p => decide (T c p = 1)) 1000) = ycnt (fun p => decide (T c p = 0)) 1000 + ycnt (fun p => decide (T c p = 1)) 1000 from yb_id (by omega) (by omega)]; rw [yb_id (by omega) (by omega)]; exact s1)]
  rw [e_lines (d := d) E.2 c0 c1 (by decide) (by decide), e_lines (d := d) E.2 c0 c1 (by decide) (by decide), e_lines (d := d) E.2 c0 c1 (by decide) (by decide), e_st0 (d := d), l1, if_pos (by rw [show zb (ycnt (fun l => decide (T c (yk3 v l 0) = 0)) n + ycnt (fun l => decide (T c (yk3 v l 0) = 1)) n) = ycnt (fun l => decide (T c (yk3 v l 0) = 0)) n + ycnt (fun l => decide (T c (yk3 v l 0) = 1)) n from yb_id (by omega) (by omega)]; rw [yb_id (by omega) (by omega)]; exact s2)]
  refine e_runs (d := d) E.2 c0 c1 o0 o5 (fun M2 sc => ?_)
  exact f_73 (yE_Sc E sc) c0 c1 o0 o5 h
end FB
