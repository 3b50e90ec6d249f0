/-! ===== pairs: best, bestIndex ===== -/
section PO
variable {d : Nat} {m : ZN} {L : Int} {xs : Int → Int} {Q : Int → Int → ZN → Prop}
/-- the costs of an index, by the reference's rows -/
noncomputable def yCm (m : ZN) (c o : Int) (a : Int → Int) : Int → Int := yCs (yTt m c o) a (fun l => yk3 (zr m 253) l o) (zr m 236 9) (zr m 236 11)
theorem d_286 (I : yInv L xs m) {M : ZN} (sx : ySc m M) {c o : Int} {a : Int → Int} {K : Int → ZN → Prop} (c0 : 0 ≤ c) (c1 : c < zr m 8 1) (o0 : 0 ≤ o) (o1 : o ≤ 5) (R : 1 ≤ yrc (yTt m c o) 1000 → yOd (ywd (yTt m c o)) a (yrc (yTt m c o) 1000 - 1) (fun _ => true) (yrc (yTt m c o) 1000 - 1)) (h : ∀ M4 b, ySc M M4 → yBs (yCm m c o a) 1 b → zr M4 236 40 = yCm m c o a b → K b M4) : zcI (d + 5) 286 [zA 236, zI c, zI o] M K := by
  obtain ⟨n1, n2, n3⟩ := I.2.2.1.1
  obtain ⟨l1, l2, l3, l4, l5, l6, l7⟩ := I.2.1
  have hr := yrc_r (yTt m c o) 1000
  obtain ⟨C, hC⟩ : ∃ C : Int → Int, C = yCm m c o a := ⟨_, rfl⟩
  rw [← hC] at h
  have CR : ∀ x, 0 ≤ x → 0 ≤ C x ∧ C x ≤ 10060 := fun x x0 => by rw [hC]; exact yCs_r (by omega) (by omega) (by omega) (by omega) x0
  refine w_286 (d_273 (d := d + 2) (m := m) (sx.fn (fun j => by unfold yscr; omega)) c0 (by omega) o0 o1 (fun M1 s1 R1 => ?_))
  have key : ∀ n : Nat, n ≤ 40 → ∀ (M2 : ZN) (S : Int → Prop) q best o5, ySc M M2 → yZm a (yrc (yTt m c o) 1000) S q → ySpM (yTt m c o) S q M2 → min q n = min (yrc (yTt m c o) 1000) n → ((n = 40 ∧ zr M2 236 40 = -1) ∨ (n < 40 ∧ yBs C ((n : Int) + 1) best ∧ zr M2 236 40 = C best)) → zwpN (d + 5) 286 18 [some (zA 236), some (zI c), some (zI o), some (zI best), some (zI n), o5] [] M2 (zPI K) := by
    intro n
    induction n with
    | zero =>
      intro _ M2 S q best o5 s2 hZ R2 hq hb
      refine w_286_18 ?_
      rw [if_pos (by omega)]
      have hb := hb.resolve_left (by omega)
      exact h M2 best s2 hb.2.1 hb.2.2
    | succ n ih =>
      intro hn40 M2 S q best o5 s2 hZ R2 hq hb
      obtain ⟨x, hx⟩ : ∃ x : Int, x = ((n + 1 : Nat) : Int) := ⟨_, rfl⟩
      have hb : (x = 40 ∧ zr M2 236 40 = -1) ∨ (x < 40 ∧ yBs C (x + 1) best ∧ zr M2 236 40 = C best) := by
        rw [hx]
        rcases hb with z | z
        · exact Or.inl ⟨by omega, z.2⟩
        · exact Or.inr ⟨by omega, z.2⟩
      rw [← hx] at hq ⊢
      have ex : zb (x + -1) = (n : Int) := by rw [yb_id (by omega) (by omega)]; omega
      refine w_286_18 ?_
      rw [if_neg (by omega)]
      have inner : ∀ s : Nat, ∀ (M2 : ZN) (S : Int → Prop) q, ySc M M2 → yZm a (yrc (yTt m c o) 1000) S q → ySpM (yTt m c o) S q M2 → min q x = min (yrc (yTt m c o) 1000) x → ((x = 40 ∧ zr M2 236 40 = -1) ∨ (x < 40 ∧ yBs C (x + 1) best ∧ zr M2 236 40 = C best)) → q ≤ x + s → zwpN (d + 5) 286 24 [some (zA 236), some (zI c), some (zI o), some (zI best), some (zI x), o5] [] M2 (zPI K) := by
        have stop : ∀ (M2 : ZN) (S : Int → Prop) q, ySc M M2 → yZm a (yrc (yTt m c o) 1000) S q → ySpM (yTt m c o) S q M2 → min q x = min (yrc (yTt m c o) 1000) x → ((x = 40 ∧ zr M2 236 40 = -1) ∨ (x < 40 ∧ yBs C (x + 1) best ∧ zr M2 236 40 = C best)) → q ≤ x → zwpN (d + 5) 286 24 [some (zA 236), some (zI c), some (zI o), some (zI best), some (zI x), o5] [] M2 (zPI K) := fun M2 S q s2 hZ R2 hq hb hqx => by
          have s := sx.trans s2
          have e253 : zr M2 253 = zr m 253 := s.fn (fun j => by unfold yscr; omega)
          have e9 : zr M2 236 9 = zr m 236 9 := s 236 9 (by unfold yscr; omega)
          have e11 : zr M2 236 11 = zr m 236 11 := s 236 11 (by unfold yscr; omega)
          have hv : ∀ j, 0 ≤ j → j < 3 * zr M2 236 9 → 0 ≤ zr M2 253 j ∧ zr M2 253 j ≤ 9 := fun j j0 j1 => by
            rw [e9, ← l1] at j1
            have := l7 j j0 j1
            rw [e253]; omega
          have cst : C x = zr m 236 11 * q + ycnt (fun l => ybo (yRd (yTt m c o) S (yk3 (zr m 253) l o)) && (decide ((0 : Int) = 0) || !decide (zr M2 261 (1000 * c + yk3 (zr m 253) l 0) = 1))) (zr m 236 9) := by
            have hc : yCm m c o a x = zr m 236 11 * min x (yrc (yTt m c o) 1000) + ycnt (fun l => ybo (yRd (yTt m c o) (yFj a (yrc (yTt m c o) 1000 - min x (yrc (yTt m c o) 1000))) (yk3 (zr m 253) l o))) (zr m 236 9) := rfl
            have cc : ycnt (fun l => ybo (yRd (yTt m c o) S (yk3 (zr m 253) l o)) && (decide ((0 : Int) = 0) || !decide (zr M2 261 (1000 * c + yk3 (zr m 253) l 0) = 1))) (zr m 236 9) = ycnt (fun l => ybo (yRd (yTt m c o) (yFj a (yrc (yTt m c o) 1000 - q)) (yk3 (zr m 253) l o))) (zr m 236 9) := ycnt_c (fun l _ _ => by
              rw [show decide ((0 : Int) = 0) = true from rfl, Bool.true_or, Bool.and_true]
              exact ybo_c (yRd_c (fun g g0 g1 => hZ.2 g g0 g1)))
            rw [hC, hc, cc, show min x (yrc (yTt m c o) 1000) = q by have := hZ.1; omega]
          have cr := CR x (by omega)
          have hp : 0 ≤ zr m 236 11 * q := Int.mul_nonneg (by omega) R2.1
          have hcn := ycnt_r (fun l => ybo (yRd (yTt m c o) S (yk3 (zr m 253) l o)) && (decide ((0 : Int) = 0) || !decide (zr M2 261 (1000 * c + yk3 (zr m 253) l 0) = 1))) (show 0 ≤ zr m 236 9 by omega)
          refine w_286_24 ?_
          rw [R2.2.1, if_neg (by omega)]
          refine w_284 ?_
          rw [c_281 (d := d) R2 (Or.inl rfl) c0 (by omega) o0 o1 (by omega) (by omega) hv, e253, e9, e11, R2.2.1, show zb (zr m 236 11 * q) = zr m 236 11 * q from yb_id (by omega) (by omega), ← cst, show zb (C x) = C x from yb_id (by omega) (by omega), ex]
          have wr : ∀ M' : ZN, M' = zsn M2 236 40 (C x) → ySc M M' ∧ ySpM (yTt m c o) S q M' ∧ zr M' 236 40 = C x := fun M' e => by
            refine ⟨by rw [e]; exact s2.sn _ (by unfold yscr; omega), ?_, by rw [e]; exact yr_ss (znp_o rfl)⟩
            obtain ⟨r1, r2, e', he', hrow⟩ := R2
            refine ⟨r1, by rw [e, yr_so (by decide)]; exact r2, e', he', fun i i0 i1 => ?_⟩
            rw [e, yfc (by decide), yfc (by decide)]
            exact hrow i i0 i1
          have next : ∀ M' : ZN, M' = zsn M2 236 40 (C x) → yBs C x x → zwpN (d + 5) 286 18 [some (zA 236), some (zI c), some (zI o), some (zI x), some (zI n), some (zI (C x))] [] M' (zPI K) := fun M' e hbs => by
            have w := wr M' e
            refine ih (by omega) M' S q x _ w.1 hZ w.2.1 (by omega) (Or.inr ⟨by omega, ?_, w.2.2⟩)
            rw [show (n : Int) + 1 = x by omega]
            exact hbs
          rcases hb with ⟨b1, b2⟩ | ⟨b1, b2, b3⟩
          · rw [if_pos b2]
            exact next _ rfl ⟨Int.le_refl _, by omega, fun y y0 y1 => by rw [show y = x by omega]; exact Int.le_refl _, fun y y0 y1 => by omega⟩
          · have cb := CR best (by have := b2.1; omega)
            rw [if_neg (by omega)]
            by_cases z : zr M2 236 40 < C x
            · rw [if_pos z]
              refine ih (by omega) M2 S q best _ s2 hZ R2 (by omega) (Or.inr ⟨by omega, ?_, b3⟩)
              rw [show (n : Int) + 1 = x by omega]
              exact yBs_k b2 (by rw [← b3]; exact z)
            · rw [if_neg z]
              exact next _ rfl (yBs_n b2 (by omega) (by rw [← b3]; omega))
        intro s
        induction s with
        | zero => intro M2 S q s2 hZ R2 hq hb hs; exact stop M2 S q s2 hZ R2 hq hb (by omega)
        | succ s ihs =>
          intro M2 S q s2 hZ R2 hq hb hs
          by_cases z : q ≤ x
          · exact stop M2 S q s2 hZ R2 hq hb z
          · refine w_286_24 ?_
            rw [R2.2.1, if_pos (by omega)]
            refine c_274 R2 (by omega) (fun M3 g s3 k3 g0 g1 g2 g3 R3 => ?_)
            refine ihs M3 _ (q - 1) (s2.trans s3) (yZm_s R hZ (by omega) g0 g1 g2 g3).1 R3 (by omega) ?_ (by omega)
            rw [k3 40 (by decide)]
            exact hb
      exact inner 1000 M2 S q s2 hZ R2 hq hb (by have := hZ.1; omega)
  refine key 40 (by omega) _ _ _ 40 none (s1.sn _ (by unfold yscr; omega)) (yZm_0 a _) ?_ rfl (Or.inl ⟨rfl, yr_ss (znp_o rfl)⟩)
  obtain ⟨r1, r2, e', he', hrow⟩ := ySpM_0 R1
  refine ⟨r1, by rw [yr_so (by decide)]; exact r2, e', he', fun i i0 i1 => ?_⟩
  rw [yfc (by decide), yfc (by decide)]
  exact hrow i i0 i1
/-- the class' choice of an index, with the scratch changed -/
theorem d_102 (I : yInv L xs m) {M : ZN} (sx : ySc m M) {c o : Int} {K : ZN → Prop} (c0 : 0 ≤ c) (c1 : c < zr m 8 1) (o0 : 0 ≤ o) (o1 : o ≤ 5) (h : ∀ M2 a b, ySc M M2 → (1 ≤ yrc (yTt m c o) 1000 → yOd (ywd (yTt m c o)) a (yrc (yTt m c o) 1000 - 1) (fun _ => true) (yrc (yTt m c o) 1000 - 1)) → yBs (yCm m c o a) 1 b → zr M2 222 9 = b → zr M2 222 10 = yCm m c o a b → K M2) : zcV (d + 4) 91 [zA 222, zA (10 + 4 * c), zI o] M (fun n => zcV (d + 4) 102 [zA 222, zA 4, zI o] n K) := by
  obtain ⟨l1, l2, l3, l4, l5, l6, l7⟩ := I.2.1
  have IM := yInv_Sc I sx
  have e8 : zr M 8 1 = zr m 8 1 := sx 8 1 (by unfold yscr; omega)
  have et : yTt M c o = yTt m c o := funext fun k => by unfold yTt; rw [sx.fn (a := 261) (fun j => by unfold yscr; omega)]
  refine d_91 (d := d + 2) IM c0 (by rw [e8]; exact c1) o0 o1 (fun M2 s2 R2 => ?_)
  rw [et] at R2
  have s := sx.trans s2
  have e41 : zr M2 4 1 = zr m 236 9 := by rw [s 4 1 (by unfold yscr; omega), l1]
  have e42 : zr M2 4 2 = zr m 236 11 := by rw [s 4 2 (by unfold yscr; omega), l3]
  have e5 : zr M2 5 = zr m 5 := s.fn (fun j => by unfold yscr; omega)
  refine c_102 (d := d + 1) R2 o0 o1 (by omega) (by omega) (by omega) (by omega) (fun j j0 j1 => by
    rw [e41, ← l1] at j1
    have := l7 j j0 j1
    rw [e5]; omega) (fun M3 a b f R hb h10 h11 => ?_)
  have ec : yCs (yTt m c o) a (fun l => yk3 (zr M2 5) l o) (zr M2 4 1) (zr M2 4 2) = yCm m c o a := funext fun x => by
    unfold yCm yCs yRj
    rw [e41, e42]
    congr 1
    refine ycnt_c (fun l a0 a1 => ?_)
    show ybo (yRd (yTt m c o) _ (yk3 (zr M2 5) l o)) = ybo (yRd (yTt m c o) _ (yk3 (zr m 253) l o))
    rw [e5, yk3_c (v' := zr m 253) (c := zr m 4 1) a0 (by omega) o0 o1 (fun j j0 j1 => (l7 j j0 j1).1)]
  rw [ec] at hb h11
  exact h M3 a b (s2.trans (fun a j q => by rw [f a (by unfold yscr at q; omega) (by unfold yscr at q; omega)])) R hb h10 h11
theorem p_best (I : yInv L xs m) (hQ : ∀ r m2, yInv L xs m2 → Q r r m2) (c t x : Int) : zcI (d + 9) 149 [zA 3, zI c, zI t, zI x] m (fun v m1 => zcI (d + 9) 287 [zA 236, zI c, zI t, zI x] m1 (fun v2 m2 => Q v v2 m2)) := by
  obtain ⟨n1, n2, n3⟩ := I.2.2.1.1
  have z10 : ¬ (1 : Int) = 0 := by decide
  refine w_149 ?_
  by_cases q1 : 0 ≤ c ∧ c < zr m 8 1
  · by_cases q2 : 0 ≤ t ∧ t ≤ 5
    · by_cases qx : 0 ≤ x ∧ x ≤ 1
      · rw [c_170 (d := d + 6) n2.1 n2.2, if_pos (show (0 ≤ c ∧ c < zr m 8 1) ∧ 0 ≤ t ∧ t ≤ 5 from ⟨q1, q2⟩), if_neg z10, c_181, if_pos qx, if_neg z10, c_24 (d := d + 7) q1.1 (by omega)]
        refine d_102 (d := d + 4) I (ySc.refl m) q1.1 q1.2 q2.1 q2.2 (fun M2 a b s2 R hb h10 h11 => ?_)
        have ref : ∀ K : Int → ZN → Prop, (∀ M4, ySc M2 M4 → K (if x = 0 then b else yCm m c t a b) M4) → zcI (d + 9) 287 [zA 236, zI c, zI t, zI x] M2 K := fun K hK => by
          have e1 : zr M2 236 10 = zr m 8 1 := by rw [s2 236 10 (by unfold yscr; omega), n1]
          refine w_287 ?_
          rw [c_193 (d := d + 7) (by rw [e1]; exact n2.1) (by rw [e1]; exact n2.2), e1, if_pos q1, if_neg z10, c_264 (d := d + 7), if_pos q2, if_neg z10, c_192, if_pos qx, if_neg z10]
          refine d_286 (d := d + 3) I s2 q1.1 q1.2 q2.1 q2.2 R (fun M4 b' s4 hb' h40 => ?_)
          have hK := hK M4 s4
          rw [yBs_u hb' hb] at h40 ⊢
          by_cases q : x = 0
          · rw [if_pos q] at hK ⊢; exact hK
          · rw [if_neg q] at hK ⊢; rw [h40]; exact hK
        by_cases q : x = 0
        · rw [if_pos q, h10]
          refine ref _ (fun M4 s4 => ?_)
          rw [if_pos q]
          exact hQ _ _ (yInv_Sc I (s2.trans s4))
        · rw [if_neg q, h11]
          refine ref _ (fun M4 s4 => ?_)
          rw [if_neg q]
          exact hQ _ _ (yInv_Sc I (s2.trans s4))
      · simp (disch := first | trivial | assumption | omega | exact ynl rfl _ | exact znp_o rfl | rfl | (simp (disch := first | decide | omega) only [yfc, yr_so, yr_ss, yfcc, yr_cs]; first | assumption | omega)) only [yck_of, yb_id, yPI_some, yPJ_some, yPA_some, yPV_none, yfc, yr_so, yr_ss, yfcc, yr_cs, ybif_t, yrd_1, yrd_2, yfcl, ↓c_181, ↓c_182, ↓c_183, ↓c_184, ↓c_185, ↓c_186, ↓c_187, ↓c_73, ↓c_33, ↓c_23, ↓c_170, ↓c_168, ↓if_pos, ↓if_neg, yl_lt, yl_gt, yl_eq]
        (refine w_287 ?_; simp (disch := first | trivial | assumption | omega | exact ynl rfl _ | exact znp_o rfl | rfl | (simp (disch := first | decide | omega) only [yfc, yr_so, yr_ss, yfcc, yr_cs]; first | assumption | omega)) only [yck_of, yb_id, yPI_some, yPJ_some, yPA_some, yPV_none, yfc, yr_so, yr_ss, yfcc, yr_cs, ybif_t, yrd_1, yrd_2, yfcl, ↓c_192, ↓c_193, ↓c_194, ↓c_251, ↓c_264, ↓c_191, ↓if_pos, ↓if_neg, yl_lt, yl_gt, yl_eq, ↓c_193]; exact p_ref (by decide) (by decide) I (hQ _))
    · simp (disch := first | trivial | assumption | omega | exact ynl rfl _ | exact znp_o rfl | rfl | (simp (disch := first | decide | omega) only [yfc, yr_so, yr_ss, yfcc, yr_cs]; first | assumption | omega)) only [yck_of, yb_id, yPI_some, yPJ_some, yPA_some, yPV_none, yfc, yr_so, yr_ss, yfcc, yr_cs, ybif_t, yrd_1, yrd_2, yfcl, ↓c_181, ↓c_182, ↓c_183, ↓c_184, ↓c_185, ↓c_186, ↓c_187, ↓c_73, ↓c_33, ↓c_23, ↓c_170, ↓c_168, ↓if_pos, ↓if_neg, yl_lt, yl_gt, yl_eq]
      (refine w_287 ?_; simp (disch := first | trivial | assumption | omega | exact ynl rfl _ | exact znp_o rfl | rfl | (simp (disch := first | decide | omega) only [yfc, yr_so, yr_ss, yfcc, yr_cs]; first | assumption | omega)) only [yck_of, yb_id, yPI_some, yPJ_some, yPA_some, yPV_none, yfc, yr_so, yr_ss, yfcc, yr_cs, ybif_t, yrd_1, yrd_2, yfcl, ↓c_192, ↓c_193, ↓c_194, ↓c_251, ↓c_264, ↓c_191, ↓if_pos, ↓if_neg, yl_lt, yl_gt, yl_eq, ↓c_193]; exact p_ref (by decide) (by decide) I (hQ _))
  · simp (disch := first | trivial | assumption | omega | exact ynl rfl _ | exact znp_o rfl | rfl | (simp (disch := first | decide | omega) only [yfc, yr_so, yr_ss, yfcc, yr_cs]; first | assumption | omega)) only [yck_of, yb_id, yPI_some, yPJ_some, yPA_some, yPV_none, yfc, yr_so, yr_ss, yfcc, yr_cs, ybif_t, yrd_1, yrd_2, yfcl, ↓c_181, ↓c_182, ↓c_183, ↓c_184, ↓c_185, ↓c_186, ↓c_187, ↓c_73, ↓c_33, ↓c_23, ↓c_170, ↓c_168, ↓if_pos, ↓if_neg, yl_lt, yl_gt, yl_eq]
    (refine w_287 ?_; simp (disch := first | trivial | assumption | omega | exact ynl rfl _ | exact znp_o rfl | rfl | (simp (disch := first | decide | omega) only [yfc, yr_so, yr_ss, yfcc, yr_cs]; first | assumption | omega)) only [yck_of, yb_id, yPI_some, yPJ_some, yPA_some, yPV_none, yfc, yr_so, yr_ss, yfcc, yr_cs, ybif_t, yrd_1, yrd_2, yfcl, ↓c_192, ↓c_193, ↓c_194, ↓c_251, ↓c_264, ↓c_191, ↓if_pos, ↓if_neg, yl_lt, yl_gt, yl_eq, ↓c_193]; exact p_ref (by decide) (by decide) I (hQ _))
/-- b is the first of those below n that cost least -/
def yFm (z : Int → Int) (n b : Int) : Prop := 0 ≤ b ∧ b < n ∧ (∀ j, 0 ≤ j → j < n → z b ≤ z j) ∧ ∀ j, 0 ≤ j → j < b → z b < z j
theorem yFm_u {z : Int → Int} {n b b' : Int} (h : yFm z n b) (h' : yFm z n b') : b = b' := by
  rcases Int.lt_or_le b b' with q | q
  · have := h'.2.2.2 b h.1 q
    have := h.2.2.1 b' h'.1 h'.2.1
    omega
  · by_cases q2 : b = b'
    · exact q2
    · have := h.2.2.2 b' h'.1 (by omega)
      have := h'.2.2.1 b h.1 h.2.1
      omega
theorem yFm_c {z z' : Int → Int} {n b : Int} (h : yFm z n b) (hz : ∀ j, 0 ≤ j → j < n → z' j = z j) : yFm z' n b := by
  obtain ⟨h1, h2, h3, h4⟩ := h
  refine ⟨h1, h2, fun j j0 j1 => ?_, fun j j0 j1 => ?_⟩
  · rw [hz b h1 h2, hz j j0 j1]; exact h3 j j0 j1
  · rw [hz b h1 h2, hz j j0 (by omega)]; exact h4 j j0 j1
theorem yFm_n {z : Int → Int} {n b : Int} (h : yFm z n b) (hc : z n < z b) : yFm z (n + 1) n := ⟨by have := h.1; have := h.2.1; omega, by omega, fun x x0 x1 => by
  by_cases q : x = n
  · rw [q]; exact Int.le_refl _
  · have := h.2.2.1 x x0 (by omega)
    omega, fun x x0 x1 => by
  have := h.2.2.1 x x0 x1
  omega⟩
theorem yFm_k {z : Int → Int} {n b : Int} (h : yFm z n b) (hc : ¬ z n < z b) : yFm z (n + 1) b := ⟨h.1, by have := h.2.1; omega, fun x x0 x1 => by
  by_cases q : x = n
  · rw [q]; omega
  · exact h.2.2.1 x x0 (by omega), h.2.2.2⟩
/-- what the best of an index costs -/
def yBv (m : ZN) (c o v : Int) : Prop := ∃ a b, (1 ≤ yrc (yTt m c o) 1000 → yOd (ywd (yTt m c o)) a (yrc (yTt m c o) 1000 - 1) (fun _ => true) (yrc (yTt m c o) 1000 - 1)) ∧ yBs (yCm m c o a) 1 b ∧ v = yCm m c o a b
end PO
