/-! ===== pair: leaders ===== -/
section PK
variable {d : Nat} {m : ZN} {L : Int} {xs : Int → Int} {Q : Int → Int → ZN → Prop}
theorem ySee_G {s : Int → Int} {P : Int → Prop} {V : Int → Int} {w n G : Int} (hw : (w = 100 ∧ G = 10) ∨ (w = 10 ∧ G = 100)) (h : ySee s P V w n) (hV : ∀ e, 0 ≤ e → e < n → 0 ≤ V e ∧ V e < 1000) : ycnt (fun g => decide (s g ≠ 0)) 1000 = ycnt (fun g => decide (s g ≠ 0)) G := by
  have := ycnt_cut (p := fun g => decide (s g ≠ 0)) (G := G) (by omega) 1000 (by omega) (fun i i0 i1 => decide_eq_false (fun z => by
    obtain ⟨e, e0, e1, e2, e3⟩ := (h i (by omega) (by omega)).1 z
    have := hV e e0 e1
    rcases hw with ⟨rfl, rfl⟩ | ⟨rfl, rfl⟩ <;> omega))
  exact this
theorem p_leaders (I : yInv L xs m) (hQ : ∀ r m2, yInv L xs m2 → Q r r m2) (c t x y : Int) : zcI (d + 9) 152 [zA 3, zI c, zI t, zI x, zI y] m (fun v m1 => zcI (d + 9) 291 [zA 236, zI c, zI t, zI x, zI y] m1 (fun v2 m2 => Q v v2 m2)) := by
  obtain ⟨n1, n2, n3⟩ := I.2.2.1.1
  obtain ⟨l1, l2, l3, l4, l5, l6, l7⟩ := I.2.1
  have lv : ∀ j, 0 ≤ j → j < 3 * zr m 4 1 → 0 ≤ zr m 253 j ∧ zr m 253 j ≤ 9 := fun j j0 j1 => (l7 j j0 j1).1 ▸ (l7 j j0 j1).2
  have z10 : ¬ (1 : Int) = 0 := by decide
  refine w_152 ?_
  by_cases q1 : 0 ≤ c ∧ c < zr m 8 1
  · by_cases q2 : 0 ≤ t ∧ t ≤ 5
    · by_cases q3 : 1 ≤ x ∧ x ≤ 2
      · by_cases q4 : 0 ≤ y ∧ y ≤ 1
        · have hc := isC_l q1.1 (show c < 25 by omega)
          simp only [c_170 (d := d + 6) n2.1 n2.2, if_pos (show (0 ≤ c ∧ c < zr m 8 1) ∧ 0 ≤ t ∧ t ≤ 5 from ⟨q1, q2⟩), if_neg z10, c_181, if_pos q3, if_pos q4, c_24 (d := d + 7) q1.1 (show c ≤ 24 by omega), isC_pos hc, Bool.and_true, cond_true]
          -- the reference's walk
          have mo : ∀ (w G v : Int) (M : ZN) (s : Int → Int), (w = 100 ∧ G = 10) ∨ (w = 10 ∧ G = 100) → (∀ b, b ≠ 235 → zr M b = zr m b) → (y = 0 → ySee s (fun e => zr m 261 (1000 * c + ypl t e) = 1) (fun e => e) w 1000) → (y = 1 → ySee s (fun e => zr m 261 (1000 * c + yk3 (zr m 253) e 0) = 1) (fun e => yk3 (zr m 253) e t) w (zr m 4 1)) → v = ycnt (fun g => decide (s g ≠ 0)) 1000 → zwpN (d + 9) 291 65 [some (zA 236), some (zI c), some (zI t), some (zI x), some (zI y), some (zI w), some (zI 0), some (zI 0)] [] M (zPI (fun v2 m2 => Q v v2 m2)) := fun w G v M s hw fM h0 h1 hv => by
            have IM : yInv L xs M := yInv_Sc I (fun a j q => by rw [fM a (by unfold yscr at q; omega)])
            have gb : ∀ g, 0 ≤ g → g < G → 0 ≤ g * w ∧ g * w + w ≤ 1000 ∧ g * w ≤ g * w + w ∧ g < 1000 := fun g g0 g1 => by
              rcases hw with ⟨rfl, rfl⟩ | ⟨rfl, rfl⟩ <;> omega
            have gd : ∀ g v, 0 ≤ g → g < G → 0 ≤ v → (v / w = g ↔ g * w ≤ v ∧ v < g * w + w) := fun g v g0 g1 v0 => by
              rcases hw with ⟨rfl, rfl⟩ | ⟨rfl, rfl⟩ <;> omega
            have hcut : ycnt (fun g => decide (s g ≠ 0)) 1000 = ycnt (fun g => decide (s g ≠ 0)) G := by
              rcases (show y = 0 ∨ y = 1 by omega) with q | q
              · exact ySee_G hw (h0 q) (fun e e0 e1 => ⟨e0, e1⟩)
              · exact ySee_G hw (h1 q) (fun e e0 e1 => yk3_r e0 e1 q2.1 q2.2 lv)
            refine c_291l (d := d + 8) (G := G) (s := s) hw (show y = 0 ∨ y = 1 by omega) (fun g g0 g1 K' => ?_) ?_
            · have hg := gb g g0 g1
              rcases (show y = 0 ∨ y = 1 by omega) with q | q
              · subst q
                have hs := h0 rfl g g0 hg.2.2.2
                refine zcI_eq (c_290_0 (d := d + 6) q1.1 (by omega) q2.1 q2.2 hg.1 hg.2.2.1 hg.2.1 (fun e e0 e1 he => ⟨?_, rfl⟩) (fun hn => ⟨?_, rfl⟩)) K'
                · rw [fM 261 (by decide)] at he
                  rw [if_pos (hs.2 ⟨e, by omega, by omega, he, (gd g e g0 g1 (by omega)).2 ⟨e0, e1⟩⟩)]
                · rw [if_neg]
                  intro z
                  obtain ⟨e, e0, e1, e2, e3⟩ := hs.1 z
                  have e3 := (gd g e g0 g1 e0).1 e3
                  exact hn e e3.1 e3.2 (by rw [fM 261 (by decide)]; exact e2)
              · subst q
                have hs := h1 rfl g g0 hg.2.2.2
                have g253 : zr M 253 = zr m 253 := fM 253 (by decide)
                refine zcI_eq (c_290_1 (d := d + 5) (n := zr m 4 1) (by rw [fM 236 (by decide), l1]) l2.1 l2.2 q1.1 (by omega) q2.1 q2.2 hg.1 hg.2.2.1 hg.2.1 (by rw [g253]; exact lv) (fun e e0 e1 f0 f1 he => ⟨?_, rfl⟩) (fun hn => ⟨?_, rfl⟩)) K'
                · rw [fM 261 (by decide), g253] at he
                  rw [g253] at f0 f1
                  have hk := yk3_r (t := t) e0 e1 q2.1 q2.2 lv
                  rw [if_pos (hs.2 ⟨e, e0, e1, he, (gd g _ g0 g1 hk.1).2 ⟨f0, f1⟩⟩)]
                · rw [if_neg]
                  intro z
                  obtain ⟨e, e0, e1, e2, e3⟩ := hs.1 z
                  have hk := yk3_r (t := t) e0 e1 q2.1 q2.2 lv
                  have e3 := (gd g _ g0 g1 hk.1).1 e3
                  rw [g253, fM 261 (by decide)] at hn
                  exact hn e e0 e1 e3.1 e3.2 e2
            · rw [← hcut, ← hv]
              exact hQ _ _ IM
          have go : ∀ (w : Int) (M1 : ZN), w = 100 ∧ x = 1 ∨ w = 10 ∧ x = 2 → (∀ b, b ≠ 235 → zr M1 b = zr m b) → (∀ v, zwpN (d + 9) 291 65 [some (zA 236), some (zI c), some (zI t), some (zI x), some (zI y), some (zI w), some (zI 0), some (zI 0)] [] M1 (zPI (fun v2 m2 => Q v v2 m2)) → zcI (d + 9) 291 [zA 236, zI c, zI t, zI x, zI y] M1 (fun v2 m2 => Q v v2 m2)) := fun w M1 hw fM v h => by
            have e10 : zr M1 236 10 = zr m 8 1 := by rw [fM 236 (by decide), n1]
            refine w_291 ?_
            simp only [c_193 (d := d + 7) (m := M1) (show 0 ≤ zr M1 236 10 by rw [e10]; exact n2.1) (show zr M1 236 10 ≤ 24 by rw [e10]; exact n2.2), e10, if_pos q1, if_neg z10, c_264 (d := d + 7), if_pos q2, c_192, if_pos q3, if_pos q4]
            rcases hw with ⟨hw, hx⟩ | ⟨hw, hx⟩
            · rw [if_pos hx]
              rw [hw] at h
              exact h
            · rw [if_neg (by omega)]
              rw [hw] at h
              exact h
          rcases (show x = 1 ∨ x = 2 by omega) with hx | hx
          · rw [if_pos hx]
            refine c_179 (fun M1 f1 z1 => ?_)
            rcases (show y = 0 ∨ y = 1 by omega) with hy | hy
            · rw [if_pos hy]
              subst hy
              refine d_71 (d := d + 7) I q1.1 q1.2 q2.1 q2.2 (Or.inl rfl) f1 z1 (fun M2 f2 S => ?_)
              exact go 100 M2 (Or.inl ⟨rfl, hx⟩) f2 _ (mo 100 10 _ M2 (zr M2 235) (Or.inl ⟨rfl, rfl⟩) f2 (fun _ => S) (fun z => by omega) rfl)
            · rw [if_neg (by omega)]
              subst hy
              refine d_118 (d := d + 6) I q1.1 q1.2 q2.1 q2.2 (Or.inl rfl) f1 z1 (fun M2 f2 S => ?_)
              exact go 100 M2 (Or.inl ⟨rfl, hx⟩) f2 _ (mo 100 10 _ M2 (zr M2 235) (Or.inl ⟨rfl, rfl⟩) f2 (fun z => by omega) (fun _ => S) rfl)
          · rw [if_neg (by omega)]
            refine c_179 (fun M1 f1 z1 => ?_)
            rcases (show y = 0 ∨ y = 1 by omega) with hy | hy
            · rw [if_pos hy]
              subst hy
              refine d_71 (d := d + 7) I q1.1 q1.2 q2.1 q2.2 (Or.inr rfl) f1 z1 (fun M2 f2 S => ?_)
              exact go 10 M2 (Or.inr ⟨rfl, hx⟩) f2 _ (mo 10 100 _ M2 (zr M2 235) (Or.inr ⟨rfl, rfl⟩) f2 (fun _ => S) (fun z => by omega) rfl)
            · rw [if_neg (by omega)]
              subst hy
              refine d_118 (d := d + 6) I q1.1 q1.2 q2.1 q2.2 (Or.inr rfl) f1 z1 (fun M2 f2 S => ?_)
              exact go 10 M2 (Or.inr ⟨rfl, hx⟩) f2 _ (mo 10 100 _ M2 (zr M2 235) (Or.inr ⟨rfl, rfl⟩) f2 (fun z => by omega) (fun _ => S) rfl)
        · simp (disch := first | trivial | assumption | omega | exact ynl rfl _ | exact znp_o rfl | rfl | (simp (disch := first | decide | omega) only [yfc, yr_so, yr_ss, yfcc, yr_cs]; first | assumption | omega)) only [yck_of, yb_id, yPI_some, yPJ_some, yPA_some, yPV_none, yfc, yr_so, yr_ss, yfcc, yr_cs, ybif_t, yrd_1, yrd_2, yfcl, ↓c_181, ↓c_182, ↓c_183, ↓c_184, ↓c_185, ↓c_186, ↓c_187, ↓c_73, ↓c_33, ↓c_23, ↓c_170, ↓c_168, ↓if_pos, ↓if_neg, yl_lt, yl_gt, yl_eq]
          (refine w_291 ?_; simp (disch := first | trivial | assumption | omega | exact ynl rfl _ | exact znp_o rfl | rfl | (simp (disch := first | decide | omega) only [yfc, yr_so, yr_ss, yfcc, yr_cs]; first | assumption | omega)) only [yck_of, yb_id, yPI_some, yPJ_some, yPA_some, yPV_none, yfc, yr_so, yr_ss, yfcc, yr_cs, ybif_t, yrd_1, yrd_2, yfcl, ↓c_192, ↓c_193, ↓c_194, ↓c_251, ↓c_264, ↓c_191, ↓if_pos, ↓if_neg, yl_lt, yl_gt, yl_eq, ↓c_193]; exact p_ref (by decide) (by decide) I (hQ _))
      · simp (disch := first | trivial | assumption | omega | exact ynl rfl _ | exact znp_o rfl | rfl | (simp (disch := first | decide | omega) only [yfc, yr_so, yr_ss, yfcc, yr_cs]; first | assumption | omega)) only [yck_of, yb_id, yPI_some, yPJ_some, yPA_some, yPV_none, yfc, yr_so, yr_ss, yfcc, yr_cs, ybif_t, yrd_1, yrd_2, yfcl, ↓c_181, ↓c_182, ↓c_183, ↓c_184, ↓c_185, ↓c_186, ↓c_187, ↓c_73, ↓c_33, ↓c_23, ↓c_170, ↓c_168, ↓if_pos, ↓if_neg, yl_lt, yl_gt, yl_eq]
        (refine w_291 ?_; simp (disch := first | trivial | assumption | omega | exact ynl rfl _ | exact znp_o rfl | rfl | (simp (disch := first | decide | omega) only [yfc, yr_so, yr_ss, yfcc, yr_cs]; first | assumption | omega)) only [yck_of, yb_id, yPI_some, yPJ_some, yPA_some, yPV_none, yfc, yr_so, yr_ss, yfcc, yr_cs, ybif_t, yrd_1, yrd_2, yfcl, ↓c_192, ↓c_193, ↓c_194, ↓c_251, ↓c_264, ↓c_191, ↓if_pos, ↓if_neg, yl_lt, yl_gt, yl_eq, ↓c_193]; exact p_ref (by decide) (by decide) I (hQ _))
    · simp (disch := first | trivial | assumption | omega | exact ynl rfl _ | exact znp_o rfl | rfl | (simp (disch := first | decide | omega) only [yfc, yr_so, yr_ss, yfcc, yr_cs]; first | assumption | omega)) only [yck_of, yb_id, yPI_some, yPJ_some, yPA_some, yPV_none, yfc, yr_so, yr_ss, yfcc, yr_cs, ybif_t, yrd_1, yrd_2, yfcl, ↓c_181, ↓c_182, ↓c_183, ↓c_184, ↓c_185, ↓c_186, ↓c_187, ↓c_73, ↓c_33, ↓c_23, ↓c_170, ↓c_168, ↓if_pos, ↓if_neg, yl_lt, yl_gt, yl_eq]
      (refine w_291 ?_; simp (disch := first | trivial | assumption | omega | exact ynl rfl _ | exact znp_o rfl | rfl | (simp (disch := first | decide | omega) only [yfc, yr_so, yr_ss, yfcc, yr_cs]; first | assumption | omega)) only [yck_of, yb_id, yPI_some, yPJ_some, yPA_some, yPV_none, yfc, yr_so, yr_ss, yfcc, yr_cs, ybif_t, yrd_1, yrd_2, yfcl, ↓c_192, ↓c_193, ↓c_194, ↓c_251, ↓c_264, ↓c_191, ↓if_pos, ↓if_neg, yl_lt, yl_gt, yl_eq, ↓c_193]; exact p_ref (by decide) (by decide) I (hQ _))
  · simp (disch := first | trivial | assumption | omega | exact ynl rfl _ | exact znp_o rfl | rfl | (simp (disch := first | decide | omega) only [yfc, yr_so, yr_ss, yfcc, yr_cs]; first | assumption | omega)) only [yck_of, yb_id, yPI_some, yPJ_some, yPA_some, yPV_none, yfc, yr_so, yr_ss, yfcc, yr_cs, ybif_t, yrd_1, yrd_2, yfcl, ↓c_181, ↓c_182, ↓c_183, ↓c_184, ↓c_185, ↓c_186, ↓c_187, ↓c_73, ↓c_33, ↓c_23, ↓c_170, ↓c_168, ↓if_pos, ↓if_neg, yl_lt, yl_gt, yl_eq]
    (refine w_291 ?_; simp (disch := first | trivial | assumption | omega | exact ynl rfl _ | exact znp_o rfl | rfl | (simp (disch := first | decide | omega) only [yfc, yr_so, yr_ss, yfcc, yr_cs]; first | assumption | omega)) only [yck_of, yb_id, yPI_some, yPJ_some, yPA_some, yPV_none, yfc, yr_so, yr_ss, yfcc, yr_cs, ybif_t, yrd_1, yrd_2, yfcl, ↓c_192, ↓c_193, ↓c_194, ↓c_251, ↓c_264, ↓c_191, ↓if_pos, ↓if_neg, yl_lt, yl_gt, yl_eq, ↓c_193]; exact p_ref (by decide) (by decide) I (hQ _))
end PK
