/-! ===== pair: a condition on several columns ===== -/
theorem ySc.sn2 {m M : ZN} (h : ySc m M) (a j v : Int) : ySc (zsn m a j v) (zsn M a j v) := fun a' j' q => by
  rw [zr_zsn, zr_zsn, h a' j' q]
/-- a refusal, with places that no call needs changed before the reference counts it -/
theorem p_ref2 {L : Int} {xs : Int → Int} {m M2 : ZN} {x : Int} {Q : ZN → Prop} (h1 : -106 ≤ x) (h2 : x ≤ -102) (I : yInv L xs m) (hQ : ∀ m2, yInv L xs m2 → Q m2) (h : ySc (zsn m 234 (-102 - x) (zb (zr m 234 (-102 - x) + 1))) M2) : Q (zsn M2 252 (-x - 100) (zb (zr M2 252 (-x - 100) + 1))) := by
  have I2 : yInv L xs (zsn (zsn m 234 (-102 - x) (zb (zr m 234 (-102 - x) + 1))) 252 (-x - 100) (zb (zr m 252 (-x - 100) + 1))) := p_ref h1 h2 I (fun _ h => h)
  have e : zr M2 252 (-x - 100) = zr m 252 (-x - 100) := by rw [h 252 _ (by unfold yscr; omega), yr_sc (by decide)]
  rw [e]
  exact hQ _ (yInv_Sc I2 (h.sn2 _ _ _))
section PI
variable {d : Nat} {m : ZN} {L : Int} {xs : Int → Int} {Q : Int → Int → ZN → Prop}
theorem yte_2 {e : Int → Int} (h : yte e 2 0 0 = true) : ((0 ≤ e 0 ∧ e 0 ≤ 2) ∧ 1 ≤ e 1 ∧ e 1 ≤ 9) ∧ ((0 ≤ e 2 ∧ e 2 ≤ 2) ∧ 1 ≤ e 3 ∧ e 3 ≤ 9) ∧ e 2 ≠ e 0 := by
  rw [yte_s, yte_s, Bool.and_eq_true, Bool.and_eq_true, decide_eq_true_eq, decide_eq_true_eq] at h
  obtain ⟨⟨a1, a2, a3⟩, ⟨b1, b2, b3⟩, _⟩ := h
  have a1 : 0 ≤ e 0 ∧ e 0 ≤ 2 := a1
  have b1 : 0 ≤ e 2 ∧ e 2 ≤ 2 := b1
  have b3 : zand (zor 0 (zshl 1 (e 0))) (zshl 1 (e 2)) = 0 := b3
  obtain ⟨_, _, _, x⟩ := ymskI (y := 0) (by decide) (by decide) a1.1 a1.2
  exact ⟨⟨a1, a2⟩, ⟨b1, b2⟩, ((x _ b1.1 (by omega)).1 b3).2⟩
theorem yte_3 {e : Int → Int} (h : yte e 3 0 0 = true) : (((0 ≤ e 0 ∧ e 0 ≤ 2) ∧ 1 ≤ e 1 ∧ e 1 ≤ 9) ∧ ((0 ≤ e 2 ∧ e 2 ≤ 2) ∧ 1 ≤ e 3 ∧ e 3 ≤ 9) ∧ e 2 ≠ e 0) ∧ ((0 ≤ e 4 ∧ e 4 ≤ 2) ∧ 1 ≤ e 5 ∧ e 5 ≤ 9) ∧ e 4 ≠ e 0 ∧ e 4 ≠ e 2 := by
  rw [yte_s, yte_s, yte_s, Bool.and_eq_true, Bool.and_eq_true, Bool.and_eq_true, decide_eq_true_eq, decide_eq_true_eq, decide_eq_true_eq] at h
  obtain ⟨⟨a1, a2, a3⟩, ⟨b1, b2, b3⟩, ⟨c1, c2, c3⟩, _⟩ := h
  have a1 : 0 ≤ e 0 ∧ e 0 ≤ 2 := a1
  have b1 : 0 ≤ e 2 ∧ e 2 ≤ 2 := b1
  have c1 : 0 ≤ e 4 ∧ e 4 ≤ 2 := c1
  have b3 : zand (zor 0 (zshl 1 (e 0))) (zshl 1 (e 2)) = 0 := b3
  have c3 : zand (zor (zor 0 (zshl 1 (e 0))) (zshl 1 (e 2))) (zshl 1 (e 4)) = 0 := c3
  obtain ⟨_, y0, y1, x⟩ := ymskI (y := 0) (by decide) (by decide) a1.1 a1.2
  obtain ⟨_, _, _, x2⟩ := ymskI y0 y1 b1.1 b1.2
  have z := (x2 _ c1.1 (by omega)).1 c3
  exact ⟨⟨⟨a1, a2⟩, ⟨b1, b2⟩, ((x _ b1.1 (by omega)).1 b3).2⟩, ⟨c1, c2⟩, ((x _ c1.1 (by omega)).1 z.1).2, z.2⟩
theorem p_several (I : yInv L xs m) (hQ : ∀ r m2, yInv L xs m2 → Q r r m2) (s b c : Int) : zcI (d + 9) 134 [zA 3, zI s, zI b, zI c] m (fun v m1 => zcI (d + 9) 258 [zA 236, zI s, zI b, zI c] m1 (fun v2 m2 => Q v v2 m2)) := by
  obtain ⟨n1, n2, n3⟩ := I.2.2.1.1
  have np : ∀ j, znp' 268 j = true := ynl rfl
  refine w_134 ?_
  by_cases q1 : 0 ≤ s ∧ s ≤ 7
  · by_cases q3 : 0 ≤ c ∧ c ≤ 3
    · by_cases q2 : 2 ≤ b ∧ b ≤ 3
      · have s8 : s < 8 := by omega
        have e2b : zb (2 * b) = 2 * b := yb_id (by omega) (by omega)
        rcases yS3 I q1.1 s8 with h | h | h
        · simp (disch := first | trivial | assumption | omega | exact ynl rfl _ | exact znp_o rfl | rfl | (simp (disch := first | decide | omega) only [yfc, yr_so, yr_ss, yfcc, yr_cs]; first | assumption | omega)) only [yck_of, yb_id, yPI_some, yPJ_some, yPA_some, yPV_none, yfc, yr_so, yr_ss, yfcc, yr_cs, ybif_t, yrd_1, yrd_2, yfcl, ↓c_181, ↓c_182, ↓c_183, ↓c_184, ↓c_185, ↓c_186, ↓c_187, ↓c_73, ↓c_33, ↓c_23, ↓c_170, ↓c_168, ↓if_pos, ↓if_neg, yl_lt, yl_gt, yl_eq, ↓c_80_0]
          (refine w_258 ?_; simp (disch := first | trivial | assumption | omega | exact ynl rfl _ | exact znp_o rfl | rfl | (simp (disch := first | decide | omega) only [yfc, yr_so, yr_ss, yfcc, yr_cs]; first | assumption | omega)) only [yck_of, yb_id, yPI_some, yPJ_some, yPA_some, yPV_none, yfc, yr_so, yr_ss, yfcc, yr_cs, ybif_t, yrd_1, yrd_2, yfcl, ↓c_192, ↓c_193, ↓c_194, ↓c_251, ↓c_264, ↓c_191, ↓if_pos, ↓if_neg, yl_lt, yl_gt, yl_eq, ↓c_257_0]; exact p_ref (by decide) (by decide) I (hQ _))
        · by_cases qs : zr m 239 s < 2 * b
          · have : zr m 214 s < 2 * b := by omega
            simp (disch := first | trivial | assumption | omega | exact ynl rfl _ | exact znp_o rfl | rfl | (simp (disch := first | decide | omega) only [yfc, yr_so, yr_ss, yfcc, yr_cs]; first | assumption | omega)) only [yck_of, yb_id, yPI_some, yPJ_some, yPA_some, yPV_none, yfc, yr_so, yr_ss, yfcc, yr_cs, ybif_t, yrd_1, yrd_2, yfcl, ↓c_181, ↓c_182, ↓c_183, ↓c_184, ↓c_185, ↓c_186, ↓c_187, ↓c_73, ↓c_33, ↓c_23, ↓c_170, ↓c_168, ↓if_pos, ↓if_neg, yl_lt, yl_gt, yl_eq, ↓c_80_1]
            (refine w_258 ?_; simp (disch := first | trivial | assumption | omega | exact ynl rfl _ | exact znp_o rfl | rfl | (simp (disch := first | decide | omega) only [yfc, yr_so, yr_ss, yfcc, yr_cs]; first | assumption | omega)) only [yck_of, yb_id, yPI_some, yPJ_some, yPA_some, yPV_none, yfc, yr_so, yr_ss, yfcc, yr_cs, ybif_t, yrd_1, yrd_2, yfcl, ↓c_192, ↓c_193, ↓c_194, ↓c_251, ↓c_264, ↓c_191, ↓if_pos, ↓if_neg, yl_lt, yl_gt, yl_eq, ↓c_257_1]; exact p_ref (by decide) (by decide) I (hQ _))
          · have : ¬ zr m 214 s < 2 * b := by omega
            obtain ⟨e, hE⟩ : ∃ e : Int → Int, e = fun j => zr m 215 (40 * s + j) := ⟨_, rfl⟩
            have he : ∀ j, 0 ≤ j → j < 40 → zr m 215 (40 * s + j) = e j := fun j _ _ => by rw [hE]
            have he2 : ∀ j, 0 ≤ j → j < 2 * b → zr m (241 + s) j = e j := fun j j0 j1 => by rw [hE]; exact (h.2.2.2.2.2 j j0 (by omega)).symm
            obtain ⟨ad, hA⟩ : ∃ ad : Int → Int, ad = fun j => if j = 0 then b else if j < 1 + 2 * b then e (j - 1) else -1 := ⟨_, rfl⟩
            have ad0 : ad 0 = b := by rw [hA]; rfl
            have ad1 : ∀ j, 1 ≤ j → j < 1 + 2 * b → ad j = e (j - 1) := fun j j0 j1 => by
              rw [hA]
              show (if j = 0 then b else if j < 1 + 2 * b then e (j - 1) else -1) = _
              rw [if_neg (by omega), if_pos j1]
            have ad2 : ∀ j, 1 + 2 * b ≤ j → j < 8 → ad j = -1 := fun j j0 j1 => by
              rw [hA]
              show (if j = 0 then b else if j < 1 + 2 * b then e (j - 1) else -1) = _
              rw [if_neg (by omega), if_neg (by omega)]
            -- the reference's walk, from any memory that keeps what it reads
            have hM : ∀ v m1, (∀ a, a ≠ 8 ∧ ¬ (10 ≤ a ∧ a ≤ 109) ∧ a ≠ 234 → zr m1 a = zr m a) → (yte e b.toNat 0 0 = false → ∀ M2, ySc m1 M2 → Q v (-105) (zsn M2 252 (-(-105) - 100) (zb (zr M2 252 (-(-105) - 100) + 1)))) → (yte e b.toNat 0 0 = true → ∀ M3, ySc m1 M3 → zr M3 236 39 = c → (∀ k, 0 ≤ k → k < 8 → zr M3 268 k = ad k) → zcI (d + 8) 249 [zA 236, zI 5] M3 (fun v2 m2 => Q v v2 m2)) → zcI (d + 9) 258 [zA 236, zI s, zI b, zI c] m1 (fun v2 m2 => Q v v2 m2) := fun v m1 f hb hg => by
              refine w_258 ?_
              have g7 : zr m1 237 s = 1 := by rw [f 237 (by omega)]; exact h.1
              have g9 : ¬ zr m1 239 s < 2 * b := by rw [f 239 (by omega)]; exact qs
              simp (disch := first | trivial | assumption | omega | exact ynl rfl _ | exact znp_o rfl | rfl | (simp (disch := first | decide | omega) only [yfc, yr_so, yr_ss, yfcc, yr_cs]; first | assumption | omega)) only [yck_of, yb_id, yPI_some, yPJ_some, yPA_some, yPV_none, yfc, yr_so, yr_ss, yfcc, yr_cs, ybif_t, yrd_1, yrd_2, yfcl, ↓c_192, ↓c_193, ↓c_194, ↓c_251, ↓c_264, ↓c_191, ↓if_pos, ↓if_neg, yl_lt, yl_gt, yl_eq, ↓c_257_g, ↓c_231]
              refine c_258l (d := d + 8) (e := e) (ad := ad) q1.1 s8 q2.2 (fun j j0 j1 => ?_) ad0 ad1 ad2 b.toNat 0 0 _ _ _ (by decide) (by omega) (by decide) (by decide) (((ySc.refl m1).sn _ (by unfold yscr; omega)).cc _ (by unfold yscr; omega)) (fun j j0 j1 => by omega) (fun j j0 j1 => ?_) (fun z M2 k => hb z M2 k) (fun z M2 k1 k2 k3 => hg z M2 k1 k2 k3)
              · rw [f (241 + s) (by omega)]
                exact he2 j j0 j1
              · rw [yr_cs (np _), if_pos (by omega)]
            simp (disch := first | trivial | assumption | omega | exact ynl rfl _ | exact znp_o rfl | rfl | (simp (disch := first | decide | omega) only [yfc, yr_so, yr_ss, yfcc, yr_cs]; first | assumption | omega)) only [yck_of, yb_id, yPI_some, yPJ_some, yPA_some, yPV_none, yfc, yr_so, yr_ss, yfcc, yr_cs, ybif_t, yrd_1, yrd_2, yfcl, ↓c_181, ↓c_182, ↓c_183, ↓c_184, ↓c_185, ↓c_186, ↓c_187, ↓c_73, ↓c_33, ↓c_23, ↓c_170, ↓c_168, ↓if_pos, ↓if_neg, yl_lt, yl_gt, yl_eq, ↓c_80_1]
            rw [c_171 q1.1 s8 (by omega) q2.2 he]
            by_cases t : yte e b.toNat 0 0 = true
            · rw [t, if_pos rfl, if_neg (by decide)]
              have W0 : ∀ k, 0 ≤ k → k < b → (0 ≤ e (2 * k) ∧ e (2 * k) ≤ 2) ∧ 1 ≤ e (2 * k + 1) ∧ e (2 * k + 1) ≤ 9 := by
                rcases (show b = 2 ∨ b = 3 by omega) with rfl | rfl
                · have z := yte_2 t
                  intro k k0 k1
                  rcases (show k = 0 ∨ k = 1 by omega) with rfl | rfl
                  · exact z.1
                  · exact z.2.1
                · have z := yte_3 t
                  intro k k0 k1
                  rcases (show k = 0 ∨ k = 1 ∨ k = 2 by omega) with rfl | rfl | rfl
                  · exact z.1.1
                  · exact z.1.2.1
                  · exact z.2.1
              have W : yWf 5 c ad (zr m 8 1) := by
                unfold yWf
                rw [ad0]
                refine ⟨by omega, by omega, by omega, by omega, by omega, by omega, by omega, by omega, fun _ => ?_, by omega, by omega, by omega⟩
                rw [ad1 1 (by omega) (by omega), ad1 2 (by omega) (by omega), ad1 3 (by omega) (by omega), ad1 4 (by omega) (by omega)]
                rcases (show b = 2 ∨ b = 3 by omega) with rfl | rfl
                · have z := yte_2 t
                  exact ⟨Or.inl rfl, z.1.1, z.1.2, ⟨z.2.1.1.1, z.2.1.1.2, z.2.2⟩, z.2.1.2, fun q => by omega⟩
                · have z := yte_3 t
                  refine ⟨Or.inr rfl, z.1.1.1, z.1.1.2, ⟨z.1.2.1.1.1, z.1.2.1.1.2, z.1.2.2⟩, z.1.2.1.2, fun _ => ?_⟩
                  rw [ad1 5 (by omega) (by omega), ad1 6 (by omega) (by omega)]
                  exact ⟨⟨z.2.1.1.1, z.2.1.1.2, z.2.2⟩, z.2.1.2⟩
              generalize hN : zr m 8 1 = N at *
              have hc := isC_l n2.1 (show N < 25 by omega)
              refine d_25 (T := N) (by omega) (by omega) (by omega) (by omega) (fun M D => ?_)
              simp only [isC_pos hc, Bool.and_true, cond_true]
              refine d_85 (d := d + 6) (T := N) q1.1 s8 q2.2 hc (by omega) he W0 (fun M2 bits co wa D2 dk db => ?_) b.toNat 0 M 0 (fun _ => 0) (fun _ => 0) (by omega) (D _ _) (fun i i0 i1 => by omega) rfl
              refine p_new9 (d := d + 1) (d2 := d + 3) (kd := 5) (sg := c) (ad := ad) I hQ hN D2.1 (D2.2.1.1.trans hN) (by rw [D2.2.1.2, n3]; rfl) (yDr_R D2 (by intros; omega) (by intros; omega) ?_ (by intros; omega) (by intros; omega) (by intros; omega) (by intros; omega) (by intros; omega) (by intros; omega) (fun _ => ?_)) (fun _ => ?_) W (fun v m1 f k2 => hM v m1 f (fun z => by rw [t] at z; cases z) (fun _ => k2))
              · unfold ySz
                rw [if_pos rfl, ad0]
              · refine ⟨q2.1, ?_, ?_, ?_, ?_, fun q => ⟨by omega, ?_, ?_⟩⟩
                · rw [(dk 0 (by omega) (by omega)).1, ad1 1 (by omega) (by omega)]; rfl
                · rw [(dk 0 (by omega) (by omega)).2, ad1 2 (by omega) (by omega)]; rfl
                · rw [(dk 1 (by omega) (by omega)).1, ad1 3 (by omega) (by omega)]; rfl
                · rw [(dk 1 (by omega) (by omega)).2, ad1 4 (by omega) (by omega)]; rfl
                · rw [(dk 2 (by omega) (by omega)).1, ad1 5 (by omega) (by omega)]; rfl
                · rw [(dk 2 (by omega) (by omega)).2, ad1 6 (by omega) (by omega)]; rfl
              · rw [D2.2.2.1.2.2.2.2.2.1, db]
                unfold yLc
                rw [if_pos rfl, ad0]
                rcases (show b = 2 ∨ b = 3 by omega) with rfl | rfl
                · rw [if_pos rfl, ad1 1 (by omega) (by omega), ad1 3 (by omega) (by omega)]; rfl
                · rw [if_neg (by decide), ad1 1 (by omega) (by omega), ad1 3 (by omega) (by omega), ad1 5 (by omega) (by omega)]; rfl
            · rw [if_neg t, if_pos rfl]
              refine hM _ _ (fun a ha => by rw [yfc (by omega)]) (fun _ M2 k => ?_) (fun z => absurd z t)
              exact p_ref2 (x := -105) (by decide) (by decide) I (hQ _) k
        · simp (disch := first | trivial | assumption | omega | exact ynl rfl _ | exact znp_o rfl | rfl | (simp (disch := first | decide | omega) only [yfc, yr_so, yr_ss, yfcc, yr_cs]; first | assumption | omega)) only [yck_of, yb_id, yPI_some, yPJ_some, yPA_some, yPV_none, yfc, yr_so, yr_ss, yfcc, yr_cs, ybif_t, yrd_1, yrd_2, yfcl, ↓c_181, ↓c_182, ↓c_183, ↓c_184, ↓c_185, ↓c_186, ↓c_187, ↓c_73, ↓c_33, ↓c_23, ↓c_170, ↓c_168, ↓if_pos, ↓if_neg, yl_lt, yl_gt, yl_eq, ↓c_80_2]
          (refine w_258 ?_; simp (disch := first | trivial | assumption | omega | exact ynl rfl _ | exact znp_o rfl | rfl | (simp (disch := first | decide | omega) only [yfc, yr_so, yr_ss, yfcc, yr_cs]; first | assumption | omega)) only [yck_of, yb_id, yPI_some, yPJ_some, yPA_some, yPV_none, yfc, yr_so, yr_ss, yfcc, yr_cs, ybif_t, yrd_1, yrd_2, yfcl, ↓c_192, ↓c_193, ↓c_194, ↓c_251, ↓c_264, ↓c_191, ↓if_pos, ↓if_neg, yl_lt, yl_gt, yl_eq, ↓c_257_2]; exact p_ref (by decide) (by decide) I (hQ _))
      · simp (disch := first | trivial | assumption | omega | exact ynl rfl _ | exact znp_o rfl | rfl | (simp (disch := first | decide | omega) only [yfc, yr_so, yr_ss, yfcc, yr_cs]; first | assumption | omega)) only [yck_of, yb_id, yPI_some, yPJ_some, yPA_some, yPV_none, yfc, yr_so, yr_ss, yfcc, yr_cs, ybif_t, yrd_1, yrd_2, yfcl, ↓c_181, ↓c_182, ↓c_183, ↓c_184, ↓c_185, ↓c_186, ↓c_187, ↓c_73, ↓c_33, ↓c_23, ↓c_170, ↓c_168, ↓if_pos, ↓if_neg, yl_lt, yl_gt, yl_eq]
        (refine w_258 ?_; simp (disch := first | trivial | assumption | omega | exact ynl rfl _ | exact znp_o rfl | rfl | (simp (disch := first | decide | omega) only [yfc, yr_so, yr_ss, yfcc, yr_cs]; first | assumption | omega)) only [yck_of, yb_id, yPI_some, yPJ_some, yPA_some, yPV_none, yfc, yr_so, yr_ss, yfcc, yr_cs, ybif_t, yrd_1, yrd_2, yfcl, ↓c_192, ↓c_193, ↓c_194, ↓c_251, ↓c_264, ↓c_191, ↓if_pos, ↓if_neg, yl_lt, yl_gt, yl_eq]; exact p_ref (by decide) (by decide) I (hQ _))
    · simp (disch := first | trivial | assumption | omega | exact ynl rfl _ | exact znp_o rfl | rfl | (simp (disch := first | decide | omega) only [yfc, yr_so, yr_ss, yfcc, yr_cs]; first | assumption | omega)) only [yck_of, yb_id, yPI_some, yPJ_some, yPA_some, yPV_none, yfc, yr_so, yr_ss, yfcc, yr_cs, ybif_t, yrd_1, yrd_2, yfcl, ↓c_181, ↓c_182, ↓c_183, ↓c_184, ↓c_185, ↓c_186, ↓c_187, ↓c_73, ↓c_33, ↓c_23, ↓c_170, ↓c_168, ↓if_pos, ↓if_neg, yl_lt, yl_gt, yl_eq]
      (refine w_258 ?_; simp (disch := first | trivial | assumption | omega | exact ynl rfl _ | exact znp_o rfl | rfl | (simp (disch := first | decide | omega) only [yfc, yr_so, yr_ss, yfcc, yr_cs]; first | assumption | omega)) only [yck_of, yb_id, yPI_some, yPJ_some, yPA_some, yPV_none, yfc, yr_so, yr_ss, yfcc, yr_cs, ybif_t, yrd_1, yrd_2, yfcl, ↓c_192, ↓c_193, ↓c_194, ↓c_251, ↓c_264, ↓c_191, ↓if_pos, ↓if_neg, yl_lt, yl_gt, yl_eq]; exact p_ref (by decide) (by decide) I (hQ _))
  · simp (disch := first | trivial | assumption | omega | exact ynl rfl _ | exact znp_o rfl | rfl | (simp (disch := first | decide | omega) only [yfc, yr_so, yr_ss, yfcc, yr_cs]; first | assumption | omega)) only [yck_of, yb_id, yPI_some, yPJ_some, yPA_some, yPV_none, yfc, yr_so, yr_ss, yfcc, yr_cs, ybif_t, yrd_1, yrd_2, yfcl, ↓c_181, ↓c_182, ↓c_183, ↓c_184, ↓c_185, ↓c_186, ↓c_187, ↓c_73, ↓c_33, ↓c_23, ↓c_170, ↓c_168, ↓if_pos, ↓if_neg, yl_lt, yl_gt, yl_eq]
    (refine w_258 ?_; simp (disch := first | trivial | assumption | omega | exact ynl rfl _ | exact znp_o rfl | rfl | (simp (disch := first | decide | omega) only [yfc, yr_so, yr_ss, yfcc, yr_cs]; first | assumption | omega)) only [yck_of, yb_id, yPI_some, yPJ_some, yPA_some, yPV_none, yfc, yr_so, yr_ss, yfcc, yr_cs, ybif_t, yrd_1, yrd_2, yfcl, ↓c_192, ↓c_193, ↓c_194, ↓c_251, ↓c_264, ↓c_191, ↓if_pos, ↓if_neg, yl_lt, yl_gt, yl_eq]; exact p_ref (by decide) (by decide) I (hQ _))
end PI
