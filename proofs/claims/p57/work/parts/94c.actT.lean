/-! ===== the law's acts leave an empty tape ===== -/
section AT
variable {d : Nat} {m : ZN} {L : Int} {xs : Int → Int}
theorem yD_pt {d2 k k2 : Nat} {args args2 : ZS} (h : yD L xs m) (hk : zSc k = true) (ha : zarg zcls args = true) (hk2 : zSr k2 = true) (ha2 : zarg zref args2 = true) (p : ∀ m2, yInv L xs m2 → zcI d k args m2 (fun _ m1 => zcI d2 k2 args2 m1 (fun _ m3 => yInv L xs m3 ∧ zr m3 216 1 = 0))) : zcI d k args m (fun _ m3 => yD L xs m3 ∧ zr m3 216 1 = 0) := by
  obtain ⟨m2, hm, I⟩ := h
  exact zcI_w (zcI_p (Q := fun _ _ m3 => yInv L xs m3 ∧ zr m3 216 1 = 0) hk ha hk2 ha2 hm (p m2 I)) (fun v m1 ⟨m4, v2, s, I4, e⟩ => ⟨⟨m4, s, I4⟩, (s 216 (by decide) 1).trans e⟩)
theorem g_condT (D : yD L xs m) : zcI (d + 900) 128 [zA 3] m (fun _ m1 => yD L xs m1 ∧ zr m1 216 1 = 0) := yD_pt (d2 := d + 900) (k2 := 247) (args2 := [zA 236]) D rfl rfl rfl rfl (fun m2 I => p_cond (d := d) I (fun r m3 I3 e => ⟨I3, e⟩))
theorem g_actT (D : yD L xs m) (t : zr m 216 1 = 0) (hL : 0 ≤ L) {x : Int} {K : ZN → Prop} (h : ∀ m1, yD L xs m1 → zr m1 216 1 = 0 → K m1) : zcV (d + 901) 324 [zA 3, zA 0, zI x] m K := by
  refine w_324 ?_
  refine g_cell D hL (fun r => ?_)
  by_cases q0 : zand r 15 = 0
  · rw [if_pos q0]
    (repeat (refine zck_i (by decide) ?_))
    exact zcI_w (zcI_t rfl (g_line (d := d) D _ _ _)) (fun _ m1 D1 => h m1 D1.1 (D1.2.trans t))
  rw [if_neg q0]
  by_cases q1 : zand r 15 = 1
  · rw [if_pos q1]
    (repeat (refine zck_i (by decide) ?_))
    exact zcI_w (zcI_t rfl (g_line (d := d) D _ _ _)) (fun _ m1 D1 => h m1 D1.1 (D1.2.trans t))
  rw [if_neg q1]
  by_cases q2 : zand r 15 = 2
  · rw [if_pos q2]
    (repeat (refine zck_i (by decide) ?_))
    exact zcI_w (zcI_t rfl (g_line (d := d) D _ _ _)) (fun _ m1 D1 => h m1 D1.1 (D1.2.trans t))
  rw [if_neg q2]
  by_cases q3 : zand r 15 = 3
  · rw [if_pos q3]
    (repeat (refine zck_i (by decide) ?_))
    exact zcI_w (zcI_t rfl (g_test (d := d) D _ _ _)) (fun _ m1 D1 => h m1 D1.1 (D1.2.trans t))
  rw [if_neg q3]
  by_cases q4 : zand r 15 = 4
  · rw [if_pos q4]
    (repeat (refine zck_i (by decide) ?_))
    exact zcI_w (zcI_t rfl (g_among (d := d) D _ _ (zi32_r _).1 (by have := (zi32_r (Int32.ofInt (zand (zshr (zand (zshr r 4) 65535) 2) 511) <<< (Int32.ofInt 1 &&& 31))).2; unfold zshl; omega))) (fun _ m1 D1 => h m1 D1.1 (D1.2.trans t))
  rw [if_neg q4]
  by_cases q5 : zand r 15 = 5
  · rw [if_pos q5]
    (repeat (refine zck_i (by decide) ?_))
    exact zcI_w (zcI_t rfl (g_gone (d := d) D _)) (fun _ m1 D1 => h m1 D1.1 (D1.2.trans t))
  rw [if_neg q5]
  by_cases q6 : zand r 15 = 6
  · rw [if_pos q6]
    (repeat (refine zck_i (by decide) ?_))
    exact zcI_w (zcI_t rfl (g_columns (d := d) D _ _ _)) (fun _ m1 D1 => h m1 D1.1 (D1.2.trans t))
  rw [if_neg q6]
  by_cases q7 : zand r 15 = 7
  · rw [if_pos q7]
    (repeat (refine zck_i (by decide) ?_))
    exact zcI_w (zcI_t rfl (g_rest (d := d) D _ _ _)) (fun _ m1 D1 => h m1 D1.1 (D1.2.trans t))
  rw [if_neg q7]
  by_cases q8 : zand r 15 = 8
  · rw [if_pos q8]
    (repeat (refine zck_i (by decide) ?_))
    exact zcI_w (zcI_t rfl (g_pair (d := d) D _ _ _)) (fun _ m1 D1 => h m1 D1.1 (D1.2.trans t))
  rw [if_neg q8]
  by_cases q9 : zand r 15 = 9
  · rw [if_pos q9]
    (repeat (refine zck_i (by decide) ?_))
    exact zcI_w (zcI_t rfl (g_pair (d := d) D _ _ _)) (fun _ m1 D1 => h m1 D1.1 (D1.2.trans t))
  rw [if_neg q9]
  by_cases q10 : zand r 15 = 10
  · rw [if_pos q10]
    (repeat (refine zck_i (by decide) ?_))
    exact zcI_w (zcI_t rfl (g_turn (d := d) D _ _)) (fun _ m1 D1 => h m1 D1.1 (D1.2.trans t))
  rw [if_neg q10]
  by_cases q11 : zand r 15 = 11
  · rw [if_pos q11]
    (repeat (refine zck_i (by decide) ?_))
    exact zcI_w (zcI_t rfl (g_alter (d := d) D _ _ _)) (fun _ m1 D1 => h m1 D1.1 (D1.2.trans t))
  rw [if_neg q11]
  by_cases q12 : zand r 15 = 12
  · rw [if_pos q12]
    (repeat (refine zck_i (by decide) ?_))
    exact zcI_w (zcI_t rfl (g_days (d := d) D _)) (fun _ m1 D1 => h m1 D1.1 (D1.2.trans t))
  rw [if_neg q12]
  by_cases q13 : zand r 15 = 13
  · rw [if_pos q13]
    refine zck_i (by decide) ?_
    refine zcI_w (g_feed (d := d) D _) (fun _ m1 D1 => ?_)
    refine zck_i ⟨by omega, Or.inl ⟨rfl, (zand_3 _).1, by have := (zand_3 (zshr (zand (zshr r 4) 65535) 2)).2; omega⟩⟩ ?_
    refine zcI_w (g_feed (d := d) D1 _) (fun _ m2 D2 => ?_)
    refine zcI_w (g_feed (d := d) D2 _) (fun _ m3 D3 => ?_)
    refine zck_i ⟨by omega, Or.inr ⟨rfl, (zand_1 _).1, by have := (zand_1 (zshr (zand (zshr r 4) 65535) 7)).2; omega⟩⟩ ?_
    refine zcI_w (g_feed (d := d) D3 _) (fun _ m4 D4 => ?_)
    refine zck_i (by decide) ?_
    refine zcI_w (g_feed (d := d) D4 _) (fun _ m5 D5 => ?_)
    refine zcI_w (g_feed (d := d) D5 _) (fun _ m6 D6 => ?_)
    exact zcI_w (g_condT (d := d) D6) (fun _ m7 D7 => h m7 D7.1 D7.2)
  rw [if_neg q13]
  by_cases q14 : zand r 15 = 14
  · rw [if_pos q14]
    (repeat (refine zck_i (by decide) ?_))
    exact zcI_w (zcI_t rfl (g_image (d := d) D)) (fun _ m1 D1 => h m1 D1.1 (D1.2.trans t))
  rw [if_neg q14]
  split
  · exact zcI_w (zcI_t rfl (g_back (d := d) D)) (fun _ m1 D1 => h m1 D1.1 (D1.2.trans t))
  · split
    · exact zcI_w (zcI_t rfl (g_strike (d := d) D _)) (fun _ m1 D1 => h m1 D1.1 (D1.2.trans t))
    · exact zcI_w (zcI_t rfl (g_price (d := d) D _)) (fun _ m1 D1 => h m1 D1.1 (D1.2.trans t))
end AT
