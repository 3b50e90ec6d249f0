/-! ===== all leaves, read by the reference ===== -/
section LN
variable {d : Nat} {m M : ZN} {T : Int → Int} {n c0 s N : Int} {kd sg sd tf : Int → Int} {tg : Int}
theorem r_243 {p : Int} {K : Int → ZN → Prop} (Q : yTq m T n) (R : yRs m M n (p + 1) N kd sg sd tf tg) (hP : yPu m c0 N kd sg sd) (hN : N < 1000) (hT : 97 ≤ T p ∧ T p ≤ 99) (h : yLeaf T n p (fun q => ∀ M', yRf m M' c0 q → K 0 M') (fun k sn a p' => ∀ M' sp' tf' tg', yRs m M' n sp' (N + 1) (yup kd N k) (yup sg N sn) (yus sd N a) tf' tg' → ytx T n sp' = p' → K N M')) : zcI (d + 4) 243 [zA 236, zI (T p - 97)] M K := by
  have hn := Q.2.1
  have r0 := R.2.2.1
  unfold yLeaf at h
  refine w_243 (r_231 R (fun M1 R1 => ?_))
  refine r_234 Q R1 (fun M2 R2 => ?_)
  rw [ylt_q, c_192]
  rw [show ytx T n (p + 1) = ynq T n p from rfl] at R2 ⊢
  obtain ⟨q1, hq1⟩ : ∃ q1, q1 = ynq T n p := ⟨_, rfl⟩
  have xq : ytx T n q1 = q1 := by rw [hq1]; exact ytx_i (by omega)
  rw [← hq1] at R2 h ⊢
  have r2 := R2.2.2.1
  have let251 : ∀ {M' : ZN} {s' tf' tg'}, yRs m M' n s' N kd sg sd tf' tg' → ∀ q, 0 ≤ q → ylq T n q ≠ -1 → zr M' 251 q = ylq T n q := fun R q q0 hq => by
    have := ylq_lt hq
    rw [R.1 251 (by decide) (by decide) (by decide) (by decide) (by decide), (Q.2.2 q q0 this).1]
    exact (if_pos this).symm
  by_cases a : 97 ≤ ylq T n q1 ∧ ylq T n q1 ≤ 99
  · rw [if_pos a] at h
    rw [if_pos a, if_neg (by decide)]
    exact r_241 (d := d + 1) Q R2 hP hN xq a h
  · rw [if_neg a] at h
    rw [if_neg a, if_pos rfl, yck_of (by decide)]
    have R3 := R2.t 0 (T p - 97)
    have rspot : ∀ x, zr (zsn M2 268 0 x) 236 35 = q1 := fun x => by rw [yr_sc (by decide)]; exact r2.1
    by_cases b91 : ylq T n q1 = 91
    · have lt := ylq_lt (T := T) (n := n) (q := q1) (by omega)
      rw [if_neg (fun z => z (by rw [b91]; rfl)), if_pos b91] at h
      rw [if_pos b91, rspot, show zb (q1 + 1) = q1 + 1 from yb_id (by omega) (by omega)]
      exact r_242 (d := d) Q (R3.w (v := q1 + 1) (by omega) (by omega)) hP hN rfl h
    · rw [if_neg b91]
      by_cases b63 : ylq T n q1 = 63
      · have lt := ylq_lt (T := T) (n := n) (q := q1) (by omega)
        rw [if_neg (fun z => z (by rw [b63]; rfl)), if_neg b91, if_pos b63] at h
        rw [if_pos b63, rspot, show zb (q1 + 1) = q1 + 1 from yb_id (by omega) (by omega)]
        refine (R3.w (v := q1 + 1) (by omega) (by omega)).mk (fun k k0 k1 => ?_) rfl hN (fun M' sp' tf' tg' R' e => h M' sp' tf' tg' R' (by rw [e]; rfl))
        rcases y8 k0 k1 with rfl | rfl | rfl | rfl | rfl | rfl | rfl | rfl <;> rfl
      · rw [if_neg b63]
        by_cases b37 : ylq T n q1 = 37
        · have lt := ylq_lt (T := T) (n := n) (q := q1) (by omega)
          rw [if_neg (fun z => z (by rw [b37]; rfl)), if_neg b91, if_neg b63, if_pos b37] at h
          rw [if_pos b37, rspot, show zb (q1 + 1) = q1 + 1 from yb_id (by omega) (by omega)]
          unfold yDg at h
          refine r_239 (d := d + 2) Q (R3.w (v := q1 + 1) (by omega) (by omega)) hP (by decide) (by decide) (by decide) (by decide) (fun M4 => ⟨fun e R4 => ?_, fun e F4 => ?_⟩)
          · rw [show ytx T n (q1 + 1) = ynq T n q1 from rfl] at e R4 ⊢
            rw [if_pos e] at h
            have np : ∀ j, znp' 268 j = true := ynl rfl
            rw [yck_of (by decide), yck_of (by decide), yr_ss (np _), show zb (ylq T n (ynq T n q1) - 48 - 1) = ylq T n (ynq T n q1) - 48 - 1 from yb_id (by omega) (by omega)]
            refine r_239 (d := d + 2) Q (R4.t 1 _) hP (by decide) (by decide) (by omega) (by omega) (fun M5 => ⟨fun e2 R5 => ?_, fun e2 F5 => ?_⟩)
            · rw [show ytx T n (ynq T n q1 + 1) = ynq T n (ynq T n q1) from rfl] at e2 R5 ⊢
              rw [if_pos e2] at h
              have R6 := R5.t 2 (ylq T n (ynq T n (ynq T n q1)) - 48)
              rw [yck_of (by decide), R6.2.2.2.1, if_pos rfl]
              refine R6.mk (fun k k0 k1 => ?_) rfl hN (fun M' sp' tf' tg' R' e => h M' sp' tf' tg' R' (by rw [e]; rfl))
              rcases y8 k0 k1 with rfl | rfl | rfl | rfl | rfl | rfl | rfl | rfl <;> rfl
            · rw [show ytx T n (ynq T n q1 + 1) = ynq T n (ynq T n q1) from rfl] at e2 F5
              rw [if_neg e2] at h
              have F6 := F5.t 2 0
              have f3 := F6.2.2.1
              rw [yck_of (by decide), f3.1, if_neg (by omega)]
              exact h _ F6
          · rw [show ytx T n (q1 + 1) = ynq T n q1 from rfl] at e F4
            rw [if_neg e] at h
            rw [yck_of (by decide), yck_of (by decide)]
            refine f_239 (d := d + 2) (F4.t 1 0) (fun M5 F5 => ?_)
            have F6 := F5.t 2 0
            have f3 := F6.2.2.1
            rw [yck_of (by decide), f3.1, if_neg (by omega)]
            exact h _ F6
        · rw [if_neg b37]
          refine r_240 (d := d + 2) Q R3 hP (fun M4 => ⟨fun e R4 => ?_, fun e F4 => ?_⟩)
          · rw [xq] at e R4
            rw [if_pos e] at h
            have l1 : ylq T n q1 ≠ -1 := fun z => e (by rw [z]; rfl)
            have lt := ylq_lt l1
            unfold yCmp at h
            rw [R4.2.2.2.1, if_pos rfl]
            refine r_234 Q R4 (fun M5 R5 => ?_)
            rw [ylt_q, c_192]
            rw [show ytx T n (q1 + 1) = ynq T n q1 from rfl] at R5 ⊢
            have xq2 : ytx T n (ynq T n q1) = ynq T n q1 := ytx_i (by omega)
            -- a digit, or a fault
            have dig : ∀ (M6 : ZN), yRs m M6 n (ynq T n q1) N kd sg sd (yup (fun _ => -1) 0 (T p - 97)) (ysg (ylq T n q1)) → ¬ ((97 ≤ ylq T n (ynq T n q1) ∧ ylq T n (ynq T n q1) ≤ 99) ∧ ylq T n (ynq T n q1) - 97 ≠ T p - 97) → zcI (d + 3) 239 [zA 236, zI 1, zI 9] M6 (fun v16 n15 => zck ((0 : Int) ≤ 1 ∧ (1 : Int) < 8) (if zr (zsn n15 268 1 v16) 236 36 = -1 then zcI (d + 3) 232 [zA 236, zI 0] (zsn n15 268 1 v16) (fun v18 n17 => K v18 n17) else K 0 (zsn n15 268 1 v16))) := fun M6 R6 hc => by
              rw [if_neg hc] at h
              unfold yDg at h
              refine r_239 (d := d + 2) Q R6 hP (by decide) (by decide) (by decide) (by decide) (fun M7 => ⟨fun e R7 => ?_, fun e F7 => ?_⟩)
              · rw [xq2] at e R7 ⊢
                rw [if_pos e] at h
                have R8 := R7.t 1 (ylq T n (ynq T n q1) - 48)
                rw [yck_of (by decide), R8.2.2.2.1, if_pos rfl]
                refine R8.mk (fun k k0 k1 => ?_) rfl hN (fun M' sp' tf' tg' R' e => h M' sp' tf' tg' R' (by rw [e]; rfl))
                rcases y8 k0 k1 with rfl | rfl | rfl | rfl | rfl | rfl | rfl | rfl <;> rfl
              · rw [xq2] at e F7
                rw [if_neg e] at h
                have F8 := F7.t 1 0
                have f3 := F8.2.2.1
                rw [yck_of (by decide), f3.1, if_neg (by omega)]
                exact h _ F8
            by_cases c : 97 ≤ ylq T n (ynq T n q1) ∧ ylq T n (ynq T n q1) ≤ 99
            · rw [if_pos c, if_neg (by decide)]
              refine r_234 Q R5 (fun M6 R6 => ?_)
              rw [ylt_q, show zb (97 + (T p - 97)) = T p from by rw [yb_id (by omega) (by omega)]; omega]
              rw [xq2] at R6 ⊢
              by_cases c2 : ylq T n (ynq T n q1) = T p
              · rw [if_pos c2]
                exact dig M6 R6 (fun z => z.2 (by omega))
              · rw [if_pos ⟨c, by omega⟩] at h
                have lt2 := ylq_lt (T := T) (n := n) (q := ynq T n q1) (by omega)
                have r6 := R6.2.2.1
                rw [if_neg c2, r6.1, yck_of (by omega), yck_of (by decide), yr_sc (by decide), let251 R6 _ r6.2.1 (by omega), show zb (ynq T n q1 + 1) = ynq T n q1 + 1 from yb_id (by omega) (by omega), show zb (ylq T n (ynq T n q1) - 97) = ylq T n (ynq T n q1) - 97 from yb_id (by omega) (by omega)]
                refine ((R6.w (v := ynq T n q1 + 1) (by omega) (by omega)).t 1 (ylq T n (ynq T n q1) - 97)).mk (fun k k0 k1 => ?_) rfl hN (fun M' sp' tf' tg' R' e => h M' sp' tf' tg' R' (by rw [e]; rfl))
                rcases y8 k0 k1 with rfl | rfl | rfl | rfl | rfl | rfl | rfl | rfl <;> rfl
            · rw [if_neg c, if_pos rfl]
              exact dig M5 R5 (fun z => c z.1)
          · rw [xq] at e F4
            rw [if_neg (fun z => z e), if_neg b91, if_neg b63, if_neg b37] at h
            have f3 := F4.2.2.1
            rw [f3.1, if_neg (by omega)]
            refine f_239 (d := d + 2) F4 (fun M5 F5 => ?_)
            have F6 := F5.t 1 0
            have f6 := F6.2.2.1
            rw [yck_of (by decide), f6.1, if_neg (by omega)]
            exact h _ F6
end LN
