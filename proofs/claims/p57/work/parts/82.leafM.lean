/-! ===== a leaf, read by the reference ===== -/
section LM
variable {d : Nat} {m M : ZN} {T : Int → Int} {n c0 s N : Int} {kd sg sd tf : Int → Int} {tg : Int}
theorem r_237 {x : Int} {K : ZN → Prop} (Q : yTq m T n) (R : yRs m M n s N kd sg sd tf tg) (hP : yPu m c0 N kd sg sd) (hx : x ≠ -1) (h : ∀ M', (ylq T n (ytx T n s) = x → yRs m M' n (ytx T n s + 1) N kd sg sd tf tg → K M') ∧ (ylq T n (ytx T n s) ≠ x → yRf m M' c0 (ytx T n s) → K M')) : zcV (d + 2) 237 [zA 236, zI x] M K := by
  refine w_237 ?_
  rw [R.2.2.2.1, if_pos rfl]
  refine r_235 (d := d) Q R hx (fun M1 => ⟨fun e R1 => ?_, fun e R1 => ?_⟩)
  · rw [if_neg (by decide)]; exact (h M1).1 e R1
  · rw [if_pos rfl]
    exact r_236 R1 hP Q.2.1.2 (fun M2 F => (h M2).2 e F)
theorem yRs.mk (R : yRs m M n s N kd sg sd tf tg) {a : Int → Int} {g : Int} (h : ∀ k, 0 ≤ k → k < 8 → tf k = a k) (hg : tg = g) {k : Int} {K : Int → ZN → Prop} (hN : N < 1000) (hK : ∀ M' sp' tf' tg', yRs m M' n sp' (N + 1) (yup kd N k) (yup sg N g) (yus sd N a) tf' tg' → sp' = s → K N M') : zcI d 232 [zA 236, zI k] M K := by
  refine r_232 R hN (fun M' R' => ?_)
  rw [hg, yus_c h] at R'
  exact hK M' s tf g R' rfl
theorem y8 {k : Int} (k0 : 0 ≤ k) (k1 : k < 8) : k = 0 ∨ k = 1 ∨ k = 2 ∨ k = 3 ∨ k = 4 ∨ k = 5 ∨ k = 6 ∨ k = 7 := by omega
/-- behind a fault the values of several are read for nothing -/
theorem f_241 {q y1 y2 : Int} {P : Option ZV → ZN → Prop} (h2 : 0 ≤ y2 ∧ y2 ≤ 3) (h : ∀ M', yRf m M' c0 q → P (some (zI 0)) M') : ∀ (f : Nat) (k : Int) (M : ZN), 0 ≤ k → y2 - k < f → yRf m M c0 q → zwpN (d + 2) 241 109 [some (zA 236), some (zI y1), some (zI y2), some (zI k)] [] M P := by
  intro f
  induction f with
  | zero =>
    intro k M k0 hk F
    refine w_241_109 ?_
    have f3 := F.2.2.1
    rw [if_neg (by omega), f3.1, if_neg (by omega)]
    exact h M F
  | succ f ih =>
    intro k M k0 hk F
    refine w_241_109 ?_
    have f3 := F.2.2.1
    by_cases z : k < y2
    · rw [if_pos z]
      refine f_239 (d := d) F (fun M1 F1 => ?_)
      rw [show zb (2 * k) = 2 * k from yb_id (by omega) (by omega), show zb (2 + 2 * k) = 2 + 2 * k from yb_id (by omega) (by omega), yck_of (by omega), show zb (k + 1) = k + 1 from yb_id (by omega) (by omega)]
      exact ih (k + 1) _ (by omega) (by omega) (F1.t _ _)
    · rw [if_neg z, f3.1, if_neg (by omega)]
      exact h M F
theorem r_241v {k y1 y2 : Int} {P : Option ZV → ZN → Prop} (Q : yTq m T n) (R : yRs m M n s N kd sg sd tf tg) (hP : yPu m c0 N kd sg sd) (k0 : 0 ≤ k) (k1 : k < y2) (h2 : y2 ≤ 3) (h : yDg T n 1 9 (ytx T n s) (fun q => ∀ M', yRf m M' c0 q → P (some (zI 0)) M') (fun v q' => ∀ M' sp', yRs m M' n sp' N kd sg sd (yup tf (2 + 2 * k) v) tg → ytx T n sp' = q' → zwpN (d + 2) 241 109 [some (zA 236), some (zI y1), some (zI y2), some (zI (k + 1))] [] M' P)) : zwpN (d + 2) 241 109 [some (zA 236), some (zI y1), some (zI y2), some (zI k)] [] M P := by
  refine w_241_109 ?_
  rw [if_pos k1]
  unfold yDg at h
  have e2 : zb (2 + zb (2 * k)) = 2 + 2 * k := by rw [show zb (2 * k) = 2 * k from yb_id (by omega) (by omega)]; exact yb_id (by omega) (by omega)
  have e3 : zb (k + 1) = k + 1 := yb_id (by omega) (by omega)
  refine r_239 (d := d) Q R hP (by decide) (by decide) (by decide) (by decide) (fun M1 => ⟨fun e R1 => ?_, fun e F1 => ?_⟩)
  · rw [if_pos e] at h
    rw [e2, yck_of (by omega), e3]
    exact h _ _ (R1.t _ _) rfl
  · rw [if_neg e] at h
    rw [e2, yck_of (by omega), e3]
    exact f_241 ⟨by omega, h2⟩ h 4 (k + 1) _ (by omega) (by omega) (F1.t _ _)
theorem r_241e {k y1 y2 g : Int} {a : Int → Int} {K : Int → ZN → Prop} (R : yRs m M n s N kd sg sd tf tg) (hN : N < 1000) (k1 : ¬ k < y2) (ha : ∀ k, 0 ≤ k → k < 8 → tf k = a k) (hg : tg = g) (h : ∀ M' sp' tf' tg', yRs m M' n sp' (N + 1) (yup kd N 5) (yup sg N g) (yus sd N a) tf' tg' → sp' = s → K N M') : zwpN (d + 2) 241 109 [some (zA 236), some (zI y1), some (zI y2), some (zI k)] [] M (zPI K) := by
  refine w_241_109 ?_
  rw [if_neg k1, R.2.2.2.1, if_pos rfl]
  exact R.mk ha hg hN h
theorem r_241 {col q1 : Int} {K : Int → ZN → Prop} (Q : yTq m T n) (R : yRs m M n q1 N kd sg sd (fun _ => -1) (-1)) (hP : yPu m c0 N kd sg sd) (hN : N < 1000) (hx : ytx T n q1 = q1) (hb : 97 ≤ ylq T n q1 ∧ ylq T n q1 ≤ 99) (h : ySvl T n col q1 (fun q => ∀ M', yRf m M' c0 q → K 0 M') (fun k sn a p' => ∀ M' sp' tf' tg', yRs m M' n sp' (N + 1) (yup kd N k) (yup sg N sn) (yus sd N a) tf' tg' → ytx T n sp' = p' → K N M')) : zcI (d + 2) 241 [zA 236, zI col] M K := by
  have hn := Q.2.1
  have lt1 := ylq_lt (T := T) (n := n) (q := q1) (by omega)
  have r3 := R.2.2.1
  have rq := ynq_r (T := T) (n := n) (q := q1) (by omega)
  have let251 : ∀ {M' : ZN} {s' tf' tg'}, yRs m M' n s' N kd sg sd tf' tg' → ∀ q, 0 ≤ q → ylq T n q ≠ -1 → zr M' 251 q = ylq T n q := fun R q q0 hq => by
    have := ylq_lt hq
    rw [R.1 251 (by decide) (by decide) (by decide) (by decide) (by decide), (Q.2.2 q q0 this).1]
    exact (if_pos this).symm
  -- the sign and the values
  have tail : ∀ (M' : ZN) s' tf' (y2 : Int), yRs m M' n s' N kd sg sd tf' (-1) → (2 ≤ y2 ∧ y2 ≤ 3) → ySn T n (ytx T n s') (fun q => ∀ M', yRf m M' c0 q → K 0 M') (fun g q3 => ∀ M' sp', yRs m M' n sp' N kd sg sd (yup tf' 0 y2) g → ytx T n sp' = q3 → zwpN (d + 2) 241 109 [some (zA 236), some (zI col), some (zI y2), some (zI 0)] [] M' (zPI K)) → zcV (d + 1) 240 [zA 236] (zsn M' 268 0 y2) (fun n6 => zwpN (d + 2) 241 109 [some (zA 236), some (zI col), some (zI y2), some (zI 0)] [] n6 (zPI K)) := fun M' s' tf' y2 R' h2 h => by
    unfold ySn at h
    refine r_240 (d := d) Q (R'.t 0 y2) hP (fun M2 => ⟨fun e R2 => ?_, fun e F2 => ?_⟩)
    · rw [if_neg e] at h
      exact h M2 _ R2 rfl
    · rw [if_pos e] at h
      exact f_241 (by omega) h 4 0 M2 (by decide) (by omega) F2
  -- not a second column: told as one
  refine w_241 ?_
  rw [yck_of (by decide)]
  have R1 := R.t 1 col
  refine w_241_9 ?_
  rw [if_pos (by decide)]
  refine r_234 Q R1 (fun M2 R2 => ?_)
  rw [hx] at R2
  rw [ylt_q, hx, c_192, if_pos hb, if_neg (by decide), R2.2.2.1.1, yck_of (by omega), let251 R2 q1 r3.2.1 (by omega), show zb (ylq T n q1 - 97) = ylq T n q1 - 97 from yb_id (by omega) (by omega)]
  unfold ySvl at h
  by_cases b : ylq T n q1 - 97 = col
  · rw [if_pos b] at h
    rw [if_pos b]
    exact r_236 R2 hP hn.2 h
  · rw [if_neg b] at h
    rw [if_neg b, if_neg (by decide), show zb (1 + zb (2 * 1)) = 3 from rfl, yck_of (by decide), yr_sc (by decide), R2.2.2.1.1, show zb (q1 + 1) = q1 + 1 from yb_id (by omega) (by omega), show zb (1 + 1) = 2 from rfl]
    have R3 := (R2.t 3 (ylq T n q1 - 97)).w (v := q1 + 1) (by omega) (by omega)
    generalize zsn (zsn M2 268 3 (ylq T n q1 - 97)) 236 35 (q1 + 1) = M3 at R3 ⊢
    refine w_241_9 ?_
    rw [if_pos (by decide)]
    refine r_234 Q R3 (fun M4 R4 => ?_)
    rw [show ytx T n (q1 + 1) = ynq T n q1 from rfl] at R4
    rw [ylt_q, show ytx T n (q1 + 1) = ynq T n q1 from rfl, c_192]
    have xq : ytx T n (ynq T n q1) = ynq T n q1 := ytx_i (by omega)
    by_cases a2 : 97 ≤ ylq T n (ynq T n q1) ∧ ylq T n (ynq T n q1) ≤ 99
    · have rq2 := ynq_r (T := T) (n := n) (q := ynq T n q1) (by omega)
      have lt2 := ylq_lt (T := T) (n := n) (q := ynq T n q1) (by omega)
      have t3 : zr M4 268 3 = ylq T n q1 - 97 := R4.2.2.2.2.2.2.1 3 (by decide) (by decide)
      rw [if_pos a2] at h
      rw [if_pos a2, if_neg (by decide), R4.2.2.1.1, yck_of (by omega), let251 R4 _ (by omega) (by omega), show zb (ylq T n (ynq T n q1) - 97) = ylq T n (ynq T n q1) - 97 from yb_id (by omega) (by omega)]
      by_cases b2 : ylq T n (ynq T n q1) - 97 = col
      · rw [if_pos (Or.inl b2)] at h
        rw [if_pos b2]
        exact r_236 R4 hP hn.2 h
      · rw [if_neg b2, if_pos rfl, yck_of (by decide), t3]
        by_cases b3 : ylq T n (ynq T n q1) - 97 = ylq T n q1 - 97
        · rw [if_pos (Or.inr b3)] at h
          rw [if_pos b3]
          exact r_236 R4 hP hn.2 h
        · rw [if_neg (fun z => z.elim b2 b3)] at h
          rw [if_neg b3, show zb (1 + zb (2 * 2)) = 5 from rfl, yck_of (by decide), yr_sc (by decide), R4.2.2.1.1, show zb (ynq T n q1 + 1) = ynq T n q1 + 1 from yb_id (by omega) (by omega), show zb (2 + 1) = 3 from rfl]
          have R5 := (R4.t 5 (ylq T n (ynq T n q1) - 97)).w (v := ynq T n q1 + 1) (by omega) (by omega)
          generalize zsn (zsn M4 268 5 (ylq T n (ynq T n q1) - 97)) 236 35 (ynq T n q1 + 1) = M5 at R5 ⊢
          refine w_241_9 ?_
          rw [if_neg (by decide), yck_of (by decide)]
          refine tail M5 _ _ 3 R5 (by decide) ?_
          rw [show ytx T n (ynq T n q1 + 1) = ynq T n (ynq T n q1) from rfl]
          unfold ySn at h ⊢
          split
          case isTrue z => rw [if_pos z] at h; exact h
          case isFalse z =>
            rw [if_neg z] at h
            intro Ma sa Ra ha
            refine r_241v Q Ra hP (by decide) (by decide) (by decide) ?_
            rw [ha]
            unfold yDg at h ⊢
            split
            case isFalse z => rw [if_neg z] at h; exact h
            case isTrue z =>
              rw [if_pos z] at h
              intro Mb sb Rb hb
              refine r_241v Q Rb hP (by decide) (by decide) (by decide) ?_
              rw [hb]
              unfold yDg
              split
              case isFalse z => rw [if_neg z] at h; exact h
              case isTrue z =>
                rw [if_pos z] at h
                intro Mc sc Rc hc
                refine r_241v Q Rc hP (by decide) (by decide) (by decide) ?_
                rw [hc]
                unfold yDg
                split
                case isFalse z => rw [if_neg z] at h; exact h
                case isTrue z =>
                  rw [if_pos z] at h
                  intro Md sd' Rd hd
                  refine r_241e (d := d) Rd hN (by decide) (fun k k0 k1 => ?_) rfl (fun M' sp' tf' tg' R' e => h M' sp' tf' tg' R' (by rw [e]; exact hd))
                  rcases y8 k0 k1 with rfl | rfl | rfl | rfl | rfl | rfl | rfl | rfl <;> rfl
    · rw [if_neg a2] at h
      rw [if_neg a2, if_pos rfl, yck_of (by decide)]
      refine tail M4 _ _ 2 R4 (by decide) ?_
      rw [xq]
      unfold ySn at h ⊢
      split
      case isTrue z => rw [if_pos z] at h; exact h
      case isFalse z =>
        rw [if_neg z] at h
        intro Ma sa Ra ha
        refine r_241v Q Ra hP (by decide) (by decide) (by decide) ?_
        rw [ha]
        unfold yDg at h ⊢
        split
        case isFalse z => rw [if_neg z] at h; exact h
        case isTrue z =>
          rw [if_pos z] at h
          intro Mb sb Rb hb
          refine r_241v Q Rb hP (by decide) (by decide) (by decide) ?_
          rw [hb]
          unfold yDg
          split
          case isFalse z => rw [if_neg z] at h; exact h
          case isTrue z =>
            rw [if_pos z] at h
            intro Mc sc Rc hc
            refine r_241e (d := d) Rc hN (by decide) (fun k k0 k1 => ?_) rfl (fun M' sp' tf' tg' R' e => h M' sp' tf' tg' R' (by rw [e]; exact hc))
            rcases y8 k0 k1 with rfl | rfl | rfl | rfl | rfl | rfl | rfl | rfl <;> rfl
theorem r_242 {col q : Int} {K : Int → ZN → Prop} (Q : yTq m T n) (R : yRs m M n s N kd sg sd (yup (fun _ => -1) 0 col) (-1)) (hP : yPu m c0 N kd sg sd) (hN : N < 1000) (hs : ytx T n s = q) (h : yDg T n 1 9 q (fun q => ∀ M', yRf m M' c0 q → K 0 M') (fun v q => yAm T n (fun q => ∀ M', yRf m M' c0 q → K 0 M') (fun bits q' => ∀ M' sp' tf' tg', yRs m M' n sp' (N + 1) (yup kd N 1) (yup sg N (-1)) (yus sd N (yt7 col bits (-1) (-1) (-1) (-1) (-1))) tf' tg' → ytx T n sp' = q' → K N M') 251 (zshl 1 v) q)) : zcI (d + 3) 242 [zA 236, zI col] M K := by
  have hn := Q.2.1
  have loop : ∀ (f : Nat) (b s : Int) (M : ZN) (tf : Int → Int), yRs m M n s N kd sg sd tf (-1) → (∀ k, 0 ≤ k → k < 8 → tf k = yup (yup (fun _ => -1) 0 col) 1 b k) → n - ytx T n s < f → yAm T n (fun q => ∀ M', yRf m M' c0 q → K 0 M') (fun bits q' => ∀ M' sp' tf' tg', yRs m M' n sp' (N + 1) (yup kd N 1) (yup sg N (-1)) (yus sd N (yt7 col bits (-1) (-1) (-1) (-1) (-1))) tf' tg' → ytx T n sp' = q' → K N M') f b (ytx T n s) → zwpN (d + 3) 242 22 [some (zA 236), some (zI col)] [] M (zPI K) := by
    intro f
    induction f with
    | zero =>
      intro b s M tf R ht hf
      have := ytx_r (T := T) R.2.2.1.2.2
      omega
    | succ f ih =>
      intro b s M tf R ht hf h
      have rs := R.2.2.1
      have rx := ytx_r (T := T) rs.2.2
      rw [yAm_s] at h
      refine w_242_22 ?_
      rw [R.2.2.2.1, if_pos rfl]
      refine r_234 Q R (fun M1 R1 => ?_)
      rw [ylt_q, c_192]
      have xq : ytx T n (ytx T n s) = ytx T n s := ytx_i rs.2.2
      by_cases a : 49 ≤ ylq T n (ytx T n s) ∧ ylq T n (ytx T n s) ≤ 57
      · rw [if_pos a] at h
        have lt := ylq_lt (T := T) (n := n) (q := ytx T n s) (by omega)
        have rq := ynq_r (T := T) (n := n) (q := ytx T n s) (by omega)
        have e1 : zr M1 268 1 = b := (R1.2.2.2.2.2.2.1 1 (by decide) (by decide)).trans (ht 1 (by decide) (by decide))
        have e251 : zr M1 251 (ytx T n s) = ylq T n (ytx T n s) := by
          rw [R1.1 251 (by decide) (by decide) (by decide) (by decide) (by decide), (Q.2.2 _ (by omega) lt).1]
          exact (if_pos lt).symm
        rw [if_pos a, if_neg (by decide), yck_of (by decide), R1.2.2.1.1, yck_of (by omega), yck_of (by decide), yr_sc (by decide), e251, e1, show zb (ytx T n s + 1) = ytx T n s + 1 from yb_id (by omega) (by omega), show zb (ylq T n (ytx T n s) - 48) = ylq T n (ytx T n s) - 48 from yb_id (by omega) (by omega)]
        have R2 := (R1.w (v := ytx T n s + 1) (by omega) (by omega)).t 1 (zor b (zshl 1 (ylq T n (ytx T n s) - 48)))
        refine ih _ (ytx T n s + 1) _ _ R2 (fun k k0 k1 => ?_) ?_ h
        · have := ht k k0 k1
          unfold yup at this ⊢
          by_cases z : k = 1
          · rw [if_pos z, if_pos z]
          · rw [if_neg z, if_neg z]
            rw [if_neg z] at this
            exact this
        · show n - ynq T n (ytx T n s) < f
          omega
      · rw [if_neg a] at h
        rw [if_neg a, if_pos rfl]
        refine r_237 (d := d) Q R1 hP (by decide) (fun M2 => ⟨fun e R2 => ?_, fun e F2 => ?_⟩)
        · rw [xq] at e R2
          rw [if_pos e] at h
          rw [R2.2.2.2.1, if_pos rfl]
          refine R2.mk (fun k k0 k1 => ?_) rfl hN (fun M' sp' tf' tg' R' e => h M' sp' tf' tg' R' (by rw [e]; rfl))
          rw [ht k k0 k1]
          rcases y8 k0 k1 with rfl | rfl | rfl | rfl | rfl | rfl | rfl | rfl <;> rfl
        · rw [xq] at e F2
          rw [if_neg e] at h
          have f3 := F2.2.2.1
          rw [f3.1, if_neg (by omega)]
          exact h M2 F2
  unfold yDg at h
  refine w_242 ?_
  rw [yck_of (by decide)]
  refine r_239 (d := d + 1) Q (R.t 0 col) hP (by decide) (by decide) (by decide) (by decide) (fun M1 => ⟨fun e R1 => ?_, fun e F1 => ?_⟩)
  · rw [hs] at e R1 ⊢
    rw [if_pos e] at h
    rw [yck_of (by decide)]
    have rq := ynq_r (T := T) (n := n) (q := q) (by omega)
    have lt := ylq_lt (T := T) (n := n) (q := q) (by omega)
    have r1 := R.2.2.1
    have rx := ytx_r (T := T) r1.2.2
    refine loop 251 _ (q + 1) _ _ (R1.t 1 _) (fun k k0 k1 => ?_) ?_ h
    · rcases y8 k0 k1 with rfl | rfl | rfl | rfl | rfl | rfl | rfl | rfl <;> rfl
    · show n - ynq T n q < 251
      omega
  · rw [hs] at e F1
    rw [if_neg e] at h
    rw [yck_of (by decide)]
    refine w_242_22 ?_
    have F2 := F1.t 1 (zshl 1 0)
    have f3 := F2.2.2.1
    rw [f3.1, if_neg (by omega)]
    refine f_237 (d := d + 1) F2 ?_
    rw [f3.1, if_neg (by omega)]
    exact h _ F2
end LM
