/-! ===== a leaf, read by the class: several, and all ===== -/
section LG
variable {d : Nat} {m0 M : ZN} {T : Int → Int} {n sp t k s r bits nn : Int} {co wa : Int → Int}
theorem l_85 {i y2 q : Int} {o4 : Option ZV} {P : Option ZV → ZN → Prop} (D : yLd m0 M T n sp t k s r bits nn co wa) (t0 : 0 ≤ t) (t1 : t ≤ 24) (i0 : 0 ≤ i) (i1 : i < nn) (n3 : nn ≤ 3) (hq : ytx T n sp = q) (h : yDg T n 1 9 q (fun q => ∀ M', yLx m0 M' T n q t → P (some (zI 0)) M') (fun v q' => ∀ M' sp' o4, yLd m0 M' T n sp' t k s r bits nn co (yup wa i v) → ytx T n sp' = q' → zwpN (d + 2) 71 85 [some (zA 216), some (zA (10 + 4 * t)), some (zI y2), some (zI (i + 1)), o4] [] M' P)) : zwpN (d + 2) 71 85 [some (zA 216), some (zA (10 + 4 * t)), some (zI y2), some (zI i), o4] [] M P := by
  have hc := isC_l t0 (show t < 25 by omega)
  refine w_71_85 ?_
  simp only [isC_pos hc, isC_O hc, cond_true]
  rw [l_3 D t0 t1, if_pos i1]
  refine l_112 (d := d) D t0 t1 hq (by decide) (by decide) (by decide) (by decide) (fun M1 D1 => ?_)
  unfold yDg at h
  by_cases a : 48 + 1 ≤ ylq T n q ∧ ylq T n q ≤ 48 + 9
  · rw [if_pos a] at h
    rw [if_pos a, if_neg (by omega)]
    refine l_4 (d := d) D1 t0 t1 i0 i1 n3 (fun M2 D2 => ?_)
    refine l_109 D2 t0 t1 (by omega) (fun M3 D3 => ?_)
    rw [show zb (i + 1) = i + 1 from yb_id (by omega) (by omega)]
    exact h M3 _ _ D3 rfl
  · rw [if_neg a] at h
    rw [if_neg a, if_pos rfl, yck_of (by decide)]
    exact h M1 (D1.x t0 t1)
theorem l_85e {i y2 : Int} {o4 : Option ZV} {P : Option ZV → ZN → Prop} (D : yLd m0 M T n sp t k s r bits nn co wa) (t0 : 0 ≤ t) (t1 : t ≤ 24) (i1 : ¬ i < nn) (h : P (some (zI 1)) M) : zwpN (d + 2) 71 85 [some (zA 216), some (zA (10 + 4 * t)), some (zI y2), some (zI i), o4] [] M P := by
  have hc := isC_l t0 (show t < 25 by omega)
  refine w_71_85 ?_
  simp only [isC_pos hc, isC_O hc, cond_true]
  rw [l_3 D t0 t1, if_neg i1, yck_of (by decide)]
  exact h
/-- the sign of several, and their values -/
theorem l_sgn {y2 q : Int} {P : Option ZV → ZN → Prop} (D : yLd m0 M T n sp t 5 s 0 bits nn co wa) (t0 : 0 ≤ t) (t1 : t ≤ 24) (hq : ytx T n sp = q) (hn : nn < 2 → ∀ M', yLx m0 M' T n q t → P (some (zI 0)) M') (h : 2 ≤ nn → ySn T n q (fun q => ∀ M', yLx m0 M' T n q t → P (some (zI 0)) M') (fun g q' => ∀ M' sp', yLd m0 M' T n sp' t 5 g 0 bits nn co wa → ytx T n sp' = q' → zwpN (d + 2) 71 85 [some (zA 216), some (zA (10 + 4 * t)), some (zI y2), some (zI 0), none] [] M' P)) : zcI (d + 1) 111 [zA 216] M (fun v2 n1 => zcI (d + 1) 3 [zA (10 + 4 * t)] (zsn n1 (10 + 4 * t) 1 v2) (fun v4 n3 => if v4 < 2 then zck ((0 : Int) ≤ 0 ∧ (0 : Int) ≤ 1) (P (some (zI 0)) n3) else if zrd n3 (10 + 4 * t) 1 = -1 then zck ((0 : Int) ≤ 0 ∧ (0 : Int) ≤ 1) (P (some (zI 0)) n3) else zcV (d + 1) 109 [zA 216] n3 (fun n5 => zwpN (d + 2) 71 85 [some (zA 216), some (zA (10 + 4 * t)), some (zI y2), some (zI 0), none] [] n5 P))) := by
  have hc := isC_l t0 (show t < 25 by omega)
  refine l_111 (d := d) D t0 t1 hq (fun M1 D1 => ?_)
  have D2 := D1.fs t0 t1 (j := 1) (v := ysg (ylq T n q)) (by decide)
  rw [if_neg (by decide), if_pos rfl, if_neg (by decide)] at D2
  rw [l_3 D2 t0 t1]
  by_cases a : nn < 2
  · rw [if_pos a, yck_of (by decide)]
    exact hn a _ (D2.x t0 t1)
  · have h := h (by omega)
    unfold ySn at h
    rw [if_neg a, isC_f hc (show (0 : Int) ≤ 1 ∧ (1 : Int) < 8 ∨ (1 : Int) = 9 by decide), D2.1.2.2.1.2.1]
    by_cases b : ysg (ylq T n q) = -1
    · rw [if_pos b] at h
      rw [if_pos b, yck_of (by decide)]
      exact h _ (D2.x t0 t1)
    · rw [if_neg b] at h
      rw [if_neg b]
      exact l_109 D2 t0 t1 (fun z => b (by rw [z]; rfl)) (fun M3 D3 => h M3 _ D3 rfl)
theorem c_71 {col q1 : Int} {K : Int → ZN → Prop} (D : yLd m0 M T n q1 t k (-1) 0 (zor 0 (zshl 1 col)) 1 co wa) (t0 : 0 ≤ t) (t1 : t ≤ 24) (hco : co 0 = col) (c0 : 0 ≤ col) (c2 : col ≤ 2) (hx : ytx T n q1 = q1) (h : if 97 ≤ ylq T n q1 ∧ ylq T n q1 ≤ 99 then ySvl T n col q1 (fun q => ∀ M', yLx m0 M' T n q t → K 0 M') (fun kd sg a p' => ∀ M', yLe m0 M' T n p' t kd sg a → K 1 M') else ∀ M', yLx m0 M' T n q1 t → K 0 M') : zcI (d + 2) 71 [zA 216, zA (10 + 4 * t)] M K := by
  have hc := isC_l t0 (show t < 25 by omega)
  have y := ymskI (y := 0) (c := col) (by decide) (by decide) c0 c2
  refine w_71 ?_
  simp only [isC_pos hc, isC_O hc, isC_np hc (show 0 ≤ (0 : Int) ∧ (0 : Int) < 8 ∨ (0 : Int) = 9 by decide), Bool.and_true, cond_true]
  have D2 := D.fs t0 t1 (j := 0) (v := 5) (by decide)
  rw [if_pos rfl, if_neg (by decide), if_neg (by decide)] at D2
  refine l_110 (d := d) D2 t0 t1 hx (fun M3 D3 => ?_)
  by_cases a : 97 ≤ ylq T n q1 ∧ ylq T n q1 ≤ 99
  · rw [if_pos a] at h
    rw [if_pos a]
    unfold ySvl at h
    have yk := y.2.2.2 (ylq T n q1 - 97) (by omega) (by omega)
    refine w_71_12 ?_
    rw [if_pos (by decide), if_neg (by omega)]
    simp only [isC_pos hc, isC_O hc, cond_true]
    rw [l_5 D3 t0 t1]
    by_cases b : ylq T n q1 - 97 = col
    · rw [if_pos b] at h
      rw [if_neg (fun z => (yk.1 z).2 b), if_neg (by decide), yck_of (by decide)]
      exact h M3 (D3.x t0 t1)
    · rw [if_neg b] at h
      rw [if_pos (yk.2 ⟨yz0I (by omega) (by omega), b⟩), if_pos rfl]
      refine l_2 D3 t0 t1 (by decide) (by decide) (fun M4 D4 => ?_)
      refine l_109 D4 t0 t1 (by omega) (fun M5 D5 => ?_)
      refine l_110 (d := d) (q := ynq T n q1) D5 t0 t1 rfl (fun M6 D6 => ?_)
      have rq := ynq_r (T := T) (n := n) (q := q1) (by omega)
      have xq : ytx T n (ynq T n q1) = ynq T n q1 := ytx_i (by omega)
      have e2 : (if (0 : Int) = 1 then ylq T n q1 - 97 else co 0) = col := by rw [if_neg (by decide)]; exact hco
      rw [show zb (1 + 1) = 2 from rfl, show (1 : Int) + 1 = 2 from rfl] at *
      by_cases a2 : 97 ≤ ylq T n (ynq T n q1) ∧ ylq T n (ynq T n q1) ≤ 99
      · rw [if_pos a2] at h
        rw [if_pos a2]
        have y2 := ymskI (y := zor 0 (zshl 1 col)) (c := ylq T n q1 - 97) (by omega) (by omega) (by omega) (by omega)
        have yk2 := y2.2.2.2 (ylq T n (ynq T n q1) - 97) (by omega) (by omega)
        have yk1 := y.2.2.2 (ylq T n (ynq T n q1) - 97) (by omega) (by omega)
        refine w_71_12 ?_
        rw [if_pos (by decide), if_neg (by omega)]
        simp only [isC_pos hc, isC_O hc, cond_true]
        rw [l_5 D6 t0 t1]
        by_cases b2 : ylq T n (ynq T n q1) - 97 = col ∨ ylq T n (ynq T n q1) - 97 = ylq T n q1 - 97
        · rw [if_pos b2] at h
          have hnz : ¬ zand (zor (zor 0 (zshl 1 col)) (zshl 1 (ylq T n q1 - 97))) (zshl 1 (ylq T n (ynq T n q1) - 97)) = 0 := fun z => by
            have z1 := yk2.1 z
            exact b2.elim (fun w => (yk1.1 z1.1).2 w) (fun w => z1.2 w)
          rw [if_neg hnz, if_neg (by decide), yck_of (by decide)]
          exact h M6 (D6.x t0 t1)
        · rw [if_neg b2] at h
          rw [if_pos (yk2.2 ⟨yk1.2 ⟨yz0I (by omega) (by omega), fun w => b2 (Or.inl w)⟩, fun w => b2 (Or.inr w)⟩), if_pos rfl]
          refine l_2 D6 t0 t1 (by decide) (by decide) (fun M7 D7 => ?_)
          refine l_109 D7 t0 t1 (by omega) (fun M8 D8 => ?_)
          refine l_110 (d := d) (q := ynq T n (ynq T n q1)) D8 t0 t1 rfl (fun M9 D9 => ?_)
          have rq2 := ynq_r (T := T) (n := n) (q := ynq T n q1) (by omega)
          have xq2 : ytx T n (ynq T n (ynq T n q1)) = ynq T n (ynq T n q1) := ytx_i (by omega)
          rw [show zb (2 + 1) = 3 from rfl, show (2 : Int) + 1 = 3 from rfl] at *
          refine w_71_12 ?_
          rw [if_neg (by decide)]
          simp only [isC_pos hc, isC_O hc, isC_np hc (show 0 ≤ (1 : Int) ∧ (1 : Int) < 8 ∨ (1 : Int) = 9 by decide), Bool.and_true, cond_true]
          refine l_sgn (d := d) D9 t0 t1 xq2 (fun z => absurd z (by decide)) (fun _ => ?_)
          unfold ySn at h ⊢
          by_cases b3 : ysg (ylq T n (ynq T n (ynq T n q1))) = -1
          · rw [if_pos b3] at h ⊢; exact h
          · rw [if_neg b3] at h ⊢
            intro Ma sa Da ha
            refine l_85 (d := d) Da t0 t1 (by decide) (by decide) (by decide) ha ?_
            unfold yDg at h ⊢
            split
            case isFalse z => rw [if_neg z] at h; exact h
            case isTrue z =>
              rw [if_pos z] at h
              intro Mb sb ob Db hb
              refine l_85 (d := d) Db t0 t1 (by decide) (by decide) (by decide) hb ?_
              unfold yDg
              split
              case isFalse z => rw [if_neg z] at h; exact h
              case isTrue z =>
                rw [if_pos z] at h
                intro Mc sc oc Dc hc'
                refine l_85 (d := d) Dc t0 t1 (by decide) (by decide) (by decide) hc' ?_
                unfold yDg
                split
                case isFalse z => rw [if_neg z] at h; exact h
                case isTrue z =>
                  rw [if_pos z] at h
                  intro Md sd od Dd hd
                  refine l_85e (d := d) Dd t0 t1 (by decide) ?_
                  refine h Md ⟨sd, Dd.x t0 t1, hd, yDr_R Dd.1 (fun z => by omega) (fun _ => ⟨rfl, rfl⟩) rfl (fun _ => by decide) (fun z => by omega) (fun z => by omega) (fun z => by omega) (fun z => by omega) (fun z => by omega) (fun _ => ⟨by decide, hco, rfl, rfl, rfl, fun _ => ⟨by decide, rfl, rfl⟩⟩), fun _ => ?_⟩
                  rw [Dd.1.2.2.1.2.2.2.2.2.1]; rfl
      · rw [if_neg a2] at h
        rw [if_neg a2]
        refine w_71_12 ?_
        rw [if_pos (by decide), if_pos rfl]
        simp only [isC_pos hc, isC_O hc, isC_np hc (show 0 ≤ (1 : Int) ∧ (1 : Int) < 8 ∨ (1 : Int) = 9 by decide), Bool.and_true, cond_true]
        refine l_sgn (d := d) D6 t0 t1 xq (fun z => absurd z (by decide)) (fun _ => ?_)
        unfold ySn at h ⊢
        by_cases b3 : ysg (ylq T n (ynq T n q1)) = -1
        · rw [if_pos b3] at h ⊢; exact h
        · rw [if_neg b3] at h ⊢
          intro Ma sa Da ha
          refine l_85 (d := d) Da t0 t1 (by decide) (by decide) (by decide) ha ?_
          unfold yDg at h ⊢
          split
          case isFalse z => rw [if_neg z] at h; exact h
          case isTrue z =>
            rw [if_pos z] at h
            intro Mb sb ob Db hb
            refine l_85 (d := d) Db t0 t1 (by decide) (by decide) (by decide) hb ?_
            unfold yDg
            split
            case isFalse z => rw [if_neg z] at h; exact h
            case isTrue z =>
              rw [if_pos z] at h
              intro Mc sc oc Dc hc'
              refine l_85e (d := d) Dc t0 t1 (by decide) ?_
              refine h Mc ⟨sc, Dc.x t0 t1, hc', yDr_R Dc.1 (fun z => by omega) (fun _ => ⟨rfl, rfl⟩) rfl (fun _ => by decide) (fun z => by omega) (fun z => by omega) (fun z => by omega) (fun z => by omega) (fun z => by omega) (fun _ => ⟨by decide, hco, rfl, rfl, rfl, fun z => absurd (show (2 : Int) = 3 from z) (by decide)⟩), fun _ => ?_⟩
              rw [Dc.1.2.2.1.2.2.2.2.2.1]; rfl
  · rw [if_neg a] at h
    rw [if_neg a]
    refine w_71_12 ?_
    rw [if_pos (by decide), if_pos rfl]
    simp only [isC_pos hc, isC_O hc, isC_np hc (show 0 ≤ (1 : Int) ∧ (1 : Int) < 8 ∨ (1 : Int) = 9 by decide), Bool.and_true, cond_true]
    exact l_sgn (d := d) D3 t0 t1 hx (fun _ => h) (fun z => absurd z (by decide))
theorem c_67 {p : Int} {K : Int → ZN → Prop} (D : yLd m0 M T n sp t 0 (-1) 0 0 0 co wa) (t0 : 0 ≤ t) (t1 : t ≤ 24) (hp : ytx T n sp = p) (p0 : 0 ≤ p) (p1 : p < n) (hT : 97 ≤ T p ∧ T p ≤ 99) (h : yLeaf T n p (fun q => ∀ M', yLx m0 M' T n q t → K 0 M') (fun kd sg a p' => ∀ M', yLe m0 M' T n p' t kd sg a → K 1 M')) : zcI (d + 3) 67 [zA 216, zA (10 + 4 * t)] M K := by
  have hc := isC_l t0 (show t < 25 by omega)
  have lp : ylq T n p = T p := if_pos p1
  refine w_67 ?_
  refine l_110 (d := d + 1) D t0 t1 hp (fun M1 D1 => ?_)
  rw [lp, if_pos hT, if_neg (by omega)]
  refine l_109 D1 t0 t1 (by rw [lp]; omega) (fun M2 D2 => ?_)
  simp only [isC_pos hc, isC_O hc, cond_true]
  refine l_2 D2 t0 t1 (by decide) (by decide) (fun M3 D3 => ?_)
  refine l_111 (d := d + 1) (q := ynq T n p) D3 t0 t1 rfl (fun M4 D4 => ?_)
  rw [show (0 : Int) + 1 = 1 from rfl] at *
  have rq := ynq_r (T := T) (n := n) (q := p) (by rw [lp]; omega)
  have xq : ytx T n (ynq T n p) = ynq T n p := ytx_i (by omega)
  have hco : (fun i : Int => if i = 0 then T p - 97 else co i) 0 = T p - 97 := rfl
  unfold yLeaf at h
  obtain ⟨q1, hq1⟩ : ∃ q1, q1 = ynq T n p := ⟨_, rfl⟩
  rw [← hq1] at D4 xq h rq ⊢
  have sg0 : 97 ≤ ylq T n q1 ∧ ylq T n q1 ≤ 99 → ysg (ylq T n q1) = -1 := fun z => by
    unfold ysg
    rw [if_neg (by omega), if_neg (by omega), if_neg (by omega), if_neg (by omega)]
  by_cases a : ysg (ylq T n q1) = -1
  · rw [if_pos a]
    refine l_108 D4 t0 t1 xq (fun M5 D5 => ?_)
    by_cases e37 : ylq T n q1 = 37
    · rw [if_neg (by omega), if_neg (fun z => z a), if_neg (by omega), if_neg (by omega), if_pos e37] at h
      rw [if_pos e37]
      refine c_70 (d := d) D5 t0 t1 hco (by omega) (by omega) (by omega) ?_
      unfold yDg at h ⊢
      split
      case isFalse z => rw [if_neg z] at h; intro M' x; rw [yck_of (by decide)]; exact h M' x
      case isTrue z =>
        rw [if_pos z] at h
        split
        case isFalse z => rw [if_neg z] at h; intro M' x; rw [yck_of (by decide)]; exact h M' x
        case isTrue z => rw [if_pos z] at h; intro M' x; rw [yck_of (by decide)]; exact h M' x
    · rw [if_neg e37]
      by_cases e63 : ylq T n q1 = 63
      · rw [if_neg (by omega), if_neg (fun z => z a), if_neg (by omega), if_pos e63] at h
        rw [if_pos e63]
        simp only [isC_np hc (show 0 ≤ (0 : Int) ∧ (0 : Int) < 8 ∨ (0 : Int) = 9 by decide), Bool.and_true, cond_true]
        have D6 := D5.fs t0 t1 (j := 0) (v := 2) (by decide)
        rw [if_pos rfl, if_neg (by decide), if_neg (by decide)] at D6
        refine l_109 D6 t0 t1 (by omega) (fun M7 D7 => ?_)
        rw [yck_of (by decide)]
        refine h M7 ⟨q1 + 1, D7.x t0 t1, rfl, yDr_R D7.1 (fun z => by omega) (fun _ => ⟨rfl, rfl⟩) rfl (fun _ => by decide) (fun z => by omega) (fun _ => rfl) (fun z => by omega) (fun z => by omega) (fun z => by omega) (fun z => by omega), fun _ => ?_⟩
        rw [D7.1.2.2.1.2.2.2.2.2.1]
        have e := ybit0I (v := T p - 97) (by omega) (by omega)
        rw [e.1]; rfl
      · rw [if_neg e63]
        by_cases e91 : ylq T n q1 = 91
        · rw [if_neg (by omega), if_neg (fun z => z a), if_pos e91] at h
          rw [if_pos e91]
          refine c_69 (d := d) D5 t0 t1 hco (by omega) (by omega) (by omega) (by omega) ?_
          have k0 : ∀ M', zck ((0 : Int) ≤ 0 ∧ (0 : Int) ≤ 1) (K 0 M') = K 0 M' := fun M' => yck_of (by decide)
          have k1 : ∀ M', zck ((0 : Int) ≤ 1 ∧ (1 : Int) ≤ 1) (K 1 M') = K 1 M' := fun M' => yck_of (by decide)
          simp only [k0, k1]
          exact h
        · rw [if_neg e91]
          refine c_71 (d := d) D5 t0 t1 hco (by omega) (by omega) xq ?_
          have k0 : ∀ M', zck ((0 : Int) ≤ 0 ∧ (0 : Int) ≤ 1) (K 0 M') = K 0 M' := fun M' => yck_of (by decide)
          have k1 : ∀ M', zck ((0 : Int) ≤ 1 ∧ (1 : Int) ≤ 1) (K 1 M') = K 1 M' := fun M' => yck_of (by decide)
          simp only [k0, k1]
          by_cases b : 97 ≤ ylq T n q1 ∧ ylq T n q1 ≤ 99
          · rw [if_pos b] at h ⊢; exact h
          · rw [if_neg b, if_neg (fun z => z a), if_neg e91, if_neg e63, if_neg e37] at h
            rw [if_neg b]; exact h
  · rw [if_neg (fun z => a (sg0 z)), if_pos a] at h
    rw [if_neg a]
    refine c_68 (d := d) D4 t0 t1 hco (by omega) (by omega) a xq ?_
    have k0 : ∀ M', zck ((0 : Int) ≤ 0 ∧ (0 : Int) ≤ 1) (K 0 M') = K 0 M' := fun M' => yck_of (by decide)
    have k1 : ∀ M', zck ((0 : Int) ≤ 1 ∧ (1 : Int) ≤ 1) (K 1 M') = K 1 M' := fun M' => yck_of (by decide)
    simp only [k0, k1]
    exact h
end LG
