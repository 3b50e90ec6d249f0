/-! ===== a condition read: a turn ===== -/
theorem yLeaf_e {T : Int → Int} {n p : Int} {E E' : Int → Prop} {S S' : Int → Int → (Int → Int) → Int → Prop} (h1 : ∀ q, E q = E' q) (h2 : ∀ k sn a p', S k sn a p' = S' k sn a p') (h : yLeaf T n p E S) : yLeaf T n p E' S' := by
  have e1 : E = E' := funext h1
  have e2 : S = S' := funext fun k => funext fun sn => funext fun a => funext fun p' => h2 k sn a p'
  rw [← e1, ← e2]
  exact h
section GT
variable {m : ZN} {T : Int → Int} {n c0 : Int} {r : Nat}
theorem yLd_0 {m0 M : ZN} {sp t k s x : Int} {co wa : Int → Int} (D : yDr m0 M t k s (-1) (-1) 0 0 0 co wa) (hx : x = zr m0 216 2) (h : yTp M T n sp) (e : sp = x) : yLd m0 M T n sp t k s 0 0 0 co wa := by
  have z : ∀ b, zr (zsn m0 216 2 sp) b = zr m0 b := fun b => funext fun j => by
    by_cases q : b = 216 ∧ j = 2
    · rw [q.1, q.2, yr_ss (znp_o rfl), e, hx]
    · by_cases q1 : b = 216
      · rw [q1, yr_so (fun w => q ⟨q1, w⟩)]
      · rw [yr_sc q1]
  obtain ⟨d1, d2, d3, d4⟩ := D
  exact ⟨⟨fun b b0 b1 b2 b3 => by rw [z b]; exact d1 b b0 b1 b2 b3, by rw [z 8]; exact d2, d3, d4⟩, h⟩
theorem yLx.kf {M0 M1 M : ZN} {p N q : Int} {kd sg sd : Int → Int} {no : Int} {O : Int → Int} {nw : Int} {W : Int → Int} (X : yLx M1 M T n q (ysl N)) (C : yKs m M1 T n c0 p N kd sg sd no O nw W) : yKf m M c0 q := by
  obtain ⟨x1, x2, x3, x4⟩ := X
  have c3 := C.2.2.1
  have hs : c0 ≤ ysl N ∧ ysl N ≤ 24 := by unfold ysl; omega
  refine ⟨fun b b0 b1 b2 b3 b4 b5 => ?_, fun j hj => by rw [x3 j hj]; exact C.2.1 j hj, by rw [x2.1]; exact c3.1, x4.2.1⟩
  rw [x1 b (by omega) (by omega) (by omega) b0 b1]
  exact C.1 b b0 b1 b2 b3 b4 b5
theorem yTurn_s (hT : yTurn m T n c0 r) (hE : yCond m T n c0 r) : yTurn m T n c0 (r + 1) := by
  intro p N kd sg sd ⟨⟨p0, p1, n250, px⟩, hr, hP, hN⟩
  have xn : ∀ p', p' + 1 ≤ n → ytx T n (p' + 1) = ynq T n p' := fun _ _ => rfl
  have e0 : ∀ d, d + 3 * (r + 1) + 10 = d + 3 * r + 12 + 1 := fun d => by omega
  have tp : ∀ {mr M : ZN} {s N : Int} {kd sg sd tf : Int → Int} {tg : Int}, yTq mr T n → yRs mr M n s N kd sg sd tf tg → ylq T n p ≠ -1 → zr M 251 p = ylq T n p := fun Q R h => by
    have lt := ylq_lt h
    rw [R.1 251 (by decide) (by decide) (by decide) (by decide) (by decide), (Q.2.2 p p0 lt).1]
    exact (if_pos lt).symm
  by_cases L2 : ylq T n p = 45 ∨ ylq T n p = 43
  · -- a sign
    have q1 := ylq_n (T := T) (n := n) p0 (by omega)
    obtain ⟨kk, hkk⟩ : ∃ kk : Int, kk = if ylq T n p = 45 then 8 else 9 := ⟨_, rfl⟩
    have kr : kk = 8 ∨ kk = 9 := by rw [hkk]; split <;> omega
    have ref : ∀ (d : Nat) (mr M : ZN) (s : Int) (tf : Int → Int) (tg : Int) (K : Int → ZN → Prop), yTq mr T n → yRs mr M n s N kd sg sd tf tg → ytx T n s = p → (∀ M1, yRs mr M1 n (p + 1) N kd sg sd tf tg → zcI (d + 3 * r + 12) 244 [zA 236] M1 (fun v8 n7 => if zr n7 236 36 = -1 then zcI (d + 3 * r + 12) 233 [zA 236, zI kk, zI v8, zI (-1)] n7 (fun v10 n9 => K v10 n9) else K 0 n7)) → zcI (d + 3 * (r + 1) + 10) 244 [zA 236] M K := fun d mr M s tf tg K Q R hs h => by
      have hn := Q.2.1
      have lt := ylq_lt (T := T) (n := n) (q := p) (by omega)
      rw [e0 d]
      refine w_244 ?_
      refine r_235 Q R (by decide) (fun M1 => ⟨fun e R1 => ?_, fun e R1 => ?_⟩)
      · rw [hs] at R1 e
        rw [if_pos e] at hkk
        have g := h M1 R1
        rw [hkk] at g
        rw [if_neg (by decide), R1.2.2.1.1, show zb (p + 1 - 1) = p from by rw [yb_id (by omega) (by omega)]; omega, yck_of (by omega), tp Q R1 (by omega), if_pos e]
        exact g
      · rw [hs] at R1 e
        rw [if_neg e] at hkk
        rw [if_pos rfl]
        refine r_235 Q R1 (by decide) (fun M2 => ⟨fun e2 R2 => ?_, fun e2 R2 => ?_⟩)
        · rw [px] at R2 e2
          have g := h M2 R2
          rw [hkk] at g
          rw [if_neg (by decide), R2.2.2.1.1, show zb (p + 1 - 1) = p from by rw [yb_id (by omega) (by omega)]; omega, yck_of (by omega), tp Q R2 (by omega), if_neg e]
          exact g
        · rw [px] at e2; omega
    rcases hT (ynq T n p) N kd sg sd ⟨⟨by omega, q1.2.1, n250, q1.2.2⟩, by omega, hP, by omega⟩ with ⟨q, hq, hF, hC⟩ | ⟨x, p', N', kd', sg', sd', ⟨⟨e1, e2, e3⟩, e4, e5, e6, e7, e8⟩, hS, hC⟩
    · refine Or.inl ⟨q, hq, fun d mr M s tf tg K g Q R hs hK => ?_, fun d M s no O nw W y o5 P Z hs hb hK => ?_⟩
      · refine ref d mr M s tf tg K Q R hs (fun M1 R1 => ?_)
        have F := hF (d + 2)
        rw [show d + 2 + 3 * r + 10 = d + 3 * r + 12 by omega] at F
        refine F mr M1 (p + 1) tf tg _ g Q R1 rfl (fun M2 v F2 => ?_)
        have f3 := F2.2.2.1
        rw [f3.1, if_neg (by omega)]
        exact hK M2 0 F2
      · refine y_push Z.1 hs hb.2.1 hb.2.2 Z.2.1 rfl (by omega) (fun M' C' => ?_)
        exact hC d M' (p + 1) (no + 1) (yup O no (ylq T n p)) nw W (y + 1) _ P ⟨by rw [show ((no + 1 : Nat) : Int) = (no : Int) + 1 by omega]; exact C', by have := Z.2.1; omega, by have := Z.2.2.1; omega, trivial⟩ rfl ⟨by omega, by omega, by omega⟩ hK
    · have hP2 := yPu_n (k := kk) (s := -1) (ad := yov x (-1)) e4 (fun _ => yWf_o (by omega) (by omega) e7 e8 (fun z => by omega) (fun _ => rfl))
      refine Or.inr ⟨N', p', N' + 1, _, _, _, ⟨⟨by omega, e2, e3⟩, hP2, by omega, by omega, by omega, by omega⟩, fun d mr M s tf tg K g Q R hs hK => ?_, fun d M s no O nw W y o5 P Z hs hb hK => ?_⟩
      · refine ref d mr M s tf tg K Q R hs (fun M1 R1 => ?_)
        have S := hS (d + 2)
        rw [show d + 2 + 3 * r + 10 = d + 3 * r + 12 by omega] at S
        refine S mr M1 (p + 1) tf tg _ g Q R1 rfl (fun M2 s2 tf2 tg2 R2 h2 => ?_)
        rw [R2.2.2.2.1, if_pos rfl]
        exact r_233 R2 (by omega) (fun M3 tf3 tg3 R3 => hK M3 s2 tf3 tg3 R3 h2)
      · refine y_push Z.1 hs hb.2.1 hb.2.2 Z.2.1 rfl (by omega) (fun M' C' => ?_)
        refine hC d M' (p + 1) (no + 1) (yup O no (ylq T n p)) nw W (y + 1) _ P ⟨by rw [show ((no + 1 : Nat) : Int) = (no : Int) + 1 by omega]; exact C', by have := Z.2.1; omega, by have := Z.2.2.1; omega, trivial⟩ rfl ⟨by omega, by omega, by omega⟩ ?_
        have go : yTW (yup O no (ylq T n p)) W nw (fun no' nw' W' N'' kd'' sg'' sd'' => ∀ M' s' y' o5', yKs m M' T n c0 s' N'' kd'' sg'' sd'' no' (yup O no (ylq T n p)) nw' W' → ytx T n s' = p' → 0 ≤ y' → y' ≤ p' → yH d 0 y' o5' M' P) no N' (N' + 1) (yup kd' N' kk) (yup sg' N' (-1)) (yus sd' N' (yov x (-1))) := by
          refine yTW_m no N' (N' + 1) _ _ _ (fun j hj => (yup_o (by omega)).symm) (fun no' nw' W' N'' kd'' sg'' sd'' h0 h1 _ _ hR M' s' y' o5' C2 => hR M' s' y' o5' (C2.O_c (fun j j0 j1 => yup_o (by omega)) (fun _ _ _ => rfl))) hK
        rw [yTW_s, yup_n]
        rcases L2 with L | L
        · rw [if_pos L]
          rw [if_pos L] at hkk
          rw [hkk] at go
          exact go
        · rw [if_neg (by omega), if_pos L]
          rw [if_neg (by omega)] at hkk
          rw [hkk] at go
          exact go
  · -- the reference sees no sign
    have ref1 : ∀ (d : Nat) (mr M : ZN) (s : Int) (tf : Int → Int) (tg : Int) (K : Int → ZN → Prop), yTq mr T n → yRs mr M n s N kd sg sd tf tg → ytx T n s = p → (∀ M1, (ylq T n p = 40 → yRs mr M1 n (p + 1) N kd sg sd tf tg → zcI (d + 3 * r + 12) 246 [zA 236] M1 (fun v26 n25 => zcV (d + 3 * r + 12) 237 [zA 236, zI 41] n25 (fun n27 => K v26 n27))) ∧ (ylq T n p ≠ 40 → yRs mr M1 n p N kd sg sd tf tg → zcI (d + 3 * r + 12) 234 [zA 236] M1 (fun v18 n17 => zcI (d + 3 * r + 12) 192 [zJ v18, zJ 97, zJ 99] n17 (fun v20 n19 => if v20 = 0 then zcI (d + 3 * r + 12) 236 [zA 236] n19 (fun v24 n23 => K v24 n23) else zck (0 ≤ zb (zr (zsn n19 236 35 (zb (zr n19 236 35 + 1))) 236 35 - 1) ∧ zb (zr (zsn n19 236 35 (zb (zr n19 236 35 + 1))) 236 35 - 1) < 250) (zcI (d + 3 * r + 12) 243 [zA 236, zI (zb (zr (zsn n19 236 35 (zb (zr n19 236 35 + 1))) 251 (zb (zr (zsn n19 236 35 (zb (zr n19 236 35 + 1))) 236 35 - 1)) - 97))] (zsn n19 236 35 (zb (zr n19 236 35 + 1))) (fun v22 n21 => K v22 n21)))))) → zcI (d + 3 * (r + 1) + 10) 244 [zA 236] M K := fun d mr M s tf tg K Q R hs h => by
      rw [e0 d]
      refine w_244 ?_
      refine r_235 Q R (by decide) (fun M1 => ⟨fun e R1 => ?_, fun e R1 => ?_⟩)
      · rw [hs] at e; exact absurd (Or.inl e) L2
      · rw [hs] at R1
        rw [if_pos rfl]
        refine r_235 Q R1 (by decide) (fun M2 => ⟨fun e R2 => ?_, fun e R2 => ?_⟩)
        · rw [px] at e; exact absurd (Or.inr e) L2
        · rw [px] at R2
          rw [if_pos rfl]
          refine r_235 Q R2 (by decide) (fun M3 => ⟨fun e R3 => ?_, fun e R3 => ?_⟩)
          · rw [px] at e R3
            rw [if_neg (by decide)]
            exact (h M3).1 e R3
          · rw [px] at e R3
            rw [if_pos rfl, R3.2.2.2.1, if_pos rfl]
            exact (h M3).2 e R3
    by_cases L40 : ylq T n p = 40
    · -- what is opened
      have q1 := ylq_n (T := T) (n := n) p0 (by omega)
      have nc : ∀ {O : Int → Int} {no : Nat}, yNc (yup O no 40) (no + 1) := fun {O no} k hk => by
        have : k = no := by omega
        subst this
        rw [yup_n]
        decide
      have cls : ∀ {d : Nat} {M : ZN} {s : Int} {no : Nat} {O : Int → Int} {nw : Int} {W : Int → Int} {yy : Int} {o5 : Option ZV} {P : Option ZV → ZN → Prop}, yZt m T n c0 p N kd sg sd (fun _ _ => True) M s no O nw W → ytx T n s = p → (0 ≤ nw ∧ 0 ≤ yy ∧ yy ≤ p) → (∀ M', yZt m T n c0 (ynq T n p) N kd sg sd yNc M' (p + 1) (no + 1) (yup O no 40) nw W → yH d 1 (yy + 1) (some (zI 40)) M' P) → yH d 1 yy o5 M P := fun Z hs hb h => by
        refine y_push Z.1 hs hb.2.1 hb.2.2 Z.2.1 L40 (by decide) (fun M' C' => h M' ⟨?_, by have := Z.2.1; omega, by have := Z.2.2.1; omega, nc⟩)
        rw [show ∀ k : Nat, ((k + 1 : Nat) : Int) = (k : Int) + 1 from fun k => by omega]
        exact C'
      rcases hE (ynq T n p) N kd sg sd ⟨⟨by omega, q1.2.1, n250, q1.2.2⟩, by omega, hP, by omega⟩ with ⟨q, hq, hF, hC⟩ | ⟨x, p', N', kd', sg', sd', ⟨⟨e1, e2, e3⟩, e4, e5, e6, e7, e8⟩, e9, hS, hC⟩
      · refine Or.inl ⟨q, hq, fun d mr M s tf tg K g Q R hs hK => ?_, fun d M s no O nw W y o5 P Z hs hb hK => ?_⟩
        · refine ref1 d mr M s tf tg K Q R hs (fun M1 => ⟨fun _ R1 => ?_, fun e _ => absurd L40 e⟩)
          exact hF d mr M1 (p + 1) tf tg _ g Q R1 rfl (fun M2 v F2 => f_237 F2 (hK M2 v F2))
        · exact cls Z hs hb (fun M' Z' => hC d M' (p + 1) (no + 1) _ nw W (y + 1) _ P Z' rfl ⟨hb.1, by omega, by omega⟩ hK)
      · by_cases L41 : ylq T n p' = 41
        · have q2 := ylq_n (T := T) (n := n) (p := p') (by omega) (by omega)
          refine Or.inr ⟨x, ynq T n p', N', kd', sg', sd', ⟨⟨by omega, q2.2.1, q2.2.2⟩, e4, by omega, by omega, e7, e8⟩, fun d mr M s tf tg K g Q R hs hK => ?_, fun d M s no O nw W y o5 P Z hs hb hK => ?_⟩
          · refine ref1 d mr M s tf tg K Q R hs (fun M1 => ⟨fun _ R1 => ?_, fun e _ => absurd L40 e⟩)
            refine hS d mr M1 (p + 1) tf tg _ g Q R1 rfl (fun M2 s2 tf2 tg2 R2 h2 => ?_)
            refine r_237 Q R2 (yPu_g g e4) (by decide) (fun M3 => ⟨fun e R3 => ?_, fun e _ => ?_⟩)
            · rw [h2] at R3
              exact hK M3 _ tf2 tg2 R3 rfl
            · rw [h2] at e; exact absurd L41 e
          · refine cls Z hs hb (fun M' Z' => ?_)
            refine hC d M' (p + 1) (no + 1) _ nw W (y + 1) _ P Z' rfl ⟨hb.1, by omega, by omega⟩ (fun M2 s2 y2 o2 Z2 h2 h3 h4 => ?_)
            refine y_close Z2.1 h2 h3 h4 hb.1 (by have := Z.2.2.1; omega) (by omega) L41 (yTW_m no x N' _ _ _ (fun _ _ => rfl) (fun no' nw' W' N'' kd'' sg'' sd'' _ _ _ _ hR M3 C3 => ?_) hK)
            exact hR M3 (p' + 1) (y2 + 1) _ C3 rfl (by omega) (by omega)
        · refine Or.inl ⟨p', ⟨by omega, e2⟩, fun d mr M s tf tg K g Q R hs hK => ?_, fun d M s no O nw W y o5 P Z hs hb hK => ?_⟩
          · refine ref1 d mr M s tf tg K Q R hs (fun M1 => ⟨fun _ R1 => ?_, fun e _ => absurd L40 e⟩)
            refine hS d mr M1 (p + 1) tf tg _ g Q R1 rfl (fun M2 s2 tf2 tg2 R2 h2 => ?_)
            refine r_237 Q R2 (yPu_g g e4) (by decide) (fun M3 => ⟨fun e R3 => ?_, fun e F3 => ?_⟩)
            · rw [h2] at e; exact absurd e L41
            · rw [h2] at F3
              exact hK M3 x F3
          · refine cls Z hs hb (fun M' Z' => ?_)
            refine hC d M' (p + 1) (no + 1) _ nw W (y + 1) _ P Z' rfl ⟨hb.1, by omega, by omega⟩ (fun M2 s2 y2 o2 Z2 h2 h3 h4 => ?_)
            exact y_bad Z2.1 h2 h3 (by omega) hb.1 (by omega) nc rfl e9 (fun e => absurd e L41) (fun _ => by omega) hK
    · by_cases Lc : 97 ≤ ylq T n p ∧ ylq T n p ≤ 99
      · -- a leaf
        have lt := ylq_lt (T := T) (n := n) (q := p) (by omega)
        have eT : ylq T n p = T p := if_pos lt
        have refL : ∀ (d : Nat) (mr M : ZN) (s : Int) (tf : Int → Int) (tg : Int) (K : Int → ZN → Prop), yTq mr T n → yRs mr M n s N kd sg sd tf tg → ytx T n s = p → (∀ M1, yRs mr M1 n (p + 1) N kd sg sd tf tg → zcI (d + 3 * r + 12) 243 [zA 236, zI (T p - 97)] M1 (fun v22 n21 => K v22 n21)) → zcI (d + 3 * (r + 1) + 10) 244 [zA 236] M K := fun d mr M s tf tg K Q R hs h => by
          refine ref1 d mr M s tf tg K Q R hs (fun M1 => ⟨fun e _ => absurd e L40, fun _ R1 => ?_⟩)
          have hn := Q.2.1
          refine r_234 Q R1 (fun M2 R2 => ?_)
          rw [ylt_q, px, c_192, if_pos Lc, if_neg (by decide)]
          rw [px] at R2
          have R3 := R2.w (v := p + 1) (by omega) (by omega)
          have t3 := tp Q R3 (by omega)
          rw [R2.2.2.1.1, show zb (p + 1) = p + 1 from yb_id (by omega) (by omega), R3.2.2.1.1, show zb (p + 1 - 1) = p from by rw [yb_id (by omega) (by omega)]; omega, yck_of (by omega), t3, eT, show zb (T p - 97) = T p - 97 from yb_id (by omega) (by omega)]
          exact h _ R3
        have clsL : ∀ (d : Nat) (M : ZN) (s : Int) (no : Nat) (O : Int → Int) (nw : Int) (W : Int → Int) (yy : Int) (o5 : Option ZV) (P : Option ZV → ZN → Prop), yZt m T n c0 p N kd sg sd (fun _ _ => True) M s no O nw W → ytx T n s = p → (0 ≤ nw ∧ 0 ≤ yy ∧ yy ≤ p) → (∀ M1, yKs m M1 T n c0 p N kd sg sd no O nw W → yLeaf T n p (fun q => ∀ M', yLx M1 M' T n q (ysl N) → P (some (zI 0)) M') (fun k sn a p' => ∀ M', yLe M1 M' T n p' (ysl N) k sn a → zcI (d + 5) 27 [zA 8] M' (fun v21 n20 => zcV (d + 5) 60 [zA 218, zA 8, zI v21] n20 (fun n22 => yH d 0 (yy + 1) (some (zI (ylq T n p))) n22 P)))) → yH d 1 yy o5 M P := fun d M s no O nw W yy o5 P Z hs hb h => by
          refine y_leaf Z.1 hs hb.2.1 (by omega) rfl (by omega) (fun M1 C1 => ?_)
          have c3 := C1.2.2.1
          have hsl : 0 ≤ ysl N ∧ ysl N ≤ 24 := by unfold ysl; omega
          refine d_25g (d := d + 3) (N := N) (by omega) (by omega) (by omega) (by omega) (fun M2 D => ?_)
          have D0 := D (fun _ => 0) (fun _ => 0)
          have t2 : yTp M2 T n p := C1.2.2.2.1.fr (D0.1 216 (by omega) (by omega) (by omega) (by omega)) (D0.1 217 (by omega) (by omega) (by omega) (by omega))
          have Dl := yLd_0 (x := p) D0 C1.2.2.2.1.2.1.symm t2 rfl
          refine c_67 (d := d + 2) Dl hsl.1 hsl.2 px p0 lt (by omega) ?_
          have k0 : ∀ M', (if (0 : Int) = 0 then zck ((0 : Int) ≤ 0 ∧ (0 : Int) ≤ 1) (P (some (zI 0)) M') else zcI (d + 5) 27 [zA 8] M' (fun v21 n20 => zcV (d + 5) 60 [zA 218, zA 8, zI v21] n20 (fun n22 => yH d 0 (yy + 1) (some (zI (ylq T n p))) n22 P))) = P (some (zI 0)) M' := fun M' => by rw [if_pos rfl, yck_of (by decide)]
          have k1 : ∀ M', (if (1 : Int) = 0 then zck ((0 : Int) ≤ 0 ∧ (0 : Int) ≤ 1) (P (some (zI 0)) M') else zcI (d + 5) 27 [zA 8] M' (fun v21 n20 => zcV (d + 5) 60 [zA 218, zA 8, zI v21] n20 (fun n22 => yH d 0 (yy + 1) (some (zI (ylq T n p))) n22 P))) = zcI (d + 5) 27 [zA 8] M' (fun v21 n20 => zcV (d + 5) 60 [zA 218, zA 8, zI v21] n20 (fun n22 => yH d 0 (yy + 1) (some (zI (ylq T n p))) n22 P)) := fun M' => if_neg (by decide)
          exact yLeaf_e (fun q => (forall_congr fun M' => implies_congr rfl (k0 M')).symm) (fun k sn a p' => (forall_congr fun M' => implies_congr rfl (k1 M')).symm) (h M1 C1)
        rcases yLeaf_t (T := T) (n := n) lt (show 97 ≤ T p ∧ T p ≤ 99 by omega) with ⟨q, q0, q1, hL⟩ | ⟨k, sn, a, p', ⟨e1, e2, e3⟩, ⟨k5, hW⟩, hL⟩
        · refine Or.inl ⟨q, ⟨by omega, q1⟩, fun d mr M s tf tg K g Q R hs hK => ?_, fun d M s no O nw W y o5 P Z hs hb hK => ?_⟩
          · refine refL d mr M s tf tg K Q R hs (fun M1 R1 => ?_)
            exact r_243 Q R1 (yPu_g g hP) (by omega) (by omega) (hL _ _ (fun M' F => hK M' 0 F))
          · exact clsL d M s no O nw W y o5 P Z hs hb (fun M1 C1 => hL _ _ (fun M' X => hK M' (X.kf (M0 := M1) C1)))
        · have hP2 := yPu_n (k := k) (s := sn) (ad := a) hP (fun _ => hW N)
          refine Or.inr ⟨N, p', N + 1, _, _, _, ⟨⟨by omega, e2, e3⟩, hP2, by omega, by omega, by have := hP.1; omega, by omega⟩, fun d mr M s tf tg K g Q R hs hK => ?_, fun d M s no O nw W y o5 P Z hs hb hK => ?_⟩
          · refine refL d mr M s tf tg K Q R hs (fun M1 R1 => ?_)
            exact r_243 Q R1 (yPu_g g hP) (by omega) (by omega) (hL _ _ (fun M' sp' tf' tg' R' h' => hK M' sp' tf' tg' R' h'))
          · refine clsL d M s no O nw W y o5 P Z hs hb (fun M1 C1 => hL _ _ (fun M' ⟨sp, X, hx, hD⟩ => ?_))
            have C2 := C1.dr (k := k) (sn := sn) (ad := a) X.1 X.2.1 X.2.2.1 X.2.2.2 (fun z => by
              rw [show ysl N = N by unfold ysl; omega] at hD
              exact hD)
            have z := Z.2.1
            have z2 := Z.2.2.1
            rw [c_27 C2 (by omega), show N + 1 - 1 = N by omega]
            refine c_60 (d := d + 2) C2 (by omega) hb.1 (by omega) (by omega) (yTW_m no N (N + 1) _ _ _ (fun _ _ => rfl) (fun no' nw' W' N'' kd'' sg'' sd'' _ _ _ _ hR M3 C3 => ?_) hK)
            exact hR M3 sp (y + 1) _ C3 hx (by omega) (by omega)
      · -- what can't stand there
        refine Or.inl ⟨p, ⟨p0, p1⟩, fun d mr M s tf tg K g Q R hs hK => ?_, fun d M s no O nw W y o5 P Z hs hb hK => ?_⟩
        · refine ref1 d mr M s tf tg K Q R hs (fun M1 => ⟨fun e _ => absurd e L40, fun _ R1 => ?_⟩)
          refine r_234 Q R1 (fun M2 R2 => ?_)
          rw [ylt_q, px, c_192, if_neg Lc, if_pos rfl]
          rw [px] at R2
          exact r_236 R2 (yPu_g g hP) n250 (fun M3 F3 => hK M3 0 F3)
        · by_cases Le : ylq T n p = -1
          · exact y_end Z.1 hs (by omega) Le hK
          · refine y_leaf Z.1 hs hb.2.1 (by omega) rfl (by omega) (fun M1 C1 => ?_)
            have c3 := C1.2.2.1
            have hsl : 0 ≤ ysl N ∧ ysl N ≤ 24 := by unfold ysl; omega
            refine d_25g (d := d + 3) (N := N) (by omega) (by omega) (by omega) (by omega) (fun M2 D => ?_)
            have D0 := D (fun _ => 0) (fun _ => 0)
            have t2 : yTp M2 T n p := C1.2.2.2.1.fr (D0.1 216 (by omega) (by omega) (by omega) (by omega)) (D0.1 217 (by omega) (by omega) (by omega) (by omega))
            have Dl := yLd_0 (x := p) D0 C1.2.2.2.1.2.1.symm t2 rfl
            refine w_67 ?_
            refine l_110 (d := d + 3) Dl hsl.1 hsl.2 px (fun M3 D3 => ?_)
            rw [if_neg Lc, if_pos rfl, yck_of (by decide), if_pos rfl, yck_of (by decide)]
            exact hK M3 ((D3.x hsl.1 hsl.2).kf (M0 := M1) C1)
theorem y_all : ∀ r : Nat, yTurn m T n c0 r ∧ yEach m T n c0 r ∧ yEachl m T n c0 r ∧ yCond m T n c0 r ∧ yCondl m T n c0 r := by
  intro r
  induction r with
  | zero =>
    refine ⟨fun p N kd sg sd h => ?_, fun p N kd sg sd h => ?_, fun p N kd sg sd x h => ?_, fun p N kd sg sd h => ?_, fun p N kd sg sd x h => ?_⟩ <;> (have h1 := h.1; have h2 := h.2.1; omega)
  | succ r ih =>
    obtain ⟨a, b, c, e, f⟩ := ih
    have c' := yEachl_s a c
    have f' := yCondl_s b f
    have a' := yTurn_s a e
    have b' := yEach_s a' c'
    exact ⟨a', b', c', yCond_s b' f', f'⟩
end GT
