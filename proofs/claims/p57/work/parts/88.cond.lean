/-! ===== pairs: cond ===== -/
section PC
variable {d : Nat} {m : ZN} {L : Int} {xs : Int → Int} {Q : Int → Int → ZN → Prop}
theorem p_cEnd (I : yInv L xs m) {M : ZN} (h1 : ∀ b, b ≠ 8 → b ≠ 216 → b ≠ 218 → b ≠ 220 → b ≠ 221 → b ≠ 234 → b ≠ 236 → b ≠ 252 → b ≠ 254 → b ≠ 255 → b ≠ 256 → b ≠ 268 → ¬ (10 + 4 * zr m 8 1 ≤ b ∧ b ≤ 109) → zr M b = zr m b) (h6 : ∀ j, j ≠ 7 → j ≠ 35 → j ≠ 36 → j ≠ 37 → j ≠ 39 → zr M 236 j = zr m 236 j) (h8 : zr M 8 1 = zr m 8 1 ∧ zr M 8 2 = 0) (h216 : zr M 216 1 = 0) (h7 : zr M 236 7 = 0) (hr : ∀ i, 0 ≤ i → i < zr m 8 1 → zr M 254 i = zr m 254 i ∧ zr M 255 i = zr m 255 i ∧ ∀ k, 0 ≤ k → k < 8 → zr M 256 (8 * i + k) = zr m 256 (8 * i + k)) (hR : ∀ k, 0 ≤ k → k < 5 → zr M 234 k = zr M 252 (k + 2)) : yInv L xs M := by
  obtain ⟨n1, n2, n3⟩ := I.2.2.1.1
  have iC := I.2.2.1.2.1
  have iM := I.2.2.1.2.2
  have hk : ∀ i, 0 ≤ i → i < zr m 8 1 → zr m 254 i = zr M 254 i ∧ zr m 255 i = zr M 255 i ∧ ∀ k, 0 ≤ k → k < 8 → zr m 256 (8 * i + k) = zr M 256 (8 * i + k) := fun i i0 i1 => by
    have a := hr i i0 i1
    exact ⟨a.1.symm, a.2.1.symm, fun k k0 k1 => (a.2.2 k k0 k1).symm⟩
  refine yInv_CFRz I (fun a ha => h1 a (by omega) (by omega) (by omega) (by omega) (by omega) (by omega) (by omega) (by omega) (by omega) (by omega) (by omega) (by omega) (by omega)) (fun j hj => h6 j (by omega) (by omega) (by omega) (by omega) (by omega)) (by omega) ⟨⟨?_, by omega, h8.2⟩, ?_, ?_⟩ ?_ hR
  · rw [h8.1, h6 10 (by decide) (by decide) (by decide) (by decide) (by decide)]; exact n1
  · rw [h8.1]
    exact yIC_c (yIC_fr2 iC (fun a a0 a1 => h1 a (by omega) (by omega) (by omega) (by omega) (by omega) (by omega) (by omega) (by omega) (by omega) (by omega) (by omega) (by omega) (by omega))) (by omega) hk
  · rw [h8.1]
    exact yIM_c (yIM_fr iM (fun a a0 a1 => h1 a (by omega) (by omega) (by omega) (by omega) (by omega) (by omega) (by omega) (by omega) (by omega) (by omega) (by omega) (by omega) (by omega))) iC.1 (by omega) hk
  · rw [h216, h7]
    exact ⟨rfl, by decide, fun j j0 j1 => by omega⟩
/-- behind a refusal of both -/
theorem p_cRef (I : yInv L xs m) {M mr M2 : ZN} {x q : Int} (x1 : -106 ≤ x) (x2 : x ≤ -102) (F : yKf m M (zr m 8 1) q) (e : mr = zsn (zsn (zsn M 216 1 0) 8 2 0) 234 (-102 - x) (zb (zr (zsn (zsn M 216 1 0) 8 2 0) 234 (-102 - x) + 1))) (f1 : ∀ b, b ≠ 236 → b ≠ 254 → b ≠ 255 → b ≠ 256 → b ≠ 268 → zr M2 b = zr mr b) (f2 : ∀ j, j ≠ 35 → j ≠ 36 → j ≠ 37 → j ≠ 39 → zr M2 236 j = zr mr 236 j) (hr : ∀ i, 0 ≤ i → i < zr m 8 1 → zr M2 254 i = zr m 254 i ∧ zr M2 255 i = zr m 255 i ∧ ∀ k, 0 ≤ k → k < 8 → zr M2 256 (8 * i + k) = zr m 256 (8 * i + k)) : yInv L xs (zsn (zsn M2 236 7 0) 252 (-x - 100) (zb (zr (zsn M2 236 7 0) 252 (-x - 100) + 1))) := by
  obtain ⟨g1, g2, g3, g4⟩ := F
  have rf := I.2.2.2.2.2.2
  have n0 : ∀ j, znp' 234 j = true := ynl rfl
  have n2 : ∀ j, znp' 252 j = true := ynl rfl
  have m1 : ∀ b, b ≠ 216 → b ≠ 8 → b ≠ 234 → zr mr b = zr M b := fun b b0 b1 b2 => by rw [e, yfc b2, yfc b1, yfc b0]
  have k252 : ∀ j, zr M2 252 j = zr m 252 j := fun j => by rw [f1 252 (by decide) (by decide) (by decide) (by decide) (by decide), m1 252 (by decide) (by decide) (by decide), g1 252 (by decide) (by decide) (by decide) (by decide) (by decide) (by omega)]
  have k234 : ∀ j, zr M2 234 j = if j = -102 - x then zb (zr m 234 (-102 - x) + 1) else zr m 234 j := fun j => by
    rw [f1 234 (by decide) (by decide) (by decide) (by decide) (by decide), e, yr_sa (n0 _), yfc (show (234 : Int) ≠ 8 by decide), yfc (show (234 : Int) ≠ 216 by decide), g1 234 (by decide) (by decide) (by decide) (by decide) (by decide) (by omega)]
  refine p_cEnd I (fun b b0 b1 b2 b3 b4 b5 b6 b7 b8 b9 b10 b11 b12 => ?_) (fun j j0 j1 j2 j3 j4 => ?_) ⟨?_, ?_⟩ ?_ ?_ (fun i i0 i1 => ?_) (fun k k0 k1 => ?_)
  · rw [yfc b7, yfc b6, f1 b b6 b8 b9 b10 b11, m1 b b1 b0 b5]
    exact g1 b b0 b1 b2 b3 b4 b12
  · rw [yfc (by decide), yr_so j0, f2 j j1 j2 j3 j4, m1 236 (by decide) (by decide) (by decide), g1 236 (by decide) (by decide) (by decide) (by decide) (by decide) (by omega)]
  · rw [yfc (by decide), yfc (by decide), f1 8 (by decide) (by decide) (by decide) (by decide) (by decide), e, yfc (by decide), yr_so (by decide), yfc (by decide)]
    exact g3
  · rw [yfc (by decide), yfc (by decide), f1 8 (by decide) (by decide) (by decide) (by decide) (by decide), e, yfc (by decide)]
    exact yr_ss (znp_o rfl)
  · rw [yfc (by decide), yfc (by decide), f1 216 (by decide) (by decide) (by decide) (by decide) (by decide), e, yfc (by decide), yfc (by decide)]
    exact yr_ss (znp_o rfl)
  · rw [yfc (by decide)]; exact yr_ss (znp_o rfl)
  · rw [yfc (by decide), yfc (by decide), yfc (by decide), yfc (by decide), yfc (by decide), yfc (by decide)]
    exact hr i i0 i1
  · have y := rf (-102 - x) (by omega) (by omega)
    rw [yfc (by decide), yfc (by decide), k234, yr_sa (n2 _), yfc (show (252 : Int) ≠ 236 by decide), k252, k252]
    by_cases z : k = -102 - x
    · rw [if_pos z, if_pos (by omega), y, show -102 - x + 2 = -x - 100 by omega]
    · rw [if_neg z, if_neg (by omega)]; exact rf k k0 k1
theorem p_cond (I : yInv L xs m) (hQ : ∀ r m2, yInv L xs m2 → zr m2 216 1 = 0 → Q r r m2) : zcI (d + 900) 128 [zA 3] m (fun v m1 => zcI (d + 900) 247 [zA 236] m1 (fun v2 m2 => Q v v2 m2)) := by
  have hQ1 : ∀ r m2, yInv L xs m2 → zr m2 236 7 = 0 → Q r r m2 := fun r m2 J e => hQ r m2 J (J.2.2.2.2.2.1.1.trans e)
  obtain ⟨n1, n2, n3⟩ := I.2.2.1.1
  have iC := I.2.2.1.2.1
  have iM := I.2.2.1.2.2
  obtain ⟨t1, t2, t3⟩ := I.2.2.2.2.2.1
  obtain ⟨n, hn⟩ : ∃ n, n = zr m 216 1 := ⟨_, rfl⟩
  obtain ⟨c0, hc0⟩ : ∃ c0, c0 = zr m 8 1 := ⟨_, rfl⟩
  obtain ⟨T, hT⟩ : ∃ T, T = zr m 251 := ⟨_, rfl⟩
  rw [← hn, ← hT] at t3
  rw [← hn] at t1 t2
  rw [← hc0] at n1 n2
  have p0 := ytx_r (T := T) (n := n) (i := 0) t2.1
  obtain ⟨p, hp⟩ : ∃ p, p = ytx T n 0 := ⟨_, rfl⟩
  rw [← hp] at p0
  have px : ytx T n p = p := by rw [hp]; exact ytx_i t2.1
  have hP : yPu m c0 c0 (zr m 254) (zr m 255) (zr m 256) := ⟨⟨n2.1, n2.2, Int.le_refl _⟩, fun i _ _ => ⟨rfl, rfl, fun _ _ _ => rfl⟩, fun i i0 i1 _ => iC.1 i i0 (by omega)⟩
  -- the class' start
  have C0 : yKs m (zsn (zsn (zsn m 216 2 0) 218 3 0) 218 5 0) T n c0 0 c0 (zr m 254) (zr m 255) (zr m 256) 0 (fun _ => 0) 0 (fun _ => 0) := by
    refine ⟨fun b b0 b1 b2 b3 b4 b5 => by rw [yfc b2, yfc b2, yfc b1], fun j hj => by rw [yfc (by decide), yfc (by decide), yr_so hj], ?_, ?_, ⟨?_, fun j j0 j1 => by omega⟩, ⟨yr_ss (znp_o rfl), fun j j0 j1 => by omega⟩, fun i i0 i1 => by omega⟩
    · rw [yfc (by decide), yfc (by decide), yfc (by decide)]; omega
    · refine ⟨?_, ?_, ⟨by decide, t2.1, t2.2⟩, fun j j0 j1 => ?_, fun j j0 j1 => by have := t3 j j0 j1; omega⟩
      · rw [yfc (by decide), yfc (by decide), yr_so (by decide)]; exact hn.symm
      · rw [yfc (by decide), yfc (by decide)]; exact yr_ss (znp_o rfl)
      · rw [yfc (by decide), yfc (by decide), yfc (by decide)]; exact (t3 j j0 j1).1
    · rw [yr_so (by decide)]; exact yr_ss (znp_o rfl)
  -- the reference's start, from what the class leaves
  have refS : ∀ (mr : ZN), (∀ b, b ≠ 8 → b ≠ 216 → b ≠ 218 → b ≠ 220 → b ≠ 221 → b ≠ 234 → ¬ (10 ≤ b ∧ b ≤ 109) → zr mr b = zr m b) → yGr m mr ∧ yTq mr T n ∧ yRs mr (zsn (zsn (zsn mr 236 35 0) 236 36 (-1)) 236 37 c0) n 0 c0 (zr m 254) (zr m 255) (zr m 256) (zr mr 268) (zr mr 236 39) := fun mr f => by
    have e : ∀ b, b = 236 ∨ b = 251 ∨ b = 254 ∨ b = 255 ∨ b = 256 → zr mr b = zr m b := fun b hb => f b (by omega) (by omega) (by omega) (by omega) (by omega) (by omega) (by omega)
    refine ⟨⟨e 254 (by decide), e 255 (by decide), e 256 (by decide)⟩, ⟨by rw [e 236 (by decide)]; exact t1.symm, t2, fun j j0 j1 => by rw [e 251 (by decide), ← hT]; have := t3 j j0 j1; exact ⟨rfl, by omega, by omega⟩⟩, fun b b0 b1 b2 b3 b4 => by rw [yfc b0, yfc b0, yfc b0], fun j j0 j1 j2 j3 => by rw [yr_so j2, yr_so j1, yr_so j0], ⟨by rw [yr_so (by decide), yr_so (by decide)]; exact yr_ss (znp_o rfl), Int.le_refl _, t2.1⟩, by rw [yr_so (by decide)]; exact yr_ss (znp_o rfl), ⟨yr_ss (znp_o rfl), n2.1, by omega⟩, by rw [yr_so (by decide), yr_so (by decide), yr_so (by decide)], fun k _ _ => by rw [yfc (by decide), yfc (by decide), yfc (by decide)], fun i i0 i1 i2 => ?_⟩
    rw [yfc (by decide), yfc (by decide), yfc (by decide), yfc (by decide), yfc (by decide), yfc (by decide), yfc (by decide), yfc (by decide), yfc (by decide), e 254 (by decide), e 255 (by decide), e 256 (by decide)]
    exact ⟨rfl, rfl, fun _ _ _ => rfl⟩
  have f37 : ∀ mr : ZN, (∀ b, b ≠ 8 → b ≠ 216 → b ≠ 218 → b ≠ 220 → b ≠ 221 → b ≠ 234 → ¬ (10 ≤ b ∧ b ≤ 109) → zr mr b = zr m b) → zr (zsn (zsn mr 236 35 0) 236 36 (-1)) 236 10 = c0 := fun mr f => by
    rw [yr_so (by decide), yr_so (by decide), f 236 (by decide) (by decide) (by decide) (by decide) (by decide) (by decide) (by omega)]
    exact n1.symm
  -- a fault of both at q
  have bad : ∀ (q : Int) (M : ZN) (K : Int → ZN → Prop), yKf m M c0 q → 0 ≤ q → q ≤ n → (∀ mr, mr = zsn (zsn (zsn M 216 1 0) 8 2 0) 234 (-102 - -102) (zb (zr (zsn (zsn M 216 1 0) 8 2 0) 234 (-102 - -102) + 1)) → K (zb (-200 - q)) mr) → zcV (d + 899) 106 [zA 216] M (fun n3 => if (0 : Int) = 0 then zcV (d + 899) 29 [zA 8] n3 (fun n6 => zcI (d + 899) 168 [zA 3, zI (-102)] n6 (fun v8 n7 => K (zb (-200 - zr M 216 2)) n7)) else zcI (d + 899) 169 [zA 3] n3 (fun v5 n4 => K v5 n4)) := fun q M K F q0 q1 h => by
    refine w_106 ?_
    rw [if_pos rfl, c_29, c_168 (by decide) (by decide), F.2.2.2]
    exact h _ rfl
  have fr : ∀ {M mr : ZN} {q x : Int}, yKf m M c0 q → mr = zsn (zsn (zsn M 216 1 0) 8 2 0) 234 (-102 - x) (zb (zr (zsn (zsn M 216 1 0) 8 2 0) 234 (-102 - x) + 1)) → ∀ b, b ≠ 8 → b ≠ 216 → b ≠ 218 → b ≠ 220 → b ≠ 221 → b ≠ 234 → ¬ (10 ≤ b ∧ b ≤ 109) → zr mr b = zr m b := fun F e b b0 b1 b2 b3 b4 b5 b6 => by
    rw [e, yfc b5, yfc b0, yfc b1]
    exact F.1 b b0 b1 b2 b3 b4 (by omega)
  -- the reference's end of a fault
  have refF : ∀ (q : Int) (M mr M2 : ZN), yKf m M c0 q → mr = zsn (zsn (zsn M 216 1 0) 8 2 0) 234 (-102 - -102) (zb (zr (zsn (zsn M 216 1 0) 8 2 0) 234 (-102 - -102) + 1)) → yRf mr M2 c0 q → 0 ≤ q → q ≤ n → (if zr (zsn M2 236 7 0) 236 36 = -1 then (if 24 < zr (zsn M2 236 7 0) 236 37 then zcI (d + 899) 191 [zA 236, zI (-106)] (zsn M2 236 7 0) (fun v6 n5 => Q (zb (-200 - q)) v6 n5) else zcI (d + 899) 248 [zA 236] (zsn M2 236 7 0) (fun v4 n3 => Q (zb (-200 - q)) v4 n3)) else zcI (d + 899) 191 [zA 236, zI (-102)] (zsn M2 236 7 0) (fun v8 n7 => Q (zb (-200 - q)) (zb (-200 - zr n7 236 36)) n7)) := fun q M mr M2 F e R q0 q1 => by
    have e36 : zr (zsn M2 236 7 0) 236 36 = q := by rw [yr_so (by decide)]; exact R.2.2.1.1
    rw [e36, if_neg (by omega), c_191 (by decide) (by decide), yfc (show (236 : Int) ≠ 252 by decide), e36]
    have hm := fr F e
    have g := F.2.2.1
    subst hc0
    refine hQ1 _ _ (p_cRef I (by decide) (by decide) F e R.1 R.2.1 (fun i i0 i1 => ?_)) (by rw [yfc (show (236 : Int) ≠ 252 by decide)]; exact yr_ss (znp_o rfl))
    have a := R.2.2.2.2 i i0 i1
    rw [hm 254 (by decide) (by decide) (by decide) (by decide) (by decide) (by decide) (by omega), hm 255 (by decide) (by decide) (by decide) (by decide) (by decide) (by decide) (by omega), hm 256 (by decide) (by decide) (by decide) (by decide) (by decide) (by decide) (by omega)] at a
    exact a
  rcases (y_all (m := m) (T := T) (n := n) (c0 := c0) 251).2.2.2.1 p c0 (zr m 254) (zr m 255) (zr m 256) ⟨⟨p0.1, p0.2.1, t2.2, px⟩, by omega, hP, by omega⟩ with ⟨q, hq, hF, hC⟩ | ⟨x, p', N', kd', sg', sd', ⟨⟨e1, e2, e3⟩, e4, e5, e6, e7, e8⟩, e9, hS, hC⟩
  · refine w_128 (w_56 (w_107 ?_))
    refine hC (d + 893) _ 0 0 _ 0 _ 0 none _ ⟨C0, by omega, by omega, fun k hk => by omega⟩ hp.symm ⟨by decide, by decide, by omega⟩ (fun M F => ?_)
    refine bad q M (fun v m1 => zcI (d + 900) 247 [zA 236] m1 (fun v2 m2 => Q v v2 m2)) F hq.1 hq.2 (fun mr e => ?_)
    have rS := refS mr (fr F e)
    refine w_247 ?_
    rw [f37 mr (fr F e)]
    have F1 := hF (d + 134)
    refine F1 mr _ 0 _ _ _ rS.1 rS.2.1 rS.2.2 hp.symm (fun M2 v R => ?_)
    have r3 := R.2.2.1
    rw [r3.1, if_neg (by omega)]
    exact refF q M mr M2 F e R hq.1 hq.2
  · by_cases Le : ylq T n p' = -1
    · refine w_128 (w_56 (w_107 ?_))
      refine hC (d + 893) _ 0 0 _ 0 _ 0 none _ ⟨C0, by omega, by omega, fun k hk => by omega⟩ hp.symm ⟨by decide, by decide, by omega⟩ (fun M1 s1 y1 o1 Z1 h1 h2 h3 => ?_)
      refine y_done Z1.1 h1 (by omega) (by decide) (by omega) Le (fun M2 C2 => ?_)
      have F := C2.kf
      -- the rest of the reference, where all is well
      have refG : ∀ (mr : ZN) (v : Int), (∀ b, b ≠ 8 → b ≠ 216 → b ≠ 218 → b ≠ 220 → b ≠ 221 → b ≠ 234 → ¬ (10 ≤ b ∧ b ≤ 109) → zr mr b = zr m b) → (∀ M3 s3 tf3 tg3, yRs mr M3 n s3 N' kd' sg' sd' tf3 tg3 → (if 24 < N' then zcI (d + 899) 191 [zA 236, zI (-106)] (zsn M3 236 7 0) (fun v14 n13 => Q v v14 n13) else zcI (d + 899) 248 [zA 236] (zsn M3 236 7 0) (fun v12 n11 => Q v v12 n11))) → zcI (d + 900) 247 [zA 236] mr (fun v2 m2 => Q v v2 m2) := fun mr v f h => by
        have rS := refS mr f
        refine w_247 ?_
        rw [f37 mr f]
        have S1 := hS (d + 134)
        refine S1 mr _ 0 _ _ _ rS.1 rS.2.1 rS.2.2 hp.symm (fun M3 s3 tf3 tg3 R3 h3' => ?_)
        rw [R3.2.2.2.1, if_pos rfl]
        refine r_234 rS.2.1 R3 (fun M4 R4 => ?_)
        rw [ylt_q, h3', Le, if_pos rfl]
        have g := h M4 _ tf3 tg3 R4
        rw [yr_so (show (36 : Int) ≠ 7 by decide), R4.2.2.2.1, if_pos rfl, yr_so (show (37 : Int) ≠ 7 by decide), R4.2.2.2.2.1.1]
        exact g
      have agr : ∀ i, 0 ≤ i → i < c0 → zr m 254 i = kd' i ∧ zr m 255 i = sg' i ∧ ∀ k, 0 ≤ k → k < 8 → zr m 256 (8 * i + k) = sd' (8 * i + k) := fun i i0 i1 => by
        have a := e4.2.1 i i0 i1
        exact ⟨a.1.symm, a.2.1.symm, fun k k0 k1 => (a.2.2 k k0 k1).symm⟩
      show zcV (d + 899) 106 [zA 216] M2 _
      refine w_106 ?_
      rw [if_neg (by decide)]
      have c3 := C2.2.2.1
      have w8 : zr (zsn M2 216 1 0) 8 = zr M2 8 := yfc (by decide)
      have wf : ∀ b, b ≠ 216 → zr (zsn M2 216 1 0) b = zr M2 b := fun b hb => yfc hb
      by_cases q24 : N' ≤ 24
      · have WN : yWA kd' sg' sd' N' := fun i i0 i1 => e4.2.2 i i0 i1 (by omega)
        have hI : yIC (zr (zsn M2 216 1 0)) 10 c0 kd' sg' sd' := by
          refine yIC_c (kd := zr m 254) (sg := zr m 255) (sd := zr m 256) (yIC_fr2 (by rw [hc0]; exact iC) (fun a a0 a1 => ?_)) (by omega) agr
          rw [wf a (by omega)]
          exact F.1 a (by omega) (by omega) (by omega) (by omega) (by omega) (by omega)
        refine c_169 (d := d + 894) (T := N') WN q24 (by rw [w8]; omega) (by rw [w8]; omega) (by rw [w8]; omega) (fun i i0 i1 => ?_) (fun i i0 i1 h5 => ?_) (by rw [w8, c3.1]; exact hI) (fun M3 k1 k2 => ?_)
        · by_cases z : i < c0
          · have := (hI.2.1 i i0 z).1
            rw [show 10 + 2 + 4 * i = 12 + 4 * i by omega, show 10 + 3 + 4 * i = 13 + 4 * i by omega] at this
            exact this
          · rw [wf _ (by omega), wf _ (by omega), wf _ (by omega)]
            exact (C2.2.2.2.2.2.2 i (by omega) i1 (by omega)).1
        · rw [w8, c3.1] at i0
          rw [wf _ (by omega), yCo_l h5]
          exact (C2.2.2.2.2.2.2 i i0 i1 (by omega)).2 h5
        · have g8 : ∀ b, b ≠ 8 → zr (zsn (zsn M3 8 1 N') 8 2 0) b = zr M3 b := fun b hb => by rw [yfc hb, yfc hb]
          have g81 : zr (zsn (zsn M3 8 1 N') 8 2 0) 8 1 = N' := by rw [yr_so (by decide)]; exact yr_ss (znp_o rfl)
          have g82 : zr (zsn (zsn M3 8 1 N') 8 2 0) 8 2 = 0 := yr_ss (znp_o rfl)
          have f16 : zr M3 216 1 = 0 := by rw [k1 216 (by omega)]; exact yr_ss (znp_o rfl)
          generalize zsn (zsn M3 8 1 N') 8 2 0 = mr at g8 g81 g82 ⊢
          have fm : ∀ b, b ≠ 8 → b ≠ 216 → b ≠ 218 → b ≠ 220 → b ≠ 221 → ¬ (10 ≤ b ∧ b ≤ 109) → zr mr b = zr m b := fun b b0 b1 b2 b3 b4 b6 => by
            rw [g8 b b0, k1 b b6, wf b b1]
            exact F.1 b b0 b1 b2 b3 b4 (by omega)
          refine refG mr _ (fun b b0 b1 b2 b3 b4 _ b6 => fm b b0 b1 b2 b3 b4 b6) (fun M4 s4 tf4 tg4 R4 => ?_)
          rw [if_neg (by omega)]
          obtain ⟨r1, r2, r3, r4, r5, r6, r7, r8⟩ := R4
          have e10 : zr M4 236 10 = c0 := by rw [r2 10 (by decide) (by decide) (by decide) (by decide), fm 236 (by decide) (by decide) (by decide) (by decide) (by decide) (by omega)]; exact n1.symm
          refine w_248 ?_
          rw [yr_so (show (10 : Int) ≠ 7 by decide), e10, yr_so (show (37 : Int) ≠ 7 by decide), r5.1]
          have x10 : zr (zsn (zsn M4 236 7 0) 236 10 N') 236 10 = N' := yr_ss (znp_o rfl)
          have x7 : zr (zsn (zsn M4 236 7 0) 236 10 N') 236 7 = 0 := by rw [yr_so (by decide)]; exact yr_ss (znp_o rfl)
          have xj : ∀ j, j ≠ 7 → j ≠ 10 → zr (zsn (zsn M4 236 7 0) 236 10 N') 236 j = zr M4 236 j := fun j j0 j1 => by rw [yr_so j1, yr_so j0]
          have xb : ∀ b, b ≠ 236 → zr (zsn (zsn M4 236 7 0) 236 10 N') b = zr M4 b := fun b hb => by rw [yfc hb, yfc hb]
          generalize zsn (zsn M4 236 7 0) 236 10 N' = M6 at x10 x7 xj xb ⊢
          have rows : ∀ i, 0 ≤ i → i < N' → kd' i = zr M6 254 i ∧ sg' i = zr M6 255 i ∧ ∀ k, 0 ≤ k → k < 8 → sd' (8 * i + k) = zr M6 256 (8 * i + k) := fun i i0 i1 => by
            have a := r8 i i0 i1 (by omega)
            rw [xb 254 (by decide), xb 255 (by decide), xb 256 (by decide)]
            exact ⟨a.1.symm, a.2.1.symm, fun k k0 k1 => (a.2.2 k k0 k1).symm⟩
          have W6 : yWA (zr M6 254) (zr M6 255) (zr M6 256) N' := fun i i0 i1 => by
            have a := rows i i0 i1
            rw [← a.1, ← a.2.1]
            exact yWf_c a.2.2 (WN i i0 i1)
          refine c_219 (d := d + 894) (f := c0) (by rw [x10]; exact W6) (by rw [x10]; exact q24) n2.1 (by rw [x10]; omega) ?_ (fun M7 k7 i7 => ?_)
          · refine yIM_c (kd := zr m 254) (sg := zr m 255) (sd := zr m 256) (yIM_fr (by rw [hc0]; exact iM) (fun a a0 a1 => ?_)) (by rw [hc0]; exact iC.1) (by omega) (fun i i0 i1 => ?_)
            · rw [xb a (by omega), r1 a (by omega) (by omega) (by omega) (by omega) (by omega)]
              exact fm a (by omega) (by omega) (by omega) (by omega) (by omega) (by omega)
            · have a := agr i i0 i1
              have b := rows i i0 (by omega)
              exact ⟨a.1.trans b.1, a.2.1.trans b.2.1, fun k k0 k1 => (a.2.2 k k0 k1).trans (b.2.2 k k0 k1)⟩
          · rw [x10] at i7
            have kb : ∀ b, b ≠ 236 → ¬ (261 ≤ b ∧ b ≤ 264) → zr M7 b = zr M4 b := fun b b0 b1 => by rw [k7 b b1, xb b b0]
            have e8 : zr M7 8 = zr mr 8 := by rw [kb 8 (by decide) (by omega), r1 8 (by decide) (by decide) (by decide) (by decide) (by decide)]
            have e236 : zr M7 236 = zr M6 236 := k7 236 (by omega)
            rw [e236, x10, yb_id (by omega) (by omega)]
            have all : ∀ b, b ≠ 8 → b ≠ 216 → b ≠ 218 → b ≠ 220 → b ≠ 221 → b ≠ 236 → b ≠ 254 → b ≠ 255 → b ≠ 256 → b ≠ 268 → ¬ (10 ≤ b ∧ b ≤ 109) → ¬ (261 ≤ b ∧ b ≤ 264) → zr M7 b = zr m b := fun b b0 b1 b2 b3 b4 b5 b6 b7 b8 b9 b10 b11 => by
              rw [kb b b5 b11, r1 b b5 b6 b7 b8 b9]
              exact fm b b0 b1 b2 b3 b4 b10
            refine hQ1 _ _ (yInv_CFRz I (fun a ha => all a (by omega) (by omega) (by omega) (by omega) (by omega) (by omega) (by omega) (by omega) (by omega) (by omega) (by omega) (by omega)) (fun j hj => ?_) ?_ ⟨⟨?_, ?_, ?_⟩, ?_, ?_⟩ ?_ (fun k k0 k1 => ?_)) (by rw [e236]; exact x7)
            · rw [e236, xj j (by omega) (by omega), r2 j (by omega) (by omega) (by omega) (by omega), fm 236 (by decide) (by decide) (by decide) (by decide) (by decide) (by omega)]
            · rw [e8, g81]; omega
            · rw [e8, g81, e236, x10]
            · rw [e8, g81]; omega
            · rw [e8, g82]
            · rw [e8, g81]
              refine yIC_c (yIC_fr k2 (by omega) (fun a a0 a1 => ?_)) q24 (fun i i0 i1 => ?_)
              · rw [kb a (by omega) (by omega), r1 a (by omega) (by omega) (by omega) (by omega) (by omega), g8 a (by omega)]
              · have b := rows i i0 i1
                rw [k7 254 (by omega), k7 255 (by omega), k7 256 (by omega)]
                exact b
            · rw [e8, g81, k7 254 (by omega), k7 255 (by omega), k7 256 (by omega)]
              exact i7
            · have a : zr M7 216 1 = 0 := by rw [kb 216 (by decide) (by omega), r1 216 (by decide) (by decide) (by decide) (by decide) (by decide), g8 216 (by decide)]; exact f16
              rw [a, e236, x7]
              exact ⟨rfl, by decide, fun j j0 j1 => by omega⟩
            · rw [all 234 (by decide) (by decide) (by decide) (by decide) (by decide) (by decide) (by decide) (by decide) (by decide) (by decide) (by omega) (by omega), all 252 (by decide) (by decide) (by decide) (by decide) (by decide) (by decide) (by decide) (by decide) (by decide) (by decide) (by omega) (by omega)]
              exact I.2.2.2.2.2.2 k k0 k1
      · rw [c_169f (d := d + 894) (by rw [w8]; omega) (by rw [w8]; omega) (by rw [w8]; omega) (by rw [w8]; omega) (by rw [w8]; omega)]
        obtain ⟨mr, e⟩ : ∃ mr, mr = zsn (zsn (zsn M2 216 1 0) 8 2 0) 234 (-102 - -106) (zb (zr (zsn (zsn M2 216 1 0) 8 2 0) 234 (-102 - -106) + 1)) := ⟨_, rfl⟩
        rw [← e]
        refine refG mr _ (fr F e) (fun M4 s4 tf4 tg4 R4 => ?_)
        rw [if_pos (by omega), c_191 (by decide) (by decide)]
        subst hc0
        refine hQ1 _ _ (p_cRef I (by decide) (by decide) F e R4.1 R4.2.1 (fun i i0 i1 => ?_)) (by rw [yfc (show (236 : Int) ≠ 252 by decide)]; exact yr_ss (znp_o rfl))
        have a := R4.2.2.2.2.2.2.2 i i0 (by omega) (by omega)
        have b := agr i i0 i1
        exact ⟨a.1.trans b.1.symm, a.2.1.trans b.2.1.symm, fun k k0 k1 => (a.2.2 k k0 k1).trans (b.2.2 k k0 k1).symm⟩
    · refine w_128 (w_56 (w_107 ?_))
      refine hC (d + 893) _ 0 0 _ 0 _ 0 none _ ⟨C0, by omega, by omega, fun k hk => by omega⟩ hp.symm ⟨by decide, by decide, by omega⟩ (fun M1 s1 y1 o1 Z1 h1 h2 h3 => ?_)
      refine y_bad Z1.1 h1 h2 (by omega) (by decide) (by omega) Z1.2.2 rfl e9 (fun _ k hk => by omega) (fun z => absurd z Le) (fun M F => ?_)
      refine bad p' M (fun v m1 => zcI (d + 900) 247 [zA 236] m1 (fun v2 m2 => Q v v2 m2)) F (by omega) e2 (fun mr e => ?_)
      have rS := refS mr (fr F e)
      refine w_247 ?_
      rw [f37 mr (fr F e)]
      have S1 := hS (d + 134)
      refine S1 mr _ 0 _ _ _ rS.1 rS.2.1 rS.2.2 hp.symm (fun M2 s2 tf2 tg2 R2 h2' => ?_)
      rw [R2.2.2.2.1, if_pos rfl]
      refine r_234 rS.2.1 R2 (fun M3 R3 => ?_)
      rw [ylt_q, h2', if_neg Le]
      rw [h2'] at R3
      refine r_236 R3 (yPu_g rS.1 e4) t2.2 (fun M4 R4 => ?_)
      exact refF p' M mr M4 F e R4 (by omega) e2
end PC
