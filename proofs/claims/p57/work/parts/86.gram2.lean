/-! ===== a condition read: ORs, a whole one ===== -/
section GF
variable {m : ZN} {T : Int → Int} {n c0 : Int} {r : Nat}
theorem yCondl_s (hT : yEach m T n c0 r) (hE : yCondl m T n c0 r) : yCondl m T n c0 (r + 1) := by
  intro p N kd sg sd x ⟨⟨p0, p1, n250, px⟩, hr, hP, hN⟩ x0 x1 l38
  by_cases L : ylq T n p = 124
  · have q1 := ylq_n (T := T) (n := n) p0 (by omega)
    have ref : ∀ (d : Nat) (mr M : ZN) (s : Int) (tf : Int → Int) (tg : Int) (K : Int → ZN → Prop) (o2 : Option ZV), yTq mr T n → yRs mr M n s N kd sg sd tf tg → ytx T n s = p → (∀ M1, yRs mr M1 n (p + 1) N kd sg sd tf tg → zcI (d + 3 + 3 * r + 11) 245 [zA 236] M1 (fun v4 n3 => if zr n3 236 36 = -1 then zcI (d + 3 + 3 * r + 11) 233 [zA 236, zI 7, zI x, zI v4] n3 (fun v6 n5 => zwpN (d + 3 + 3 * r + 12) 246 5 [some (zA 236), some (zI v6), some (zI v4)] [] n5 (zPI K)) else zwpN (d + 3 + 3 * r + 12) 246 5 [some (zA 236), some (zI 0), some (zI v4)] [] n3 (zPI K))) → zwpN (d + 3 * (r + 1) + 12) 246 5 [some (zA 236), some (zI x), o2] [] M (zPI K) := fun d mr M s tf tg K o2 Q R hs h => by
      rw [show d + 3 * (r + 1) + 12 = d + 3 + 3 * r + 11 + 1 by omega]
      refine w_246_5 ?_
      refine r_235 Q R (by decide) (fun M1 => ⟨fun e R1 => ?_, fun e R1 => ?_⟩)
      · rw [hs] at R1
        rw [if_neg (by decide)]
        exact h M1 R1
      · rw [hs] at e; exact absurd L e
    have nt : ∀ {O : Int → Int} {no : Nat}, yNt (yup O no 124) (no + 1) := fun {O no} k hk => by
      have : k = no := by omega
      subst this
      rw [yup_n]
      decide
    rcases hT (ynq T n p) N kd sg sd ⟨⟨by omega, q1.2.1, n250, q1.2.2⟩, by omega, hP, by omega⟩ with ⟨q, hq, hF, hC⟩ | ⟨y, p', N', kd', sg', sd', ⟨⟨e1, e2, e3⟩, e4, e5, e6, e7, e8⟩, e9, hS, hC⟩
    · refine Or.inl ⟨q, hq, fun d mr M s tf tg K g Q R hs hK o2 => ?_, fun d M s no O nw W y o5 P Z hs hb hK => ?_⟩
      · refine ref d mr M s tf tg K o2 Q R hs (fun M1 R1 => ?_)
        refine hF (d + 3) mr M1 (p + 1) tf tg _ g Q R1 rfl (fun M2 v F2 => ?_)
        have f3 := F2.2.2.1
        rw [f3.1, if_neg (by omega)]
        refine w_246_5 ?_
        refine f_235 F2 (fun M3 F3 => ?_)
        rw [if_pos rfl]
        exact hK M3 0 F3
      · have hw : nw + 1 ≤ p := by
          rcases Z.1 with ⟨_, h⟩ | ⟨_, _, _, _, _, _, _, _, h⟩ <;> omega
        refine y_or Z.1 hs hb.2.1 hb.2.2 hb.1 (by omega) Z.2.2 Z.2.1 L (fun M' C' => ?_)
        exact hC d M' (p + 1) (no + 1) (yup O no 124) (nw + 1) (yup W nw x) (y + 1) _ P ⟨by rw [show ((no + 1 : Nat) : Int) = (no : Int) + 1 by omega]; exact C', by have := Z.2.1; omega, by omega, nt⟩ rfl ⟨by omega, by omega, by omega⟩ hK
    · have hP2 := yPu_n (k := 7) (s := -1) (ad := yov x y) e4 (fun _ => yWf_o (by decide) (by decide) x0 (by omega) (fun _ => ⟨e7, e8⟩) (fun z => by omega))
      have cls : ∀ (d : Nat) (M : ZN) (s : Int) (no : Nat) (O : Int → Int) (nw : Int) (W : Int → Int) (yy : Int) (o5 : Option ZV) (P : Option ZV → ZN → Prop), yZc m T n c0 p N kd sg sd x M s no O nw W → ytx T n s = p → (0 ≤ nw ∧ 0 ≤ yy ∧ yy ≤ p) → (∀ M' s' y' o5', yZc m T n c0 p' (N' + 1) (yup kd' N' 7) (yup sg' N' (-1)) (yus sd' N' (yov x y)) N' M' s' no O nw W → ytx T n s' = p' → 0 ≤ y' → y' ≤ p' → yH d 0 y' o5' M' P) → yH d 0 yy o5 M P := fun d M s no O nw W yy o5 P Z hs hb h => by
        have hw : nw + 1 ≤ p := by
          rcases Z.1 with ⟨_, h⟩ | ⟨_, _, _, _, _, _, _, _, h⟩ <;> omega
        refine y_or Z.1 hs hb.2.1 hb.2.2 hb.1 (by omega) Z.2.2 Z.2.1 L (fun M' C' => ?_)
        refine hC d M' (p + 1) (no + 1) (yup O no 124) (nw + 1) (yup W nw x) (yy + 1) _ P ⟨by rw [show ((no + 1 : Nat) : Int) = (no : Int) + 1 by omega]; exact C', by have := Z.2.1; omega, by omega, nt⟩ rfl ⟨by omega, by omega, by omega⟩ ?_
        intro M2 s2 y2 o2 C2 h2 h3 h4
        refine h M2 s2 y2 o2 ⟨Or.inr ⟨x, y, N', kd', sg', sd', ?_, ⟨rfl, rfl, rfl, rfl, rfl⟩, by have := Z.2.1; omega, by omega⟩, by have := Z.2.1; omega, Z.2.2⟩ h2 h3 h4
        have C3 := C2.1
        rw [show ((no + 1 : Nat) : Int) = (no : Int) + 1 by omega, show nw + 1 + 1 = nw + 2 by omega] at C3
        exact C3
      have refS : ∀ (d : Nat) (mr M : ZN) (s : Int) (tf : Int → Int) (tg : Int) (K : Int → ZN → Prop) (o2 : Option ZV), yGr m mr → yTq mr T n → yRs mr M n s N kd sg sd tf tg → ytx T n s = p → (∀ M1 s1 tf1 tg1 o2, yRs mr M1 n s1 (N' + 1) (yup kd' N' 7) (yup sg' N' (-1)) (yus sd' N' (yov x y)) tf1 tg1 → ytx T n s1 = p' → zwpN (d + 3 + 3 * r + 12) 246 5 [some (zA 236), some (zI N'), o2] [] M1 (zPI K)) → zwpN (d + 3 * (r + 1) + 12) 246 5 [some (zA 236), some (zI x), o2] [] M (zPI K) := fun d mr M s tf tg K o2 g Q R hs h => by
        refine ref d mr M s tf tg K o2 Q R hs (fun M1 R1 => ?_)
        refine hS (d + 3) mr M1 (p + 1) tf tg _ g Q R1 rfl (fun M2 s2 tf2 tg2 R2 h2 => ?_)
        rw [R2.2.2.2.1, if_pos rfl]
        exact r_233 R2 (by omega) (fun M3 tf3 tg3 R3 => h M3 s2 tf3 tg3 _ R3 h2)
      rcases hE p' (N' + 1) _ _ _ N' ⟨⟨by omega, e2, n250, e3⟩, by omega, hP2, by omega⟩ (by omega) (by omega) e9 with ⟨q, hq, hF, hC2⟩ | ⟨x2, p2, N2, kd2, sg2, sd2, ⟨⟨i1, i2, i3⟩, i4, i5, i6, i7, i8⟩, i9, hS2, hC2⟩
      · refine Or.inl ⟨q, hq, fun d mr M s tf tg K g Q R hs hK o2 => ?_, fun d M s no O nw W yy o5 P Z hs hb hK => ?_⟩
        · exact refS d mr M s tf tg K o2 g Q R hs (fun M1 s1 tf1 tg1 o3 R1 h1 => hF (d + 3) mr M1 s1 tf1 tg1 K g Q R1 h1 hK o3)
        · exact cls d M s no O nw W yy o5 P Z hs hb (fun M' s' y' o5' Z' h1 h2 h3 => hC2 d M' s' no O nw W y' o5' P Z' h1 ⟨hb.1, h2, h3⟩ hK)
      · refine Or.inr ⟨x2, p2, N2, kd2, sg2, sd2, ⟨⟨by omega, i2, i3⟩, i4, by omega, by omega, i7, i8⟩, i9, fun d mr M s tf tg K g Q R hs hK o2 => ?_, fun d M s no O nw W yy o5 P Z hs hb hK => ?_⟩
        · exact refS d mr M s tf tg K o2 g Q R hs (fun M1 s1 tf1 tg1 o3 R1 h1 => hS2 (d + 3) mr M1 s1 tf1 tg1 K g Q R1 h1 hK o3)
        · exact cls d M s no O nw W yy o5 P Z hs hb (fun M' s' y' o5' Z' h1 h2 h3 => hC2 d M' s' no O nw W y' o5' P Z' h1 ⟨hb.1, h2, h3⟩ hK)
  · refine Or.inr ⟨x, p, N, kd, sg, sd, ⟨⟨Int.le_refl _, p1, px⟩, hP, by omega, Int.le_refl _, x0, x1⟩, ⟨l38, L⟩, fun d mr M s tf tg K g Q R hs hK o2 => ?_, fun d M s no O nw W yy o5 P Z hs hb hK => hK M s yy o5 Z hs hb.2.1 hb.2.2⟩
    rw [show d + 3 * (r + 1) + 12 = d + 3 + 3 * r + 11 + 1 by omega]
    refine w_246_5 ?_
    refine r_235 Q R (by decide) (fun M1 => ⟨fun e R1 => ?_, fun e R1 => ?_⟩)
    · rw [hs] at e; exact absurd e L
    · rw [hs] at R1
      rw [if_pos rfl]
      exact hK M1 p tf tg R1 px
theorem yEach_s (hT : yTurn m T n c0 r) (hE : yEachl m T n c0 r) : yEach m T n c0 r := by
  intro p N kd sg sd ⟨⟨p0, p1, n250, px⟩, hr, hP, hN⟩
  rcases hT p N kd sg sd ⟨⟨p0, p1, n250, px⟩, hr, hP, hN⟩ with ⟨q, hq, hF, hC⟩ | ⟨y, p', N', kd', sg', sd', ⟨⟨e1, e2, e3⟩, e4, e5, e6, e7, e8⟩, hS, hC⟩
  · refine Or.inl ⟨q, hq, fun d mr M s tf tg K g Q R hs hK => ?_, fun d M s no O nw W y o5 P Z hs hb hK => hC d M s no O nw W y o5 P ⟨Z.1, Z.2.1, Z.2.2.1, trivial⟩ hs hb hK⟩
    show zcI (d + 3 * r + 11) 245 [zA 236] M K
    refine w_245 ?_
    refine hF d mr M s tf tg _ g Q R hs (fun M2 v F2 => ?_)
    refine w_245_5 ?_
    refine f_235 F2 (fun M3 F3 => ?_)
    rw [if_pos rfl]
    exact hK M3 v F3
  · have cls : ∀ (d : Nat) (M : ZN) (s : Int) (no : Nat) (O : Int → Int) (nw : Int) (W : Int → Int) (yy : Int) (o5 : Option ZV) (P : Option ZV → ZN → Prop), yZt m T n c0 p N kd sg sd yNt M s no O nw W → ytx T n s = p → (0 ≤ nw ∧ 0 ≤ yy ∧ yy ≤ p) → (∀ M' s' y' o5', yZe m T n c0 p' N' kd' sg' sd' y M' s' no O nw W → ytx T n s' = p' → 0 ≤ y' → y' ≤ p' → yH d 0 y' o5' M' P) → yH d 1 yy o5 M P := fun d M s no O nw W yy o5 P Z hs hb h => by
      refine hC d M s no O nw W yy o5 P ⟨Z.1, Z.2.1, Z.2.2.1, trivial⟩ hs hb (yTW_nt Z.2.2.2 (fun M' s' y' o5' C' h1 h2 h3 => ?_))
      exact h M' s' y' o5' ⟨C', by have := Z.2.1; omega, by have := Z.2.2.1; omega, Z.2.2.2⟩ h1 h2 h3
    rcases hE p' N' kd' sg' sd' y ⟨⟨by omega, e2, n250, e3⟩, by omega, e4, by omega⟩ e7 e8 with ⟨q, hq, hF, hC2⟩ | ⟨x2, p2, N2, kd2, sg2, sd2, ⟨⟨i1, i2, i3⟩, i4, i5, i6, i7, i8⟩, i9, hS2, hC2⟩
    · refine Or.inl ⟨q, hq, fun d mr M s tf tg K g Q R hs hK => ?_, fun d M s no O nw W yy o5 P Z hs hb hK => cls d M s no O nw W yy o5 P Z hs hb (fun M' s' y' o5' Z' h1 h2 h3 => hC2 d M' s' no O nw W y' o5' P Z' h1 ⟨hb.1, h2, h3⟩ hK)⟩
      show zcI (d + 3 * r + 11) 245 [zA 236] M K
      refine w_245 ?_
      exact hS d mr M s tf tg _ g Q R hs (fun M2 s2 tf2 tg2 R2 h2 => hF d mr M2 s2 tf2 tg2 K g Q R2 h2 hK _)
    · refine Or.inr ⟨x2, p2, N2, kd2, sg2, sd2, ⟨⟨by omega, i2, i3⟩, i4, by omega, by omega, i7, i8⟩, i9, fun d mr M s tf tg K g Q R hs hK => ?_, fun d M s no O nw W yy o5 P Z hs hb hK => cls d M s no O nw W yy o5 P Z hs hb (fun M' s' y' o5' Z' h1 h2 h3 => hC2 d M' s' no O nw W y' o5' P Z' h1 ⟨hb.1, h2, h3⟩ hK)⟩
      show zcI (d + 3 * r + 11) 245 [zA 236] M K
      refine w_245 ?_
      exact hS d mr M s tf tg _ g Q R hs (fun M2 s2 tf2 tg2 R2 h2 => hS2 d mr M2 s2 tf2 tg2 K g Q R2 h2 hK _)
theorem yCond_s (hT : yEach m T n c0 r) (hE : yCondl m T n c0 r) : yCond m T n c0 r := by
  intro p N kd sg sd ⟨⟨p0, p1, n250, px⟩, hr, hP, hN⟩
  have nt : ∀ {O : Int → Int} {no : Nat}, yNc O no → yNt O no := fun h k hk => ⟨(h k hk).1, (h k hk).2.1, (h k hk).2.2.1⟩
  rcases hT p N kd sg sd ⟨⟨p0, p1, n250, px⟩, hr, hP, hN⟩ with ⟨q, hq, hF, hC⟩ | ⟨y, p', N', kd', sg', sd', ⟨⟨e1, e2, e3⟩, e4, e5, e6, e7, e8⟩, e9, hS, hC⟩
  · refine Or.inl ⟨q, hq, fun d mr M s tf tg K g Q R hs hK => ?_, fun d M s no O nw W y o5 P Z hs hb hK => hC d M s no O nw W y o5 P ⟨Z.1, Z.2.1, Z.2.2.1, nt Z.2.2.2⟩ hs hb hK⟩
    show zcI (d + 3 * r + 12) 246 [zA 236] M K
    refine w_246 ?_
    refine hF d mr M s tf tg _ g Q R hs (fun M2 v F2 => ?_)
    refine w_246_5 ?_
    refine f_235 F2 (fun M3 F3 => ?_)
    rw [if_pos rfl]
    exact hK M3 v F3
  · have cls : ∀ (d : Nat) (M : ZN) (s : Int) (no : Nat) (O : Int → Int) (nw : Int) (W : Int → Int) (yy : Int) (o5 : Option ZV) (P : Option ZV → ZN → Prop), yZt m T n c0 p N kd sg sd yNc M s no O nw W → ytx T n s = p → (0 ≤ nw ∧ 0 ≤ yy ∧ yy ≤ p) → (∀ M' s' y' o5', yZc m T n c0 p' N' kd' sg' sd' y M' s' no O nw W → ytx T n s' = p' → 0 ≤ y' → y' ≤ p' → yH d 0 y' o5' M' P) → yH d 1 yy o5 M P := fun d M s no O nw W yy o5 P Z hs hb h => by
      refine hC d M s no O nw W yy o5 P ⟨Z.1, Z.2.1, Z.2.2.1, nt Z.2.2.2⟩ hs hb (fun M' s' y' o5' Z' h1 h2 h3 => ?_)
      exact h M' s' y' o5' ⟨Or.inl ⟨Z'.1, Z'.2.1, Z'.2.2.1⟩, Z'.2.1, Z.2.2.2⟩ h1 h2 h3
    rcases hE p' N' kd' sg' sd' y ⟨⟨by omega, e2, n250, e3⟩, by omega, e4, by omega⟩ e7 e8 e9 with ⟨q, hq, hF, hC2⟩ | ⟨x2, p2, N2, kd2, sg2, sd2, ⟨⟨i1, i2, i3⟩, i4, i5, i6, i7, i8⟩, i9, hS2, hC2⟩
    · refine Or.inl ⟨q, hq, fun d mr M s tf tg K g Q R hs hK => ?_, fun d M s no O nw W yy o5 P Z hs hb hK => cls d M s no O nw W yy o5 P Z hs hb (fun M' s' y' o5' Z' h1 h2 h3 => hC2 d M' s' no O nw W y' o5' P Z' h1 ⟨hb.1, h2, h3⟩ hK)⟩
      show zcI (d + 3 * r + 12) 246 [zA 236] M K
      refine w_246 ?_
      exact hS d mr M s tf tg _ g Q R hs (fun M2 s2 tf2 tg2 R2 h2 => hF d mr M2 s2 tf2 tg2 K g Q R2 h2 hK _)
    · refine Or.inr ⟨x2, p2, N2, kd2, sg2, sd2, ⟨⟨by omega, i2, i3⟩, i4, by omega, by omega, i7, i8⟩, i9, fun d mr M s tf tg K g Q R hs hK => ?_, fun d M s no O nw W yy o5 P Z hs hb hK => cls d M s no O nw W yy o5 P Z hs hb (fun M' s' y' o5' Z' h1 h2 h3 => hC2 d M' s' no O nw W y' o5' P Z' h1 ⟨hb.1, h2, h3⟩ hK)⟩
      show zcI (d + 3 * r + 12) 246 [zA 236] M K
      refine w_246 ?_
      exact hS d mr M s tf tg _ g Q R hs (fun M2 s2 tf2 tg2 R2 h2 => hS2 d mr M2 s2 tf2 tg2 K g Q R2 h2 hK _)
end GF
