/-! ===== a condition read: both go the same way ===== -/
def yGr (m mr : ZN) : Prop := zr mr 254 = zr m 254 ∧ zr mr 255 = zr m 255 ∧ zr mr 256 = zr m 256
theorem yPu_g {m mr : ZN} {c0 N : Int} {kd sg sd : Int → Int} (g : yGr m mr) (h : yPu m c0 N kd sg sd) : yPu mr c0 N kd sg sd := by
  unfold yPu at h ⊢
  rw [g.1, g.2.1, g.2.2]
  exact h
/-- the reference goes to a fault at q -/
def yRFx (X : ZN → (Int → ZN → Prop) → Prop) (m : ZN) (T : Int → Int) (n c0 p N : Int) (kd sg sd : Int → Int) (q : Int) : Prop := ∀ (mr M : ZN) (s : Int) (tf : Int → Int) (tg : Int) (K : Int → ZN → Prop), yGr m mr → yTq mr T n → yRs mr M n s N kd sg sd tf tg → ytx T n s = p → (∀ M' v, yRf mr M' c0 q → K v M') → X M K
/-- the reference goes to a condition x -/
def yRSx (X : ZN → (Int → ZN → Prop) → Prop) (m : ZN) (T : Int → Int) (n p N : Int) (kd sg sd : Int → Int) (x p' N' : Int) (kd' sg' sd' : Int → Int) : Prop := ∀ (mr M : ZN) (s : Int) (tf : Int → Int) (tg : Int) (K : Int → ZN → Prop), yGr m mr → yTq mr T n → yRs mr M n s N kd sg sd tf tg → ytx T n s = p → (∀ M' s' tf' tg', yRs mr M' n s' N' kd' sg' sd' tf' tg' → ytx T n s' = p' → K x M') → X M K
def yX4 (D : Nat) (M : ZN) (K : Int → ZN → Prop) : Prop := zcI D 244 [zA 236] M K
def yX5 (D : Nat) (M : ZN) (K : Int → ZN → Prop) : Prop := zcI D 245 [zA 236] M K
def yX6 (D : Nat) (M : ZN) (K : Int → ZN → Prop) : Prop := zcI D 246 [zA 236] M K
def yX5l (x : Int) (D : Nat) (M : ZN) (K : Int → ZN → Prop) : Prop := ∀ o2, zwpN D 245 5 [some (zA 236), some (zI x), o2] [] M (zPI K)
def yX6l (x : Int) (D : Nat) (M : ZN) (K : Int → ZN → Prop) : Prop := ∀ o2, zwpN D 246 5 [some (zA 236), some (zI x), o2] [] M (zPI K)
/-- the class goes from the head to a fault, or to the head again -/
def yCF0 (w : Int) (Z : ZN → Int → Nat → (Int → Int) → Int → (Int → Int) → Prop) (m : ZN) (T : Int → Int) (n c0 p q : Int) : Prop := ∀ (d : Nat) (M : ZN) (s : Int) (no : Nat) (O : Int → Int) (nw : Int) (W : Int → Int) (y : Int) (o5 : Option ZV) (P : Option ZV → ZN → Prop), Z M s no O nw W → ytx T n s = p → (0 ≤ nw ∧ 0 ≤ y ∧ y ≤ p) → (∀ M', yKf m M' c0 q → P (some (zI 0)) M') → yH d w y o5 M P
def yCS0 (w : Int) (Z E : ZN → Int → Nat → (Int → Int) → Int → (Int → Int) → Prop) (T : Int → Int) (n p p' : Int) : Prop := ∀ (d : Nat) (M : ZN) (s : Int) (no : Nat) (O : Int → Int) (nw : Int) (W : Int → Int) (y : Int) (o5 : Option ZV) (P : Option ZV → ZN → Prop), Z M s no O nw W → ytx T n s = p → (0 ≤ nw ∧ 0 ≤ y ∧ y ≤ p) → (∀ M' s' y' o5', E M' s' no O nw W → ytx T n s' = p' → 0 ≤ y' → y' ≤ p' → yH d 0 y' o5' M' P) → yH d w y o5 M P
def yZt (m : ZN) (T : Int → Int) (n c0 p N : Int) (kd sg sd : Int → Int) (C : (Int → Int) → Nat → Prop) : ZN → Int → Nat → (Int → Int) → Int → (Int → Int) → Prop := fun M s no O nw W => yKs m M T n c0 s N kd sg sd no O nw W ∧ (no : Int) ≤ p ∧ nw ≤ p ∧ C O no
def yZe (m : ZN) (T : Int → Int) (n c0 p N : Int) (kd sg sd : Int → Int) (x : Int) : ZN → Int → Nat → (Int → Int) → Int → (Int → Int) → Prop := fun M s no O nw W => yKs m M T n c0 s N kd sg sd no O (nw + 1) (yup W nw x) ∧ (no : Int) ≤ p ∧ nw + 1 ≤ p ∧ yNt O no
def yZc (m : ZN) (T : Int → Int) (n c0 p N : Int) (kd sg sd : Int → Int) (x : Int) : ZN → Int → Nat → (Int → Int) → Int → (Int → Int) → Prop := fun M s no O nw W => yQ m M T n c0 s p N kd sg sd no O nw W x ∧ (no : Int) ≤ p ∧ yNc O no
/-- the class goes over a turn -/
def yCSt (m : ZN) (T : Int → Int) (n c0 p N : Int) (kd sg sd : Int → Int) (x p' N' : Int) (kd' sg' sd' : Int → Int) : Prop := ∀ (d : Nat) (M : ZN) (s : Int) (no : Nat) (O : Int → Int) (nw : Int) (W : Int → Int) (y : Int) (o5 : Option ZV) (P : Option ZV → ZN → Prop), yZt m T n c0 p N kd sg sd (fun _ _ => True) M s no O nw W → ytx T n s = p → (0 ≤ nw ∧ 0 ≤ y ∧ y ≤ p) → yTW O W nw (fun no' nw' W' N'' kd'' sg'' sd'' => ∀ M' s' y' o5', yKs m M' T n c0 s' N'' kd'' sg'' sd'' no' O nw' W' → ytx T n s' = p' → 0 ≤ y' → y' ≤ p' → yH d 0 y' o5' M' P) no x N' kd' sg' sd' → yH d 1 y o5 M P
/-- where a walk may start -/
def ySt (m : ZN) (T : Int → Int) (n c0 : Int) (r : Nat) (p N : Int) (kd sg sd : Int → Int) : Prop := (0 ≤ p ∧ p ≤ n ∧ n ≤ 250 ∧ ytx T n p = p) ∧ n - p < r ∧ yPu m c0 N kd sg sd ∧ N ≤ 24 + p
/-- where it ends -/
def yEn (m : ZN) (T : Int → Int) (n c0 lo p N x p' N' : Int) (kd' sg' sd' : Int → Int) : Prop := (lo ≤ p' ∧ p' ≤ n ∧ ytx T n p' = p') ∧ yPu m c0 N' kd' sg' sd' ∧ N' + p ≤ N + p' ∧ N ≤ N' ∧ 0 ≤ x ∧ x < N'
def yTurn (m : ZN) (T : Int → Int) (n c0 : Int) (r : Nat) : Prop := ∀ p N kd sg sd, ySt m T n c0 r p N kd sg sd → (∃ q, (0 ≤ q ∧ q ≤ n) ∧ (∀ d, yRFx (yX4 (d + 3 * r + 10)) m T n c0 p N kd sg sd q) ∧ yCF0 1 (yZt m T n c0 p N kd sg sd (fun _ _ => True)) m T n c0 p q) ∨ ∃ x p' N' kd' sg' sd', yEn m T n c0 (p + 1) p N x p' N' kd' sg' sd' ∧ (∀ d, yRSx (yX4 (d + 3 * r + 10)) m T n p N kd sg sd x p' N' kd' sg' sd') ∧ yCSt m T n c0 p N kd sg sd x p' N' kd' sg' sd'
def yEach (m : ZN) (T : Int → Int) (n c0 : Int) (r : Nat) : Prop := ∀ p N kd sg sd, ySt m T n c0 r p N kd sg sd → (∃ q, (0 ≤ q ∧ q ≤ n) ∧ (∀ d, yRFx (yX5 (d + 3 * r + 11)) m T n c0 p N kd sg sd q) ∧ yCF0 1 (yZt m T n c0 p N kd sg sd yNt) m T n c0 p q) ∨ ∃ x p' N' kd' sg' sd', yEn m T n c0 (p + 1) p N x p' N' kd' sg' sd' ∧ ylq T n p' ≠ 38 ∧ (∀ d, yRSx (yX5 (d + 3 * r + 11)) m T n p N kd sg sd x p' N' kd' sg' sd') ∧ yCS0 1 (yZt m T n c0 p N kd sg sd yNt) (yZe m T n c0 p' N' kd' sg' sd' x) T n p p'
def yEachl (m : ZN) (T : Int → Int) (n c0 : Int) (r : Nat) : Prop := ∀ p N kd sg sd x, ySt m T n c0 r p N kd sg sd → 0 ≤ x → x < N → (∃ q, (0 ≤ q ∧ q ≤ n) ∧ (∀ d, yRFx (yX5l x (d + 3 * r + 11)) m T n c0 p N kd sg sd q) ∧ yCF0 0 (yZe m T n c0 p N kd sg sd x) m T n c0 p q) ∨ ∃ x' p' N' kd' sg' sd', yEn m T n c0 p p N x' p' N' kd' sg' sd' ∧ ylq T n p' ≠ 38 ∧ (∀ d, yRSx (yX5l x (d + 3 * r + 11)) m T n p N kd sg sd x' p' N' kd' sg' sd') ∧ yCS0 0 (yZe m T n c0 p N kd sg sd x) (yZe m T n c0 p' N' kd' sg' sd' x') T n p p'
def yCond (m : ZN) (T : Int → Int) (n c0 : Int) (r : Nat) : Prop := ∀ p N kd sg sd, ySt m T n c0 r p N kd sg sd → (∃ q, (0 ≤ q ∧ q ≤ n) ∧ (∀ d, yRFx (yX6 (d + 3 * r + 12)) m T n c0 p N kd sg sd q) ∧ yCF0 1 (yZt m T n c0 p N kd sg sd yNc) m T n c0 p q) ∨ ∃ x p' N' kd' sg' sd', yEn m T n c0 (p + 1) p N x p' N' kd' sg' sd' ∧ (ylq T n p' ≠ 38 ∧ ylq T n p' ≠ 124) ∧ (∀ d, yRSx (yX6 (d + 3 * r + 12)) m T n p N kd sg sd x p' N' kd' sg' sd') ∧ yCS0 1 (yZt m T n c0 p N kd sg sd yNc) (yZc m T n c0 p' N' kd' sg' sd' x) T n p p'
def yCondl (m : ZN) (T : Int → Int) (n c0 : Int) (r : Nat) : Prop := ∀ p N kd sg sd x, ySt m T n c0 r p N kd sg sd → 0 ≤ x → x < N → ylq T n p ≠ 38 → (∃ q, (0 ≤ q ∧ q ≤ n) ∧ (∀ d, yRFx (yX6l x (d + 3 * r + 12)) m T n c0 p N kd sg sd q) ∧ yCF0 0 (yZc m T n c0 p N kd sg sd x) m T n c0 p q) ∨ ∃ x' p' N' kd' sg' sd', yEn m T n c0 p p N x' p' N' kd' sg' sd' ∧ (ylq T n p' ≠ 38 ∧ ylq T n p' ≠ 124) ∧ (∀ d, yRSx (yX6l x (d + 3 * r + 12)) m T n p N kd sg sd x' p' N' kd' sg' sd') ∧ yCS0 0 (yZc m T n c0 p N kd sg sd x) (yZc m T n c0 p' N' kd' sg' sd' x') T n p p'
theorem yWf_o {k x y i : Int} (k6 : 6 ≤ k) (k9 : k ≤ 9) (x0 : 0 ≤ x) (x1 : x < i) (hy : k ≤ 7 → 0 ≤ y ∧ y < i) (hy2 : 8 ≤ k → y = -1) : yWf k (-1) (yov x y) i := by
  have a0 : yov x y 0 = x := rfl
  have a1 : yov x y 1 = y := rfl
  refine ⟨by omega, fun h => by omega, fun _ => rfl, fun h => by omega, fun h => by omega, fun h => by omega, fun h => by omega, fun h => by omega, fun h => by omega, fun _ => by rw [a0]; omega, fun h => by rw [a1]; exact hy (by omega), fun h => by rw [a1]; exact hy2 (by omega)⟩
section GE
variable {m : ZN} {T : Int → Int} {n c0 : Int} {r : Nat}
theorem yTW_nt {O W : Int → Int} {nw x N : Int} {no : Nat} {kd sg sd : Int → Int} {R : Int → Int → (Int → Int) → Int → (Int → Int) → (Int → Int) → (Int → Int) → Prop} (hO : yNt O no) (h : R no (nw + 1) (yup W nw x) N kd sg sd) : yTW O W nw R no x N kd sg sd := by
  cases no with
  | zero => exact h
  | succ k =>
    have := hO k rfl
    rw [yTW_s, if_neg this.1, if_neg this.2.1, if_neg this.2.2]
    exact h
theorem ylq_n {p : Int} (hp : 0 ≤ p) (h : ylq T n p ≠ -1) : p < ynq T n p ∧ ynq T n p ≤ n ∧ ytx T n (ynq T n p) = ynq T n p := by
  have a := ynq_r h
  have b := ylq_lt h
  exact ⟨a.1, a.2, ytx_i (by omega)⟩
theorem yEachl_s (hT : yTurn m T n c0 r) (hE : yEachl m T n c0 r) : yEachl m T n c0 (r + 1) := by
  intro p N kd sg sd x ⟨⟨p0, p1, n250, px⟩, hr, hP, hN⟩ x0 x1
  by_cases L : ylq T n p = 38
  · have q1 := ylq_n (T := T) (n := n) p0 (by omega)
    -- what the reference does till the turn is read
    have ref : ∀ (d : Nat) (mr M : ZN) (s : Int) (tf : Int → Int) (tg : Int) (K : Int → ZN → Prop) (o2 : Option ZV), yTq mr T n → yRs mr M n s N kd sg sd tf tg → ytx T n s = p → (∀ M1, yRs mr M1 n (p + 1) N kd sg sd tf tg → zcI (d + 3 + 3 * r + 10) 244 [zA 236] M1 (fun v4 n3 => if zr n3 236 36 = -1 then zcI (d + 3 + 3 * r + 10) 233 [zA 236, zI 6, zI x, zI v4] n3 (fun v6 n5 => zwpN (d + 3 + 3 * r + 11) 245 5 [some (zA 236), some (zI v6), some (zI v4)] [] n5 (zPI K)) else zwpN (d + 3 + 3 * r + 11) 245 5 [some (zA 236), some (zI 0), some (zI v4)] [] n3 (zPI K))) → zwpN (d + 3 * (r + 1) + 11) 245 5 [some (zA 236), some (zI x), o2] [] M (zPI K) := fun d mr M s tf tg K o2 Q R hs h => by
      rw [show d + 3 * (r + 1) + 11 = d + 3 + 3 * r + 10 + 1 by omega]
      refine w_245_5 ?_
      refine r_235 Q R (by decide) (fun M1 => ⟨fun e R1 => ?_, fun e R1 => ?_⟩)
      · rw [hs] at R1
        rw [if_neg (by decide)]
        exact h M1 R1
      · rw [hs] at e; exact absurd L e
    rcases hT (ynq T n p) N kd sg sd ⟨⟨by omega, q1.2.1, n250, q1.2.2⟩, by omega, hP, by omega⟩ with ⟨q, hq, hF, hC⟩ | ⟨y, p', N', kd', sg', sd', ⟨⟨e1, e2, e3⟩, e4, e5, e6, e7, e8⟩, hS, hC⟩
    · refine Or.inl ⟨q, hq, fun d mr M s tf tg K g Q R hs hK o2 => ?_, fun d M s no O nw W y o5 P Z hs hb hK => ?_⟩
      · refine ref d mr M s tf tg K o2 Q R hs (fun M1 R1 => ?_)
        refine hF (d + 3) mr M1 (p + 1) tf tg _ g Q R1 rfl (fun M2 v F2 => ?_)
        have f3 := F2.2.2.1
        rw [f3.1, if_neg (by omega)]
        refine w_245_5 ?_
        refine f_235 F2 (fun M3 F3 => ?_)
        rw [if_pos rfl]
        exact hK M3 0 F3
      · refine y_and Z.1 hs hb.2.1 hb.2.2 Z.2.1 L (fun M' C' => ?_)
        exact hC d M' (p + 1) (no + 1) (yup O no 38) (nw + 1) (yup W nw x) (y + 1) _ P ⟨by rw [show ((no + 1 : Nat) : Int) = (no : Int) + 1 by omega]; exact C', by have := Z.2.1; omega, by have := Z.2.2.1; omega, trivial⟩ rfl ⟨by omega, by omega, by omega⟩ hK
    · have hP2 := yPu_n (k := 6) (s := -1) (ad := yov x y) e4 (fun _ => yWf_o (by decide) (by decide) x0 (by omega) (fun _ => ⟨e7, e8⟩) (fun z => by omega))
      -- the class till the AND is made
      have cls : ∀ (d : Nat) (M : ZN) (s : Int) (no : Nat) (O : Int → Int) (nw : Int) (W : Int → Int) (yy : Int) (o5 : Option ZV) (P : Option ZV → ZN → Prop), yZe m T n c0 p N kd sg sd x M s no O nw W → ytx T n s = p → (0 ≤ nw ∧ 0 ≤ yy ∧ yy ≤ p) → (∀ M' s' y' o5', yZe m T n c0 p' (N' + 1) (yup kd' N' 6) (yup sg' N' (-1)) (yus sd' N' (yov x y)) N' M' s' no O nw W → ytx T n s' = p' → 0 ≤ y' → y' ≤ p' → yH d 0 y' o5' M' P) → yH d 0 yy o5 M P := fun d M s no O nw W yy o5 P Z hs hb h => by
        refine y_and Z.1 hs hb.2.1 hb.2.2 Z.2.1 L (fun M' C' => ?_)
        refine hC d M' (p + 1) (no + 1) (yup O no 38) (nw + 1) (yup W nw x) (yy + 1) _ P ⟨by rw [show ((no + 1 : Nat) : Int) = (no : Int) + 1 by omega]; exact C', by have := Z.2.1; omega, by have := Z.2.2.1; omega, trivial⟩ rfl ⟨by omega, by omega, by omega⟩ ?_
        rw [yTW_s, yup_n, if_neg (by decide), if_neg (by decide), if_pos rfl]
        refine ⟨by omega, fun M2 s2 y2 o2 C2 h2 h3 h4 => h M2 s2 y2 o2 ⟨?_, by have := Z.2.1; omega, by have := Z.2.2.1; omega, Z.2.2.2⟩ h2 h3 h4⟩
        rw [show nw + 1 - 1 = nw by omega, yup_n] at C2
        refine C2.O_c (fun j j0 j1 => yup_o j1) (fun j j0 j1 => ?_)
        by_cases z : j = nw
        · rw [z, yup_n, yup_n]
        · rw [yup_o (by omega), yup_o (by omega), yup_o (by omega)]
      have refS : ∀ (d : Nat) (mr M : ZN) (s : Int) (tf : Int → Int) (tg : Int) (K : Int → ZN → Prop) (o2 : Option ZV), yGr m mr → yTq mr T n → yRs mr M n s N kd sg sd tf tg → ytx T n s = p → (∀ M1 s1 tf1 tg1 o2, yRs mr M1 n s1 (N' + 1) (yup kd' N' 6) (yup sg' N' (-1)) (yus sd' N' (yov x y)) tf1 tg1 → ytx T n s1 = p' → zwpN (d + 3 + 3 * r + 11) 245 5 [some (zA 236), some (zI N'), o2] [] M1 (zPI K)) → zwpN (d + 3 * (r + 1) + 11) 245 5 [some (zA 236), some (zI x), o2] [] M (zPI K) := fun d mr M s tf tg K o2 g Q R hs h => by
        refine ref d mr M s tf tg K o2 Q R hs (fun M1 R1 => ?_)
        refine hS (d + 3) mr M1 (p + 1) tf tg _ g Q R1 rfl (fun M2 s2 tf2 tg2 R2 h2 => ?_)
        rw [R2.2.2.2.1, if_pos rfl]
        exact r_233 R2 (by omega) (fun M3 tf3 tg3 R3 => h M3 s2 tf3 tg3 _ R3 h2)
      rcases hE p' (N' + 1) _ _ _ N' ⟨⟨by omega, e2, n250, e3⟩, by omega, hP2, by omega⟩ (by omega) (by omega) with ⟨q, hq, hF, hC2⟩ | ⟨x2, p2, N2, kd2, sg2, sd2, ⟨⟨i1, i2, i3⟩, i4, i5, i6, i7, i8⟩, i9, hS2, hC2⟩
      · refine Or.inl ⟨q, hq, fun d mr M s tf tg K g Q R hs hK o2 => ?_, fun d M s no O nw W yy o5 P Z hs hb hK => ?_⟩
        · exact refS d mr M s tf tg K o2 g Q R hs (fun M1 s1 tf1 tg1 o3 R1 h1 => hF (d + 3) mr M1 s1 tf1 tg1 K g Q R1 h1 hK o3)
        · exact cls d M s no O nw W yy o5 P Z hs hb (fun M' s' y' o5' Z' h1 h2 h3 => hC2 d M' s' no O nw W y' o5' P Z' h1 ⟨hb.1, h2, h3⟩ hK)
      · refine Or.inr ⟨x2, p2, N2, kd2, sg2, sd2, ⟨⟨by omega, i2, i3⟩, i4, by omega, by omega, i7, i8⟩, i9, fun d mr M s tf tg K g Q R hs hK o2 => ?_, fun d M s no O nw W yy o5 P Z hs hb hK => ?_⟩
        · exact refS d mr M s tf tg K o2 g Q R hs (fun M1 s1 tf1 tg1 o3 R1 h1 => hS2 (d + 3) mr M1 s1 tf1 tg1 K g Q R1 h1 hK o3)
        · exact cls d M s no O nw W yy o5 P Z hs hb (fun M' s' y' o5' Z' h1 h2 h3 => hC2 d M' s' no O nw W y' o5' P Z' h1 ⟨hb.1, h2, h3⟩ hK)
  · refine Or.inr ⟨x, p, N, kd, sg, sd, ⟨⟨Int.le_refl _, p1, px⟩, hP, by omega, Int.le_refl _, x0, x1⟩, L, fun d mr M s tf tg K g Q R hs hK o2 => ?_, fun d M s no O nw W yy o5 P Z hs hb hK => hK M s yy o5 Z hs hb.2.1 hb.2.2⟩
    rw [show d + 3 * (r + 1) + 11 = d + 3 + 3 * r + 10 + 1 by omega]
    refine w_245_5 ?_
    refine r_235 Q R (by decide) (fun M1 => ⟨fun e R1 => ?_, fun e R1 => ?_⟩)
    · rw [hs] at e; exact absurd e L
    · rw [hs] at R1
      rw [if_pos rfl]
      exact hK M1 p tf tg R1 px
end GE
