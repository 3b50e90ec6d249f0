/-! ===== the class at the head of its walk over a tape ===== -/
/-- the class behind a fault at q -/
def yKf (m M : ZN) (c0 q : Int) : Prop := (∀ b, b ≠ 8 → b ≠ 216 → b ≠ 218 → b ≠ 220 → b ≠ 221 → ¬ (10 + 4 * c0 ≤ b ∧ b ≤ 109) → zr M b = zr m b) ∧ (∀ j, j ≠ 2 → zr M 216 j = zr m 216 j) ∧ zr M 8 1 = c0 ∧ zr M 216 2 = q
def yH (d : Nat) (w y : Int) (o5 : Option ZV) (M : ZN) (P : Option ZV → ZN → Prop) : Prop := zwpN (d + 6) 56 19 [some (zA 218), some (zA 216), some (zA 8), some (zI w), some (zI y), o5] [] M P
section YH
variable {d : Nat} {m M : ZN} {T : Int → Int} {n c0 s p N : Int} {kd sg sd : Int → Int} {no : Nat} {O : Int → Int} {nw : Int} {W : Int → Int} {y : Int} {o5 : Option ZV} {P : Option ZV → ZN → Prop}
theorem yKs.kf {no : Int} (C : yKs m M T n c0 s N kd sg sd no O nw W) : yKf m M c0 s := ⟨C.1, C.2.1, C.2.2.1.1, C.2.2.2.1.2.1⟩
/-- a sign, or what opens, is put by -/
theorem y_push (C : yKs m M T n c0 s N kd sg sd no O nw W) (hp : ytx T n s = p) (y0 : 0 ≤ y) (y1 : y ≤ p) (n1 : (no : Int) ≤ p) {L : Int} (hL : ylq T n p = L) (hs : L = 45 ∨ L = 43 ∨ L = 40) (h : ∀ M', yKs m M' T n c0 (p + 1) N kd sg sd ((no : Int) + 1) (yup O no L) nw W → yH d 1 (y + 1) (some (zI L)) M' P) : yH d 1 y o5 M P := by
  have lt := ylq_lt (T := T) (n := n) (q := p) (by omega)
  have t1 := C.2.2.2.1
  have hn := t1.2.2.1
  have z10 : ¬ (1 : Int) = 0 := by decide
  unfold yH at h ⊢
  refine w_56_19 ?_
  rw [if_neg (by omega)]
  refine c_108 t1 (fun M1 f1 I1 => ?_)
  rw [ylt_q, hp, hL]
  rw [hp] at I1
  have C1 := C.mv f1 I1
  have v57 : ∀ K', zcI (d + 5) 57 [zI L] M1 K' = K' 1 M1 := fun K' => by
    refine zcI_eq (w_57 ?_) K'
    rw [yck_of (show ((0 : Int) ≤ 1 ∧ (1 : Int) ≤ 1) by decide)]
    by_cases a : L = 45
    · rw [if_pos a]; exact ⟨rfl, rfl⟩
    · rw [if_neg a]
      by_cases b : L = 43
      · rw [if_pos b]; exact ⟨rfl, rfl⟩
      · rw [if_neg b, if_pos (by omega)]; exact ⟨rfl, rfl⟩
  rw [if_neg (show ¬ L = -1 by omega), if_neg z10, v57, if_neg z10]
  refine c_62 C1 (by omega) (by omega) (fun M2 C2 => ?_)
  refine c_109 C2.2.2.2.1 lt (fun M3 f3 I3 => ?_)
  rw [show zb (y + 1) = y + 1 from yb_id (by omega) (by omega)]
  exact h M3 (C2.mv f3 I3)
/-- nothing more, where a turn is wanted -/
theorem y_end (C : yKs m M T n c0 s N kd sg sd no O nw W) (hp : ytx T n s = p) (y1 : y ≤ 250) (hL : ylq T n p = -1) (h : ∀ M', yKf m M' c0 p → P (some (zI 0)) M') : yH d 1 y o5 M P := by
  have t1 := C.2.2.2.1
  unfold yH
  refine w_56_19 ?_
  rw [if_neg (by omega)]
  refine c_108 t1 (fun M1 f1 I1 => ?_)
  rw [ylt_q, hp, hL]
  rw [hp] at I1
  rw [if_pos rfl, if_neg (by decide), yck_of (by decide)]
  exact h M1 (C.mv f1 I1).kf
/-- a leaf is to be read -/
theorem y_leaf (C : yKs m M T n c0 s N kd sg sd no O nw W) (hp : ytx T n s = p) (y0 : 0 ≤ y) (y1 : y ≤ 250) {L : Int} (hL : ylq T n p = L) (hs : L ≠ 45 ∧ L ≠ 43 ∧ L ≠ 40 ∧ L ≠ -1) (h : ∀ M1, yKs m M1 T n c0 p N kd sg sd no O nw W → zcA (d + 5) 25 [zA 8, zI 0, zI (-1)] M1 (fun v17 n16 => zcI (d + 5) 67 [zA 216, zA v17] n16 (fun v19 n18 => if v19 = 0 then zck ((0 : Int) ≤ 0 ∧ (0 : Int) ≤ 1) (P (some (zI 0)) n18) else zcI (d + 5) 27 [zA 8] n18 (fun v21 n20 => zcV (d + 5) 60 [zA 218, zA 8, zI v21] n20 (fun n22 => yH d 0 (y + 1) (some (zI L)) n22 P))))) : yH d 1 y o5 M P := by
  have t1 := C.2.2.2.1
  have z10 : ¬ (1 : Int) = 0 := by decide
  unfold yH at h ⊢
  refine w_56_19 ?_
  rw [if_neg (by omega)]
  refine c_108 t1 (fun M1 f1 I1 => ?_)
  rw [ylt_q, hp, hL]
  rw [hp] at I1
  have C1 := C.mv f1 I1
  have v57 : ∀ K', zcI (d + 5) 57 [zI L] M1 K' = K' 0 M1 := fun K' => by
    refine zcI_eq (w_57 ?_) K'
    rw [if_neg hs.1, if_neg hs.2.1, if_neg hs.2.2.1, yck_of (by decide)]
    exact ⟨rfl, rfl⟩
  rw [if_neg hs.2.2.2, if_neg z10, v57, if_pos rfl, if_neg z10]
  have g := h M1 C1
  rw [show y + 1 = zb (y + 1) from (yb_id (by omega) (by omega)).symm] at g
  exact g
/-- behind a turn: an AND is put by -/
theorem y_and (C : yKs m M T n c0 s N kd sg sd no O nw W) (hp : ytx T n s = p) (y0 : 0 ≤ y) (y1 : y ≤ p) (n1 : (no : Int) ≤ p) (hL : ylq T n p = 38) (h : ∀ M', yKs m M' T n c0 (p + 1) N kd sg sd ((no : Int) + 1) (yup O no 38) nw W → yH d 1 (y + 1) (some (zI 38)) M' P) : yH d 0 y o5 M P := by
  have lt := ylq_lt (T := T) (n := n) (q := p) (by omega)
  have t1 := C.2.2.2.1
  have hn := t1.2.2.1
  unfold yH at h ⊢
  refine w_56_19 ?_
  rw [if_neg (by omega)]
  refine c_108 t1 (fun M1 f1 I1 => ?_)
  rw [ylt_q, hp, hL]
  rw [hp] at I1
  have C1 := C.mv f1 I1
  rw [if_neg (by decide), if_pos rfl, if_pos rfl]
  refine w_59 ?_
  rw [if_pos rfl]
  refine c_62 C1 (by omega) (by omega) (fun M2 C2 => ?_)
  refine c_109 C2.2.2.2.1 lt (fun M3 f3 I3 => ?_)
  rw [yck_of (by decide), if_neg (by decide), if_neg (by decide), show zb (y + 1) = y + 1 from yb_id (by omega) (by omega)]
  exact h M3 (C2.mv f3 I3)
/-- the class holds a condition x as a whole, its last OR perhaps not yet closed -/
def yQ (m M : ZN) (T : Int → Int) (n c0 s p N : Int) (kd sg sd : Int → Int) (no : Nat) (O : Int → Int) (nw : Int) (W : Int → Int) (x : Int) : Prop :=
  (yKs m M T n c0 s N kd sg sd no O (nw + 1) (yup W nw x) ∧ (no : Int) ≤ p ∧ nw + 1 ≤ p) ∨ ∃ x1 x2 N1 kd1 sg1 sd1, yKs m M T n c0 s N1 kd1 sg1 sd1 ((no : Int) + 1) (yup O no 124) (nw + 2) (yup (yup W nw x1) (nw + 1) x2) ∧ (x = N1 ∧ N = N1 + 1 ∧ kd = yup kd1 N1 7 ∧ sg = yup sg1 N1 (-1) ∧ sd = yus sd1 N1 (yov x1 x2)) ∧ (no : Int) + 1 ≤ p ∧ nw + 2 ≤ p
/-- no sign, no AND, no OR waits on top -/
def yNc (O : Int → Int) (no : Nat) : Prop := ∀ k : Nat, no = k + 1 → O k ≠ 45 ∧ O k ≠ 43 ∧ O k ≠ 38 ∧ O k ≠ 124
def yNt (O : Int → Int) (no : Nat) : Prop := ∀ k : Nat, no = k + 1 → O k ≠ 45 ∧ O k ≠ 43 ∧ O k ≠ 38
theorem yQ.mv {x : Int} (Z : yQ m M T n c0 s p N kd sg sd no O nw W x) (hp : ytx T n s = p) {M' : ZN} (f : yfT M M') (t : yTp M' T n p) : yQ m M' T n c0 p p N kd sg sd no O nw W x := by
  rcases Z with ⟨C, h⟩ | ⟨x1, x2, N1, kd1, sg1, sd1, C, h⟩
  · exact Or.inl ⟨C.mv f t, h⟩
  · exact Or.inr ⟨x1, x2, N1, kd1, sg1, sd1, C.mv f t, h⟩
theorem yQ.tp {x : Int} (Z : yQ m M T n c0 s p N kd sg sd no O nw W x) : yTp M T n s := by
  rcases Z with ⟨C, h⟩ | ⟨x1, x2, N1, kd1, sg1, sd1, C, h⟩
  · exact C.2.2.2.1
  · exact C.2.2.2.1
theorem yQ.kf {x : Int} (Z : yQ m M T n c0 s p N kd sg sd no O nw W x) : yKf m M c0 s := by
  rcases Z with ⟨C, h⟩ | ⟨x1, x2, N1, kd1, sg1, sd1, C, h⟩
  · exact C.kf
  · exact C.kf
theorem c_61q {x : Int} {K : ZN → Prop} (Z : yQ m M T n c0 s p N kd sg sd no O nw W x) (p1 : p ≤ 250) (w0 : 0 ≤ nw) (hN : N ≤ 900) (hO : yNc O no) (h : ∀ M', yKs m M' T n c0 s N kd sg sd no O (nw + 1) (yup W nw x) → K M') : zcV (d + 3) 61 [zA 218, zA 8] M K := by
  rcases Z with ⟨C, h1, h2⟩ | ⟨x1, x2, N1, kd1, sg1, sd1, C, ⟨e1, e2, e3, e4, e5⟩, h1, h2⟩
  · refine c_61n C (by omega) (fun z => ?_) (h M C)
    have := hO (no - 1) (by omega)
    rw [show (((no - 1 : Nat)) : Int) = (no : Int) - 1 by omega] at this
    exact this.2.2.2
  · refine c_61 C (by omega) w0 (by omega) (by omega) (fun M' C' => h M' ?_)
    rw [e1, e2, e3, e4, e5]
    exact C'
/-- behind a turn: an OR is put by -/
theorem y_or {x : Int} (Z : yQ m M T n c0 s p N kd sg sd no O nw W x) (hp : ytx T n s = p) (y0 : 0 ≤ y) (y1 : y ≤ p) (w0 : 0 ≤ nw) (hN : N ≤ 900) (hO : yNc O no) (n1 : (no : Int) ≤ p) (hL : ylq T n p = 124) (h : ∀ M', yKs m M' T n c0 (p + 1) N kd sg sd ((no : Int) + 1) (yup O no 124) (nw + 1) (yup W nw x) → yH d 1 (y + 1) (some (zI 124)) M' P) : yH d 0 y o5 M P := by
  have lt := ylq_lt (T := T) (n := n) (q := p) (by omega)
  have t1 := Z.tp
  have hn := t1.2.2.1
  unfold yH at h ⊢
  refine w_56_19 ?_
  rw [if_neg (by omega)]
  refine c_108 t1 (fun M1 f1 I1 => ?_)
  rw [ylt_q, hp, hL]
  rw [hp] at I1
  have Z1 := Z.mv hp f1 I1
  rw [if_neg (by decide), if_pos rfl, if_pos rfl]
  refine w_59 ?_
  rw [if_neg (by decide), if_pos rfl]
  refine c_61q (d := d + 1) Z1 (by omega) w0 hN hO (fun M2 C2 => ?_)
  refine c_62 C2 (by omega) (by omega) (fun M3 C3 => ?_)
  refine c_109 C3.2.2.2.1 lt (fun M4 f4 I4 => ?_)
  rw [yck_of (by decide), if_neg (by decide), if_neg (by decide), show zb (y + 1) = y + 1 from yb_id (by omega) (by omega)]
  exact h M4 (C3.mv f4 I4)
/-- behind a turn: what was opened is closed -/
theorem y_close {x : Int} (Z : yQ m M T n c0 s p N kd sg sd (no + 1) (yup O no 40) nw W x) (hp : ytx T n s = p) (y0 : 0 ≤ y) (y1 : y ≤ p) (w0 : 0 ≤ nw) (w1 : nw < 250) (hN : N ≤ 300) (hL : ylq T n p = 41) (h : yTW O W nw (fun no' nw' W' N' kd' sg' sd' => ∀ M', yKs m M' T n c0 (p + 1) N' kd' sg' sd' no' O nw' W' → yH d 0 (y + 1) (some (zI 41)) M' P) no x N kd sg sd) : yH d 0 y o5 M P := by
  have lt := ylq_lt (T := T) (n := n) (q := p) (by omega)
  have t1 := Z.tp
  have hn := t1.2.2.1
  have hno : ((no + 1 : Nat) : Int) ≤ 250 := by
    rcases Z with ⟨C, h⟩ | ⟨x1, x2, N1, kd1, sg1, sd1, C, h⟩ <;> omega
  have hO : yNc (yup O no 40) (no + 1) := fun k hk => by
    have : k = no := by omega
    subst this
    rw [yup_n]
    decide
  unfold yH at h ⊢
  refine w_56_19 ?_
  rw [if_neg (by omega)]
  refine c_108 t1 (fun M1 f1 I1 => ?_)
  rw [ylt_q, hp, hL]
  rw [hp] at I1
  have Z1 := Z.mv hp f1 I1
  rw [if_neg (by decide), if_pos rfl, if_pos rfl]
  refine w_59 ?_
  rw [if_neg (by decide), if_neg (by decide), if_pos rfl]
  refine c_61q (d := d + 1) Z1 (by omega) w0 (by omega) hO (fun M2 C2 => ?_)
  have ek : ((no + 1 : Nat) : Int) - 1 = no := by omega
  rw [c_63 C2 (by omega), if_pos (show 0 < ((no + 1 : Nat) : Int) by omega), ek, yup_n, if_pos rfl]
  refine c_64 C2 (by omega) (by omega) (fun M3 C3 => ?_)
  rw [ek] at C3
  refine c_66 C3 (by omega) (by omega) (fun M4 C4 => ?_)
  rw [show nw + 1 - 1 = nw by omega] at C4 ⊢
  rw [yup_n]
  have C5 := C4.O_c (O' := O) (W' := W) (fun j j0 j1 => yup_o j1) (fun j j0 j1 => yup_o j1)
  refine c_60 (d := d + 1) C5 (by omega) w0 w1 (by omega) (yTW_m no x N kd sg sd (fun _ _ => rfl) (fun no' nw' W' N' kd' sg' sd' _ _ _ _ hR M' C' => ?_) h)
  refine c_109 C'.2.2.2.1 lt (fun M6 f6 I6 => ?_)
  rw [yck_of (by decide), if_neg (by decide), if_pos rfl, show zb (y + 1) = y + 1 from yb_id (by omega) (by omega)]
  exact hR M6 (C'.mv f6 I6)
/-- behind a turn: what can't stand there -/
theorem y_bad {x : Int} (Z : yQ m M T n c0 s p N kd sg sd no O nw W x) (hp : ytx T n s = p) (y0 : 0 ≤ y) (y1 : y ≤ 250) (w0 : 0 ≤ nw) (hN : N ≤ 900) (hO : yNc O no) {L : Int} (hL : ylq T n p = L) (h38 : L ≠ 38 ∧ L ≠ 124) (hc : L = 41 → ∀ k : Nat, no = k + 1 → O k ≠ 40) (he : L = -1 → 0 < no) (h : ∀ M', yKf m M' c0 p → P (some (zI 0)) M') : yH d 0 y o5 M P := by
  have t1 := Z.tp
  have hn := t1.2.2.1
  have rx := ytx_r (T := T) hn.2.1
  have hno : (no : Int) ≤ 250 := by
    rcases Z with ⟨C, h⟩ | ⟨x1, x2, N1, kd1, sg1, sd1, C, h⟩ <;> omega
  unfold yH
  refine w_56_19 ?_
  rw [if_neg (by omega)]
  refine c_108 t1 (fun M1 f1 I1 => ?_)
  rw [ylt_q, hp, hL]
  rw [hp] at I1
  have Z1 := Z.mv hp f1 I1
  by_cases a : L = -1
  · rw [if_pos a, if_pos rfl]
    refine w_58 ?_
    refine c_61q (d := d + 1) Z1 (by omega) w0 hN hO (fun M2 C2 => ?_)
    have := he a
    rw [C2.2.2.2.2.1.1, if_neg (by omega), yck_of (by decide), if_pos rfl, yck_of (by decide)]
    exact h M2 C2.kf
  · rw [if_neg a, if_pos rfl, if_pos rfl]
    refine w_59 ?_
    rw [if_neg h38.1, if_neg h38.2]
    by_cases b : L = 41
    · rw [if_pos b]
      refine c_61q (d := d + 1) Z1 (by omega) w0 hN hO (fun M2 C2 => ?_)
      have top : ¬ (if 0 < (no : Int) then O ((no : Int) - 1) else -1) = 40 := by
        by_cases z : 0 < (no : Int)
        · rw [if_pos z]
          have := hc b (no - 1) (by omega)
          rw [show (((no - 1 : Nat)) : Int) = (no : Int) - 1 by omega] at this
          exact this
        · rw [if_neg z]; decide
      rw [c_63 C2 (by omega), if_neg top, yck_of (by decide), if_pos rfl, yck_of (by decide)]
      exact h M2 C2.kf
    · rw [if_neg b, yck_of (by decide), if_pos rfl, yck_of (by decide)]
      exact h M1 Z1.kf
/-- nothing more, and nothing is open -/
theorem y_done {x : Int} (Z : yQ m M T n c0 s p N kd sg sd 0 O nw W x) (hp : ytx T n s = p) (y1 : y ≤ 250) (w0 : 0 ≤ nw) (hN : N ≤ 900) (hL : ylq T n p = -1) (h : ∀ M', yKs m M' T n c0 p N kd sg sd 0 O (nw + 1) (yup W nw x) → P (some (zI 1)) M') : yH d 0 y o5 M P := by
  have t1 := Z.tp
  have hn := t1.2.2.1
  have rx := ytx_r (T := T) hn.2.1
  unfold yH
  refine w_56_19 ?_
  rw [if_neg (by omega)]
  refine c_108 t1 (fun M1 f1 I1 => ?_)
  rw [ylt_q, hp, hL]
  rw [hp] at I1
  have Z1 := Z.mv hp f1 I1
  rw [if_pos rfl, if_pos rfl]
  refine w_58 ?_
  refine c_61q (d := d + 1) Z1 (by omega) w0 hN (fun k hk => by omega) (fun M2 C2 => ?_)
  rw [C2.2.2.2.2.1.1, if_pos (show ((0 : Nat) : Int) = 0 from rfl), yck_of (show (0 : Int) ≤ 1 ∧ (1 : Int) ≤ 1 by decide), if_neg (show ¬ (1 : Int) = 0 by decide), yck_of (show (0 : Int) ≤ 1 ∧ (1 : Int) ≤ 1 by decide)]
  exact h M2 C2
end YH
