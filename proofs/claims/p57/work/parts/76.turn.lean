/-! ===== a turn becomes whole ===== -/
/-- what waited for a turn x becomes whole with it -/
def yTW (O W : Int → Int) (nw : Int) (R : Int → Int → (Int → Int) → Int → (Int → Int) → (Int → Int) → (Int → Int) → Prop) : Nat → Int → Int → (Int → Int) → (Int → Int) → (Int → Int) → Prop
  | 0, x, N, kd, sg, sd => R 0 (nw + 1) (yup W nw x) N kd sg sd
  | k + 1, x, N, kd, sg, sd =>
    if O k = 45 then yTW O W nw R k N (N + 1) (yup kd N 8) (yup sg N (-1)) (yus sd N (yov x (-1)))
    else if O k = 43 then yTW O W nw R k N (N + 1) (yup kd N 9) (yup sg N (-1)) (yus sd N (yov x (-1)))
    else if O k = 38 then 1 ≤ nw ∧ R k nw (yup W (nw - 1) N) (N + 1) (yup kd N 6) (yup sg N (-1)) (yus sd N (yov (W (nw - 1)) x))
    else R (k + 1) (nw + 1) (yup W nw x) N kd sg sd
theorem yTW_s (O W : Int → Int) (nw : Int) (R : Int → Int → (Int → Int) → Int → (Int → Int) → (Int → Int) → (Int → Int) → Prop) (k : Nat) (x N : Int) (kd sg sd : Int → Int) : yTW O W nw R (k + 1) x N kd sg sd = (if O k = 45 then yTW O W nw R k N (N + 1) (yup kd N 8) (yup sg N (-1)) (yus sd N (yov x (-1)))
    else if O k = 43 then yTW O W nw R k N (N + 1) (yup kd N 9) (yup sg N (-1)) (yus sd N (yov x (-1)))
    else if O k = 38 then 1 ≤ nw ∧ R k nw (yup W (nw - 1) N) (N + 1) (yup kd N 6) (yup sg N (-1)) (yus sd N (yov (W (nw - 1)) x))
    else R (k + 1) (nw + 1) (yup W nw x) N kd sg sd) := rfl
theorem yTW_m {O O' W : Int → Int} {nw : Int} {R R' : Int → Int → (Int → Int) → Int → (Int → Int) → (Int → Int) → (Int → Int) → Prop} : ∀ (k : Nat) (x N : Int) (kd sg sd : Int → Int), (∀ j : Nat, j < k → O j = O' j) → (∀ no' nw' W' N' kd' sg' sd', 0 ≤ no' → no' ≤ (k : Int) → nw ≤ nw' → nw' ≤ nw + 1 → R no' nw' W' N' kd' sg' sd' → R' no' nw' W' N' kd' sg' sd') → yTW O W nw R k x N kd sg sd → yTW O' W nw R' k x N kd sg sd := by
  intro k
  induction k with
  | zero => intro x N kd sg sd _ hR h; exact hR _ _ _ _ _ _ _ (by decide) (by omega) (by omega) (by omega) h
  | succ k ih =>
    intro x N kd sg sd hO hR h
    have hR' : ∀ no' nw' W' N' kd' sg' sd', 0 ≤ no' → no' ≤ (k : Int) → nw ≤ nw' → nw' ≤ nw + 1 → R no' nw' W' N' kd' sg' sd' → R' no' nw' W' N' kd' sg' sd' := fun a b c d e f g h0 h1 h2 h3 h4 => hR a b c d e f g h0 (by omega) h2 h3 h4
    rw [yTW_s] at h ⊢
    rw [← hO k (by omega)]
    by_cases q1 : O k = 45
    · rw [if_pos q1] at h ⊢
      exact ih _ _ _ _ _ (fun j hj => hO j (by omega)) hR' h
    · rw [if_neg q1] at h ⊢
      by_cases q2 : O k = 43
      · rw [if_pos q2] at h ⊢
        exact ih _ _ _ _ _ (fun j hj => hO j (by omega)) hR' h
      · rw [if_neg q2] at h ⊢
        by_cases q3 : O k = 38
        · rw [if_pos q3] at h ⊢
          exact ⟨h.1, hR _ _ _ _ _ _ _ (by omega) (by omega) (by omega) (by omega) h.2⟩
        · rw [if_neg q3] at h ⊢
          exact hR _ _ _ _ _ _ _ (by omega) (by omega) (by omega) (by omega) h
section YT
variable {d : Nat} {m M : ZN} {T : Int → Int} {n c0 p N : Int} {kd sg sd : Int → Int} {no : Nat} {O : Int → Int} {nw : Int} {W : Int → Int}
theorem c_60 {x : Int} {K : ZN → Prop} (C : yKs m M T n c0 p N kd sg sd no O nw W) (n1 : no ≤ 250) (w0 : 0 ≤ nw) (w1 : nw < 250) (hN : N + no ≤ 900) (h : yTW O W nw (fun no' nw' W' N' kd' sg' sd' => ∀ M', yKs m M' T n c0 p N' kd' sg' sd' no' O nw' W' → K M') no x N kd sg sd) : zcV (d + 3) 60 [zA 218, zA 8, zI x] M K := by
  refine w_60 ?_
  suffices go : ∀ (no : Nat) (M : ZN) (x y2 N : Int) (kd sg sd : Int → Int), yKs m M T n c0 p N kd sg sd no O nw W → no ≤ 250 → N + no ≤ 900 → yTW O W nw (fun no' nw' W' N' kd' sg' sd' => ∀ M', yKs m M' T n c0 p N' kd' sg' sd' no' O nw' W' → K M') no x N kd sg sd → zwpN (d + 3) 60 2 [some (zA 218), some (zA 8), some (zI y2), some (zI x)] [] M (zPV K) from go no M x x N kd sg sd C n1 hN h
  intro no
  induction no with
  | zero =>
    intro M x y2 N kd sg sd C _ hN h
    refine w_60_2 ?_
    rw [C.2.2.2.2.1.1, if_neg (by omega), c_63 C (by omega), if_neg (show ¬ 0 < ((0 : Nat) : Int) by omega), if_neg (by decide)]
    exact c_65 C w0 w1 (fun M' C' => h M' C')
  | succ k ih =>
    intro M x y2 N kd sg sd C n1 hN h
    have ek : ((k + 1 : Nat) : Int) - 1 = k := by omega
    have top : ∀ K', zcI (d + 2) 63 [zA 218] M K' = K' (O k) M := fun K' => by rw [c_63 C (by omega), if_pos (by omega), ek]
    rw [yTW_s] at h
    refine w_60_2 ?_
    rw [C.2.2.2.2.1.1, if_pos (by omega), top]
    -- a sign goes
    have sgn : ∀ kk, 6 ≤ kk → (∀ M', yKs m M' T n c0 p (N + 1) (yup kd N kk) (yup sg N (-1)) (yus sd N (yov x (-1))) ((k + 1 : Nat) : Int) O nw W → zwpN (d + 3) 60 2 [some (zA 218), some (zA 8), some (zI y2), some (zI N)] [] (zsn M' 218 3 (zb (zr M' 218 3 - 1))) (zPV K)) → zcV (d + 2) 26 [zA 8, zI kk, zI x, zI (-1)] M (fun n18 => zcI (d + 2) 27 [zA 8] n18 (fun v20 n19 => zwpN (d + 3) 60 2 [some (zA 218), some (zA 8), some (zI y2), some (zI v20)] [] (zsn n19 218 3 (zb (zr n19 218 3 - 1))) (zPV K))) := fun kk k6 hh => by
      refine c_26s (d := d) C (by omega) k6 (fun M' C' => ?_)
      rw [c_27 C' (by omega), show N + 1 - 1 = N by omega]
      exact hh M' C'
    have pop : ∀ (M' : ZN) (N' : Int) (kd' sg' sd' : Int → Int), yKs m M' T n c0 p N' kd' sg' sd' ((k + 1 : Nat) : Int) O nw W → yKs m (zsn M' 218 3 (zb (zr M' 218 3 - 1))) T n c0 p N' kd' sg' sd' (k : Int) O nw W := fun M' N' kd' sg' sd' C' => by
      have e := C'.2.2.2.2.1
      have e6 := C'.2.2.2.2.2.1
      rw [e.1, show zb (((k + 1 : Nat) : Int) - 1) = k from by rw [yb_id (by omega) (by omega)]; omega]
      exact C'.st (fun b b0 b1 b2 => by rw [yfc b0]) ⟨yr_ss (znp_o rfl), fun j j0 j1 => by rw [yr_sc (by decide)]; exact e.2 j j0 (by omega)⟩ ⟨by rw [yr_so (by decide)]; exact e6.1, fun j j0 j1 => by rw [yr_sc (by decide)]; exact e6.2 j j0 j1⟩
    by_cases q1 : O k = 45
    · rw [if_pos q1] at h ⊢
      rw [top, if_pos q1]
      exact sgn 8 (by decide) (fun M' C' => ih _ N y2 (N + 1) _ _ _ (pop M' _ _ _ _ C') (by omega) (by omega) h)
    · rw [if_neg q1] at h ⊢
      rw [top]
      by_cases q2 : O k = 43
      · rw [if_pos q2] at h ⊢
        rw [top, if_neg q1]
        exact sgn 9 (by decide) (fun M' C' => ih _ N y2 (N + 1) _ _ _ (pop M' _ _ _ _ C') (by omega) (by omega) h)
      · rw [if_neg q2] at h ⊢
        rw [top]
        by_cases q3 : O k = 38
        · rw [if_pos q3] at h ⊢
          refine c_64 C (by omega) (by omega) (fun M1 C1 => ?_)
          rw [ek] at C1
          refine c_66 C1 (by omega) (by omega) (fun M2 C2 => ?_)
          refine c_26s (d := d) C2 (by omega) (by decide) (fun M3 C3 => ?_)
          rw [c_27 C3 (by omega), show N + 1 - 1 = N by omega]
          refine c_65 C3 (by omega) (by omega) (fun M4 C4 => ?_)
          rw [show nw - 1 + 1 = nw by omega] at C4
          exact h.2 M4 C4
        · rw [if_neg q3] at h ⊢
          exact c_65 C w0 w1 (fun M' C' => h M' C')
/-- an OR that waits is closed -/
theorem c_61 {x y : Int} {K : ZN → Prop} (C : yKs m M T n c0 p N kd sg sd ((no : Int) + 1) (yup O no 124) (nw + 2) (yup (yup W nw x) (nw + 1) y)) (n1 : no < 250) (w0 : 0 ≤ nw) (w1 : nw ≤ 248) (hN : N ≤ 900) (h : ∀ M', yKs m M' T n c0 p (N + 1) (yup kd N 7) (yup sg N (-1)) (yus sd N (yov x y)) no O (nw + 1) (yup W nw N) → K M') : zcV (d + 3) 61 [zA 218, zA 8] M K := by
  have h5 := C.2.2.2.2.2.1.1
  refine w_61 ?_
  rw [c_63 C (by omega), if_pos (show 0 < (no : Int) + 1 by omega), show (no : Int) + 1 - 1 = no by omega, yup_n, if_pos rfl, h5, if_neg (by omega)]
  refine c_64 C (by omega) (by omega) (fun M1 C1 => ?_)
  rw [show (no : Int) + 1 - 1 = no by omega] at C1
  refine c_66 C1 (by omega) (by omega) (fun M2 C2 => ?_)
  rw [show nw + 2 - 1 = nw + 1 by omega] at C2 ⊢
  refine c_66 C2 (by omega) (by omega) (fun M3 C3 => ?_)
  rw [show nw + 1 - 1 = nw by omega] at C3 ⊢
  rw [yup_n, yup_o (by omega), yup_n]
  refine c_26s (d := d) C3 (by omega) (by decide) (fun M4 C4 => ?_)
  rw [c_27 C4 (by omega), show N + 1 - 1 = N by omega]
  refine c_65 C4 w0 (by omega) (fun M5 C5 => ?_)
  refine h M5 (C5.O_c (fun j j0 j1 => yup_o j1) (fun j j0 j1 => ?_))
  by_cases q : j = nw
  · rw [q, yup_n, yup_n]
  · rw [yup_o (by omega), yup_o (by omega), yup_o (by omega), yup_o (by omega)]
theorem c_61n {K : ZN → Prop} (C : yKs m M T n c0 p N kd sg sd no O nw W) (n1 : no ≤ 250) (ht : 0 < (no : Int) → O ((no : Int) - 1) ≠ 124) (h : K M) : zcV (d + 3) 61 [zA 218, zA 8] M K := by
  refine w_61 ?_
  rw [c_63 C (by omega)]
  by_cases q : 0 < (no : Int)
  · rw [if_pos q, if_neg (ht q)]; exact h
  · rw [if_neg q, if_neg (by decide)]; exact h
end YT
