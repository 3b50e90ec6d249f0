/-! ===== a new condition's rows, and the invariant with them ===== -/
theorem yfill {M : ZN} {a lo n : Int} (F G : Int → Int) (np : ∀ j, znp' a j = true) (hG : ∀ j, zr M a j = G j) (W : Int → ZN → Prop) (hn : 0 ≤ n) (hs : ∀ i, 0 ≤ i → i < n → W (i + 1) (zsn (zcc M a (fun j => if lo ≤ j ∧ j < lo + i then F j else G j)) a (lo + i) (F (lo + i))) → W i (zcc M a (fun j => if lo ≤ j ∧ j < lo + i then F j else G j))) (he : W n (zcc M a (fun j => if lo ≤ j ∧ j < lo + n then F j else G j))) : W 0 M := by
  have e0 : M = zcc M a (fun j => if lo ≤ j ∧ j < lo + 0 then F j else G j) := by
    rw [ycc_F (G := zr M a) (fun j => by rw [if_neg (by omega), hG]), ycc_id np]
  have key := yfor (fun i => W i (zcc M a (fun j => if lo ≤ j ∧ j < lo + i then F j else G j))) 0 n hn (fun i i0 i1 hW => ?_) he
  · rw [← e0] at key
    exact key
  · refine hs i i0 i1 ?_
    rw [ycc_sn np, ycc_F (G := fun j => if lo ≤ j ∧ j < lo + (i + 1) then F j else G j) (fun j => by
      by_cases q : j = lo + i
      · rw [if_pos q, if_pos (by omega), q]
      · rw [if_neg q]
        by_cases q2 : lo ≤ j ∧ j < lo + i
        · rw [if_pos q2, if_pos (by omega)]
        · rw [if_neg q2, if_neg (by omega)])]
    exact hW
theorem yInv_CRz {L : Int} {xs : Int → Int} {m m2 : ZN} (I : yInv L xs m) (f : ∀ a : Int, a ≠ 8 ∧ a ≠ 234 ∧ a ≠ 252 ∧ a ≠ 254 ∧ a ≠ 255 ∧ a ≠ 256 ∧ ¬ (10 ≤ a ∧ a ≤ 109) ∧ ¬ (261 ≤ a ∧ a ≤ 264) ∧ a ≠ 236 ∧ ¬ (218 ≤ a ∧ a ≤ 233) ∧ a ≠ 235 ∧ a ≠ 216 ∧ a ≠ 249 ∧ ¬ (265 ≤ a ∧ a ≤ 268) → zr m2 a = zr m a) (g : ∀ j : Int, j ≠ 10 ∧ ¬ (32 ≤ j ∧ j ≤ 40) → zr m2 236 j = zr m 236 j) (h216 : zr m2 216 1 = zr m 216 1) (hN : zr m 8 1 ≤ zr m2 8 1) (hC : ((zr m2 8 1 = zr m2 236 10 ∧ (0 ≤ zr m2 8 1 ∧ zr m2 8 1 ≤ 24) ∧ zr m2 8 2 = 0) ∧ yIC (zr m2) 10 (zr m2 8 1) (zr m2 254) (zr m2 255) (zr m2 256) ∧ yIM (zr m2) (zr m2 8 1) (zr m2 254) (zr m2 255) (zr m2 256))) (hR : (∀ k, 0 ≤ k → k < 5 → zr m2 234 k = zr m2 252 (k + 2))) : yInv L xs m2 := by
  obtain ⟨iX, iL, ⟨iC0, iC1, iC2⟩, ⟨iK0, iK1⟩, iS, iF, iR⟩ := I
  refine ⟨?_, ?_, hC, ?_, ?_, ?_, hR⟩
  · rw [f 0 (by omega)]
    exact iX
  · rw [f 4 (by omega), f 5 (by omega), f 253 (by omega), g 9 (by first | omega | trivial), g 11 (by first | omega | trivial), g 12 (by first | omega | trivial)]
    exact iL
  · rw [f 3 (by omega), f 6 (by omega), f 7 (by omega), f 257 (by omega), f 258 (by omega), f 259 (by omega), f 260 (by omega), f 110 (by omega), g 17 (by first | omega | trivial), g 18 (by first | omega | trivial), g 19 (by first | omega | trivial), g 20 (by first | omega | trivial), g 21 (by first | omega | trivial)]
    refine ⟨iK0, ?_⟩
    rcases iK1 with h1 | ⟨h1, h2, h3, h4⟩
    · exact Or.inl h1
    · exact Or.inr ⟨h1, h2, h3, yIC_fr h4 (by omega) (fun a a0 a1 => f a (by omega))⟩
  · intro s s0 s1
    rw [f 213 (by omega), f 214 (by omega), f 215 (by omega), f 237 (by omega), f 238 (by omega), f 239 (by omega), f 250 (by omega), f (241 + s) (by omega)]
    exact yIS_mono (iS s s0 s1) hN
  · rw [h216, f 217 (by omega), f 251 (by omega), g 7 (by first | omega | trivial)]
    exact iF
theorem yInv_CFRz {L : Int} {xs : Int → Int} {m m2 : ZN} (I : yInv L xs m) (f : ∀ a : Int, a ≠ 8 ∧ a ≠ 216 ∧ a ≠ 217 ∧ a ≠ 234 ∧ a ≠ 251 ∧ a ≠ 252 ∧ a ≠ 254 ∧ a ≠ 255 ∧ a ≠ 256 ∧ ¬ (10 ≤ a ∧ a ≤ 109) ∧ ¬ (261 ≤ a ∧ a ≤ 264) ∧ a ≠ 236 ∧ ¬ (218 ≤ a ∧ a ≤ 233) ∧ a ≠ 235 ∧ a ≠ 216 ∧ a ≠ 249 ∧ ¬ (265 ≤ a ∧ a ≤ 268) → zr m2 a = zr m a) (g : ∀ j : Int, j ≠ 7 ∧ j ≠ 10 ∧ ¬ (32 ≤ j ∧ j ≤ 40) → zr m2 236 j = zr m 236 j) (hN : zr m 8 1 ≤ zr m2 8 1) (hC : ((zr m2 8 1 = zr m2 236 10 ∧ (0 ≤ zr m2 8 1 ∧ zr m2 8 1 ≤ 24) ∧ zr m2 8 2 = 0) ∧ yIC (zr m2) 10 (zr m2 8 1) (zr m2 254) (zr m2 255) (zr m2 256) ∧ yIM (zr m2) (zr m2 8 1) (zr m2 254) (zr m2 255) (zr m2 256))) (hF : (zr m2 216 1 = zr m2 236 7 ∧ (0 ≤ zr m2 216 1 ∧ zr m2 216 1 ≤ 250) ∧ ∀ j, 0 ≤ j → j < zr m2 216 1 → zr m2 217 j = zr m2 251 j ∧ 0 ≤ zr m2 217 j ∧ zr m2 217 j ≤ 255)) (hR : (∀ k, 0 ≤ k → k < 5 → zr m2 234 k = zr m2 252 (k + 2))) : yInv L xs m2 := by
  obtain ⟨iX, iL, ⟨iC0, iC1, iC2⟩, ⟨iK0, iK1⟩, iS, iF, iR⟩ := I
  refine ⟨?_, ?_, hC, ?_, ?_, hF, hR⟩
  · rw [f 0 (by omega)]
    exact iX
  · rw [f 4 (by omega), f 5 (by omega), f 253 (by omega), g 9 (by first | omega | trivial), g 11 (by first | omega | trivial), g 12 (by first | omega | trivial)]
    exact iL
  · rw [f 3 (by omega), f 6 (by omega), f 7 (by omega), f 257 (by omega), f 258 (by omega), f 259 (by omega), f 260 (by omega), f 110 (by omega), g 17 (by first | omega | trivial), g 18 (by first | omega | trivial), g 19 (by first | omega | trivial), g 20 (by first | omega | trivial), g 21 (by first | omega | trivial)]
    refine ⟨iK0, ?_⟩
    rcases iK1 with h1 | ⟨h1, h2, h3, h4⟩
    · exact Or.inl h1
    · exact Or.inr ⟨h1, h2, h3, yIC_fr h4 (by omega) (fun a a0 a1 => f a (by omega))⟩
  · intro s s0 s1
    rw [f 213 (by omega), f 214 (by omega), f 215 (by omega), f 237 (by omega), f 238 (by omega), f 239 (by omega), f 250 (by omega), f (241 + s) (by omega)]
    exact yIS_mono (iS s s0 s1) hN
theorem yInv_LFRz {L : Int} {xs : Int → Int} {m m2 : ZN} (I : yInv L xs m) (f : ∀ a : Int, a ≠ 4 ∧ a ≠ 5 ∧ a ≠ 216 ∧ a ≠ 217 ∧ a ≠ 234 ∧ a ≠ 251 ∧ a ≠ 252 ∧ a ≠ 253 ∧ a ≠ 236 ∧ ¬ (218 ≤ a ∧ a ≤ 233) ∧ a ≠ 235 ∧ a ≠ 216 ∧ a ≠ 249 ∧ ¬ (265 ≤ a ∧ a ≤ 268) → zr m2 a = zr m a) (g : ∀ j : Int, j ≠ 7 ∧ j ≠ 9 ∧ j ≠ 11 ∧ j ≠ 12 ∧ ¬ (32 ≤ j ∧ j ≤ 40) → zr m2 236 j = zr m 236 j) (hL : yIL (zr m2 4 1) (zr m2 236 9) (zr m2 4 2) (zr m2 236 11) (zr m2 4 3) (zr m2 236 12) (zr m2 5) (zr m2 253)) (hF : (zr m2 216 1 = zr m2 236 7 ∧ (0 ≤ zr m2 216 1 ∧ zr m2 216 1 ≤ 250) ∧ ∀ j, 0 ≤ j → j < zr m2 216 1 → zr m2 217 j = zr m2 251 j ∧ 0 ≤ zr m2 217 j ∧ zr m2 217 j ≤ 255)) (hR : (∀ k, 0 ≤ k → k < 5 → zr m2 234 k = zr m2 252 (k + 2))) : yInv L xs m2 := by
  obtain ⟨iX, iL, ⟨iC0, iC1, iC2⟩, ⟨iK0, iK1⟩, iS, iF, iR⟩ := I
  refine ⟨?_, hL, ?_, ?_, ?_, hF, hR⟩
  · rw [f 0 (by omega)]
    exact iX
  · rw [f 8 (by omega), f 254 (by omega), f 255 (by omega), f 256 (by omega), g 10 (by first | omega | trivial)]
    exact ⟨iC0, yIC_fr iC1 (by omega) (fun a a0 a1 => f a (by omega)), yIM_fr iC2 (fun a a0 a1 => f a (by omega))⟩
  · rw [f 3 (by omega), f 6 (by omega), f 7 (by omega), f 257 (by omega), f 258 (by omega), f 259 (by omega), f 260 (by omega), f 110 (by omega), g 17 (by first | omega | trivial), g 18 (by first | omega | trivial), g 19 (by first | omega | trivial), g 20 (by first | omega | trivial), g 21 (by first | omega | trivial)]
    refine ⟨iK0, ?_⟩
    rcases iK1 with h1 | ⟨h1, h2, h3, h4⟩
    · exact Or.inl h1
    · exact Or.inr ⟨h1, h2, h3, yIC_fr h4 (by omega) (fun a a0 a1 => f a (by omega))⟩
  · intro s s0 s1
    rw [f 213 (by omega), f 214 (by omega), f 215 (by omega), f 237 (by omega), f 238 (by omega), f 239 (by omega), f 250 (by omega), f 8 (by omega), f (241 + s) (by omega)]
    exact iS s s0 s1
section YM
variable {d : Nat} {m : ZN}
theorem c_231 (K : ZN → Prop) : zcV d 231 [zA 236] m K = K (zcc (zsn m 236 39 (-1)) 268 (fun j => if 0 ≤ j ∧ j < 8 then -1 else zr m 268 j)) := by
  have np : ∀ j, znp' 268 j = true := ynl rfl
  refine zcV_eq (w_231 ?_) K
  refine yfill (lo := 0) (n := 8) (fun _ => -1) (zr m 268) np (fun j => by rw [yr_sc (by decide)]) (fun i M => zwpN d 231 7 [some (zA 236), some (zI i)] [] M _) (by decide) (fun i i0 i1 hW => ?_) ?_
  · refine w_231_7 ?_
    rw [if_pos i1]
    simp (disch := first | trivial | assumption | omega | exact ynl rfl _ | exact znp_o rfl | rfl | (simp (disch := first | decide | omega) only [yfc, yr_so, yr_ss, yfcc, yr_cs]; first | assumption | omega)) only [yck_of, yb_id, yPI_some, yPJ_some, yPA_some, yPV_none, yfc, yr_so, yr_ss, yfcc, yr_cs, ybif_t, yrd_1, yrd_2, yfcl]
    simp only [Int.zero_add] at hW ⊢
    exact hW
  · refine w_231_7 ?_
    rw [if_neg (by decide)]
    rfl
/-- the rows of a new condition are written -/
def ymk (m : ZN) (N kd : Int) : ZN := zsn (zcc (zsn (zsn m 254 N kd) 255 N (zr m 236 39)) 256 (fun j => if 8 * N ≤ j ∧ j < 8 * N + 8 then zr m 268 (j - 8 * N) else zr m 256 j)) 236 37 (N + 1)
theorem c_232 {N kd : Int} (hN : zr m 236 37 = N) (n0 : 0 ≤ N) (n1 : N < 24) (K : Int → ZN → Prop) : zcI d 232 [zA 236, zI kd] m K = K N (ymk m N kd) := by
  have np : ∀ j, znp' 256 j = true := ynl rfl
  refine zcI_eq (w_232 ?_) K
  rw [hN, if_pos n1]
  simp (disch := first | trivial | assumption | omega | exact ynl rfl _ | exact znp_o rfl | rfl | (simp (disch := first | decide | omega) only [yfc, yr_so, yr_ss, yfcc, yr_cs]; first | assumption | omega)) only [yck_of, yb_id, yPI_some, yPJ_some, yPA_some, yPV_none, yfc, yr_so, yr_ss, yfcc, yr_cs, ybif_t, yrd_1, yrd_2, yfcl]
  simp only [hN]
  refine yfill (lo := 8 * N) (n := 8) (fun j => zr m 268 (j - 8 * N)) (zr m 256) np (fun j => by rw [yr_sc (by decide), yr_sc (by decide)]) (fun i M => zwpN d 232 34 [some (zA 236), some (zI kd), some (zI i)] [] M _) (by decide) (fun i i0 i1 hW => ?_) ?_
  · refine w_232_34 ?_
    rw [if_pos i1]
    simp (disch := first | trivial | assumption | omega | exact ynl rfl _ | exact znp_o rfl | rfl | (simp (disch := first | decide | omega) only [yfc, yr_so, yr_ss, yfcc, yr_cs]; first | assumption | omega)) only [yck_of, yb_id, yPI_some, yPJ_some, yPA_some, yPV_none, yfc, yr_so, yr_ss, yfcc, yr_cs, ybif_t, yrd_1, yrd_2, yfcl]
    simp only [hN]
    rw [show 8 * N + i - 8 * N = i by omega] at hW
    exact hW
  · refine w_232_34 ?_
    rw [if_neg (by decide)]
    simp (disch := first | trivial | assumption | omega | exact ynl rfl _ | exact znp_o rfl | rfl | (simp (disch := first | decide | omega) only [yfc, yr_so, yr_ss, yfcc, yr_cs]; first | assumption | omega)) only [yck_of, yb_id, yPI_some, yPJ_some, yPA_some, yPV_none, yfc, yr_so, yr_ss, yfcc, yr_cs, ybif_t, yrd_1, yrd_2, yfcl]
    simp only [hN]
    exact ⟨by omega, rfl⟩
theorem c_232f {N kd : Int} (hN : zr m 236 37 = N) (n0 : 24 ≤ N) (n1 : N ≤ 1000) (K : Int → ZN → Prop) : zcI d 232 [zA 236, zI kd] m K = K N (zsn m 236 37 (N + 1)) := by
  refine zcI_eq (w_232 ?_) K
  rw [hN, if_neg (by omega)]
  simp (disch := first | trivial | assumption | omega | exact ynl rfl _ | exact znp_o rfl | rfl | (simp (disch := first | decide | omega) only [yfc, yr_so, yr_ss, yfcc, yr_cs]; first | assumption | omega)) only [yck_of, yb_id, yPI_some, yPJ_some, yPA_some, yPV_none, yfc, yr_so, yr_ss, yfcc, yr_cs, ybif_t, yrd_1, yrd_2, yfcl]
  exact ⟨by omega, trivial⟩
/-- what one more condition leaves in the reference's rows -/
def yNw (m : ZN) (N kd sg : Int) (ad : Int → Int) (M2 : ZN) : Prop :=
  (∀ a, a ≠ 254 ∧ a ≠ 255 ∧ a ≠ 256 ∧ ¬ (261 ≤ a ∧ a ≤ 264) ∧ a ≠ 236 → zr M2 a = zr m a) ∧ (∀ j, j ≠ 10 → j ≠ 37 → zr M2 236 j = zr m 236 j) ∧ zr M2 236 10 = N + 1 ∧ zr M2 254 = yup (zr m 254) N kd ∧ zr M2 255 = yup (zr m 255) N sg ∧ zr M2 256 = yus (zr m 256) N ad ∧ yIM (zr M2) (N + 1) (yup (zr m 254) N kd) (yup (zr m 255) N sg) (yus (zr m 256) N ad)
theorem yus_c {f a b : Int → Int} {N : Int} (h : ∀ k, 0 ≤ k → k < 8 → a k = b k) : yus f N a = yus f N b := funext fun j => by
  unfold yus
  by_cases q : 8 * N ≤ j ∧ j < 8 * N + 8
  · rw [if_pos q, if_pos q, h _ (by omega) (by omega)]
  · rw [if_neg q, if_neg q]
theorem ymk_r {N kd sg : Int} {ad : Int → Int} (hs : zr m 236 39 = sg) (ha : ∀ k, 0 ≤ k → k < 8 → zr m 268 k = ad k) : (∀ a, a ≠ 254 ∧ a ≠ 255 ∧ a ≠ 256 ∧ a ≠ 236 → zr (ymk m N kd) a = zr m a) ∧ (∀ j, j ≠ 37 → zr (ymk m N kd) 236 j = zr m 236 j) ∧ zr (ymk m N kd) 236 37 = N + 1 ∧ zr (ymk m N kd) 254 = yup (zr m 254) N kd ∧ zr (ymk m N kd) 255 = yup (zr m 255) N sg ∧ zr (ymk m N kd) 256 = yus (zr m 256) N ad := by
  unfold ymk
  have n4 : ∀ j, znp' 254 j = true := ynl rfl
  have n5 : ∀ j, znp' 255 j = true := ynl rfl
  have n6 : ∀ j, znp' 256 j = true := ynl rfl
  refine ⟨fun a h => ?_, fun j h => ?_, ?_, ?_, ?_, ?_⟩
  · rw [yfc (by omega), yfcc (by omega), yfc (by omega), yfc (by omega)]
  · rw [yr_so h, yr_cc (by omega), yr_sc (by omega), yr_sc (by omega)]
  · rw [yr_ss (znp_o rfl)]
  · rw [yfc (by omega), yfcc (by omega), yfc (by omega)]
    funext j
    rw [yr_sa (n4 _)]
    rfl
  · rw [yfc (by omega), yfcc (by omega)]
    funext j
    rw [yr_sa (n5 _), yfc (by omega), hs]
    rfl
  · rw [yfc (by omega), yfcs n6]
    exact yus_c ha
theorem c_249 {N kd sg : Int} {ad : Int → Int} {K : Int → ZN → Prop} (hN : zr m 236 10 = N) (n0 : 0 ≤ N) (n1 : N < 24) (hs : zr m 236 39 = sg) (ha : ∀ k, 0 ≤ k → k < 8 → zr m 268 k = ad k) (W : yWA (yup (zr m 254) N kd) (yup (zr m 255) N sg) (yus (zr m 256) N ad) (N + 1)) (hI : yIM (zr m) N (yup (zr m 254) N kd) (yup (zr m 255) N sg) (yus (zr m 256) N ad)) (h : ∀ M2, yNw m N kd sg ad M2 → K N M2) : zcI (d + 6) 249 [zA 236, zI kd] m K := by
  refine w_249 ?_
  rw [hN, if_neg (by omega), c_232 (N := N) (yr_ss (znp_o rfl)) n0 n1]
  refine w_248 ?_
  have hs' : zr (zsn m 236 37 N) 236 39 = sg := by rw [yr_so (by decide)]; exact hs
  have ha' : ∀ k, 0 ≤ k → k < 8 → zr (zsn m 236 37 N) 268 k = ad k := fun k k0 k1 => by rw [yfc (by decide)]; exact ha k k0 k1
  obtain ⟨r1, r2, r3, r4, r5, r6⟩ := ymk_r (m := zsn m 236 37 N) (N := N) (kd := kd) hs' ha'
  rw [yfc (by decide)] at r4 r5 r6
  generalize ymk (zsn m 236 37 N) N kd = M1 at *
  have f10 : zr M1 236 10 = N := by rw [r2 10 (by decide), yr_so (by decide)]; exact hN
  rw [r3, f10]
  have e4 : zr (zsn M1 236 10 (N + 1)) 254 = yup (zr m 254) N kd := by rw [yfc (by decide)]; exact r4
  have e5 : zr (zsn M1 236 10 (N + 1)) 255 = yup (zr m 255) N sg := by rw [yfc (by decide)]; exact r5
  have e6 : zr (zsn M1 236 10 (N + 1)) 256 = yus (zr m 256) N ad := by rw [yfc (by decide)]; exact r6
  have e10 : zr (zsn M1 236 10 (N + 1)) 236 10 = N + 1 := yr_ss (znp_o rfl)
  have fr : ∀ a, a ≠ 254 ∧ a ≠ 255 ∧ a ≠ 256 ∧ a ≠ 236 → zr (zsn M1 236 10 (N + 1)) a = zr m a := fun a q => by rw [yfc (by omega), r1 a q, yfc (by omega)]
  refine c_219 (f := N) (by rw [e4, e5, e6, e10]; exact W) (by rw [e10]; omega) n0 (by rw [e10]; omega) ?_ (fun M2 k1 k2 => ?_)
  · rw [e4, e5, e6]
    exact yIM_fr hI (fun a a0 a1 => fr a (by omega))
  · rw [e4, e5, e6, e10] at k2
    rw [k1 236 (by omega), e10, show N + 1 - 1 = N by omega, yb_id (by omega) (by omega)]
    refine h M2 ⟨fun a q => ?_, fun j j0 j1 => ?_, ?_, ?_, ?_, ?_, k2⟩
    · rw [k1 a (by omega), fr a (by omega)]
    · rw [k1 236 (by omega), yr_so j0, r2 j j1, yr_so j1]
    · rw [k1 236 (by omega), e10]
    · rw [k1 254 (by omega), e4]
    · rw [k1 255 (by omega), e5]
    · rw [k1 256 (by omega), e6]
theorem c_249f {kd : Int} (hN : zr m 236 10 = 24) (K : Int → ZN → Prop) : zcI (d + 6) 249 [zA 236, zI kd] m K = K (-106) (zsn m 252 (-(-106) - 100) (zb (zr m 252 (-(-106) - 100) + 1))) := by
  refine zcI_eq (w_249 ?_) K
  rw [hN]
  simp (disch := first | trivial | assumption | omega | exact ynl rfl _ | exact znp_o rfl | rfl | (simp (disch := first | decide | omega) only [yfc, yr_so, yr_ss, yfcc, yr_cs]; first | assumption | omega)) only [yck_of, yb_id, yPI_some, yPJ_some, yPA_some, yPV_none, yfc, yr_so, yr_ss, yfcc, yr_cs, ybif_t, yrd_1, yrd_2, yfcl, ↓c_192, ↓c_193, ↓c_194, ↓c_251, ↓c_264, ↓c_191, ↓if_pos, ↓if_neg, yl_lt, yl_gt, yl_eq]
  trivial
end YM
