/-! ===== a new condition's rows, and the invariant with them ===== -/
theorem yfill {M : ZN} {a lo n : Int} (F G : Int → Int) (np : ∀ j, znp' a j = true) (hG : ∀ j, zr M a j = G j) (W : Int → ZN → Prop) (hn : 0 ≤ n) (hs : ∀ i, 0 ≤ i → i < n → W (i + 1) (zsn (zcc M a (fun j => if lo ≤ j ∧ j < lo + i then F j else G j)) a (lo + i) (F (lo + i))) → W i (zcc M a (fun j => if lo ≤ j ∧ j < lo + i then F j else G j))) (he : W n (zcc M a (fun j => if lo ≤ j ∧ j < lo + n then F j else G j))) : W 0 M := by
  have e0 : M = zcc M a (fun j => if lo ≤ j ∧ j < lo + 0 then F j else G j) := by
    rw [ycc_F (G := zr M a) (fun j => by rw [if_neg (by omega), hG]), ycc_id np]
  have key := yfor (fun i => W i (zcc M a (fun j => if lo ≤ j ∧ j < lo + i then F j else G j))) 0 n hn (fun i i0 i1 hW => ?_) he
  · rw [← e0] at key
    exact key
  · refine hs i i0 i1 ?_
    rw [ycc_sn np, ycc_F (G := fun j => if lo ≤ j ∧ j < lo + (i + 1) then F j else G j) (fun j => by
      by_cases q : j = lo + i
      · rw [if_pos q, if_pos (by omega), q]
      · rw [if_neg q]
        by_cases q2 : lo ≤ j ∧ j < lo + i
        · rw [if_pos q2, if_pos (by omega)]
        · rw [if_neg q2, if_neg (by omega)])]
    exact hW
theorem yInv_CRz {L : Int} {xs : Int → Int} {m m2 : ZN} (I : yInv L xs m) (f : ∀ a : Int, a ≠ 8 ∧ a ≠ 234 ∧ a ≠ 252 ∧ a ≠ 254 ∧ a ≠ 255 ∧ a ≠ 256 ∧ ¬ (10 ≤ a ∧ a ≤ 109) ∧ ¬ (261 ≤ a ∧ a ≤ 264) ∧ a ≠ 236 ∧ ¬ (218 ≤ a ∧ a ≤ 233) ∧ a ≠ 235 ∧ a ≠ 216 ∧ a ≠ 249 ∧ ¬ (265 ≤ a ∧ a ≤ 268) → zr m2 a = zr m a) (g : ∀ j : Int, j ≠ 10 ∧ ¬ (32 ≤ j ∧ j ≤ 40) → zr m2 236 j = zr m 236 j) (h216 : zr m2 216 1 = zr m 216 1) (hN : zr m 8 1 ≤ zr m2 8 1) (hC : ((zr m2 8 1 = zr m2 236 10 ∧ (0 ≤ zr m2 8 1 ∧ zr m2 8 1 ≤ 24) ∧ zr m2 8 2 = 0) ∧ yIC (zr m2) 10 (zr m2 8 1) (zr m2 254) (zr m2 255) (zr m2 256) ∧ yIM (zr m2) (zr m2 8 1) (zr m2 254) (zr m2 255) (zr m2 256))) (hR : (∀ k, 0 ≤ k → k < 5 → zr m2 234 k = zr m2 252 (k + 2))) : yInv L xs m2 := by
  obtain ⟨iX, iL, ⟨iC0, iC1, iC2⟩, ⟨iK0, iK1⟩, iS, iF, iR⟩ := I
  refine ⟨?_, ?_, hC, ?_, ?_, ?_, hR⟩
  · rw [f 0 (by omega)]
    exact iX
  · rw [f 4 (by omega), f 5 (by omega), f 253 (by omega), g 9 (by first | omega | trivial), g 11 (by first | omega | trivial), g 12 (by first | omega | trivial)]
    exact iL
  · rw [f 3 (by omega), f 6 (by omega), f 7 (by omega), f 257 (by omega), f 258 (by omega), f 259 (by omega), f 260 (by omega), f 110 (by omega), g 17 (by first | omega | trivial), g 18 (by first | omega | trivial), g 19 (by first | omega | trivial), g 20 (by first | omega | trivial), g 21 (by first | omega | trivial)]
    refine ⟨iK0, ?_⟩
    rcases iK1 with h1 | ⟨h1, h2, h3, h4⟩
    · exact Or.inl h1
    · exact Or.inr ⟨h1, h2, h3, yIC_fr h4 (by omega) (fun a a0 a1 => f a (by omega))⟩
  · intro s s0 s1
    rw [f 213 (by omega), f 214 (by omega), f 215 (by omega), f 237 (by omega), f 238 (by omega), f 239 (by omega), f 250 (by omega), f (241 + s) (by omega)]
    exact yIS_mono (iS s s0 s1) hN
  · rw [h216, f 217 (by omega), f 251 (by omega), g 7 (by first | omega | trivial)]
    exact iF
theorem yInv_CFRz {L : Int} {xs : Int → Int} {m m2 : ZN} (I : yInv L xs m) (f : ∀ a : Int, a ≠ 8 ∧ a ≠ 216 ∧ a ≠ 217 ∧ a ≠ 234 ∧ a ≠ 251 ∧ a ≠ 252 ∧ a ≠ 254 ∧ a ≠ 255 ∧ a ≠ 256 ∧ ¬ (10 ≤ a ∧ a ≤ 109) ∧ ¬ (261 ≤ a ∧ a ≤ 264) ∧ a ≠ 236 ∧ ¬ (218 ≤ a ∧ a ≤ 233) ∧ a ≠ 235 ∧ a ≠ 216 ∧ a ≠ 249 ∧ ¬ (265 ≤ a ∧ a ≤ 268) → zr m2 a = zr m a) (g : ∀ j : Int, j ≠ 7 ∧ j ≠ 10 ∧ ¬ (32 ≤ j ∧ j ≤ 40) → zr m2 236 j = zr m 236 j) (hN : zr m 8 1 ≤ zr m2 8 1) (hC : ((zr m2 8 1 = zr m2 236 10 ∧ (0 ≤ zr m2 8 1 ∧ zr m2 8 1 ≤ 24) ∧ zr m2 8 2 = 0) ∧ yIC (zr m2) 10 (zr m2 8 1) (zr m2 254) (zr m2 255) (zr m2 256) ∧ yIM (zr m2) (zr m2 8 1) (zr m2 254) (zr m2 255) (zr m2 256))) (hF : (zr m2 216 1 = zr m2 236 7 ∧ (0 ≤ zr m2 216 1 ∧ zr m2 216 1 ≤ 250) ∧ ∀ j, 0 ≤ j → j < zr m2 216 1 → zr m2 217 j = zr m2 251 j ∧ 0 ≤ zr m2 217 j ∧ zr m2 217 j ≤ 255)) (hR : (∀ k, 0 ≤ k → k < 5 → zr m2 234 k = zr m2 252 (k + 2))) : yInv L xs m2 := by
  obtain ⟨iX, iL, ⟨iC0, iC1, iC2⟩, ⟨iK0, iK1⟩, iS, iF, iR⟩ := I
  refine ⟨?_, ?_, hC, ?_, ?_, hF, hR⟩
  · rw [f 0 (by omega)]
    exact iX
  · rw [f 4 (by omega), f 5 (by omega), f 253 (by omega), g 9 (by first | omega | trivial), g 11 (by first | omega | trivial), g 12 (by first | omega | trivial)]
    exact iL
  · rw [f 3 (by omega), f 6 (by omega), f 7 (by omega), f 257 (by omega), f 258 (by omega), f 259 (by omega), f 260 (by omega), f 110 (by omega), g 17 (by first | omega | trivial), g 18 (by first | omega | trivial), g 19 (by first | omega | trivial), g 20 (by first | omega | trivial), g 21 (by first | omega | trivial)]
    refine ⟨iK0, ?_⟩
    rcases iK1 with h1 | ⟨h1, h2, h3, h4⟩
    · exact Or.inl h1
    · exact Or.inr ⟨h1, h2, h3, yIC_fr h4 (by omega) (fun a a0 a1 => f a (by omega))⟩
  · intro s s0 s1
    rw [f 213 (by omega), f 214 (by omega), f 215 (by omega), f 237 (by omega), f 238 (by omega), f 239 (by omega), f 250 (by omega), f (241 + s) (by omega)]
    exact yIS_mono (iS s s0 s1) hN
theorem yInv_LFRz {L : Int} {xs : Int → Int} {m m2 : ZN} (I : yInv L xs m) (f : ∀ a : Int, a ≠ 4 ∧ a ≠ 5 ∧ a ≠ 216 ∧ a ≠ 217 ∧ a ≠ 234 ∧ a ≠ 251 ∧ a ≠ 252 ∧ a ≠ 253 ∧ a ≠ 236 ∧ ¬ (218 ≤ a ∧ a ≤ 233) ∧ a ≠ 235 ∧ a ≠ 216 ∧ a ≠ 249 ∧ ¬ (265 ≤ a ∧ a ≤ 268) → zr m2 a = zr m a) (g : ∀ j : Int, j ≠ 7 ∧ j ≠ 9 ∧ j ≠ 11 ∧ j ≠ 12 ∧ ¬ (32 ≤ j ∧ j ≤ 40) → zr m2 236 j = zr m 236 j) (hL : yIL (zr m2 4 1) (zr m2 236 9) (zr m2 4 2) (zr m2 236 11) (zr m2 4 3) (zr m2 236 12) (zr m2 5) (zr m2 253)) (hF : (zr m2 216 1 = zr m2 236 7 ∧ (0 ≤ zr m2 216 1 ∧ zr m2 216 1 ≤ 250) ∧ ∀ j, 0 ≤ j → j < zr m2 216 1 → zr m2 217 j = zr m2 251 j ∧ 0 ≤ zr m2 217 j ∧ zr m2 217 j ≤ 255)) (hR : (∀ k, 0 ≤ k → k < 5 → zr m2 234 k = zr m2 252 (k + 2))) : yInv L xs m2 := by
  obtain ⟨iX, iL, ⟨iC0, iC1, iC2⟩, ⟨iK0, iK1⟩, iS, iF, iR⟩ := I
  refine ⟨?_, hL, ?_, ?_, ?_, hF, hR⟩
  · rw [f 0 (by omega)]
    exact iX
  · rw [f 8 (by omega), f 254 (by omega), f 255 (by omega), f 256 (by omega), g 10 (by first | omega | trivial)]
    exact ⟨iC0, yIC_fr iC1 (by omega) (fun a a0 a1 => f a (by omega)), yIM_fr iC2 (fun a a0 a1 => f a (by omega))⟩
  · rw [f 3 (by omega), f 6 (by omega), f 7 (by omega), f 257 (by omega), f 258 (by omega), f 259 (by omega), f 260 (by omega), f 110 (by omega), g 17 (by first | omega | trivial), g 18 (by first | omega | trivial), g 19 (by first | omega | trivial), g 20 (by first | omega | trivial), g 21 (by first | omega | trivial)]
    refine ⟨iK0, ?_⟩
    rcases iK1 with h1 | ⟨h1, h2, h3, h4⟩
    · exact Or.inl h1
    · exact Or.inr ⟨h1, h2, h3, yIC_fr h4 (by omega) (fun a a0 a1 => f a (by omega))⟩
  · intro s s0 s1
    rw [f 213 (by omega), f 214 (by omega), f 215 (by omega), f 237 (by omega), f 238 (by omega), f 239 (by omega), f 250 (by omega), f 8 (by omega), f (241 + s) (by omega)]
    exact iS s s0 s1
section YM
variable {d : Nat} {m : ZN}
theorem c_231 (K : ZN → Prop) : zcV d 231 [zA 236] m K = K (zcc (zsn m 236 39 (-1)) 268 (fun j => if 0 ≤ j ∧ j < 8 then -1 else zr m 268 j)) := by
  have np : ∀ j, znp' 268 j = true := ynl rfl
  refine zcV_eq (w_231 ?_) K
  refine yfill (lo := 0) (n := 8) (fun _ => -1) (zr m 268) np (fun j => by rw [yr_sc (by decide)]) (fun i M => zwpN d 231 7 [some (zA 236), some (zI i)] [] M _) (by decide) (fun i i0 i1 hW => ?_) ?_
  · refine w_231_7 ?_
    rw [if_pos i1]
    simp (disch := first | trivial | assumption | omega | exact ynl rfl _ | exact znp_o rfl | rfl | (simp (disch := first | decide | omega) only [yfc, yr_so, yr_ss, yfcc, yr_cs]; first | assumption | omega)) only [yck_of, yb_id, yPI_some, yPJ_some, yPA_some, yPV_none, yfc, yr_so, yr_ss, yfcc, yr_cs, ybif_t, yrd_1, yrd_2, yfcl]
    simp only [Int.zero_add] at hW ⊢
    exact hW
  · refine w_231_7 ?_
    rw [if_neg (by decide)]
    rfl
/-- the rows of a new condition are written -/
def ymk (m : ZN) (N kd : Int) : ZN := zsn (zcc (zsn (zsn m 254 N kd) 255 N (zr m 236 39)) 256 (fun j => if 8 * N ≤ j ∧ j < 8 * N + 8 then zr m 268 (j - 8 * N) else zr m 256 j)) 236 37 (N + 1)
theorem c_232 {N kd : Int} (hN : zr m 236 37 = N) (n0 : 0 ≤ N) (n1 : N < 24) (K : Int → ZN → Prop) : zcI d 232 [zA 236, zI kd] m K = K N (ymk m N kd) := by
  have np : ∀ j, znp' 256 j = true := ynl rfl
  refine zcI_eq (w_232 ?_) K
  rw [hN, if_pos n1]
  simp (disch := first | trivial | assumption | omega | exact ynl rfl _ | exact znp_o rfl | rfl | (simp (disch := first | decide | omega) only [yfc, yr_so, yr_ss, yfcc, yr_cs]; first | assumption | omega)) only [yck_of, yb_id, yPI_some, yPJ_some, yPA_some, yPV_none, yfc, yr_so, yr_ss, yfcc, yr_cs, ybif_t, yrd_1, yrd_2, yfcl]
  simp only [hN]
  refine yfill (lo := 8 * N) (n := 8) (fun j => zr m 268 (j - 8 * N)) (zr m 256) np (fun j => by rw [yr_sc (by decide), yr_sc (by decide)]) (fun i M => zwpN d 232 34 [some (zA 236), some (zI kd), some (zI i)] [] M _) (by decide) (fun i i0 i1 hW => ?_) ?_
  · refine w_232_34 ?_
    rw [if_pos i1]
    simp (disch := first | trivial | assumption | omega | exact ynl rfl _ | exact znp_o rfl | rfl | (simp (disch := first | decide | omega) only [yfc, yr_so, yr_ss, yfcc, yr_cs]; first | assumption | omega)) only [yck_of, yb_id, yPI_some, yPJ_some, yPA_some, yPV_none, yfc, yr_so, yr_ss, yfcc, yr_cs, ybif_t, yrd_1, yrd_2, yfcl]
    simp only [hN]
    rw [show 8 * N + i - 8 * N = i by omega] at hW
    exact hW
  · refine w_232_34 ?_
    rw [if_neg (by decide)]
    simp (disch := first | trivial | assumption | omega | exact ynl rfl _ | exact znp_o rfl | rfl | (simp (disch := first | decide | omega) only [yfc, yr_so, yr_ss, yfcc, yr_cs]; first | assumption | omega)) only [yck_of, yb_id, yPI_some, yPJ_some, yPA_some, yPV_none, yfc, yr_so, yr_ss, yfcc, yr_cs, ybif_t, yrd_1, yrd_2, yfcl]
    simp only [hN]
    exact ⟨by omega, rfl⟩
theorem c_232f {N kd : Int} (hN : zr m 236 37 = N) (n0 : 24 ≤ N) (n1 : N ≤ 1000) (K : Int → ZN → Prop) : zcI d 232 [zA 236, zI kd] m K = K N (zsn m 236 37 (N + 1)) := by
  refine zcI_eq (w_232 ?_) K
  rw [hN, if_neg (by omega)]
  simp (disch := first | trivial | assumption | omega | exact ynl rfl _ | exact znp_o rfl | rfl | (simp (disch := first | decide | omega) only [yfc, yr_so, yr_ss, yfcc, yr_cs]; first | assumption | omega)) only [yck_of, yb_id, yPI_some, yPJ_some, yPA_some, yPV_none, yfc, yr_so, yr_ss, yfcc, yr_cs, ybif_t, yrd_1, yrd_2, yfcl]
  exact ⟨by omega, trivial⟩
end YM
