/-! ===== frames of the invariant, by program ===== -/
theorem yIS_mono {h z : Int} {e : Int → Int} {sh so si sn : Int} {e' : Int → Int} {N N' : Int} (q : yIS h z e sh so si sn e' N) (hN : N ≤ N') : yIS h z e sh so si sn e' N' := by
  rcases q with q | q | q
  · exact Or.inl q
  · exact Or.inr (Or.inl q)
  · exact Or.inr (Or.inr ⟨q.1, q.2.1, q.2.2.1, by omega⟩)
theorem yInv_L {L : Int} {xs : Int → Int} {m m2 : ZN} (I : yInv L xs m) (f : ∀ a : Int, a ≠ 4 ∧ a ≠ 5 ∧ a ≠ 253 ∧ a ≠ 236 → zr m2 a = zr m a) (g : ∀ j : Int, j ≠ 9 ∧ j ≠ 11 ∧ j ≠ 12 → zr m2 236 j = zr m 236 j) (hL : yIL (zr m2 4 1) (zr m2 236 9) (zr m2 4 2) (zr m2 236 11) (zr m2 4 3) (zr m2 236 12) (zr m2 5) (zr m2 253)) : yInv L xs m2 := by
  obtain ⟨iX, iL, ⟨iC0, iC1, iC2⟩, ⟨iK0, iK1⟩, iS, iF, iR⟩ := I
  refine ⟨?_, hL, ?_, ?_, ?_, ?_, ?_⟩
  · rw [f 0 (by omega)]
    exact iX
  · rw [f 8 (by omega), f 254 (by omega), f 255 (by omega), f 256 (by omega), g 10 (by first | omega | trivial)]
    exact ⟨iC0, yIC_fr iC1 (by omega) (fun a a0 a1 => f a (by omega)), yIM_fr iC2 (fun a a0 a1 => f a (by omega))⟩
  · rw [f 3 (by omega), f 6 (by omega), f 7 (by omega), f 257 (by omega), f 258 (by omega), f 259 (by omega), f 260 (by omega), f 110 (by omega), g 17 (by first | omega | trivial), g 18 (by first | omega | trivial), g 19 (by first | omega | trivial), g 20 (by first | omega | trivial), g 21 (by first | omega | trivial)]
    refine ⟨iK0, ?_⟩
    rcases iK1 with h1 | ⟨h1, h2, h3, h4⟩
    · exact Or.inl h1
    · exact Or.inr ⟨h1, h2, h3, yIC_fr h4 (by omega) (fun a a0 a1 => f a (by omega))⟩
  · intro s s0 s1
    rw [f 213 (by omega), f 214 (by omega), f 215 (by omega), f 237 (by omega), f 238 (by omega), f 239 (by omega), f 250 (by omega), f 8 (by omega), f (241 + s) (by omega)]
    exact iS s s0 s1
  · rw [f 216 (by omega), f 217 (by omega), f 251 (by omega), g 7 (by first | omega | trivial)]
    exact iF
  · rw [f 234 (by omega), f 252 (by omega)]
    exact iR
theorem yInv_C {L : Int} {xs : Int → Int} {m m2 : ZN} (I : yInv L xs m) (f : ∀ a : Int, a ≠ 8 ∧ a ≠ 254 ∧ a ≠ 255 ∧ a ≠ 256 ∧ ¬ (10 ≤ a ∧ a ≤ 109) ∧ ¬ (261 ≤ a ∧ a ≤ 264) ∧ a ≠ 236 → zr m2 a = zr m a) (g : ∀ j : Int, j ≠ 10 → zr m2 236 j = zr m 236 j) (hN : zr m 8 1 ≤ zr m2 8 1) (hC : ((zr m2 8 1 = zr m2 236 10 ∧ (0 ≤ zr m2 8 1 ∧ zr m2 8 1 ≤ 24) ∧ zr m2 8 2 = 0) ∧ yIC (zr m2) 10 (zr m2 8 1) (zr m2 254) (zr m2 255) (zr m2 256) ∧ yIM (zr m2) (zr m2 8 1) (zr m2 254) (zr m2 255) (zr m2 256))) : yInv L xs m2 := by
  obtain ⟨iX, iL, ⟨iC0, iC1, iC2⟩, ⟨iK0, iK1⟩, iS, iF, iR⟩ := I
  refine ⟨?_, ?_, hC, ?_, ?_, ?_, ?_⟩
  · rw [f 0 (by omega)]
    exact iX
  · rw [f 4 (by omega), f 5 (by omega), f 253 (by omega), g 9 (by first | omega | trivial), g 11 (by first | omega | trivial), g 12 (by first | omega | trivial)]
    exact iL
  · rw [f 3 (by omega), f 6 (by omega), f 7 (by omega), f 257 (by omega), f 258 (by omega), f 259 (by omega), f 260 (by omega), f 110 (by omega), g 17 (by first | omega | trivial), g 18 (by first | omega | trivial), g 19 (by first | omega | trivial), g 20 (by first | omega | trivial), g 21 (by first | omega | trivial)]
    refine ⟨iK0, ?_⟩
    rcases iK1 with h1 | ⟨h1, h2, h3, h4⟩
    · exact Or.inl h1
    · exact Or.inr ⟨h1, h2, h3, yIC_fr h4 (by omega) (fun a a0 a1 => f a (by omega))⟩
  · intro s s0 s1
    rw [f 213 (by omega), f 214 (by omega), f 215 (by omega), f 237 (by omega), f 238 (by omega), f 239 (by omega), f 250 (by omega), f (241 + s) (by omega)]
    exact yIS_mono (iS s s0 s1) hN
  · rw [f 216 (by omega), f 217 (by omega), f 251 (by omega), g 7 (by first | omega | trivial)]
    exact iF
  · rw [f 234 (by omega), f 252 (by omega)]
    exact iR
theorem yInv_K {L : Int} {xs : Int → Int} {m m2 : ZN} (I : yInv L xs m) (f : ∀ a : Int, a ≠ 3 ∧ a ≠ 6 ∧ a ≠ 7 ∧ a ≠ 110 ∧ a ≠ 257 ∧ a ≠ 258 ∧ a ≠ 259 ∧ a ≠ 260 ∧ ¬ (112 ≤ a ∧ a ≤ 211) ∧ a ≠ 236 → zr m2 a = zr m a) (g : ∀ j : Int, j ≠ 17 ∧ j ≠ 18 ∧ j ≠ 19 ∧ j ≠ 20 ∧ j ≠ 21 → zr m2 236 j = zr m 236 j) (hK : (zr m2 3 11 = zr m2 236 17 ∧ (zr m2 3 11 = 0 ∨ zr m2 3 11 = 1 ∧ yIL (zr m2 6 1) (zr m2 236 18) (zr m2 6 2) (zr m2 236 20) (zr m2 6 3) (zr m2 236 21) (zr m2 7) (zr m2 257) ∧ (zr m2 110 1 = zr m2 236 19 ∧ 0 ≤ zr m2 110 1 ∧ zr m2 110 1 ≤ 24) ∧ yIC (zr m2) 112 (zr m2 110 1) (zr m2 258) (zr m2 259) (zr m2 260)))) : yInv L xs m2 := by
  obtain ⟨iX, iL, ⟨iC0, iC1, iC2⟩, ⟨iK0, iK1⟩, iS, iF, iR⟩ := I
  refine ⟨?_, ?_, ?_, hK, ?_, ?_, ?_⟩
  · rw [f 0 (by omega)]
    exact iX
  · rw [f 4 (by omega), f 5 (by omega), f 253 (by omega), g 9 (by first | omega | trivial), g 11 (by first | omega | trivial), g 12 (by first | omega | trivial)]
    exact iL
  · rw [f 8 (by omega), f 254 (by omega), f 255 (by omega), f 256 (by omega), g 10 (by first | omega | trivial)]
    exact ⟨iC0, yIC_fr iC1 (by omega) (fun a a0 a1 => f a (by omega)), yIM_fr iC2 (fun a a0 a1 => f a (by omega))⟩
  · intro s s0 s1
    rw [f 213 (by omega), f 214 (by omega), f 215 (by omega), f 237 (by omega), f 238 (by omega), f 239 (by omega), f 250 (by omega), f 8 (by omega), f (241 + s) (by omega)]
    exact iS s s0 s1
  · rw [f 216 (by omega), f 217 (by omega), f 251 (by omega), g 7 (by first | omega | trivial)]
    exact iF
  · rw [f 234 (by omega), f 252 (by omega)]
    exact iR
theorem yInv_S {L : Int} {xs : Int → Int} {m m2 : ZN} (I : yInv L xs m) (f : ∀ a : Int, a ≠ 213 ∧ a ≠ 214 ∧ a ≠ 215 ∧ a ≠ 237 ∧ a ≠ 238 ∧ a ≠ 239 ∧ a ≠ 250 ∧ ¬ (241 ≤ a ∧ a ≤ 248) ∧ a ≠ 236 → zr m2 a = zr m a) (g : ∀ j : Int, True → zr m2 236 j = zr m 236 j) (hS : (∀ s, 0 ≤ s → s < 8 → yIS (zr m2 213 s) (zr m2 214 s) (fun i => zr m2 215 (40 * s + i)) (zr m2 237 s) (zr m2 238 s) (zr m2 239 s) (zr m2 250 s) (zr m2 (241 + s)) (zr m2 8 1))) : yInv L xs m2 := by
  obtain ⟨iX, iL, ⟨iC0, iC1, iC2⟩, ⟨iK0, iK1⟩, iS, iF, iR⟩ := I
  refine ⟨?_, ?_, ?_, ?_, hS, ?_, ?_⟩
  · rw [f 0 (by omega)]
    exact iX
  · rw [f 4 (by omega), f 5 (by omega), f 253 (by omega), g 9 (by first | omega | trivial), g 11 (by first | omega | trivial), g 12 (by first | omega | trivial)]
    exact iL
  · rw [f 8 (by omega), f 254 (by omega), f 255 (by omega), f 256 (by omega), g 10 (by first | omega | trivial)]
    exact ⟨iC0, yIC_fr iC1 (by omega) (fun a a0 a1 => f a (by omega)), yIM_fr iC2 (fun a a0 a1 => f a (by omega))⟩
  · rw [f 3 (by omega), f 6 (by omega), f 7 (by omega), f 257 (by omega), f 258 (by omega), f 259 (by omega), f 260 (by omega), f 110 (by omega), g 17 (by first | omega | trivial), g 18 (by first | omega | trivial), g 19 (by first | omega | trivial), g 20 (by first | omega | trivial), g 21 (by first | omega | trivial)]
    refine ⟨iK0, ?_⟩
    rcases iK1 with h1 | ⟨h1, h2, h3, h4⟩
    · exact Or.inl h1
    · exact Or.inr ⟨h1, h2, h3, yIC_fr h4 (by omega) (fun a a0 a1 => f a (by omega))⟩
  · rw [f 216 (by omega), f 217 (by omega), f 251 (by omega), g 7 (by first | omega | trivial)]
    exact iF
  · rw [f 234 (by omega), f 252 (by omega)]
    exact iR
theorem yInv_F {L : Int} {xs : Int → Int} {m m2 : ZN} (I : yInv L xs m) (f : ∀ a : Int, a ≠ 216 ∧ a ≠ 217 ∧ a ≠ 251 ∧ a ≠ 236 → zr m2 a = zr m a) (g : ∀ j : Int, j ≠ 7 → zr m2 236 j = zr m 236 j) (hF : (zr m2 216 1 = zr m2 236 7 ∧ (0 ≤ zr m2 216 1 ∧ zr m2 216 1 ≤ 250) ∧ ∀ j, 0 ≤ j → j < zr m2 216 1 → zr m2 217 j = zr m2 251 j ∧ 0 ≤ zr m2 217 j ∧ zr m2 217 j ≤ 255)) : yInv L xs m2 := by
  obtain ⟨iX, iL, ⟨iC0, iC1, iC2⟩, ⟨iK0, iK1⟩, iS, iF, iR⟩ := I
  refine ⟨?_, ?_, ?_, ?_, ?_, hF, ?_⟩
  · rw [f 0 (by omega)]
    exact iX
  · rw [f 4 (by omega), f 5 (by omega), f 253 (by omega), g 9 (by first | omega | trivial), g 11 (by first | omega | trivial), g 12 (by first | omega | trivial)]
    exact iL
  · rw [f 8 (by omega), f 254 (by omega), f 255 (by omega), f 256 (by omega), g 10 (by first | omega | trivial)]
    exact ⟨iC0, yIC_fr iC1 (by omega) (fun a a0 a1 => f a (by omega)), yIM_fr iC2 (fun a a0 a1 => f a (by omega))⟩
  · rw [f 3 (by omega), f 6 (by omega), f 7 (by omega), f 257 (by omega), f 258 (by omega), f 259 (by omega), f 260 (by omega), f 110 (by omega), g 17 (by first | omega | trivial), g 18 (by first | omega | trivial), g 19 (by first | omega | trivial), g 20 (by first | omega | trivial), g 21 (by first | omega | trivial)]
    refine ⟨iK0, ?_⟩
    rcases iK1 with h1 | ⟨h1, h2, h3, h4⟩
    · exact Or.inl h1
    · exact Or.inr ⟨h1, h2, h3, yIC_fr h4 (by omega) (fun a a0 a1 => f a (by omega))⟩
  · intro s s0 s1
    rw [f 213 (by omega), f 214 (by omega), f 215 (by omega), f 237 (by omega), f 238 (by omega), f 239 (by omega), f 250 (by omega), f 8 (by omega), f (241 + s) (by omega)]
    exact iS s s0 s1
  · rw [f 234 (by omega), f 252 (by omega)]
    exact iR
theorem yInv_R {L : Int} {xs : Int → Int} {m m2 : ZN} (I : yInv L xs m) (f : ∀ a : Int, a ≠ 234 ∧ a ≠ 252 ∧ a ≠ 236 → zr m2 a = zr m a) (g : ∀ j : Int, True → zr m2 236 j = zr m 236 j) (hR : (∀ k, 0 ≤ k → k < 5 → zr m2 234 k = zr m2 252 (k + 2))) : yInv L xs m2 := by
  obtain ⟨iX, iL, ⟨iC0, iC1, iC2⟩, ⟨iK0, iK1⟩, iS, iF, iR⟩ := I
  refine ⟨?_, ?_, ?_, ?_, ?_, ?_, hR⟩
  · rw [f 0 (by omega)]
    exact iX
  · rw [f 4 (by omega), f 5 (by omega), f 253 (by omega), g 9 (by first | omega | trivial), g 11 (by first | omega | trivial), g 12 (by first | omega | trivial)]
    exact iL
  · rw [f 8 (by omega), f 254 (by omega), f 255 (by omega), f 256 (by omega), g 10 (by first | omega | trivial)]
    exact ⟨iC0, yIC_fr iC1 (by omega) (fun a a0 a1 => f a (by omega)), yIM_fr iC2 (fun a a0 a1 => f a (by omega))⟩
  · rw [f 3 (by omega), f 6 (by omega), f 7 (by omega), f 257 (by omega), f 258 (by omega), f 259 (by omega), f 260 (by omega), f 110 (by omega), g 17 (by first | omega | trivial), g 18 (by first | omega | trivial), g 19 (by first | omega | trivial), g 20 (by first | omega | trivial), g 21 (by first | omega | trivial)]
    refine ⟨iK0, ?_⟩
    rcases iK1 with h1 | ⟨h1, h2, h3, h4⟩
    · exact Or.inl h1
    · exact Or.inr ⟨h1, h2, h3, yIC_fr h4 (by omega) (fun a a0 a1 => f a (by omega))⟩
  · intro s s0 s1
    rw [f 213 (by omega), f 214 (by omega), f 215 (by omega), f 237 (by omega), f 238 (by omega), f 239 (by omega), f 250 (by omega), f 8 (by omega), f (241 + s) (by omega)]
    exact iS s s0 s1
  · rw [f 216 (by omega), f 217 (by omega), f 251 (by omega), g 7 (by first | omega | trivial)]
    exact iF
theorem yInv_CS {L : Int} {xs : Int → Int} {m m2 : ZN} (I : yInv L xs m) (f : ∀ a : Int, a ≠ 8 ∧ a ≠ 213 ∧ a ≠ 214 ∧ a ≠ 215 ∧ a ≠ 237 ∧ a ≠ 238 ∧ a ≠ 239 ∧ a ≠ 250 ∧ a ≠ 254 ∧ a ≠ 255 ∧ a ≠ 256 ∧ ¬ (10 ≤ a ∧ a ≤ 109) ∧ ¬ (261 ≤ a ∧ a ≤ 264) ∧ ¬ (241 ≤ a ∧ a ≤ 248) ∧ a ≠ 236 → zr m2 a = zr m a) (g : ∀ j : Int, j ≠ 10 → zr m2 236 j = zr m 236 j) (hC : ((zr m2 8 1 = zr m2 236 10 ∧ (0 ≤ zr m2 8 1 ∧ zr m2 8 1 ≤ 24) ∧ zr m2 8 2 = 0) ∧ yIC (zr m2) 10 (zr m2 8 1) (zr m2 254) (zr m2 255) (zr m2 256) ∧ yIM (zr m2) (zr m2 8 1) (zr m2 254) (zr m2 255) (zr m2 256))) (hS : (∀ s, 0 ≤ s → s < 8 → yIS (zr m2 213 s) (zr m2 214 s) (fun i => zr m2 215 (40 * s + i)) (zr m2 237 s) (zr m2 238 s) (zr m2 239 s) (zr m2 250 s) (zr m2 (241 + s)) (zr m2 8 1))) : yInv L xs m2 := by
  obtain ⟨iX, iL, ⟨iC0, iC1, iC2⟩, ⟨iK0, iK1⟩, iS, iF, iR⟩ := I
  refine ⟨?_, ?_, hC, ?_, hS, ?_, ?_⟩
  · rw [f 0 (by omega)]
    exact iX
  · rw [f 4 (by omega), f 5 (by omega), f 253 (by omega), g 9 (by first | omega | trivial), g 11 (by first | omega | trivial), g 12 (by first | omega | trivial)]
    exact iL
  · rw [f 3 (by omega), f 6 (by omega), f 7 (by omega), f 257 (by omega), f 258 (by omega), f 259 (by omega), f 260 (by omega), f 110 (by omega), g 17 (by first | omega | trivial), g 18 (by first | omega | trivial), g 19 (by first | omega | trivial), g 20 (by first | omega | trivial), g 21 (by first | omega | trivial)]
    refine ⟨iK0, ?_⟩
    rcases iK1 with h1 | ⟨h1, h2, h3, h4⟩
    · exact Or.inl h1
    · exact Or.inr ⟨h1, h2, h3, yIC_fr h4 (by omega) (fun a a0 a1 => f a (by omega))⟩
  · rw [f 216 (by omega), f 217 (by omega), f 251 (by omega), g 7 (by first | omega | trivial)]
    exact iF
  · rw [f 234 (by omega), f 252 (by omega)]
    exact iR
theorem yInv_LF {L : Int} {xs : Int → Int} {m m2 : ZN} (I : yInv L xs m) (f : ∀ a : Int, a ≠ 4 ∧ a ≠ 5 ∧ a ≠ 216 ∧ a ≠ 217 ∧ a ≠ 251 ∧ a ≠ 253 ∧ a ≠ 236 → zr m2 a = zr m a) (g : ∀ j : Int, j ≠ 7 ∧ j ≠ 9 ∧ j ≠ 11 ∧ j ≠ 12 → zr m2 236 j = zr m 236 j) (hL : yIL (zr m2 4 1) (zr m2 236 9) (zr m2 4 2) (zr m2 236 11) (zr m2 4 3) (zr m2 236 12) (zr m2 5) (zr m2 253)) (hF : (zr m2 216 1 = zr m2 236 7 ∧ (0 ≤ zr m2 216 1 ∧ zr m2 216 1 ≤ 250) ∧ ∀ j, 0 ≤ j → j < zr m2 216 1 → zr m2 217 j = zr m2 251 j ∧ 0 ≤ zr m2 217 j ∧ zr m2 217 j ≤ 255)) : yInv L xs m2 := by
  obtain ⟨iX, iL, ⟨iC0, iC1, iC2⟩, ⟨iK0, iK1⟩, iS, iF, iR⟩ := I
  refine ⟨?_, hL, ?_, ?_, ?_, hF, ?_⟩
  · rw [f 0 (by omega)]
    exact iX
  · rw [f 8 (by omega), f 254 (by omega), f 255 (by omega), f 256 (by omega), g 10 (by first | omega | trivial)]
    exact ⟨iC0, yIC_fr iC1 (by omega) (fun a a0 a1 => f a (by omega)), yIM_fr iC2 (fun a a0 a1 => f a (by omega))⟩
  · rw [f 3 (by omega), f 6 (by omega), f 7 (by omega), f 257 (by omega), f 258 (by omega), f 259 (by omega), f 260 (by omega), f 110 (by omega), g 17 (by first | omega | trivial), g 18 (by first | omega | trivial), g 19 (by first | omega | trivial), g 20 (by first | omega | trivial), g 21 (by first | omega | trivial)]
    refine ⟨iK0, ?_⟩
    rcases iK1 with h1 | ⟨h1, h2, h3, h4⟩
    · exact Or.inl h1
    · exact Or.inr ⟨h1, h2, h3, yIC_fr h4 (by omega) (fun a a0 a1 => f a (by omega))⟩
  · intro s s0 s1
    rw [f 213 (by omega), f 214 (by omega), f 215 (by omega), f 237 (by omega), f 238 (by omega), f 239 (by omega), f 250 (by omega), f 8 (by omega), f (241 + s) (by omega)]
    exact iS s s0 s1
  · rw [f 234 (by omega), f 252 (by omega)]
    exact iR
theorem yInv_LCS {L : Int} {xs : Int → Int} {m m2 : ZN} (I : yInv L xs m) (f : ∀ a : Int, a ≠ 4 ∧ a ≠ 5 ∧ a ≠ 8 ∧ a ≠ 213 ∧ a ≠ 214 ∧ a ≠ 215 ∧ a ≠ 237 ∧ a ≠ 238 ∧ a ≠ 239 ∧ a ≠ 250 ∧ a ≠ 253 ∧ a ≠ 254 ∧ a ≠ 255 ∧ a ≠ 256 ∧ ¬ (10 ≤ a ∧ a ≤ 109) ∧ ¬ (261 ≤ a ∧ a ≤ 264) ∧ ¬ (241 ≤ a ∧ a ≤ 248) ∧ a ≠ 236 → zr m2 a = zr m a) (g : ∀ j : Int, j ≠ 9 ∧ j ≠ 10 ∧ j ≠ 11 ∧ j ≠ 12 → zr m2 236 j = zr m 236 j) (hL : yIL (zr m2 4 1) (zr m2 236 9) (zr m2 4 2) (zr m2 236 11) (zr m2 4 3) (zr m2 236 12) (zr m2 5) (zr m2 253)) (hC : ((zr m2 8 1 = zr m2 236 10 ∧ (0 ≤ zr m2 8 1 ∧ zr m2 8 1 ≤ 24) ∧ zr m2 8 2 = 0) ∧ yIC (zr m2) 10 (zr m2 8 1) (zr m2 254) (zr m2 255) (zr m2 256) ∧ yIM (zr m2) (zr m2 8 1) (zr m2 254) (zr m2 255) (zr m2 256))) (hS : (∀ s, 0 ≤ s → s < 8 → yIS (zr m2 213 s) (zr m2 214 s) (fun i => zr m2 215 (40 * s + i)) (zr m2 237 s) (zr m2 238 s) (zr m2 239 s) (zr m2 250 s) (zr m2 (241 + s)) (zr m2 8 1))) : yInv L xs m2 := by
  obtain ⟨iX, iL, ⟨iC0, iC1, iC2⟩, ⟨iK0, iK1⟩, iS, iF, iR⟩ := I
  refine ⟨?_, hL, hC, ?_, hS, ?_, ?_⟩
  · rw [f 0 (by omega)]
    exact iX
  · rw [f 3 (by omega), f 6 (by omega), f 7 (by omega), f 257 (by omega), f 258 (by omega), f 259 (by omega), f 260 (by omega), f 110 (by omega), g 17 (by first | omega | trivial), g 18 (by first | omega | trivial), g 19 (by first | omega | trivial), g 20 (by first | omega | trivial), g 21 (by first | omega | trivial)]
    refine ⟨iK0, ?_⟩
    rcases iK1 with h1 | ⟨h1, h2, h3, h4⟩
    · exact Or.inl h1
    · exact Or.inr ⟨h1, h2, h3, yIC_fr h4 (by omega) (fun a a0 a1 => f a (by omega))⟩
  · rw [f 216 (by omega), f 217 (by omega), f 251 (by omega), g 7 (by first | omega | trivial)]
    exact iF
  · rw [f 234 (by omega), f 252 (by omega)]
    exact iR
theorem yInv_CF {L : Int} {xs : Int → Int} {m m2 : ZN} (I : yInv L xs m) (f : ∀ a : Int, a ≠ 8 ∧ a ≠ 216 ∧ a ≠ 217 ∧ a ≠ 251 ∧ a ≠ 254 ∧ a ≠ 255 ∧ a ≠ 256 ∧ ¬ (10 ≤ a ∧ a ≤ 109) ∧ ¬ (261 ≤ a ∧ a ≤ 264) ∧ a ≠ 236 → zr m2 a = zr m a) (g : ∀ j : Int, j ≠ 7 ∧ j ≠ 10 → zr m2 236 j = zr m 236 j) (hN : zr m 8 1 ≤ zr m2 8 1) (hC : ((zr m2 8 1 = zr m2 236 10 ∧ (0 ≤ zr m2 8 1 ∧ zr m2 8 1 ≤ 24) ∧ zr m2 8 2 = 0) ∧ yIC (zr m2) 10 (zr m2 8 1) (zr m2 254) (zr m2 255) (zr m2 256) ∧ yIM (zr m2) (zr m2 8 1) (zr m2 254) (zr m2 255) (zr m2 256))) (hF : (zr m2 216 1 = zr m2 236 7 ∧ (0 ≤ zr m2 216 1 ∧ zr m2 216 1 ≤ 250) ∧ ∀ j, 0 ≤ j → j < zr m2 216 1 → zr m2 217 j = zr m2 251 j ∧ 0 ≤ zr m2 217 j ∧ zr m2 217 j ≤ 255)) : yInv L xs m2 := by
  obtain ⟨iX, iL, ⟨iC0, iC1, iC2⟩, ⟨iK0, iK1⟩, iS, iF, iR⟩ := I
  refine ⟨?_, ?_, hC, ?_, ?_, hF, ?_⟩
  · rw [f 0 (by omega)]
    exact iX
  · rw [f 4 (by omega), f 5 (by omega), f 253 (by omega), g 9 (by first | omega | trivial), g 11 (by first | omega | trivial), g 12 (by first | omega | trivial)]
    exact iL
  · rw [f 3 (by omega), f 6 (by omega), f 7 (by omega), f 257 (by omega), f 258 (by omega), f 259 (by omega), f 260 (by omega), f 110 (by omega), g 17 (by first | omega | trivial), g 18 (by first | omega | trivial), g 19 (by first | omega | trivial), g 20 (by first | omega | trivial), g 21 (by first | omega | trivial)]
    refine ⟨iK0, ?_⟩
    rcases iK1 with h1 | ⟨h1, h2, h3, h4⟩
    · exact Or.inl h1
    · exact Or.inr ⟨h1, h2, h3, yIC_fr h4 (by omega) (fun a a0 a1 => f a (by omega))⟩
  · intro s s0 s1
    rw [f 213 (by omega), f 214 (by omega), f 215 (by omega), f 237 (by omega), f 238 (by omega), f 239 (by omega), f 250 (by omega), f (241 + s) (by omega)]
    exact yIS_mono (iS s s0 s1) hN
  · rw [f 234 (by omega), f 252 (by omega)]
    exact iR
theorem c_191 {d : Nat} {m : ZN} {x : Int} (h1 : -106 ≤ x) (h2 : x ≤ -102) (K : Int → ZN → Prop) : zcI d 191 [zA 236, zI x] m K = K x (zsn m 252 (-x - 100) (zb (zr m 252 (-x - 100) + 1))) := by
  refine zcI_eq (w_191 ?_) K
  simp (disch := first | trivial | assumption | omega | exact ynl rfl _ | exact znp_o rfl | rfl | (simp (disch := first | decide | omega) only [yfc, yr_so, yr_ss, yfcc, yr_cs]; first | assumption | omega)) only [yck_of, yb_id, yPI_some, yPJ_some, yPA_some, yPV_none, yfc, yr_so, yr_ss, yfcc, yr_cs, ybif_t, yrd_1, yrd_2, and_self]
theorem p_ref {L : Int} {xs : Int → Int} {m : ZN} {x : Int} {Q : ZN → Prop} (h1 : -106 ≤ x) (h2 : x ≤ -102) (I : yInv L xs m) (hQ : ∀ m2, yInv L xs m2 → Q m2) : Q (zsn (zsn m 234 (-102 - x) (zb (zr m 234 (-102 - x) + 1))) 252 (-x - 100) (zb (zr m 252 (-x - 100) + 1))) := by
  refine hQ _ (yInv_R I (fun a ha => ?_) (fun j hj => ?_) ?_)
  · rw [yfc (by omega), yfc (by omega)]
  · rw [yr_sc (by omega), yr_sc (by omega)]
  · intro k k0 k1
    have hr := I.2.2.2.2.2.2 k k0 k1
    have e1 : ∀ j, znp' 234 j = true := ynl rfl
    have e2 : ∀ j, znp' 252 j = true := ynl rfl
    rw [yr_sc (by decide), yr_sa (e1 _), yr_sa (e2 _), yr_sc (by decide)]
    by_cases q : k = -102 - x
    · subst q
      rw [if_pos rfl, if_pos (by omega), hr, show -102 - x + 2 = -x - 100 by omega]
    · rw [if_neg q, if_neg (by omega), hr]
