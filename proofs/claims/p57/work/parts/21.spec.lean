/-! ===== what the document's words come to, as plain functions ===== -/
def ydig (key p : Int) : Int := if p = 0 then key / 100 else if p = 1 then key / 10 % 10 else key % 10
def yhold (s v w : Int) : Int := if s = 0 then (if v < w then 1 else 0) else if s = 1 then (if v = w then 1 else 0) else if s = 2 then (if w < v then 1 else 0) else (if v = w then 0 else 1)
/-- by less and greater, from the k-th on (n left) -/
def yord (s : Int) (a : Int → Int) (key : Int) : Nat → Int → Int
  | 0, _ => 0
  | n + 1, k => if ydig key (a (1 + 2 * k)) = 0 then 2 else if ydig key (a (1 + 2 * k)) = a (2 + 2 * k) then yord s a key n (k + 1) else yhold s (ydig key (a (1 + 2 * k))) (a (2 + 2 * k))
/-- by equal and its opposite: what the first k come to -/
def yequ (a : Int → Int) (key : Int) : Nat → Int
  | 0 => 1
  | n + 1 => if ydig key (a (1 + 2 * n)) ≠ 0 ∧ ydig key (a (1 + 2 * n)) ≠ a (2 + 2 * n) then 0 else if ydig key (a (1 + 2 * n)) = 0 ∧ yequ a key n = 1 then 2 else yequ a key n
def yopp (x : Int) : Int := if x = 2 then 2 else if x = 1 then 0 else 1
def yleaf (kd sg : Int) (a : Int → Int) (key : Int) : Int :=
  if kd = 2 then (if ydig key (a 0) = 0 then 1 else 0)
  else if kd = 5 then (if sg = 0 ∨ sg = 2 then yord sg a key (a 0).toNat 0 else if sg = 1 then yequ a key (a 0).toNat else yopp (yequ a key (a 0).toNat))
  else if ydig key (a 0) = 0 then 2
  else if kd = 0 then yhold sg (ydig key (a 0)) (a 1)
  else if kd = 1 then zand (zshr (a 1) (ydig key (a 0))) 1
  else if kd = 3 then (if ydig key (a 1) = 0 then 2 else yhold sg (ydig key (a 0)) (ydig key (a 1)))
  else (if ydig key (a 0) % a 1 = a 2 then 1 else 0)
def yjoin (kd x y : Int) : Int :=
  if kd = 6 then (if x = 0 ∨ y = 0 then 0 else if x = 2 ∨ y = 2 then 2 else 1)
  else if kd = 7 then (if x = 1 ∨ y = 1 then 1 else if x = 2 ∨ y = 2 then 2 else 0)
  else if kd = 8 then yopp x
  else (if x = 1 then 1 else 0)
def yrec {α : Type} (kd sd : Int → Int) (leaf : Int → α) (over : Int → α → α → α) (z : α) : Nat → Int → α
  | 0, _ => z
  | n + 1, i => if kd i ≤ 5 then leaf i else over i (yrec kd sd leaf over z n (sd (8 * i))) (yrec kd sd leaf over z n (if kd i ≤ 7 then sd (8 * i + 1) else sd (8 * i)))
def yWr (kd sd : Int → Int) (N : Int) : Prop := ∀ i, 0 ≤ i → i < N → 5 < kd i → (0 ≤ sd (8 * i) ∧ sd (8 * i) < i) ∧ (kd i ≤ 7 → 0 ≤ sd (8 * i + 1) ∧ sd (8 * i + 1) < i)
theorem yrec_c {α : Type} {kd sd kd' sd' : Int → Int} {leaf leaf' : Int → α} {over over' : Int → α → α → α} {z : α} {N : Int} (wf : yWr kd sd N) (hk : ∀ i, 0 ≤ i → i < N → kd i = kd' i ∧ sd (8 * i) = sd' (8 * i) ∧ sd (8 * i + 1) = sd' (8 * i + 1) ∧ leaf i = leaf' i ∧ over i = over' i) : ∀ (n n' : Nat) (i : Int), 0 ≤ i → i < N → i < n → i < n' → yrec kd sd leaf over z n i = yrec kd' sd' leaf' over' z n' i
  | 0, _, _, _, _, _, _ => by omega
  | _, 0, _, _, _, _, _ => by omega
  | n + 1, n' + 1, i, h0, hN, h1, h2 => by
    obtain ⟨e1, e2, e3, e4, e5⟩ := hk i h0 hN
    unfold yrec
    rw [← e1, ← e2, ← e3, e4, e5]
    by_cases q : kd i ≤ 5
    · rw [if_pos q, if_pos q]
    · obtain ⟨w1, w2⟩ := wf i h0 hN (by omega)
      rw [if_neg q, if_neg q, yrec_c wf hk n n' (sd (8 * i)) w1.1 (by omega) (by omega) (by omega)]
      by_cases q7 : kd i ≤ 7
      · rw [if_pos q7, yrec_c wf hk n n' (sd (8 * i + 1)) (w2 q7).1 (by have := w2 q7; omega) (by have := w2 q7; omega) (by have := w2 q7; omega)]
      · rw [if_neg q7, yrec_c wf hk n n' (sd (8 * i)) w1.1 (by omega) (by omega) (by omega)]
abbrev yA (sd : Int → Int) (i : Int) : Int → Int := fun k => sd (8 * i + k)
def yST (kd sg sd : Int → Int) : Int → Int → Int := yrec kd sd (fun i key => yleaf (kd i) (sg i) (yA sd i) key) (fun i x y key => yjoin (kd i) (x key) (y key)) (fun _ => 0) 25
def yDp (kd sd : Int → Int) : Int → Int := yrec kd sd (fun _ => 0) (fun _ x y => 1 + max x y) 0 25
def yLc (kd : Int) (a : Int → Int) : Int := if kd = 5 then (if a 0 = 2 then zor (zor 0 (zshl 1 (a 1))) (zshl 1 (a 3)) else zor (zor (zor 0 (zshl 1 (a 1))) (zshl 1 (a 3))) (zshl 1 (a 5))) else if kd = 3 then zor (zshl 1 (a 0)) (zshl 1 (a 1)) else zshl 1 (a 0)
def yCo (kd sd : Int → Int) : Int → Int := yrec kd sd (fun i => yLc (kd i) (yA sd i)) (fun _ x y => zor x y) 0 25
def yPa (kd sd : Int → Int) : Int → Int := yrec kd sd (fun i => zshl 1 i) (fun i x y => if kd i = 6 then zor x y else zshl 1 i) 0 25
/-- one condition is well formed -/
def yWf (kd sg : Int) (a : Int → Int) (i : Int) : Prop :=
  (0 ≤ kd ∧ kd ≤ 9) ∧ (kd = 0 ∨ kd = 3 ∨ kd = 5 → 0 ≤ sg ∧ sg ≤ 3) ∧ (kd ≠ 0 ∧ kd ≠ 3 ∧ kd ≠ 5 → sg = -1)
  ∧ (kd ≤ 4 → 0 ≤ a 0 ∧ a 0 ≤ 2) ∧ (kd = 0 → 1 ≤ a 1 ∧ a 1 ≤ 9) ∧ (kd = 1 → 0 ≤ a 1 ∧ a 1 ≤ 1023) ∧ (kd = 3 → 0 ≤ a 1 ∧ a 1 ≤ 2 ∧ a 1 ≠ a 0) ∧ (kd = 4 → 2 ≤ a 1 ∧ a 1 ≤ 9 ∧ 0 ≤ a 2 ∧ a 2 < a 1)
  ∧ (kd = 5 → (a 0 = 2 ∨ a 0 = 3) ∧ (0 ≤ a 1 ∧ a 1 ≤ 2) ∧ (1 ≤ a 2 ∧ a 2 ≤ 9) ∧ (0 ≤ a 3 ∧ a 3 ≤ 2 ∧ a 3 ≠ a 1) ∧ (1 ≤ a 4 ∧ a 4 ≤ 9) ∧ (a 0 = 3 → (0 ≤ a 5 ∧ a 5 ≤ 2 ∧ a 5 ≠ a 1 ∧ a 5 ≠ a 3) ∧ (1 ≤ a 6 ∧ a 6 ≤ 9)))
  ∧ (6 ≤ kd → 0 ≤ a 0 ∧ a 0 < i) ∧ (kd = 6 ∨ kd = 7 → 0 ≤ a 1 ∧ a 1 < i) ∧ (kd = 8 ∨ kd = 9 → a 1 = -1)
/-- how many columns the class keeps of a condition -/
def ySz (kd : Int) (a : Int → Int) : Int := if kd = 5 then a 0 else if kd = 3 then 2 else if kd ≤ 5 then 1 else 0
/-- the class' own fields of a condition -/
def yCR (f co wa : Int → Int) (kd sg : Int) (a : Int → Int) : Prop :=
  f 0 = kd ∧ f 1 = sg ∧ (6 ≤ kd → f 2 = a 0 ∧ f 3 = a 1) ∧ (kd ≤ 5 → f 2 = -1 ∧ f 3 = -1) ∧ f 9 = ySz kd a
  ∧ (kd ≤ 4 → co 0 = a 0) ∧ (kd = 0 ∨ kd = 1 ∨ kd = 4 → wa 0 = a 1) ∧ (kd = 4 → f 4 = a 2) ∧ (kd = 3 → co 1 = a 1)
  ∧ (kd = 5 → co 0 = a 1 ∧ wa 0 = a 2 ∧ co 1 = a 3 ∧ wa 1 = a 4 ∧ (a 0 = 3 → co 2 = a 5 ∧ wa 2 = a 6))
/-- conditions of the class in cells from b on, by the reference's rows -/
def yIC (g : Int → Int → Int) (b N : Int) (kd sg sd : Int → Int) : Prop :=
  (∀ i, 0 ≤ i → i < N → yWf (kd i) (sg i) (yA sd i) i) ∧
  (∀ i, 0 ≤ i → i < N → yCR (g (b + 4 * i)) (g (b + 2 + 4 * i)) (g (b + 3 + 4 * i)) (kd i) (sg i) (yA sd i) ∧ g (b + 4 * i) 5 = yCo kd sd i ∧ g (b + 4 * i) 6 = yDp kd sd i ∧ g (b + 4 * i) 7 = yPa kd sd i) ∧
  (∀ i, 0 ≤ i → i < N → ∀ key, 0 ≤ key → key < 1000 → yTw (g (b + 1 + 4 * i)) key = yST kd sg sd i key)
/-- the reference's rows of what its conditions are -/
def yIM (g : Int → Int → Int) (N : Int) (kd sg sd : Int → Int) : Prop :=
  ∀ i, 0 ≤ i → i < N → g 262 i = yCo kd sd i ∧ g 263 i = yDp kd sd i ∧ g 264 i = yPa kd sd i ∧ ∀ key, 0 ≤ key → key < 1000 → g 261 (1000 * i + key) = yST kd sg sd i key
/-- lines: how many, the values, price, seed -/
def yIL (c c' p p' s s' : Int) (v v' : Int → Int) : Prop := c = c' ∧ (0 ≤ c ∧ c ≤ 60) ∧ p = p' ∧ (0 ≤ p ∧ p ≤ 20) ∧ s = s' ∧ (-2147483648 ≤ s ∧ s ≤ 2147483647) ∧ (∀ j, 0 ≤ j → j < 3 * c → v j = v' j ∧ 0 ≤ v j ∧ v j ≤ 9)
/-- a shelf -/
def yIS (h z : Int) (e : Int → Int) (sh so si sn : Int) (e' : Int → Int) (N : Int) : Prop :=
  (sh = 0 ∧ h = -1) ∨ (sh = 1 ∧ h = so ∧ (0 ≤ so ∧ so ≤ 4) ∧ z = si ∧ (0 ≤ si ∧ si ≤ 40) ∧ ∀ i, 0 ≤ i → i < si → e i = e' i) ∨ (sh = 2 ∧ h = 10 + sn ∧ 0 ≤ sn ∧ sn < N)
/-- all that links the class' object and the reference's -/
def yInv (L : Int) (xs : Int → Int) (m : ZN) : Prop :=
  (zr m 0 (-1) = L ∧ ∀ j, 0 ≤ j → j < L → zr m 0 j = xs j) ∧
  yIL (zr m 4 1) (zr m 236 9) (zr m 4 2) (zr m 236 11) (zr m 4 3) (zr m 236 12) (zr m 5) (zr m 253) ∧
  ((zr m 8 1 = zr m 236 10 ∧ (0 ≤ zr m 8 1 ∧ zr m 8 1 ≤ 24) ∧ zr m 8 2 = 0) ∧ yIC (zr m) 10 (zr m 8 1) (zr m 254) (zr m 255) (zr m 256) ∧ yIM (zr m) (zr m 8 1) (zr m 254) (zr m 255) (zr m 256)) ∧
  (zr m 3 11 = zr m 236 17 ∧ (zr m 3 11 = 0 ∨ zr m 3 11 = 1 ∧ yIL (zr m 6 1) (zr m 236 18) (zr m 6 2) (zr m 236 20) (zr m 6 3) (zr m 236 21) (zr m 7) (zr m 257) ∧ (zr m 110 1 = zr m 236 19 ∧ 0 ≤ zr m 110 1 ∧ zr m 110 1 ≤ 24) ∧ yIC (zr m) 112 (zr m 110 1) (zr m 258) (zr m 259) (zr m 260))) ∧
  (∀ s, 0 ≤ s → s < 8 → yIS (zr m 213 s) (zr m 214 s) (fun i => zr m 215 (40 * s + i)) (zr m 237 s) (zr m 238 s) (zr m 239 s) (zr m 250 s) (zr m (241 + s)) (zr m 8 1)) ∧
  (zr m 216 1 = zr m 236 7 ∧ (0 ≤ zr m 216 1 ∧ zr m 216 1 ≤ 250) ∧ ∀ j, 0 ≤ j → j < zr m 216 1 → zr m 217 j = zr m 251 j ∧ 0 ≤ zr m 217 j ∧ zr m 217 j ≤ 255) ∧
  (∀ k, 0 ≤ k → k < 5 → zr m 234 k = zr m 252 (k + 2))
/-- places that no call needs from an earlier one -/
def yscr (a j : Int) : Prop := (218 ≤ a ∧ a ≤ 233) ∨ a = 235 ∨ (a = 216 ∧ j = 2) ∨ (a = 236 ∧ (j = 32 ∨ (34 ≤ j ∧ j ≤ 40 ∧ j ≠ 38))) ∨ a = 249 ∨ (265 ≤ a ∧ a ≤ 268)
def ySc (m m2 : ZN) : Prop := ∀ a j, ¬ yscr a j → zr m2 a j = zr m a j
theorem ySc.refl (m : ZN) : ySc m m := fun _ _ _ => rfl
theorem ySc.trans {m m1 m2 : ZN} (h1 : ySc m m1) (h2 : ySc m1 m2) : ySc m m2 := fun a j h => (h2 a j h).trans (h1 a j h)
theorem ySc.sn {m m1 : ZN} (h : ySc m m1) {a j : Int} (v : Int) (q : yscr a j) : ySc m (zsn m1 a j v) := fun a' j' h' => by
  rw [zr_zsn, if_neg (fun z => h' (by rw [z.1.1, z.1.2]; exact q))]
  exact h a' j' h'
theorem ySc.cc {m m1 : ZN} (h : ySc m m1) {a : Int} (F : Int → Int) (q : ∀ j, yscr a j) : ySc m (zcc m1 a F) := fun a' j' h' => by
  rw [zr_zcc, if_neg (fun z => h' (by rw [z.1]; exact q _))]
  exact h a' j' h'
theorem ySc.fn {m m2 : ZN} (h : ySc m m2) {a : Int} (q : ∀ j, ¬ yscr a j) : zr m2 a = zr m a := funext fun j => h a j (q j)
theorem yIC_fr {g g' : Int → Int → Int} {b N : Int} {kd sg sd : Int → Int} (h : yIC g b N kd sg sd) (hN : N ≤ 25) (hg : ∀ a, b ≤ a → a < b + 100 → g' a = g a) : yIC g' b N kd sg sd := by
  obtain ⟨h1, h2, h3⟩ := h
  refine ⟨h1, fun i i0 i1 => ?_, fun i i0 i1 => ?_⟩
  · rw [hg (b + 4 * i) (by omega) (by omega), hg (b + 2 + 4 * i) (by omega) (by omega), hg (b + 3 + 4 * i) (by omega) (by omega)]
    exact h2 i i0 i1
  · rw [hg (b + 1 + 4 * i) (by omega) (by omega)]
    exact h3 i i0 i1
theorem yIM_fr {g g' : Int → Int → Int} {N : Int} {kd sg sd : Int → Int} (h : yIM g N kd sg sd) (hg : ∀ a, 261 ≤ a → a ≤ 264 → g' a = g a) : yIM g' N kd sg sd := by
  intro i i0 i1
  rw [hg 261 (by omega) (by omega), hg 262 (by omega) (by omega), hg 263 (by omega) (by omega), hg 264 (by omega) (by omega)]
  exact h i i0 i1
theorem yInv_Sc {L : Int} {xs : Int → Int} {m m2 : ZN} (I : yInv L xs m) (h : ySc m m2) : yInv L xs m2 := by
  have f : ∀ a : Int, (a < 216 ∨ a = 217 ∨ a = 234 ∨ (237 ≤ a ∧ a ≤ 248) ∨ (250 ≤ a ∧ a ≤ 264)) → zr m2 a = zr m a := fun a ha => h.fn (fun j => by unfold yscr; omega)
  have g : ∀ j : Int, j ≠ 32 → (j < 34 ∨ 40 < j) → zr m2 236 j = zr m 236 j := fun j h1 h2 => h 236 j (by unfold yscr; omega)
  obtain ⟨hx, hl, ⟨hc0, hc1, hc2⟩, ⟨hk0, hk1⟩, hs, hf, hr⟩ := I
  unfold yInv
  rw [f 0 (by omega), f 4 (by omega), f 5 (by omega), f 253 (by omega), f 8 (by omega), f 254 (by omega), f 255 (by omega), f 256 (by omega), f 3 (by omega), f 6 (by omega), f 7 (by omega), f 257 (by omega), f 258 (by omega), f 259 (by omega), f 260 (by omega), f 110 (by omega), f 213 (by omega), f 214 (by omega), f 215 (by omega), f 237 (by omega), f 238 (by omega), f 239 (by omega), f 250 (by omega), f 217 (by omega), f 251 (by omega), f 234 (by omega), f 252 (by omega), h 216 1 (by unfold yscr; omega), g 9 (by omega) (by omega), g 11 (by omega) (by omega), g 12 (by omega) (by omega), g 10 (by omega) (by omega), g 17 (by omega) (by omega), g 18 (by omega) (by omega), g 19 (by omega) (by omega), g 20 (by omega) (by omega), g 21 (by omega) (by omega), g 7 (by omega) (by omega)]
  refine ⟨hx, hl, ⟨hc0, yIC_fr hc1 (by omega) (fun a a0 a1 => f a (by omega)), yIM_fr hc2 (fun a a0 a1 => f a (by omega))⟩, ⟨hk0, ?_⟩, fun s s0 s1 => ?_, hf, hr⟩
  · rcases hk1 with h1 | ⟨h1, h2, h3, h4⟩
    · exact Or.inl h1
    · exact Or.inr ⟨h1, h2, h3, yIC_fr h4 (by omega) (fun a a0 a1 => f a (by omega))⟩
  · rw [f (241 + s) (by omega)]
    exact hs s s0 s1
