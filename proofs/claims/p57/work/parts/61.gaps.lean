/-! ===== gaps by width: the chains ===== -/
section GP
variable {d : Nat} {m : ZN}
theorem c_95c {w : Int → Int} {G : Int} {P : Option ZV → ZN → Prop} (hG : zr m 222 8 = G + 1) (G0 : -1 ≤ G) (G5 : G < 500) (hw : ∀ g, 0 ≤ g → g < G → 1 ≤ w g ∧ w g < 1000) (h94 : ∀ M : ZN, (∀ b, b ≠ 228 → b ≠ 229 → zr M b = zr m b) → ∀ g, 0 ≤ g → g < G → ∀ K, zcI d 94 [zA 222, zI g] M K = K (w g) M)
    (h : ∀ M o, (∀ b, b ≠ 228 → b ≠ 229 → zr M b = zr m b) → (∀ v, 0 ≤ v → v < 1000 → zr M 228 v = yfnd (fun g => decide (w g = v)) 0 G) → (∀ g, 0 ≤ g → g < G → zr M 229 g = yfnd (fun g' => decide (w g' = w g)) (g + 1) G) → zwpN (d + 1) 95 68 [some (zA 222), some (zI 0), some (zI 0), o] [] M P) : zwpN (d + 1) 95 2 [some (zA 222), some (zI 0), none, none] [] m P := by
  have n8 : ∀ j, znp' 228 j = true := ynl rfl
  have n9 : ∀ j, znp' 229 j = true := ynl rfl
  refine yfill (lo := 0) (n := 1000) (fun _ => -1) (zr m 228) n8 (fun _ => rfl) (fun i M' => zwpN (d + 1) 95 2 [some (zA 222), some (zI i), none, none] [] M' P) (by decide) (fun i i0 i1 hW => ?_) ?_
  · refine w_95_2 ?_
    simp only [Int.zero_add] at hW ⊢
    rw [if_pos i1, yck_of ⟨i0, i1⟩, yb_id (by omega) (by omega)]
    exact hW
  · refine w_95_2 ?_
    rw [if_neg (by decide)]
    have f1 : ∀ b, b ≠ 228 → b ≠ 229 → zr (zcc m 228 (fun j => if 0 ≤ j ∧ j < 0 + 1000 then -1 else zr m 228 j)) b = zr m b := fun b hb _ => by rw [yfcc hb]
    have f2 : ∀ v, 0 ≤ v → v < 1000 → zr (zcc m 228 (fun j => if 0 ≤ j ∧ j < 0 + 1000 then -1 else zr m 228 j)) 228 v = -1 := fun v v0 v1 => by rw [yr_cs (n8 _), if_pos (by omega)]
    generalize zcc m 228 (fun j => if 0 ≤ j ∧ j < 0 + 1000 then -1 else zr m 228 j) = M1 at *
    rw [f1 222 (by decide) (by decide), hG, show zb (G + 1 - 2) = G - 1 from by rw [yb_id (by omega) (by omega)]; omega]
    have key : ∀ j : Nat, (j : Int) ≤ G → ∀ (M : ZN) o, (∀ b, b ≠ 228 → b ≠ 229 → zr M b = zr m b) → (∀ v : Int, 0 ≤ v → v < 1000 → zr M 228 v = yfnd (fun g => decide (w g = v)) j G) → (∀ g : Int, (j : Int) ≤ g → g < G → zr M 229 g = yfnd (fun g' => decide (w g' = w g)) (g + 1) G) → zwpN (d + 1) 95 29 [some (zA 222), some (zI ((j : Int) - 1)), o, none] [] M P := by
      intro j
      induction j with
      | zero =>
        intro _ M o k1 k2 k3
        refine w_95_29 ?_
        rw [if_pos (by omega)]
        exact h M _ k1 k2 (fun g g0 g1 => k3 g g0 g1)
      | succ j ih =>
        intro hj M o k1 k2 k3
        have ej : (((j + 1 : Nat)) : Int) - 1 = j := by omega
        have wj := hw j (by omega) (by omega)
        refine w_95_29 ?_
        rw [ej, if_neg (by omega), h94 M k1 j (by omega) (by omega), yck_of (by omega), yck_of (by omega), yck_of (by omega), show zb ((j : Int) + -1) = (j : Int) - 1 from by rw [yb_id (by omega) (by omega)]; omega]
        refine ih (by omega) _ _ (fun b b0 b1 => by rw [yfc b0, yfc b1]; exact k1 b b0 b1) (fun v v0 v1 => ?_) (fun g g0 g1 => ?_)
        · rw [yr_sa (n8 _), yr_sc (by decide)]
          by_cases q : v = w j
          · rw [if_pos q, yfnd_t (by omega) (decide_eq_true q.symm)]
          · rw [if_neg q, yfnd_f (by omega) (decide_eq_false (fun z => q z.symm)), k2 v v0 v1, show (((j + 1 : Nat)) : Int) = (j : Int) + 1 by omega]
        · rw [yr_sc (by decide), yr_sa (n9 _)]
          by_cases q : g = j
          · rw [if_pos q, q, k2 (w j) (by omega) (by omega), show (((j + 1 : Nat)) : Int) = (j : Int) + 1 by omega]
          · rw [if_neg q]
            exact k3 g (by omega) g1
    by_cases q : 0 ≤ G
    · have := key G.toNat (by omega) M1 none f1 (fun v v0 v1 => by rw [f2 v v0 v1, yfnd_e (by omega)]) (fun g g0 g1 => by omega)
      rw [show ((G.toNat : Nat) : Int) = G by omega] at this
      exact this
    · refine w_95_29 ?_
      rw [if_pos (by omega)]
      exact h M1 _ f1 (fun v v0 v1 => by rw [f2 v v0 v1, yfnd_e (by omega)]) (fun g g0 g1 => by omega)
end GP
/-- the first n places of a hold, in order of width and place, those that fit S -/
def yOd (w a : Int → Int) (G : Int) (S : Int → Bool) (n : Int) : Prop :=
  n = ycnt S G ∧ (∀ x y, 0 ≤ x → x < y → y < n → 1000 * w (a x) + a x < 1000 * w (a y) + a y) ∧ (∀ x, 0 ≤ x → x < n → 0 ≤ a x ∧ a x < G ∧ S (a x) = true) ∧ ∀ g, 0 ≤ g → g < G → S g = true → ∃ x, 0 ≤ x ∧ x < n ∧ a x = g
theorem yOd_c {w a : Int → Int} {G n : Int} {S T : Int → Bool} (h : yOd w a G S n) (hST : ∀ g, 0 ≤ g → g < G → S g = T g) : yOd w a G T n := by
  obtain ⟨h1, h2, h3, h4⟩ := h
  refine ⟨h1.trans (ycnt_c hST), h2, fun x x0 x1 => ?_, fun g g0 g1 hg => h4 g g0 g1 (by rw [hST g g0 g1]; exact hg)⟩
  have := h3 x x0 x1
  exact ⟨this.1, this.2.1, by rw [← hST _ this.1 this.2.1]; exact this.2.2⟩
theorem ycnt_add {S T : Int → Bool} {x G : Int} (x0 : 0 ≤ x) (x1 : x < G) (hS : S x = false) (hT : T x = true) (h : ∀ g, 0 ≤ g → g < G → g ≠ x → T g = S g) : ycnt T G = ycnt S G + 1 := by
  have hu := ycnt_upd (s := fun g => if S g = true then 1 else 0) x0 G.toNat (by omega)
  rw [show ((G.toNat : Nat) : Int) = G by omega] at hu
  rw [if_pos (show (if S x = true then (1 : Int) else 0) = 0 by rw [hS]; rfl)] at hu
  rw [ycnt_c (p := T) (q := fun g => decide ((if g = x then (1 : Int) else if S g = true then 1 else 0) ≠ 0)) (fun g g0 g1 => ?_), ycnt_c (p := S) (q := fun g => decide ((if S g = true then (1 : Int) else 0) ≠ 0)) (fun g g0 g1 => ?_)]
  · exact hu
  · cases hs : S g <;> rfl
  · by_cases q : g = x
    · rw [q, hT, if_pos rfl]; rfl
    · rw [h g g0 g1 q, if_neg q]
      cases hs : S g <;> rfl
/-- one more, behind all that stand -/
theorem yOd_a {w a b : Int → Int} {G n x : Int} {S T : Int → Bool} (h : yOd w a G S n) (x0 : 0 ≤ x) (x1 : x < G) (hS : S x = false) (hT : T x = true) (hST : ∀ g, 0 ≤ g → g < G → g ≠ x → T g = S g) (hb : ∀ y, 0 ≤ y → y < n → b y = a y) (hx : b n = x) (hlt : ∀ g, 0 ≤ g → g < G → S g = true → 1000 * w g + g < 1000 * w x + x) : yOd w b G T (n + 1) := by
  obtain ⟨h1, h2, h3, h4⟩ := h
  have hn := ycnt_r S (show 0 ≤ G by omega)
  refine ⟨by rw [ycnt_add x0 x1 hS hT hST, ← h1], fun y z y0 yz z1 => ?_, fun y y0 y1 => ?_, fun g g0 g1 hg => ?_⟩
  · by_cases q : z = n
    · rw [q, hx, hb y y0 (by omega)]
      have := h3 y y0 (by omega)
      exact hlt _ this.1 this.2.1 this.2.2
    · rw [hb y y0 (by omega), hb z (by omega) (by omega)]
      exact h2 y z y0 yz (by omega)
  · by_cases q : y = n
    · rw [q, hx]; exact ⟨x0, x1, hT⟩
    · rw [hb y y0 (by omega)]
      have := h3 y y0 (by omega)
      refine ⟨this.1, this.2.1, ?_⟩
      rw [hST _ this.1 this.2.1 (fun z => by rw [z, hS] at this; exact absurd this.2.2 (by decide))]
      exact this.2.2
  · by_cases q : g = x
    · exact ⟨n, by omega, by omega, by rw [hx, q]⟩
    · obtain ⟨y, y0, y1, y2⟩ := h4 g g0 g1 (by rw [← hST g g0 g1 q]; exact hg)
      exact ⟨y, y0, by omega, by rw [hb y y0 y1, y2]⟩
section GQ
variable {d : Nat} {m : ZN}
theorem c_95d {w : Int → Int} {G : Int} {P : Option ZV → ZN → Prop} {o : Option ZV} (hG : zr m 222 8 = G + 1) (G0 : -1 ≤ G) (G5 : G < 500) (hw : ∀ g, 0 ≤ g → g < G → 1 ≤ w g ∧ w g < 1000) (h8 : ∀ v, 0 ≤ v → v < 1000 → zr m 228 v = yfnd (fun g => decide (w g = v)) 0 G) (h9 : ∀ g, 0 ≤ g → g < G → zr m 229 g = yfnd (fun g' => decide (w g' = w g)) (g + 1) G)
    (h : ∀ M n, (∀ b, b ≠ 227 → zr M b = zr m b) → yOd w (zr M 227) G (fun _ => true) n → P none M) : zwpN (d + 1) 95 68 [some (zA 222), some (zI 0), some (zI 0), o] [] m P := by
  have n7 : ∀ j, znp' 227 j = true := ynl rfl
  refine yfor (fun v => ∀ (M : ZN) n o, (∀ b, b ≠ 227 → zr M b = zr m b) → yOd w (zr M 227) G (fun g => decide (w g < v)) n → zwpN (d + 1) 95 68 [some (zA 222), some (zI n), some (zI v), o] [] M P) 0 1000 (by decide) (fun v v0 v1 hW M n o f R => ?_) (fun M n o f R => ?_) m 0 o (fun _ _ => rfl) ⟨?_, fun x y _ _ _ => by omega, fun x _ _ => by omega, fun g g0 g1 hg => ?_⟩
  · refine w_95_68 ?_
    rw [if_pos v1, yck_of ⟨v0, v1⟩, f 228 (by decide), h8 v v0 v1]
    have key : ∀ r : Nat, ∀ p : Int, 0 ≤ p → G - p ≤ r → ∀ (M : ZN) n, (∀ b, b ≠ 227 → zr M b = zr m b) → yOd w (zr M 227) G (fun g => decide (w g < v ∨ (w g = v ∧ g < p))) n → zwpN (d + 1) 95 82 [some (zA 222), some (zI n), some (zI v), some (zI (yfnd (fun g => decide (w g = v)) p G))] [] M P := by
      have fin : ∀ p : Int, 0 ≤ p → ∀ (M : ZN) n, (∀ b, b ≠ 227 → zr M b = zr m b) → yOd w (zr M 227) G (fun g => decide (w g < v ∨ (w g = v ∧ g < p))) n → yfnd (fun g => decide (w g = v)) p G = -1 → (∀ g, p ≤ g → g < G → w g ≠ v) → zwpN (d + 1) 95 82 [some (zA 222), some (zI n), some (zI v), some (zI (yfnd (fun g => decide (w g = v)) p G))] [] M P := fun p p0 M n f R e hn => by
        refine w_95_82 ?_
        rw [e, if_pos rfl, yb_id (by omega) (by omega)]
        refine hW M n _ f (yOd_c R (fun g g0 g1 => ?_))
        by_cases q : w g < v + 1
        · rw [decide_eq_true q, decide_eq_true]
          by_cases q2 : g < p
          · omega
          · have := hn g (by omega) g1
            omega
        · rw [decide_eq_false q, decide_eq_false (by omega)]
      intro r
      induction r with
      | zero =>
        intro p p0 hp M n f R
        exact fin p p0 M n f R (yfnd_e (by omega)) (fun g g0 g1 => by omega)
      | succ r ih =>
        intro p p0 hp M n f R
        by_cases qp : G ≤ p
        · exact fin p p0 M n f R (yfnd_e qp) (fun g g0 g1 => by omega)
        rcases yfnd_r (fun g => decide (w g = v)) p0 (show p ≤ G by omega) with ⟨e, hn⟩ | ⟨e0, e1, e2, e3⟩
        · exact fin p p0 M n f R e (fun g g0 g1 => of_decide_eq_false (hn g g0 g1))
        · generalize yfnd (fun g => decide (w g = v)) p G = x at e0 e1 e2 e3
          have ew : w x = v := of_decide_eq_true e2
          have hS : decide (w x < v ∨ (w x = v ∧ x < p)) = false := decide_eq_false (by omega)
          have hnG : n < G := by
            rw [R.1]
            have := ycnt_lt (p := fun g => decide (w g < v ∨ (w g = v ∧ g < p))) (q := fun _ => true) (show 0 ≤ x by omega) hS rfl G.toNat (by omega) (fun _ _ _ _ => rfl)
            rw [show ((G.toNat : Nat) : Int) = G by omega] at this
            have := ycnt_r (fun _ => true) (show 0 ≤ G by omega)
            omega
          have hn0 : 0 ≤ n := by rw [R.1]; exact (ycnt_r _ (by omega)).1
          refine w_95_82 ?_
          rw [if_neg (by omega), f 222 (by decide), hG, show zb (G + 1 - 1) = G from by rw [yb_id (by omega) (by omega)]; omega, if_pos hnG, yck_of (by omega), yck_of (by omega), yr_sc (by decide), f 229 (by decide), h9 x (by omega) e1, ew, yb_id (by omega) (by omega)]
          refine ih (x + 1) (by omega) (by omega) _ _ (fun b hb => by rw [yfc hb]; exact f b hb) ?_
          refine yOd_a R (show 0 ≤ x by omega) e1 hS (decide_eq_true (by omega)) (fun g g0 g1 hg => ?_) (fun y y0 y1 => yr_so (by omega)) (yr_ss (n7 _)) (fun g g0 g1 hg => ?_)
          · by_cases q : w g < v ∨ (w g = v ∧ g < p)
            · rw [decide_eq_true q, decide_eq_true (by omega)]
            · rw [decide_eq_false q]
              refine decide_eq_false (fun z => ?_)
              have : p ≤ g ∧ g < x ∧ w g = v := by omega
              have := of_decide_eq_false (e3 g this.1 this.2.1)
              omega
          · have := of_decide_eq_true hg
            rw [ew]
            omega
    refine key G.toNat 0 (by decide) (by omega) M n f (yOd_c R (fun g g0 g1 => ?_))
    by_cases q : w g < v
    · rw [decide_eq_true q, decide_eq_true (by omega)]
    · rw [decide_eq_false q, decide_eq_false (by omega)]
  · refine w_95_68 ?_
    rw [if_neg (by decide)]
    exact h M n f (yOd_c R (fun g g0 g1 => decide_eq_true (hw g g0 g1).2))
  · by_cases q : 0 ≤ G
    · have := (ycnt_z (p := fun g => decide (w g < 0)) G.toNat).2 (fun g g0 g1 => decide_eq_false (by have := hw g g0 (by omega); omega))
      rw [show ((G.toNat : Nat) : Int) = G by omega] at this
      exact this.symm
    · have : G = -1 := by omega
      subst this
      rfl
  · have := hw g g0 g1
    have := of_decide_eq_true hg
    omega
end GQ
/-- a gap's width -/
def ywd (t : Int → Int) (g : Int) : Int := yrF t 1000 (g + 1) - yrL t 1000 g - 1
section GR
variable {d : Nat} {m : ZN}
theorem ywd_r {t : Int → Int} {g : Int} (g0 : 0 ≤ g) (g1 : g < yrc t 1000 - 1) : 1 ≤ ywd t g ∧ ywd t g < 1000 := by
  have o1 := (yr_ord t 1000).1 g g0 (by omega)
  have o2 := (yr_ord t 1000).1 (g + 1) (by omega) (by omega)
  have := o1.2.2.2 (by omega)
  unfold ywd
  omega
theorem c_95 {t : Int → Int} {K : ZN → Prop} (hc : zr m 222 8 = yrc t 1000) (hf : ∀ i, 0 ≤ i → i < yrc t 1000 → zr m 224 i = yrF t 1000 i ∧ zr m 225 i = yrL t 1000 i) (h : ∀ M n, (∀ b, b ≠ 227 → b ≠ 228 → b ≠ 229 → zr M b = zr m b) → yOd (ywd t) (zr M 227) (yrc t 1000 - 1) (fun _ => true) n → K M) : zcV (d + 1) 95 [zA 222] m K := by
  have hr := yrc_r t 1000
  refine w_95 ?_
  refine c_95c (w := ywd t) (G := yrc t 1000 - 1) (by rw [hc]; omega) (by omega) (by omega) (fun g g0 g1 => ywd_r g0 g1) (fun M f g g0 g1 K' => c_94 (t := t) g0 (by omega) (by rw [f 224 (by decide) (by decide), f 225 (by decide) (by decide)]; exact hf) K') (fun M o f k1 k2 => ?_)
  refine c_95d (w := ywd t) (G := yrc t 1000 - 1) (by rw [f 222 (by decide) (by decide), hc]; omega) (by omega) (by omega) (fun g g0 g1 => ywd_r g0 g1) k1 k2 (fun M2 n f2 R => h M2 n (fun b b0 b1 b2 => by rw [f2 b b0, f b b1 b2]) R)
end GR
