/-! ===== the law's body ===== -/
/-- how many lines a condition is true for -/
def ylf (n : Int) (v : Int → Int) (T : Int → Int → Int) (c : Int) : Int := ycnt (fun l => decide (T c (yk3 v l 0) = 1)) n
theorem ysm_b {f : Int → Int} : ∀ k : Nat, (∀ i : Int, 0 ≤ i → i < k → 0 ≤ f i ∧ f i ≤ 60) → 0 ≤ ysm f k ∧ ysm f k ≤ 60 * k
  | 0, _ => ⟨by show (0 : Int) ≤ 0; decide, by show (0 : Int) ≤ 60 * ((0 : Nat) : Int); decide⟩
  | k + 1, h => by
    have a := ysm_b k (fun i i0 i1 => h i i0 (by omega))
    have b := h k (by omega) (by omega)
    show 0 ≤ ysm f k + f k ∧ ysm f k + f k ≤ 60 * ((k + 1 : Nat) : Int)
    omega
theorem ysm_s {f : Int → Int} {i : Int} (i0 : 0 ≤ i) : ysm f (i + 1).toNat = ysm f i.toNat + f i := by
  rw [show (i + 1).toNat = i.toNat + 1 by omega]
  show ysm f i.toNat + f (i.toNat : Int) = _
  rw [Int.toNat_of_nonneg i0]
section LW
variable {d : Nat} {m : ZN} {L : Int} {xs : Int → Int} {P : Option ZV → ZN → Prop} {n N pr : Int} {v : Int → Int} {T : Int → Int → Int}
theorem yG_o {m2 : ZN} (G : yG n N pr v T m) (f : ∀ a : Int, a < 213 → zr m2 a = zr m a) : yG n N pr v T m2 := by
  obtain ⟨⟨a1, a2⟩, a3, a4, a5⟩ := G
  unfold yG
  rw [f 4 (by decide), f 5 (by decide), f 8 (by decide)]
  exact ⟨⟨a1, a2⟩, a3, a4, fun c c0 c1 => by rw [f (10 + 4 * c + 1) (by omega)]; exact a5 c c0 c1⟩
theorem lx_acts (hL : 0 ≤ L) {A : Int} (A0 : 0 ≤ A) (A6 : A ≤ 60) (h : ∀ M, yD L xs M → zwpN (d + 902) 318 108 [some (zA 0), some (zA 3), some (zI A), some (zI A), none, none, none, none, none] [] M P) (D : yD L xs m) (t : zr m 216 1 = 0) : zwpN (d + 902) 318 25 [some (zA 0), some (zA 3), some (zI A), some (zI 0), none, none, none, none, none] [] m P := by
  have s0 : ∀ (M : ZN) (K : Int → ZN → Prop), zcI (d + 901) 167 [zA 3, zI 0] M K = K (zr M 4 1) M := fun M K => e_st0 (d := d + 892) K
  have s1 : ∀ (M : ZN) (K : Int → ZN → Prop), zcI (d + 901) 167 [zA 3, zI 1] M K = K (zr M 8 1) M := fun M K => e_st1 (d := d + 892) K
  have s5 : ∀ (M : ZN) (K : Int → ZN → Prop), zcI (d + 901) 167 [zA 3, zI 5] M K = K (zr M 216 1) M := fun M K => e_st5 (d := d + 892) K
  refine yfor (fun i => ∀ M, yD L xs M → zr M 216 1 = 0 → zwpN (d + 902) 318 25 [some (zA 0), some (zA 3), some (zI A), some (zI i), none, none, none, none, none] [] M P) 0 A A0 (fun i i0 i1 hW M D t => ?_) (fun M D t => ?_) m D t
  · refine w_318_25 (d := d + 901) ?_
    rw [if_pos i1]
    refine g_actT D t hL (fun n1 D1 t1 => ?_)
    obtain ⟨T, G, -⟩ := yD_G D1
    have l := G.1.1
    have c := G.2.2.1
    rw [s0, if_neg (by omega), s0, if_neg (by omega), s1, if_neg (by omega), s5, if_pos t1]
    refine e_st3 (d := d + 892) G (fun M2 r hS hr => ?_)
    have G2 := yG_Sc G hS
    rw [s0, G2.1.1.1, if_neg (by omega)]
    refine e_st4 (d := d + 892) G2 (fun r2 hr2 => ?_)
    rw [s0, G2.1.1.1, yb_id (by omega) (by omega), if_neg (by omega), yb_id (by omega) (by omega)]
    exact hW M2 (yD_Sc D1 hS) ((hS 216 1 (by unfold yscr; omega)).trans t1)
  · refine w_318_25 (d := d + 901) ?_
    rw [if_neg (by omega)]
    exact h M D
theorem lx_108 (D : yD L xs m) {a b : Int} (h : ∀ x M, yD L xs M → zwpN (d + 902) 318 161 [some (zA 0), some (zA 3), some (zI a), some (zI x), some (zI (zr M 8 1)), some (zI 0), some (zI 0), none, none] [] M P) : zwpN (d + 902) 318 108 [some (zA 0), some (zA 3), some (zI a), some (zI b), none, none, none, none, none] [] m P := by
  obtain ⟨T, G, -⟩ := yD_G D
  have r1 : ∀ (M : ZN) (K : Int → ZN → Prop), zcI (d + 901) 325 [zA 3] M K = K (yRu M) M := fun M K => e_refusals (d := d + 891) K
  have s1 : ∀ (M : ZN) (K : Int → ZN → Prop), zcI (d + 901) 167 [zA 3, zI 1] M K = K (zr M 8 1) M := fun M K => e_st1 (d := d + 892) K
  refine w_318_108 (d := d + 901) ?_
  rw [r1]
  refine zcI_w (zcI_and (Eq.mpr (e_lineOf (d := d + 892) G (fun r M => r = -102 ∧ M = zsn m 234 0 (zb (zr m 234 0 + 1)))) ⟨rfl, rfl⟩) (yD_p (d := d + 901) (d2 := d + 901) (k2 := 263) (args2 := [zA 236, zI (-1), zI 0]) D rfl rfl rfl rfl (fun m2 I => p_lineOf (d := d + 892) I (fun r m3 I3 => ⟨rfl, I3⟩) (-1) 0))) (fun r M ⟨⟨e1, e2⟩, D1⟩ => ?_)
  subst e1
  have G1 : yG (zr m 4 1) (zr m 8 1) (zr m 4 2) (zr m 5) T M := yG_o G (fun a ha => by rw [e2]; exact yfc (by omega))
  have u1 : yRu M = zb (yRu m + 1) := by rw [e2]; exact yRu_s
  rw [if_pos rfl]
  refine zcI_w (zcI_and (Eq.mpr (e_keysX (d := d + 892) G1 (fun r M2 => r = -102 ∧ M2 = zsn M 234 0 (zb (zr M 234 0 + 1)))) ⟨rfl, rfl⟩) (yD_p (d := d + 901) (d2 := d + 901) (k2 := 268) (args2 := [zA 236, zI 24, zI 0]) D1 rfl rfl rfl rfl (fun m2 I => p_keys (d := d + 892) I (fun r m3 I3 => ⟨rfl, I3⟩) 24 0))) (fun r M2 ⟨⟨e3, e4⟩, D2⟩ => ?_)
  subst e3
  have u2 : yRu M2 = zb (yRu M + 1) := by rw [e4]; exact yRu_s
  rw [if_pos rfl, r1, if_pos (by rw [u2, u1, yb_l, show yRu m + 1 + 1 = yRu m + 2 by omega]), s1]
  exact h _ M2 D2
theorem lx_161 (E : yE L xs n N pr v T m) {a b : Int} (h : ∀ M, yE L xs n N pr v T M → zwpN (d + 902) 318 211 [some (zA 0), some (zA 3), some (zI a), some (zI b), some (zI N), some (zI (ysm (ylf n v T) N.toNat)), some (zI N), none, none] [] M P) : zwpN (d + 902) 318 161 [some (zA 0), some (zA 3), some (zI a), some (zI b), some (zI N), some (zI 0), some (zI 0), none, none] [] m P := by
  obtain ⟨z1, z2, z3⟩ := E.2.2.2.1
  obtain ⟨w1, w2, w3⟩ := E.2.1.1
  have hf : ∀ i, 0 ≤ ylf n v T i ∧ ylf n v T i ≤ 60 := fun i => by
    have := ycnt_r (fun l => decide (T i (yk3 v l 0) = 1)) w2
    unfold ylf
    omega
  refine yfor (fun i => ∀ M, yE L xs n N pr v T M → zwpN (d + 902) 318 161 [some (zA 0), some (zA 3), some (zI a), some (zI b), some (zI N), some (zI (ysm (ylf n v T) i.toNat)), some (zI i), none, none] [] M P) 0 N z2 (fun i i0 i1 hW M E => ?_) (fun M E => ?_) m E
  · refine w_318_161 (d := d + 901) ?_
    rw [if_pos i1]
    obtain ⟨T2, G2, K2⟩ := yD_G E.1
    have e8 : zr M 8 1 = N := E.2.2.2.1.1
    have t6 : Int.tmod i 6 = i % 6 := Int.tmod_eq_emod_of_nonneg i0
    refine f_kind (d := d + 891) G2 K2 i0 (by omega) ?_
    rw [if_neg (by decide), yck_of (by decide)]
    refine f_fair (d := d + 891) E i0 i1 (by rw [t6]; omega) (by rw [t6]; omega) (fun M2 E2 => ?_)
    have sl : ∀ (K : Int → ZN → Prop), zcI (d + 901) 143 [zA 3, zI i, zI 1] M2 K = K (ylf n v T i) M2 := fun K => e_lines (d := d + 892) E2.2 i0 i1 (by decide) (by decide) K
    have b1 := ysm_b (f := ylf n v T) i.toNat (fun j _ _ => hf j)
    have b2 := hf i
    rw [if_neg (by decide), sl, yb_id (by omega) (by omega), yb_id (by omega) (by omega), ← ysm_s i0]
    exact hW M2 E2
  · refine w_318_161 (d := d + 901) ?_
    rw [if_neg (by omega)]
    exact h M E
theorem lx_end (E : yE L xs n N pr v T m) {a b c : Int} (h : ∀ M, P (some (zI 1)) M) : zwpN (d + 902) 318 211 [some (zA 0), some (zA 3), some (zI a), some (zI b), some (zI N), some (zI (ysm (ylf n v T) N.toNat)), some (zI c), none, none] [] m P := by
  have s0 : ∀ (M : ZN) (K : Int → ZN → Prop), zcI (d + 901) 167 [zA 3, zI 0] M K = K (zr M 4 1) M := fun M K => e_st0 (d := d + 892) K
  have s1 : ∀ (M : ZN) (K : Int → ZN → Prop), zcI (d + 901) 167 [zA 3, zI 1] M K = K (zr M 8 1) M := fun M K => e_st1 (d := d + 892) K
  have s6 : ∀ (M : ZN) (K : Int → ZN → Prop), zcI (d + 901) 167 [zA 3, zI 6] M K = K (zr M 4 3) M := fun M K => e_st6 (d := d + 892) K
  obtain ⟨D, G⟩ := E
  obtain ⟨z1, z2, z3⟩ := G.2.2.1
  obtain ⟨w1, w2, w3⟩ := G.1.1
  have hf : ∀ i, 0 ≤ ylf n v T i ∧ ylf n v T i ≤ 60 := fun i => by
    have := ycnt_r (fun l => decide (T i (yk3 v l 0) = 1)) w2
    unfold ylf
    omega
  refine w_318_211 (d := d + 901) ?_
  rw [s0, s6, w1]
  refine zcI_w (zcI_and (e_image (d := d + 892) (K := fun r M => r = 1 ∧ yKp n N v T (zr m 4 3) M) D G (fun M k => ⟨rfl, k⟩)) (g_image (d := d + 1) D)) (fun r M ⟨⟨e, k⟩, D1⟩ => ?_)
  subst e
  rw [if_pos rfl]
  generalize zr m 4 3 = sd at *
  refine w_318_236 (d := d + 901) ?_
  obtain ⟨T1, G1, -⟩ := yD_G D1
  refine zcI_w (zcI_and (e_days (d := d + 892) (K := fun _ M' => ∀ a, a ≠ 4 → a ≠ 5 → zr M' a = zr M a) G1.1.1.2.1 G1.1.1.2.2 (fun _ _ f => f)) (g_days (d := d + 1) D1 7)) (fun r2 M2 ⟨f2, D2⟩ => ?_)
  have k2 := yKp_fr k z3 (fun a ha => f2 a (by omega) (by omega))
  refine zcI_w (zcI_and (e_drop (d := d + 892) (K := fun _ M' => ∀ a, a ≠ 8 → a ≠ 213 → a ≠ 234 → zr M' a = zr M2 a) D2 (fun _ _ f => f)) (g_drop (d := d + 1) D2)) (fun r3 M3 ⟨f3, D3⟩ => ?_)
  have k3 := yKp_fr k2 z3 (fun a ha => f3 a (by omega) (by omega) (by omega))
  refine zcI_w (zcI_and (e_back (d := d + 892) (K := fun r M' => r = 1 ∧ zr M' 4 1 = n ∧ zr M' 4 3 = sd ∧ zr M' 8 1 = N ∧ (∀ j, 0 ≤ j → j < 3 * n → zr M' 5 j = v j) ∧ (∀ c, 0 ≤ c → c < N → ∀ k, 0 ≤ k → k < 1000 → yTw (zr M' (10 + 4 * c + 1)) k = T c k)) D3 w3 z2 z3 k3 (fun M a b c e f => ⟨rfl, a, b, c, e, f⟩)) (g_back (d := d + 1) D3)) (fun r4 M4 ⟨⟨e4, a1, a2, a3, a4, a5⟩, D4⟩ => ?_)
  subst e4
  rw [if_pos rfl, s0, if_pos a1, s1, if_pos a3, s6, if_pos a2]
  obtain ⟨T4, G4, -⟩ := yD_G D4
  have G5 : yG n N (zr M4 4 2) v T M4 := ⟨⟨⟨a1, w2, w3⟩, fun j j0 j1 => ⟨a4 j j0 j1, (G.1.2 j j0 j1).2⟩⟩, ⟨rfl, G4.2.1.2⟩, ⟨a3, z2, z3⟩, fun c c0 c1 k k0 k1 => ⟨a5 c c0 c1 k k0 k1, (G.2.2.2 c c0 c1 k k0 k1).2⟩⟩
  have bN := ysm_b (f := ylf n v T) N.toNat (fun j _ _ => hf j)
  refine w_318_289 (d := d + 901) ?_
  have key := yfor (fun i => zwpN (d + 902) 318 292 [some (zA 0), some (zA 3), some (zI a), some (zI b), some (zI N), some (zI (ysm (ylf n v T) N.toNat - ysm (ylf n v T) i.toNat)), some (zI n), some (zI sd), some (zI i)] [] M4 P) 0 N z2 (fun i i0 i1 hW => ?_) ?_
  · rw [show ysm (ylf n v T) N.toNat - ysm (ylf n v T) (0 : Int).toNat = ysm (ylf n v T) N.toNat from Int.sub_zero _] at key
    exact key
  · refine w_318_292 (d := d + 901) ?_
    have sl : ∀ (K : Int → ZN → Prop), zcI (d + 901) 143 [zA 3, zI i, zI 1] M4 K = K (ylf n v T i) M4 := fun K => e_lines (d := d + 892) G5 i0 i1 (by decide) (by decide) K
    have b1 := ysm_b (f := ylf n v T) i.toNat (fun j _ _ => hf j)
    have b2 := hf i
    rw [if_pos i1, sl, yb_id (by omega) (by omega), yb_id (by omega) (by omega), show ysm (ylf n v T) N.toNat - ysm (ylf n v T) i.toNat - ylf n v T i = ysm (ylf n v T) N.toNat - ysm (ylf n v T) (i + 1).toNat by rw [ysm_s i0]; omega]
    exact hW
  · refine w_318_292 (d := d + 901) ?_
    rw [if_neg (by omega), if_pos (Int.sub_self _), yck_of (by decide)]
    exact h M4
theorem lx_body (hL : 0 ≤ L) (D : yD L xs m) (t : zr m 216 1 = 0) (h : ∀ M, P (some (zI 1)) M) : zwpN (d + 902) 318 8 [some (zA 0), some (zA 3), none, none, none, none, none, none, none] [] m P := by
  have go : ∀ A, 0 ≤ A → A ≤ 60 → zwpN (d + 902) 318 25 [some (zA 0), some (zA 3), some (zI A), some (zI 0), none, none, none, none, none] [] m P := fun A A0 A6 => lx_acts hL A0 A6 (fun M D => lx_108 D (fun x M D => by
    obtain ⟨T, G, -⟩ := yD_G D
    exact lx_161 ⟨D, G⟩ (fun M E => lx_end E h))) D t
  refine w_318_8 (d := d + 901) ?_
  rw [yD_L D]
  by_cases q : L < 60
  · rw [if_pos q]
    exact go L hL (by omega)
  · rw [if_neg q]
    exact go 60 (by decide) (by decide)
end LW
