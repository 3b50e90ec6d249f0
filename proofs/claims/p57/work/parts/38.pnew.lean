/-! ===== one more condition, in both ===== -/
section PN
variable {d d2 : Nat} {m : ZN} {L : Int} {xs : Int → Int} {Q : Int → Int → ZN → Prop}
theorem yup_k {kd sg sd : Int → Int} {N k s : Int} {ad : Int → Int} : ∀ i, 0 ≤ i → i < N → kd i = yup kd N k i ∧ sg i = yup sg N s i ∧ ∀ p, 0 ≤ p → p < 8 → sd (8 * i + p) = yus sd N ad (8 * i + p) := fun i i0 i1 => ⟨(yup_o i1).symm, (yup_o i1).symm, fun p p0 p1 => (yus_o i1 p1).symm⟩
/-- well formed with one more -/
theorem yup_W {kd sg sd : Int → Int} {N k s : Int} {ad : Int → Int} (h : yWA kd sg sd N) (W : yWf k s ad N) : yWA (yup kd N k) (yup sg N s) (yus sd N ad) (N + 1) := fun i i0 i1 => by
  by_cases q : i = N
  · subst q
    rw [yup_n, yup_n]
    exact yWf_c (fun p p0 p1 => (yus_n p0 p1).symm) W
  · have a := yup_k (kd := kd) (sg := sg) (sd := sd) (N := N) (k := k) (s := s) (ad := ad) i i0 (by omega)
    rw [← a.1, ← a.2.1]
    exact yWf_c a.2.2 (h i i0 (by omega))
theorem p_new9 (I : yInv L xs m) (hQ : ∀ r m2, yInv L xs m2 → Q r r m2) {N : Int} (hN : zr m 8 1 = N) {Mc : ZN} {X : Int → ZN → Prop} {kd sg : Int} {ad : Int → Int}
    (h1 : ∀ a, a ≠ 10 + 4 * N → a ≠ 12 + 4 * N → a ≠ 13 + 4 * N → a ≠ 8 → zr Mc a = zr m a) (h8 : zr Mc 8 1 = N) (h82 : zr Mc 8 2 = 1)
    (hR : yCR (zr Mc (10 + 4 * N)) (zr Mc (12 + 4 * N)) (zr Mc (13 + 4 * N)) kd sg ad) (hB : kd ≤ 5 → zr Mc (10 + 4 * N) 5 = yLc kd ad) (W : yWf kd sg ad N)
    (hX : ∀ v m1, (∀ a, a ≠ 8 ∧ ¬ (10 ≤ a ∧ a ≤ 109) ∧ a ≠ 234 → zr m1 a = zr m a) → (∀ M3, ySc m1 M3 → zr M3 236 39 = sg → (∀ k, 0 ≤ k → k < 8 → zr M3 268 k = ad k) → zcI (d + 7) 249 [zA 236, zI kd] M3 (fun v2 m2 => Q v v2 m2)) → X v m1) : zcI (d2 + 5) 169 [zA 3] Mc X := by
  obtain ⟨n1, n2, n3⟩ := I.2.2.1.1
  have iC := I.2.2.1.2.1
  have iM := I.2.2.1.2.2
  rw [hN] at n1 n2 iC iM
  have hk := yup_k (kd := zr m 254) (sg := zr m 255) (sd := zr m 256) (N := N) (k := kd) (s := sg) (ad := ad)
  have sc10 : ∀ {M M3 : ZN}, ySc M M3 → ∀ j, ¬ (32 ≤ j ∧ j ≤ 40) → zr M3 236 j = zr M 236 j := fun h j hj => h 236 j (by unfold yscr; omega)
  have sc216 : ∀ {M M3 : ZN}, ySc M M3 → zr M3 216 1 = zr M 216 1 := fun h => h 216 1 (by unfold yscr; omega)
  have scf : ∀ {M M3 : ZN}, ySc M M3 → ∀ a : Int, (a ≠ 236 ∧ ¬ (218 ≤ a ∧ a ≤ 233) ∧ a ≠ 235 ∧ a ≠ 216 ∧ a ≠ 249 ∧ ¬ (265 ≤ a ∧ a ≤ 268)) → zr M3 a = zr M a := fun h a ha => h.fn (fun j => by unfold yscr; omega)
  by_cases q : N < 24
  · have WN := yup_W iC.1 W
    have hI : yIC (zr Mc) 10 N (yup (zr m 254) N kd) (yup (zr m 255) N sg) (yus (zr m 256) N ad) := yIC_c (yIC_fr2 iC (fun a a0 a1 => h1 a (by omega) (by omega) (by omega) (by omega))) (by omega) hk
    refine c_169 (T := N + 1) (d := d2) WN (by omega) (by omega) (by omega) (by omega) (fun i i0 i1 => ?_) (fun i i0 i1 h5 => ?_) (by rw [h8]; exact hI) (fun M2 k1 k2 => ?_)
    · by_cases qi : i = N
      · subst qi
        rw [yup_n, yup_n]
        exact yCR_c (fun p p0 p1 => (yus_n p0 p1).symm) hR
      · have := (hI.2.1 i i0 (by omega)).1
        rw [show 10 + 2 + 4 * i = 12 + 4 * i by omega, show 10 + 3 + 4 * i = 13 + 4 * i by omega] at this
        exact this
    · have : i = N := by omega
      subst this
      rw [yCo_l h5]
      rw [yup_n] at h5 ⊢
      rw [hB h5]
      exact yLc_c (fun p p0 p1 => (yus_n p0 p1).symm)
    · rw [show N + 1 - 1 = N by omega]
      have f1 : ∀ a, a ≠ 8 ∧ ¬ (10 ≤ a ∧ a ≤ 109) → zr (zsn (zsn M2 8 1 (N + 1)) 8 2 0) a = zr m a := fun a ha => by
        rw [yfc (by omega), yfc (by omega), k1 a (by omega), h1 a (by omega) (by omega) (by omega) (by omega)]
      have g1 : zr (zsn (zsn M2 8 1 (N + 1)) 8 2 0) 8 1 = N + 1 := by rw [yr_so (by decide), yr_ss (znp_o rfl)]
      have g2 : zr (zsn (zsn M2 8 1 (N + 1)) 8 2 0) 8 2 = 0 := by rw [yr_ss (znp_o rfl)]
      have g3 : ∀ a, 10 ≤ a → a ≤ 109 → zr (zsn (zsn M2 8 1 (N + 1)) 8 2 0) a = zr M2 a := fun a a0 a1 => by rw [yfc (by omega), yfc (by omega)]
      generalize zsn (zsn M2 8 1 (N + 1)) 8 2 0 = M2' at *
      refine hX N M2' (fun a ha => f1 a (by omega)) (fun M3 s1 s2 s3 => ?_)
      have t1 : ∀ a, a ≠ 8 ∧ ¬ (10 ≤ a ∧ a ≤ 109) ∧ (a ≠ 236 ∧ ¬ (218 ≤ a ∧ a ≤ 233) ∧ a ≠ 235 ∧ a ≠ 216 ∧ a ≠ 249 ∧ ¬ (265 ≤ a ∧ a ≤ 268)) → zr M3 a = zr m a := fun a ha => (scf s1 a (by omega)).trans (f1 a (by omega))
      have u10 : zr M3 236 10 = N := by rw [sc10 s1 10 (by decide), f1 236 (by omega)]; exact n1.symm
      refine c_249 (d := d + 1) (kd := kd) (sg := sg) (ad := ad) u10 n2.1 q s2 s3 ?_ ?_ (fun M4 k => ?_)
      · rw [t1 254 (by omega), t1 255 (by omega), t1 256 (by omega)]
        exact WN
      · rw [t1 254 (by omega), t1 255 (by omega), t1 256 (by omega)]
        exact yIM_c (yIM_fr iM (fun a a0 a1 => t1 a (by omega))) iC.1 (by omega) hk
      · obtain ⟨z1, z2, z3, z4, z5, z6, z7⟩ := k
        rw [t1 254 (by omega)] at z4 z7
        rw [t1 255 (by omega)] at z5 z7
        rw [t1 256 (by omega)] at z6 z7
        have v8 : zr M4 8 = zr M2' 8 := (z1 8 (by omega)).trans (scf s1 8 (by omega))
        refine hQ _ _ (yInv_CRz I (fun a ha => ?_) (fun j hj => ?_) ?_ ?_ ⟨⟨?_, ?_, ?_⟩, ?_, ?_⟩ ?_)
        · rw [z1 a (by omega), t1 a (by omega)]
        · rw [z2 j (by omega) (by omega), sc10 s1 j (by omega), f1 236 (by omega)]
        · rw [z1 216 (by omega), sc216 s1, f1 216 (by omega)]
        · rw [v8, g1, hN]
          omega
        · rw [v8, g1, z3]
        · rw [v8, g1]
          omega
        · rw [v8, g2]
        · rw [v8, g1, z4, z5, z6]
          exact yIC_fr k2 (by omega) (fun a a0 a1 => by rw [z1 a (by omega), scf s1 a (by omega), g3 a (by omega) (by omega)])
        · rw [v8, g1, z4, z5, z6]
          exact z7
        · intro p p0 p1
          rw [z1 234 (by omega), z1 252 (by omega), t1 234 (by omega), t1 252 (by omega)]
          exact I.2.2.2.2.2.2 p p0 p1
  · have q : N = 24 := by omega
    subst q
    rw [c_169f (d := d2) (by omega) (by omega) (by omega) (by omega) (by omega)]
    have np : ∀ j, znp' 234 j = true := ynl rfl
    have np2 : ∀ j, znp' 252 j = true := ynl rfl
    have f1 : ∀ a, a ≠ 8 ∧ ¬ (10 ≤ a ∧ a ≤ 109) ∧ a ≠ 234 → zr (zsn (zsn Mc 8 2 0) 234 (-102 - -106) (zb (zr (zsn Mc 8 2 0) 234 (-102 - -106) + 1))) a = zr m a := fun a ha => by
      rw [yfc (by omega), yfc (by omega), h1 a (by omega) (by omega) (by omega) (by omega)]
    have g1 : zr (zsn (zsn Mc 8 2 0) 234 (-102 - -106) (zb (zr (zsn Mc 8 2 0) 234 (-102 - -106) + 1))) 8 1 = 24 := by rw [yfc (by decide), yr_so (by decide), h8]
    have g2 : zr (zsn (zsn Mc 8 2 0) 234 (-102 - -106) (zb (zr (zsn Mc 8 2 0) 234 (-102 - -106) + 1))) 8 2 = 0 := by rw [yfc (by decide), yr_ss (znp_o rfl)]
    have g3 : ∀ a, 10 ≤ a → a < 106 → zr (zsn (zsn Mc 8 2 0) 234 (-102 - -106) (zb (zr (zsn Mc 8 2 0) 234 (-102 - -106) + 1))) a = zr m a := fun a a0 a1 => by
      rw [yfc (by omega), yfc (by omega), h1 a (by omega) (by omega) (by omega) (by omega)]
    have g4 : ∀ j, zr (zsn (zsn Mc 8 2 0) 234 (-102 - -106) (zb (zr (zsn Mc 8 2 0) 234 (-102 - -106) + 1))) 234 j = if j = 4 then zb (zr m 234 4 + 1) else zr m 234 j := fun j => by
      rw [yr_sa (np _), yfc (by decide), h1 234 (by decide) (by decide) (by decide) (by decide)]
      rfl
    generalize zsn (zsn Mc 8 2 0) 234 (-102 - -106) (zb (zr (zsn Mc 8 2 0) 234 (-102 - -106) + 1)) = M2' at *
    refine hX (-106) M2' f1 (fun M3 s1 s2 s3 => ?_)
    have t1 : ∀ a, a ≠ 8 ∧ ¬ (10 ≤ a ∧ a ≤ 109) ∧ a ≠ 234 ∧ (a ≠ 236 ∧ ¬ (218 ≤ a ∧ a ≤ 233) ∧ a ≠ 235 ∧ a ≠ 216 ∧ a ≠ 249 ∧ ¬ (265 ≤ a ∧ a ≤ 268)) → zr M3 a = zr m a := fun a ha => (scf s1 a (by omega)).trans (f1 a (by omega))
    have u10 : zr M3 236 10 = 24 := by rw [sc10 s1 10 (by decide), f1 236 (by omega)]; exact n1.symm
    rw [c_249f (d := d + 1) u10]
    have v8 : zr M3 8 = zr M2' 8 := scf s1 8 (by omega)
    refine hQ _ _ (yInv_CRz I (fun a ha => ?_) (fun j hj => ?_) ?_ ?_ ⟨⟨?_, ?_, ?_⟩, ?_, ?_⟩ ?_)
    · rw [yfc (by omega), t1 a (by omega)]
    · rw [yfc (by omega), sc10 s1 j (by omega), f1 236 (by omega)]
    · rw [yfc (by omega), sc216 s1, f1 216 (by omega)]
    · rw [yfc (by omega), v8, g1, hN]
      omega
    · rw [yfc (by omega), yfc (by omega), v8, g1, u10]
    · rw [yfc (by omega), v8, g1]
      omega
    · rw [yfc (by omega), v8, g2]
    · rw [yfc (by omega), v8, g1, yfc (by omega), yfc (by omega), yfc (by omega), t1 254 (by omega), t1 255 (by omega), t1 256 (by omega)]
      exact yIC_fr2 iC (fun a a0 a1 => by rw [yfc (by omega), scf s1 a (by omega), g3 a (by omega) (by omega)])
    · rw [yfc (by omega), v8, g1, yfc (by omega), yfc (by omega), yfc (by omega), t1 254 (by omega), t1 255 (by omega), t1 256 (by omega)]
      exact yIM_fr iM (fun a a0 a1 => by rw [yfc (by omega), t1 a (by omega)])
    · intro p p0 p1
      have hr := I.2.2.2.2.2.2 p p0 p1
      rw [yfc (by omega), scf s1 234 (by omega), g4, yr_sa (np2 _), t1 252 (by omega)]
      by_cases qp : p = 4
      · subst qp
        rw [if_pos rfl, if_pos (by decide), show -(-106 : Int) - 100 = 4 + 2 by decide, hr]
      · rw [if_neg qp, if_neg (by omega), hr]
/-- by a condition that is told at once -/
theorem p_new (I : yInv L xs m) (hQ : ∀ r m2, yInv L xs m2 → Q r r m2) {N : Int} (hN : zr m 8 1 = N) {Mc : ZN} {X : Int → ZN → Prop} {kd sg a0 a1 a2 : Int} {ad : Int → Int} (had : ad = fun k => if k = 0 then a0 else if k = 1 then a1 else if k = 2 then a2 else -1)
    (h1 : ∀ a, a ≠ 10 + 4 * N → a ≠ 12 + 4 * N → a ≠ 13 + 4 * N → a ≠ 8 → zr Mc a = zr m a) (h8 : zr Mc 8 1 = N) (h82 : zr Mc 8 2 = 1)
    (hR : yCR (zr Mc (10 + 4 * N)) (zr Mc (12 + 4 * N)) (zr Mc (13 + 4 * N)) kd sg ad) (hB : kd ≤ 5 → zr Mc (10 + 4 * N) 5 = yLc kd ad) (W : yWf kd sg ad N)
    (hX : ∀ v m1, zr m1 236 = zr m 236 → zcI (d + 8) 250 [zA 236, zI kd, zI sg, zI a0, zI a1, zI a2] m1 (fun v2 m2 => Q v v2 m2) → X v m1) : zcI (d2 + 5) 169 [zA 3] Mc X := by
  refine p_new9 (d := d) I hQ hN h1 h8 h82 hR hB W (fun v m1 k1 k2 => hX v m1 (k1 236 (by omega)) (w_250 ?_))
  rw [c_231, yck_of (by decide), yck_of (by decide), yck_of (by decide)]
  have np : ∀ j, znp' 268 j = true := ynl rfl
  refine k2 _ ((((((ySc.refl _).sn _ (by unfold yscr; omega)).cc _ (by unfold yscr; omega)).sn _ (by unfold yscr; omega)).sn _ (by unfold yscr; omega)).sn _ (by unfold yscr; omega) |>.sn _ (by unfold yscr; omega)) ?_ (fun k k0 k1 => ?_)
  · rw [yfc (by omega), yfc (by omega), yfc (by omega), yr_ss (znp_o rfl)]
  · rw [had, yr_sa (np _), yr_sa (np _), yr_sa (np _), yfc (by omega), yr_cs (np _)]
    by_cases q2 : k = 2
    · subst q2; rfl
    · rw [if_neg q2]
      by_cases q1 : k = 1
      · subst q1; rfl
      · rw [if_neg q1]
        by_cases q0 : k = 0
        · subst q0; rfl
        · rw [if_neg q0]
          simp only [if_neg q0, if_neg q1, if_neg q2, if_pos (show 0 ≤ k ∧ k < 8 from ⟨k0, k1⟩)]
end PN
