/-! ===== runs lie in order, apart ===== -/
theorem yr_ord (t : Int → Int) : ∀ k : Nat, (∀ i, 0 ≤ i → i < yrc t k → 0 ≤ yrF t k i ∧ yrF t k i ≤ yrL t k i ∧ yrL t k i < k ∧ (i + 1 < yrc t k → yrL t k i + 1 < yrF t k (i + 1))) ∧ (yrv t k = 0 → ∀ i, 0 ≤ i → i < yrc t k → yrL t k i + 1 < k) := by
  intro k
  induction k with
  | zero => exact ⟨fun i i0 i1 => by have : i < 0 := i1; omega, fun _ i i0 i1 => by have : i < 0 := i1; omega⟩
  | succ k ih =>
    have hr := yrc_r t k
    obtain ⟨h1, h2⟩ := ih
    have ek : (((k + 1 : Nat)) : Int) = (k : Int) + 1 := by omega
    by_cases q : t k = 1
    · by_cases q2 : yrv t k = 0
      · have hs : yrc t (k + 1) = yrc t k + 1 := by rw [yrc_s, if_pos ⟨q, q2⟩]
        have hv : yrv t (k + 1) = 1 := by rw [yrv_s, if_pos q]
        have hF : ∀ i, i ≠ yrc t k → yrF t (k + 1) i = yrF t k i := fun i h => by rw [yrF_s, if_neg (fun z => h z.2)]
        have hFe : yrF t (k + 1) (yrc t k) = k := by rw [yrF_s, if_pos ⟨⟨q, q2⟩, rfl⟩]
        have hL : ∀ i, i ≠ yrc t k → yrL t (k + 1) i = yrL t k i := fun i h => by rw [yrL_s, hs, if_neg (fun z => h (by omega))]
        have hLe : yrL t (k + 1) (yrc t k) = k := by rw [yrL_s, hs, if_pos ⟨q, by omega⟩]
        refine ⟨fun i i0 i1 => ?_, fun z => by omega⟩
        rw [hs] at i1 ⊢
        by_cases qi : i = yrc t k
        · subst qi
          rw [hFe, hLe]
          exact ⟨by omega, by omega, by omega, fun z => by omega⟩
        · have a := h1 i i0 (by omega)
          have b := h2 q2 i i0 (by omega)
          rw [hF i qi, hL i qi]
          refine ⟨a.1, a.2.1, by omega, fun z => ?_⟩
          by_cases qj : i + 1 = yrc t k
          · rw [qj, hFe]; exact b
          · rw [hF _ qj]; exact a.2.2.2 (by omega)
      · have hs : yrc t (k + 1) = yrc t k := by rw [yrc_s, if_neg (fun z => q2 z.2)]
        have hv : yrv t (k + 1) = 1 := by rw [yrv_s, if_pos q]
        have hF : ∀ i, yrF t (k + 1) i = yrF t k i := fun i => by rw [yrF_s, if_neg (fun z => q2 z.1.2)]
        have hL : ∀ i, i ≠ yrc t k - 1 → yrL t (k + 1) i = yrL t k i := fun i h => by rw [yrL_s, hs, if_neg (fun z => h z.2)]
        have hLe : yrL t (k + 1) (yrc t k - 1) = k := by rw [yrL_s, hs, if_pos ⟨q, rfl⟩]
        refine ⟨fun i i0 i1 => ?_, fun z => by omega⟩
        rw [hs] at i1 ⊢
        have a := h1 i i0 i1
        rw [hF, hF]
        by_cases qi : i = yrc t k - 1
        · subst qi
          rw [hLe]
          exact ⟨a.1, by omega, by omega, fun z => by omega⟩
        · rw [hL i qi]
          exact ⟨a.1, a.2.1, by omega, a.2.2.2⟩
    · have hs : yrc t (k + 1) = yrc t k := by rw [yrc_s, if_neg (fun z => q z.1)]
      have hF : ∀ i, yrF t (k + 1) i = yrF t k i := fun i => by rw [yrF_s, if_neg (fun z => q z.1.1)]
      have hL : ∀ i, yrL t (k + 1) i = yrL t k i := fun i => by rw [yrL_s, if_neg (fun z => q z.1)]
      refine ⟨fun i i0 i1 => ?_, fun _ i i0 i1 => ?_⟩
      · rw [hs] at i1 ⊢
        have a := h1 i i0 i1
        rw [hF, hF, hL]
        exact ⟨a.1, a.2.1, by omega, a.2.2.2⟩
      · rw [hs] at i1
        have a := h1 i i0 i1
        rw [hL]
        omega
section SP
variable {d : Nat} {m : ZN}
/-- a gap's width -/
theorem c_94 {t : Int → Int} {i : Int} (i0 : 0 ≤ i) (i1 : i + 1 < yrc t 1000) (h : ∀ i, 0 ≤ i → i < yrc t 1000 → zr m 224 i = yrF t 1000 i ∧ zr m 225 i = yrL t 1000 i) (K : Int → ZN → Prop) : zcI d 94 [zA 222, zI i] m K = K (yrF t 1000 (i + 1) - yrL t 1000 i - 1) m := by
  have hr := yrc_r t 1000
  have o1 := (yr_ord t 1000).1 i i0 (by omega)
  have o2 := (yr_ord t 1000).1 (i + 1) (by omega) i1
  refine zcI_eq (w_94 ?_) K
  have e1 : zb (i + 1) = i + 1 := yb_id (by omega) (by omega)
  rw [e1, yck_of (by omega), yck_of (by omega), (h i i0 (by omega)).2, (h (i + 1) (by omega) i1).1, show zb (yrF t 1000 (i + 1) - yrL t 1000 i) = yrF t 1000 (i + 1) - yrL t 1000 i from yb_id (by omega) (by omega), yb_id (by omega) (by omega)]
  exact ⟨rfl, rfl⟩
end SP
