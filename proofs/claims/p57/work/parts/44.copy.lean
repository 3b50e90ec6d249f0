/-! ===== a condition copied, whole lists copied ===== -/
/-- what a copy of cell b into cell a keeps -/
def yCp (m M : ZN) (a b : Int) : Prop :=
  (∀ c, c ≠ a → c ≠ a + 1 → c ≠ a + 2 → c ≠ a + 3 → zr M c = zr m c) ∧ (∀ j, (0 ≤ j ∧ j < 8 ∨ j = 9) → zr M a j = zr m b j)
  ∧ (∀ k, 0 ≤ k → k < zr m b 9 → zr M (a + 2) k = zr m (b + 2) k ∧ zr M (a + 3) k = zr m (b + 3) k) ∧ ∀ p, 0 ≤ p → p < 1000 → yTw (zr M (a + 1)) p = yTw (zr m (b + 1)) p
section CP
variable {d : Nat} {m : ZN}
theorem c_6e {a b : Int} {M : ZN} {P : Option ZV → ZN → Prop} (ha : isC a) (hb : isC b) (hab : a ≠ b) (hF : ∀ c, c ≠ a → c ≠ a + 2 → c ≠ a + 3 → zr M c = zr m c) (h4 : ∀ j, 0 ≤ j → j < 4 → zr M a j = zr m b j) (h9 : zr M a 9 = zr m b 9) (hk : ∀ k, 0 ≤ k → k < zr m b 9 → zr M (a + 2) k = zr m (b + 2) k ∧ zr M (a + 3) k = zr m (b + 3) k)
    (h : ∀ M2, yCp m M2 a b → P none M2) : zwpN (d + 1) 6 22 [some (zA a), some (zA b), some (zI (zr m b 9))] [] M P := by
  have dj : ∀ i, 0 ≤ i → i < 4 → b + i ≠ a ∧ b + i ≠ a + 1 ∧ b + i ≠ a + 2 ∧ b + i ≠ a + 3 := fun i i0 i1 => by unfold isC at ha hb; omega
  have eb : zr M b = zr m b := by have := dj 0 (by decide) (by decide); exact hF b (by omega) (by omega) (by omega)
  have eb1 : zr M (b + 1) = zr m (b + 1) := by have := dj 1 (by decide) (by decide); exact hF (b + 1) (by omega) (by omega) (by omega)
  have np1 := isC_np1 ha
  refine w_6_22 ?_
  simp only [isC_pos ha, isC_pos hb, isC_O ha, isC_O hb, cond_true, isC_f hb (j := 9) (Or.inr rfl), isC_f hb (j := 4) (Or.inl (by decide)), isC_f hb (j := 5) (Or.inl (by decide)), isC_f hb (j := 6) (Or.inl (by decide)), isC_f hb (j := 7) (Or.inl (by decide)), isC_np ha (j := 4) (Or.inl (by decide)), isC_np ha (j := 5) (Or.inl (by decide)), isC_np ha (j := 6) (Or.inl (by decide)), isC_np ha (j := 7) (Or.inl (by decide)), isC_t ha, isC_t hb, isC_L1 ha, isC_n1 ha, isC_n1 hb, (isC_sh ha).2.1, (isC_sh hb).2.1, Bool.and_true, eb, if_neg (show ¬ zr m b 9 < zr m b 9 by omega)]
  have bl : (Nat.ble 0 2 && Nat.beq 0 0) = true := rfl
  rw [bl, cond_true, yck_of (by decide)]
  have nb : b ≠ a := fun z => hab z.symm
  refine h _ ⟨fun c c0 c1 c2 c3 => ?_, fun j hj => ?_, fun k k0 k1 => ?_, fun p p0 p1 => ?_⟩
  · rw [yfcc c1, yfc c0, yfc c0, yfc c0, yfc c0]
    exact hF c c0 c2 c3
  · rw [yr_cc (by omega)]
    simp only [yr_sc (show b ≠ a from nb), eb]
    by_cases q7 : j = 7
    · rw [q7, yr_ss (isC_np ha (Or.inl (by decide)))]
    · rw [yr_so q7]
      by_cases q6 : j = 6
      · rw [q6, yr_ss (isC_np ha (Or.inl (by decide)))]
      · rw [yr_so q6]
        by_cases q5 : j = 5
        · rw [q5, yr_ss (isC_np ha (Or.inl (by decide)))]
        · rw [yr_so q5]
          by_cases q4 : j = 4
          · rw [q4, yr_ss (isC_np ha (Or.inl (by decide)))]
          · rw [yr_so q4]
            by_cases q9 : j = 9
            · rw [q9]; exact h9
            · exact h4 j (by omega) (by omega)
  · rw [yfcc (by omega), yfc (by omega), yfc (by omega), yfc (by omega), yfc (by omega), yfcc (by omega), yfc (by omega), yfc (by omega), yfc (by omega), yfc (by omega)]
    exact hk k k0 k1
  · have := dj 1 (by decide) (by decide)
    refine yTw_c p0 p1 (fun j j0 j1 => ?_)
    rw [yr_cs (np1 _), if_pos (by omega), yfc (by omega), yfc (by omega), yfc (by omega), yfc (by omega), eb1, show 0 + (j - 0) = j by omega]
theorem c_6 {a b : Int} {K : ZN → Prop} (ha : isC a) (hb : isC b) (hab : a ≠ b) (h90 : 0 ≤ zr m b 9) (h93 : zr m b 9 ≤ 3) (h : ∀ M2, yCp m M2 a b → K M2) : zcV (d + 1) 6 [zA a, zA b] m K := by
  have dj : ∀ i, 0 ≤ i → i < 4 → b + i ≠ a ∧ b + i ≠ a + 1 ∧ b + i ≠ a + 2 ∧ b + i ≠ a + 3 := fun i i0 i1 => by unfold isC at ha hb; omega
  have npa : ∀ j, (0 ≤ j ∧ j < 8 ∨ j = 9) → znp' a j = true := fun j h => isC_np ha h
  have np2 := isC_np2 ha
  have np3 := isC_np3 ha
  refine w_6 ?_
  simp only [isC_pos ha, isC_pos hb, isC_O ha, isC_O hb, cond_true, isC_f hb (j := 0) (Or.inl (by decide)), isC_f hb (j := 1) (Or.inl (by decide)), isC_f hb (j := 2) (Or.inl (by decide)), isC_f hb (j := 3) (Or.inl (by decide)), c_1 ha]
  refine yfor (fun i => ∀ M, (∀ c, c ≠ a → c ≠ a + 2 → c ≠ a + 3 → zr M c = zr m c) → (∀ j, 0 ≤ j → j < 4 → zr M a j = zr m b j) → zr M a 9 = i → (∀ k, 0 ≤ k → k < i → zr M (a + 2) k = zr m (b + 2) k ∧ zr M (a + 3) k = zr m (b + 3) k) → zwpN (d + 1) 6 22 [some (zA a), some (zA b), some (zI i)] [] M (zPV K)) 0 (zr m b 9) h90 (fun i i0 i1 hW M k1 k2 k3 k4 => ?_) (fun M k1 k2 k3 k4 => ?_) _ (fun c c0 c2 c3 => ?_) (fun j j0 j1 => ?_) ?_ (fun k k0 k1 => by omega)
  · have eb : zr M b = zr m b := by have := dj 0 (by decide) (by decide); exact k1 b (by omega) (by omega) (by omega)
    have eb2 : zr M (b + 2) = zr m (b + 2) := by have := dj 2 (by decide) (by decide); exact k1 (b + 2) (by omega) (by omega) (by omega)
    have eb3 : zr M (b + 3) = zr m (b + 3) := by have := dj 3 (by decide) (by decide); exact k1 (b + 3) (by omega) (by omega) (by omega)
    refine w_6_22 ?_
    simp only [isC_pos ha, isC_pos hb, isC_O ha, isC_O hb, cond_true, isC_f hb (j := 9) (Or.inr rfl), isC_c hb, isC_w hb, isC_I2 hb, isC_I3 hb, isC_n2 hb, isC_n3 hb, isC_r2 hb, isC_r3 hb, eb, eb2, eb3, if_pos i1, yck_of (show 0 ≤ i ∧ i < 3 by omega), show zb (i + 1) = i + 1 from yb_id (by omega) (by omega)]
    rw [c_2 ha (by omega) (by omega), k3]
    refine hW _ (fun c c0 c2 c3 => ?_) (fun j j0 j1 => ?_) ?_ (fun k k0 k5 => ⟨?_, ?_⟩)
    · rw [yfc c0, yfc c0, yfc c3, yfc c2]
      exact k1 c c0 c2 c3
    · rw [yr_so (by omega), yr_so (by omega), yr_sc (by omega), yr_sc (by omega)]
      exact k2 j j0 j1
    · rw [yr_ss (npa _ (Or.inr rfl))]
    · rw [yr_sc (by omega), yr_sc (by omega), yr_sc (by omega), yr_sa (np2 _)]
      by_cases q : k = i
      · rw [if_pos q, q]
      · rw [if_neg q]
        exact (k4 k k0 (by omega)).1
    · rw [yr_sc (by omega), yr_sc (by omega), yr_sa (np3 _)]
      by_cases q : k = i
      · rw [if_pos q, q]
      · rw [if_neg q, yr_sc (by omega)]
        exact (k4 k k0 (by omega)).2
  · exact c_6e ha hb hab k1 k2 k3 k4 h
  · rw [yfc c0, yfc c0, yfc c0, yfc c0, yfc c0, yfc c0, yfc c0]
  · rw [yr_so (by omega), yr_so (by omega), yr_so (by omega)]
    by_cases q3 : j = 3
    · rw [q3, yr_ss (npa _ (Or.inl (by decide)))]
    · rw [yr_so q3]
      by_cases q2 : j = 2
      · rw [q2, yr_ss (npa _ (Or.inl (by decide)))]
      · rw [yr_so q2]
        by_cases q1 : j = 1
        · rw [q1, yr_ss (npa _ (Or.inl (by decide)))]
        · rw [yr_so q1]
          have : j = 0 := by omega
          rw [this, yr_ss (npa _ (Or.inl (by decide)))]
  · rw [yr_ss (npa _ (Or.inr rfl))]
end CP
