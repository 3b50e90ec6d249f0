/-! ===== parts still to test ===== -/
theorem yshl2 : ∀ i : Nat, i < 24 → zshl 1 i = ((2 ^ i : Nat) : Int) := by decide +kernel
theorem ysmod : ∀ k : Nat, k < 24 → ((Int32.ofInt (k : Int) &&& 31).toBitVec.smod 32).toNat = k := by decide +kernel
theorem zshrN {a k : Nat} (ha : a < 2147483648) (hk : k < 24) : zshr a k = ((a >>> k : Nat) : Int) := by
  show (Int32.ofInt (a : Int) >>> (Int32.ofInt (k : Int) &&& 31)).toInt = _
  rw [← Int32.toInt_toBitVec, Int32.toBitVec_shiftRight, BitVec.sshiftRight_eq', BitVec.toInt_sshiftRight, ysmod k hk, Int32.toBitVec_ofInt, BitVec.toInt_ofInt, Int.bmod_eq_of_le (by omega) (by omega)]
  rfl
theorem ybt1 {a k : Nat} (ha : a < 16777216) (hk : k < 24) : zand a (zshl 1 k) = 0 ↔ a.testBit k = false := by
  have h2 : 2 ^ k < 2147483648 := Nat.lt_of_lt_of_le (Nat.pow_lt_pow_right (by decide) hk) (by decide)
  rw [yshl2 k hk, zandN (by omega) h2]
  have hb : (a &&& 2 ^ k).testBit k = a.testBit k := by rw [Nat.testBit_and, Nat.testBit_two_pow_self, Bool.and_true]
  constructor
  · intro h
    rw [← hb, show (a &&& 2 ^ k) = 0 by omega, Nat.zero_testBit]
  · intro h
    have : (a &&& 2 ^ k) = 0 := Nat.eq_of_testBit_eq (fun i => by
      rw [Nat.testBit_and, Nat.zero_testBit, Nat.testBit_two_pow]
      by_cases q : k = i
      · rw [← q, h]; rfl
      · rw [decide_eq_false q]; exact Bool.and_false _)
    omega
theorem ybt2 {a k : Nat} (ha : a < 16777216) (hk : k < 24) : zand (zshr a k) 1 = 1 ↔ a.testBit k = true := by
  have hl : a >>> k ≤ a := Nat.shiftRight_le a k
  rw [zshrN (by omega) hk, show (1 : Int) = ((1 : Nat) : Int) from rfl, zandN (by omega) (by decide), Nat.and_one_is_mod, show a.testBit k = (1 &&& (a >>> k) != 0) from rfl, Nat.one_and_eq_mod_two, bne_iff_ne]
  omega
theorem yPa_b {kd sg sd : Int → Int} {N : Int} (h : yWA kd sg sd N) (hN : N ≤ 24) (n : Nat) : ∀ i : Nat, (i : Int) < N → i < n → ∃ a : Nat, yPa kd sd i = a ∧ a < 2 ^ (i + 1) := by
  have wr := yWA_r h
  have hs : ∀ i : Nat, (i : Int) < N → ∃ a : Nat, zshl 1 i = a ∧ a < 2 ^ (i + 1) := fun i i1 => ⟨2 ^ i, yshl2 i (by omega), Nat.pow_lt_pow_right (by decide) (by omega)⟩
  have p24 : ∀ i : Nat, (i : Int) < N → ∀ a : Nat, a < 2 ^ (i + 1) → a < 16777216 := fun i i1 a ha => Nat.lt_of_lt_of_le ha (show 2 ^ (i + 1) ≤ 2 ^ 24 from Nat.pow_le_pow_right (by decide) (by omega))
  have lift : ∀ i j : Nat, j < i → ∀ a : Nat, a < 2 ^ (j + 1) → a < 2 ^ (i + 1) := fun i j ij a ha => Nat.lt_of_lt_of_le ha (Nat.pow_le_pow_right (by decide) (by omega))
  induction n with
  | zero => intro i _ i1; omega
  | succ n ih =>
    intro i i1 i2
    by_cases q : kd i ≤ 5
    · rw [yPa_l q]; exact hs i i1
    · rw [yPa_o wr (by omega) i1 (by omega) (by omega)]
      by_cases q6 : kd i = 6
      · obtain ⟨w1, w2⟩ := wr i (by omega) i1 (by omega)
        have w2 := w2 (by omega)
        rw [if_pos q6, if_pos (by omega)]
        obtain ⟨x, hx⟩ := Int.eq_ofNat_of_zero_le w1.1
        obtain ⟨y, hy⟩ := Int.eq_ofNat_of_zero_le w2.1
        rw [hx] at w1 ⊢
        rw [hy] at w2 ⊢
        obtain ⟨a, ha, ha2⟩ := ih x (by omega) (by omega)
        obtain ⟨b, hb, hb2⟩ := ih y (by omega) (by omega)
        rw [ha, hb]
        have z := zorN (a := a) (b := b) (p24 x (by omega) a ha2) (p24 y (by omega) b hb2)
        exact ⟨_, z.1, Nat.or_lt_two_pow (lift i x (by omega) a ha2) (lift i y (by omega) b hb2)⟩
      · rw [if_neg q6]; exact hs i i1
/-- the set of those of the first n that fit -/
noncomputable def yset (p : Nat → Prop) : Nat → Int
  | 0 => 0
  | n + 1 => bif ybo (p n) then zor (yset p n) (zshl 1 n) else yset p n
theorem yset_t {p : Nat → Prop} {n : Nat} (h : p n) : yset p (n + 1) = zor (yset p n) (zshl 1 n) := by
  show (bif ybo (p n) then _ else _) = _
  rw [ybo_t h]; rfl
theorem yset_f {p : Nat → Prop} {n : Nat} (h : ¬ p n) : yset p (n + 1) = yset p n := by
  show (bif ybo (p n) then _ else _) = _
  rw [ybo_f h]; rfl
theorem yset_x {p : Nat → Prop} {n : Nat} : ∀ k : Nat, (∀ j, n ≤ j → ¬ p j) → yset p (n + k) = yset p n := by
  intro k h
  induction k with
  | zero => rfl
  | succ k ih => rw [show n + (k + 1) = n + k + 1 from rfl, yset_f (h _ (by omega))]; exact ih
section ST
variable {d : Nat} {m : ZN}
theorem c_175 {t u : Int → Int} {a o : Int} {S : Int → Prop} (hA : isC a) (R : yRn t m 1000) (hS : ∀ g, 0 ≤ g → g < yrc t 1000 - 1 → (zr m 230 g = 0 ∧ ¬ S g) ∨ (zr m 230 g = 1 ∧ S g)) (o0 : 0 ≤ o) (o1 : o ≤ 5) (hu : ∀ k, 0 ≤ k → k < 1000 → yTw (zr m (a + 1)) (ypl o k) = u k) (K : Int → ZN → Prop) : zcI (d + 3) 175 [zA 3, zA a, zI o] m K = K (bif ybo (∃ k, 0 ≤ k ∧ k < 1000 ∧ yRd t S k ∧ ¬ u k = 1) then 0 else 1) m := by
  refine zcI_eq (w_175 ?_) K
  refine yfor (fun k => (∀ j, 0 ≤ j → j < k → yRd t S j → u j = 1) → zwpN (d + 3) 175 2 [some (zA 3), some (zA a), some (zI o), some (zI k)] [] m _) 0 1000 (by decide) (fun k k0 k1 hW hj => ?_) (fun hj => ?_) (fun j j0 j1 => by omega)
  · have hpl := ypl_r o0 o1 k0 k1
    have nx : (yRd t S k → u k = 1) → zwpN (d + 3) 175 2 [some (zA 3), some (zA a), some (zI o), some (zI (zb (k + 1)))] [] m _ := fun z => by
      rw [show zb (k + 1) = k + 1 from yb_id (by omega) (by omega)]
      refine hW (fun j j0 j1 => ?_)
      by_cases q : j = k
      · rw [q]; exact z
      · exact hj j j0 (by omega)
    refine w_175_2 ?_
    rw [if_pos k1, c_99 (d := d) R hS k0 k1]
    by_cases q : yRd t S k
    · rw [ybo_t q, show (bif true then (1 : Int) else 0) = 1 from rfl, if_neg (by decide)]
      simp only [isC_pos hA, isC_O hA, cond_true, c_188 o0 o1 k0 k1, c_319 (d := d + 1) hA hpl.1 hpl.2, hu k k0 k1]
      by_cases q2 : u k = 1
      · rw [if_pos q2]; exact nx (fun _ => q2)
      · rw [if_neg q2, yck_of (by decide), ybo_t ⟨k, k0, k1, q, q2⟩]; exact ⟨rfl, rfl⟩
    · rw [ybo_f q, show (bif false then (1 : Int) else 0) = 0 from rfl, if_pos rfl]
      exact nx (fun z => absurd z q)
  · refine w_175_2 ?_
    rw [if_neg (by omega), yck_of (by decide), ybo_f (fun ⟨k, k0, k1, k2, k3⟩ => k3 (hj k k0 k1 k2))]
    exact ⟨rfl, rfl⟩
end ST
