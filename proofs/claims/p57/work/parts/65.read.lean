/-! ===== which keys a plan reads ===== -/
theorem yr_at (t : Int → Int) (k : Nat) : ∀ r : Nat, yrc t (k + 1) ≤ yrc t (k + 1 + r) ∧ (∀ i, 0 ≤ i → i < yrc t (k + 1 + r) → (yrF t (k + 1 + r) i ≤ k ↔ i < yrc t (k + 1))) ∧ (1 ≤ yrc t (k + 1) → (t k = 1 ↔ (k : Int) ≤ yrL t (k + 1 + r) (yrc t (k + 1) - 1))) ∧ (¬ t k = 1 → yrc t (k + 1 + r) = yrc t (k + 1) → yrv t (k + 1 + r) = 0) := by
  intro r
  have hk := yrc_r t k
  have hk1 := yrc_r t (k + 1)
  induction r with
  | zero =>
    have o := yr_ord t (k + 1)
    have ok := yr_ord t k
    have ek : (((k + 1 : Nat)) : Int) = (k : Int) + 1 := by omega
    show yrc t (k + 1) ≤ yrc t (k + 1) ∧ (∀ i, 0 ≤ i → i < yrc t (k + 1) → (yrF t (k + 1) i ≤ k ↔ i < yrc t (k + 1))) ∧ (1 ≤ yrc t (k + 1) → (t k = 1 ↔ (k : Int) ≤ yrL t (k + 1) (yrc t (k + 1) - 1))) ∧ (¬ t k = 1 → yrc t (k + 1) = yrc t (k + 1) → yrv t (k + 1) = 0)
    refine ⟨Int.le_refl _, fun i i0 i1 => ?_, fun h1 => ?_, fun h _ => by rw [yrv_s, if_neg h]⟩
    · have := o.1 i i0 i1
      omega
    · by_cases q : t k = 1
      · rw [yrL_s, if_pos ⟨q, rfl⟩]
        exact ⟨fun _ => Int.le_refl _, fun _ => q⟩
      · have hs : yrc t (k + 1) = yrc t k := by rw [yrc_s, if_neg (fun z => q z.1)]
        rw [yrL_s, if_neg (fun z => q z.1)]
        have := (ok.1 (yrc t (k + 1) - 1) (by omega) (by omega)).2.2.1
        exact ⟨fun z => absurd z q, fun z => by omega⟩
  | succ r ih =>
    obtain ⟨a, b, c, e⟩ := ih
    rw [show k + 1 + (r + 1) = k + 1 + r + 1 from rfl]
    have eK : (((k + 1 + r : Nat)) : Int) = (k : Int) + 1 + r := by omega
    have hK := yrc_r t (k + 1 + r)
    by_cases q : t ((k + 1 + r : Nat) : Int) = 1
    · by_cases q2 : yrv t (k + 1 + r) = 0
      · have hs : yrc t (k + 1 + r + 1) = yrc t (k + 1 + r) + 1 := by rw [yrc_s, if_pos ⟨q, q2⟩]
        refine ⟨by omega, fun i i0 i1 => ?_, fun h1 => ?_, fun h h2 => by omega⟩
        · rw [yrF_s]
          by_cases q3 : i = yrc t (k + 1 + r)
          · rw [if_pos ⟨⟨q, q2⟩, q3⟩]; omega
          · rw [if_neg (fun z => q3 z.2)]; exact b i i0 (by omega)
        · rw [yrL_s, hs, if_neg (fun z => by omega)]
          exact c h1
      · have hs : yrc t (k + 1 + r + 1) = yrc t (k + 1 + r) := by rw [yrc_s, if_neg (fun z => q2 z.2)]
        refine ⟨by omega, fun i i0 i1 => ?_, fun h1 => ?_, fun h h2 => ?_⟩
        · rw [yrF_s, if_neg (fun z => q2 z.1.2)]; exact b i i0 (by omega)
        · rw [yrL_s, hs]
          by_cases q3 : yrc t (k + 1) - 1 = yrc t (k + 1 + r) - 1
          · rw [if_pos ⟨q, q3⟩]
            by_cases q4 : t k = 1
            · exact ⟨fun _ => by omega, fun _ => q4⟩
            · exact absurd (e q4 (by omega)) q2
          · rw [if_neg (fun z => q3 z.2)]
            exact c h1
        · exact absurd (e h (by omega)) q2
    · have hs : yrc t (k + 1 + r + 1) = yrc t (k + 1 + r) := by rw [yrc_s, if_neg (fun z => q z.1)]
      refine ⟨by omega, fun i i0 i1 => ?_, fun h1 => ?_, fun h h2 => by rw [yrv_s, if_neg q]⟩
      · rw [yrF_s, if_neg (fun z => q z.1.1)]; exact b i i0 (by omega)
      · rw [yrL_s, if_neg (fun z => q z.1)]
        exact c h1
/-- the run, or the gap, in which a key is -/
def ybg (t : Int → Int) (k : Int) : Int := yrc t (k.toNat + 1) - 1
theorem yr_k {t : Int → Int} {k : Int} (k0 : 0 ≤ k) (k1 : k < 1000) : -1 ≤ ybg t k ∧ ybg t k < yrc t 1000 ∧ (∀ i, 0 ≤ i → i < yrc t 1000 → (yrF t 1000 i ≤ k ↔ i ≤ ybg t k)) ∧ (t k = 1 → 0 ≤ ybg t k) ∧ (0 ≤ ybg t k → (t k = 1 ↔ k ≤ yrL t 1000 (ybg t k))) := by
  obtain ⟨a, b, c, e⟩ := yr_at t k.toNat (999 - k.toNat)
  rw [show k.toNat + 1 + (999 - k.toNat) = 1000 by omega] at a b c e
  have ek : ((k.toNat : Nat) : Int) = k := by omega
  rw [ek] at b c e
  have hr := yrc_r t (k.toNat + 1)
  unfold ybg
  refine ⟨by omega, by omega, fun i i0 i1 => ?_, fun q => ?_, fun q => c (by omega)⟩
  · have := b i i0 i1
    omega
  · have hv : yrv t (k.toNat + 1) = 1 := by rw [yrv_s, ek, if_pos q]
    omega
theorem ySpE_f {N n : Int} {S : Int → Prop} {e : Int → Int} (h : ySpE N n S e) {r : Int} (r0 : 0 ≤ r) (r1 : r < N) : ∃ i, 0 ≤ i ∧ i < n ∧ e (i - 1) + 1 ≤ r ∧ r ≤ e i := by
  have hl := ySpE_l h (by omega)
  have key : ∀ k : Nat, (k : Int) < n → (∃ i, 0 ≤ i ∧ i < n ∧ e (i - 1) + 1 ≤ r ∧ r ≤ e i) ∨ e k < r := by
    intro k
    induction k with
    | zero =>
      intro k1
      rcases Int.lt_or_le (e 0) r with q | q
      · exact Or.inr q
      · exact Or.inl ⟨0, by decide, k1, by have := h.1; rw [show (0 : Int) - 1 = -1 from rfl]; omega, q⟩
    | succ k ih =>
      intro k1
      rcases ih (by omega) with q | q
      · exact Or.inl q
      · rcases Int.lt_or_le (e ((k + 1 : Nat) : Int)) r with q2 | q2
        · exact Or.inr q2
        · exact Or.inl ⟨((k + 1 : Nat) : Int), by omega, k1, by rw [show ((k + 1 : Nat) : Int) - 1 = k by omega]; omega, q2⟩
  rcases key (n - 1).toNat (by omega) with q | q
  · exact q
  · rw [show (((n - 1).toNat : Nat) : Int) = n - 1 by omega, hl.2] at q
    omega
/-- a plan reads a key: it is in a run or in a joined gap -/
def yRd (t : Int → Int) (S : Int → Prop) (k : Int) : Prop := t k = 1 ∨ (0 ≤ ybg t k ∧ ybg t k < yrc t 1000 - 1 ∧ S (ybg t k))
theorem yRd_e {t : Int → Int} {n k : Int} {S : Int → Prop} {e : Int → Int} (h : ySpE (yrc t 1000) n S e) (k0 : 0 ≤ k) (k1 : k < 1000) : (∃ i, 0 ≤ i ∧ i < n ∧ yrF t 1000 (e (i - 1) + 1) ≤ k ∧ k ≤ yrL t 1000 (e i)) ↔ yRd t S k := by
  obtain ⟨b1, b2, b3, b4, b5⟩ := yr_k (t := t) k0 k1
  have ord := (yr_ord t 1000).1
  have fnd : 0 ≤ ybg t k → ∃ i, 0 ≤ i ∧ i < n ∧ e (i - 1) + 1 ≤ ybg t k ∧ ybg t k ≤ e i := fun z => by
    exact ySpE_f h z b2
  constructor
  · intro ⟨i, i0, i1, i2, i3⟩
    have hr := ySpE_r h i i0 i1
    have r0 := (b3 _ hr.1 (by omega)).1 i2
    by_cases q : t k = 1
    · exact Or.inl q
    · have q1 : ybg t k < e i := by
        rcases Int.lt_or_le (e i) (ybg t k) with z | z
        · have o := (ord (e i) (by omega) (by omega)).2.2.2 (by omega)
          have := (b3 (e i + 1) (by omega) (by omega)).2 (by omega)
          omega
        · by_cases z2 : ybg t k = e i
          · exact absurd ((b5 (by omega)).2 (by rw [z2]; exact i3)) q
          · omega
      refine Or.inr ⟨by omega, by omega, ?_⟩
      refine Classical.byContradiction (fun z => ?_)
      have := ySpE_e h i0 i1 (by omega) (by omega) (Or.inr z)
      omega
  · intro hk
    rcases hk with q | ⟨q0, q1, q2⟩
    · obtain ⟨i, i0, i1, i2, i3⟩ := fnd (b4 q)
      have hr := ySpE_r h i i0 i1
      refine ⟨i, i0, i1, (b3 _ hr.1 (by omega)).2 i2, ?_⟩
      have kl := (b5 (b4 q)).1 q
      by_cases z : ybg t k = e i
      · rw [← z]; exact kl
      · have := b3 (e i) (by omega) hr.2.2
        have := ord (e i) (by omega) hr.2.2
        omega
    · obtain ⟨i, i0, i1, i2, i3⟩ := fnd q0
      have hr := ySpE_r h i i0 i1
      have hne : ybg t k ≠ e i := fun z => by
        rcases (h.2.2.1 i i0 i1).2 with y | y
        · omega
        · exact y (z ▸ q2)
      refine ⟨i, i0, i1, (b3 _ hr.1 (by omega)).2 i2, ?_⟩
      have := b3 (e i) (by omega) hr.2.2
      have := ord (e i) (by omega) hr.2.2
      omega
/-- a statement as a value -/
noncomputable def ybo (P : Prop) : Bool := @decide P (Classical.propDecidable P)
theorem ybo_t {P : Prop} (h : P) : ybo P = true := @decide_eq_true P (Classical.propDecidable P) h
theorem ybo_f {P : Prop} (h : ¬ P) : ybo P = false := @decide_eq_false P (Classical.propDecidable P) h
theorem ybo_i {P : Prop} : ybo P = true ↔ P := @decide_eq_true_iff P (Classical.propDecidable P)
theorem ybo_c {P Q : Prop} (h : P ↔ Q) : ybo P = ybo Q := by rw [propext h]
