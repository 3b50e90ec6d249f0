/-! ===== lemmas of the walk ===== -/
theorem yck_of {c K : Prop} (h : c) : zck c K = K := propext ⟨fun q => q.2, fun q => ⟨h, q⟩⟩
theorem yif_t {c : Prop} {dc : Decidable c} {A B : Prop} (h : c) : (@ite Prop c dc A B) = A := if_pos h
theorem yif_f {c : Prop} {dc : Decidable c} {A B : Prop} (h : ¬ c) : (@ite Prop c dc A B) = B := if_neg h
theorem ybif_t {b : Bool} {A B : Prop} (h : b = true) : (bif b then A else B) = A := by rw [h]; rfl
theorem yor_t1 {a b : Bool} (h : a = true) : (a || b) = true := by rw [h]; rfl
theorem yand_t {a b : Bool} (h : a = true) (g : b = true) : (a && b) = true := by rw [h, g]; rfl
theorem yb_id {x : Int} (h1 : -2147483648 ≤ x) (h2 : x ≤ 2147483647) : zb x = x := Int.bmod_eq_of_le (by omega) (by omega)
theorem yPI_some (K : Int → ZN → Prop) (x : Int) (m : ZN) : zPI K (some (Sum.inl x)) m = K x m := rfl
theorem yPJ_some (K : Int → ZN → Prop) (x : Int) (m : ZN) : zPJ K (some (Sum.inr (Sum.inl x))) m = K x m := rfl
theorem yPA_some (K : Int → ZN → Prop) (x : Int) (m : ZN) : zPA K (some (Sum.inr (Sum.inr x))) m = K x m := rfl
theorem yPV_none (K : ZN → Prop) (m : ZN) : zPV K none m = K m := rfl
theorem yr_sc {m : ZN} {a j v a' j' : Int} (h : a' ≠ a) : zr (zsn m a j v) a' j' = zr m a' j' := by
  rw [zr_zsn, if_neg (fun q => h q.1.1)]
theorem yr_so {m : ZN} {a j v j' : Int} (h : j' ≠ j) : zr (zsn m a j v) a j' = zr m a j' := by
  rw [zr_zsn, if_neg (fun q => h q.1.2)]
theorem yr_ss {m : ZN} {a j v : Int} (h : znp' a j = true) : zr (zsn m a j v) a j = v := by
  rw [zr_zsn, if_pos ⟨⟨rfl, rfl⟩, Option.isNone_iff_eq_none.mp h⟩]
theorem yr_sa {m : ZN} {a j v j' : Int} (h : znp' a j = true) : zr (zsn m a j v) a j' = if j' = j then v else zr m a j' := by
  rw [zr_zsn]
  by_cases q : j' = j
  · rw [if_pos ⟨⟨rfl, q⟩, Option.isNone_iff_eq_none.mp h⟩, if_pos q]
  · rw [if_neg (fun z => q z.1.2), if_neg q]
theorem yr_cc {m : ZN} {a : Int} {F : Int → Int} {a' j' : Int} (h : a' ≠ a) : zr (zcc m a F) a' j' = zr m a' j' := by
  rw [zr_zcc, if_neg (fun q => h q.1)]
theorem yr_cs {m : ZN} {a : Int} {F : Int → Int} {j' : Int} (h : znp' a j' = true) : zr (zcc m a F) a j' = F j' := by
  rw [zr_zcc, if_pos ⟨rfl, Option.isNone_iff_eq_none.mp h⟩]
theorem yrd_np {m : ZN} {a j : Int} (h : znp' a j = true) : zrd m a j = zr m a j := by
  rw [zrd, Option.isNone_iff_eq_none.mp h]
theorem yrd_pt {m : ZN} {a j p : Int} (h : zpv a j = some p) : zrd m a j = p := by
  rw [zrd, h]
theorem ynl {a : Int} (h : Nat.blt (zshF a).1 4 = true) (j : Int) : znp' a j = true := znp_low (by rw [← zshF_eq]; exact Nat.le_of_ble_eq_true h) j
/-- cells of conditions -/
def isC (c : Int) : Prop := (10 ≤ c ∧ c ≤ 106 ∧ c % 4 = 2) ∨ (112 ≤ c ∧ c ≤ 208 ∧ c % 4 = 0)
theorem isC_l {i : Int} (h1 : 0 ≤ i) (h2 : i < 25) : isC (10 + 4 * i) := by unfold isC; omega
theorem isC_k {i : Int} (h1 : 0 ≤ i) (h2 : i < 25) : isC (112 + 4 * i) := by unfold isC; omega
def isCb (n : Nat) : Bool := (Nat.ble 10 n && Nat.ble n 106 && Nat.beq (n % 4) 2) || (Nat.ble 112 n && Nat.ble n 208 && Nat.beq (n % 4) 0)
theorem isC_nat {c : Int} (h : isC c) : ∃ n : Nat, c = (n : Int) ∧ n < 209 ∧ isCb n = true := by
  unfold isC at h
  refine ⟨c.toNat, by omega, by omega, ?_⟩
  unfold isCb
  rw [Bool.or_eq_true, Bool.and_eq_true, Bool.and_eq_true, Bool.and_eq_true, Bool.and_eq_true]
  rcases h with h | h
  · exact Or.inl ⟨⟨Nat.ble_eq_true_of_le (by omega), Nat.ble_eq_true_of_le (by omega)⟩, Nat.beq_eq.mpr (by omega : c.toNat % 4 = 2)⟩
  · exact Or.inr ⟨⟨Nat.ble_eq_true_of_le (by omega), Nat.ble_eq_true_of_le (by omega)⟩, Nat.beq_eq.mpr (by omega : c.toNat % 4 = 0)⟩
theorem isC_fin : ∀ n : Nat, n < 209 → isCb n = true → zshN n = (10, 0) ∧ zshN (n + 1) = (0, 63) ∧ zshN (n + 2) = (0, 3) ∧ zshN (n + 3) = (0, 3) := by decide +kernel
theorem isC_sh {c : Int} (h : isC c) : zshF c = (10, 0) ∧ zshF (c + 1) = (0, 63) ∧ zshF (c + 2) = (0, 3) ∧ zshF (c + 3) = (0, 3) := by
  obtain ⟨n, rfl, h1, h2⟩ := isC_nat h
  exact isC_fin n h1 h2
theorem isC_pos {c : Int} (h : isC c) : zpos c = true := by
  obtain ⟨n, rfl, h1, h2⟩ := isC_nat h
  rfl
theorem isC_O {c : Int} (h : isC c) : zkO c 0 = true := by
  unfold zkO
  rw [(isC_sh h).1]
  rfl
theorem isC_pv {c : Int} (h : isC c) (j : Int) : zpv c j = zpC c.toNat j := by
  obtain ⟨n, rfl, h1, h2⟩ := isC_nat h
  show zpvN n j = zpC n j
  unfold zpvN zpb
  rw [(isC_fin n h1 h2).1]
  rfl
theorem isC_t {m : ZN} {c : Int} (h : isC c) : zrd m c 8 = c + 1 := by
  have h0 : 0 ≤ c := by unfold isC at h; omega
  refine yrd_pt ?_
  rw [isC_pv h]
  show some (((c.toNat + 1 : Nat) : Int)) = some (c + 1)
  congr 1
  omega
theorem isC_c {m : ZN} {c : Int} (h : isC c) : zrd m c 10 = c + 2 := by
  have h0 : 0 ≤ c := by unfold isC at h; omega
  refine yrd_pt ?_
  rw [isC_pv h]
  show some (((c.toNat + 2 : Nat) : Int)) = some (c + 2)
  congr 1
  omega
theorem isC_w {m : ZN} {c : Int} (h : isC c) : zrd m c 11 = c + 3 := by
  have h0 : 0 ≤ c := by unfold isC at h; omega
  refine yrd_pt ?_
  rw [isC_pv h]
  show some (((c.toNat + 3 : Nat) : Int)) = some (c + 3)
  congr 1
  omega
theorem isC_np {c : Int} (h : isC c) {j : Int} (hj : 0 ≤ j ∧ j < 8 ∨ j = 9) : znp' c j = true := by
  unfold znp'
  rw [isC_pv h]
  have : j = 0 ∨ j = 1 ∨ j = 2 ∨ j = 3 ∨ j = 4 ∨ j = 5 ∨ j = 6 ∨ j = 7 ∨ j = 9 := by omega
  rcases this with rfl | rfl | rfl | rfl | rfl | rfl | rfl | rfl | rfl <;> rfl
theorem isC_f {m : ZN} {c : Int} (h : isC c) {j : Int} (hj : 0 ≤ j ∧ j < 8 ∨ j = 9) : zrd m c j = zr m c j := yrd_np (isC_np h hj)
theorem isC_np1 {c : Int} (h : isC c) (j : Int) : znp' (c + 1) j = true := ynl (by rw [(isC_sh h).2.1]; rfl) j
theorem isC_np2 {c : Int} (h : isC c) (j : Int) : znp' (c + 2) j = true := ynl (by rw [(isC_sh h).2.2.1]; rfl) j
theorem isC_np3 {c : Int} (h : isC c) (j : Int) : znp' (c + 3) j = true := ynl (by rw [(isC_sh h).2.2.2]; rfl) j
theorem isC_I1 {c : Int} (h : isC c) : zkI (c + 1) = true := by unfold zkI; rw [(isC_sh h).2.1]; rfl
theorem isC_01 {c : Int} (h : isC c) : zk0 (c + 1) = true := by unfold zk0; rw [(isC_sh h).2.1]; rfl
theorem isC_L1 {c : Int} (h : isC c) : zkL (c + 1) = true := by unfold zkL; rw [(isC_sh h).2.1]; rfl
theorem isC_I2 {c : Int} (h : isC c) : zkI (c + 2) = true := by unfold zkI; rw [(isC_sh h).2.2.1]; rfl
theorem isC_I3 {c : Int} (h : isC c) : zkI (c + 3) = true := by unfold zkI; rw [(isC_sh h).2.2.2]; rfl
theorem isC_02 {c : Int} (h : isC c) : zk0 (c + 2) = true := by unfold zk0; rw [(isC_sh h).2.2.1]; rfl
theorem isC_03 {c : Int} (h : isC c) : zk0 (c + 3) = true := by unfold zk0; rw [(isC_sh h).2.2.2]; rfl
theorem yln_of {m : ZN} {a : Int} (h : 0 < a) : zln m a = (zshF a).2 := by
  match a, h with
  | .ofNat (n + 1), _ => rfl
theorem isC_n1 {m : ZN} {c : Int} (h : isC c) : zln m (c + 1) = 63 := by rw [yln_of (by unfold isC at h; omega), (isC_sh h).2.1]
theorem isC_n2 {m : ZN} {c : Int} (h : isC c) : zln m (c + 2) = 3 := by rw [yln_of (by unfold isC at h; omega), (isC_sh h).2.2.1]
theorem isC_n3 {m : ZN} {c : Int} (h : isC c) : zln m (c + 3) = 3 := by rw [yln_of (by unfold isC at h; omega), (isC_sh h).2.2.2]
theorem isC_r1 {m : ZN} {c j : Int} (h : isC c) : zrd m (c + 1) j = zr m (c + 1) j := yrd_np (isC_np1 h j)
theorem isC_r2 {m : ZN} {c j : Int} (h : isC c) : zrd m (c + 2) j = zr m (c + 2) j := yrd_np (isC_np2 h j)
theorem isC_r3 {m : ZN} {c j : Int} (h : isC c) : zrd m (c + 3) j = zr m (c + 3) j := yrd_np (isC_np3 h j)
/-- rows of the reference -/
theorem isR_fin : ∀ n : Nat, n < 8 → zshN (241 + n) = (1, 40) := by decide +kernel
theorem isR_sh {s : Int} (h1 : 0 ≤ s) (h2 : s < 8) : zshF (241 + s) = (1, 40) := by
  obtain ⟨n, rfl⟩ := Int.eq_ofNat_of_zero_le h1
  exact isR_fin n (by omega)
theorem isR_J {s : Int} (h1 : 0 ≤ s) (h2 : s < 8) : zkJ (241 + s) = true := by unfold zkJ; rw [isR_sh h1 h2]; rfl
theorem isR_n {m : ZN} {s : Int} (h1 : 0 ≤ s) (h2 : s < 8) : zln m (241 + s) = 40 := by rw [yln_of (by omega), isR_sh h1 h2]
theorem isR_np {s : Int} (h1 : 0 ≤ s) (h2 : s < 8) (j : Int) : znp' (241 + s) j = true := ynl (by rw [isR_sh h1 h2]; rfl) j
theorem isR_r {m : ZN} {s j : Int} (h1 : 0 ≤ s) (h2 : s < 8) : zrd m (241 + s) j = zr m (241 + s) j := yrd_np (isR_np h1 h2 j)
theorem isR_p {m : ZN} {s : Int} (h1 : 0 ≤ s) (h2 : s < 8) : zrd m 240 s = 241 + s := by
  refine yrd_pt ?_
  show zpR 8 241 1 s = _
  unfold zpR
  rw [if_pos ⟨h1, h2⟩, Int.one_mul]
theorem yl_p {m : ZN} {i : Int} (h1 : 0 ≤ i) (h2 : i < 25) : zrd m 9 i = 10 + 4 * i := by
  refine yrd_pt ?_
  show zpR 25 10 4 i = _
  unfold zpR
  rw [if_pos ⟨h1, h2⟩]
theorem yk_p {m : ZN} {i : Int} (h1 : 0 ≤ i) (h2 : i < 25) : zrd m 111 i = 112 + 4 * i := by
  refine yrd_pt ?_
  show zpR 25 112 4 i = _
  unfold zpR
  rw [if_pos ⟨h1, h2⟩]
/-- the columns of the indexes, the weights -/
def ycat (j : Int) : Int := (zpK [0, 1, 2, 0, 2, 1, 1, 0, 2, 1, 2, 0, 2, 0, 1, 2, 1, 0] j).getD 0
def ywg (j : Int) : Int := if j = 0 then 100 else if j = 1 then 10 else 1
theorem ycat_all : ∀ n : Nat, n < 18 → (zpK [0, 1, 2, 0, 2, 1, 1, 0, 2, 1, 2, 0, 2, 0, 1, 2, 1, 0] n) = some (ycat n) ∧ 0 ≤ ycat n ∧ ycat n ≤ 2 := by decide +kernel
theorem ycat_r {j : Int} (h1 : 0 ≤ j) (h2 : j < 18) : 0 ≤ ycat j ∧ ycat j ≤ 2 := by
  obtain ⟨n, rfl⟩ := Int.eq_ofNat_of_zero_le h1
  exact (ycat_all n (by omega)).2
theorem yrd_1 {m : ZN} {j : Int} (h1 : 0 ≤ j) (h2 : j < 18) : zrd m 1 j = ycat j := by
  obtain ⟨n, rfl⟩ := Int.eq_ofNat_of_zero_le h1
  exact yrd_pt (ycat_all n (by omega)).1
theorem yrd_2 {m : ZN} {j : Int} (h1 : 0 ≤ j) (h2 : j < 3) : zrd m 2 j = ywg j := by
  have : j = 0 ∨ j = 1 ∨ j = 2 := by omega
  rcases this with rfl | rfl | rfl <;> rfl
theorem ywg_r (j : Int) : ywg j = 100 ∨ ywg j = 10 ∨ ywg j = 1 := by
  unfold ywg
  split
  · exact Or.inl rfl
  · split
    · exact Or.inr (Or.inl rfl)
    · exact Or.inr (Or.inr rfl)
/-! ===== loops, counts, first places ===== -/
theorem yfor (W : Int → Prop) (a n : Int) (hn : a ≤ n) (h : ∀ i, a ≤ i → i < n → W (i + 1) → W i) (hW : W n) : W a := by
  have key : ∀ k : Nat, ∀ i, a ≤ i → i + k = n → W i := fun k => by
    induction k with
    | zero => intro i _ e; have : i = n := by omega
              rw [this]; exact hW
    | succ k ih => intro i h1 e; exact h i h1 (by omega) (ih (i + 1) (by omega) (by omega))
  exact key (n - a).toNat a (Int.le_refl _) (by omega)
def ycntN (p : Int → Bool) : Nat → Int
  | 0 => 0
  | n + 1 => ycntN p n + (bif p n then 1 else 0)
def ycnt (p : Int → Bool) (n : Int) : Int := ycntN p n.toNat
theorem ycnt_0 (p : Int → Bool) : ycnt p 0 = 0 := rfl
theorem ycnt_s {p : Int → Bool} {n : Int} (h : 0 ≤ n) : ycnt p (n + 1) = ycnt p n + (bif p n then 1 else 0) := by
  obtain ⟨k, rfl⟩ := Int.eq_ofNat_of_zero_le h
  rfl
theorem ycnt_t {p : Int → Bool} {n : Int} (h : 0 ≤ n) (q : p n = true) : ycnt p (n + 1) = ycnt p n + 1 := by rw [ycnt_s h, q]; rfl
theorem ycnt_f {p : Int → Bool} {n : Int} (h : 0 ≤ n) (q : p n = false) : ycnt p (n + 1) = ycnt p n := by rw [ycnt_s h, q]; exact Int.add_zero _
theorem ycntN_r (p : Int → Bool) : ∀ n : Nat, 0 ≤ ycntN p n ∧ ycntN p n ≤ n
  | 0 => ⟨Int.le_refl _, Int.le_refl _⟩
  | n + 1 => by
    have h := ycntN_r p n
    unfold ycntN
    cases p n <;> simp only [cond] <;> omega
theorem ycnt_r (p : Int → Bool) {n : Int} (h : 0 ≤ n) : 0 ≤ ycnt p n ∧ ycnt p n ≤ n := by
  have := ycntN_r p n.toNat
  unfold ycnt
  omega
theorem ycntN_c {p q : Int → Bool} : ∀ n : Nat, (∀ i : Nat, i < n → p i = q i) → ycntN p n = ycntN q n
  | 0, _ => rfl
  | n + 1, h => by
    unfold ycntN
    rw [ycntN_c n (fun i hi => h i (by omega)), h n (by omega)]
theorem ycnt_c {p q : Int → Bool} {n : Int} (h : ∀ i, 0 ≤ i → i < n → p i = q i) : ycnt p n = ycnt q n := ycntN_c _ (fun i hi => h i (by omega) (by omega))
def yfndN (p : Int → Bool) : Nat → Int → Int
  | 0, _ => -1
  | n + 1, a => bif p a then a else yfndN p n (a + 1)
/-- the first of a, a + 1, .. below n with p; -1 -/
def yfnd (p : Int → Bool) (a n : Int) : Int := yfndN p (n - a).toNat a
theorem yfnd_e {p : Int → Bool} {a n : Int} (h : n ≤ a) : yfnd p a n = -1 := by
  unfold yfnd
  rw [show (n - a).toNat = 0 by omega]
  rfl
theorem yfnd_t {p : Int → Bool} {a n : Int} (h : a < n) (q : p a = true) : yfnd p a n = a := by
  unfold yfnd
  rw [show (n - a).toNat = (n - a - 1).toNat + 1 by omega]
  unfold yfndN
  rw [q]
  rfl
theorem yfnd_f {p : Int → Bool} {a n : Int} (h : a < n) (q : p a = false) : yfnd p a n = yfnd p (a + 1) n := by
  unfold yfnd
  rw [show (n - a).toNat = (n - (a + 1)).toNat + 1 by omega]
  rw [yfndN, q]
  rfl
theorem yfndN_c {p q : Int → Bool} : ∀ (n : Nat) (a : Int), (∀ i : Int, a ≤ i → i < a + n → p i = q i) → yfndN p n a = yfndN q n a
  | 0, _, _ => rfl
  | n + 1, a, h => by
    unfold yfndN
    rw [h a (by omega) (by omega), yfndN_c n (a + 1) (fun i h1 h2 => h i (by omega) (by omega))]
theorem yfnd_c {p q : Int → Bool} {a n : Int} (h : ∀ i, a ≤ i → i < n → p i = q i) : yfnd p a n = yfnd q a n := yfndN_c _ _ (fun i h1 h2 => h i h1 (by omega))
theorem yfndN_r (p : Int → Bool) : ∀ (n : Nat) (a : Int), 0 ≤ a → (yfndN p n a = -1 ∧ ∀ i, a ≤ i → i < a + n → p i = false) ∨ (a ≤ yfndN p n a ∧ yfndN p n a < a + n ∧ p (yfndN p n a) = true ∧ ∀ i, a ≤ i → i < yfndN p n a → p i = false)
  | 0, a, _ => Or.inl ⟨rfl, fun i h1 h2 => absurd h2 (by omega)⟩
  | n + 1, a, h => by
    unfold yfndN
    cases q : p a with
    | true => exact Or.inr ⟨Int.le_refl _, by show a < _; omega, q, fun i h1 h2 => absurd h2 (by show ¬ i < a; omega)⟩
    | false =>
      show (yfndN p n (a + 1) = -1 ∧ _) ∨ (a ≤ yfndN p n (a + 1) ∧ yfndN p n (a + 1) < _ ∧ p (yfndN p n (a + 1)) = true ∧ ∀ i, a ≤ i → i < yfndN p n (a + 1) → p i = false)
      rcases yfndN_r p n (a + 1) (by omega) with ⟨h1, h2⟩ | ⟨h1, h2, h3, h4⟩
      · refine Or.inl ⟨h1, fun i h3 h4 => ?_⟩
        by_cases e : i = a
        · rw [e]; exact q
        · exact h2 i (by omega) (by omega)
      · refine Or.inr ⟨by omega, by omega, h3, fun i h5 h6 => ?_⟩
        by_cases e : i = a
        · rw [e]; exact q
        · exact h4 i (by omega) h6
theorem yfnd_r (p : Int → Bool) {a n : Int} (h : 0 ≤ a) (hn : a ≤ n) : (yfnd p a n = -1 ∧ ∀ i, a ≤ i → i < n → p i = false) ∨ (a ≤ yfnd p a n ∧ yfnd p a n < n ∧ p (yfnd p a n) = true ∧ ∀ i, a ≤ i → i < yfnd p a n → p i = false) := by
  have := yfndN_r p (n - a).toNat a h
  unfold yfnd
  rw [show a + (n - a).toNat = n by omega] at this
  exact this
