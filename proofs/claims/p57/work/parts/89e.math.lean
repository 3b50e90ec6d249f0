/-! ===== counts, orders, runs: what the answers have to do with each other ===== -/
theorem y3sum {f : Int → Int} : ∀ n : Nat, (∀ i : Int, 0 ≤ i → i < n → 0 ≤ f i ∧ f i ≤ 2) → ycnt (fun i => decide (f i = 0)) n + ycnt (fun i => decide (f i = 1)) n + ycnt (fun i => decide (f i = 2)) n = n
  | 0, _ => rfl
  | n + 1, h => by
    have ih := y3sum n (fun i i0 i1 => h i i0 (by omega))
    have hn := h n (by omega) (by omega)
    rw [show ((n + 1 : Nat) : Int) = (n : Int) + 1 from rfl, ycnt_s (by omega), ycnt_s (by omega), ycnt_s (by omega)]
    have hc : f n = 0 ∨ f n = 1 ∨ f n = 2 := by omega
    rcases hc with e | e | e
    · rw [decide_eq_true e, decide_eq_false (by omega), decide_eq_false (by omega)]
      show _ + 1 + (_ + 0) + (_ + 0) = _
      omega
    · rw [decide_eq_true e, decide_eq_false (by omega), decide_eq_false (by omega)]
      show _ + 0 + (_ + 1) + (_ + 0) = _
      omega
    · rw [decide_eq_true e, decide_eq_false (by omega), decide_eq_false (by omega)]
      show _ + 0 + (_ + 0) + (_ + 1) = _
      omega
/-- a sum -/
def ysm (f : Int → Int) : Nat → Int
  | 0 => 0
  | n + 1 => ysm f n + f n
theorem ysm_c {f g : Int → Int} : ∀ n : Nat, (∀ i : Int, 0 ≤ i → i < n → f i = g i) → ysm f n = ysm g n
  | 0, _ => rfl
  | n + 1, h => by
    show ysm f n + f n = ysm g n + g n
    rw [ysm_c n (fun i i0 i1 => h i i0 (by omega)), h n (by omega) (by omega)]
theorem ysm_add {f g : Int → Int} : ∀ n : Nat, ysm (fun i => f i + g i) n = ysm f n + ysm g n
  | 0 => rfl
  | n + 1 => by
    show ysm (fun i => f i + g i) n + (f n + g n) = ysm f n + f n + (ysm g n + g n)
    rw [ysm_add n]
    omega
theorem ysm_z : ∀ n : Nat, ysm (fun _ => 0) n = 0
  | 0 => rfl
  | n + 1 => by
    show ysm (fun _ => 0) n + 0 = 0
    rw [ysm_z n]
    rfl
theorem ysm_sw {f : Int → Int → Int} (k : Nat) : ∀ n : Nat, ysm (fun i => ysm (fun j => f i j) k) n = ysm (fun j => ysm (fun i => f i j) n) k
  | 0 => (ysm_z k).symm
  | n + 1 => by
    show ysm (fun i => ysm (fun j => f i j) k) n + ysm (fun j => f n j) k = ysm (fun j => ysm (fun i => f i j) n + f n j) k
    rw [ysm_sw k n, ysm_add]
theorem ysm_1 {g : Int → Int} {a : Int} (a0 : 0 ≤ a) : ∀ n : Nat, ysm (fun i => if i = a then g i else 0) n = if a < n then g a else 0
  | 0 => by
    rw [if_neg (by omega)]
    rfl
  | n + 1 => by
    show ysm (fun i => if i = a then g i else 0) n + (if (n : Int) = a then g n else 0) = _
    rw [ysm_1 a0 n]
    by_cases q : (n : Int) = a
    · subst q
      rw [if_neg (by omega), if_pos rfl, if_pos (by omega)]
      omega
    · rw [if_neg q]
      by_cases q2 : a < n
      · rw [if_pos q2, if_pos (by omega)]
        omega
      · rw [if_neg q2, if_neg (by omega)]
        rfl
theorem ycnt_ysm {p : Int → Bool} : ∀ n : Nat, ycnt p n = ysm (fun i => if p i = true then 1 else 0) n
  | 0 => rfl
  | n + 1 => by
    show ycnt p ((n : Int) + 1) = ysm (fun i => if p i = true then 1 else 0) n + (if p n = true then 1 else 0)
    rw [ycnt_s (by omega), ycnt_ysm n]
    cases p n <;> rfl
/-- a count along a permutation -/
theorem ycnt_pm {p : Int → Bool} {f g : Int → Int} (n : Nat) (hf : ∀ i : Int, 0 ≤ i → i < n → 0 ≤ f i ∧ f i < n ∧ g (f i) = i) (hg : ∀ i : Int, 0 ≤ i → i < n → 0 ≤ g i ∧ g i < n ∧ f (g i) = i) : ycnt (fun i => p (f i)) n = ycnt p n := by
  rw [ycnt_ysm, ycnt_ysm]
  have e1 : ysm (fun i => if p (f i) = true then 1 else 0) n = ysm (fun i => ysm (fun y => if y = f i then (if p y = true then 1 else 0) else 0) n) n := ysm_c n (fun i i0 i1 => by
    obtain ⟨h1, h2, h3⟩ := hf i i0 i1
    rw [ysm_1 (g := fun y => if p y = true then 1 else 0) h1 n, if_pos h2])
  have e2 : ysm (fun y => ysm (fun i => if y = f i then (if p y = true then 1 else 0) else 0) n) n = ysm (fun y => if p y = true then 1 else 0) n := ysm_c n (fun y y0 y1 => by
    obtain ⟨h1, h2, h3⟩ := hg y y0 y1
    have e3 : ysm (fun i => if y = f i then (if p y = true then (1 : Int) else 0) else 0) n = ysm (fun i => if i = g y then (if p y = true then (1 : Int) else 0) else 0) n := ysm_c n (fun i i0 i1 => by
      obtain ⟨k1, k2, k3⟩ := hf i i0 i1
      by_cases q : y = f i
      · have e : i = g y := by rw [q, k3]
        rw [if_pos q, if_pos e]
      · rw [if_neg q, if_neg (fun z => q (by rw [z, h3]))])
    rw [e3, ysm_1 (g := fun _ => if p y = true then 1 else 0) h1 n, if_pos h2])
  rw [e1, ysm_sw n n, e2]
def yiv (o : Int) : Int := if o = 3 then 4 else if o = 4 then 3 else o
theorem yplN : ∀ o : Nat, o < 6 → ∀ k : Nat, k < 1000 → ypl (yiv (o : Int)) (ypl (o : Int) (k : Int)) = (k : Int) := by decide +kernel
theorem ypl_iv {o k : Int} (o0 : 0 ≤ o) (o5 : o ≤ 5) (k0 : 0 ≤ k) (k1 : k < 1000) : ypl (yiv o) (ypl o k) = k := by
  have h := yplN o.toNat (by omega) k.toNat (by omega)
  rw [Int.toNat_of_nonneg o0, Int.toNat_of_nonneg k0] at h
  exact h
theorem yiv_r {o : Int} (o0 : 0 ≤ o) (o5 : o ≤ 5) : 0 ≤ yiv o ∧ yiv o ≤ 5 ∧ yiv (yiv o) = o := by
  unfold yiv
  have hc : o = 0 ∨ o = 1 ∨ o = 2 ∨ o = 3 ∨ o = 4 ∨ o = 5 := by omega
  rcases hc with rfl | rfl | rfl | rfl | rfl | rfl <;> decide
theorem yto_cnt (T : Int → Int → Int) (c : Int) {o : Int} (o0 : 0 ≤ o) (o5 : o ≤ 5) : ycnt (fun k => decide (yTo T c o k = 1)) 1000 = ycnt (fun k => decide (T c k = 1)) 1000 := by
  obtain ⟨v0, v5, vv⟩ := yiv_r o0 o5
  refine ycnt_pm (p := fun k => decide (T c k = 1)) (f := ypl o) (g := ypl (yiv o)) 1000 (fun i i0 i1 => ?_) (fun i i0 i1 => ?_)
  · have h := ypl_r o0 o5 i0 i1
    exact ⟨h.1, h.2, ypl_iv o0 o5 i0 i1⟩
  · have h := ypl_r v0 v5 i0 i1
    refine ⟨h.1, h.2, ?_⟩
    have e := ypl_iv v0 v5 i0 i1
    rw [vv] at e
    exact e
/-- what is true is what lies in a run -/
theorem yr_t {t : Int → Int} {k : Int} (k0 : 0 ≤ k) (k1 : k < 1000) : t k = 1 ↔ ∃ i, 0 ≤ i ∧ i < yrc t 1000 ∧ yrF t 1000 i ≤ k ∧ k ≤ yrL t 1000 i := by
  obtain ⟨h1, h2, h3, h4, h5⟩ := yr_k (t := t) k0 k1
  have ho := (yr_ord t 1000).1
  constructor
  · intro h
    have b0 := h4 h
    exact ⟨ybg t k, b0, h2, (h3 _ b0 h2).2 (Int.le_refl _), (h5 b0).1 h⟩
  · rintro ⟨i, i0, i1, a, b⟩
    have hi := (h3 i i0 i1).1 a
    have b0 : 0 ≤ ybg t k := by omega
    refine (h5 b0).2 ?_
    by_cases q : i = ybg t k
    · rw [← q]; exact b
    · have hx : ∀ j : Nat, i + 1 + j ≤ ybg t k → yrL t 1000 i < yrF t 1000 (i + 1 + j) := fun j => by
        induction j with
        | zero => intro hj; have := (ho i i0 i1).2.2.2 (by omega); rw [show i + 1 + ((0 : Nat) : Int) = i + 1 by omega]; omega
        | succ j ih =>
          intro hj
          have h6 := ih (by omega)
          have h7 := ho (i + 1 + j) (by omega) (by omega)
          have h8 := h7.2.2.2 (by omega)
          rw [show i + 1 + ((j + 1 : Nat) : Int) = i + 1 + j + 1 by omega]
          omega
      have h6 := hx (ybg t k - i - 1).toNat (by omega)
      rw [show i + 1 + ((ybg t k - i - 1).toNat : Int) = ybg t k by omega] at h6
      have := (h3 _ b0 h2).2 (Int.le_refl _)
      omega
/-- runs come one behind the other -/
theorem yr_nx {t : Int → Int} {i : Int} (i0 : 0 ≤ i) : ∀ j : Nat, i + 1 + j < yrc t 1000 → yrL t 1000 i + 1 < yrF t 1000 (i + 1 + j)
  | 0, h => by
    rw [show i + 1 + ((0 : Nat) : Int) = i + 1 by omega] at h ⊢
    exact ((yr_ord t 1000).1 i i0 (by omega)).2.2.2 h
  | j + 1, h => by
    have h6 := yr_nx (t := t) i0 j (by omega)
    have h7 := (yr_ord t 1000).1 (i + 1 + j) (by omega) (by omega)
    have h8 := h7.2.2.2 (by omega)
    rw [show i + 1 + ((j + 1 : Nat) : Int) = i + 1 + j + 1 by omega]
    omega
theorem yr_nxI {t : Int → Int} {i j : Int} (i0 : 0 ≤ i) (ij : i < j) (j1 : j < yrc t 1000) : yrL t 1000 i + 1 < yrF t 1000 j := by
  have h := yr_nx (t := t) i0 (j - i - 1).toNat (by omega)
  rw [show i + 1 + ((j - i - 1).toNat : Int) = j by omega] at h
  exact h
/-- nothing is true between two runs -/
theorem yr_gap {t : Int → Int} {i k : Int} (i0 : 0 ≤ i) (i1 : i ≤ yrc t 1000) (k0 : 0 ≤ k) (k9 : k < 1000) (lo : i = 0 ∨ yrL t 1000 (i - 1) < k) (hi : i = yrc t 1000 ∨ k < yrF t 1000 i) : ¬ t k = 1 := by
  intro h
  obtain ⟨j, j0, j1, a, b⟩ := (yr_t k0 k9).1 h
  by_cases q : j < i
  · rcases lo with lo | lo
    · omega
    · by_cases q2 : j = i - 1
      · rw [q2] at b; omega
      · have := yr_nxI (t := t) (i := j) (j := i - 1) j0 (by omega) (by omega)
        have := (yr_ord t 1000).1 (i - 1) (by omega) (by omega)
        omega
  · rcases hi with hi | hi
    · omega
    · by_cases q2 : j = i
      · rw [q2] at a; omega
      · have := yr_nxI (t := t) (i := i) (j := j) i0 (by omega) j1
        have := (yr_ord t 1000).1 i i0 (by omega)
        omega
/-- what is true up to the end of run i -/
theorem yr_cnt {t : Int → Int} {i : Int} (i0 : 0 ≤ i) (i1 : i < yrc t 1000) {b : Int} (b0 : 0 ≤ b) (hb : b ≤ yrF t 1000 i) (hlo : i = 0 ∨ yrL t 1000 (i - 1) < b) : ycnt (fun k => decide (t k = 1)) (yrL t 1000 i + 1) = ycnt (fun k => decide (t k = 1)) b + (yrL t 1000 i - yrF t 1000 i + 1) := by
  have ho := (yr_ord t 1000).1 i i0 i1
  rw [ycnt_1b (p := fun k => decide (t k = 1)) (a := yrF t 1000 i) (b := yrL t 1000 i + 1) ho.1 (by omega) (fun k a1 a2 => decide_eq_true ((yr_t (by omega) (by omega)).2 ⟨i, i0, i1, a1, by omega⟩)), ycnt_0b (p := fun k => decide (t k = 1)) (a := b) (b := yrF t 1000 i) b0 hb (fun k a1 a2 => decide_eq_false (yr_gap i0 (by omega) (by omega) (by omega) (by omega) (Or.inr a2)))]
  omega
theorem yOd_u {w a b : Int → Int} {G n : Int} (h : yOd w a G (fun _ => true) n) (g : yOd w b G (fun _ => true) n) : ∀ y : Nat, (∀ z : Nat, z < y → (z : Int) < n → a z = b z) → (y : Int) < n → a y = b y := fun y ih hy => by
  obtain ⟨-, h2, h3, h4⟩ := h
  obtain ⟨-, g2, g3, g4⟩ := g
  obtain ⟨z, z0, z1, e1⟩ := g4 (a y) (h3 y (by omega) hy).1 (h3 y (by omega) hy).2.1 rfl
  obtain ⟨x, x0, x1, e2⟩ := h4 (b y) (g3 y (by omega) hy).1 (g3 y (by omega) hy).2.1 rfl
  by_cases q : z = y
  · rw [← e1, q]
  · by_cases q2 : x = y
    · rw [← e2, q2]
    · by_cases q3 : z < y
      · have e3 := ih z.toNat (by omega) (by omega)
        rw [Int.toNat_of_nonneg z0] at e3
        have := h2 z y z0 q3 hy
        rw [e3, e1] at this
        omega
      · by_cases q4 : x < y
        · have e3 := ih x.toNat (by omega) (by omega)
          rw [Int.toNat_of_nonneg x0] at e3
          have := g2 x y x0 q4 hy
          rw [← e3, e2] at this
          omega
        · have k1 := g2 y z (by omega) (by omega) z1
          have k2 := h2 y x (by omega) (by omega) x1
          rw [e1] at k1
          rw [e2] at k2
          omega
theorem yOd_e {w a b : Int → Int} {G n : Int} (h : yOd w a G (fun _ => true) n) (g : yOd w b G (fun _ => true) n) : ∀ y : Nat, (y : Int) < n → a y = b y := fun y => by
  induction y using Nat.strongRecOn with
  | _ y ih => exact fun hy => yOd_u h g y (fun z z1 z2 => ih z z1 z2) hy
/-- the gaps read over, by whatever order of the gaps -/
theorem yGx_u {t a b : Int → Int} {x : Int} (h : yGo t a) (g : yGo t b) (x1 : 1 ≤ x) (s : Int) : yGx t a x s ↔ yGx t b x s := by
  have hr := (yrc_r t 1000).1
  unfold yGx yFj
  by_cases q : 1 ≤ yrc t 1000
  · have e := yOd_e (h q) (g q)
    constructor
    · rintro ⟨y, y0, y1, y2⟩
      have e1 := e y.toNat (by omega)
      rw [Int.toNat_of_nonneg y0] at e1
      exact ⟨y, y0, y1, by rw [← e1]; exact y2⟩
    · rintro ⟨y, y0, y1, y2⟩
      have e1 := e y.toNat (by omega)
      rw [Int.toNat_of_nonneg y0] at e1
      exact ⟨y, y0, y1, by rw [e1]; exact y2⟩
  · constructor
    · rintro ⟨y, y0, y1, y2⟩
      omega
    · rintro ⟨y, y0, y1, y2⟩
      omega
theorem yLr_u {t a b : Int → Int} {v : Int → Int} {n o x : Int} (h : yGo t a) (g : yGo t b) (x1 : 1 ≤ x) : yLr t a v n o x = yLr t b v n o x := by
  unfold yLr
  exact ycnt_c (fun l _ _ => ybo_c (yRd_c (fun s _ _ => yGx_u h g x1 s)))
theorem yCs_u {t a b key : Int → Int} {n pr x : Int} (h : yGo t a) (g : yGo t b) (x1 : 1 ≤ x) : yCs t a key n pr x = yCs t b key n pr x := by
  unfold yCs yRj
  congr 1
  refine ycnt_c (fun l _ _ => ybo_c (yRd_c (fun s _ _ => ?_)))
  have := yGx_u h g x1 s
  unfold yGx at this
  rw [Int.min_comm] at this
  exact this
/-- more runs read no more keys in vain -/
theorem yOf0_le {t a b : Int → Int} {x : Int} (h : yGo t a) (g : yGo t b) (x1 : 1 ≤ x) : ycnt (fun k => ybo (yRd t (yGx t b (x + 1)) k) && !decide (t k = 1)) 1000 ≤ ycnt (fun k => ybo (yRd t (yGx t a x) k) && !decide (t k = 1)) 1000 := by
  refine ycnt_mono 1000 (fun k k0 k1 hk => ?_)
  rw [Bool.and_eq_true] at hk ⊢
  refine ⟨ybo_t ?_, hk.2⟩
  rcases ybo_i.1 hk.1 with z | ⟨z1, z2, z3⟩
  · exact Or.inl z
  · refine Or.inr ⟨z1, z2, (yGx_u g h x1 _).1 ?_⟩
    obtain ⟨y, y0, y1, y2⟩ := z3
    exact ⟨y, y0, by omega, y2⟩
/-- a line behind another is the next one found -/
theorem yAt_next {T : Int → Int → Int} {v : Int → Int} {n c o x l r b : Int} (hf : ∀ i j, 0 ≤ i → i < n → 0 ≤ j → j < n → yFc v o i = yFc v o j → i = j) (n0 : 0 ≤ n) (hl : yAt T v n c o x l) (hr : yAt T v n c o (x + 1) r) (hb : yBh (yPc T v c) (yFc v o) (yFc v o l) n b) : b = r := by
  obtain ⟨l0, l1, l2, l3⟩ := hl
  obtain ⟨r0, r1, r2, r3⟩ := hr
  have mono : ∀ i j, 0 ≤ i → i < n → yPc T v c i = true → yFc v o i < yFc v o j → ycnt (fun q => yPc T v c q && decide (yFc v o q < yFc v o i)) n < ycnt (fun q => yPc T v c q && decide (yFc v o q < yFc v o j)) n := fun i j i0 i1 i2 ij => yrk_lt i0 i1 i2 ij
  have lr : yFc v o l < yFc v o r := by
    by_cases q : yFc v o l < yFc v o r
    · exact q
    · by_cases q2 : yFc v o r < yFc v o l
      · have := mono r l r0 r1 r2 q2
        omega
      · have e := hf l r l0 l1 r0 r1 (by omega)
        subst e
        omega
  rcases hb with ⟨-, h2⟩ | ⟨b0, b1, b2, b3, b4⟩
  · have := h2 r r0 r1 r2
    omega
  · have h1 := b4 r r0 r1 r2 lr
    by_cases q : yFc v o b < yFc v o r
    · have k1 := mono l b l0 l1 l2 b3
      have k2 := mono b r b0 b1 b2 q
      omega
    · exact hf b r b0 b1 r0 r1 (by omega)
theorem yFc_i {m : ZN} {n N pr o : Int} {v : Int → Int} {T : Int → Int → Int} (G : yG n N pr v T m) (o0 : 0 ≤ o) (o5 : o ≤ 5) : ∀ i j, 0 ≤ i → i < n → 0 ≤ j → j < n → yFc v o i = yFc v o j → i = j := fun i j i0 i1 j0 j1 e => by
  have h1 := (yFc_r G (o := o) i0 i1 o0 o5).2.2
  have h2 := (yFc_r G (o := o) j0 j1 o0 o5).2.2
  rw [← h1, ← h2, e]
theorem yAt_u {m : ZN} {n N pr c o x r s : Int} {v : Int → Int} {T : Int → Int → Int} (G : yG n N pr v T m) (o0 : 0 ≤ o) (o5 : o ≤ 5) (hr : yAt T v n c o x r) (hs : yAt T v n c o x s) : r = s := by
  obtain ⟨r0, r1, r2, r3⟩ := hr
  obtain ⟨s0, s1, s2, s3⟩ := hs
  by_cases q : yFc v o r < yFc v o s
  · have := yrk_lt (p := yPc T v c) (f := yFc v o) (n := n) (i := r) (k := s) r0 r1 r2 q
    omega
  · by_cases q2 : yFc v o s < yFc v o r
    · have := yrk_lt (p := yPc T v c) (f := yFc v o) (n := n) (i := s) (k := r) s0 s1 s2 q2
      omega
    · exact yFc_i G o0 o5 r s r0 r1 s0 s1 (by omega)
