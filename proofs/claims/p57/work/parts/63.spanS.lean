/-! ===== spans by marks ===== -/
/-- e: the last runs of the spans, in order; behind each lies a gap that isn't joined -/
def ySpE (N n : Int) (S : Int → Prop) (e : Int → Int) : Prop :=
  e (-1) = -1 ∧ (∀ i j, -1 ≤ i → i < j → j < n → e i < e j) ∧ (∀ i, 0 ≤ i → i < n → e i < N ∧ (e i = N - 1 ∨ ¬ S (e i))) ∧ ∀ r, 0 ≤ r → r < N → (r = N - 1 ∨ ¬ S r) → ∃ i, 0 ≤ i ∧ i < n ∧ e i = r
theorem ySpE_r {N n : Int} {S : Int → Prop} {e : Int → Int} (h : ySpE N n S e) : ∀ i, 0 ≤ i → i < n → 0 ≤ e (i - 1) + 1 ∧ e (i - 1) + 1 ≤ e i ∧ e i < N := fun i i0 i1 => by
  obtain ⟨h1, h2, h3, h4⟩ := h
  have a := h2 (i - 1) i (by omega) (by omega) i1
  have b := (h3 i i0 i1).1
  by_cases q : i - 1 = -1
  · have : e (i - 1) = -1 := by rw [q]; exact h1
    omega
  · have := h2 (-1) (i - 1) (by omega) (by omega) (by omega)
    omega
theorem ySpE_l {N n : Int} {S : Int → Prop} {e : Int → Int} (h : ySpE N n S e) (N1 : 1 ≤ N) : 1 ≤ n ∧ e (n - 1) = N - 1 := by
  obtain ⟨i, i0, i1, i2⟩ := h.2.2.2 (N - 1) (by omega) (by omega) (Or.inl rfl)
  refine ⟨by omega, ?_⟩
  by_cases q : i = n - 1
  · rw [← q]; exact i2
  · have := h.2.1 i (n - 1) (by omega) (by omega) (by omega)
    have := (h.2.2.1 (n - 1) (by omega) (by omega)).1
    omega
theorem ySpE_i {N n : Int} {S : Int → Prop} {e : Int → Int} (h : ySpE N n S e) : ∀ k : Nat, (k : Int) < n → (k : Int) ≤ e k := by
  intro k
  induction k with
  | zero => intro k1; have := ySpE_r h 0 (by decide) k1; show (0 : Int) ≤ e 0; omega
  | succ k ih =>
    intro k1
    rw [show ((k + 1 : Nat) : Int) = (k : Int) + 1 by omega] at k1 ⊢
    have := ih (by omega)
    have := h.2.1 k (k + 1) (by omega) (by omega) k1
    omega
theorem ySpE_n {N n : Int} {S : Int → Prop} {e : Int → Int} (h : ySpE N n S e) (n0 : 0 ≤ n) (N0 : 0 ≤ N) : n ≤ N := by
  by_cases q : n = 0
  · omega
  · have a := ySpE_i h (n - 1).toNat (by omega)
    rw [show (((n - 1).toNat : Nat) : Int) = n - 1 by omega] at a
    have := ySpE_r h (n - 1) (by omega) (by omega)
    omega
theorem ySpE_e {N n : Int} {S : Int → Prop} {e : Int → Int} (h : ySpE N n S e) {s r : Int} (s0 : 0 ≤ s) (s1 : s < n) (r0 : e (s - 1) < r) (r1 : r ≤ e s) (hr : r = N - 1 ∨ ¬ S r) : r = e s := by
  have a := ySpE_r h s s0 s1
  obtain ⟨j, j0, j1, j2⟩ := h.2.2.2 r (by omega) (by omega) hr
  rcases Int.lt_or_le s j with q | q
  · have := h.2.1 s j (by omega) q j1
    omega
  · by_cases q2 : j = s
    · rw [← q2]; exact j2.symm
    · by_cases q3 : j = s - 1
      · rw [← q3] at r0; omega
      · have := h.2.1 j (s - 1) (by omega) (by omega) (by omega)
        omega
theorem ySpE_c {N n : Int} {S T : Int → Prop} {e : Int → Int} (h : ySpE N n S e) (hST : ∀ g, 0 ≤ g → g < N - 1 → (S g ↔ T g)) : ySpE N n T e := by
  have hr := ySpE_r h
  obtain ⟨h1, h2, h3, h4⟩ := h
  refine ⟨h1, h2, fun i i0 i1 => ?_, fun r r0 r1 hr => h4 r r0 r1 ?_⟩
  · have := h3 i i0 i1
    have b := hr i i0 i1
    refine ⟨this.1, ?_⟩
    by_cases q : e i = N - 1
    · exact Or.inl q
    · exact Or.inr (fun z => (this.2.resolve_left q) ((hST _ (by omega) (by omega)).2 z))
  · by_cases q : r = N - 1
    · exact Or.inl q
    · exact Or.inr (fun z => (hr.resolve_left q) ((hST _ r0 (by omega)).1 z))
theorem ySpE_m {N n b : Int} {S : Int → Prop} {e : Int → Int} (h : ySpE N n S e) (b0 : 0 ≤ b) (b1 : b + 1 < n) : ySpE N (n - 1) (fun y => S y ∨ y = e b) (fun j => if j < b then e j else e (j + 1)) := by
  have hr := ySpE_r h
  obtain ⟨h1, h2, h3, h4⟩ := h
  obtain ⟨f, hf⟩ : ∃ f : Int → Int, ∀ j, f j = if j < b then e j else e (j + 1) := ⟨_, fun _ => rfl⟩
  rw [show (fun j => if j < b then e j else e (j + 1)) = f from funext fun j => (hf j).symm]
  have fl : ∀ j, j < b → f j = e j := fun j q => by rw [hf, if_pos q]
  have fg : ∀ j, b ≤ j → f j = e (j + 1) := fun j q => by rw [hf, if_neg (by omega)]
  have bn := h2 b (n - 1) (by omega) (by omega) (by omega)
  have en := (h3 (n - 1) (by omega) (by omega)).1
  have ne : ∀ i, 0 ≤ i → i < n → i ≠ b → e i ≠ e b := fun i i0 i1 q z => by
    rcases Int.lt_or_le i b with q2 | q2
    · have := h2 i b (by omega) q2 (by omega); omega
    · have := h2 b i (by omega) (by omega) i1; omega
  refine ⟨by rw [fl _ (by omega)]; exact h1, fun i j i0 ij j1 => ?_, fun i i0 i1 => ?_, fun r r0 r1 hr => ?_⟩
  · by_cases q1 : j < b
    · rw [fl i (by omega), fl j q1]; exact h2 i j i0 ij (by omega)
    · rw [fg j (by omega)]
      by_cases q2 : i < b
      · rw [fl i q2]; exact h2 i (j + 1) i0 (by omega) (by omega)
      · rw [fg i (by omega)]; exact h2 (i + 1) (j + 1) (by omega) (by omega) (by omega)
  · by_cases q1 : i < b
    · rw [fl i q1]
      have := h3 i i0 (by omega)
      refine ⟨this.1, this.2.imp id (fun z y => y.elim z (ne i i0 (by omega) (by omega)))⟩
    · rw [fg i (by omega)]
      have := h3 (i + 1) (by omega) (by omega)
      refine ⟨this.1, this.2.imp id (fun z y => y.elim z (ne (i + 1) (by omega) (by omega) (by omega)))⟩
  · have hrr : r = N - 1 ∨ ¬ S r := hr.imp id (fun z y => z (Or.inl y))
    obtain ⟨i, i0, i1, i2⟩ := h4 r r0 r1 hrr
    have hb : i ≠ b := fun z => by
      rw [z] at i2
      rcases hr with y | y
      · omega
      · exact y (Or.inr i2.symm)
    by_cases q : i < b
    · exact ⟨i, i0, by omega, by rw [fl i q]; exact i2⟩
    · exact ⟨i - 1, by omega, by omega, by rw [fg _ (by omega), show i - 1 + 1 = i by omega]; exact i2⟩
theorem ySpE_u {N n : Int} {S : Int → Prop} {e f : Int → Int} (h : ySpE N n S e) (g : ySpE N n S f) : ∀ i, -1 ≤ i → i < n → e i = f i := by
  have key : ∀ k : Nat, ∀ j : Int, 0 ≤ j → j < k → j < n → e j = f j := by
    intro k
    induction k with
    | zero => intro j j0 j1; omega
    | succ k ih =>
      intro j j0 j1 j2
      by_cases q : j < k
      · exact ih j j0 q j2
      · have ae := h.2.2.1 j j0 j2
        have af := g.2.2.1 j j0 j2
        have re := ySpE_r h j j0 j2
        have rf := ySpE_r g j j0 j2
        obtain ⟨x, x0, x1, x2⟩ := g.2.2.2 (e j) (by omega) ae.1 ae.2
        obtain ⟨y, y0, y1, y2⟩ := h.2.2.2 (f j) (by omega) af.1 af.2
        have hx : j ≤ x := by
          rcases Int.lt_or_le x j with z | z
          · have := ih x x0 (by omega) x1
            have := h.2.1 x j (by omega) z j2
            omega
          · exact z
        have hy : j ≤ y := by
          rcases Int.lt_or_le y j with z | z
          · have := ih y y0 (by omega) y1
            have := g.2.1 y j (by omega) z j2
            omega
          · exact z
        have b1 : f j ≤ e j := by
          by_cases z : j = x
          · rw [← z] at x2; omega
          · have := g.2.1 j x (by omega) (by omega) x1; omega
        have b2 : e j ≤ f j := by
          by_cases z : j = y
          · rw [← z] at y2; omega
          · have := h.2.1 j y (by omega) (by omega) y1; omega
        omega
  intro i i0 i1
  by_cases q : i = -1
  · rw [q, h.1, g.1]
  · exact key (i + 1).toNat i (by omega) (by omega) i1
theorem ySpE_0 (N : Int) : ySpE N N (fun _ => False) (fun i => i) :=
  ⟨rfl, fun i j _ h _ => h, fun i _ i1 => ⟨i1, Or.inr (fun z => z)⟩, fun r r0 r1 _ => ⟨r, r0, r1, rfl⟩⟩
/-- the first j of a hold of all gaps are joined -/
theorem ySpE_x {N : Int} {w a : Int → Int} (R : yOd w a (N - 1) (fun _ => true) (N - 1)) : ∀ j : Nat, (j : Int) < N → ∃ e, ySpE N (N - j) (fun g => ∃ y : Int, 0 ≤ y ∧ y < (j : Int) ∧ a y = g) e := by
  intro j
  induction j with
  | zero =>
    intro _
    rw [show N - ((0 : Nat) : Int) = N from by omega]
    exact ⟨_, ySpE_c (ySpE_0 N) (fun g _ _ => ⟨fun z => False.elim z, fun ⟨y, y0, y1, _⟩ => by have : y < 0 := y1; omega⟩)⟩
  | succ j ih =>
    intro hj
    rw [show ((j + 1 : Nat) : Int) = (j : Int) + 1 by omega] at hj ⊢
    obtain ⟨e, he⟩ := ih (by omega)
    have ha := R.2.2.1 j (by omega) (by omega)
    have hs : ¬ ∃ y : Int, 0 ≤ y ∧ y < (j : Int) ∧ a y = a j := fun ⟨y, y0, y1, y2⟩ => by
      have := R.2.1 y j y0 y1 (by omega)
      rw [y2] at this
      omega
    obtain ⟨b, b0, b1, b2⟩ := he.2.2.2 (a j) ha.1 (by omega) (Or.inr hs)
    have hl := ySpE_l he (by omega)
    have hb : b + 1 < N - j := by
      by_cases q : b = N - j - 1
      · rw [q, hl.2] at b2; omega
      · omega
    rw [show N - ((j : Int) + 1) = N - j - 1 by omega]
    refine ⟨_, ySpE_c (ySpE_m he b0 hb) (fun g _ _ => ⟨fun z => ?_, fun ⟨y, y0, y1, y2⟩ => ?_⟩)⟩
    · rcases z with ⟨y, y0, y1, y2⟩ | z
      · exact ⟨y, y0, by omega, y2⟩
      · exact ⟨j, by omega, by omega, by rw [z, b2]⟩
    · by_cases q : y = j
      · exact Or.inr (by rw [← y2, q, b2])
      · exact Or.inl ⟨y, y0, by omega, y2⟩
section SQ
variable {d : Nat} {m : ZN}
theorem c_97 {t : Int → Int} {n i : Int} {S : Int → Prop} {e : Int → Int} {K : Int → ZN → Prop} (hc : zr m 222 8 = yrc t 1000) (hf : ∀ i, 0 ≤ i → i < yrc t 1000 → zr m 224 i = yrF t 1000 i ∧ zr m 225 i = yrL t 1000 i) (hS : ∀ g, 0 ≤ g → g < yrc t 1000 - 1 → (zr m 230 g = 0 ↔ ¬ S g)) (he : ySpE (yrc t 1000) n S e) (i0 : 0 ≤ i) (i1 : i < n) (h : K (zb (zb (1000 * yrF t 1000 (e (i - 1) + 1)) + yrL t 1000 (e i))) m) : zcI d 97 [zA 222, zI i] m K := by
  have hr := yrc_r t 1000
  refine w_97 ?_
  have gi := ySpE_r he i i0 i1
  have nN := ySpE_n he (by omega) (by omega)
  have g0 := ySpE_r he 0 (by decide) (by omega)
  have e0 : e (0 - 1) = -1 := he.1
  have go := yfor (fun r => ∀ s, 0 ≤ s → s ≤ i → e (s - 1) < r → r ≤ e s → zwpN d 97 7 [some (zA 222), some (zI i), some (zI s), some (zI (e (s - 1) + 1)), some (zI r)] [] m (zPI K)) 0 (e i) (by omega) (fun r r0 r1 hW s s0 s1 q1 q2 => by
    have gs := ySpE_r he s s0 (by omega)
    have nxt : r = e s → s ≠ i ∧ zwpN d 97 7 [some (zA 222), some (zI i), some (zI (zb (s + 1))), some (zI (zb (r + 1))), some (zI (zb (r + 1)))] [] m (zPI K) := fun q => by
      have q3 : s ≠ i := fun z => by rw [z] at q; omega
      have := he.2.1 s (s + 1) (by omega) (by omega) (by omega)
      refine ⟨q3, ?_⟩
      rw [show zb (s + 1) = s + 1 from yb_id (by omega) (by omega), show zb (r + 1) = r + 1 from yb_id (by omega) (by omega)]
      have g := hW (s + 1) (by omega) (by omega) (by rw [show s + 1 - 1 = s by omega]; omega) (by omega)
      rw [show s + 1 - 1 = s by omega, ← q] at g
      exact g
    refine w_97_7 ?_
    rw [hc, if_pos (by omega), show zb (yrc t 1000 - 1) = yrc t 1000 - 1 from yb_id (by omega) (by omega), if_neg (by omega), yck_of (by omega)]
    by_cases qm : zr m 230 r = 0
    · have q3 := nxt (ySpE_e he s0 (by omega) q1 q2 (Or.inr ((hS r r0 (by omega)).1 qm)))
      rw [if_pos qm, if_neg q3.1]
      exact q3.2
    · rw [if_neg qm, yb_id (by omega) (by omega)]
      have : r ≠ e s := fun z => by
        have := (he.2.2.1 s s0 (by omega)).2
        rw [← z] at this
        rcases this with h1 | h1
        · omega
        · exact qm ((hS r r0 (by omega)).2 h1)
      exact hW s s0 s1 (by omega) (by omega)) (fun s s0 s1 q1 q2 => by
    have : s = i := by
      by_cases q : s = i
      · exact q
      · have := he.2.1 s i (by omega) (by omega) i1
        omega
    subst this
    have hF := hf (e (s - 1) + 1) (by omega) (by omega)
    have hL := hf (e s) (by omega) (by omega)
    refine w_97_7 ?_
    rw [hc, if_pos (by omega), show zb (yrc t 1000 - 1) = yrc t 1000 - 1 from yb_id (by omega) (by omega)]
    by_cases qe : e s = yrc t 1000 - 1
    · rw [if_pos qe, if_pos rfl, yck_of (by omega), yck_of (by omega), hF.1, hL.2]; exact h
    · rw [if_neg qe, yck_of (by omega), if_pos ((hS _ (by omega) (by omega)).2 ((he.2.2.1 s s0 i1).2.resolve_left qe)), if_pos rfl, yck_of (by omega), yck_of (by omega), hF.1, hL.2]; exact h) 0 (by decide) i0 (by omega) (by omega)
  rw [e0] at go
  exact go
/-- the reference's rows of spans -/
def ySpM (t : Int → Int) (S : Int → Prop) (n : Int) (M : ZN) : Prop :=
  0 ≤ n ∧ zr M 236 32 = n ∧ ∃ e, ySpE (yrc t 1000) n S e ∧ ∀ i, 0 ≤ i → i < n → zr M 265 i = yrF t 1000 (e (i - 1) + 1) ∧ zr M 266 i = yrL t 1000 (e i)
theorem ySpM_0 {t : Int → Int} {M : ZN} (R : yRm t M 1000) : ySpM t (fun _ => False) (yrc t 1000) M := ⟨(yrc_r t 1000).1, R.1, fun i => i, ySpE_0 _, fun i i0 i1 => by
  show zr M 265 i = yrF t 1000 (i - 1 + 1) ∧ zr M 266 i = yrL t 1000 i
  rw [show i - 1 + 1 = i by omega]
  exact R.2 i i0 i1⟩
theorem c_274 {t : Int → Int} {S : Int → Prop} {n : Int} {K : ZN → Prop} (R : ySpM t S n m) (n2 : 1 < n) (h : ∀ M2 g, ySc m M2 → (∀ j, j ≠ 32 → zr M2 236 j = zr m 236 j) → 0 ≤ g → g < yrc t 1000 - 1 → ¬ S g → (∀ y, 0 ≤ y → y < yrc t 1000 - 1 → ¬ S y → 1000 * ywd t g + g ≤ 1000 * ywd t y + y) → ySpM t (fun y => S y ∨ y = g) (n - 1) M2 → K M2) : zcV d 274 [zA 236] m K := by
  obtain ⟨n0, hn, e, he, hrow⟩ := R
  have hr := yrc_r t 1000
  have N1 : 1 ≤ yrc t 1000 := by have := ySpE_r he 0 (by decide) (by omega); omega
  have hl := ySpE_l he N1
  have nN := ySpE_n he (by omega) (by omega)
  have n5 : ∀ j, znp' 265 j = true := ynl rfl
  have n6 : ∀ j, znp' 266 j = true := ynl rfl
  have wd : ∀ i, 0 ≤ i → i + 1 < n → zr m 265 (i + 1) - zr m 266 i = ywd t (e i) + 1 := fun i i0 i1 => by
    have a := (hrow (i + 1) (by omega) i1).1
    have b := (hrow i i0 (by omega)).2
    rw [show i + 1 - 1 = i by omega] at a
    rw [a, b]; unfold ywd; omega
  have eb : ∀ i, 0 ≤ i → i + 1 < n → 0 ≤ e i ∧ e i < yrc t 1000 - 1 := fun i i0 i1 => by
    have := ySpE_r he i i0 (by omega)
    have := he.2.1 i (n - 1) (by omega) (by omega) (by omega)
    omega
  refine w_274 ?_
  refine yfor (fun i => ∀ b, 0 ≤ b → b < i → (∀ z, 0 ≤ z → z < i → ywd t (e b) < ywd t (e z) ∨ (ywd t (e b) = ywd t (e z) ∧ b ≤ z)) → zwpN d 274 4 [some (zA 236), some (zI b), some (zI i)] [] m (zPV K)) 1 (n - 1) (by omega) (fun i i0 i1 hW b b0 b1 hb => ?_) (fun b b0 b1 hb => ?_) 0 (by decide) (by decide) (fun z z0 z1 => Or.inr ⟨by rw [show z = 0 by omega], by omega⟩)
  · have ei := eb i (by omega) (by omega)
    have ebb := eb b (by omega) (by omega)
    have w1 := ywd_r (t := t) ei.1 ei.2
    have w2 := ywd_r (t := t) ebb.1 ebb.2
    refine w_274_4 ?_
    rw [show zb (i + 1) = i + 1 from yb_id (by omega) (by omega), hn, if_pos (by omega), yck_of (by omega), yck_of (by omega), show zb (b + 1) = b + 1 from yb_id (by omega) (by omega), yck_of (by omega), yck_of (by omega), wd i (by omega) (by omega), wd b (by omega) (by omega), show zb (ywd t (e i) + 1) = ywd t (e i) + 1 from yb_id (by omega) (by omega), show zb (ywd t (e b) + 1) = ywd t (e b) + 1 from yb_id (by omega) (by omega)]
    by_cases q : ywd t (e i) + 1 < ywd t (e b) + 1
    · rw [if_pos q]
      refine hW i (by omega) (by omega) (fun z z0 z1 => ?_)
      by_cases q2 : z = i
      · rw [q2]; omega
      · have := hb z z0 (by omega)
        omega
    · rw [if_neg q]
      refine hW b b0 (by omega) (fun z z0 z1 => ?_)
      by_cases q2 : z = i
      · rw [q2]; omega
      · exact hb z z0 (by omega)
  · refine w_274_4 ?_
    rw [show zb (n - 1 + 1) = n from by rw [yb_id (by omega) (by omega)]; omega, hn, if_neg (by omega)]
    have ebb := eb b (by omega) (by omega)
    refine yfor (fun i => ∀ M : ZN, (∀ c, c ≠ 265 → c ≠ 266 → zr M c = zr m c) → (∀ j, 0 ≤ j → j < n → zr M 265 j = (if b < j ∧ j < i then yrF t 1000 (e j + 1) else yrF t 1000 (e (j - 1) + 1)) ∧ zr M 266 j = (if b ≤ j ∧ j < i then yrL t 1000 (e (j + 1)) else yrL t 1000 (e j))) → zwpN d 274 61 [some (zA 236), some (zI b), some (zI i)] [] M (zPV K)) b (n - 1) (by omega) (fun i i0 i1 hW M f k => ?_) (fun M f k => ?_) m (fun _ _ _ => rfl) (fun j j0 j1 => ?_)
    · have ki := k (i + 1) (by omega) (by omega)
      rw [if_neg (by omega), if_neg (by omega), show i + 1 - 1 = i by omega] at ki
      have k6 : ∀ v j w, 0 ≤ j → j < n → v = yrL t 1000 (e (i + 1)) → zr (zsn (zsn M 266 i v) 265 i w) 266 j = (if b ≤ j ∧ j < i + 1 then yrL t 1000 (e (j + 1)) else yrL t 1000 (e j)) := fun v j w j0 j1 hv => by
        rw [yr_sc (by decide), yr_sa (n6 _)]
        by_cases q2 : j = i
        · rw [if_pos q2, if_pos (by omega), q2, hv]
        · rw [if_neg q2, (k j j0 j1).2]
          split <;> split <;> first | rfl | (exfalso; omega)
      refine w_274_61 ?_
      rw [show zb (i + 1) = i + 1 from yb_id (by omega) (by omega), f 236 (by decide) (by decide), hn, if_pos (by omega), yck_of (by omega), yck_of (by omega)]
      by_cases q : i = b
      · rw [if_pos q, yck_of (by omega), yck_of (by omega)]
        refine hW _ (fun c c0 c1 => by rw [yfc c0, yfc c1]; exact f c c0 c1) (fun j j0 j1 => ⟨?_, k6 _ j _ j0 j1 ki.2⟩)
        rw [yr_sa (n5 _)]
        have kj := (k j j0 j1).1
        by_cases q2 : j = i
        · rw [if_pos q2, yr_sc (by decide), ← q2, kj, if_neg (by omega), if_neg (by omega)]
        · rw [if_neg q2, yr_sc (by decide), kj]
          split <;> split <;> first | rfl | (exfalso; omega)
      · rw [if_neg q, yck_of (by omega), yck_of (by omega)]
        refine hW _ (fun c c0 c1 => by rw [yfc c0, yfc c1]; exact f c c0 c1) (fun j j0 j1 => ⟨?_, k6 _ j _ j0 j1 ki.2⟩)
        rw [yr_sa (n5 _)]
        have kj := (k j j0 j1).1
        by_cases q2 : j = i
        · rw [if_pos q2, yr_sc (by decide), ki.1, if_pos (by omega), q2]
        · rw [if_neg q2, yr_sc (by decide), kj]
          split <;> split <;> first | rfl | (exfalso; omega)
    · refine w_274_61 ?_
      rw [show zb (n - 1 + 1) = n from by rw [yb_id (by omega) (by omega)]; omega, f 236 (by decide) (by decide), hn, if_neg (by omega), show zb (n - 1) = n - 1 from yb_id (by omega) (by omega)]
      have hS := (he.2.2.1 b b0 (by omega)).2.resolve_left (by omega)
      have sc : ySc m M := fun a j q => by rw [f a (by unfold yscr at q; omega) (by unfold yscr at q; omega)]
      refine h _ (e b) (sc.sn _ (by unfold yscr; omega)) (fun j hj => by rw [yr_so hj, f 236 (by decide) (by decide)]) ebb.1 ebb.2 hS (fun y y0 y1 hy => ?_) ⟨by omega, yr_ss (znp_o rfl), _, ySpE_m he b0 (by omega), fun j j0 j1 => ?_⟩
      · obtain ⟨z, z0, z1, z2⟩ := he.2.2.2 y y0 (by omega) (Or.inr hy)
        have zn : z ≠ n - 1 := fun q => by rw [q, hl.2] at z2; omega
        have := hb z z0 (by omega)
        have ez := eb z z0 (by omega)
        rw [← z2]
        by_cases q : b = z
        · rw [q]; omega
        · by_cases q2 : b < z
          · have := he.2.1 b z (by omega) q2 z1
            omega
          · omega
      · have kj := k j j0 (by omega)
        rw [yr_sc (by decide), yr_sc (by decide), kj.1, kj.2]
        show (if b < j ∧ j < n - 1 then yrF t 1000 (e j + 1) else yrF t 1000 (e (j - 1) + 1)) = yrF t 1000 ((if j - 1 < b then e (j - 1) else e (j - 1 + 1)) + 1) ∧ (if b ≤ j ∧ j < n - 1 then yrL t 1000 (e (j + 1)) else yrL t 1000 (e j)) = yrL t 1000 (if j < b then e j else e (j + 1))
        constructor
        · by_cases q : b < j
          · rw [if_pos ⟨q, j1⟩, if_neg (by omega), show j - 1 + 1 = j by omega]
          · rw [if_neg (by omega), if_pos (by omega)]
        · by_cases q : b ≤ j
          · rw [if_pos ⟨q, j1⟩, if_neg (by omega)]
          · rw [if_neg (by omega), if_pos (by omega)]
    · rw [if_neg (by omega), if_neg (by omega)]
      exact hrow j j0 j1
theorem d_275 {M : ZN} {c o x : Int} {K : ZN → Prop} (Z : (Int → Prop) → Int → Prop) (h261 : zr M 261 = zr m 261) (c0 : 0 ≤ c) (c1 : c < 24) (o0 : 0 ≤ o) (o1 : o ≤ 5) (x1 : 1 ≤ x) (z0 : Z (fun _ => False) (yrc (yTt m c o) 1000)) (zs : ∀ S n g, Z S n → x < n → 0 ≤ g → g < yrc (yTt m c o) 1000 - 1 → ¬ S g → (∀ y, 0 ≤ y → y < yrc (yTt m c o) 1000 - 1 → ¬ S y → 1000 * ywd (yTt m c o) g + g ≤ 1000 * ywd (yTt m c o) y + y) → Z (fun y => S y ∨ y = g) (n - 1)) (h : ∀ M2 S, ySc M M2 → Z S (min (yrc (yTt m c o) 1000) x) → ySpM (yTt m c o) S (min (yrc (yTt m c o) 1000) x) M2 → K M2) : zcV (d + 3) 275 [zA 236, zI c, zI o, zI x] M K := by
  refine w_275 (d_273 (d := d) h261 c0 c1 o0 o1 (fun M1 s1 R1 => ?_))
  have key : ∀ r : Nat, ∀ (M2 : ZN) S n, ySc M M2 → Z S n → ySpM (yTt m c o) S n M2 → n ≤ x + r → min n x = min (yrc (yTt m c o) 1000) x → zwpN (d + 3) 275 6 [some (zA 236), some (zI c), some (zI o), some (zI x)] [] M2 (zPV K) := by
    intro r
    induction r with
    | zero =>
      intro M2 S n s2 hZ R hn hm
      refine w_275_6 ?_
      rw [R.2.1, if_neg (by omega)]
      rw [show n = min (yrc (yTt m c o) 1000) x by omega] at hZ R
      exact h M2 S s2 hZ R
    | succ r ih =>
      intro M2 S n s2 hZ R hn hm
      by_cases q : x < n
      · refine w_275_6 ?_
        rw [R.2.1, if_pos q]
        refine c_274 R (by omega) (fun M3 g s3 _ g0 g1 g2 g3 R3 => ?_)
        exact ih M3 _ (n - 1) (s2.trans s3) (zs S n g hZ q g0 g1 g2 g3) R3 (by omega) (by omega)
      · refine w_275_6 ?_
        rw [R.2.1, if_neg q]
        rw [show n = min (yrc (yTt m c o) 1000) x by omega] at hZ R
        exact h M2 S s2 hZ R
  have hr := yrc_r (yTt m c o) 1000
  exact key 1000 M1 _ _ s1 z0 (ySpM_0 R1) (by omega) rfl
/-- the marks: the first N - n of a hold of all gaps -/
def yZm (a : Int → Int) (N : Int) (S : Int → Prop) (n : Int) : Prop := n ≤ N ∧ ∀ g, 0 ≤ g → g < N - 1 → (S g ↔ ∃ y, 0 ≤ y ∧ y < N - n ∧ a y = g)
theorem yZm_0 (a : Int → Int) (N : Int) : yZm a N (fun _ => False) N := ⟨Int.le_refl _, fun g _ _ => ⟨fun z => z.elim, fun ⟨y, y0, y1, _⟩ => by omega⟩⟩
theorem yZm_s {a w : Int → Int} {N n g : Int} {S : Int → Prop} (R : 1 ≤ N → yOd w a (N - 1) (fun _ => true) (N - 1)) (h : yZm a N S n) (n1 : 1 < n) (g0 : 0 ≤ g) (g1 : g < N - 1) (hg : ¬ S g) (hm : ∀ y, 0 ≤ y → y < N - 1 → ¬ S y → 1000 * w g + g ≤ 1000 * w y + y) : yZm a N (fun y => S y ∨ y = g) (n - 1) ∧ a (N - n) = g := by
  obtain ⟨h1, h2⟩ := h
  have R := R (by omega)
  obtain ⟨y, y0, y1, y2⟩ := R.2.2.2 g g0 g1 rfl
  have ha := R.2.2.1 (N - n) (by omega) (by omega)
  have hna : ¬ S (a (N - n)) := fun z => by
    obtain ⟨v, v0, v1, v2⟩ := (h2 _ ha.1 ha.2.1).1 z
    have := R.2.1 v (N - n) v0 v1 (by omega)
    rw [v2] at this
    omega
  have hy : ¬ y < N - n := fun z => hg ((h2 g g0 g1).2 ⟨y, y0, z, y2⟩)
  have hk := hm _ ha.1 ha.2.1 hna
  have hy2 : y = N - n := by
    by_cases q : y = N - n
    · exact q
    · have := R.2.1 (N - n) y (by omega) (by omega) (by omega)
      rw [y2] at this
      omega
  rw [hy2] at y2
  refine ⟨⟨by omega, fun z z0 z1 => ⟨fun q => ?_, fun ⟨v, v0, v1, v2⟩ => ?_⟩⟩, y2⟩
  · rcases q with q | q
    · obtain ⟨v, v0, v1, v2⟩ := (h2 z z0 z1).1 q
      exact ⟨v, v0, by omega, v2⟩
    · exact ⟨N - n, by omega, by omega, by rw [y2, q]⟩
  · by_cases q : v = N - n
    · exact Or.inr (by rw [← v2, q, y2])
    · exact Or.inl ((h2 z z0 z1).2 ⟨v, v0, by omega, v2⟩)
end SQ
