/-! ===== pair: leaders ===== -/
/-- what has been seen: the groups of the values before k that fit -/
def ySee (s : Int → Int) (P : Int → Prop) (V : Int → Int) (w k : Int) : Prop := ∀ g, 0 ≤ g → g < 1000 → (s g ≠ 0 ↔ ∃ e, 0 ≤ e ∧ e < k ∧ P e ∧ V e / w = g)
section LD
variable {d : Nat} {m : ZN} {L : Int} {xs : Int → Int} {Q : Int → Int → ZN → Prop}
theorem ySee_f {s : Int → Int} {P : Int → Prop} {V : Int → Int} {w k : Int} (h : ySee s P V w k) (hk : ¬ P k) : ySee s P V w (k + 1) := fun g g0 g1 => by
  rw [h g g0 g1]
  constructor
  · rintro ⟨e, e0, e1, e2, e3⟩
    exact ⟨e, e0, by omega, e2, e3⟩
  · rintro ⟨e, e0, e1, e2, e3⟩
    by_cases q : e = k
    · rw [q] at e2; exact absurd e2 hk
    · exact ⟨e, e0, by omega, e2, e3⟩
theorem ySee_t {M : ZN} {P : Int → Prop} {V : Int → Int} {w k : Int} (k0 : 0 ≤ k) (h : ySee (zr M 235) P V w k) (hk : P k) : ySee (zr (zsn M 235 (V k / w) 1) 235) P V w (k + 1) := fun g g0 g1 => by
  have np : ∀ j, znp' 235 j = true := ynl rfl
  rw [yr_sa (np _)]
  by_cases q : g = V k / w
  · rw [if_pos q]
    exact ⟨fun _ => ⟨k, k0, by omega, hk, q.symm⟩, fun _ => by decide⟩
  · rw [if_neg q, h g g0 g1]
    constructor
    · rintro ⟨e, e0, e1, e2, e3⟩
      exact ⟨e, e0, by omega, e2, e3⟩
    · rintro ⟨e, e0, e1, e2, e3⟩
      by_cases q2 : e = k
      · rw [q2] at e3; exact absurd e3.symm q
      · exact ⟨e, e0, by omega, e2, e3⟩
theorem c_179 {K : ZN → Prop} (h : ∀ M2, (∀ b, b ≠ 235 → zr M2 b = zr m b) → (∀ g, 0 ≤ g → g < 1000 → zr M2 235 g = 0) → K M2) : zcV d 179 [zA 3] m K := by
  have np : ∀ j, znp' 235 j = true := ynl rfl
  refine w_179 ?_
  refine yfill (lo := 0) (n := 1000) (fun _ => 0) (zr m 235) np (fun _ => rfl) (fun i M' => zwpN d 179 2 [some (zA 3), some (zI i)] [] M' (zPV K)) (by decide) (fun i i0 i1 hW => ?_) ?_
  · refine w_179_2 ?_
    simp only [Int.zero_add] at hW ⊢
    rw [if_pos i1, yck_of (by omega), yb_id (by omega) (by omega)]
    exact hW
  · refine w_179_2 ?_
    rw [if_neg (by decide)]
    refine h _ (fun b hb => by rw [yfcc hb]) (fun g g0 g1 => ?_)
    rw [yr_cs (np _), if_pos (by omega)]
theorem c_180 (K : Int → ZN → Prop) : zcI d 180 [zA 3] m K = K (ycnt (fun g => decide (zr m 235 g ≠ 0)) 1000) m := by
  refine zcI_eq (w_180 ?_) K
  refine yfor (fun i => zwpN d 180 4 [some (zA 3), some (zI (ycnt (fun g => decide (zr m 235 g ≠ 0)) i)), some (zI i)] [] m _) 0 1000 (by decide) (fun i i0 i1 hW => ?_) ?_
  · have hr := ycnt_r (fun g => decide (zr m 235 g ≠ 0)) i0
    refine w_180_4 ?_
    rw [if_pos i1, yck_of ⟨i0, i1⟩, show zb (i + 1) = i + 1 from yb_id (by omega) (by omega), show zb (ycnt (fun g => decide (zr m 235 g ≠ 0)) i + 1) = ycnt (fun g => decide (zr m 235 g ≠ 0)) i + 1 from yb_id (by omega) (by omega)]
    by_cases q : zr m 235 i = 0
    · rw [if_pos q]
      rw [ycnt_f i0 (decide_eq_false (fun z => z q))] at hW
      exact hW
    · rw [if_neg q]
      rw [ycnt_t i0 (decide_eq_true q)] at hW
      exact hW
  · refine w_180_4 ?_
    rw [if_neg (by decide)]
    exact ⟨rfl, rfl⟩
theorem c_290_0 {c t k k2 : Int} {K : Int → ZN → Prop} (c0 : 0 ≤ c) (c1 : c < 24) (t0 : 0 ≤ t) (t5 : t ≤ 5) (k0 : 0 ≤ k) (kk : k ≤ k2) (k1 : k2 ≤ 1000) (h1 : ∀ e, k ≤ e → e < k2 → zr m 261 (1000 * c + ypl t e) = 1 → K 1 m) (h0 : (∀ e, k ≤ e → e < k2 → ¬ zr m 261 (1000 * c + ypl t e) = 1) → K 0 m) : zcI (d + 2) 290 [zA 236, zI c, zI t, zI k, zI k2, zI 0] m K := by
  refine w_290 ?_
  refine yfor (fun l => (∀ e, k ≤ e → e < l → ¬ zr m 261 (1000 * c + ypl t e) = 1) → zwpN (d + 2) 290 3 [some (zA 236), some (zI c), some (zI t), some (zI k), some (zI k2), some (zI 0), some (zI l)] [] m (zPI K)) k k2 kk (fun l l0 l1 hW hl => ?_) (fun hl => ?_) (fun e e0 e1 => by omega)
  · have hp := ypl_r t0 t5 (show 0 ≤ l by omega) (show l < 1000 by omega)
    refine w_290_3 ?_
    rw [if_pos rfl, if_pos l1, c_209 (d := d) t0 t5 (by omega) (by omega), c_211 c0 c1 hp.1 hp.2]
    by_cases q : zr m 261 (1000 * c + ypl t l) = 1
    · rw [if_pos q, yck_of (by decide)]
      exact h1 l l0 l1 q
    · rw [if_neg q, yb_id (by omega) (by omega)]
      refine hW (fun e e0 e1 => ?_)
      by_cases q2 : e = l
      · rw [q2]; exact q
      · exact hl e e0 (by omega)
  · refine w_290_3 ?_
    rw [if_pos rfl, if_neg (by omega)]
    refine w_290_41 ?_
    rw [if_pos rfl, yck_of (by decide)]
    exact h0 hl
theorem c_290_1 {c t k k2 n : Int} {K : Int → ZN → Prop} (h9 : zr m 236 9 = n) (n0 : 0 ≤ n) (hn : n ≤ 60) (c0 : 0 ≤ c) (c1 : c < 24) (t0 : 0 ≤ t) (t5 : t ≤ 5) (k0 : 0 ≤ k) (kk : k ≤ k2) (k1 : k2 ≤ 1000) (hv : ∀ j, 0 ≤ j → j < 3 * n → 0 ≤ zr m 253 j ∧ zr m 253 j ≤ 9) (h1 : ∀ e, 0 ≤ e → e < n → k ≤ yk3 (zr m 253) e t → yk3 (zr m 253) e t < k2 → zr m 261 (1000 * c + yk3 (zr m 253) e 0) = 1 → K 1 m) (h0 : (∀ e, 0 ≤ e → e < n → k ≤ yk3 (zr m 253) e t → yk3 (zr m 253) e t < k2 → ¬ zr m 261 (1000 * c + yk3 (zr m 253) e 0) = 1) → K 0 m) : zcI (d + 3) 290 [zA 236, zI c, zI t, zI k, zI k2, zI 1] m K := by
  refine w_290 (w_290_3 ?_)
  rw [if_neg (by decide)]
  refine yfor (fun l => (∀ e, 0 ≤ e → e < l → k ≤ yk3 (zr m 253) e t → yk3 (zr m 253) e t < k2 → ¬ zr m 261 (1000 * c + yk3 (zr m 253) e 0) = 1) → zwpN (d + 3) 290 41 [some (zA 236), some (zI c), some (zI t), some (zI k), some (zI k2), some (zI 1), some (zI l)] [] m (zPI K)) 0 n n0 (fun l l0 l1 hW hl => ?_) (fun hl => ?_) (fun e e0 e1 => by omega)
  · refine w_290_41 ?_
    rw [if_neg (by decide), h9, if_pos l1, c_210 (d := d + 1) l0 l1 hn t0 t5 hv, c_192, show zb (l + 1) = l + 1 from yb_id (by omega) (by omega), show zb (k2 - 1) = k2 - 1 from yb_id (by omega) (by omega)]
    by_cases q : k ≤ yk3 (zr m 253) l t ∧ yk3 (zr m 253) l t ≤ k2 - 1
    · rw [if_pos q, if_neg (by decide), c_212 (d := d) c0 c1 l0 l1 hn hv]
      by_cases q2 : zr m 261 (1000 * c + yk3 (zr m 253) l 0) = 1
      · rw [if_pos q2, yck_of (by decide)]
        exact h1 l l0 l1 q.1 (by omega) q2
      · rw [if_neg q2]
        refine hW (fun e e0 e1 f1 f2 => ?_)
        by_cases q3 : e = l
        · rw [q3]; exact q2
        · exact hl e e0 (by omega) f1 f2
    · rw [if_neg q, if_pos rfl]
      refine hW (fun e e0 e1 f1 f2 => ?_)
      by_cases q3 : e = l
      · rw [q3] at f1 f2; omega
      · exact hl e e0 (by omega) f1 f2
  · refine w_290_41 ?_
    rw [if_neg (by decide), h9, if_neg (by omega), yck_of (by decide)]
    exact h0 hl
/-- the groups counted, where beyond G none is seen -/
theorem ycnt_cut {p : Int → Bool} {G : Int} (G0 : 0 ≤ G) : ∀ n : Nat, G ≤ n → (∀ i : Int, G ≤ i → i < n → p i = false) → ycnt p n = ycnt p G := by
  intro n
  induction n with
  | zero => intro h _; rw [show G = ((0 : Nat) : Int) by omega]
  | succ n ih =>
    intro h hp
    by_cases q : G = ((n + 1 : Nat) : Int)
    · rw [q]
    · rw [show ((n + 1 : Nat) : Int) = (n : Int) + 1 by omega, ycnt_f (by omega) (hp n (by omega) (by omega))]
      exact ih (by omega) (fun i i0 i1 => hp i i0 (by omega))
theorem c_291l {c t w G x3 x4 : Int} {s : Int → Int} {M : ZN} {P : Option ZV → ZN → Prop} (hw : (w = 100 ∧ G = 10) ∨ (w = 10 ∧ G = 100)) (h4 : x4 = 0 ∨ x4 = 1) (ho : ∀ g, 0 ≤ g → g < G → ∀ K', zcI d 290 [zA 236, zI c, zI t, zI (g * w), zI (g * w + w), zI x4] M K' = K' (if s g ≠ 0 then 1 else 0) M) (h : P (some (zI (ycnt (fun g => decide (s g ≠ 0)) G))) M) : zwpN (d + 1) 291 65 [some (zA 236), some (zI c), some (zI t), some (zI x3), some (zI x4), some (zI w), some (zI 0), some (zI 0)] [] M P := by
  have G0 : 0 ≤ G := by omega
  have key := yfor (fun g => zwpN (d + 1) 291 65 [some (zA 236), some (zI c), some (zI t), some (zI x3), some (zI x4), some (zI w), some (zI (ycnt (fun g => decide (s g ≠ 0)) g)), some (zI (g * w))] [] M P) 0 G G0 (fun g g0 g1 hW => ?_) ?_
  · rw [Int.zero_mul] at key
    exact key
  · have hr := ycnt_r (fun g => decide (s g ≠ 0)) g0
    have hgw : g * w < 1000 ∧ 0 ≤ g * w ∧ g * w + w ≤ 1000 ∧ (g + 1) * w = g * w + w := by
      rcases hw with ⟨rfl, rfl⟩ | ⟨rfl, rfl⟩ <;> omega
    refine w_291_65 ?_
    rw [hgw.2.2.2] at hW
    rw [if_pos hgw.1, show zb (g * w + w) = g * w + w from yb_id (by omega) (by omega), Int.add_zero, show zb (ycnt (fun g => decide (s g ≠ 0)) g) = ycnt (fun g => decide (s g ≠ 0)) g from yb_id (by omega) (by omega), show zb (ycnt (fun g => decide (s g ≠ 0)) g + 1) = ycnt (fun g => decide (s g ≠ 0)) g + 1 from yb_id (by omega) (by omega)]
    have fin : (if (if s g ≠ 0 then (1 : Int) else 0) = 0 then (zwpN (d + 1) 291 65 [some (zA 236), some (zI c), some (zI t), some (zI x3), some (zI x4), some (zI w), some (zI (ycnt (fun g => decide (s g ≠ 0)) g)), some (zI (g * w + w))] [] M P) else (zwpN (d + 1) 291 65 [some (zA 236), some (zI c), some (zI t), some (zI x3), some (zI x4), some (zI w), some (zI (ycnt (fun g => decide (s g ≠ 0)) g + 1)), some (zI (g * w + w))] [] M P)) := by
      by_cases q : s g ≠ 0
      · rw [if_pos q, if_neg (by decide)]
        rw [ycnt_t g0 (decide_eq_true q)] at hW
        exact hW
      · rw [if_neg q, if_pos rfl]
        rw [ycnt_f g0 (decide_eq_false q)] at hW
        exact hW
    rcases h4 with rfl | rfl
    · rw [if_neg (by decide), ho g g0 g1]
      exact fin
    · rw [if_pos rfl, ho g g0 g1]
      exact fin
  · refine w_291_65 ?_
    rw [if_neg (by rcases hw with ⟨rfl, rfl⟩ | ⟨rfl, rfl⟩ <;> decide)]
    exact h
end LD
