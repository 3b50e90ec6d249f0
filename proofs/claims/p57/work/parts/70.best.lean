/-! ===== the cheapest plan ===== -/
/-- lines read with the first j gaps of a hold joined -/
noncomputable def yRj (t : Int → Int) (a key : Int → Int) (n j : Int) : Int := ycnt (fun l => ybo (yRd t (yFj a j) (key l))) n
/-- the cost of a plan with x spans -/
noncomputable def yCs (t : Int → Int) (a key : Int → Int) (n pr x : Int) : Int := pr * min x (yrc t 1000) + yRj t a key n (yrc t 1000 - min x (yrc t 1000))
theorem yRj_0 {t a key : Int → Int} {n : Int} : yRj t a key n 0 = ycnt (fun l => decide (t (key l) = 1)) n := ycnt_c (fun l _ _ => by
  by_cases q : t (key l) = 1
  · rw [decide_eq_true q]; exact ybo_t (Or.inl q)
  · rw [decide_eq_false q]
    exact ybo_f (fun z => z.elim q (fun y => by
      obtain ⟨v, v0, v1, _⟩ := y.2.2
      omega)))
theorem yRj_s {t a key : Int → Int} {j : Int} {n : Nat} (R : yOd (ywd t) a (yrc t 1000 - 1) (fun _ => true) (yrc t 1000 - 1)) (j0 : 0 ≤ j) (j1 : j < yrc t 1000 - 1) : yRj t a key n (j + 1) = yRj t a key n j + ycnt (fun l => decide (ygp t (key l) = a j)) n := by
  have ha := R.2.2.1 j j0 j1
  refine ycnt_or (r := fun l => ybo (yRd t (yFj a (j + 1)) (key l))) (p := fun l => ybo (yRd t (yFj a j) (key l))) (q := fun l => decide (ygp t (key l) = a j)) n (fun l _ _ => ?_)
  have nj : ¬ yFj a j (a j) := fun ⟨y, y0, y1, y2⟩ => by
    have := R.2.1 y j y0 y1 j1
    rw [y2] at this
    omega
  show (ybo (yRd t (yFj a (j + 1)) (key l)) = true ↔ ybo (yRd t (yFj a j) (key l)) = true ∨ decide (ygp t (key l) = a j) = true) ∧ ¬ (ybo (yRd t (yFj a j) (key l)) = true ∧ decide (ygp t (key l) = a j) = true)
  rw [ybo_i, ybo_i, decide_eq_true_iff]
  unfold ygp yRd
  by_cases q : t (key l) = 1
  · rw [if_pos q]
    refine ⟨⟨fun _ => Or.inl (Or.inl q), fun _ => Or.inl q⟩, fun z => ?_⟩
    have := z.2
    omega
  · rw [if_neg q]
    by_cases q2 : 0 ≤ ybg t (key l) ∧ ybg t (key l) ≤ yrc t 1000 - 2
    · rw [if_pos q2]
      refine ⟨⟨fun z => ?_, fun z => ?_⟩, fun z => ?_⟩
      · obtain ⟨y, y0, y1, y2⟩ := (z.resolve_left q).2.2
        by_cases q3 : y = j
        · exact Or.inr (by rw [← q3, y2])
        · exact Or.inl (Or.inr ⟨q2.1, by omega, y, y0, by omega, y2⟩)
      · rcases z with z | z
        · obtain ⟨y, y0, y1, y2⟩ := (z.resolve_left q).2.2
          exact Or.inr ⟨q2.1, by omega, y, y0, by omega, y2⟩
        · exact Or.inr ⟨q2.1, by omega, j, j0, by omega, z.symm⟩
      · have := (z.1.resolve_left q).2.2
        rw [z.2] at this
        exact nj this
    · rw [if_neg q2]
      refine ⟨⟨fun z => ?_, fun z => ?_⟩, fun z => ?_⟩
      · have := z.resolve_left q
        omega
      · rcases z with z | z
        · have := z.resolve_left q
          omega
        · omega
      · omega
/-- b is the least of those of lo .. 40 that cost least -/
def yBs (C : Int → Int) (lo b : Int) : Prop := lo ≤ b ∧ b ≤ 40 ∧ (∀ n, lo ≤ n → n ≤ 40 → C b ≤ C n) ∧ ∀ n, lo ≤ n → n < b → C b < C n
theorem yBs_u {C : Int → Int} {lo b b' : Int} (h : yBs C lo b) (h' : yBs C lo b') : b = b' := by
  rcases Int.lt_or_le b b' with q | q
  · have := h'.2.2.2 b h.1 q
    have := h.2.2.1 b' h'.1 h'.2.1
    omega
  · by_cases q2 : b = b'
    · exact q2
    · have := h.2.2.2 b' h'.1 (by omega)
      have := h'.2.2.1 b h.1 h.2.1
      omega
theorem yBs_n {C : Int → Int} {n b : Int} (h : yBs C (n + 1) b) (n1 : n ≤ 40) (hc : C n ≤ C b) : yBs C n n := ⟨Int.le_refl _, n1, fun x x0 x1 => by
  by_cases q : x = n
  · rw [q]; exact Int.le_refl _
  · have := h.2.2.1 x (by omega) x1
    omega, fun x x0 x1 => by omega⟩
theorem yBs_k {C : Int → Int} {n b : Int} (h : yBs C (n + 1) b) (hc : C b < C n) : yBs C n b := ⟨by have := h.1; omega, h.2.1, fun x x0 x1 => by
  by_cases q : x = n
  · rw [q]; omega
  · exact h.2.2.1 x (by omega) x1, fun x x0 x1 => by
  by_cases q : x = n
  · rw [q]; exact hc
  · exact h.2.2.2 x (by omega) x1⟩
section BE
variable {d : Nat} {m : ZN}
theorem c_103 {t : Int → Int} {o : Int} {K : Int → ZN → Prop} (R : yRn t m 1000) (o0 : 0 ≤ o) (o1 : o ≤ 5) (h5 : 0 ≤ zr m 4 1) (h6 : zr m 4 1 ≤ 60) (hv : ∀ j, 0 ≤ j → j < 3 * zr m 4 1 → 0 ≤ zr m 5 j ∧ zr m 5 j ≤ 9) (h : ∀ M, (∀ b, b ≠ 231 → zr M b = zr m b) → (∀ g, 0 ≤ g → g < yrc t 1000 - 1 → zr M 231 g = ycnt (fun l => decide (ygp t (yk3 (zr m 5) l o) = g)) (zr m 4 1)) → K (ycnt (fun l => decide (t (yk3 (zr m 5) l o) = 1)) (zr m 4 1)) M) : zcI (d + 2) 103 [zA 222, zA 4, zI o] m K := by
  have hr := yrc_r t 1000
  have n1 : ∀ j, znp' 231 j = true := ynl rfl
  refine w_103 ?_
  -- all at nought
  have go : ∀ G : Int, G = max (yrc t 1000 - 1) 0 → zwpN (d + 2) 103 2 [some (zA 222), some (zA 4), some (zI o), some (zI 0), none, none, none] [] m (zPI K) := fun G hG => by
    refine yfor (fun y => ∀ M : ZN, (∀ b, b ≠ 231 → zr M b = zr m b) → (∀ g, 0 ≤ g → g < y → zr M 231 g = 0) → zwpN (d + 2) 103 2 [some (zA 222), some (zA 4), some (zI o), some (zI y), none, none, none] [] M (zPI K)) 0 G (by omega) (fun y y0 y1 hW M f k => ?_) (fun M f k => ?_) m (fun _ _ => rfl) (fun g g0 g1 => by omega)
    · refine w_103_2 ?_
      rw [f 222 (by decide), R.1, show zb (yrc t 1000 - 1) = yrc t 1000 - 1 from yb_id (by omega) (by omega), if_pos (by omega), yck_of (by omega), yb_id (by omega) (by omega)]
      refine hW _ (fun b hb => by rw [yfc hb]; exact f b hb) (fun g g0 g1 => ?_)
      rw [yr_sa (n1 _)]
      by_cases q : g = y
      · rw [if_pos q]
      · rw [if_neg q]; exact k g g0 (by omega)
    · refine w_103_2 ?_
      rw [f 222 (by decide), R.1, show zb (yrc t 1000 - 1) = yrc t 1000 - 1 from yb_id (by omega) (by omega), if_neg (by omega)]
      obtain ⟨pr, hpr⟩ : ∃ p : Int → Bool, p = fun l => decide (t (yk3 (zr m 5) l o) = 1) := ⟨_, rfl⟩
      rw [← hpr] at h
      refine yfor (fun l => ∀ (M : ZN) o5 o6, (∀ b, b ≠ 231 → zr M b = zr m b) → (∀ g, 0 ≤ g → g < yrc t 1000 - 1 → zr M 231 g = ycnt (fun l => decide (ygp t (yk3 (zr m 5) l o) = g)) l) → zwpN (d + 2) 103 30 [some (zA 222), some (zA 4), some (zI o), some (zI (ycnt pr l)), some (zI l), o5, o6] [] M (zPI K)) 0 (zr m 4 1) h5 (fun l l0 l1 hW M o5 o6 f k => ?_) (fun M o5 o6 f k => ?_) M none none f (fun g g0 g1 => by rw [ycnt_0]; exact k g g0 (by omega))
      · have hk := yk3_r (t := o) l0 l1 o0 o1 hv
        have hc := ycnt_r pr l0
        have hb := yr_k (t := t) hk.1 hk.2
        have e4 := f 4 (by decide)
        have e5 := f 5 (by decide)
        have Rn := yRn_f R (M := M) (fun b b0 b1 => f b (by omega))
        have kg : ∀ g, ygp t (yk3 (zr m 5) l o) ≠ g → ycnt (fun l => decide (ygp t (yk3 (zr m 5) l o) = g)) (l + 1) = ycnt (fun l => decide (ygp t (yk3 (zr m 5) l o) = g)) l := fun g q => ycnt_f l0 (decide_eq_false q)
        have hg : ygp t (yk3 (zr m 5) l o) = -1 ∨ (0 ≤ ygp t (yk3 (zr m 5) l o) ∧ ygp t (yk3 (zr m 5) l o) < yrc t 1000 - 1) := by
          unfold ygp
          split
          · exact Or.inl rfl
          · split
            · right; omega
            · exact Or.inl rfl
        refine w_103_30 ?_
        rw [e4, if_pos l1, c_39 (d := d) l0 (by rw [e4]; exact l1) (by rw [e4]; exact h6) o0 o1 (by rw [e4, e5]; exact hv), e5, c_98 (d := d) Rn hk.1 hk.2, c_322 (d := d + 1) Rn hk.1 hk.2, show zb (l + 1) = l + 1 from yb_id (by omega) (by omega)]
        by_cases q : t (yk3 (zr m 5) l o) = 1
        · have e : ycnt pr (l + 1) = ycnt pr l + 1 := ycnt_t l0 (by rw [hpr]; exact decide_eq_true q)
          have eg : ygp t (yk3 (zr m 5) l o) = -1 := by unfold ygp; rw [if_pos q]
          rw [if_pos q, if_neg (show ¬ (1 : Int) = 0 by decide), show zb (ycnt pr l + 1) = ycnt pr (l + 1) from by rw [e]; exact yb_id (by omega) (by omega)]
          refine hW M _ _ f (fun g g0 g1 => ?_)
          rw [kg g (by omega)]
          exact k g g0 g1
        · have e : ycnt pr (l + 1) = ycnt pr l := ycnt_f l0 (by rw [hpr]; exact decide_eq_false q)
          rw [e] at hW
          rw [if_neg q, if_pos rfl, ygq_p q]
          by_cases q2 : ygp t (yk3 (zr m 5) l o) = -1
          · rw [if_pos q2]
            refine hW M _ _ f (fun g g0 g1 => ?_)
            rw [kg g (by omega)]
            exact k g g0 g1
          · have hg := hg.resolve_left q2
            have hc2 := ycnt_r (fun l' => decide (ygp t (yk3 (zr m 5) l' o) = ygp t (yk3 (zr m 5) l o))) l0
            rw [if_neg q2, yck_of (by omega), yck_of (by omega)]
            refine hW _ _ _ (fun b hb => by rw [yfc hb]; exact f b hb) (fun g g0 g1 => ?_)
            rw [yr_sa (n1 _)]
            by_cases q3 : g = ygp t (yk3 (zr m 5) l o)
            · rw [if_pos q3, q3, k _ hg.1 hg.2, ycnt_t l0 (decide_eq_true rfl)]
              exact yb_id (by omega) (by omega)
            · rw [if_neg q3, kg g (fun z => q3 z.symm)]
              exact k g g0 g1
      · refine w_103_30 ?_
        rw [f 4 (by decide), if_neg (by omega)]
        exact h M f k
  exact go _ rfl
end BE
