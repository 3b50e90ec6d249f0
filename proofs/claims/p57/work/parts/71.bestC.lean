/-! ===== the cheapest plan: the walk over gaps ===== -/
theorem yCs_r {t a key : Int → Int} {n pr x : Int} (n0 : 0 ≤ n) (n1 : n ≤ 60) (p0 : 0 ≤ pr) (p1 : pr ≤ 20) (x0 : 0 ≤ x) : 0 ≤ yCs t a key n pr x ∧ yCs t a key n pr x ≤ 10060 := by
  have hr := yrc_r t 1000
  have hp : 0 ≤ pr * min x (yrc t 1000) ∧ pr * min x (yrc t 1000) ≤ 20 * 500 := ⟨Int.mul_nonneg p0 (by omega), Int.mul_le_mul p1 (by omega) (by omega) (by decide)⟩
  have hc := ycnt_r (fun l => ybo (yRd t (yFj a (yrc t 1000 - min x (yrc t 1000))) (key l))) n0
  unfold yCs yRj
  omega
theorem yCs_s {t a key : Int → Int} {pr x : Int} {n : Int} (n0 : 0 ≤ n) (R : 1 ≤ yrc t 1000 → yOd (ywd t) a (yrc t 1000 - 1) (fun _ => true) (yrc t 1000 - 1)) (x1 : 1 < x) (x2 : x ≤ yrc t 1000) : yCs t a key n pr (x - 1) = yCs t a key n pr x + (ycnt (fun l => decide (ygp t (key l) = a (yrc t 1000 - x))) n - pr) := by
  obtain ⟨k, rfl⟩ := Int.eq_ofNat_of_zero_le n0
  have := yRj_s (t := t) (a := a) (key := key) (j := yrc t 1000 - x) (n := k) (R (by omega)) (by omega) (by omega)
  unfold yCs
  rw [show min (x - 1) (yrc t 1000) = x - 1 by omega, show min x (yrc t 1000) = x by omega, show yrc t 1000 - (x - 1) = yrc t 1000 - x + 1 by omega, this, Int.mul_sub]
  omega
theorem yCs_g {t a key : Int → Int} {n pr x : Int} (h : yrc t 1000 ≤ x) : yCs t a key n pr x = yCs t a key n pr (yrc t 1000) := by
  unfold yCs
  rw [show min x (yrc t 1000) = yrc t 1000 by omega, show min (yrc t 1000) (yrc t 1000) = yrc t 1000 by omega]
section BC
variable {d : Nat} {m : ZN}
theorem c_102 {t : Int → Int} {o : Int} {K : ZN → Prop} (R : yRn t m 1000) (o0 : 0 ≤ o) (o1 : o ≤ 5) (h5 : 0 ≤ zr m 4 1) (h6 : zr m 4 1 ≤ 60) (p0 : 0 ≤ zr m 4 2) (p1 : zr m 4 2 ≤ 20) (hv : ∀ j, 0 ≤ j → j < 3 * zr m 4 1 → 0 ≤ zr m 5 j ∧ zr m 5 j ≤ 9) (h : ∀ M a b, (∀ c, c ≠ 222 → ¬ (227 ≤ c ∧ c ≤ 231) → zr M c = zr m c) → (1 ≤ yrc t 1000 → yOd (ywd t) a (yrc t 1000 - 1) (fun _ => true) (yrc t 1000 - 1)) → yBs (yCs t a (fun l => yk3 (zr m 5) l o) (zr m 4 1) (zr m 4 2)) 1 b → zr M 222 9 = b → zr M 222 10 = yCs t a (fun l => yk3 (zr m 5) l o) (zr m 4 1) (zr m 4 2) b → K M) : zcV (d + 3) 102 [zA 222, zA 4, zI o] m K := by
  have hr := yrc_r t 1000
  refine w_102 (c_95 (d := d + 1) R.1 R.2.2 (fun M1 n1 f1 R1 => ?_))
  have hR : 1 ≤ yrc t 1000 → yOd (ywd t) (zr M1 227) (yrc t 1000 - 1) (fun _ => true) (yrc t 1000 - 1) := fun q => by
    have : n1 = yrc t 1000 - 1 := by rw [R1.1, ycnt_all (by omega)]
    rw [this] at R1
    exact R1
  have Rn := yRn_f R (M := M1) (fun b b0 b1 => f1 b (by omega) (by omega) (by omega))
  have e4 : zr M1 4 = zr m 4 := f1 4 (by decide) (by decide) (by decide)
  have e5 : zr M1 5 = zr m 5 := f1 5 (by decide) (by decide) (by decide)
  refine c_103 (d := d) Rn o0 o1 (by rw [e4]; exact h5) (by rw [e4]; exact h6) (by rw [e4, e5]; exact hv) (fun M2 f2 G2 => ?_)
  rw [e4, e5] at *
  obtain ⟨a, ha⟩ : ∃ a : Int → Int, a = zr M1 227 := ⟨_, rfl⟩
  obtain ⟨key, hkey⟩ : ∃ key : Int → Int, key = fun l => yk3 (zr m 5) l o := ⟨_, rfl⟩
  have hh := h (a := a)
  clear h
  rw [← hkey] at hh
  rw [← ha] at hR
  obtain ⟨C, hC⟩ : ∃ C : Int → Int, C = yCs t a key (zr m 4 1) (zr m 4 2) := ⟨_, rfl⟩
  have CR : ∀ x, 0 ≤ x → 0 ≤ C x ∧ C x ≤ 10060 := fun x x0 => by rw [hC]; exact yCs_r h5 h6 p0 p1 x0
  have CG : ∀ x, yrc t 1000 ≤ x → C x = C (yrc t 1000) := fun x hx => by rw [hC]; exact yCs_g hx
  have CS : ∀ x, 1 < x → x ≤ yrc t 1000 → C (x - 1) = C x + (ycnt (fun l => decide (ygp t (key l) = a (yrc t 1000 - x))) (zr m 4 1) - zr m 4 2) := fun x x1 x2 => by rw [hC]; exact yCs_s h5 hR x1 x2
  have GG : ∀ g, 0 ≤ g → g < yrc t 1000 - 1 → zr M2 231 g = ycnt (fun l => decide (ygp t (key l) = g)) (zr m 4 1) := fun g g0 g1 => by rw [hkey]; exact G2 g g0 g1
  have C0 : zb (zb (zr m 4 2 * zr M1 222 8) + ycnt (fun l => decide (t (yk3 (zr m 5) l o) = 1)) (zr m 4 1)) = C (yrc t 1000) := by
    have c := CR (yrc t 1000) hr.1
    have e : C (yrc t 1000) = zr m 4 2 * yrc t 1000 + ycnt (fun l => decide (t (yk3 (zr m 5) l o) = 1)) (zr m 4 1) := by
      rw [hC, hkey]
      unfold yCs
      rw [show min (yrc t 1000) (yrc t 1000) = yrc t 1000 by omega, show yrc t 1000 - yrc t 1000 = 0 by omega, yRj_0]
    have hp : 0 ≤ zr m 4 2 * yrc t 1000 := Int.mul_nonneg p0 hr.1
    have hc := ycnt_r (fun l => decide (t (yk3 (zr m 5) l o) = 1)) h5
    rw [Rn.1, show zb (zr m 4 2 * yrc t 1000) = zr m 4 2 * yrc t 1000 from yb_id (by omega) (by omega), ← e]
    exact yb_id (by omega) (by omega)
  rw [C0]
  rw [← hC] at hh
  have g2 : ∀ c, c ≠ 222 → ¬ (227 ≤ c ∧ c ≤ 231) → zr M2 c = zr m c := fun c c0 c1 => by rw [f2 c (by omega), f1 c (by omega) (by omega) (by omega)]
  have e9 : zr M2 222 8 = yrc t 1000 := by rw [f2 222 (by decide)]; exact Rn.1
  have e27 : zr M2 227 = a := by rw [f2 227 (by decide), ha]
  have e42 : zr M2 4 2 = zr m 4 2 := by rw [g2 4 (by decide) (by decide)]
  have s10 : zr (zsn (zsn M2 222 9 1) 222 10 (C (yrc t 1000))) 222 9 = 1 := by rw [yr_so (by decide), yr_ss (znp_o rfl)]
  have s11 : zr (zsn (zsn M2 222 9 1) 222 10 (C (yrc t 1000))) 222 10 = C (yrc t 1000) := yr_ss (znp_o rfl)
  have s9 : zr (zsn (zsn M2 222 9 1) 222 10 (C (yrc t 1000))) 222 8 = yrc t 1000 := by rw [yr_so (by decide), yr_so (by decide), e9]
  have sf : ∀ b, b ≠ 222 → zr (zsn (zsn M2 222 9 1) 222 10 (C (yrc t 1000))) b = zr M2 b := fun b hb => by rw [yfc hb, yfc hb]
  generalize zsn (zsn M2 222 9 1) 222 10 (C (yrc t 1000)) = M3 at *
  rw [s9]
  have key2 : ∀ r : Nat, (r : Int) ≤ yrc t 1000 → ∀ (M : ZN) y3 y4, (1 ≤ (r : Int) → y3 = C r) → (∀ b, b ≠ 222 → zr M b = zr M2 b) → zr M 222 8 = yrc t 1000 → ((y4 = 0 ∧ min (yrc t 1000) 40 ≤ r ∧ zr M 222 9 = 1 ∧ zr M 222 10 = C (yrc t 1000)) ∨ (y4 = 1 ∧ r < min (yrc t 1000) 40 ∧ yBs C (r + 1) (zr M 222 9) ∧ zr M 222 10 = C (zr M 222 9))) → zwpN (d + 3) 102 40 [some (zA 222), some (zA 4), some (zI o), some (zI y3), some (zI y4), some (zI r)] [] M (zPV K) := by
    intro r
    induction r with
    | zero =>
      intro _ M y3 y4 _ f k9 hb
      refine w_102_40 ?_
      rw [if_pos (by omega)]
      have fm : ∀ c, c ≠ 222 → ¬ (227 ≤ c ∧ c ≤ 231) → zr M c = zr m c := fun c c0 c1 => by rw [f c c0, g2 c c0 c1]
      rcases hb with ⟨b1, b2, b3, b4⟩ | ⟨b1, b2, b3, b4⟩
      · have N0 : yrc t 1000 = 0 := by omega
        have b5 : C 1 = C (yrc t 1000) := CG 1 (by omega)
        refine hh M 1 fm hR ⟨Int.le_refl _, by decide, fun x x0 x1 => ?_, fun x x0 x1 => by omega⟩ b3 (by rw [b4, b5])
        have := CG x (by omega)
        omega
      · exact hh M _ fm hR b3 rfl b4
    | succ r ih =>
      intro hrN M y3 y4 hy f k9 hb
      obtain ⟨n, hn⟩ : ∃ n : Int, n = ((r + 1 : Nat) : Int) := ⟨_, rfl⟩
      rw [← hn] at hrN hy hb ⊢
      have hy := hy (by omega)
      have en : zb (n + -1) = (r : Int) := by rw [yb_id (by omega) (by omega)]; omega
      have cn := CR n (by omega)
      have tail : ∀ (M' : ZN) y, (∀ b, b ≠ 222 → zr M' b = zr M2 b) → zr M' 222 8 = yrc t 1000 → ((y = 0 ∧ min (yrc t 1000) 40 ≤ (r : Int) ∧ zr M' 222 9 = 1 ∧ zr M' 222 10 = C (yrc t 1000)) ∨ (y = 1 ∧ (r : Int) < min (yrc t 1000) 40 ∧ yBs C ((r : Int) + 1) (zr M' 222 9) ∧ zr M' 222 10 = C (zr M' 222 9))) → (if 1 < n then (zck (0 ≤ (zb ((zr M' 222 8) - n)) ∧ (zb ((zr M' 222 8) - n)) < 500) (zck (0 ≤ (zr M' 227 (zb ((zr M' 222 8) - n))) ∧ (zr M' 227 (zb ((zr M' 222 8) - n))) < 500) (zwpN (d + 3) 102 40 [some (zA 222), some (zA 4), some (zI o), some (zI (zb (y3 + (zb ((zr M' 231 (zr M' 227 (zb ((zr M' 222 8) - n)))) - (zr M' 4 2)))))), some (zI y), some (zI (zb (n + (-1))))] [] M' (zPV K)))) else (zwpN (d + 3) 102 40 [some (zA 222), some (zA 4), some (zI o), some (zI y3), some (zI y), some (zI (zb (n + (-1))))] [] M' (zPV K))) := fun M' y f' k9' hb' => by
        rw [en]
        by_cases q : 1 < n
        · have aa := (hR (by omega)).2.2.1 (yrc t 1000 - n) (by omega) (by omega)
          have cs := CS n q hrN
          have c1 := CR (n - 1) (by omega)
          have hc := ycnt_r (fun l => decide (ygp t (key l) = a (yrc t 1000 - n))) h5
          have e231 : zr M' 231 (a (yrc t 1000 - n)) = ycnt (fun l => decide (ygp t (key l) = a (yrc t 1000 - n))) (zr m 4 1) := by rw [f' 231 (by decide)]; exact GG _ aa.1 aa.2.1
          rw [if_pos q, k9', show zb (yrc t 1000 - n) = yrc t 1000 - n from yb_id (by omega) (by omega), yck_of (by omega), f' 227 (by decide), e27, yck_of (by omega), e231, f' 4 (by decide), e42, hy, show zb (ycnt (fun l => decide (ygp t (key l) = a (yrc t 1000 - n))) (zr m 4 1) - zr m 4 2) = ycnt (fun l => decide (ygp t (key l) = a (yrc t 1000 - n))) (zr m 4 1) - zr m 4 2 from yb_id (by omega) (by omega), ← cs, yb_id (by omega) (by omega)]
          exact ih (by omega) M' _ y (fun _ => by rw [show n - 1 = (r : Int) by omega]) f' k9' hb'
        · rw [if_neg q]
          exact ih (by omega) M' y3 y (fun z => by omega) f' k9' hb'
      have upd : ∀ M' : ZN, M' = zsn (zsn M 222 9 n) 222 10 y3 → n ≤ 40 → yBs C n n → (∀ b, b ≠ 222 → zr M' b = zr M2 b) ∧ zr M' 222 8 = yrc t 1000 ∧ ((1 : Int) = 1 ∧ (r : Int) < min (yrc t 1000) 40 ∧ yBs C ((r : Int) + 1) (zr M' 222 9) ∧ zr M' 222 10 = C (zr M' 222 9)) := fun M' e h40 hbs => by
        have v10 : zr M' 222 9 = n := by rw [e, yr_so (by decide), yr_ss (znp_o rfl)]
        have v11 : zr M' 222 10 = y3 := by rw [e, yr_ss (znp_o rfl)]
        refine ⟨fun b hb => by rw [e, yfc hb, yfc hb]; exact f b hb, by rw [e, yr_so (by decide), yr_so (by decide)]; exact k9, rfl, by omega, ?_, ?_⟩
        · rw [v10, show (r : Int) + 1 = n by omega]; exact hbs
        · rw [v10, v11, hy]
      refine w_102_40 ?_
      rw [if_neg (by omega)]
      by_cases q40 : 40 < n
      · rw [if_pos q40]
        refine tail M y4 f k9 ?_
        rcases hb with ⟨b1, b2, b3, b4⟩ | ⟨b1, b2, b3, b4⟩
        · exact Or.inl ⟨b1, by omega, b3, b4⟩
        · omega
      · rw [if_neg q40]
        rcases hb with ⟨b1, b2, b3, b4⟩ | ⟨b1, b2, b3, b4⟩
        · rw [if_pos b1]
          obtain ⟨u1, u2, u3⟩ := upd _ rfl (by omega) ⟨Int.le_refl _, by omega, fun x x0 x1 => by
            by_cases q : n = 40
            · rw [show x = n by omega]; exact Int.le_refl _
            · rw [show n = yrc t 1000 by omega, CG x (by omega)]; exact Int.le_refl _, fun x x0 x1 => by omega⟩
          exact tail _ 1 u1 u2 (Or.inr u3)
        · rw [if_neg (show ¬ y4 = 0 by omega)]
          by_cases q : zr M 222 10 < y3
          · rw [if_pos q]
            refine tail M y4 f k9 (Or.inr ⟨b1, by omega, ?_, b4⟩)
            rw [show (r : Int) + 1 = n by omega]
            exact yBs_k b3 (by rw [← b4, ← hy]; exact q)
          · rw [if_neg q]
            obtain ⟨u1, u2, u3⟩ := upd _ rfl (by omega) (yBs_n b3 (by omega) (by rw [← b4, ← hy]; omega))
            exact tail _ 1 u1 u2 (Or.inr u3)
  have := key2 (yrc t 1000).toNat (by omega) M3 (C (yrc t 1000)) 0 (fun _ => by rw [show (((yrc t 1000).toNat : Nat) : Int) = yrc t 1000 by omega]) sf s9 (Or.inl ⟨rfl, by omega, s10, s11⟩)
  rw [show (((yrc t 1000).toNat : Nat) : Int) = yrc t 1000 by omega] at this
  exact this
end BC
