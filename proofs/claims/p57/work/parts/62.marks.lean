/-! ===== gaps joined, as marks ===== -/
section MK
variable {d : Nat} {m : ZN}
theorem ycnt_all {G : Int} (h : 0 ≤ G) : ycnt (fun _ => true) G = G := by
  have := ycnt_lx h G.toNat (by omega)
  rw [show ((G.toNat : Nat) : Int) = G by omega] at this
  rw [ycnt_c (q := fun y => decide (y < G)) (fun y y0 y1 => (decide_eq_true y1).symm)]
  exact this
theorem c_96 {t : Int → Int} {x : Int} {K : ZN → Prop} (x1 : 1 ≤ x) (x40 : x ≤ 40) (hc : zr m 222 8 = yrc t 1000) (hf : ∀ i, 0 ≤ i → i < yrc t 1000 → zr m 224 i = yrF t 1000 i ∧ zr m 225 i = yrL t 1000 i) (h : ∀ M, (∀ b, b ≠ 227 → b ≠ 228 → b ≠ 229 → b ≠ 230 → zr M b = zr m b) → (1 ≤ yrc t 1000 → yOd (ywd t) (zr M 227) (yrc t 1000 - 1) (fun _ => true) (yrc t 1000 - 1)) → (∀ g, 0 ≤ g → g < yrc t 1000 - 1 → (zr M 230 g = 0 ∨ zr M 230 g = 1) ∧ (zr M 230 g = 1 ↔ ∃ y, 0 ≤ y ∧ y < yrc t 1000 - x ∧ zr M 227 y = g)) → K M) : zcV (d + 2) 96 [zA 222, zI x] m K := by
  have hr := yrc_r t 1000
  have n0 : ∀ j, znp' 230 j = true := ynl rfl
  refine w_96 (c_95 hc hf (fun M n f R => ?_))
  have hM : zr M 222 8 = yrc t 1000 := by rw [f 222 (by decide) (by decide) (by decide)]; exact hc
  have hn : 1 ≤ yrc t 1000 → n = yrc t 1000 - 1 := fun q => by rw [R.1, ycnt_all (by omega)]
  -- all at nought
  have st : ∀ M1 : ZN, (∀ b, b ≠ 230 → zr M1 b = zr M b) → (∀ g, 0 ≤ g → g < yrc t 1000 - 1 → zr M1 230 g = 0) → zwpN (d + 2) 96 31 [some (zA 222), some (zI x), some (zI 0)] [] M1 (zPV K) := fun M1 g1 g2 => by
    have go : ∀ (J : Int), J = max (yrc t 1000 - x) 0 → zwpN (d + 2) 96 31 [some (zA 222), some (zI x), some (zI 0)] [] M1 (zPV K) := fun J hJ => by
      refine yfor (fun y => ∀ M2 : ZN, (∀ b, b ≠ 230 → zr M2 b = zr M b) → (∀ g, 0 ≤ g → g < yrc t 1000 - 1 → (zr M2 230 g = 0 ∨ zr M2 230 g = 1) ∧ (zr M2 230 g = 1 ↔ ∃ z, 0 ≤ z ∧ z < y ∧ zr M 227 z = g)) → zwpN (d + 2) 96 31 [some (zA 222), some (zI x), some (zI y)] [] M2 (zPV K)) 0 J (by omega) (fun y y0 y1 hW M2 k1 k2 => ?_) (fun M2 k1 k2 => ?_) M1 g1 (fun g g0 g3 => ⟨Or.inl (g2 g g0 g3), fun z => by rw [g2 g g0 g3] at z; omega, fun ⟨z, z0, z1, _⟩ => by omega⟩)
      · have hy := R.2.2.1 y y0 (by rw [hn (by omega)]; omega)
        refine w_96_31 ?_
        rw [k1 222 (by decide), hM, show max x 1 = x by omega, show zb (yrc t 1000 - x) = yrc t 1000 - x from yb_id (by omega) (by omega), if_pos (by omega), yck_of (by omega), k1 227 (by decide), yck_of (by omega), yb_id (by omega) (by omega)]
        refine hW _ (fun b hb => by rw [yfc hb]; exact k1 b hb) (fun g g0 g3 => ?_)
        rw [yr_sa (n0 _)]
        by_cases q : g = zr M 227 y
        · rw [if_pos q]
          exact ⟨Or.inr rfl, fun _ => ⟨y, y0, by omega, q.symm⟩, fun _ => rfl⟩
        · rw [if_neg q]
          have := k2 g g0 g3
          refine ⟨this.1, fun z => ?_, fun ⟨z, z0, z1, z2⟩ => ?_⟩
          · obtain ⟨z, z0, z1, z2⟩ := this.2.1 z
            exact ⟨z, z0, by omega, z2⟩
          · by_cases q2 : z = y
            · rw [q2] at z2; exact absurd z2.symm q
            · exact this.2.2 ⟨z, z0, by omega, z2⟩
      · refine w_96_31 ?_
        rw [k1 222 (by decide), hM, show max x 1 = x by omega, show zb (yrc t 1000 - x) = yrc t 1000 - x from yb_id (by omega) (by omega), if_neg (by omega)]
        refine h M2 (fun b b0 b1 b2 b3 => by rw [k1 b b3, f b b0 b1 b2]) (fun q => by rw [k1 227 (by decide), ← hn q]; rw [← hn q] at R; exact R) (fun g g0 g3 => ?_)
        have := k2 g g0 g3
        rw [k1 227 (by decide)]
        refine ⟨this.1, fun z => ?_, fun ⟨z, z0, z1, z2⟩ => this.2.2 ⟨z, z0, by omega, z2⟩⟩
        obtain ⟨z, z0, z1, z2⟩ := this.2.1 z
        exact ⟨z, z0, by omega, z2⟩
    exact go _ rfl
  by_cases q : 1 ≤ yrc t 1000
  · refine yfor (fun y => ∀ M1 : ZN, (∀ b, b ≠ 230 → zr M1 b = zr M b) → (∀ g, 0 ≤ g → g < y → zr M1 230 g = 0) → zwpN (d + 2) 96 6 [some (zA 222), some (zI x), some (zI y)] [] M1 (zPV K)) 0 (yrc t 1000 - 1) (by omega) (fun y y0 y1 hW M1 k1 k2 => ?_) (fun M1 k1 k2 => ?_) M (fun _ _ => rfl) (fun g g0 g1 => by omega)
    · refine w_96_6 ?_
      rw [k1 222 (by decide), hM, show zb (yrc t 1000 - 1) = yrc t 1000 - 1 from yb_id (by omega) (by omega), if_pos y1, yck_of (by omega), yb_id (by omega) (by omega)]
      refine hW _ (fun b hb => by rw [yfc hb]; exact k1 b hb) (fun g g0 g1 => ?_)
      rw [yr_sa (n0 _)]
      by_cases q2 : g = y
      · rw [if_pos q2]
      · rw [if_neg q2]; exact k2 g g0 (by omega)
    · refine w_96_6 ?_
      rw [k1 222 (by decide), hM, show zb (yrc t 1000 - 1) = yrc t 1000 - 1 from yb_id (by omega) (by omega), if_neg (by omega)]
      exact st M1 k1 k2
  · refine w_96_6 ?_
    rw [hM, show zb (yrc t 1000 - 1) = yrc t 1000 - 1 from yb_id (by omega) (by omega), if_neg (by omega)]
    exact st M (fun _ _ => rfl) (fun g g0 g1 => by omega)
end MK
