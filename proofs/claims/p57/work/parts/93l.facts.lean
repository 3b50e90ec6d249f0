/-! ===== what a ghost says of the class' cells ===== -/
theorem yD_G {m : ZN} {L : Int} {xs : Int → Int} (D : yD L xs m) : ∃ T, yG (zr m 4 1) (zr m 8 1) (zr m 4 2) (zr m 5) T m ∧ yKd (zr m 8 1) T m := by
  obtain ⟨m2, hm, I⟩ := D
  have f : ∀ a : Int, a < 236 → zr m a = zr m2 a := fun a ha => funext fun j => hm a ha j
  obtain ⟨l1, l2, l3, l4, l5, l6, l7⟩ := I.2.1
  obtain ⟨n1, n2, n3⟩ := I.2.2.1.1
  have iC := I.2.2.1.2.1
  refine ⟨yST (zr m2 254) (zr m2 255) (zr m2 256), ⟨⟨⟨rfl, ?_⟩, fun j j0 j1 => ⟨rfl, ?_⟩⟩, ⟨rfl, ?_⟩, ⟨rfl, ?_⟩, fun c c0 c1 k k0 k1 => ?_⟩, fun c c0 c1 => ?_⟩
  · rw [f 4 (by decide)]; exact l2
  · rw [f 4 (by decide)] at j1
    rw [f 5 (by decide)]
    exact (l7 j j0 j1).2
  · rw [f 4 (by decide)]; exact l4
  · rw [f 8 (by decide)]; exact n2
  · rw [f 8 (by decide)] at c1
    rw [f (10 + 4 * c + 1) (by omega), show 10 + 4 * c + 1 = 10 + 1 + 4 * c by omega]
    exact ⟨iC.2.2 c c0 c1 k k0 k1, yST_r iC.1 n2.2 25 c k c0 c1 (by omega) k0 k1⟩
  · rw [f 8 (by decide)] at c1
    have W := iC.1 c c0 c1
    obtain ⟨r, -, -, -⟩ := iC.2.1 c c0 c1
    have wr := yWA_r (N := zr m2 8 1) iC.1
    refine ⟨_, _, _, rfl, rfl, rfl, ?_⟩
    rw [f (10 + 4 * c) (by omega)]
    have x0 : yA (zr m2 256) c 0 = zr m2 256 (8 * c) := by show zr m2 256 (8 * c + 0) = _; rw [Int.add_zero]
    have x1 : yA (zr m2 256) c 1 = zr m2 256 (8 * c + 1) := rfl
    rw [r.1]
    refine ⟨fun h => r.2.2.2.1 h, W.1.2, fun h => ?_, fun h => ?_, fun h p p0 p1 => ?_, fun h p p0 p1 => ?_, fun h => ?_⟩
    · rw [(r.2.2.1 (by omega)).1, x0]
      exact (wr c c0 c1 (by omega)).1
    · rw [(r.2.2.1 (by omega)).2, x1]
      exact (wr c c0 c1 (by omega)).2 (by omega)
    · rw [(r.2.2.1 (by omega)).1, (r.2.2.1 (by omega)).2, x0, x1, yST_o wr c0 c1 (by omega) (by omega), if_pos (by omega)]
    · rw [(r.2.2.1 (by omega)).1, x0, yST_o wr c0 c1 (by omega) (by omega), if_neg (by omega)]
    · have w4 := W.2.2.2.1 (by omega)
      refine ⟨yA (zr m2 256) c 0, w4.1, w4.2, fun p p0 p1 => ?_⟩
      rw [yST_l (by omega)]
      unfold yleaf
      rw [if_pos h]
