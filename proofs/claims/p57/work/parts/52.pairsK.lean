/-! ===== pair: leaders ===== -/
section PK
variable {d : Nat} {m : ZN} {L : Int} {xs : Int → Int} {Q : Int → Int → ZN → Prop}
theorem ySee_G {s : Int → Int} {P : Int → Prop} {V : Int → Int} {w n G : Int} (hw : (w = 100 ∧ G = 10) ∨ (w = 10 ∧ G = 100)) (h : ySee s P V w n) (hV : ∀ e, 0 ≤ e → e < n → 0 ≤ V e ∧ V e < 1000) : ycnt (fun g => decide (s g ≠ 0)) 1000 = ycnt (fun g => decide (s g ≠ 0)) G := by
  have := ycnt_cut (p := fun g => decide (s g ≠ 0)) (G := G) (by omega) 1000 (by omega) (fun i i0 i1 => decide_eq_false (fun z => by
    obtain ⟨e, e0, e1, e2, e3⟩ := (h i (by omega) (by omega)).1 z
    have := hV e e0 e1
    rcases hw with ⟨rfl, rfl⟩ | ⟨rfl, rfl⟩ <;> omega))
  exact this
end PK
