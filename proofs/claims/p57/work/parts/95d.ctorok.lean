/-! ===== the constructors' run tells the truth ===== -/
theorem zpL_lt {l : List (Nat × Nat)} {j p : Int} (hl : l.all (fun q => Nat.blt q.1 50) = true) (h : zpL l j = some p) : 0 ≤ j ∧ j < 50 := by
  unfold zpL at h
  split at h
  · next n =>
    split at h
    · next x e =>
      have m := List.all_eq_true.mp hl _ (zlk_mem _ _ _ e)
      have := Nat.le_of_ble_eq_true m
      exact ⟨Int.natCast_nonneg n, by show (n : Int) < 50; omega⟩
    · cases h
  · cases h
theorem zpR_lt {n b w j p : Int} (hn : n ≤ 50) (h : zpR n b w j = some p) : 0 ≤ j ∧ j < 50 := by
  unfold zpR at h
  split at h
  · omega
  · cases h
theorem zpK_lt {l : List Int} {j p : Int} (hl : l.length ≤ 50) (h : zpK l j = some p) : 0 ≤ j ∧ j < 50 := by
  unfold zpK at h
  split at h
  · next n =>
    have := (List.getElem?_eq_some_iff.mp h).1
    exact ⟨Int.natCast_nonneg n, by show (n : Int) < 50; omega⟩
  · cases h
theorem zpC_lt {n : Nat} {j p : Int} (h : zpC n j = some p) : 0 ≤ j ∧ j < 50 := by
  unfold zpC at h
  split at h
  · decide
  · decide
  · decide
  · cases h
theorem zif {b : Bool} {A B : Option Int} {p : Int} (h : (bif b then A else B) = some p) : A = some p ∨ B = some p := by
  cases b
  · exact Or.inr h
  · exact Or.inl h
theorem zpS_lt {n : Nat} {j p : Int} (h : zpS n j = some p) : 0 ≤ j ∧ j < 50 := by
  unfold zpS at h
  rcases zif h with h | h; · exact zpL_lt rfl h
  rcases zif h with h | h; · exact zpL_lt rfl h
  rcases zif h with h | h; · exact zpL_lt rfl h
  rcases zif h with h | h; · exact zpL_lt rfl h
  rcases zif h with h | h; · exact zpL_lt rfl h
  rcases zif h with h | h; · exact zpL_lt rfl h
  rcases zif h with h | h; · exact zpL_lt rfl h
  rcases zif h with h | h; · exact zpL_lt rfl h
  rcases zif h with h | h; · exact zpL_lt rfl h
  rcases zif h with h | h; · exact zpL_lt rfl h
  rcases zif h with h | h; · exact zpL_lt rfl h
  rcases zif h with h | h; · exact zpR_lt (by decide) h
  rcases zif h with h | h; · exact zpR_lt (by decide) h
  rcases zif h with h | h; · exact zpR_lt (by decide) h
  rcases zif h with h | h; · exact zpK_lt (by decide) h
  rcases zif h with h | h; · exact zpK_lt (by decide) h
  cases h
theorem zpv_lt {a j p : Int} (ha : 0 ≤ a) (h : zpv a j = some p) : 0 ≤ j ∧ j < 50 := by
  obtain ⟨n, rfl⟩ := Int.eq_ofNat_of_zero_le ha
  have h : zpvN n j = some p := h
  unfold zpvN at h
  rcases zif h with h | h
  · rcases zif h with h | h
    · exact zpC_lt h
    · exact zpS_lt h
  · cases h
theorem yini_p {a j p : Int} (h : zpv a j = some p) : yini a j = p := by unfold yini; rw [h]
theorem yini_d {a j : Int} (ha : 0 ≤ a) (hj : ¬ (0 ≤ j ∧ j < 50)) : yini a j = zdef (zshF a).1 j := by
  unfold yini
  split
  · next p e => exact absurd (zpv_lt ha e) hj
  · rw [if_neg (by omega), if_neg (by omega), if_neg (by omega), if_neg (by omega), if_neg (by omega)]
theorem zqin_app {E F : zqE} {a j : Int} (h : zqin (E ++ F) a j = false) : zqin E a j = false ∧ zqin F a j = false := by
  unfold zqin at h ⊢
  rw [List.any_append, Bool.or_eq_false_iff] at h
  exact h
theorem ypend_ok {c j : Int} (hc : 0 ≤ c) (h : zqin (ypend c) c j = false) : zdef (zshF c).1 j = yini c j := by
  by_cases hj : 0 ≤ j ∧ j < 50
  · refine Classical.byContradiction (fun z => ?_)
    have hm : (c, j) ∈ ypend c := by
      unfold ypend
      refine List.mem_filter.mpr ⟨List.mem_map.mpr ⟨j.toNat, List.mem_range.mpr (by omega), ?_⟩, ?_⟩
      · rw [show ((j.toNat : Nat) : Int) = j by omega]
      · show (!decide (zdef (zshF c).1 j = yini c j)) = true
        rw [decide_eq_false z]; rfl
    have : zqin (ypend c) c j = true := List.any_eq_true.mpr ⟨(c, j), hm, decide_eq_true ⟨rfl, rfl⟩⟩
    rw [this] at h
    cases h
  · exact (yini_d hc hj).symm
theorem ypend_o {c a j : Int} (h : a ≠ c) : zqin (ypend c) a j = false := by
  cases e : zqin (ypend c) a j
  · rfl
  · obtain ⟨q, hq, h2⟩ := List.any_eq_true.mp e
    have h2 := of_decide_eq_true h2
    have h3 := (List.mem_filter.mp hq).1
    obtain ⟨n, _, h4⟩ := List.mem_map.mp h3
    rw [← h4] at h2
    exact absurd h2.1.symm h
theorem zqdel_o {E : zqE} {a j a' j' : Int} (h : zqin (zqdel E a j) a' j' = false) (hne : ¬ (a' = a ∧ j' = j)) : zqin E a' j' = false := by
  cases e : zqin E a' j'
  · rfl
  · obtain ⟨q, hq, h2⟩ := List.any_eq_true.mp e
    have h2' := of_decide_eq_true h2
    have : zqin (zqdel E a j) a' j' = true := List.any_eq_true.mpr ⟨q, List.mem_filter.mpr ⟨hq, by
      rw [decide_eq_false (fun z => hne ⟨h2'.1 ▸ z.1, h2'.2 ▸ z.2⟩)]; rfl⟩, h2⟩
    rw [this] at h
    cases h
section BU
variable {B : ZM} {c : Int} {E : zqE} {M : ZM}
/-- a cell more -/
theorem zBu.skip (H : zBu B c E M) : zBu B (zqk c) E (zskip M) := by
  obtain ⟨⟨h1, h2⟩, h3, h4, h5⟩ := H
  have hc := zskip_nx M
  have h1' : znx M = c := h1
  rw [h1'] at hc
  have hk : c ≤ zqk c := by unfold zqk; split <;> omega
  refine ⟨⟨hc, ?_⟩, fun a j a0 a1 => ?_, fun a j a0 a1 hg hE => ?_, fun a j a0 => (zskip_at (by omega) j).trans (h5 a j (by omega))⟩
  · unfold zqk
    split <;> omega
  · rw [zskip_at (by omega)]
    exact h3 a j a0 a1
  · rw [zskip_at (by omega)]
    refine h4 a j a0 ?_ hg hE
    unfold zqk at a1
    split at a1 <;> omega
theorem zBu.new (H : zBu B c E M) (hc : c ≠ 223) : zBu B (c + 1) (ypend c ++ E) (zmake M) := by
  obtain ⟨⟨h1, h2⟩, h3, h4, h5⟩ := H
  refine ⟨⟨?_, by omega⟩, fun a j a0 a1 => ?_, fun a j a0 a1 hg hE => ?_, fun a j a0 => ?_⟩
  · show (if (-1 : Int) = -1 ∧ (0 : Int) = 0 then M (-1) 0 + 1 else _) = c + 1
    rw [if_pos ⟨rfl, rfl⟩, h1]
  · show (if a = -1 ∧ j = 0 then M (-1) 0 + 1 else if a = M (-1) 0 then zdef (zsh a).1 j else M a j) = B a j
    rw [if_neg (by omega), if_neg (by omega)]
    exact h3 a j a0 a1
  · show (if a = -1 ∧ j = 0 then M (-1) 0 + 1 else if a = M (-1) 0 then zdef (zsh a).1 j else M a j) = yini a j
    have hE := zqin_app hE
    rw [if_neg (by omega), h1]
    by_cases q : a = c
    · rw [if_pos q, q, ← zshF_eq]
      rw [q] at hE
      exact ypend_ok (by omega) hE.1
    · rw [if_neg q]
      exact h4 a j a0 (by omega) hg hE.2
  · show (if a = -1 ∧ j = 0 then M (-1) 0 + 1 else if a = M (-1) 0 then zdef (zsh a).1 j else M a j) = B a j
    rw [if_neg (by omega), if_neg (by omega)]
    exact h5 a j (by omega)
/-- a place written, as it will stand -/
theorem zBu.set (H : zBu B c E M) {a j x : Int} (a0 : 3 ≤ a) (a1 : a < c) (hx : x = yini a j) : zBu B c (zqdel E a j) (zset M a j x) := by
  obtain ⟨⟨h1, h2⟩, h3, h4, h5⟩ := H
  refine ⟨⟨?_, h2⟩, fun b i b0 b1 => ?_, fun b i b0 b1 hg hE => ?_, fun b i b0 => ?_⟩
  · show (if (-1 : Int) = a ∧ (0 : Int) = j then x else M (-1) 0) = c
    rw [if_neg (by omega)]; exact h1
  · show (if b = a ∧ i = j then x else M b i) = B b i
    rw [if_neg (by omega)]; exact h3 b i b0 b1
  · show (if b = a ∧ i = j then x else M b i) = yini b i
    by_cases q : b = a ∧ i = j
    · rw [if_pos q, q.1, q.2]; exact hx
    · rw [if_neg q]; exact h4 b i b0 b1 hg (zqdel_o hE q)
  · show (if b = a ∧ i = j then x else M b i) = B b i
    rw [if_neg (by omega)]; exact h5 b i b0
end BU
