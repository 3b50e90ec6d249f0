/-! ===== the law's run from its entry ===== -/
def zB0 (L : Int) (xs : Int → Int) : ZM := fun a j => if a = -1 ∧ j = 0 then 3 else if a = 0 then (if j = -1 then L else xs j) else match zpv a j with
  | some p => p
  | none => 0
def zgo (d k pc : Nat) (ls : ZL) (st : ZS) (M : ZM) (P : Option ZV → ZM → Prop) : Prop := ∃ (n : Nat) (r : Option ZV) (M' : ZM), zbody n d k pc ls st M = some (r, M') ∧ P r M'
theorem zqL_113 : zq 4000 900 113 0 (zentry 113 [zA 3]) [] 4 (ypend 3 ++ []) = some (236, []) := by decide +kernel
theorem zqL_190 : zq 4000 900 190 0 (zentry 190 [zA 236]) [] 237 (ypend 236 ++ []) = some (269, []) := by decide +kernel
section GO
variable {B : ZM} {d k pc : Nat} {ls : ZL} {st : ZS} {M : ZM} {P : Option ZV → ZM → Prop}
theorem zgo_s {i : Instr} {len pc' : Nat} {ls' : ZL} {st' : ZS} {c c' : Int} {E E' : zqE} (hz : zins k pc = some (i, len)) (hl : zlenOk i len = true) (hp : (match i with | .ireturn | .lreturn | .areturn | .return_ | .invokespecial _ | .invokestatic _ | .invokevirtual _ => false | _ => true) = true) (hq : zqs k i pc ls st c E = some (pc', ls', st', c', E')) (H : zBu B c E M) (G : ∀ M', zBu B c' E' M' → zgo d k pc' ls' st' M' P) : zgo d k pc ls st M P := by
  obtain ⟨M', h1, H'⟩ := zqs_ok hq H
  obtain ⟨n, r, M2, h2, h3⟩ := G M' H'
  refine ⟨n + 1, r, M2, ?_, h3⟩
  rw [zbody_plain (zplain := fun _ => true) hz hl hp, h1]
  exact h2
theorem zgo_c {j t n2 pc' : Nat} {args r : ZS} {c c' : Int} {E E' : zqE} (hz : zins k pc = some (.invokespecial j, 3)) (hm : (zlk (zMl (zcl k)) j).map (fun q => q.1) = some t) (ht : t ≠ 1000) (hr : zready 2 t st = some (args, r)) (hq : zq n2 d t 0 (zentry t args) [] c E = some (c', E')) (he : pc + 3 = pc') (H : zBu B c E M) (G : ∀ M', zBu B c' E' M' → zgo (d + 1) k pc' ls r M' P) : zgo (d + 1) k pc ls st M P := by
  subst he
  obtain ⟨M', h1, H'⟩ := zq_ok _ _ _ _ _ _ _ _ _ _ _ hq H
  obtain ⟨⟨t', q⟩, hm1, hm2⟩ := Option.map_eq_some_iff.mp hm
  have hm2 : t' = t := hm2
  subst hm2
  obtain ⟨n, x, M2, h2, h3⟩ := G M' H'
  refine ⟨max n n2 + 1, x, M2, ?_, h3⟩
  rw [zbody_eq, hz]
  dsimp only
  rw [if_pos (show zlenOk (.invokespecial j) 3 = true from rfl), hm1]
  dsimp only
  rw [if_neg ht, hr]
  dsimp only
  rw [zbody_mono (Nat.le_max_right n n2) h1]
  exact zbody_mono (Nat.le_max_left n n2) h2
end GO
theorem zgo_end {L : Int} {xs : Int → Int} (hL : L ≤ 3072) (L0 : 0 ≤ L) (hx : ∀ j, 0 ≤ j → j < L → -2147483648 ≤ xs j ∧ xs j ≤ 2147483647) {M : ZM} (H : zBu (zB0 L xs) 269 [] M) : zgo 901 318 18 [some (zA 0), some (zA 3), some (zA 236), some (zI 0)] [] M (fun r M' => r = some (zI 1) ∧ znx M' = 269) := by
  obtain ⟨⟨h1, -⟩, h2, h3⟩ := H
  have hok : zok M := by
    intro a j p h
    by_cases a0 : a < 0
    · match a, a0, h with
      | .negSucc n, _, h =>
        have h : (bif Nat.beq n 0 then zpL [(0, 269)] j else none) = some p := h
        match n, h with
        | 0, h =>
          have h : zpL [(0, 269)] j = some p := h
          match j, h with
          | .ofNat 0, h => cases h; exact h1
    · by_cases a3 : a < 3
      · rw [h2 a j (by omega) a3]
        unfold zB0
        rw [if_neg (by omega)]
        by_cases a1 : a = 0
        · subst a1
          cases h
        · rw [if_neg a1, h]
      · by_cases a9 : a < 269
        · by_cases ag : a = 223
          · subst ag
            cases h
          · rw [h3 a j (by omega) a9 ag rfl]
            exact yini_p h
        · exfalso
          obtain ⟨n, rfl⟩ := Int.eq_ofNat_of_zero_le (show 0 ≤ a by omega)
          have h : zpvN n j = some p := h
          have e : zshN n = (99, 0) := by
            have := zshF_eq (n : Int)
            have e2 : zsh (n : Int) = (99, 0) := by
              unfold zsh
              rw [if_neg (by omega), List.getElem?_eq_none (by rw [zshL_len]; omega)]
              rfl
            exact this.trans e2
          unfold zpvN zpb at h
          rw [e] at h
          cases h
  have v : ∀ a j, 3 ≤ a → a < 269 → a ≠ 223 → M a j = yini a j := fun a j a0 a1 ag => h3 a j a0 a1 ag rfl
  have g : ∀ a j, 3 ≤ a → a < 269 → a ≠ 223 → zr (⟨M, hok⟩ : ZN) a j = yini a j := v
  have v0 : ∀ j, M 0 j = zB0 L xs 0 j := fun j => h2 0 j (by omega) (by omega)
  have I : yInv L xs ⟨M, hok⟩ := by
    have n1 : zr (⟨M, hok⟩ : ZN) 8 1 = 0 := (g 8 1 (by omega) (by omega) (by omega)).trans (by decide +kernel)
    refine ⟨⟨(v0 (-1)).trans rfl, fun j j0 j1 => (v0 j).trans ?_⟩, ?_, ⟨⟨?_, ?_, ?_⟩, ?_, ?_⟩, ⟨?_, Or.inl ?_⟩, ?_, ⟨?_, ?_, ?_⟩, ?_⟩
    · show (if (0 : Int) = -1 ∧ _ then _ else if (0 : Int) = 0 then (if j = -1 then L else xs j) else _) = xs j
      rw [if_neg (by omega), if_pos rfl, if_neg (by omega)]
    · rw [g 4 1 (by omega) (by omega) (by omega), g 236 9 (by omega) (by omega) (by omega), g 4 2 (by omega) (by omega) (by omega), g 236 11 (by omega) (by omega) (by omega), g 4 3 (by omega) (by omega) (by omega), g 236 12 (by omega) (by omega) (by omega), show yini 4 1 = 0 from by decide +kernel, show yini 236 9 = 0 from by decide +kernel, show yini 4 2 = 4 from by decide +kernel, show yini 236 11 = 4 from by decide +kernel, show yini 4 3 = 1 from by decide +kernel, show yini 236 12 = 1 from by decide +kernel]
      exact ⟨rfl, ⟨by omega, by omega⟩, rfl, ⟨by omega, by omega⟩, rfl, ⟨by omega, by omega⟩, fun j j0 j1 => by omega⟩
    · rw [g 8 1 (by omega) (by omega) (by omega), g 236 10 (by omega) (by omega) (by omega)]; decide +kernel
    · rw [n1]; omega
    · rw [g 8 2 (by omega) (by omega) (by omega)]; decide +kernel
    · rw [n1]
      exact ⟨fun i i0 i1 => by omega, fun i i0 i1 => by omega, fun i i0 i1 => by omega⟩
    · rw [n1]
      exact fun i i0 i1 => by omega
    · rw [g 3 11 (by omega) (by omega) (by omega), g 236 17 (by omega) (by omega) (by omega)]; decide +kernel
    · rw [g 3 11 (by omega) (by omega) (by omega)]; decide +kernel
    · intro s s0 s1
      refine Or.inl ⟨?_, ?_⟩
      · rw [g 237 s (by omega) (by omega) (by omega)]
        have : s = 0 ∨ s = 1 ∨ s = 2 ∨ s = 3 ∨ s = 4 ∨ s = 5 ∨ s = 6 ∨ s = 7 := by omega
        rcases this with rfl | rfl | rfl | rfl | rfl | rfl | rfl | rfl <;> decide +kernel
      · rw [g 213 s (by omega) (by omega) (by omega)]
        have : s = 0 ∨ s = 1 ∨ s = 2 ∨ s = 3 ∨ s = 4 ∨ s = 5 ∨ s = 6 ∨ s = 7 := by omega
        rcases this with rfl | rfl | rfl | rfl | rfl | rfl | rfl | rfl <;> decide +kernel
    · rw [g 216 1 (by omega) (by omega) (by omega), g 236 7 (by omega) (by omega) (by omega)]; decide +kernel
    · rw [g 216 1 (by omega) (by omega) (by omega)]; decide +kernel
    · rw [g 216 1 (by omega) (by omega) (by omega), show yini 216 1 = 0 from by decide +kernel]
      exact fun j j0 j1 => by omega
    · intro s s0 s1
      rw [g 234 s (by omega) (by omega) (by omega), g 252 (s + 2) (by omega) (by omega) (by omega)]
      have : s = 0 ∨ s = 1 ∨ s = 2 ∨ s = 3 ∨ s = 4 := by omega
      rcases this with rfl | rfl | rfl | rfl | rfl <;> decide +kernel
  obtain ⟨n, r, m', e1, e2⟩ := l_all (D := 0) (P := fun r _ => r = some (zI 1)) hL L0 hx (fun _ => rfl) (L + 1).toNat ⟨M, hok⟩ 0 I (by omega) (by omega) (by omega)
  exact ⟨n, r, m'.1, e1, e2, m'.2 (-1) 0 269 rfl⟩
/-- the law ends with 1, and has made 266 cells -/
theorem zgo_law {L : Int} {xs : Int → Int} (hL : L ≤ 3072) (L0 : 0 ≤ L) (hx : ∀ j, 0 ≤ j → j < L → -2147483648 ≤ xs j ∧ xs j ≤ 2147483647) : zgo 901 318 0 (zentry 318 [zA 0]) [] (zB0 L xs) (fun r M' => r = some (zI 1) ∧ znx M' = 269) := by
  have H0 : zBu (zB0 L xs) 3 [] (zB0 L xs) := ⟨⟨rfl, by decide⟩, fun _ _ _ _ => rfl, fun a j a0 a1 => by omega⟩
  have e0 : zentry 318 [zA 0] = [some (zA 0), none, none, none] := by decide +kernel
  rw [e0]
  refine zgo_s (i := .new 7) (len := 3) (by decide +kernel) rfl rfl (pc' := 3) (ls' := [some (zA 0), none, none, none]) (st' := [zA 3]) (c' := 4) (E' := ypend 3 ++ []) rfl H0 (fun M1 H1 => ?_)
  refine zgo_s (i := .dup) (len := 1) (by decide +kernel) rfl rfl (pc' := 4) (ls' := [some (zA 0), none, none, none]) (st' := [zA 3, zA 3]) (c' := 4) (E' := ypend 3 ++ []) rfl H1 (fun M2 H2 => ?_)
  refine zgo_c (d := 900) (j := 9) (t := 113) (args := [zA 3]) (r := [zA 3]) (pc' := 7) (by decide +kernel) (by decide +kernel) (by decide) rfl zqL_113 rfl H2 (fun M3 H3 => ?_)
  refine zgo_s (i := .astore_n 1) (len := 1) (by decide +kernel) rfl rfl (pc' := 8) (ls' := [some (zA 0), some (zA 3), none, none]) (st' := []) (c' := 236) (E' := []) rfl H3 (fun M4 H4 => ?_)
  refine zgo_s (i := .new 10) (len := 3) (by decide +kernel) rfl rfl (pc' := 11) (ls' := [some (zA 0), some (zA 3), none, none]) (st' := [zA 236]) (c' := 237) (E' := ypend 236 ++ []) rfl H4 (fun M5 H5 => ?_)
  refine zgo_s (i := .dup) (len := 1) (by decide +kernel) rfl rfl (pc' := 12) (ls' := [some (zA 0), some (zA 3), none, none]) (st' := [zA 236, zA 236]) (c' := 237) (E' := ypend 236 ++ []) rfl H5 (fun M6 H6 => ?_)
  refine zgo_c (d := 900) (j := 12) (t := 190) (args := [zA 236]) (r := [zA 236]) (pc' := 15) (by decide +kernel) (by decide +kernel) (by decide) rfl zqL_190 rfl H6 (fun M7 H7 => ?_)
  refine zgo_s (i := .astore_n 2) (len := 1) (by decide +kernel) rfl rfl (pc' := 16) (ls' := [some (zA 0), some (zA 3), some (zA 236), none]) (st' := []) (c' := 269) (E' := []) rfl H7 (fun M8 H8 => ?_)
  refine zgo_s (i := .iconst 0) (len := 1) (by decide +kernel) rfl rfl (pc' := 17) (ls' := [some (zA 0), some (zA 3), some (zA 236), none]) (st' := [zI 0]) (c' := 269) (E' := []) rfl H8 (fun M9 H9 => ?_)
  refine zgo_s (i := .istore_n 3) (len := 1) (by decide +kernel) rfl rfl (pc' := 18) (ls' := [some (zA 0), some (zA 3), some (zA 236), some (zI 0)]) (st' := []) (c' := 269) (E' := []) rfl H9 (fun M10 H10 => ?_)
  exact zgo_end hL L0 hx H10
