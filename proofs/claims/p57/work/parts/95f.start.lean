/-! ===== the law's run from its entry ===== -/
def zB0 (L : Int) (xs : Int → Int) : ZM := fun a j => if a = -1 ∧ j = 0 then 3 else if a = 0 then (if j = -1 then L else xs j) else match zpv a j with
  | some p => p
  | none => 0
def zgo (d k pc : Nat) (ls : ZL) (st : ZS) (M : ZM) (P : Option ZV → ZM → Prop) : Prop := ∃ (n : Nat) (r : Option ZV) (M' : ZM), zbody n d k pc ls st M = some (r, M') ∧ P r M'
section GO
variable {B : ZM} {d k pc : Nat} {ls : ZL} {st : ZS} {M : ZM} {P : Option ZV → ZM → Prop}
theorem zgo_s {i : Instr} {len pc' : Nat} {ls' : ZL} {st' : ZS} {c c' : Int} {E E' : zqE} (hz : zins k pc = some (i, len)) (hl : zlenOk i len = true) (hp : (match i with | .ireturn | .lreturn | .areturn | .return_ | .invokespecial _ | .invokestatic _ | .invokevirtual _ => false | _ => true) = true) (hq : zqs k i pc ls st c E = some (pc', ls', st', c', E')) (H : zBu B c E M) (G : ∀ M', zBu B c' E' M' → zgo d k pc' ls' st' M' P) : zgo d k pc ls st M P := by
  obtain ⟨M', h1, H'⟩ := zqs_ok hq H
  obtain ⟨n, r, M2, h2, h3⟩ := G M' H'
  refine ⟨n + 1, r, M2, ?_, h3⟩
  rw [zbody_plain (zplain := fun _ => true) hz hl hp, h1]
  exact h2
theorem zgo_c {j t n2 pc' : Nat} {args r : ZS} {c c' : Int} {E E' : zqE} (hz : zins k pc = some (.invokespecial j, 3)) (hm : (zlk (zMl (zcl k)) j).map (fun q => q.1) = some t) (ht : t ≠ 1000) (hr : zready 2 t st = some (args, r)) (hq : zq n2 d t 0 (zentry t args) [] c E = some (c', E')) (he : pc + 3 = pc') (H : zBu B c E M) (G : ∀ M', zBu B c' E' M' → zgo (d + 1) k pc' ls r M' P) : zgo (d + 1) k pc ls st M P := by
  subst he
  obtain ⟨M', h1, H'⟩ := zq_ok _ _ _ _ _ _ _ _ _ _ _ hq H
  obtain ⟨⟨t', q⟩, hm1, hm2⟩ := Option.map_eq_some_iff.mp hm
  have hm2 : t' = t := hm2
  subst hm2
  obtain ⟨n, x, M2, h2, h3⟩ := G M' H'
  refine ⟨max n n2 + 1, x, M2, ?_, h3⟩
  rw [zbody_eq, hz]
  dsimp only
  rw [if_pos (show zlenOk (.invokespecial j) 3 = true from rfl), hm1]
  dsimp only
  rw [if_neg ht, hr]
  dsimp only
  rw [zbody_mono (Nat.le_max_right n n2) h1]
  exact zbody_mono (Nat.le_max_left n n2) h2
end GO
theorem zgo_end {L : Int} {xs : Int → Int} (L0 : 0 ≤ L) {M : ZM} (H : zBu (zB0 L xs) 236 [] M) : zgo 8 318 8 [some (zA 0), some (zA 3), none, none, none, none, none, none, none] [] M (fun r M' => r = some (zI 1) ∧ znx M' = 236) := by
  obtain ⟨⟨h1, -⟩, h2, h3, h4⟩ := H
  have hok : zok M := by
    intro a j p h
    by_cases a0 : a < 0
    · match a, a0, h with
      | .negSucc n, _, h =>
        have h : (bif Nat.beq n 0 then zpL [(0, 236)] j else none) = some p := h
        match n, h with
        | 0, h =>
          have h : zpL [(0, 236)] j = some p := h
          match j, h with
          | .ofNat 0, h => cases h; exact h1
    · by_cases a3 : a < 3
      · rw [h2 a j (by omega) a3]
        unfold zB0
        rw [if_neg (by omega)]
        by_cases a1 : a = 0
        · subst a1
          cases h
        · rw [if_neg a1, h]
      · by_cases a9 : a < 236
        · by_cases ag : a = 223
          · subst ag
            cases h
          · rw [h3 a j (by omega) a9 ag rfl]
            exact yini_p h
        · rw [h4 a j (by omega)]
          unfold zB0
          rw [if_neg (by omega), if_neg (by omega), h]
  have hgk : zok (fun a j => if a < 236 then M a j else yini a j) := fun a j p hp => by
    show (if a < 236 then M a j else yini a j) = p
    split
    · exact hok a j p hp
    · exact yini_p hp
  have g : ∀ a j, 3 ≤ a → a < 269 → a ≠ 223 → zr (⟨_, hgk⟩ : ZN) a j = yini a j := fun a j a0 a1 ag => by
    show (if a < 236 then M a j else yini a j) = yini a j
    by_cases q : a < 236
    · rw [if_pos q]
      exact h3 a j a0 q ag rfl
    · rw [if_neg q]
  have v0 : ∀ j, zr (⟨_, hgk⟩ : ZN) 0 j = zB0 L xs 0 j := fun j => by
    show (if (0 : Int) < 236 then M 0 j else yini 0 j) = zB0 L xs 0 j
    rw [if_pos (by decide)]
    exact h2 0 j (by omega) (by omega)
  have I : yInv L xs ⟨_, hgk⟩ := by
    have n1 : zr (⟨_, hgk⟩ : ZN) 8 1 = 0 := (g 8 1 (by omega) (by omega) (by omega)).trans (by decide +kernel)
    refine ⟨⟨(v0 (-1)).trans rfl, fun j j0 j1 => (v0 j).trans ?_⟩, ?_, ⟨⟨?_, ?_, ?_⟩, ?_, ?_⟩, ⟨?_, Or.inl ?_⟩, ?_, ⟨?_, ?_, ?_⟩, ?_⟩
    · show (if (0 : Int) = -1 ∧ _ then _ else if (0 : Int) = 0 then (if j = -1 then L else xs j) else _) = xs j
      rw [if_neg (by omega), if_pos rfl, if_neg (by omega)]
    · rw [g 4 1 (by omega) (by omega) (by omega), g 236 9 (by omega) (by omega) (by omega), g 4 2 (by omega) (by omega) (by omega), g 236 11 (by omega) (by omega) (by omega), g 4 3 (by omega) (by omega) (by omega), g 236 12 (by omega) (by omega) (by omega), show yini 4 1 = 0 from by decide +kernel, show yini 236 9 = 0 from by decide +kernel, show yini 4 2 = 4 from by decide +kernel, show yini 236 11 = 4 from by decide +kernel, show yini 4 3 = 1 from by decide +kernel, show yini 236 12 = 1 from by decide +kernel]
      exact ⟨rfl, ⟨by omega, by omega⟩, rfl, ⟨by omega, by omega⟩, rfl, ⟨by omega, by omega⟩, fun j j0 j1 => by omega⟩
    · rw [g 8 1 (by omega) (by omega) (by omega), g 236 10 (by omega) (by omega) (by omega)]; decide +kernel
    · rw [n1]; omega
    · rw [g 8 2 (by omega) (by omega) (by omega)]; decide +kernel
    · rw [n1]
      exact ⟨fun i i0 i1 => by omega, fun i i0 i1 => by omega, fun i i0 i1 => by omega⟩
    · rw [n1]
      exact fun i i0 i1 => by omega
    · rw [g 3 11 (by omega) (by omega) (by omega), g 236 17 (by omega) (by omega) (by omega)]; decide +kernel
    · rw [g 3 11 (by omega) (by omega) (by omega)]; decide +kernel
    · intro s s0 s1
      refine Or.inl ⟨?_, ?_⟩
      · rw [g 237 s (by omega) (by omega) (by omega)]
        have : s = 0 ∨ s = 1 ∨ s = 2 ∨ s = 3 ∨ s = 4 ∨ s = 5 ∨ s = 6 ∨ s = 7 := by omega
        rcases this with rfl | rfl | rfl | rfl | rfl | rfl | rfl | rfl <;> decide +kernel
      · rw [g 213 s (by omega) (by omega) (by omega)]
        have : s = 0 ∨ s = 1 ∨ s = 2 ∨ s = 3 ∨ s = 4 ∨ s = 5 ∨ s = 6 ∨ s = 7 := by omega
        rcases this with rfl | rfl | rfl | rfl | rfl | rfl | rfl | rfl <;> decide +kernel
    · rw [g 216 1 (by omega) (by omega) (by omega), g 236 7 (by omega) (by omega) (by omega)]; decide +kernel
    · rw [g 216 1 (by omega) (by omega) (by omega)]; decide +kernel
    · rw [g 216 1 (by omega) (by omega) (by omega), show yini 216 1 = 0 from by decide +kernel]
      exact fun j j0 j1 => by omega
    · intro s s0 s1
      rw [g 234 s (by omega) (by omega) (by omega), g 252 (s + 2) (by omega) (by omega) (by omega)]
      have : s = 0 ∨ s = 1 ∨ s = 2 ∨ s = 3 ∨ s = 4 := by omega
      rcases this with rfl | rfl | rfl | rfl | rfl <;> decide +kernel
  have D : yD L xs ⟨M, hok⟩ := ⟨⟨_, hgk⟩, fun a ha j => (if_pos ha).symm, I⟩
  have t : zr (⟨M, hok⟩ : ZN) 216 1 = 0 := (h3 216 1 (by omega) (by omega) (by omega) rfl).trans (by decide +kernel)
  obtain ⟨n, r, m', e1, e2⟩ := lx_body (d := 0) (P := fun r _ => r = some (zI 1)) L0 D t (fun _ => rfl)
  refine ⟨n, r, m'.1, zrun_d e1 (by decide) (fun v hv => ?_) (zSR_n.mpr trivial) (by decide), e2, m'.2 (-1) 0 236 rfl⟩
  have : v = zA 0 ∨ v = zA 3 := by simpa using hv
  rcases this with rfl | rfl
  · exact (rfl : zcls 0 = true)
  · exact (rfl : zcls 3 = true)
/-- the law ends with 1, and has made 233 cells -/
theorem zgo_law {L : Int} {xs : Int → Int} (L0 : 0 ≤ L) : zgo 8 318 0 (zentry 318 [zA 0]) [] (zB0 L xs) (fun r M' => r = some (zI 1) ∧ znx M' = 236) := by
  have H0 : zBu (zB0 L xs) 3 [] (zB0 L xs) := ⟨⟨rfl, by decide⟩, fun _ _ _ _ => rfl, fun a j a0 a1 => by omega, fun _ _ _ => rfl⟩
  have e0 : zentry 318 [zA 0] = [some (zA 0), none, none, none, none, none, none, none, none] := by decide +kernel
  rw [e0]
  refine zgo_s (i := .new 15) (len := 3) (by decide +kernel) rfl rfl (pc' := 3) (ls' := [some (zA 0), none, none, none, none, none, none, none, none]) (st' := [zA 3]) (c' := 4) (E' := ypend 3 ++ []) rfl H0 (fun M1 H1 => ?_)
  refine zgo_s (i := .dup) (len := 1) (by decide +kernel) rfl rfl (pc' := 4) (ls' := [some (zA 0), none, none, none, none, none, none, none, none]) (st' := [zA 3, zA 3]) (c' := 4) (E' := ypend 3 ++ []) rfl H1 (fun M2 H2 => ?_)
  refine zgo_c (d := 7) (j := 137) (t := 113) (args := [zA 3]) (r := [zA 3]) (pc' := 7) (by decide +kernel) (by decide +kernel) (by decide) rfl zqL_113 rfl H2 (fun M3 H3 => ?_)
  refine zgo_s (i := .astore_n 1) (len := 1) (by decide +kernel) rfl rfl (pc' := 8) (ls' := [some (zA 0), some (zA 3), none, none, none, none, none, none, none]) (st' := []) (c' := 236) (E' := []) rfl H3 (fun M4 H4 => ?_)
  exact zgo_end L0 H4
