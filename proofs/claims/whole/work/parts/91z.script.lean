/-! ===== nothing is written into the script ===== -/
section Z0
variable {k pc pc' : Nat} {ls ls' : ZL} {st st' : ZS} {M M' : ZM}
theorem z0_set {a j x : Int} (h : 3 ≤ a) : zset M a j x 0 = M 0 := funext fun i => by
  show (if (0 : Int) = a ∧ i = j then x else M 0 i) = M 0 i
  rw [if_neg (by omega)]
theorem z0_skip (M : ZM) : zskip M 0 = M 0 := funext fun i => zskip_at (by decide) i
theorem z0_make (h : 3 ≤ znx M) : zmake M 0 = M 0 := funext fun i => by
  show (if (0 : Int) = -1 ∧ i = 0 then _ else if (0 : Int) = M (-1) 0 then _ else M 0 i) = M 0 i
  have h : 3 ≤ M (-1) 0 := h
  rw [if_neg (by omega), if_neg (by omega)]
theorem z0_makes : ∀ (n : Nat) (M : ZM), 3 ≤ znx M → zmakes n M 0 = M 0
  | 0, _, _ => rfl
  | n + 1, M, h => by
    show zmakes n (zmake M) 0 = M 0
    rw [z0_makes n (zmake M) (by rw [zmake_nx]; omega), z0_make h]
theorem z0_newa {t : Nat} (h : znewa t pc ls st M = some (pc', ls', st', M')) : M' 0 = M 0 := by
  unfold znewa at h
  split at h
  · split at h
    · next hc =>
      cases h
      have h1 := hc.1
      exact z0_make (zsh_low (by rw [hc.2.1]; show t ≠ 20; omega) (by rw [hc.2.1]; show t ≠ 21; omega) (by rw [hc.2.1]; show t ≠ 99; omega))
    · cases h
  · cases h
theorem z0_newm (h : znewm pc ls st M = some (pc', ls', st', M')) : M' 0 = M 0 := by
  unfold znewm at h
  split at h
  · split at h
    · next w n r hc =>
      cases h
      have h3 : 3 ≤ znx M := zsh_low (by rw [hc.1]; show 5 ≠ 20; decide) (by rw [hc.1]; show 5 ≠ 21; decide) (by rw [hc.1]; show 5 ≠ 99; decide)
      funext j
      show (if (0 : Int) = znx M ∧ 0 ≤ j ∧ j < n then znx M + 1 + j else zmakes n.toNat (zmake M) 0 j) = M 0 j
      rw [if_neg (by omega), z0_makes _ _ (by rw [zmake_nx]; omega), z0_make h3]
    · cases h
  · cases h
theorem z0_copy (h : zacopy pc ls st M = some (pc', ls', st', M')) : M' 0 = M 0 := by
  unfold zacopy at h
  split at h
  · next n q a p b r =>
    split at h
    · next hc =>
      cases h
      have h1 := hc.1
      have h3 : 3 ≤ a := zsh_low (by omega) (by omega) (by omega)
      funext j
      show (if (0 : Int) = a ∧ q ≤ j ∧ j < q + n then M b (p + (j - q)) else M 0 j) = M 0 j
      rw [if_neg (by omega)]
    · cases h
  · cases h
theorem z0_step {i : Instr} (h : zstep k i pc ls st M = some (pc', ls', st', M')) : M' 0 = M 0 := by
  have le_of : M' = M → M' 0 = M 0 := fun e => by rw [e]
  cases i
  case ldc j => exact le_of (zkon_M h)
  case ldc_w j => exact le_of (zkon_M h)
  case ldc2_w j => exact le_of (zkon_M h)
  case iload j => exact le_of (zldI_M h)
  case iload_n j => exact le_of (zldI_M h)
  case lload j => exact le_of (zldJ_M h)
  case lload_n j => exact le_of (zldJ_M h)
  case aload j => exact le_of (zldA_M h)
  case aload_n j => exact le_of (zldA_M h)
  case istore j => exact le_of (zstI_M h)
  case istore_n j => exact le_of (zstI_M h)
  case lstore j => exact le_of (zstJ_M h)
  case astore j => exact le_of (zstA_M h)
  case astore_n j => exact le_of (zstA_M h)
  case iadd => exact le_of (zbin_M h)
  case isub => exact le_of (zbin_M h)
  case imul => exact le_of (zbin_M h)
  case iand => exact le_of (zbin_M h)
  case ior => exact le_of (zbin_M h)
  case ixor => exact le_of (zbin_M h)
  case ishl => exact le_of (zbin_M h)
  case ishr => exact le_of (zbin_M h)
  case iushr => exact le_of (zbin_M h)
  case goto off => exact le_of (zjump_at h).2.2.2
  case getfield j => exact le_of (zgetf_M h)
  case putfield n =>
    simp only [zstep] at h
    unfold zputf at h
    split at h
    · next ci j q v a r eq =>
      obtain ⟨-, -, hci⟩ := zfl_at eq
      split at h
      · next hs =>
        split at h
        · cases h
          have hs := hs.1
          exact z0_set (zsh_low (by rw [hs]; show 10 + ci ≠ 20; omega) (by rw [hs]; show 10 + ci ≠ 21; omega) (by rw [hs]; show 10 + ci ≠ 99; omega))
        · cases h
      · cases h
    · cases h
  case iaload => exact le_of (zaldI_M h)
  case baload => exact le_of (zaldB_M h)
  case laload => exact le_of (zaldJ_M h)
  case aaload => exact le_of (zaldA_M h)
  case iastore =>
    simp only [zstep, zastI] at h
    split at h
    · split at h
      · next hc => cases h; exact z0_set (zsh_low (by omega) (by omega) (by omega))
      · cases h
    · cases h
  case bastore =>
    simp only [zstep, zastB] at h
    split at h
    · split at h
      · next hc => cases h; exact z0_set (zsh_low (by omega) (by omega) (by omega))
      · cases h
    · cases h
  case lastore =>
    simp only [zstep, zastJ] at h
    split at h
    · split at h
      · next hc => cases h; exact z0_set (zsh_low (by omega) (by omega) (by omega))
      · cases h
    · cases h
  case aastore =>
    simp only [zstep, zastA] at h
    split at h
    · split at h
      · next hc => cases h; exact z0_set (zsh_low (by omega) (by omega) (by omega))
      · cases h
    · cases h
  case arraylength => exact le_of (zalen_M h)
  case new j =>
    simp only [zstep, znew] at h
    split at h
    · next ci q e =>
      split at h
      · next hc =>
        cases h
        have hs := hc.2
        have c1 := (zcl_at e).2
        have c2 := hc.1
        exact (z0_make (zsh_low (by rw [hs]; show 10 + ci ≠ 20; omega) (by rw [hs]; show 10 + ci ≠ 21; omega) (by rw [hs]; show 10 + ci ≠ 99; omega))).trans (z0_skip M)
      · cases h
    · cases h
  all_goals (try exact absurd (show none = some (pc', ls', st', M') from h) (by intro z; cases z))
  all_goals (simp only [zstep] at h)
  all_goals (repeat' split at h)
  all_goals first
    | (cases h; done)
    | (cases h; rfl)
    | exact le_of (zjump_at h).2.2.2
    | exact le_of (zbr_M h)
    | exact (z0_newa h).trans (z0_skip M)
    | exact (z0_newm h).trans (z0_skip M)
end Z0
theorem z0_body : ∀ (n d k pc : Nat) (ls : ZL) (st : ZS) (M : ZM) (r : Option ZV) (M' : ZM), zbody n d k pc ls st M = some (r, M') → M' 0 = M 0
  | 0, _, _, _, _, _, _, _, _, h => by cases h
  | n + 1, d, k, pc, ls, st, M, r, M', h => by
    rw [zbody_eq] at h
    split at h
    · cases h
    · next i m eq =>
      split at h
      · split at h
        · repeat' split at h
          all_goals first | (cases h; done) | (cases h; rfl)
        · repeat' split at h
          all_goals first | (cases h; done) | (cases h; rfl)
        · repeat' split at h
          all_goals first | (cases h; done) | (cases h; rfl)
        · repeat' split at h
          all_goals first | (cases h; done) | (cases h; rfl)
        · split at h
          · split at h
            · split at h
              · split at h
                · exact z0_body n _ _ _ _ _ _ _ _ h
                · cases h
              · cases h
            · split at h
              · split at h
                · next e1 => exact (z0_body n _ _ _ _ _ _ _ _ h).trans (z0_body n _ _ _ _ _ _ _ _ e1)
                · cases h
              · cases h
          · cases h
        · split at h
          · split at h
            · split at h
              · next e1 => exact (z0_body n _ _ _ _ _ _ _ _ h).trans (z0_copy e1)
              · cases h
            · split at h
              · split at h
                · next e1 =>
                  have := z0_body n _ _ _ _ _ _ _ _ h
                  rw [zmm_M e1] at this
                  exact this
                · cases h
              · split at h
                · split at h
                  · next e1 => exact (z0_body n _ _ _ _ _ _ _ _ h).trans (z0_body n _ _ _ _ _ _ _ _ e1)
                  · cases h
                · cases h
          · cases h
        · split at h
          · split at h
            · split at h
              · next e1 => exact (z0_body n _ _ _ _ _ _ _ _ h).trans (z0_body n _ _ _ _ _ _ _ _ e1)
              · cases h
            · cases h
          · cases h
        · split at h
          · next e1 => exact (z0_body n _ _ _ _ _ _ _ _ h).trans (z0_step e1)
          · cases h
      · cases h
/-! ===== two calls, one behind the other ===== -/
theorem zcI_2 {d1 d2 t1 t2 : Nat} {a1 a2 : ZS} {m : ZN} {K : Int → ZN → Prop} {R : Int → Int → ZN → Prop} (h : zcI d1 t1 a1 m (fun v m1 => zcI d2 t2 a2 m1 (fun v2 m2 => R v v2 m2))) (g : ∀ v m1, zr m1 0 = zr m 0 → zcI d2 t2 a2 m1 (fun v2 m2 => R v v2 m2) → K v m1) : zcI d1 t1 a1 m K := by
  obtain ⟨n, x, m', h1, h2⟩ := h
  exact ⟨n, x, m', h1, g x m' (z0_body _ _ _ _ _ _ _ _ _ h1) h2⟩
theorem zcJ_2 {d1 d2 t1 t2 : Nat} {a1 a2 : ZS} {m : ZN} {K : Int → ZN → Prop} {R : Int → Int → ZN → Prop} (h : zcJ d1 t1 a1 m (fun v m1 => zcJ d2 t2 a2 m1 (fun v2 m2 => R v v2 m2))) (g : ∀ v m1, zr m1 0 = zr m 0 → zcJ d2 t2 a2 m1 (fun v2 m2 => R v v2 m2) → K v m1) : zcJ d1 t1 a1 m K := by
  obtain ⟨n, x, m', h1, h2⟩ := h
  exact ⟨n, x, m', h1, g x m' (z0_body _ _ _ _ _ _ _ _ _ h1) h2⟩
