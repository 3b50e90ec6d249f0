/-! ===== methods that leave the tape's size alone ===== -/
def ztI (S : Nat → Bool) (k : Nat) (i : Instr) : Bool := match i with
  | .new n => (match zlk (zCl (zcl k)) n with | some (ci, _) => !Nat.beq ci 9 | none => true)
  | .putfield n => (match zlk (zFl (zcl k)) n with | some (ci, j, _) => Nat.blt ci 89 && !(Nat.beq ci 7 && Nat.beq j 1) | none => true)
  | .invokespecial j => (match zlk (zMl (zcl k)) j with | some (t, _, _) => Nat.ble 1000 t || S t | none => true)
  | .invokestatic j => (match zlk (zMl (zcl k)) j with | some (t, _, _) => Nat.ble 1000 t || S t | none => true)
  | .invokevirtual j => (match zlk (zMl (zcl k)) j with | some (t, _, _) => Nat.ble 1000 t || S t | none => true)
  | _ => true
def zTp (M M1 : ZM) : Prop := M1 (-1) 0 = 236 ∧ M1 216 1 = M 216 1
theorem zTp_set {M : ZM} {a j v : Int} (h : M (-1) 0 = 236) (h0 : 0 ≤ a) (h1 : ¬ (a = 216 ∧ j = 1)) : zTp M (zset M a j v) := by
  refine ⟨?_, ?_⟩
  · unfold zset
    rw [if_neg (fun q => by omega)]
    exact h
  · unfold zset
    rw [if_neg (fun q => h1 ⟨q.1.symm, q.2.symm⟩)]
theorem zsh216 : zsh 216 = (17, 0) := by decide +kernel
theorem zstep_tp {S : Nat → Bool} {k pc pc' : Nat} {i : Instr} {ls ls' : ZL} {st st' : ZS} {M M1 : ZM} (hg : ztI S k i = true) (hC : M (-1) 0 = 236) (h : zstep k i pc ls st M = some (pc', ls', st', M1)) : zTp M M1 := by
  cases hp : zpurX i with
  | true =>
    have e := zstep_nat (M := M) (M' := M) (k := k) (pc := pc) (ls := ls) (st := st) hp
    rw [h] at e
    have e := Option.some.inj e
    have e1 : M1 = M := congrArg (fun c : ZC => c.2.2.2) e
    rw [e1]
    exact ⟨hC, rfl⟩
  | false =>
    have e1 : zsh (znx M) = (19, 0) := by
      show zsh (M (-1) 0) = _
      rw [hC]
      exact zsh236
    cases i <;> first | (cases hp; done) | skip
    case putfield n =>
      simp only [zstep, zputf] at h
      split at h
      · next ci j q v a r e =>
        simp only [ztI] at hg
        rw [e] at hg
        obtain ⟨g1, g2⟩ := (Bool.and_eq_true _ _).mp hg
        have hci : ci < 89 := Nat.le_of_ble_eq_true g1
        split at h
        · next hz =>
          split at h
          · cases h
            refine zTp_set hC (zsh_0 (fun q => zsh_no89 hz.1 q hci)) (fun z => ?_)
            rw [z.1, zsh216] at hz
            have c7 : ci = 7 := by have := congrArg Prod.fst hz.1; dsimp only at this; omega
            have j1 : j = 1 := by omega
            subst c7
            subst j1
            exact absurd g2 (by decide)
          · cases h
        · cases h
      · cases h
    case new n =>
      simp only [zstep, znew, zskip_id hC] at h
      split at h
      · next ci q e =>
        simp only [ztI] at hg
        rw [e] at hg
        split at h
        · next hz =>
          rw [e1] at hz
          have e2 : ci = 9 := by have := congrArg Prod.fst hz.2; dsimp only at this; omega
          subst e2
          cases hg
        · cases h
      · cases h
    case newarray t =>
      simp only [zstep, znewa, zskip_id hC] at h
      split at h
      · split at h
        · split at h
          · next hz =>
            rw [e1] at hz
            have := congrArg Prod.fst hz.2.1
            dsimp only at this
            omega
          · cases h
        · cases h
      · cases h
    case anewarray n =>
      simp only [zstep, znewa, zskip_id hC] at h
      split at h
      · split at h
        · split at h
          · next hz =>
            rw [e1] at hz
            have := congrArg Prod.fst hz.2.1
            dsimp only at this
            omega
          · cases h
        · cases h
      · cases h
    all_goals
      simp only [zstep, zgetf, zaldI, zaldB, zaldJ, zaldA, zastI, zastB, zastJ, zastA, zalen] at h
      repeat' split at h
      all_goals (first | (cases h; done) | skip)
      all_goals (cases h)
      all_goals first
        | exact ⟨hC, rfl⟩
        | (refine zTp_set hC (zsh_0 (by omega)) (fun z => ?_); rename_i hz; rw [z.1, zsh216] at hz; dsimp only at hz; omega)
theorem zTp_tr {M1 M2 M3 : ZM} (h : zTp M1 M2) (g : zTp M2 M3) : zTp M1 M3 := ⟨g.1, g.2.trans h.2⟩
theorem zacopy_tp {pc pc' : Nat} {ls ls' : ZL} {st st' : ZS} {M M1 : ZM} (hC : M (-1) 0 = 236) (h : zacopy pc ls st M = some (pc', ls', st', M1)) : zTp M M1 := by
  unfold zacopy at h
  split at h
  · next n q a p b' r =>
    split at h
    · next hz =>
      cases h
      have hk : (zsh a).1 ≤ 2 := hz.1
      have h0 : 0 ≤ a := zsh_0 (by omega)
      refine ⟨?_, ?_⟩
      · unfold zcopy
        rw [if_neg (fun z => by omega)]
        exact hC
      · unfold zcopy
        rw [if_neg (fun z => by rw [← z.1, zsh216] at hk; dsimp only at hk; omega)]
    · cases h
  · cases h
theorem zbody_tp {S : Nat → Bool} (hck : ∀ k pc i len, S k = true → zins k pc = some (i, len) → ztI S k i = true) (hbig : ∀ t, 1000 ≤ t → S t = true) : ∀ (n d k pc : Nat) (ls : ZL) (st : ZS) (M : ZM) (x : Option ZV × ZM), zbody n d k pc ls st M = some x → S k = true → M (-1) 0 = 236 → zTp M x.2
  | 0, _, _, _, _, _, _, _, h, _, _ => by cases h
  | n + 1, d, k, pc, ls, st, M, x, h, hk, hC => by
    rw [zbody_eq] at h
    split at h
    · cases h
    · next i len eq =>
      have hg := hck k pc i len hk eq
      have hS : ∀ t, (Nat.ble 1000 t || S t) = true → S t = true := fun t g => by
        rw [Bool.or_eq_true] at g
        rcases g with g | g
        · exact hbig t (Nat.le_of_ble_eq_true g)
        · exact g
      split at h
      · next hl =>
        cases i
        case ireturn =>
          dsimp only at h
          (repeat' split at h) <;> first | (cases h; done) | (cases h; exact ⟨hC, rfl⟩)
        case lreturn =>
          dsimp only at h
          (repeat' split at h) <;> first | (cases h; done) | (cases h; exact ⟨hC, rfl⟩)
        case areturn =>
          dsimp only at h
          (repeat' split at h) <;> first | (cases h; done) | (cases h; exact ⟨hC, rfl⟩)
        case return_ =>
          dsimp only at h
          (repeat' split at h) <;> first | (cases h; done) | (cases h; exact ⟨hC, rfl⟩)
        case invokespecial j =>
          simp only [ztI] at hg
          dsimp only at h
          split at h
          · next t nest q e1 =>
            rw [e1] at hg
            split at h
            · split at h
              · split at h
                · exact zbody_tp hck hbig n _ _ _ _ _ _ _ h hk hC
                · cases h
              · cases h
            · split at h
              · split at h
                · next v M1 e3 =>
                  have a := zbody_tp hck hbig n _ _ _ _ _ _ _ e3 (hS t hg) hC
                  exact zTp_tr a (zbody_tp hck hbig n _ _ _ _ _ _ _ h hk a.1)
                · cases h
              · cases h
          · cases h
        case invokestatic j =>
          simp only [ztI] at hg
          dsimp only at h
          split at h
          · next t nest q e1 =>
            rw [e1] at hg
            split at h
            · split at h
              · next e2 =>
                have a := zacopy_tp hC e2
                exact zTp_tr a (zbody_tp hck hbig n _ _ _ _ _ _ _ h hk a.1)
              · cases h
            · split at h
              · split at h
                · next e2 =>
                  have a := zmm_M e2
                  subst a
                  exact zbody_tp hck hbig n _ _ _ _ _ _ _ h hk hC
                · cases h
              · split at h
                · split at h
                  · next v M1 e3 =>
                    have a := zbody_tp hck hbig n _ _ _ _ _ _ _ e3 (hS t hg) hC
                    exact zTp_tr a (zbody_tp hck hbig n _ _ _ _ _ _ _ h hk a.1)
                  · cases h
                · cases h
          · cases h
        case invokevirtual j =>
          simp only [ztI] at hg
          dsimp only at h
          split at h
          · next t nest q e1 =>
            rw [e1] at hg
            split at h
            · split at h
              · next e2 =>
                have a := zchar_M e2
                subst a
                exact zbody_tp hck hbig n _ _ _ _ _ _ _ h hk hC
              · cases h
            · split at h
              · split at h
                · next v M1 e3 =>
                  have a := zbody_tp hck hbig n _ _ _ _ _ _ _ e3 (hS t hg) hC
                  exact zTp_tr a (zbody_tp hck hbig n _ _ _ _ _ _ _ h hk a.1)
                · cases h
              · cases h
          · cases h
        all_goals
          dsimp only at h
          split at h
          · next e1 =>
            have a := zstep_tp hg hC e1
            exact zTp_tr a (zbody_tp hck hbig n _ _ _ _ _ _ _ h hk a.1)
          · cases h
      · cases h
