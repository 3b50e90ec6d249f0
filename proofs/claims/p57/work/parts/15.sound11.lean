/-! ===== all steps: a run of the small machine is one of the large one ===== -/
theorem zbody_eq (n d k pc : Nat) (ls : ZL) (st : ZS) (M : ZM) : zbody (n + 1) d k pc ls st M = (match zins k pc with
    | none => none
    | some (i, m) => if zlenOk i m = true then (match i with
      | .ireturn => match st with
        | [.inl x] => if zretI k x = true then some (some (zI x), M) else none
        | _ => none
      | .lreturn => match st with
        | [.inr (.inl x)] => if zret k = some .long then some (some (zJ x), M) else none
        | _ => none
      | .areturn => match st with
        | [.inr (.inr a)] => if zretA k = true ∧ 0 ≤ a then some (some (zA a), M) else none
        | _ => none
      | .return_ => match st with
        | [] => if zret k = none then some (none, M) else none
        | _ => none
      | .invokespecial j => match zlk (zMl (zcl k)) j with
        | some (t, _, _) => if t = 1000 then (match st, d with
            | .inr (.inr a) :: r, _ + 1 => if 0 ≤ a ∧ zcat r ≤ 8 then zbody n d k (pc + 3) ls r M else none
            | _, _ => none)
          else (match zready 2 t st, d with
            | some (args, r), e + 1 => (match zbody n e t 0 (zentry t args) [] M with
              | some (v, M') => zbody n d k (pc + 3) ls (v.toList ++ r) M'
              | none => none)
            | _, _ => none)
        | none => none
      | .invokestatic j => match zlk (zMl (zcl k)) j with
        | some (t, _, _) => if t = 1001 then (match d, zacopy (pc + 3) ls st M with
            | _ + 1, some (pc', ls', st', M') => zbody n d k pc' ls' st' M'
            | _, _ => none)
          else if t = 1002 ∨ t = 1003 then (match d, zmm t (pc + 3) ls st M with
            | _ + 1, some (pc', ls', st', M') => zbody n d k pc' ls' st' M'
            | _, _ => none)
          else (match zready 0 t st, d with
            | some (args, r), e + 1 => (match zbody n e t 0 (zentry t args) [] M with
              | some (v, M') => zbody n d k (pc + 3) ls (v.toList ++ r) M'
              | none => none)
            | _, _ => none)
        | none => none
      | .invokevirtual j => match zlk (zMl (zcl k)) j with
        | some (t, _, _) => if t = 1004 then (match zchar d (pc + 3) ls st M with
            | some (pc', ls', st', M') => zbody n d k pc' ls' st' M'
            | none => none)
          else (match zready 1 t st, d with
            | some (args, r), e + 1 => (match zbody n e t 0 (zentry t args) [] M with
              | some (v, M') => zbody n d k (pc + 3) ls (v.toList ++ r) M'
              | none => none)
            | _, _ => none)
        | none => none
      | _ => match zstep k i pc ls st M with
        | some (pc', ls', st', M') => zbody n d k pc' ls' st' M'
        | none => none) else none) := rfl
section ZNX
variable {k : Nat} {pc pc' : Nat} {ls ls' : ZL} {st st' : ZS} {M M' : ZM}
theorem zkon_M {n : Nat} {x : Option (Nat × Int × zPos)} (h : zkon n x pc ls st M = some (pc', ls', st', M')) : M' = M := by
  unfold zkon at h
  repeat' split at h
  all_goals first | (cases h; done) | (cases h; rfl)
theorem zldI_M {x : Option ZV} (h : zldI x pc ls st M = some (pc', ls', st', M')) : M' = M := by
  unfold zldI at h
  repeat' split at h
  all_goals first | (cases h; done) | (cases h; rfl)
theorem zldJ_M {x : Option ZV} (h : zldJ x pc ls st M = some (pc', ls', st', M')) : M' = M := by
  unfold zldJ at h
  repeat' split at h
  all_goals first | (cases h; done) | (cases h; rfl)
theorem zldA_M {x : Option ZV} (h : zldA x pc ls st M = some (pc', ls', st', M')) : M' = M := by
  unfold zldA at h
  repeat' split at h
  all_goals first | (cases h; done) | (cases h; rfl)
theorem zstI_M {i : Nat} (h : zstI i pc ls st M = some (pc', ls', st', M')) : M' = M := by
  unfold zstI at h
  repeat' split at h
  all_goals first | (cases h; done) | (cases h; rfl)
theorem zstJ_M {i : Nat} (h : zstJ i pc ls st M = some (pc', ls', st', M')) : M' = M := by
  unfold zstJ at h
  repeat' split at h
  all_goals first | (cases h; done) | (cases h; rfl)
theorem zstA_M {i : Nat} (h : zstA i pc ls st M = some (pc', ls', st', M')) : M' = M := by
  unfold zstA at h
  repeat' split at h
  all_goals first | (cases h; done) | (cases h; rfl)
theorem zbin_M {f : Int → Int → Int} (h : zbin f pc ls st M = some (pc', ls', st', M')) : M' = M := by
  unfold zbin at h
  repeat' split at h
  all_goals first | (cases h; done) | (cases h; rfl)
theorem zbr_M {b : Bool} {off : Int} (h : zbr b pc off ls st M = some (pc', ls', st', M')) : M' = M := by
  unfold zbr at h
  repeat' split at h
  all_goals first | (cases h; done) | (cases h; rfl)
theorem zgetf_M {x : Option (Nat × Nat × zPos)} (h : zgetf x pc ls st M = some (pc', ls', st', M')) : M' = M := by
  unfold zgetf at h
  repeat' split at h
  all_goals first | (cases h; done) | (cases h; rfl)
theorem zaldI_M (h : zaldI pc ls st M = some (pc', ls', st', M')) : M' = M := by
  unfold zaldI at h
  repeat' split at h
  all_goals first | (cases h; done) | (cases h; rfl)
theorem zaldB_M (h : zaldB pc ls st M = some (pc', ls', st', M')) : M' = M := by
  unfold zaldB at h
  repeat' split at h
  all_goals first | (cases h; done) | (cases h; rfl)
theorem zaldJ_M (h : zaldJ pc ls st M = some (pc', ls', st', M')) : M' = M := by
  unfold zaldJ at h
  repeat' split at h
  all_goals first | (cases h; done) | (cases h; rfl)
theorem zaldA_M (h : zaldA pc ls st M = some (pc', ls', st', M')) : M' = M := by
  unfold zaldA at h
  repeat' split at h
  all_goals first | (cases h; done) | (cases h; rfl)
theorem zalen_M (h : zalen pc ls st M = some (pc', ls', st', M')) : M' = M := by
  unfold zalen at h
  repeat' split at h
  all_goals first | (cases h; done) | (cases h; rfl)
theorem zFl_lt (c : Nat) : (zFl c).all (fun e => Nat.blt e.2.1 10) = true := by
  unfold zFl
  split <;> first | decide +kernel | rfl
theorem zfl_lt {n ci j : Nat} {q : zPos} (h : zlk (zFl (zcl k)) n = some (ci, j, q)) : ci < 10 := by
  have h1 := List.all_eq_true.mp (zFl_lt (zcl k)) _ (zlk_mem _ _ _ h)
  exact Nat.le_of_ble_eq_true h1
theorem zputf_nx {n : Nat} (h : zputf k (zlk (zFl (zcl k)) n) pc ls st M = some (pc', ls', st', M')) : znx M' = znx M := by
  unfold zputf at h
  split at h
  · next ci j q v a r eq =>
    have hci := zfl_lt eq
    split at h
    · next hs =>
      split at h
      · cases h
        have hs := hs.1
        exact znx_set (zsh_low (by rw [hs]; show 10 + ci ≠ 20; omega) (by rw [hs]; show 10 + ci ≠ 21; omega) (by rw [hs]; show 10 + ci ≠ 99; omega))
      · cases h
    · cases h
  · cases h
theorem zastI_nx (h : zastI pc ls st M = some (pc', ls', st', M')) : znx M' = znx M := by
  unfold zastI at h
  split at h
  · split at h
    · next hc => cases h; exact znx_set (zsh_low (by omega) (by omega) (by omega))
    · cases h
  · cases h
theorem zastJ_nx (h : zastJ pc ls st M = some (pc', ls', st', M')) : znx M' = znx M := by
  unfold zastJ at h
  split at h
  · split at h
    · next hc => cases h; exact znx_set (zsh_low (by omega) (by omega) (by omega))
    · cases h
  · cases h
theorem zastB_nx (h : zastB pc ls st M = some (pc', ls', st', M')) : znx M' = znx M := by
  unfold zastB at h
  split at h
  · split at h
    · next hc => cases h; exact znx_set (zsh_low (by omega) (by omega) (by omega))
    · cases h
  · cases h
theorem zastA_nx (h : zastA pc ls st M = some (pc', ls', st', M')) : znx M' = znx M := by
  unfold zastA at h
  split at h
  · split at h
    · next hc => cases h; exact znx_set (zsh_low (by omega) (by omega) (by omega))
    · cases h
  · cases h
theorem znew_nx {x : Option (Nat × zPos)} (h : znew x pc ls st M = some (pc', ls', st', M')) : znx M' = znx M + 1 := by
  unfold znew at h
  split at h
  · split at h
    · cases h; exact zmake_nx M
    · cases h
  · cases h
theorem znewa_nx {t : Nat} (h : znewa t pc ls st M = some (pc', ls', st', M')) : znx M' = znx M + 1 := by
  unfold znewa at h
  split at h
  · split at h
    · cases h; exact zmake_nx M
    · cases h
  · cases h
theorem zkonS_M {x : Option (Nat × Int × zPos)} (h : zkonS x pc ls st M = some (pc', ls', st', M')) : M' = M := by
  unfold zkonS at h
  repeat' split at h
  all_goals first | (cases h; done) | (cases h; rfl)
theorem zchar_M {d : Nat} (h : zchar d pc ls st M = some (pc', ls', st', M')) : M' = M := by
  unfold zchar at h
  repeat' split at h
  all_goals first | (cases h; done) | (cases h; rfl)
theorem zacopy_nx (h : zacopy pc ls st M = some (pc', ls', st', M')) : znx M' = znx M := by
  unfold zacopy at h
  split at h
  · split at h
    · next n q a sp b r hc =>
      cases h
      have h3 : 3 ≤ a := zsh_low (by omega) (by omega) (by omega)
      show (if (-1 : Int) = a ∧ _ then _ else _) = _
      rw [if_neg (fun z => by have := z.1; omega)]
      rfl
    · cases h
  · cases h
theorem zmm_M {t : Nat} (h : zmm t pc ls st M = some (pc', ls', st', M')) : M' = M := by
  unfold zmm at h
  repeat' split at h
  all_goals first | (cases h; done) | (cases h; rfl)
theorem zstep_nx {i : Instr} (h : zstep k i pc ls st M = some (pc', ls', st', M')) : znx M ≤ znx M' := by
  have le_of : M' = M → znx M ≤ znx M' := fun e => by rw [e]; exact Int.le_refl _
  have le_eq : znx M' = znx M → znx M ≤ znx M' := fun e => by rw [e]; exact Int.le_refl _
  have hsk := zskip_le M
  cases i
  case ldc j => exact le_of (zkonS_M h)
  case ldc_w j => exact le_of (zkon_M h)
  case ldc2_w j => exact le_of (zkon_M h)
  case iload j => exact le_of (zldI_M h)
  case iload_n j => exact le_of (zldI_M h)
  case lload j => exact le_of (zldJ_M h)
  case lload_n j => exact le_of (zldJ_M h)
  case aload j => exact le_of (zldA_M h)
  case aload_n j => exact le_of (zldA_M h)
  case istore j => exact le_of (zstI_M h)
  case istore_n j => exact le_of (zstI_M h)
  case lstore j => exact le_of (zstJ_M h)
  case astore j => exact le_of (zstA_M h)
  case astore_n j => exact le_of (zstA_M h)
  case iadd => exact le_of (zbin_M h)
  case isub => exact le_of (zbin_M h)
  case imul => exact le_of (zbin_M h)
  case iand => exact le_of (zbin_M h)
  case ior => exact le_of (zbin_M h)
  case ixor => exact le_of (zbin_M h)
  case ishl => exact le_of (zbin_M h)
  case ishr => exact le_of (zbin_M h)
  case iushr => exact le_of (zbin_M h)
  case goto off => exact le_of (zjump_at h).2.2.2
  case getfield j => exact le_of (zgetf_M h)
  case putfield j => exact le_eq (zputf_nx h)
  case iaload => exact le_of (zaldI_M h)
  case baload => exact le_of (zaldB_M h)
  case laload => exact le_of (zaldJ_M h)
  case aaload => exact le_of (zaldA_M h)
  case iastore => exact le_eq (zastI_nx h)
  case bastore => exact le_eq (zastB_nx h)
  case lastore => exact le_eq (zastJ_nx h)
  case aastore => exact le_eq (zastA_nx h)
  case arraylength => exact le_of (zalen_M h)
  case new j => have := znew_nx h; omega
  all_goals (try exact absurd (show none = some (pc', ls', st', M') from h) (by intro z; cases z))
  all_goals (simp only [zstep] at h)
  all_goals (repeat' split at h)
  all_goals first
    | (cases h; done)
    | (cases h; exact Int.le_refl _)
    | exact le_of (zjump_at h).2.2.2
    | exact le_of (zbr_M h)
    | (have := znewa_nx h; omega)
theorem zbody_nx : ∀ (n d k pc : Nat) (ls : ZL) (st : ZS) (M : ZM) (r : Option ZV) (M' : ZM), zbody n d k pc ls st M = some (r, M') → znx M ≤ znx M'
  | 0, _, _, _, _, _, _, _, _, h => by cases h
  | n + 1, d, k, pc, ls, st, M, r, M', h => by
    rw [zbody_eq] at h
    split at h
    · cases h
    · next i m eq =>
      split at h
      · split at h
        · repeat' split at h
          all_goals first | (cases h; done) | (cases h; exact Int.le_refl _)
        · repeat' split at h
          all_goals first | (cases h; done) | (cases h; exact Int.le_refl _)
        · repeat' split at h
          all_goals first | (cases h; done) | (cases h; exact Int.le_refl _)
        · repeat' split at h
          all_goals first | (cases h; done) | (cases h; exact Int.le_refl _)
        · split at h
          · split at h
            · split at h
              · split at h
                · exact zbody_nx n _ _ _ _ _ _ _ _ h
                · cases h
              · cases h
            · split at h
              · split at h
                · next e1 => exact Int.le_trans (zbody_nx n _ _ _ _ _ _ _ _ e1) (zbody_nx n _ _ _ _ _ _ _ _ h)
                · cases h
              · cases h
          · cases h
        · split at h
          · split at h
            · split at h
              · next e1 =>
                have := zbody_nx n _ _ _ _ _ _ _ _ h
                rw [zacopy_nx e1] at this
                exact this
              · cases h
            · split at h
              · split at h
                · next e1 =>
                  have := zbody_nx n _ _ _ _ _ _ _ _ h
                  rw [zmm_M e1] at this
                  exact this
                · cases h
              · split at h
                · split at h
                  · next e1 => exact Int.le_trans (zbody_nx n _ _ _ _ _ _ _ _ e1) (zbody_nx n _ _ _ _ _ _ _ _ h)
                  · cases h
                · cases h
          · cases h
        · split at h
          · split at h
            · split at h
              · next e1 =>
                have := zbody_nx n _ _ _ _ _ _ _ _ h
                rw [zchar_M e1] at this
                exact this
              · cases h
            · split at h
              · split at h
                · next e1 => exact Int.le_trans (zbody_nx n _ _ _ _ _ _ _ _ e1) (zbody_nx n _ _ _ _ _ _ _ _ h)
                · cases h
              · cases h
          · cases h
        · split at h
          · next e1 => exact Int.le_trans (zstep_nx e1) (zbody_nx n _ _ _ _ _ _ _ _ h)
          · cases h
      · cases h
theorem zix_le {a b : Int} (h : a ≤ b) : zix a ≤ zix b := by
  unfold zix
  split <;> split <;> omega
theorem zdc_add {M M1 M2 : ZM} (h1 : znx M ≤ znx M1) (h2 : znx M1 ≤ znx M2) : zdc M M1 + zdc M1 M2 = zdc M M2 := by
  have a := zix_le h1
  have b := zix_le h2
  unfold zdc
  omega
theorem zds_add {M M1 M2 : ZM} (h1 : znx M ≤ znx M1) (h2 : znx M1 ≤ znx M2) : zds M M1 + zds M1 M2 = zds M M2 := by
  have a : zsl M ≤ zsl M1 := zsum_mono (by omega)
  have b : zsl M1 ≤ zsl M2 := zsum_mono (by omega)
  unfold zds
  omega
end ZNX
theorem zsnd {l : Launch} {B : zBs} {D : va_G} {aD : Nat → ClassId} {L : Nat} {xs : Nat → Int32} : ∀ n : Nat, zSnd l B D aD L xs n
  | 0 => fun d k pc ls st M r M' h => by cases h
  | n + 1 => by
    intro d k pc ls st M r M' h p e R s m args below meth c C hfr hlo H locs LS cells slots Q S hc hs hret
    have ih := zsnd (l := l) (B := B) (D := D) (aD := aD) (L := L) (xs := xs) n
    have hnxA := zbody_nx _ _ _ _ _ _ _ _ _ h
    /- what goes on behind a step or a call -/
    have next : ∀ (pc1 : Nat) (ls1 : ZL) (st1 : ZS) (M1 : ZM), zbody n d k pc1 ls1 st1 M1 = some (r, M') → znx M ≤ znx M1 → ∀ (H1 : Heap) (locs1 : List Loc) (LS1 : Array Slot), zSt B D aD L xs k s H1 locs1 ls1 LS1 st1 M1 → W p l e R s m args below meth c H1 locs1 (cells + zdc M M1) (slots + zds M M1) Q (F0 m pc1 LS1 (st1.map (zenc B))) := by
      intro pc1 ls1 st1 M1 h1 hn1 H1 locs1 LS1 S1
      have hn2 := zbody_nx _ _ _ _ _ _ _ _ _ h1
      have a1 := zdc_add hn1 hn2
      have a2 := zds_add hn1 hn2
      refine ih d k pc1 ls1 st1 M1 r M' h1 p e R s m args below meth c C hfr hlo H1 locs1 LS1 _ _ Q S1 (by omega) (by omega) ?_
      intro H2 locs2 LS2 pc2 ST q1 q2 q3 q4 q5
      have w := hret H2 locs2 LS2 pc2 ST q1 q2 q3 q4 q5
      rw [Nat.add_assoc, Nat.add_assoc, a1, a2]
      exact w
    have room : ∀ (M1 : ZM), znx M ≤ znx M1 → znx M1 ≤ znx M' → cells + zdc M M1 ≤ R.cells ∧ slots + zds M M1 ≤ R.slots := fun M1 h1 h2 => by
      have a1 := zdc_add h1 h2
      have a2 := zds_add h1 h2
      omega
    have fin : ∀ (ST : List Value), M' = M → (∀ v, r = some v → zokV (znx M) v) → zRet B k pc r ST → st.map (zenc B) = ST → W p l e R s m args below meth c H locs cells slots Q (F0 m pc LS (st.map (zenc B))) := fun ST e1 h1 h2 h3 => by
      subst e1
      have w := hret H locs LS pc ST S.1 S.2.1 S.2.2.1 h1 h2
      rw [zdc_self rfl, zds_self rfl, ← h3] at w
      exact w
    rw [zbody_eq] at h
    split at h
    · cases h
    · next i nn eq =>
      have hgh := C.2.2.2.2.2.1.2
      have hd := zins_ok hgh eq
      split at h
      · next hn =>
        split at h
        · cases Nat.eq_of_beq_eq_true hn
          split at h
          · next x =>
            split at h
            · next hr =>
              cases h
              refine fin _ rfl (fun v hv => by cases hv; exact S.2.2.2.2 (.inl x) List.mem_cons_self) ⟨hd, rfl, ?_⟩ rfl
              unfold zretI at hr
              split at hr
              · next q => exact Or.inl q
              · next q => exact Or.inr ⟨q, of_decide_eq_true hr⟩
              · cases hr
            · cases h
          · cases h
        · cases Nat.eq_of_beq_eq_true hn
          split at h
          · next x =>
            split at h
            · next hr =>
              cases h
              exact fin _ rfl (fun v hv => by cases hv; exact S.2.2.2.2 (.inr (.inl x)) List.mem_cons_self) ⟨hd, rfl, hr⟩ rfl
            · cases h
          · cases h
        · cases Nat.eq_of_beq_eq_true hn
          split at h
          · next a =>
            split at h
            · next hr =>
              cases h
              refine fin _ rfl (fun v hv => by cases hv; exact S.2.2.2.2 (.inr (.inr a)) List.mem_cons_self) ⟨hd, rfl, hr.2, ?_⟩ rfl
              have hr := hr.1
              unfold zretA at hr
              split at hr
              · next q => exact Or.inl ⟨_, q⟩
              · next q => exact Or.inr ⟨_, q⟩
              · cases hr
            · cases h
          · cases h
        · cases Nat.eq_of_beq_eq_true hn
          split at h
          · split at h
            · next hr =>
              cases h
              exact fin _ rfl (fun v hv => by cases hv) ⟨hd, rfl, hr⟩ rfl
            · cases h
          · cases h
        · next j =>
          cases Nat.eq_of_beq_eq_true hn
          split at h
          · next t nest q eql =>
            split at h
            · next ht =>
              split at h
              · next a r1 d1 =>
                split at h
                · next hcc =>
                  obtain ⟨ha0, hcat⟩ := hcc
                  have hl0 := zMl_ok (zcl k) (zgh_c hgh) _ (zlk_mem _ _ _ eql)
                  subst ht
                  have hl : (zhas q (.methodLink (zcn (zcl k)) j Lib.objectInit) && Nat.beq nest 0) = true := hl0
                  rw [Bool.and_eq_true] at hl
                  have hts := C.2.2.2.2.1
                  show W p l e R s m args below meth c H locs cells slots Q (F0 m pc LS (zrv B a :: r1.map (zenc B)))
                  rw [zrv_ref ha0]
                  refine W.objInit C.1 C.2.1 C.2.2.2.1 (hts _ (zhas_in hl.1)) (hts _ zx_oii) (hts _ zx_oic) (g := F0 m pc LS (.ref (zad B a) :: r1.map (zenc B))) rfl ((S.2.2.2.1.2.1).trans C.2.2.1.symm) rfl hd (by omega) (by
                    rw [zcat_sum]
                    show 2 * 0 + _ + 12 ≤ _
                    omega) ?_
                  have w := next (pc + 3) ls r1 M h (Int.le_refl _) H locs LS (S.to fun v hv => S.2.2.2.2 v (List.mem_cons_of_mem _ hv))
                  rw [zdc_self rfl, zds_self rfl] at w
                  exact w
                · cases h
              · cases h
            · split at h
              · next av r1 d1 erd =>
                split at h
                · next v M1 e1 =>
                  have n1 := zbody_nx _ _ _ _ _ _ _ _ _ e1
                  have n2 := zbody_nx _ _ _ _ _ _ _ _ _ h
                  exact zs_call (kind := 2) ih S C eql erd e1 n1 hfr hlo (room M1 n1 n2).1 (room M1 n1 n2).2 hd (fun H1 locs1 S1 => next _ _ _ M1 h n1 H1 locs1 LS S1)
                · cases h
              · cases h
          · cases h
        · next j =>
          cases Nat.eq_of_beq_eq_true hn
          split at h
          · next t nest q eql =>
            split at h
            · next ht =>
              split at h
              · next d1 pc1 ls1 st1 M1 e1 =>
                have hl0 := zMl_ok (zcl k) (zgh_c hgh) _ (zlk_mem _ _ _ eql)
                subst ht
                have hl : (zhas q (.methodLink (zcn (zcl k)) j arraycopyName) && Nat.beq nest 0) = true := hl0
                rw [Bool.and_eq_true] at hl
                have hnn := zacopy_nx e1
                refine zs_copy S C hd (zhas_in hl.1) e1 (by omega) (by omega) (fun H1 locs1 S1 _ => ?_)
                have w := next pc1 ls1 st1 M1 h (by rw [hnn]; exact Int.le_refl _) H1 locs1 LS S1
                rw [zdc_self hnn, zds_self hnn] at w
                exact w
              · cases h
            · split at h
              · next ht =>
                split at h
                · next d1 pc1 ls1 st1 M1 e1 =>
                  have hmm := zmm_M e1
                  subst hmm
                  refine zs_mm S C hd eql ht e1 (by omega) (by omega) (by omega) (by omega) (fun LS' S1 _ => ?_)
                  have w := next pc1 ls1 st1 M1 h (Int.le_refl _) H locs LS' S1
                  rw [zdc_self rfl, zds_self rfl] at w
                  exact w
                · cases h
              · split at h
                · next av r1 d1 erd =>
                  split at h
                  · next v M1 e1 =>
                    have n1 := zbody_nx _ _ _ _ _ _ _ _ _ e1
                    have n2 := zbody_nx _ _ _ _ _ _ _ _ _ h
                    exact zs_call (kind := 0) ih S C eql erd e1 n1 hfr hlo (room M1 n1 n2).1 (room M1 n1 n2).2 hd (fun H1 locs1 S1 => next _ _ _ M1 h n1 H1 locs1 LS S1)
                  · cases h
                · cases h
          · cases h
        · next j =>
          cases Nat.eq_of_beq_eq_true hn
          split at h
          · next t nest q eql =>
            split at h
            · next ht =>
              split at h
              · next pc1 ls1 st1 M1 e1 =>
                have hmm := zchar_M e1
                subst hmm
                subst ht
                refine zs_chr S C eql hd e1 hfr hlo (by omega) (by omega) (fun H1 locs1 S1 _ => ?_)
                have w := next pc1 ls1 st1 M1 h (Int.le_refl _) H1 locs1 LS S1
                rw [zdc_self rfl, zds_self rfl] at w
                exact w
              · cases h
            · split at h
              · next av r1 d1 erd =>
               split at h
               · next v M1 e1 =>
                have n1 := zbody_nx _ _ _ _ _ _ _ _ _ e1
                have n2 := zbody_nx _ _ _ _ _ _ _ _ _ h
                exact zs_call (kind := 1) ih S C eql erd e1 n1 hfr hlo (room M1 n1 n2).1 (room M1 n1 n2).2 hd (fun H1 locs1 S1 => next _ _ _ M1 h n1 H1 locs1 LS S1)
               · cases h
              · cases h
          · cases h
        · split at h
          · next pc1 ls1 st1 M1 e1 =>
            have n1 := zstep_nx e1
            have n2 := zbody_nx _ _ _ _ _ _ _ _ _ h
            exact zstep_sound S C hd hn e1 (room M1 n1 n2).1 (room M1 n1 n2).2 (fun H1 locs1 LS' S1 => next pc1 ls1 st1 M1 h n1 H1 locs1 LS' S1)
          · cases h
      · cases h
