/-! ===== the evaluator tells the truth ===== -/
theorem zcond_t {b : Bool} {A : Prop} (h : bif b then A else False) : b = true ∧ A := by
  cases b with
  | false => exact h.elim
  | true => exact ⟨rfl, h⟩
theorem zbeq {a b : Nat} (h : Nat.beq a b = true) : a = b := Nat.eq_of_beq_eq_true h
theorem zkO_ok {a : Int} {c : Nat} (h : zkO a c = true) : zsh a = (10 + c, 0) := by
  unfold zkO at h
  rw [Bool.and_eq_true] at h
  rw [← zshF_eq]
  exact Prod.ext (zbeq h.1) (of_decide_eq_true h.2)
theorem zkI_ok {a : Int} (h : zkI a = true) : (zsh a).1 = 0 ∨ (zsh a).1 = 20 ∨ (zsh a).1 = 21 := by
  unfold zkI at h
  rw [Bool.or_eq_true, Bool.or_eq_true] at h
  rw [← zshF_eq]
  rcases h with (h | h) | h
  · exact Or.inl (zbeq h)
  · exact Or.inr (Or.inl (zbeq h))
  · exact Or.inr (Or.inr (zbeq h))
theorem zk0_ok {a : Int} (h : zk0 a = true) : (zsh a).1 = 0 := by rw [← zshF_eq]; exact zbeq h
theorem zkJ_ok {a : Int} (h : zkJ a = true) : (zsh a).1 = 1 := by rw [← zshF_eq]; exact zbeq h
theorem zkB_ok {a : Int} (h : zkB a = true) : (zsh a).1 = 2 := by rw [← zshF_eq]; exact zbeq h
theorem zkZ_ok {a : Int} (h : zkZ a = true) : (zsh a).1 = 3 := by rw [← zshF_eq]; exact zbeq h
theorem zkA_ok {a : Int} (h : zkA a = true) : (zsh a).1 = 4 ∨ (zsh a).1 = 5 := by
  unfold zkA at h
  rw [Bool.or_eq_true] at h
  rw [← zshF_eq]
  exact h.imp zbeq zbeq
theorem zkL_ok {a : Int} (h : zkL a = true) : (zsh a).1 ≤ 5 ∨ (zsh a).1 = 21 := by
  unfold zkL at h
  rw [Bool.or_eq_true] at h
  rw [← zshF_eq]
  exact h.imp Nat.le_of_ble_eq_true zbeq
theorem zln_eq (m : ZN) (a : Int) : zln m a = zlen m.1 a := by
  unfold zlen
  cases a with
  | ofNat n =>
    cases n with
    | zero => rfl
    | succ n =>
      rw [if_neg (show ¬ Int.ofNat (n + 1) = 0 by intro q; cases q), ← zshF_eq]
      rfl
  | negSucc n =>
    rw [if_neg (show ¬ Int.negSucc n = 0 by intro q; cases q), ← zshF_eq]
    rfl
theorem znp_low {a : Int} (h : (zsh a).1 < 4) (j : Int) : znp' a j = true := by
  rw [← zshF_eq] at h
  cases a with
  | negSucc n => exact absurd (show (99 : Nat) < 4 from h) (by decide)
  | ofNat n =>
    have h : (zshN n).1 < 4 := h
    have e : zpb n = false := by
      unfold zpb
      rw [show Nat.ble 4 (zshN n).1 = false from by
        cases e : Nat.ble 4 (zshN n).1 with
        | true => exact absurd (Nat.le_of_ble_eq_true e) (by omega)
        | false => rfl]
      rfl
    show (zpvN n j).isNone = true
    unfold zpvN
    rw [e]
    rfl
theorem zpos_ok {a : Int} (h : zpos a = true) : 0 ≤ a := by
  cases a with
  | ofNat n => exact Int.natCast_nonneg n
  | negSucc n => cases h
theorem zhx (m : ZN) : 236 ≤ znx m.1 := by
  have h : m.1 (-1) 0 = 236 := m.2 (-1) 0 236 rfl
  show _ ≤ m.1 (-1) 0
  rw [h]
  decide
theorem zjok_ok {pc : Nat} {off : Int} (h : zjok pc off = true) : 0 ≤ (pc : Int) + off := zpos_ok h
theorem zmax_eq (x y : Int) : (if x < y then y else x) = max x y := by
  by_cases h : x < y
  · rw [if_pos h, Int.max_eq_right (by omega)]
  · rw [if_neg h, Int.max_eq_left (by omega)]
theorem zmin_eq (x y : Int) : (if y < x then y else x) = min x y := by
  by_cases h : y < x
  · rw [if_pos h, Int.min_eq_right (by omega)]
  · rw [if_neg h, Int.min_eq_left (by omega)]
theorem zcc_val {m : ZN} {a b p q n : Int} (h : (zsh a).1 < 4) : (zcc m a (fun j => if q ≤ j ∧ j < q + n then zr m b (p + (j - q)) else zr m a j)).1 = zcopy m.1 b p a q n := by
  funext a' j'
  have hz : zpv a j' = none := Option.isNone_iff_eq_none.mp (znp_low h j')
  show (if a' = a ∧ zpv a j' = none then (if q ≤ j' ∧ j' < q + n then zr m b (p + (j' - q)) else zr m a j') else m.1 a' j') = if a' = a ∧ q ≤ j' ∧ j' < q + n then m.1 b (p + (j' - q)) else m.1 a' j'
  by_cases e : a' = a
  · subst e
    rw [if_pos ⟨rfl, hz⟩]
    by_cases z : q ≤ j' ∧ j' < q + n
    · rw [if_pos z, if_pos ⟨rfl, z⟩]
      rfl
    · rw [if_neg z, if_neg (fun x => z x.2)]
      rfl
  · rw [if_neg (fun x => e x.1), if_neg (fun x => e x.1)]
theorem zpure_M {k pc pc' : Nat} {i : Instr} {ls ls' : ZL} {st st' : ZS} {M M' : ZM} (hp : zpure i = true) (h : zstep k i pc ls st M = some (pc', ls', st', M')) : M' = M := by
  cases i
  case ldc j => exact zkonS_M h
  case ldc_w j => exact zkon_M h
  case ldc2_w j => exact zkon_M h
  case iload j => exact zldI_M h
  case iload_n j => exact zldI_M h
  case lload j => exact zldJ_M h
  case lload_n j => exact zldJ_M h
  case istore j => exact zstI_M h
  case istore_n j => exact zstI_M h
  case lstore j => exact zstJ_M h
  case iadd => exact zbin_M h
  case isub => exact zbin_M h
  case imul => exact zbin_M h
  case iand => exact zbin_M h
  case ior => exact zbin_M h
  case ixor => exact zbin_M h
  case ishl => exact zbin_M h
  case ishr => exact zbin_M h
  case iushr => exact zbin_M h
  all_goals (try (cases hp; done))
  all_goals (simp only [zstep] at h)
  all_goals (repeat' split at h)
  all_goals first | (cases h; done) | (cases h; rfl)
section ZWOK
variable {d k pc pc' : Nat} {ls ls' : ZL} {st st' : ZS} {m m1 : ZN} {P : Option ZV → ZN → Prop} {i : Instr} {len : Nat}
theorem zbody_plain {n : Nat} {M : ZM} {zplain : Instr → Bool} (hz : zins k pc = some (i, len)) (hl : zlenOk i len = true) (hp : (match i with | .ireturn | .lreturn | .areturn | .return_ | .invokespecial _ | .invokestatic _ | .invokevirtual _ => false | _ => true) = true) : zbody (n + 1) d k pc ls st M = match zstep k i pc ls st M with | some (pc', ls', st', M') => zbody n d k pc' ls' st' M' | none => none := by
  rw [zbody_eq, hz]
  dsimp only
  rw [if_pos hl]
  cases i <;> first | rfl | cases hp
theorem zwpN_go (hz : zins k pc = some (i, len)) (hl : zlenOk i len = true) (hp : (match i with | .ireturn | .lreturn | .areturn | .return_ | .invokespecial _ | .invokestatic _ | .invokevirtual _ => false | _ => true) = true) (hs : zstep k i pc ls st m.1 = some (pc', ls', st', m1.1)) (h : zwpN d k pc' ls' st' m1 P) : zwpN d k pc ls st m P := by
  obtain ⟨n, r, m', h1, h2⟩ := h
  exact ⟨n + 1, r, m', by rw [zbody_plain (zplain := fun _ => true) hz hl hp, hs]; exact h1, h2⟩
theorem zwpN_call {t : Nat} {args r : ZS} (e : ∀ n, zbody (n + 1) (d + 1) k pc ls st m.1 = match zbody n d t 0 (zentry t args) [] m.1 with | some (v, M') => zbody n (d + 1) k (pc + 3) ls (v.toList ++ r) M' | none => none) (h : ∃ (n : Nat) (v : Option ZV) (m1 : ZN), zbody n d t 0 (zentry t args) [] m.1 = some (v, m1.1) ∧ zwpN (d + 1) k (pc + 3) ls (v.toList ++ r) m1 P) : zwpN (d + 1) k pc ls st m P := by
  obtain ⟨n, v, m1, h1, n2, r2, m2, h3, h4⟩ := h
  refine ⟨max n n2 + 1, r2, m2, ?_, h4⟩
  rw [e, zbody_mono (Nat.le_max_left n n2) h1]
  exact zbody_mono (Nat.le_max_right n n2) h3
theorem zWret_ok {t : Nat} {args r : ZS} {K : ZS → ZN → Prop} (h : zWret d t args r m K) (hK : ∀ st m, K st m → zwpN (d + 1) k (pc + 3) ls st m P) : ∃ (n : Nat) (v : Option ZV) (m1 : ZN), zbody n d t 0 (zentry t args) [] m.1 = some (v, m1.1) ∧ zwpN (d + 1) k (pc + 3) ls (v.toList ++ r) m1 P := by
  unfold zWret at h
  split at h
  · obtain ⟨n, m1, h1, h2⟩ := h
    exact ⟨n, none, m1, h1, hK _ _ h2⟩
  · obtain ⟨n, x, m1, h1, h2⟩ := h
    exact ⟨n, some (zI x), m1, h1, hK _ _ h2⟩
  · obtain ⟨n, x, m1, h1, h2⟩ := h
    exact ⟨n, some (zI x), m1, h1, hK _ _ h2⟩
  · obtain ⟨n, x, m1, h1, h2⟩ := h
    exact ⟨n, some (zJ x), m1, h1, hK _ _ h2⟩
  · obtain ⟨n, x, m1, h1, h2⟩ := h
    exact ⟨n, some (zA x), m1, h1, hK _ _ h2⟩
  · exact h.elim
theorem zready1_ok {t : Nat} {a : Int} {args r : ZS} (h : zready1 t st = some (a, args, r)) (ha : zkO a (zcl t) = true) : zready 1 t st = some (zA a :: args, r) := by
  unfold zready1 at h
  cases hb : (Nat.beq (zkind t) 1 && Nat.ble (znp t + 1) st.length && Nat.ble (zcat (st.drop (znp t + 1))) 8 && Nat.ble (zslots (st.take (znp t + 1)).reverse).length (zmaxL t) && Nat.blt (zcl t) 10) with
  | false => rw [hb] at h; cases h
  | true =>
    rw [hb] at h
    simp only [Bool.and_eq_true] at hb
    obtain ⟨⟨⟨⟨h1, h2⟩, h3⟩, h4⟩, h5⟩ := hb
    unfold zready
    rw [if_pos ⟨zbeq h1, by decide⟩]
    dsimp only
    rw [if_neg (show ¬ (1 : Nat) = 0 by decide), if_pos ⟨Nat.le_of_ble_eq_true h2, Nat.le_of_ble_eq_true h3, Nat.le_of_ble_eq_true h4⟩]
    dsimp only [cond] at h
    generalize (st.take (znp t + 1)).reverse = q at h
    split at h
    · cases h
      show (if _ then _ else _) = _
      rw [if_pos ⟨zkO_ok ha, Nat.lt_of_lt_of_le (Nat.lt_succ_self _) (Nat.le_of_ble_eq_true h5)⟩]
    · cases h
theorem zWtab_ok {x : Int} {D : Prop} {K : Int → Prop} : ∀ {lo : Int} {os : List Int}, zWtab x D K lo os → (x < lo ∨ lo + os.length ≤ x) ∧ D ∨ ∃ o, lo ≤ x ∧ x < lo + os.length ∧ os[(x - lo).toNat]? = some o ∧ K o
  | lo, [], h => Or.inl ⟨by simp; omega, h⟩
  | lo, o :: os, h => by
    unfold zWtab at h
    by_cases q : x = lo
    · rw [if_pos q] at h
      subst q
      refine Or.inr ⟨o, Int.le_refl _, by rw [List.length_cons]; omega, ?_, h⟩
      rw [Int.sub_self]
      rfl
    · rw [if_neg q] at h
      rcases zWtab_ok h with ⟨h1, h2⟩ | ⟨o', h1, h2, h3, h4⟩
      · refine Or.inl ⟨?_, h2⟩
        rw [List.length_cons]
        omega
      · refine Or.inr ⟨o', by omega, by rw [List.length_cons]; omega, ?_, h4⟩
        rw [show (x - lo).toNat = (x - (lo + 1)).toNat + 1 by omega, List.getElem?_cons_succ]
        exact h3
theorem zbr_ok {c : ClassFile.Cond} {off x y : Int} {r : ZS} {A B : Prop} (hz : zins k pc = some (i, len)) (hl : zlenOk i len = true) (hp : (match i with | .ireturn | .lreturn | .areturn | .return_ | .invokespecial _ | .invokestatic _ | .invokevirtual _ => false | _ => true) = true) (hs : ∀ M, zstep k i pc ls st M = zbr (zcmp c x y) pc off ls r M) (h0 : 0 ≤ (pc : Int) + off) (h : zWbr c x y A B) (hA : A → zwpN d k (zjmp pc off) ls r m P) (hB : B → zwpN d k (pc + 3) ls r m P) : zwpN d k pc ls st m P := by
  have key : (zcmp c x y = true ∧ A) ∨ (zcmp c x y = false ∧ B) := by
    cases c with
    | eq =>
      by_cases q : x = y
      · have h : (if x = y then A else B) := h
        rw [if_pos q] at h
        exact Or.inl ⟨decide_eq_true q, h⟩
      · have h : (if x = y then A else B) := h
        rw [if_neg q] at h
        exact Or.inr ⟨decide_eq_false q, h⟩
    | ne =>
      by_cases q : x = y
      · have h : (if x = y then B else A) := h
        rw [if_pos q] at h
        exact Or.inr ⟨by show (!decide (x = y)) = false; rw [decide_eq_true q]; rfl, h⟩
      · have h : (if x = y then B else A) := h
        rw [if_neg q] at h
        exact Or.inl ⟨by show (!decide (x = y)) = true; rw [decide_eq_false q]; rfl, h⟩
    | lt =>
      by_cases q : x < y
      · have h : (if x < y then A else B) := h
        rw [if_pos q] at h
        exact Or.inl ⟨decide_eq_true q, h⟩
      · have h : (if x < y then A else B) := h
        rw [if_neg q] at h
        exact Or.inr ⟨decide_eq_false q, h⟩
    | ge =>
      by_cases q : x < y
      · have h : (if x < y then B else A) := h
        rw [if_pos q] at h
        exact Or.inr ⟨by show (!decide (x < y)) = false; rw [decide_eq_true q]; rfl, h⟩
      · have h : (if x < y then B else A) := h
        rw [if_neg q] at h
        exact Or.inl ⟨by show (!decide (x < y)) = true; rw [decide_eq_false q]; rfl, h⟩
    | gt =>
      by_cases q : y < x
      · have h : (if y < x then A else B) := h
        rw [if_pos q] at h
        exact Or.inl ⟨decide_eq_true q, h⟩
      · have h : (if y < x then A else B) := h
        rw [if_neg q] at h
        exact Or.inr ⟨decide_eq_false q, h⟩
    | le =>
      by_cases q : y < x
      · have h : (if y < x then B else A) := h
        rw [if_pos q] at h
        exact Or.inr ⟨decide_eq_false (by omega), h⟩
      · have h : (if y < x then B else A) := h
        rw [if_neg q] at h
        exact Or.inl ⟨decide_eq_true (by omega), h⟩
  rcases key with ⟨e, h⟩ | ⟨e, h⟩
  · refine zwpN_go (m1 := m) hz hl hp ?_ (hA h)
    rw [hs]
    unfold zbr
    rw [if_pos h0, if_pos e]
    rfl
  · refine zwpN_go (m1 := m) hz hl hp ?_ (hB h)
    rw [hs]
    unfold zbr
    rw [if_pos h0, if_neg (by rw [e]; decide)]
theorem zWlk_ok {x df : Int} {D : Prop} {K : Int → Prop} : ∀ {l : List (Int × Int)}, zjok pc df = true → l.all (fun q => zjok pc q.2) = true → zWlk x D K l → (D → K df) → ∃ o, Op.lookupswitch.offset l df x = o ∧ zjok pc o = true ∧ K o
  | [], h1, _, h, hd => ⟨df, rfl, h1, hd h⟩
  | (a, o) :: l, h1, h2, h, hd => by
    rw [List.all_cons, Bool.and_eq_true] at h2
    unfold zWlk at h
    rw [Op.lookupswitch.offset_cons]
    by_cases q : x = a
    · rw [if_pos q] at h
      exact ⟨o, if_pos q.symm, h2.1, h⟩
    · rw [if_neg q] at h
      obtain ⟨o', z1, z2, z3⟩ := zWlk_ok h1 h2.2 h hd
      exact ⟨o', by rw [if_neg (fun e => q e.symm)]; exact z1, z2, z3⟩
theorem zWi_ok {K : Nat → ZL → ZS → ZN → Prop} (hz : zins k pc = some (i, len)) (hl : zlenOk i len = true) (hK : ∀ pc ls st m, K pc ls st m → zwpN d k pc ls st m P) (h : zWi d k i pc ls st m P K) : zwpN d k pc ls st m P := by
  have dflt : (bif zpure i then (match zstep k i pc ls st m.1 with | some (pc', ls', st', _) => K pc' ls' st' m | none => False) else False) → zwpN d k pc ls st m P := fun h => by
    obtain ⟨hp, h⟩ := zcond_t h
    split at h
    · next pc' ls' st' M' e =>
      have eM := zpure_M hp e
      subst eM
      exact zwpN_go hz hl (by cases i <;> first | rfl | cases hp) e (hK _ _ _ _ h)
    · exact h.elim
  cases i
  case ireturn =>
    dsimp only [zWi] at h
    split at h
    · next x =>
      split at h
      · next hr => exact ⟨1, _, m, by rw [zbody_eq, hz]; dsimp only; rw [if_pos hl, if_pos (show zretI k x = true by unfold zretI; rw [hr])], h⟩
      · next hr => exact ⟨1, _, m, by rw [zbody_eq, hz]; dsimp only; rw [if_pos hl, if_pos (show zretI k x = true by unfold zretI; rw [hr]; exact decide_eq_true h.1)], h.2⟩
      · exact h.elim
    · exact h.elim
  case lreturn =>
    dsimp only [zWi] at h
    split at h
    · next x =>
      split at h
      · next hr => exact ⟨1, _, m, by rw [zbody_eq, hz]; dsimp only; rw [if_pos hl, if_pos hr], h⟩
      · exact h.elim
    · exact h.elim
  case areturn =>
    dsimp only [zWi] at h
    split at h
    · next a =>
      obtain ⟨h1, h2⟩ := zcond_t h
      rw [Bool.and_eq_true] at h1
      exact ⟨1, _, m, by rw [zbody_eq, hz]; dsimp only; rw [if_pos hl, if_pos ⟨h1.1, zpos_ok h1.2⟩], h2⟩
    · exact h.elim
  case return_ =>
    dsimp only [zWi] at h
    split at h
    · split at h
      · next hr => exact ⟨1, _, m, by rw [zbody_eq, hz]; dsimp only; rw [if_pos hl, if_pos hr], h⟩
      · exact h.elim
    · exact h.elim
  case invokestatic j =>
    dsimp only [zWi] at h
    split at h
    · next t nest q e elk =>
      cases hb : Nat.beq t 1001 with
      | true =>
        rw [hb] at h
        dsimp only [cond] at h
        have ht := zbeq hb
        split at h
        · next n q a p b r =>
          obtain ⟨h1, h2, h3⟩ := zcond_t h
          simp only [Bool.and_eq_true] at h1
          obtain ⟨⟨h4, h5⟩, h6⟩ := h1
          have h4 := Nat.le_of_ble_eq_true h4
          have h5 := zbeq h5
          rw [zshF_eq] at h4 h5
          rw [zshF_eq] at h5
          rw [zln_eq, zln_eq] at h2
          have hlen : ∀ x : Int, (zsh x).1 ≤ 2 → zlen m.1 x = (zsh x).2 := fun x hx => by
            unfold zlen
            rw [if_neg]
            rintro rfl
            exact absurd hx (by decide)
          rw [hlen a h4, hlen b (by omega)] at h2
          obtain ⟨n1, r1, m', h7, h8⟩ := hK _ _ _ _ h3
          rw [zcc_val (by omega)] at h7
          refine ⟨n1 + 1, r1, m', ?_, h8⟩
          rw [zbody_eq, hz]
          dsimp only
          rw [if_pos hl, elk]
          dsimp only
          rw [if_pos ht]
          have hx : zacopy (pc + 3) ls (.inl n :: .inl q :: .inr (.inr a) :: .inl p :: .inr (.inr b) :: r) m.1 = some (pc + 3, ls, r, zcopy m.1 b p a q n) := by
            unfold zacopy
            dsimp only
            rw [if_pos ⟨h4, h5, h2.1.1, h2.1.2.1, h2.1.2.2, h2.2.1, h2.2.2, Nat.le_of_ble_eq_true h6, zhx m⟩]
          rw [hx]
          exact h7
        · exact h.elim
      | false =>
        rw [hb] at h
        dsimp only [cond] at h
        have ht : t ≠ 1001 := fun q => by rw [q] at hb; cases hb
        cases hb2 : (Nat.beq t 1002 || Nat.beq t 1003) with
        | true =>
          rw [hb2] at h
          dsimp only [cond] at h
          rw [Bool.or_eq_true] at hb2
          have ht2 : t = 1002 ∨ t = 1003 := hb2.imp zbeq zbeq
          split at h
          · next y x r =>
            obtain ⟨h1, h2⟩ := zcond_t h
            have h1 := Nat.le_of_ble_eq_true h1
            have hx : ∃ v, zmm t (pc + 3) ls (.inl y :: .inl x :: r) m.1 = some (pc + 3, ls, zI v :: r, m.1) ∧ K (pc + 3) ls (zI v :: r) m := by
              unfold zmm
              dsimp only
              rw [if_pos h1]
              rcases ht2 with rfl | rfl
              · exact ⟨_, rfl, by rw [if_pos rfl, zmax_eq]; exact h2⟩
              · exact ⟨_, rfl, by rw [if_neg (by decide), zmin_eq]; exact h2⟩
            obtain ⟨v, hx, h3⟩ := hx
            obtain ⟨n1, r1, m', h7, h8⟩ := hK _ _ _ _ h3
            refine ⟨n1 + 1, r1, m', ?_, h8⟩
            rw [zbody_eq, hz]
            dsimp only
            rw [if_pos hl, elk]
            dsimp only
            rw [if_neg ht, if_pos ht2, hx]
            exact h7
          · exact h.elim
        | false =>
          rw [hb2] at h
          dsimp only [cond] at h
          have ht2 : ¬ (t = 1002 ∨ t = 1003) := fun q => by rcases q with rfl | rfl <;> cases hb2
          split at h
          · next args r e2 =>
            refine zwpN_call (r := r) (fun n => ?_) (zWret_ok h (fun st m h => hK _ _ _ _ h))
            rw [zbody_eq, hz]
            dsimp only
            rw [if_pos hl, elk]
            dsimp only
            rw [if_neg ht, if_neg ht2, e2]
            rfl
          · exact h.elim
    · exact h.elim
  case invokevirtual j =>
    dsimp only [zWi] at h
    split at h
    · next t nest q e elk =>
      cases hb : Nat.beq t 1004 with
      | true =>
        rw [hb] at h
        dsimp only [cond] at h
        split at h
        · next i a r =>
          obtain ⟨h1, ⟨h3, h4⟩, h5⟩ := zcond_t h
          obtain ⟨n1, r1, m', h7, h8⟩ := hK _ _ _ _ h5
          refine ⟨n1 + 1, r1, m', ?_, h8⟩
          have hc : zchar (e + 1) (pc + 3) ls (.inl i :: .inr (.inr a) :: r) m.1 = some (pc + 3, ls, zI (zchr a i) :: r, m.1) := by
            unfold zchar
            dsimp only
            rw [if_pos ⟨h3, Nat.le_of_ble_eq_true h1, h4⟩]
          rw [zbody_eq, hz]
          dsimp only
          rw [if_pos hl, elk]
          dsimp only
          rw [if_pos (zbeq hb), hc]
          exact h7
        · exact h.elim
      | false =>
        rw [hb] at h
        dsimp only [cond] at h
        have ht : t ≠ 1004 := fun q => by rw [q] at hb; cases hb
        split at h
        · next a args r e2 =>
          obtain ⟨h1, h2⟩ := zcond_t h
          refine zwpN_call (r := r) (fun n => ?_) (zWret_ok h2 (fun st m h => hK _ _ _ _ h))
          rw [zbody_eq, hz]
          dsimp only
          rw [if_pos hl, elk]
          dsimp only
          rw [if_neg ht, zready1_ok e2 h1]
          rfl
        · exact h.elim
    · exact h.elim
  case getfield j =>
    dsimp only [zWi] at h
    split at h
    · next ci f q a r elk =>
      obtain ⟨h1, h2⟩ := zcond_t h
      split at h2
      · next v ev =>
        rw [zrd_eq] at ev
        refine zwpN_go (m1 := m) hz hl rfl ?_ (hK _ _ _ _ h2)
        show zgetf (zlk (zFl (zcl k)) j) (pc + 3) ls _ m.1 = _
        rw [elk]
        unfold zgetf
        dsimp only
        rw [if_pos (zkO_ok h1), ev]
      · exact h2.elim
    · exact h.elim
  case putfield j =>
    dsimp only [zWi] at h
    split at h
    · next ci f q x a r elk =>
      obtain ⟨h1, h2⟩ := zcond_t h
      rw [Bool.and_eq_true, Bool.and_eq_true] at h1
      obtain ⟨⟨h3, h4⟩, h5⟩ := h1
      have hgo : zfit (ztyX ci f) (.inl x) = some x → zwpN d k (pc + 3) ls r (zsn m a f x) P → zwpN d k pc ls (.inl x :: .inr (.inr a) :: r) m P := fun ev h6 => by
        refine zwpN_go (m1 := zsn m a f x) hz hl rfl ?_ h6
        show zputf k (zlk (zFl (zcl k)) j) (pc + 3) ls _ m.1 = _
        rw [elk, zsn_val h5]
        unfold zputf
        dsimp only
        rw [if_pos ⟨zkO_ok h3, h4⟩, ev]
      split at h2
      · next hty => exact hgo (by rw [hty]; rfl) (hK _ _ _ _ h2)
      · next hty => exact hgo (by rw [hty]; show (if 0 ≤ x ∧ x ≤ 1 then some x else none) = _; rw [if_pos h2.1]) (hK _ _ _ _ h2.2)
      · exact h2.elim
    · exact h.elim
  case getstatic n =>
    dsimp only [zWi] at h
    split at h
    · next w q elk =>
      refine zwpN_go (m1 := m) hz hl rfl ?_ (hK _ _ _ _ h)
      simp only [zstep, elk]
    · exact h.elim
  case iaload =>
    dsimp only [zWi] at h
    split at h
    · next i a r =>
      obtain ⟨h1, h2, h3⟩ := zcond_t h
      rw [zrd_eq] at h3
      rw [zln_eq] at h2
      refine zwpN_go (m1 := m) hz hl rfl ?_ (hK _ _ _ _ h3)
      show zaldI (pc + 1) ls (.inl i :: .inr (.inr a) :: r) m.1 = _
      unfold zaldI
      dsimp only
      rw [if_pos ⟨zkI_ok h1, h2⟩]
    · exact h.elim
  case baload =>
    dsimp only [zWi] at h
    split at h
    · next i a r =>
      obtain ⟨h1, h2, h3⟩ := zcond_t h
      rw [zrd_eq] at h3
      rw [zln_eq] at h2
      rw [Bool.or_eq_true] at h1
      refine zwpN_go (m1 := m) hz hl rfl ?_ (hK _ _ _ _ h3)
      show zaldB (pc + 1) ls (.inl i :: .inr (.inr a) :: r) m.1 = _
      unfold zaldB
      dsimp only
      rw [if_pos ⟨h1.imp zkB_ok zkZ_ok, h2⟩]
    · exact h.elim
  case laload =>
    dsimp only [zWi] at h
    split at h
    · next i a r =>
      obtain ⟨h1, h2, h3⟩ := zcond_t h
      rw [zrd_eq] at h3
      rw [zln_eq] at h2
      refine zwpN_go (m1 := m) hz hl rfl ?_ (hK _ _ _ _ h3)
      show zaldJ (pc + 1) ls (.inl i :: .inr (.inr a) :: r) m.1 = _
      unfold zaldJ
      dsimp only
      rw [if_pos ⟨zkJ_ok h1, h2⟩]
    · exact h.elim
  case aaload =>
    dsimp only [zWi] at h
    split at h
    · next i a r =>
      obtain ⟨h1, h2, h3⟩ := zcond_t h
      rw [zrd_eq] at h3
      rw [zln_eq] at h2
      refine zwpN_go (m1 := m) hz hl rfl ?_ (hK _ _ _ _ h3)
      show zaldA (pc + 1) ls (.inl i :: .inr (.inr a) :: r) m.1 = _
      unfold zaldA
      dsimp only
      rw [if_pos ⟨zkA_ok h1, h2⟩]
    · exact h.elim
  case iastore =>
    dsimp only [zWi] at h
    split at h
    · next x i a r =>
      obtain ⟨h1, h2, h3⟩ := zcond_t h
      rw [zln_eq] at h2
      have h1 := zk0_ok h1
      refine zwpN_go (m1 := zsn m a i x) hz hl rfl ?_ (hK _ _ _ _ h3)
      show zastI (pc + 1) ls (.inl x :: .inl i :: .inr (.inr a) :: r) m.1 = _
      rw [zsn_val (znp_low (by omega) _)]
      unfold zastI
      dsimp only
      rw [if_pos ⟨h1, h2⟩]
    · exact h.elim
  case bastore =>
    dsimp only [zWi] at h
    split at h
    · next x i a r =>
      have hgo : (((zsh a).1 = 2 ∧ -128 ≤ x ∧ x ≤ 127) ∨ ((zsh a).1 = 3 ∧ 0 ≤ x ∧ x ≤ 1)) → (0 ≤ i ∧ i < zln m a) → K (pc + 1) ls r (zsn m a i x) → zwpN d k pc ls (.inl x :: .inl i :: .inr (.inr a) :: r) m P := fun h1 h2 h3 => by
        rw [zln_eq] at h2
        refine zwpN_go (m1 := zsn m a i x) hz hl rfl ?_ (hK _ _ _ _ h3)
        show zastB (pc + 1) ls (.inl x :: .inl i :: .inr (.inr a) :: r) m.1 = _
        rw [zsn_val (znp_low (by omega) _)]
        unfold zastB
        dsimp only
        rw [if_pos ⟨h1, h2⟩]
      cases hb : zkB a with
      | true =>
        rw [hb] at h
        obtain ⟨h2, h3⟩ := h
        exact hgo (Or.inl ⟨zkB_ok hb, h2.1⟩) h2.2 h3
      | false =>
        rw [hb] at h
        obtain ⟨h1, h2, h3⟩ := zcond_t h
        exact hgo (Or.inr ⟨zkZ_ok h1, h2.1⟩) h2.2 h3
    · exact h.elim
  case lastore =>
    dsimp only [zWi] at h
    split at h
    · next x i a r =>
      obtain ⟨h1, h2, h3⟩ := zcond_t h
      rw [zln_eq] at h2
      have h1 := zkJ_ok h1
      refine zwpN_go (m1 := zsn m a i x) hz hl rfl ?_ (hK _ _ _ _ h3)
      show zastJ (pc + 1) ls (.inr (.inl x) :: .inl i :: .inr (.inr a) :: r) m.1 = _
      rw [zsn_val (znp_low (by omega) _)]
      unfold zastJ
      dsimp only
      rw [if_pos ⟨h1, h2⟩]
    · exact h.elim
  case arraylength =>
    dsimp only [zWi] at h
    split at h
    · next a r =>
      obtain ⟨h1, h3⟩ := zcond_t h
      rw [zln_eq] at h3
      refine zwpN_go (m1 := m) hz hl rfl ?_ (hK _ _ _ _ h3)
      show zalen (pc + 1) ls (.inr (.inr a) :: r) m.1 = _
      unfold zalen
      dsimp only
      rw [if_pos (zkL_ok h1)]
    · exact h.elim
  case idiv =>
    dsimp only [zWi] at h
    split at h
    · next y x r =>
      refine zwpN_go (m1 := m) hz hl rfl ?_ (hK _ _ _ _ h.2)
      simp only [zstep, if_neg h.1]
    · exact h.elim
  case irem =>
    dsimp only [zWi] at h
    split at h
    · next y x r =>
      refine zwpN_go (m1 := m) hz hl rfl ?_ (hK _ _ _ _ h.2)
      simp only [zstep, if_neg h.1]
    · exact h.elim
  case aload n =>
    dsimp only [zWi] at h
    split at h
    · next x e =>
      obtain ⟨h1, h2⟩ := zcond_t h
      refine zwpN_go (m1 := m) hz hl rfl ?_ (hK _ _ _ _ h2)
      simp only [zstep, e, zldA, if_pos (zpos_ok h1)]
    · exact h.elim
  case aload_n n =>
    dsimp only [zWi] at h
    split at h
    · next x e =>
      obtain ⟨h1, h2⟩ := zcond_t h
      refine zwpN_go (m1 := m) hz hl rfl ?_ (hK _ _ _ _ h2)
      simp only [zstep, e, zldA, if_pos (zpos_ok h1)]
    · exact h.elim
  case astore n =>
    dsimp only [zWi] at h
    split at h
    · next x r =>
      obtain ⟨h1, h2⟩ := zcond_t h
      rw [Bool.and_eq_true] at h1
      refine zwpN_go (m1 := m) hz hl rfl ?_ (hK _ _ _ _ h2)
      show zstA n (pc + 2) ls (.inr (.inr x) :: r) m.1 = _
      unfold zstA
      dsimp only
      rw [if_pos ⟨zpos_ok h1.1, Nat.le_of_ble_eq_true h1.2⟩]
    · exact h.elim
  case astore_n n =>
    dsimp only [zWi] at h
    split at h
    · next x r =>
      obtain ⟨h1, h2⟩ := zcond_t h
      rw [Bool.and_eq_true] at h1
      refine zwpN_go (m1 := m) hz hl rfl ?_ (hK _ _ _ _ h2)
      show zstA n.val (pc + 1) ls (.inr (.inr x) :: r) m.1 = _
      unfold zstA
      dsimp only
      rw [if_pos ⟨zpos_ok h1.1, Nat.le_of_ble_eq_true h1.2⟩]
    · exact h.elim
  case goto off =>
    dsimp only [zWi] at h
    obtain ⟨h1, h2⟩ := zcond_t h
    refine zwpN_go (m1 := m) hz hl rfl ?_ (hK _ _ _ _ h2)
    show zjump pc off ls st m.1 = _
    unfold zjump
    rw [if_pos (zjok_ok h1)]
    rfl
  case ifCond c off =>
    dsimp only [zWi] at h
    split at h
    · next x r =>
      obtain ⟨h1, h2⟩ := zcond_t h
      exact zbr_ok hz hl rfl (fun M => rfl) (zjok_ok h1) h2 (hK _ _ _ _) (hK _ _ _ _)
    · exact h.elim
  case if_icmp c off =>
    dsimp only [zWi] at h
    split at h
    · next y x r =>
      obtain ⟨h1, h2⟩ := zcond_t h
      exact zbr_ok hz hl rfl (fun M => rfl) (zjok_ok h1) h2 (hK _ _ _ _) (hK _ _ _ _)
    · exact h.elim
  case tableswitch df lo hi offs =>
    dsimp only [zWi] at h
    split at h
    · next x r =>
      obtain ⟨h1, h2⟩ := zcond_t h
      rw [Bool.and_eq_true, Bool.and_eq_true] at h1
      obtain ⟨⟨h3, h4⟩, h5⟩ := h1
      have h5 := of_decide_eq_true h5
      rcases zWtab_ok h2 with ⟨q1, q2⟩ | ⟨o, q1, q2, q3, q4⟩
      · refine zwpN_go (m1 := m) hz hl rfl ?_ (hK _ _ _ _ q2)
        simp only [zstep]
        rw [if_pos (by omega)]
        unfold zjump
        rw [if_pos (zjok_ok h3)]
        rfl
      · refine zwpN_go (m1 := m) hz hl rfl ?_ (hK _ _ _ _ q4)
        simp only [zstep]
        rw [if_neg (by omega), ← Array.getElem?_toList, q3]
        dsimp only
        unfold zjump
        rw [if_pos (zjok_ok (List.all_eq_true.mp h4 o (List.mem_of_getElem? q3)))]
        rfl
    · exact h.elim
  case lookupswitch df ps =>
    dsimp only [zWi] at h
    split at h
    · next x r =>
      obtain ⟨h1, h2⟩ := zcond_t h
      rw [Bool.and_eq_true, Bool.and_eq_true] at h1
      obtain ⟨⟨h3, h4⟩, h5⟩ := h1
      obtain ⟨o, q1, q2, q3⟩ := zWlk_ok (pc := pc) (df := df) (K := fun o => K (zjmp pc o) ls r m) h3 h4 h2 id
      refine zwpN_go (m1 := m) hz hl rfl ?_ (hK _ _ _ _ q3)
      simp only [zstep]
      rw [if_pos h5, q1]
      unfold zjump
      rw [if_pos (zjok_ok q2)]
      rfl
    · exact h.elim
  all_goals exact dflt h
end ZWOK
theorem zX_ok (cut : List Nat) : ∀ (n d k pc : Nat) (ls : ZL) (st : ZS) (m : ZN) (P : Option ZV → ZN → Prop), zX cut n d k pc ls st m P → zwpN d k pc ls st m P
  | 0, _, _, _, _, _, _, _, h => h
  | n + 1, d, k, pc, ls, st, m, P, h => by
    unfold zX at h
    split at h
    · exact h.elim
    · next i len hz =>
      obtain ⟨h1, h2⟩ := zcond_t h
      refine zWi_ok hz h1 (fun pc ls st m h => ?_) h2
      cases hb : zelem cut pc with
      | true => rw [hb] at h; exact h
      | false => rw [hb] at h; exact zX_ok cut n d k pc ls st m P h
theorem zcI_X {cut : List Nat} (n : Nat) {d k : Nat} {args : ZS} {m : ZN} {K : Int → ZN → Prop} (h : zX cut n d k 0 (zentry k args) [] m (zPI K)) : zcI d k args m K := zcI_in (zX_ok cut n d k 0 _ _ m _ h)
theorem zcJ_X {cut : List Nat} (n : Nat) {d k : Nat} {args : ZS} {m : ZN} {K : Int → ZN → Prop} (h : zX cut n d k 0 (zentry k args) [] m (zPJ K)) : zcJ d k args m K := zcJ_in (zX_ok cut n d k 0 _ _ m _ h)
theorem zcA_X {cut : List Nat} (n : Nat) {d k : Nat} {args : ZS} {m : ZN} {K : Int → ZN → Prop} (h : zX cut n d k 0 (zentry k args) [] m (zPA K)) : zcA d k args m K := zcA_in (zX_ok cut n d k 0 _ _ m _ h)
theorem zcV_X {cut : List Nat} (n : Nat) {d k : Nat} {args : ZS} {m : ZN} {K : ZN → Prop} (h : zX cut n d k 0 (zentry k args) [] m (zPV K)) : zcV d k args m K := zcV_in (zX_ok cut n d k 0 _ _ m _ h)
