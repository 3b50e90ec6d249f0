/-! ===== runs that stay in a region of the memory ===== -/
def zVR (R : Int → Bool) (v : ZV) : Prop := match v with
  | .inr (.inr a) => R a = true
  | _ => True
def zLR (R : Int → Bool) (ls : ZL) : Prop := ∀ v, some v ∈ ls → zVR R v
def zSR (R : Int → Bool) (st : ZS) : Prop := ∀ v ∈ st, zVR R v
def zAg (R : Int → Bool) (M M' : ZM) : Prop := M (-1) 0 = M' (-1) 0 ∧ ∀ a, R a = true → 0 ≤ a → ∀ j, M a j = M' a j
def zFr (R : Int → Bool) (M M' : ZM) : Prop := ∀ a, (R a = false ∨ a < 0) → ∀ j, M a j = M' a j
def zisR (ty : FieldType) : Bool := match ty with
  | .object _ => true
  | .array _ => true
  | _ => false
def zMR (R : Int → Bool) (M : ZM) : Prop := M (-1) 0 = 236 ∧ (∀ a i, R a = true → (zsh a).1 = 4 ∨ (zsh a).1 = 5 → 0 ≤ i → i < (zsh a).2 → R (M a i) = true) ∧ (∀ a ci (j : Nat), R a = true → zsh a = (10 + ci, 0) → j < zNf ci → zisR (ztyX ci j) = true → R (M a j) = true)
/-- may this instruction of method k stand in a run that stays in the region? its depth, too -/
def zgI (R : Int → Bool) (S : Nat → Bool) (F : Nat → Nat) (b : Bool) (k : Nat) (i : Instr) : Bool := match i with
  | .new n => (match zlk (zCl (zcl k)) n with | some (ci, _) => !Nat.beq ci 9 | none => true)
  | .getfield n => (match zlk (zFl (zcl k)) n with | some (ci, j, _) => Nat.blt ci 89 && Nat.blt j (zNf ci) | none => true)
  | .putfield n => (match zlk (zFl (zcl k)) n with | some (ci, _, _) => Nat.blt ci 89 | none => true)
  | .getstatic n => (match zlk (zSl (zcl k)) n with | some (w, _) => R (w : Int) | none => true)
  | .ldc n => (match zlk (zKl (zcl k)) n with | some (w, x, _) => !Nat.beq w 2 || R x | none => true)
  | .invokespecial j => (match zlk (zMl (zcl k)) j with | some (t, _, _) => (bif Nat.beq t 1000 then (!b || Nat.ble 1 (F k)) else S t && (!b || Nat.ble (F t + 1) (F k))) | none => true)
  | .invokestatic j => (match zlk (zMl (zcl k)) j with | some (t, _, _) => (bif Nat.beq t 1001 || (Nat.beq t 1002 || Nat.beq t 1003) then (!b || Nat.ble 1 (F k)) else S t && (!b || Nat.ble (F t + 1) (F k))) | none => true)
  | .invokevirtual j => (match zlk (zMl (zcl k)) j with | some (t, _, _) => (bif Nat.beq t 1004 then (!b || Nat.ble 4 (F k)) else S t && (!b || Nat.ble (F t + 1) (F k))) | none => true)
  | _ => true
theorem zSR_c {R : Int → Bool} {v : ZV} {r : ZS} : zSR R (v :: r) ↔ zVR R v ∧ zSR R r := by
  unfold zSR
  simp only [List.mem_cons, forall_eq_or_imp]
theorem zSR_n {R : Int → Bool} : zSR R [] ↔ True := by
  unfold zSR
  simp only [List.not_mem_nil, false_imp_iff, implies_true]
theorem zget_m {ls : ZL} {n : Nat} {v : ZV} (h : zget ls n = some v) : some v ∈ ls := by
  unfold zget at h
  split at h
  · next w e => cases h; exact List.mem_of_getElem? e
  · cases h
theorem zLR_get {R : Int → Bool} {ls : ZL} {n : Nat} {v : ZV} (hL : zLR R ls) (h : zget ls n = some v) : zVR R v := hL v (zget_m h)
theorem zLR_set {R : Int → Bool} {ls : ZL} {n : Nat} {o : Option ZV} (hL : zLR R ls) (h : ∀ v, o = some v → zVR R v) : zLR R (ls.set n o) := by
  intro v hv
  rcases List.mem_or_eq_of_mem_set hv with q | q
  · exact hL v q
  · exact h v q.symm
theorem zLR_clr {R : Int → Bool} {ls : ZL} {i : Nat} (hL : zLR R ls) : zLR R (zclr ls i) := by
  unfold zclr
  split
  · exact hL
  · split
    · exact zLR_set hL (fun v h => by cases h)
    · exact hL
theorem zLR_put {R : Int → Bool} {ls : ZL} {i : Nat} {v : ZV} (hL : zLR R ls) (h : zVR R v) : zLR R (zput ls i v) := by
  unfold zput
  split
  · exact zLR_set (zLR_set (zLR_clr hL) (fun w q => by cases q; exact h)) (fun w q => by cases q)
  · exact zLR_set (zLR_clr hL) (fun w q => by cases q; exact h)
def zpurX (i : Instr) : Bool := match i with
  | .getfield _ | .putfield _ | .new _ | .newarray _ | .anewarray _ | .iaload | .baload | .laload | .aaload | .iastore | .bastore | .lastore | .aastore | .arraylength => false
  | _ => true
theorem zstep_nat {k pc : Nat} {i : Instr} {ls : ZL} {st : ZS} {M M' : ZM} (hp : zpurX i = true) : zstep k i pc ls st M' = (zstep k i pc ls st M).map (fun c => (c.1, c.2.1, c.2.2.1, M')) := by
  cases i <;> first | (cases hp; done) | skip
  all_goals simp only [zstep, zkonS, zkon, zldI, zldJ, zldA, zstI, zstJ, zstA, zbin, zjump, zbr]
  all_goals (try (first | rfl | (repeat' split) <;> first | rfl | simp_all))
theorem zstep_vr {R : Int → Bool} {S : Nat → Bool} {F : Nat → Nat} {b : Bool} {k pc pc' : Nat} {i : Instr} {ls ls' : ZL} {st st' : ZS} {M M1 : ZM} (hp : zpurX i = true) (hg : zgI R S F b k i = true) (hL : zLR R ls) (hS : zSR R st) (h : zstep k i pc ls st M = some (pc', ls', st', M1)) : zLR R ls' ∧ zSR R st' ∧ M1 = M := by
  cases i <;> first | (cases hp; done) | skip
  case ldc n =>
    simp only [zstep, zkonS] at h
    split at h
    · next w x q e =>
      simp only [zgI] at hg
      rw [e] at hg
      dsimp only at hg
      split at h
      · next hw =>
        cases h
        subst hw
        refine ⟨hL, zSR_c.mpr ⟨?_, hS⟩, rfl⟩
        exact hg
      · split at h
        · cases h
          exact ⟨hL, zSR_c.mpr ⟨trivial, hS⟩, rfl⟩
        · cases h
    · cases h
  case getstatic n =>
    simp only [zstep] at h
    split at h
    · next w q e =>
      simp only [zgI] at hg
      rw [e] at hg
      cases h
      exact ⟨hL, zSR_c.mpr ⟨hg, hS⟩, rfl⟩
    · cases h
  all_goals simp only [zstep, zkon, zldI, zldJ, zldA, zstI, zstJ, zstA, zbin, zjump, zbr] at h
  all_goals (repeat' split at h)
  all_goals (try (cases h; done))
  all_goals (cases h)
  all_goals (try simp only [zSR_c, zVR, true_and] at hS)
  all_goals (refine ⟨?_, ?_, rfl⟩)
  all_goals (try simp only [zSR_c, zVR, true_and])
  all_goals (first | exact hL | exact hS | exact hS.1 | exact hS.2 | exact hS.2.2 | (have hh := zLR_get hL ‹zget ls _ = some _›; exact ⟨hh, hS⟩) | exact zLR_put hL trivial | exact zLR_put hL hS.1 | exact ⟨hS.1, hS⟩ | exact ⟨hS.1, hS.2.1, hS.1, hS.2.2⟩ | exact ⟨hS.1, hS.2.1, hS⟩ | skip)
theorem zag_len {R : Int → Bool} {M M' : ZM} (hA : zAg R M M') {a : Int} (ha : R a = true) : zlen M' a = zlen M a := by
  unfold zlen
  split
  · next e => subst e; exact (hA.2 0 ha (by decide) (-1)).symm
  · rfl
theorem zag_set {R : Int → Bool} {M M' : ZM} (hA : zAg R M M') {a : Int} (h0 : 0 ≤ a) (j v : Int) : zAg R (zset M a j v) (zset M' a j v) := by
  refine ⟨?_, fun x hx x0 y => ?_⟩
  · unfold zset
    rw [if_neg (fun q => by omega), if_neg (fun q => by omega)]
    exact hA.1
  · unfold zset
    split
    · rfl
    · exact hA.2 x hx x0 y
theorem zfr_set {R : Int → Bool} {M : ZM} {a : Int} (ha : R a = true) (h0 : 0 ≤ a) (j v : Int) : zFr R M (zset M a j v) := by
  intro x hx y
  unfold zset
  rw [if_neg (fun q => by
    rw [q.1, ha] at hx
    rcases hx with hx | hx
    · cases hx
    · omega)]
theorem zfr_rf {R : Int → Bool} {M : ZM} : zFr R M M := fun _ _ _ => rfl
theorem zfr_tr {R : Int → Bool} {M1 M2 M3 : ZM} (h1 : zFr R M1 M2) (h2 : zFr R M2 M3) : zFr R M1 M3 := fun a ha j => (h1 a ha j).trans (h2 a ha j)
theorem zsh_neg {a : Int} (h : a < 0) : zsh a = (99, 0) := by
  unfold zsh
  rw [if_pos (by omega), if_neg (by omega), if_neg (by omega), if_neg (by omega)]
theorem zsh_0 {a : Int} (h : (zsh a).1 ≠ 99) : 0 ≤ a := by
  by_cases q : a < 0
  · exact absurd (by rw [zsh_neg q]) h
  · omega
theorem zsh_ne1 {a : Int} (h : (zsh a).1 ≠ 99) : a ≠ -1 := fun q => by have := zsh_0 h; omega
theorem zMR_set {R : Int → Bool} {M : ZM} {a j v : Int} (hC : zMR R M) (h1 : (zsh a).1 ≠ 99) (h2 : (zsh a).1 = 4 ∨ (zsh a).1 = 5 → R v = true) (h3 : ∀ ci (n : Nat), zsh a = (10 + ci, 0) → j = n → n < zNf ci → zisR (ztyX ci n) = true → R v = true) : zMR R (zset M a j v) := by
  obtain ⟨c1, c2, c3⟩ := hC
  refine ⟨?_, fun x i hx hk i0 i1 => ?_, fun x ci n hx hk hn ht => ?_⟩
  · unfold zset
    rw [if_neg (fun q => zsh_ne1 h1 q.1.symm)]
    exact c1
  · unfold zset
    split
    · next q => rw [q.1] at hk; exact h2 hk
    · exact c2 x i hx hk i0 i1
  · unfold zset
    split
    · next q => rw [q.1] at hk; exact h3 ci n hk q.2.symm hn ht
    · exact c3 x ci n hx hk hn ht
theorem zskip_id {M : ZM} (h : M (-1) 0 = 236) : zskip M = M := by
  funext a j
  unfold zskip
  rw [if_neg (fun q => by rw [h] at q; exact absurd q.2 (by decide))]
theorem ztag_R {R : Int → Bool} {ty : FieldType} {x : Int} {v : ZV} (h : ztag ty x = some v) (hr : zisR ty = true → R x = true) : zVR R v := by
  unfold ztag at h
  split at h <;> cases h
  · trivial
  · trivial
  · exact hr rfl
  · exact hr rfl
theorem zfit_R {R : Int → Bool} {ty : FieldType} {x : Int} {v : ZV} (h : zfit ty v = some x) (hv : zVR R v) (ht : zisR ty = true) : R x = true := by
  unfold zfit at h
  split at h
  · cases ht
  · cases ht
  · split at h
    · cases h; exact hv
    · cases h
  · split at h
    · cases h; exact hv
    · cases h
  · cases h
theorem zsh_k99 {a : Int} (h : (zsh a).1 = 99) : a < 0 ∨ a = 223 ∨ 269 ≤ a := by
  by_cases h0 : a < 0
  · exact Or.inl h0
  · by_cases h1 : 269 ≤ a
    · exact Or.inr (Or.inr h1)
    · have q : ∀ n : Nat, n < 269 → (zshN n).1 = 99 → n = 223 := by decide +kernel
      have e := q a.toNat (by omega) (by rw [zshN_ok a.toNat (by omega), Int.toNat_of_nonneg (by omega)]; exact h)
      exact Or.inr (Or.inl (by omega))
theorem zsh_no89 {a : Int} {ci : Nat} (h : zsh a = (10 + ci, 0)) (q : (zsh a).1 = 99) (hz : ci < 89) : False := by
  rw [h] at q
  dsimp only at q
  omega
theorem zsh236 : zsh 236 = (19, 0) := by decide +kernel
theorem zstep_rel {R : Int → Bool} {S : Nat → Bool} {F : Nat → Nat} {b : Bool} {k pc pc' : Nat} {i : Instr} {ls ls' : ZL} {st st' : ZS} {M M1 M' : ZM} (hg : zgI R S F b k i = true) (hL : zLR R ls) (hS : zSR R st) (hC : zMR R M) (hA : zAg R M M') (h : zstep k i pc ls st M = some (pc', ls', st', M1)) : ∃ M1', zstep k i pc ls st M' = some (pc', ls', st', M1') ∧ zLR R ls' ∧ zSR R st' ∧ zMR R M1 ∧ zAg R M1 M1' ∧ zFr R M' M1' := by
  cases hp : zpurX i with
  | true =>
    obtain ⟨h1, h2, h3⟩ := zstep_vr hp hg hL hS h
    refine ⟨M', ?_, h1, h2, h3 ▸ hC, h3 ▸ hA, zfr_rf⟩
    rw [zstep_nat (M := M) hp, h]
    rfl
  | false =>
    cases i <;> first | (cases hp; done) | skip
    case getfield n =>
      simp only [zstep, zgetf] at h ⊢
      split at h
      · next ci j q a r e =>
        (try rw [e])
        (try dsimp only)
        have hs := zSR_c.mp hS
        have ha : R a = true := hs.1
        have hgg : ci < 89 ∧ j < zNf ci := by
          simp only [zgI] at hg
          rw [e] at hg
          obtain ⟨g1, g2⟩ := (Bool.and_eq_true _ _).mp hg
          exact ⟨Nat.le_of_ble_eq_true g1, Nat.le_of_ble_eq_true g2⟩
        split at h
        · next hz =>
          have h0 : 0 ≤ a := zsh_0 (fun q => zsh_no89 hz q hgg.1)
          rw [if_pos hz, ← hA.2 a ha h0 j]
          split at h
          · next v ev =>
            (try rw [ev])
            cases h
            exact ⟨M', rfl, hL, zSR_c.mpr ⟨ztag_R ev (fun ht => hC.2.2 a ci j ha hz hgg.2 ht), hs.2⟩, hC, hA, zfr_rf⟩
          · cases h
        · cases h
      · cases h
    case putfield n =>
      simp only [zstep, zputf] at h ⊢
      split at h
      · next ci j q v a r e =>
        (try rw [e])
        (try dsimp only)
        have hs := zSR_c.mp hS
        have hs2 := zSR_c.mp hs.2
        have ha : R a = true := hs2.1
        split at h
        · next hz =>
          rw [if_pos hz]
          split at h
          · next x ev =>
            (try rw [ev])
            cases h
            have hci : ci < 89 := by
              simp only [zgI] at hg
              rw [e] at hg
              exact Nat.le_of_ble_eq_true hg
            refine ⟨_, rfl, hL, hs2.2, zMR_set hC (fun q => zsh_no89 hz.1 q hci) (fun q => by rw [hz.1] at q; exact absurd q (by show ¬ (10 + ci = 4 ∨ 10 + ci = 5); omega)) (fun c2 n2 q1 q2 q4 q3 => ?_), zag_set hA (zsh_0 (fun q => zsh_no89 hz.1 q hci)) _ _, zfr_set ha (zsh_0 (fun q => zsh_no89 hz.1 q hci)) _ _⟩
            rw [hz.1] at q1
            have e1 : ci = c2 := by have := congrArg Prod.fst q1; dsimp only at this; omega
            have e2 : j = n2 := by omega
            subst e1
            subst e2
            exact zfit_R ev hs.1 q3
          · cases h
        · cases h
      · cases h
    case new n =>
      simp only [zstep, znew, zskip_id hC.1] at h
      split at h
      · next ci q e =>
        simp only [zgI] at hg
        rw [e] at hg
        split at h
        · next hz =>
          have e1 : zsh (znx M) = (19, 0) := by
            show zsh (M (-1) 0) = _
            rw [hC.1]
            exact zsh236
          rw [e1] at hz
          have e2 : ci = 9 := by have := congrArg Prod.fst hz.2; dsimp only at this; omega
          subst e2
          cases hg
        · cases h
      · cases h
    case newarray t =>
      simp only [zstep, znewa, zskip_id hC.1] at h
      split at h
      · split at h
        · split at h
          · next hz =>
            have e1 : zsh (znx M) = (19, 0) := by
              show zsh (M (-1) 0) = _
              rw [hC.1]
              exact zsh236
            rw [e1] at hz
            have := congrArg Prod.fst hz.2.1
            dsimp only at this
            omega
          · cases h
        · cases h
      · cases h
    case anewarray n =>
      simp only [zstep, znewa, zskip_id hC.1] at h
      split at h
      · split at h
        · split at h
          · next hz =>
            have e1 : zsh (znx M) = (19, 0) := by
              show zsh (M (-1) 0) = _
              rw [hC.1]
              exact zsh236
            rw [e1] at hz
            have := congrArg Prod.fst hz.2.1
            dsimp only at this
            omega
          · cases h
        · cases h
      · cases h
    case arraylength =>
      simp only [zstep, zalen] at h ⊢
      split at h
      · next a r =>
        have hs := zSR_c.mp hS
        split at h
        · next hz =>
          cases h
          refine ⟨M', ?_, hL, zSR_c.mpr ⟨trivial, hs.2⟩, hC, hA, zfr_rf⟩
          (try dsimp only)
          rw [if_pos hz, zag_len hA hs.1]
        · cases h
      · cases h
    case aaload =>
      simp only [zstep, zaldA] at h ⊢
      split at h
      · next i a r =>
        have hs := (zSR_c.mp (zSR_c.mp hS).2)
        have ha : R a = true := hs.1
        split at h
        · next hz =>
          cases h
          have h0 : 0 ≤ a := zsh_0 (by omega)
          have hl : zlen M a = (zsh a).2 := by
            unfold zlen
            split
            · next e => subst e; exact absurd hz.1 (by decide +kernel)
            · rfl
          refine ⟨M', ?_, hL, zSR_c.mpr ⟨hC.2.1 a i ha hz.1 hz.2.1 (hl ▸ hz.2.2), hs.2⟩, hC, hA, zfr_rf⟩
          (try dsimp only)
          rw [zag_len hA ha, if_pos hz, hA.2 a ha h0 i]
        · cases h
      · cases h
    case aastore =>
      simp only [zstep, zastA] at h ⊢
      split at h
      · next x i a r =>
        have hs1 := zSR_c.mp hS
        have hs := (zSR_c.mp (zSR_c.mp hs1.2).2)
        have ha : R a = true := hs.1
        split at h
        · next hz =>
          cases h
          have h0 : 0 ≤ a := zsh_0 (by rw [hz.1]; decide)
          refine ⟨_, ?_, hL, hs.2, zMR_set hC (by rw [hz.1]; decide) (fun _ => hs1.1) (fun c2 n2 q1 q2 q4 q3 => hs1.1), zag_set hA h0 _ _, zfr_set ha h0 _ _⟩
          (try dsimp only)
          rw [zag_len hA ha, if_pos hz]
        · cases h
      · cases h
    case iastore =>
      simp only [zstep, zastI] at h ⊢
      split at h
      · next x i a r =>
        have hs := (zSR_c.mp (zSR_c.mp (zSR_c.mp hS).2).2)
        have ha : R a = true := hs.1
        split at h
        · next hz =>
          cases h
          have h0 : 0 ≤ a := zsh_0 (by rw [hz.1]; decide)
          refine ⟨_, ?_, hL, hs.2, zMR_set hC (by rw [hz.1]; decide) (fun q => by rw [hz.1] at q; exact absurd q (by decide)) (fun c2 n2 q1 q2 q4 q3 => by have := congrArg Prod.fst q1; dsimp only at this; omega), zag_set hA h0 _ _, zfr_set ha h0 _ _⟩
          (try dsimp only)
          rw [zag_len hA ha, if_pos hz]
        · cases h
      · cases h
    case lastore =>
      simp only [zstep, zastJ] at h ⊢
      split at h
      · next x i a r =>
        have hs := (zSR_c.mp (zSR_c.mp (zSR_c.mp hS).2).2)
        have ha : R a = true := hs.1
        split at h
        · next hz =>
          cases h
          have h0 : 0 ≤ a := zsh_0 (by rw [hz.1]; decide)
          refine ⟨_, ?_, hL, hs.2, zMR_set hC (by rw [hz.1]; decide) (fun q => by rw [hz.1] at q; exact absurd q (by decide)) (fun c2 n2 q1 q2 q4 q3 => by have := congrArg Prod.fst q1; dsimp only at this; omega), zag_set hA h0 _ _, zfr_set ha h0 _ _⟩
          (try dsimp only)
          rw [zag_len hA ha, if_pos hz]
        · cases h
      · cases h
    case bastore =>
      simp only [zstep, zastB] at h ⊢
      split at h
      · next x i a r =>
        have hs := (zSR_c.mp (zSR_c.mp (zSR_c.mp hS).2).2)
        have ha : R a = true := hs.1
        split at h
        · next hz =>
          cases h
          have h0 : 0 ≤ a := zsh_0 (by omega)
          have hk : (zsh a).1 = 2 ∨ (zsh a).1 = 3 := hz.1.imp (fun q => q.1) (fun q => q.1)
          refine ⟨_, ?_, hL, hs.2, zMR_set hC (by omega) (fun q => by omega) (fun c2 n2 q1 q2 q4 q3 => by have := congrArg Prod.fst q1; dsimp only at this; omega), zag_set hA h0 _ _, zfr_set ha h0 _ _⟩
          (try dsimp only)
          rw [zag_len hA ha, if_pos hz]
        · cases h
      · cases h
    case iaload =>
      simp only [zstep, zaldI] at h ⊢
      split at h
      · next i a r =>
        have hs := (zSR_c.mp (zSR_c.mp hS).2)
        have ha : R a = true := hs.1
        split at h
        · next hz =>
          cases h
          have h0 : 0 ≤ a := zsh_0 (by omega)
          refine ⟨M', ?_, hL, zSR_c.mpr ⟨trivial, hs.2⟩, hC, hA, zfr_rf⟩
          (try dsimp only)
          rw [zag_len hA ha, if_pos hz, hA.2 a ha h0 i]
        · cases h
      · cases h
    case baload =>
      simp only [zstep, zaldB] at h ⊢
      split at h
      · next i a r =>
        have hs := (zSR_c.mp (zSR_c.mp hS).2)
        have ha : R a = true := hs.1
        split at h
        · next hz =>
          cases h
          have h0 : 0 ≤ a := zsh_0 (by omega)
          refine ⟨M', ?_, hL, zSR_c.mpr ⟨trivial, hs.2⟩, hC, hA, zfr_rf⟩
          (try dsimp only)
          rw [zag_len hA ha, if_pos hz, hA.2 a ha h0 i]
        · cases h
      · cases h
    case laload =>
      simp only [zstep, zaldJ] at h ⊢
      split at h
      · next i a r =>
        have hs := (zSR_c.mp (zSR_c.mp hS).2)
        have ha : R a = true := hs.1
        split at h
        · next hz =>
          cases h
          have h0 : 0 ≤ a := zsh_0 (by omega)
          refine ⟨M', ?_, hL, zSR_c.mpr ⟨trivial, hs.2⟩, hC, hA, zfr_rf⟩
          (try dsimp only)
          rw [zag_len hA ha, if_pos hz, hA.2 a ha h0 i]
        · cases h
      · cases h
theorem zacopy_rel {R : Int → Bool} {pc pc' : Nat} {ls ls' : ZL} {st st' : ZS} {M M1 M' : ZM} (hL : zLR R ls) (hS : zSR R st) (hC : zMR R M) (hA : zAg R M M') (h : zacopy pc ls st M = some (pc', ls', st', M1)) : ∃ M1', zacopy pc ls st M' = some (pc', ls', st', M1') ∧ zLR R ls' ∧ zSR R st' ∧ zMR R M1 ∧ zAg R M1 M1' ∧ zFr R M' M1' := by
  unfold zacopy at h ⊢
  split at h
  · next n q a p b' r =>
    have hs1 := zSR_c.mp (zSR_c.mp (zSR_c.mp hS).2).2
    have hs2 := zSR_c.mp (zSR_c.mp hs1.2).2
    have ha : R a = true := hs1.1
    have hb : R b' = true := hs2.1
    split at h
    · next hz =>
      cases h
      have hk : (zsh a).1 ≤ 2 := hz.1
      have h0 : 0 ≤ a := zsh_0 (by omega)
      have hb0 : 0 ≤ b' := zsh_0 (by have := hz.2.1; omega)
      refine ⟨zcopy M' b' p a q n, ?_, hL, hs2.2, ⟨?_, fun x i hx hk2 i0 i1 => ?_, fun x ci j hx hk2 hj ht => ?_⟩, ⟨?_, fun x hx x0 j => ?_⟩, fun x hx j => ?_⟩
      · (try dsimp only)
        rw [if_pos (by
          have e : znx M' = znx M := hA.1.symm
          (try rw [e])
          exact hz)]
      · unfold zcopy
        rw [if_neg (fun z => zsh_ne1 (a := a) (by omega) z.1.symm)]
        exact hC.1
      · unfold zcopy
        rw [if_neg (fun z => by rw [z.1] at hk2; omega)]
        exact hC.2.1 x i hx hk2 i0 i1
      · unfold zcopy
        rw [if_neg (fun z => by rw [z.1] at hk2; rw [hk2] at hk; dsimp only at hk; omega)]
        exact hC.2.2 x ci j hx hk2 hj ht
      · unfold zcopy
        rw [if_neg (fun z => by omega), if_neg (fun z => by omega)]
        exact hA.1
      · unfold zcopy
        split
        · exact hA.2 b' hb hb0 _
        · exact hA.2 x hx x0 j
      · unfold zcopy
        rw [if_neg (fun z => by
          rw [z.1, ha] at hx
          rcases hx with hx | hx
          · cases hx
          · omega)]
    · cases h
  · cases h
theorem zmm_rel {R : Int → Bool} {t pc pc' : Nat} {ls ls' : ZL} {st st' : ZS} {M M1 : ZM} (M' : ZM) (hL : zLR R ls) (hS : zSR R st) (h : zmm t pc ls st M = some (pc', ls', st', M1)) : zmm t pc ls st M' = some (pc', ls', st', M') ∧ M1 = M ∧ zLR R ls' ∧ zSR R st' := by
  unfold zmm at h ⊢
  split at h
  · next y x r =>
    split at h
    · next hz =>
      cases h
      (try dsimp only)
      rw [if_pos hz]
      exact ⟨rfl, rfl, hL, zSR_c.mpr ⟨trivial, (zSR_c.mp (zSR_c.mp hS).2).2⟩⟩
    · cases h
  · cases h
theorem zchar_rel {R : Int → Bool} {d d' pc pc' : Nat} {ls ls' : ZL} {st st' : ZS} {M M1 : ZM} (M' : ZM) (hd : 4 ≤ d → 4 ≤ d') (hL : zLR R ls) (hS : zSR R st) (h : zchar d pc ls st M = some (pc', ls', st', M1)) : zchar d' pc ls st M' = some (pc', ls', st', M') ∧ M1 = M ∧ zLR R ls' ∧ zSR R st' := by
  unfold zchar at h ⊢
  split at h
  · next y x r =>
    split at h
    · next hz =>
      cases h
      (try dsimp only)
      rw [if_pos ⟨hd hz.1, hz.2⟩]
      exact ⟨rfl, rfl, hL, zSR_c.mpr ⟨trivial, (zSR_c.mp (zSR_c.mp hS).2).2⟩⟩
    · cases h
  · cases h
theorem zLR_slots {R : Int → Bool} : ∀ {args : ZS}, zSR R args → zLR R (zslots args)
  | [], _ => fun v h => by cases h
  | .inl x :: r, h => fun v hv => by
    rcases List.mem_cons.mp hv with q | q
    · cases q; trivial
    · exact zLR_slots (zSR_c.mp h).2 v q
  | .inr (.inl x) :: r, h => fun v hv => by
    rcases List.mem_cons.mp hv with q | q
    · cases q; trivial
    · rcases List.mem_cons.mp q with q | q
      · cases q
      · exact zLR_slots (zSR_c.mp h).2 v q
  | .inr (.inr x) :: r, h => fun v hv => by
    rcases List.mem_cons.mp hv with q | q
    · cases q; exact (zSR_c.mp h).1
    · exact zLR_slots (zSR_c.mp h).2 v q
theorem zLR_entry {R : Int → Bool} {t : Nat} {args : ZS} (h : zSR R args) : zLR R (zentry t args) := by
  intro v hv
  unfold zentry at hv
  rcases List.mem_append.mp hv with q | q
  · exact zLR_slots h v q
  · exact absurd (List.eq_of_mem_replicate q) (by simp)
theorem zready_R {R : Int → Bool} {kind t : Nat} {st args r : ZS} (h : zready kind t st = some (args, r)) (hS : zSR R st) : zSR R args ∧ zSR R r := by
  unfold zready at h
  split at h
  · dsimp only at h
    generalize znp t + (if kind = 0 then 0 else 1) = n at h
    have w1 : ∀ {l : ZS}, (st.take n).reverse = l → zSR R l := fun {l} e v hv => hS v (List.mem_of_mem_take (List.mem_reverse.mp (e ▸ hv)))
    have w2 : zSR R (st.drop n) := fun v hv => hS v (List.mem_of_mem_drop hv)
    split at h
    · split at h
      · cases h
        exact ⟨w1 rfl, w2⟩
      · next e =>
        split at h
        · cases h
          exact ⟨w1 (by assumption), w2⟩
        · cases h
      · next e =>
        split at h
        · cases h
          exact ⟨w1 (by assumption), w2⟩
        · cases h
      · cases h
    · cases h
  · cases h
theorem zdep {b : Bool} {F : Nat → Nat} {k d' t d1 : Nat} (hd : if b = true then F k ≤ d' else d' = d1 + 1) (hf : (!b || Nat.ble (F t + 1) (F k)) = true) : ∃ e', d' = e' + 1 ∧ (if b = true then F t ≤ e' else e' = d1) := by
  cases b with
  | false => exact ⟨d1, hd, by simp⟩
  | true =>
    have h1 : F k ≤ d' := hd
    have h2 : F t + 1 ≤ F k := Nat.le_of_ble_eq_true hf
    exact ⟨d' - 1, by omega, by simp; omega⟩
theorem zdep1 {b : Bool} {F : Nat → Nat} {k d' d1 : Nat} (hd : if b = true then F k ≤ d' else d' = d1 + 1) (hf : (!b || Nat.ble 1 (F k)) = true) : ∃ e', d' = e' + 1 := by
  cases b with
  | false => exact ⟨d1, hd⟩
  | true =>
    have h1 : F k ≤ d' := hd
    have h2 : 1 ≤ F k := Nat.le_of_ble_eq_true hf
    exact ⟨d' - 1, by omega⟩
theorem zdep4 {b : Bool} {F : Nat → Nat} {k d' d : Nat} (hd : if b = true then F k ≤ d' else d' = d) (hf : (!b || Nat.ble 4 (F k)) = true) : 4 ≤ d → 4 ≤ d' := by
  intro h
  cases b with
  | false => exact (show d' = d from hd) ▸ h
  | true =>
    have h1 : F k ≤ d' := hd
    have h2 : 4 ≤ F k := Nat.le_of_ble_eq_true hf
    omega
theorem zSR_ret {R : Int → Bool} {v : Option ZV} {r : ZS} (h1 : ∀ w, v = some w → zVR R w) (h2 : zSR R r) : zSR R (v.toList ++ r) := by
  cases v with
  | none => exact h2
  | some w => exact zSR_c.mpr ⟨h1 w rfl, h2⟩
theorem zbody_rel {R : Int → Bool} {S : Nat → Bool} {F : Nat → Nat} {b : Bool} (hck : ∀ k pc i len, S k = true → zins k pc = some (i, len) → zgI R S F b k i = true) : ∀ (n d k pc : Nat) (ls : ZL) (st : ZS) (M : ZM) (x : Option ZV × ZM), zbody n d k pc ls st M = some x → S k = true → zLR R ls → zSR R st → zMR R M → ∀ (d' : Nat) (M' : ZM), (if b = true then F k ≤ d' else d' = d) → zAg R M M' → ∃ M1', zbody n d' k pc ls st M' = some (x.1, M1') ∧ (∀ v, x.1 = some v → zVR R v) ∧ zMR R x.2 ∧ zAg R x.2 M1' ∧ zFr R M' M1'
  | 0, _, _, _, _, _, _, _, h, _, _, _, _, _, _, _, _ => by cases h
  | n + 1, d, k, pc, ls, st, M, x, h, hk, hL, hS, hC, d', M', hd, hA => by
    rw [zbody_eq] at h ⊢
    split at h
    · cases h
    · next i len eq =>
      have hg := hck k pc i len hk eq
      (try rw [eq])
      (try dsimp only)
      split at h
      · next hl =>
        rw [if_pos hl]
        cases i
        case ireturn =>
          dsimp only at h ⊢
          split at h
          · split at h
            · next hz => cases h; exact ⟨M', by (try dsimp only); rw [if_pos hz], fun v q => by cases q; trivial, hC, hA, zfr_rf⟩
            · cases h
          · cases h
        case lreturn =>
          dsimp only at h ⊢
          split at h
          · split at h
            · next hz => cases h; exact ⟨M', by (try dsimp only); rw [if_pos hz], fun v q => by cases q; trivial, hC, hA, zfr_rf⟩
            · cases h
          · cases h
        case areturn =>
          dsimp only at h ⊢
          split at h
          · split at h
            · next hz => cases h; exact ⟨M', by (try dsimp only); rw [if_pos hz], fun v q => by cases q; exact (zSR_c.mp hS).1, hC, hA, zfr_rf⟩
            · cases h
          · cases h
        case return_ =>
          dsimp only at h ⊢
          split at h
          · split at h
            · next hz => cases h; exact ⟨M', by (try dsimp only); rw [if_pos hz], fun v q => (by cases q), hC, hA, zfr_rf⟩
            · cases h
          · cases h
        case invokespecial j =>
          simp only [zgI] at hg
          dsimp only at h ⊢
          split at h
          · next t nest q e1 =>
            rw [e1] at hg
            dsimp only at hg
            (try dsimp only)
            split at h
            · next ht =>
              subst ht
              rw [if_pos rfl]
              split at h
              · next a r1 d1 =>
                obtain ⟨e', rfl⟩ := zdep1 hd hg
                split at h
                · next hc =>
                  (try dsimp only)
                  rw [if_pos hc]
                  exact zbody_rel hck n _ _ _ _ _ _ _ h hk hL (zSR_c.mp hS).2 hC _ M' hd hA
                · cases h
              · cases h
            · next ht =>
              rw [if_neg ht]
              rw [show Nat.beq t 1000 = false from by cases q : Nat.beq t 1000 with | true => exact absurd (Nat.eq_of_beq_eq_true q) ht | false => rfl] at hg
              split at h
              · next av r1 d1 e2 =>
                obtain ⟨g1, g2⟩ := (Bool.and_eq_true _ _).mp hg
                obtain ⟨e', rfl, hd2⟩ := zdep hd g2
                (try rw [e2])
                (try dsimp only)
                obtain ⟨w1, w2⟩ := zready_R e2 hS
                split at h
                · next v M1 e3 =>
                  obtain ⟨M2', f1, f2, f3, f4, f5⟩ := zbody_rel hck n _ _ _ _ _ _ _ e3 g1 (zLR_entry w1) (zSR_n.mpr trivial) hC e' M' hd2 hA
                  rw [f1]
                  (try dsimp only)
                  obtain ⟨M3', g1', g2', g3', g4', g5'⟩ := zbody_rel hck n _ _ _ _ _ _ _ h hk hL (zSR_ret f2 w2) f3 _ M2' hd f4
                  exact ⟨M3', g1', g2', g3', g4', zfr_tr f5 g5'⟩
                · cases h
              · cases h
          · cases h
        case invokestatic j =>
          simp only [zgI] at hg
          dsimp only at h ⊢
          split at h
          · next t nest q e1 =>
            rw [e1] at hg
            dsimp only at hg
            (try dsimp only)
            split at h
            · next ht =>
              subst ht
              rw [if_pos rfl]
              split at h
              · next d1 pc1 ls1 st1 M1 e2 =>
                obtain ⟨e', rfl⟩ := zdep1 hd hg
                obtain ⟨M2', f1, f2, f3, f4, f5, f6⟩ := zacopy_rel hL hS hC hA e2
                rw [f1]
                (try dsimp only)
                obtain ⟨M3', g1', g2', g3', g4', g5'⟩ := zbody_rel hck n _ _ _ _ _ _ _ h hk f2 f3 f4 _ M2' hd f5
                exact ⟨M3', g1', g2', g3', g4', zfr_tr f6 g5'⟩
              · cases h
            · next ht =>
              rw [if_neg ht]
              split at h
              · next ht2 =>
                rw [if_pos ht2]
                split at h
                · next d1 pc1 ls1 st1 M1 e2 =>
                  obtain ⟨e', rfl⟩ := zdep1 hd (by rcases ht2 with rfl | rfl <;> exact hg)
                  obtain ⟨f1, rfl, f2, f3⟩ := zmm_rel M' hL hS e2
                  rw [f1]
                  (try dsimp only)
                  exact zbody_rel hck n _ _ _ _ _ _ _ h hk f2 f3 hC _ M' hd hA
                · cases h
              · next ht2 =>
                rw [if_neg ht2]
                rw [show (Nat.beq t 1001 || (Nat.beq t 1002 || Nat.beq t 1003)) = false from by
                  cases q : (Nat.beq t 1001 || (Nat.beq t 1002 || Nat.beq t 1003)) with
                  | false => rfl
                  | true =>
                    rw [Bool.or_eq_true, Bool.or_eq_true] at q
                    rcases q with q | q | q
                    · exact absurd (Nat.eq_of_beq_eq_true q) ht
                    · exact absurd (Or.inl (Nat.eq_of_beq_eq_true q)) ht2
                    · exact absurd (Or.inr (Nat.eq_of_beq_eq_true q)) ht2] at hg
                split at h
                · next av r1 d1 e2 =>
                  obtain ⟨g1, g2⟩ := (Bool.and_eq_true _ _).mp hg
                  obtain ⟨e', rfl, hd2⟩ := zdep hd g2
                  (try rw [e2])
                  (try dsimp only)
                  obtain ⟨w1, w2⟩ := zready_R e2 hS
                  split at h
                  · next v M1 e3 =>
                    obtain ⟨M2', f1, f2, f3, f4, f5⟩ := zbody_rel hck n _ _ _ _ _ _ _ e3 g1 (zLR_entry w1) (zSR_n.mpr trivial) hC e' M' hd2 hA
                    rw [f1]
                    (try dsimp only)
                    obtain ⟨M3', g1', g2', g3', g4', g5'⟩ := zbody_rel hck n _ _ _ _ _ _ _ h hk hL (zSR_ret f2 w2) f3 _ M2' hd f4
                    exact ⟨M3', g1', g2', g3', g4', zfr_tr f5 g5'⟩
                  · cases h
                · cases h
          · cases h
        case invokevirtual j =>
          simp only [zgI] at hg
          dsimp only at h ⊢
          split at h
          · next t nest q e1 =>
            rw [e1] at hg
            dsimp only at hg
            (try dsimp only)
            split at h
            · next ht =>
              subst ht
              rw [if_pos rfl]
              split at h
              · next pc1 ls1 st1 M1 e2 =>
                obtain ⟨f1, rfl, f2, f3⟩ := zchar_rel M' (zdep4 hd hg) hL hS e2
                rw [f1]
                (try dsimp only)
                exact zbody_rel hck n _ _ _ _ _ _ _ h hk f2 f3 hC _ M' hd hA
              · cases h
            · next ht =>
              rw [if_neg ht]
              rw [show Nat.beq t 1004 = false from by cases q : Nat.beq t 1004 with | true => exact absurd (Nat.eq_of_beq_eq_true q) ht | false => rfl] at hg
              split at h
              · next av r1 d1 e2 =>
                obtain ⟨g1, g2⟩ := (Bool.and_eq_true _ _).mp hg
                obtain ⟨e', rfl, hd2⟩ := zdep hd g2
                (try rw [e2])
                (try dsimp only)
                obtain ⟨w1, w2⟩ := zready_R e2 hS
                split at h
                · next v M1 e3 =>
                  obtain ⟨M2', f1, f2, f3, f4, f5⟩ := zbody_rel hck n _ _ _ _ _ _ _ e3 g1 (zLR_entry w1) (zSR_n.mpr trivial) hC e' M' hd2 hA
                  rw [f1]
                  (try dsimp only)
                  obtain ⟨M3', g1', g2', g3', g4', g5'⟩ := zbody_rel hck n _ _ _ _ _ _ _ h hk hL (zSR_ret f2 w2) f3 _ M2' hd f4
                  exact ⟨M3', g1', g2', g3', g4', zfr_tr f5 g5'⟩
                · cases h
              · cases h
          · cases h
        all_goals
          dsimp only at h ⊢
          split at h
          · next e1 =>
            obtain ⟨M2', f1, f2, f3, f4, f5, f6⟩ := zstep_rel hg hL hS hC hA e1
            rw [f1]
            (try dsimp only)
            obtain ⟨M3', g1', g2', g3', g4', g5'⟩ := zbody_rel hck n _ _ _ _ _ _ _ h hk f2 f3 f4 _ M2' hd f5
            exact ⟨M3', g1', g2', g3', g4', zfr_tr f6 g5'⟩
          · cases h
      · cases h
