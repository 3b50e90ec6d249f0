/-! ===== the small machine's runs, as statements about what comes of them ===== -/
theorem zbody_mono1 : ∀ (n d k pc : Nat) (ls : ZL) (st : ZS) (M : ZM) (x : Option ZV × ZM), zbody n d k pc ls st M = some x → zbody (n + 1) d k pc ls st M = some x
  | 0, _, _, _, _, _, _, _, h => by cases h
  | n + 1, d, k, pc, ls, st, M, x, h => by
    rw [zbody] at h ⊢
    split at h
    · cases h
    · next i m eq =>
      rw [eq]
      dsimp only
      split at h
      · next hl =>
        rw [if_pos hl]
        cases i
        case ireturn => exact h
        case lreturn => exact h
        case areturn => exact h
        case return_ => exact h
        case invokespecial j =>
          dsimp only at h ⊢
          split at h
          · next t nest q e1 =>
            rw [e1]
            dsimp only
            split at h
            · next ht =>
              rw [if_pos ht]
              split at h
              · next a r1 d1 =>
                split at h
                · next hc => rw [if_pos hc]; exact zbody_mono1 n _ _ _ _ _ _ _ h
                · cases h
              · cases h
            · next ht =>
              rw [if_neg ht]
              split at h
              · next av r1 d1 e2 =>
                rw [e2]
                dsimp only
                split at h
                · next v M1 e3 =>
                  rw [zbody_mono1 n _ _ _ _ _ _ _ e3]
                  exact zbody_mono1 n _ _ _ _ _ _ _ h
                · cases h
              · cases h
          · cases h
        case invokestatic j =>
          dsimp only at h ⊢
          split at h
          · next t nest q e1 =>
            rw [e1]
            dsimp only
            split at h
            · next ht =>
              rw [if_pos ht]
              split at h
              · next d1 pc1 ls1 st1 M1 e2 =>
                rw [e2]
                exact zbody_mono1 n _ _ _ _ _ _ _ h
              · cases h
            · next ht =>
              rw [if_neg ht]
              split at h
              · next ht2 =>
                rw [if_pos ht2]
                split at h
                · next d1 pc1 ls1 st1 M1 e2 =>
                  rw [e2]
                  exact zbody_mono1 n _ _ _ _ _ _ _ h
                · cases h
              · next ht2 =>
                rw [if_neg ht2]
                split at h
                · next av r1 d1 e2 =>
                  rw [e2]
                  dsimp only
                  split at h
                  · next v M1 e3 =>
                    rw [zbody_mono1 n _ _ _ _ _ _ _ e3]
                    exact zbody_mono1 n _ _ _ _ _ _ _ h
                  · cases h
                · cases h
          · cases h
        case invokevirtual j =>
          dsimp only at h ⊢
          split at h
          · next t nest q e1 =>
            rw [e1]
            dsimp only
            split at h
            · next av r1 d1 e2 =>
              rw [e2]
              dsimp only
              split at h
              · next v M1 e3 =>
                rw [zbody_mono1 n _ _ _ _ _ _ _ e3]
                exact zbody_mono1 n _ _ _ _ _ _ _ h
              · cases h
            · cases h
          · cases h
        all_goals
          dsimp only at h ⊢
          split at h
          · next e1 =>
            rw [e1]
            exact zbody_mono1 n _ _ _ _ _ _ _ h
          · cases h
      · cases h
theorem zbody_mono {n m : Nat} (hnm : n ≤ m) {d k pc : Nat} {ls : ZL} {st : ZS} {M : ZM} {x : Option ZV × ZM} (h : zbody n d k pc ls st M = some x) : zbody m d k pc ls st M = some x := by
  induction m with
  | zero =>
    have : n = 0 := by omega
    subst this
    exact h
  | succ m ih =>
    by_cases q : n = m + 1
    · subst q; exact h
    · exact zbody_mono1 m _ _ _ _ _ _ _ (ih (by omega))
def zwp (d k pc : Nat) (ls : ZL) (st : ZS) (M : ZM) (P : Option ZV → ZM → Prop) : Prop := ∃ (n : Nat) (r : Option ZV) (M' : ZM), zbody n d k pc ls st M = some (r, M') ∧ P r M'
def zcall (d t : Nat) (args : ZS) (M : ZM) (P : Option ZV → ZM → Prop) : Prop := zwp d t 0 (zentry t args) [] M P
def zplain (i : Instr) : Bool := match i with
  | .ireturn | .lreturn | .areturn | .return_ | .invokespecial _ | .invokestatic _ | .invokevirtual _ => false
  | _ => true
section ZWP
variable {d k pc pc' : Nat} {ls ls' : ZL} {st st' : ZS} {M M' : ZM} {P : Option ZV → ZM → Prop} {i : Instr} {m : Nat}
theorem zbody_plain {n : Nat} (hz : zins k pc = some (i, m)) (hl : zlenOk i m = true) (hp : zplain i = true) : zbody (n + 1) d k pc ls st M = match zstep k i pc ls st M with | some (pc', ls', st', M') => zbody n d k pc' ls' st' M' | none => none := by
  rw [zbody, hz]
  dsimp only
  rw [if_pos hl]
  cases i <;> first | rfl | cases hp
theorem zwp_go (hz : zins k pc = some (i, m)) (hl : zlenOk i m = true) (hp : zplain i = true) (hs : zstep k i pc ls st M = some (pc', ls', st', M')) : zwp d k pc ls st M P = zwp d k pc' ls' st' M' P := by
  apply propext
  constructor
  · rintro ⟨n, r, M2, h, hP⟩
    cases n with
    | zero => cases h
    | succ n =>
      rw [zbody_plain hz hl hp, hs] at h
      exact ⟨n, r, M2, h, hP⟩
  · rintro ⟨n, r, M2, h, hP⟩
    exact ⟨n + 1, r, M2, by rw [zbody_plain hz hl hp, hs]; exact h, hP⟩
theorem zwp_no (hz : zins k pc = some (i, m)) (hl : zlenOk i m = true) (hp : zplain i = true) (hs : zstep k i pc ls st M = none) : zwp d k pc ls st M P = False := by
  apply propext
  constructor
  · rintro ⟨n, r, M2, h, hP⟩
    cases n with
    | zero => cases h
    | succ n =>
      rw [zbody_plain hz hl hp, hs] at h
      cases h
  · exact False.elim
/-- a step that asks for something -/
theorem zwp_ask {c : Prop} (hz : zins k pc = some (i, m)) (hl : zlenOk i m = true) (hp : zplain i = true) (hs : c → zstep k i pc ls st M = some (pc', ls', st', M')) (hn : ¬ c → zstep k i pc ls st M = none) : zwp d k pc ls st M P = (c ∧ zwp d k pc' ls' st' M' P) := by
  by_cases q : c
  · rw [zwp_go hz hl hp (hs q)]
    exact propext ⟨fun h => ⟨q, h⟩, fun h => h.2⟩
  · rw [zwp_no hz hl hp (hn q)]
    exact propext ⟨False.elim, fun h => absurd h.1 q⟩
theorem zwp_br {cm : ClassFile.Cond} {off : Int} {x y : Int} {r : ZS} {tgt : Nat} (c : Prop) (A B : Prop) (hs : ∀ M, zstep k i pc ls st M = zbr (zcmp cm x y) pc off ls r M) (hz : zins k pc = some (i, m)) (hl : zlenOk i m = true) (hp : zplain i = true) (ht : (pc : Int) + off = (tgt : Int)) (hc : zcmp cm x y = true ↔ c) (hA : zwp d k tgt ls r M P = A) (hB : zwp d k (pc + 3) ls r M P = B) (dec : Decidable c) : zwp d k pc ls st M P = @ite Prop c dec A B := by
  have h0 : 0 ≤ (pc : Int) + off := by omega
  by_cases q : c
  · have hs2 : zstep k i pc ls st M = some (tgt, ls, r, M) := by
      rw [hs]
      unfold zbr
      rw [if_pos h0, if_pos (hc.mpr q), ht]
      rfl
    rw [zwp_go hz hl hp hs2, if_pos q, hA]
  · have hs2 : zstep k i pc ls st M = some (pc + 3, ls, r, M) := by
      rw [hs]
      unfold zbr
      rw [if_pos h0, if_neg (fun z => q (hc.mp z))]
    rw [zwp_go hz hl hp hs2, if_neg q, hB]
theorem zwp_retI (hz : zins k pc = some (.ireturn, 1)) {x : Int} (hr : zretI k x = true) : zwp d k pc ls [.inl x] M P = P (some (zI x)) M := by
  have e : ∀ n, zbody (n + 1) d k pc ls [.inl x] M = some (some (zI x), M) := fun n => by
    rw [zbody, hz]
    dsimp only
    rw [if_pos rfl, if_pos hr]
  apply propext
  constructor
  · rintro ⟨n, r, M2, h, hP⟩
    cases n with
    | zero => cases h
    | succ n =>
      rw [e] at h
      cases h
      exact hP
  · intro h
    exact ⟨1, _, _, e 0, h⟩
theorem zwp_retB (hz : zins k pc = some (.ireturn, 1)) {x : Int} (ht : zret k = some .boolean) : zwp d k pc ls [.inl x] M P = ((0 ≤ x ∧ x ≤ 1) ∧ P (some (zI x)) M) := by
  by_cases q : 0 ≤ x ∧ x ≤ 1
  · have hr : zretI k x = true := by unfold zretI; rw [ht]; exact decide_eq_true q
    rw [zwp_retI hz hr]
    exact propext ⟨fun h => ⟨q, h⟩, fun h => h.2⟩
  · apply propext
    constructor
    · rintro ⟨n, r, M2, h, hP⟩
      cases n with
      | zero => cases h
      | succ n =>
        have hr : ¬ zretI k x = true := by unfold zretI; rw [ht]; exact fun z => q (of_decide_eq_true z)
        rw [zbody, hz] at h
        dsimp only at h
        rw [if_pos rfl, if_neg hr] at h
        cases h
    · exact fun h => absurd h.1 q
theorem zwp_retJ (hz : zins k pc = some (.lreturn, 1)) {x : Int} (hr : zret k = some .long) : zwp d k pc ls [.inr (.inl x)] M P = P (some (zJ x)) M := by
  have e : ∀ n, zbody (n + 1) d k pc ls [.inr (.inl x)] M = some (some (zJ x), M) := fun n => by
    rw [zbody, hz]
    dsimp only
    rw [if_pos rfl, if_pos hr]
  apply propext
  constructor
  · rintro ⟨n, r, M2, h, hP⟩
    cases n with
    | zero => cases h
    | succ n =>
      rw [e] at h
      cases h
      exact hP
  · intro h
    exact ⟨1, _, _, e 0, h⟩
theorem zwp_retA (hz : zins k pc = some (.areturn, 1)) {x : Int} (hr : zretA k = true) (h0 : 0 ≤ x) : zwp d k pc ls [.inr (.inr x)] M P = P (some (zA x)) M := by
  have e : ∀ n, zbody (n + 1) d k pc ls [.inr (.inr x)] M = some (some (zA x), M) := fun n => by
    rw [zbody, hz]
    dsimp only
    rw [if_pos rfl, if_pos ⟨hr, h0⟩]
  apply propext
  constructor
  · rintro ⟨n, r, M2, h, hP⟩
    cases n with
    | zero => cases h
    | succ n =>
      rw [e] at h
      cases h
      exact hP
  · intro h
    exact ⟨1, _, _, e 0, h⟩
theorem zwp_retV (hz : zins k pc = some (.return_, 1)) (hr : zret k = none) : zwp d k pc ls [] M P = P none M := by
  have e : ∀ n, zbody (n + 1) d k pc ls [] M = some (none, M) := fun n => by
    rw [zbody, hz]
    dsimp only
    rw [if_pos rfl, if_pos hr]
  apply propext
  constructor
  · rintro ⟨n, r, M2, h, hP⟩
    cases n with
    | zero => cases h
    | succ n =>
      rw [e] at h
      cases h
      exact hP
  · intro h
    exact ⟨1, _, _, e 0, h⟩
theorem zwp_call {n0 : Nat} {t : Nat} {args r : ZS} (e : ∀ n, zbody (n + 1) (d + 1) k pc ls st M = match zbody n d t 0 (zentry t args) [] M with | some (v, M') => zbody n (d + 1) k (pc + 3) ls (v.toList ++ r) M' | none => none) : zwp (d + 1) k pc ls st M P = zcall d t args M (fun v M1 => zwp (d + 1) k (pc + 3) ls (v.toList ++ r) M1 P) := by
  apply propext
  constructor
  · rintro ⟨n, r2, M2, h, hP⟩
    cases n with
    | zero => cases h
    | succ n =>
      rw [e] at h
      split at h
      · next v M1 e1 => exact ⟨n, v, M1, e1, n, r2, M2, h, hP⟩
      · cases h
  · rintro ⟨n, v, M1, h1, n2, r2, M2, h2, hP⟩
    refine ⟨max n n2 + 1, r2, M2, ?_, hP⟩
    rw [e, zbody_mono (Nat.le_max_left n n2) h1]
    exact zbody_mono (Nat.le_max_right n n2) h2
theorem zwp_callS {j t : Nat} {q : Nat × zPos} {args r : ZS} (hz : zins k pc = some (.invokestatic j, 3)) (hlk : zlk (zMl (zcl k)) j = some (t, q)) (ht : t ≠ 1001) (ht2 : ¬ (t = 1002 ∨ t = 1003)) (hrd : zready 0 t st = some (args, r)) : zwp (d + 1) k pc ls st M P = zcall d t args M (fun v M1 => zwp (d + 1) k (pc + 3) ls (v.toList ++ r) M1 P) := by
  refine zwp_call (n0 := 0) fun n => ?_
  rw [zbody, hz]
  dsimp only
  rw [if_pos rfl, hlk]
  dsimp only
  rw [if_neg ht, if_neg ht2, hrd]
theorem zwp_callV {j t : Nat} {q : Nat × zPos} {args r : ZS} (hz : zins k pc = some (.invokevirtual j, 3)) (hlk : zlk (zMl (zcl k)) j = some (t, q)) (hrd : zready 1 t st = some (args, r)) : zwp (d + 1) k pc ls st M P = zcall d t args M (fun v M1 => zwp (d + 1) k (pc + 3) ls (v.toList ++ r) M1 P) := by
  refine zwp_call (n0 := 0) fun n => ?_
  rw [zbody, hz]
  dsimp only
  rw [if_pos rfl, hlk]
  dsimp only
  rw [hrd]
theorem zwp_callI {j t : Nat} {q : Nat × zPos} {args r : ZS} (hz : zins k pc = some (.invokespecial j, 3)) (hlk : zlk (zMl (zcl k)) j = some (t, q)) (ht : t ≠ 1000) (hrd : zready 2 t st = some (args, r)) : zwp (d + 1) k pc ls st M P = zcall d t args M (fun v M1 => zwp (d + 1) k (pc + 3) ls (v.toList ++ r) M1 P) := by
  refine zwp_call (n0 := 0) fun n => ?_
  rw [zbody, hz]
  dsimp only
  rw [if_pos rfl, hlk]
  dsimp only
  rw [if_neg ht, hrd]
end ZWP
