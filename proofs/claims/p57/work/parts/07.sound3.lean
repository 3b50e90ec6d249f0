/-! ===== one step: loads, stores, fields, arrays ===== -/
theorem zshL_kinds : zshL.all (fun q => (Nat.ble q.1 5 || (Nat.ble 10 q.1 && Nat.ble q.1 19) || Nat.beq q.1 99) && decide (0 ≤ q.2 ∧ q.2 ≤ 100000)) = true := by decide +kernel
theorem zshL_not (i : Nat) {t : Nat} (ht : t = 20 ∨ t = 21) : ((zshL[i]?).getD (99, 0)).1 ≠ t := by
  cases e : zshL[i]? with
  | none =>
    intro h
    rcases ht with rfl | rfl <;> cases h
  | some q =>
    have h := List.all_eq_true.mp zshL_kinds q (List.mem_of_getElem? e)
    simp only [Bool.and_eq_true, Bool.or_eq_true, decide_eq_true_eq] at h
    intro h2
    have h3 : q.1 = t := h2
    rcases h.1 with (h4 | ⟨h4, h5⟩) | h4
    · have := Nat.le_of_ble_eq_true h4
      omega
    · have := Nat.le_of_ble_eq_true h5
      omega
    · have := Nat.eq_of_beq_eq_true h4
      omega
theorem zsh_low {a : Int} (h : (zsh a).1 ≠ 20) (h1 : (zsh a).1 ≠ 21) (h2 : (zsh a).1 ≠ 99) : 3 ≤ a := by
  by_cases q : a < 3
  · exfalso
    unfold zsh at h h1 h2
    rw [if_pos q] at h h1 h2
    by_cases a0 : a = 0
    · rw [if_pos a0] at h1; exact h1 rfl
    · rw [if_neg a0] at h h2
      by_cases a1 : a = 1
      · rw [if_pos a1] at h; exact h rfl
      · rw [if_neg a1] at h h2
        by_cases a2 : a = 2
        · rw [if_pos a2] at h; exact h rfl
        · rw [if_neg a2] at h2; exact h2 rfl
  · omega
theorem zsh_20 {a : Int} (h : (zsh a).1 = 20) : a = 1 ∨ a = 2 := by
  by_cases q : a < 3
  · unfold zsh at h
    rw [if_pos q] at h
    by_cases a0 : a = 0
    · rw [if_pos a0] at h; cases h
    · by_cases a1 : a = 1
      · exact Or.inl a1
      · by_cases a2 : a = 2
        · exact Or.inr a2
        · rw [if_neg a0, if_neg a1, if_neg a2] at h; cases h
  · exfalso
    unfold zsh at h
    rw [if_neg q] at h
    exact absurd h (zshL_not _ (by decide))
theorem zsh_21 {a : Int} (h : (zsh a).1 = 21) : a = 0 := by
  by_cases q : a < 3
  · unfold zsh at h
    rw [if_pos q] at h
    by_cases a0 : a = 0
    · exact a0
    · rw [if_neg a0] at h
      by_cases a1 : a = 1
      · rw [if_pos a1] at h; cases h
      · rw [if_neg a1] at h
        by_cases a2 : a = 2
        · rw [if_pos a2] at h; cases h
        · rw [if_neg a2] at h; cases h
  · exfalso
    unfold zsh at h
    rw [if_neg q] at h
    exact absurd h (zshL_not _ (by decide))
theorem zsh_gap {a : Int} (h : (zsh a).1 ≠ 99) : a ≠ 223 := fun e => h (by rw [e]; decide +kernel)
theorem zsh_5n : ∀ n : Nat, n < 236 → ¬ (zsh n).1 = 5 := by decide +kernel
theorem zsh_5 {a : Int} (h3 : 3 ≤ a) (hn : a < 236) : ¬ (zsh a).1 = 5 := by
  obtain ⟨n, rfl⟩ := Int.eq_ofNat_of_zero_le (show 0 ≤ a by omega)
  exact zsh_5n n (by omega)
theorem znx_le {B : zBs} {D : va_G} {aD : Nat → ClassId} {M : ZM} {H : Heap} (h : zH B D aD M H) : znx M ≤ 236 := by
  rcases h.2.1 with q | q <;> omega
theorem zent_congr {B : zBs} {aD : Nat → ClassId} {M M' : ZM} {a : Int} (h : ∀ j, M' a j = M a j) : zent B aD M' a = zent B aD M a := by
  unfold zent
  simp only [h]
theorem zset_ne {M : ZM} {a a' j v : Int} (h : a' ≠ a) (x : Int) : zset M a j v a' x = M a' x := by
  unfold zset
  rw [if_neg (fun q => h q.1)]
theorem zset_nj {M : ZM} {a j v : Int} {x : Int} (h : x ≠ j) : zset M a j v a x = M a x := by
  unfold zset
  rw [if_neg (fun q => h q.2)]
theorem zset_eq (M : ZM) (a j v : Int) : zset M a j v a j = v := by
  unfold zset
  rw [if_pos ⟨rfl, rfl⟩]
theorem znx_set {M : ZM} {a j v : Int} (h : 3 ≤ a) : znx (zset M a j v) = znx M := zset_ne (by omega) 0
theorem zokM.set {M : ZM} {a j v : Int} (h : zokM M) (h3 : 3 ≤ a) (hv : zin (znx M) (zpk a j) v) : zokM (zset M a j v) := by
  intro a' h1 h2 j' h4 h5
  rw [znx_set h3] at h2 ⊢
  by_cases q : a' = a ∧ j' = j
  · obtain ⟨rfl, rfl⟩ := q
    rw [zset_eq]
    exact hv
  · have e : zset M a j v a' j' = M a' j' := by unfold zset; rw [if_neg q]
    rw [e]
    exact h a' h1 h2 j' h4 h5
theorem zS.set {L : Nat} {xs : Nat → Int32} {M : ZM} {a j v : Int} (h : zS L xs M) (h3 : 3 ≤ a) : zS L xs (zset M a j v) := by
  obtain ⟨h1, h2, h4, h5⟩ := h
  exact ⟨by rw [zset_ne (by omega)]; exact h1, fun j hj => by rw [zset_ne (by omega)]; exact h2 j hj, fun j hj => by rw [zset_ne (by omega)]; exact h4 j hj, fun j hj => by rw [zset_ne (by omega)]; exact h5 j hj⟩
theorem zP_set {B : zBs} {D : va_G} {aD : Nat → ClassId} {M M' : ZM} {a : Int} {H H1 : Heap} (hP : va_P D vwCl (zW B aD M) H) (h3 : 3 ≤ a) (hn : a < znx M) (hg : a ≠ 223) (hx : znx M' = znx M) (ho : ∀ a' : Int, a' ≠ a → ∀ j, M' a' j = M a' j) (he : va_at D vwCl (zad B a, zent B aD M' a) H1) (oq : ∀ q : Nat, q ≠ zad B a → H1[q]? = H[q]?) : va_P D vwCl (zW B aD M') H1 := by
  have h := hP.set zW_D (zW_get h3 hn hg) he oq
  rw [zW_set h3 hn hg hx rfl (fun a' h => zent_congr (ho a' h))] at h
  exact h
theorem zad_base {B : zBs} {a : Int} (h : 3 ≤ a) : B.2.2.2 ≤ zad B a := by
  unfold zad
  rw [if_neg (by omega), if_neg (by omega), if_neg (by omega)]
  omega
/-- a place of an own cell written: the new state -/
theorem zSt.set {B : zBs} {D : va_G} {aD : Nat → ClassId} {L : Nat} {xs : Nat → Int32} {k : Nat} {s : State} {H H1 : Heap} {locs locs1 : List Loc} {ls : ZL} {LS : Array Slot} {st st' : ZS} {M : ZM} {a j v : Int} (S : zSt B D aD L xs k s H locs ls LS st M) (h3 : 3 ≤ a) (hn : a < znx M) (hg : a ≠ 223) (hv : zin (znx M) (zpk a j) v) (hst : ∀ w ∈ st', w ∈ st)
    (he : va_at D vwCl (zad B a, zent B aD (zset M a j v) a) H1) (z : H1.size = H.size) (oq : ∀ q : Nat, q ≠ zad B a → H1[q]? = H[q]?) (hl : ∀ q ∈ locs1, q ∈ locs ∨ q.base = zad B a) : zSt B D aD L xs k s H1 locs1 ls LS st' (zset M a j v) := by
  obtain ⟨⟨g1, g2, g3, g4⟩, g5, g6, g7, g8⟩ := S
  refine ⟨⟨by rw [znx_set h3]; exact g1, by rw [z, znx_set h3]; exact g2, zP_set g3 h3 hn hg (znx_set h3) (fun a' h j' => zset_ne h j') he oq, g4.set h3 hv⟩, g5.set h3, ⟨by rw [z]; exact g6.1, fun q h1 h2 => ?_, fun q hq => ?_⟩, ?_, fun w hw => ?_⟩
  · rw [oq q (fun e => h2 (by rw [e]; exact zad_base h3))]
    exact g6.2.1 q h1 h2
  · rcases hl q hq with h | h
    · exact g6.2.2 q h
    · show B.2.2.2 ≤ q.base
      rw [h]
      exact zad_base h3
  · rw [znx_set h3]; exact g7
  · rw [znx_set h3]; exact g8 w (hst w hw)
theorem zrv_ref {B : zBs} {a : Int} (h : 0 ≤ a) : zrv B a = .ref (zad B a) := by
  unfold zrv
  rw [if_neg (by omega)]
theorem zcol_r (j : Nat) : zi32 (zcol j) := by
  unfold zcol
  split <;> exact ⟨by decide, by decide⟩
theorem zwei_r (j : Nat) : zi32 (zwei j) := by
  unfold zwei
  split <;> exact ⟨by decide, by decide⟩
theorem zsh_sz {a : Int} (h3 : 3 ≤ a) : (zsh a).1 = 99 ∨ (((zsh a).1 ≤ 5 ∨ (10 ≤ (zsh a).1 ∧ (zsh a).1 ≤ 19)) ∧ 0 ≤ (zsh a).2 ∧ (zsh a).2 ≤ 100000) := by
  unfold zsh
  rw [if_neg (by omega)]
  cases e : zshL[(a - 3).toNat]? with
  | none => exact Or.inl rfl
  | some q =>
    have h := List.all_eq_true.mp zshL_kinds q (List.mem_of_getElem? e)
    simp only [Bool.and_eq_true, Bool.or_eq_true, decide_eq_true_eq] at h
    rcases h.1 with (h4 | ⟨h4, h5⟩) | h4
    · exact Or.inr ⟨Or.inl (Nat.le_of_ble_eq_true h4), h.2⟩
    · exact Or.inr ⟨Or.inr ⟨Nat.le_of_ble_eq_true h4, Nat.le_of_ble_eq_true h5⟩, h.2⟩
    · exact Or.inl (Nat.eq_of_beq_eq_true h4)
theorem zsh_lt {a : Int} (h3 : 3 ≤ a) (h : (zsh a).1 ≠ 99) : a < 3 + (zshL.length : Int) := by
  unfold zsh at h
  rw [if_neg (by omega)] at h
  cases e : zshL[(a - 3).toNat]? with
  | none => rw [e] at h; exact absurd rfl h
  | some q =>
    have := (List.getElem?_eq_some_iff.mp e).1
    omega
section ZARR
variable {p : Program} {l : Launch} {e : Env} {R : Room} {s : State} {m : MethodId} {args : Array Value} {below : List Frame} {meth : Method} {c : Code} {H : Heap} {locs : List Loc} {cells slots : Nat} {Q : State → Prop}
variable {B : zBs} {D : va_G} {aD : Nat → ClassId} {L : Nat} {xs : Nat → Int32} {k : Nat} {pc pc' : Nat} {ls ls' : ZL} {st st' : ZS} {M M' : ZM} {LS : Array Slot}
theorem zs_iald (S : zSt B D aD L xs k s H locs ls LS st M) (C : zCtx B D aD L xs k p s m args meth c) (hd : decode (zcode k) pc = .ok (.iaload, 1)) (h : zaldI (pc + 1) ls st M = some (pc', ls', st', M'))
    (kk : ∀ LS', zSt B D aD L xs k s H locs ls' LS' st' M' → M' = M → W p l e R s m args below meth c H locs cells slots Q (F0 m pc' LS' (st'.map (zenc B)))) : W p l e R s m args below meth c H locs cells slots Q (F0 m pc LS (st.map (zenc B))) := by
  obtain ⟨hx, hb, -, -, -, -, hK, hX, hL4, hbl, hbs, -, -, hT1, hT2, -⟩ := C
  unfold zaldI at h
  split at h
  · next i a r =>
    split at h
    · next hc =>
      obtain ⟨rfl, rfl, rfl, rfl⟩ := zsome h
      obtain ⟨hk, hi0, hi1⟩ := hc
      have hi : zi32 i := S.2.2.2.2 (.inl i) List.mem_cons_self
      have ha : -3 ≤ a ∧ a < znx M := S.2.2.2.2 (.inr (.inr a)) (List.mem_cons_of_mem _ List.mem_cons_self)
      have hi2 : ((i.toNat : Nat) : Int) = i := Int.toNat_of_nonneg hi0
      have go : zi32 (M a i) → W p l e R s m args below meth c H locs cells slots Q (F0 m (pc + 1) LS (.int (Int32.ofInt (M a i)) :: r.map (zenc B))) := fun hv =>
        kk LS (S.to fun w hw => (List.mem_cons.mp hw).elim (fun e => e ▸ hv) (fun h => S.2.2.2.2 w (List.mem_cons_of_mem _ (List.mem_cons_of_mem _ h)))) rfl
      show W p l e R s m args below meth c H locs cells slots Q (F0 m pc LS (.int (Int32.ofInt i) :: zrv B a :: r.map (zenc B)))
      rcases hk with t | t | t
      · have h3 : 3 ≤ a := zsh_low (by omega) (by omega) (by omega)
        have hgp : a ≠ 223 := zsh_gap (by omega)
        rw [zrv_ref (by omega)]
        have hg := zW_get (B := B) (aD := aD) h3 ha.2 hgp
        have he : zent B aD M a = .inl (aD 0, ((zsh a).2).toNat, .inl (fun j => Int32.ofInt (M a j))) := by unfold zent; rw [if_pos t]
        rw [he] at hg
        have e0 : zlen M a = (zsh a).2 := by unfold zlen; rw [if_neg (by omega)]
        refine va_iald hx hb hK S.1.2.2.1 _ 0 hg rfl (zvp hi0 hi (by omega)) hd ?_
        rw [znc hi0 hi, hi2]
        refine go ?_
        have hz := S.1.2.2.2 a h3 ha.2 i hi0 (by unfold zcnt; rw [if_pos (by omega)]; omega)
        unfold zpk at hz
        rw [if_pos (by omega), t] at hz
        exact hz
      · have e0 : zlen M a = (zsh a).2 := by
          unfold zlen
          rcases zsh_20 t with rfl | rfl <;> rw [if_neg (by decide)]
        rcases zsh_20 t with rfl | rfl
        · have e1 : (zsh 1).2 = 18 := by decide
          have hv : M 1 i = zcol i.toNat := by
            have := S.2.1.2.2.1 i.toNat (by omega)
            rw [hi2] at this
            exact this
          rw [zrv_ref (by decide)]
          refine va_ti hx hb hT1 S.2.2.1 (zvp hi0 hi (by omega)) (v := .int (Int32.ofInt (M 1 i))) (by rw [znc hi0 hi, hv]) hd (go (by rw [hv]; exact zcol_r _))
        · have e1 : (zsh 2).2 = 3 := by decide
          have hv : M 2 i = zwei i.toNat := by
            have := S.2.1.2.2.2 i.toNat (by omega)
            rw [hi2] at this
            exact this
          rw [zrv_ref (by decide)]
          refine va_ti hx hb hT2 S.2.2.1 (zvp hi0 hi (by omega)) (v := .int (Int32.ofInt (M 2 i))) (by rw [znc hi0 hi, hv]) hd (go (by rw [hv]; exact zwei_r _))
      · have a0 := zsh_21 t
        subst a0
        have e0 : zlen M 0 = (L : Int) := by
          unfold zlen
          rw [if_pos rfl]
          exact S.2.1.1
        have hv : M 0 i = (xs i.toNat).toInt := by
          have := S.2.1.2.1 i.toNat (by omega)
          rw [hi2] at this
          exact this
        rw [zrv_ref (by decide)]
        refine va_sld hx hb hX (by omega) (show ¬ B.2.2.2 ≤ B.1 by omega) S.2.2.1 (zvp hi0 hi (by omega)) hd ?_
        rw [znc hi0 hi]
        have := go (by rw [hv]; exact zi32_r _)
        rw [hv, Int32.ofInt_toInt] at this
        exact this
    · cases h
  · cases h
end ZARR
