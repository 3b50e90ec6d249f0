/-! ===== one step: the other arrays ===== -/
theorem zcat_sum {B : zBs} : ∀ r : ZS, ((r.map (zenc B)).map fun v => v.category).sum = zcat r
  | [] => rfl
  | .inr (.inl x) :: r => by
    simp only [List.map_cons, List.sum_cons, zcat, zcat_sum r]
    rfl
  | .inl x :: r => by
    simp only [List.map_cons, List.sum_cons, zcat, zcat_sum r]
    rfl
  | .inr (.inr x) :: r => by
    simp only [List.map_cons, List.sum_cons, zcat, zcat_sum r]
    congr 1
    have : (zenc B (.inr (.inr x))).category ≠ 2 := fun q => by have := (z2_cat (B := B) (.inr (.inr x))).mp q; cases this
    rcases lv_cat (zenc B (.inr (.inr x))) with h | h
    · exact h
    · exact absurd h this
section ZARR2
variable {p : Program} {l : Launch} {e : Env} {R : Room} {s : State} {m : MethodId} {args : Array Value} {below : List Frame} {meth : Method} {c : Code} {H : Heap} {locs : List Loc} {cells slots : Nat} {Q : State → Prop}
variable {B : zBs} {D : va_G} {aD : Nat → ClassId} {L : Nat} {xs : Nat → Int32} {k : Nat} {pc pc' : Nat} {ls ls' : ZL} {st st' : ZS} {M M' : ZM} {LS : Array Slot}
theorem zlen_own {M : ZM} {a : Int} (h : 3 ≤ a) : zlen M a = (zsh a).2 := by
  unfold zlen
  rw [if_neg (by omega)]
theorem zok_at (S : zSt B D aD L xs k s H locs ls LS st M) {a i : Int} {t : Nat} (h3 : 3 ≤ a) (hn : a < znx M) (ht : (zsh a).1 = t) (ht5 : t ≤ 5) (h0 : 0 ≤ i) (h1 : i < (zsh a).2) : zin (znx M) (if t < 4 then t else 4) (M a i) := by
  have hz := S.1.2.2.2 a h3 hn i h0 (by unfold zcnt; rw [if_pos (by omega)]; exact h1)
  unfold zpk at hz
  rw [ht] at hz
  by_cases q : t < 4
  · rw [if_pos q] at hz ⊢
    exact hz
  · rw [if_neg q, if_pos (by omega)] at hz
    rw [if_neg q]
    exact hz
theorem zpk_at {a i : Int} {t : Nat} (ht : (zsh a).1 = t) (ht5 : t ≤ 5) : zpk a i = if t < 4 then t else 4 := by
  unfold zpk
  rw [ht]
  by_cases q : t < 4
  · rw [if_pos q, if_pos q]
  · rw [if_neg q, if_neg q, if_pos (by omega)]
theorem zs_bald (S : zSt B D aD L xs k s H locs ls LS st M) (C : zCtx B D aD L xs k p s m args meth c) (hd : decode (zcode k) pc = .ok (.baload, 1)) (h : zaldB (pc + 1) ls st M = some (pc', ls', st', M'))
    (kk : ∀ LS', zSt B D aD L xs k s H locs ls' LS' st' M' → M' = M → W p l e R s m args below meth c H locs cells slots Q (F0 m pc' LS' (st'.map (zenc B)))) : W p l e R s m args below meth c H locs cells slots Q (F0 m pc LS (st.map (zenc B))) := by
  obtain ⟨hx, hb, -, -, -, -, hK, -⟩ := C
  unfold zaldB at h
  split at h
  · next i a r =>
    split at h
    · next hc =>
      obtain ⟨rfl, rfl, rfl, rfl⟩ := zsome h
      obtain ⟨hk, hi0, hi1⟩ := hc
      have hi : zi32 i := S.2.2.2.2 (.inl i) List.mem_cons_self
      have ha : -3 ≤ a ∧ a < znx M := S.2.2.2.2 (.inr (.inr a)) (List.mem_cons_of_mem _ List.mem_cons_self)
      have hi2 : ((i.toNat : Nat) : Int) = i := Int.toNat_of_nonneg hi0
      have h3 : 3 ≤ a := zsh_low (by omega) (by omega) (by omega)
      have hgp : a ≠ 223 := zsh_gap (by omega)
      rw [zlen_own h3] at hi1
      have hg := zW_get (B := B) (aD := aD) h3 ha.2 hgp
      have go : zi32 (M a i) → W p l e R s m args below meth c H locs cells slots Q (F0 m (pc + 1) LS (.int (Int32.ofInt (M a i)) :: r.map (zenc B))) := fun hv =>
        kk LS (S.to fun w hw => (List.mem_cons.mp hw).elim (fun e => e ▸ hv) (fun h => S.2.2.2.2 w (List.mem_cons_of_mem _ (List.mem_cons_of_mem _ h)))) rfl
      show W p l e R s m args below meth c H locs cells slots Q (F0 m pc LS (.int (Int32.ofInt i) :: zrv B a :: r.map (zenc B)))
      rw [zrv_ref (by omega)]
      rcases hk with t | t
      · have he : zent B aD M a = .inl (aD 2, ((zsh a).2).toNat, .inl (fun j => Int32.ofInt (M a j))) := by unfold zent; rw [if_neg (by omega), if_neg (by omega), if_pos t]
        rw [he] at hg
        refine va_bald hx hb hK S.1.2.2.1 _ 2 hg rfl (zvp hi0 hi (by omega)) hd ?_
        rw [znc hi0 hi, hi2]
        have hz : -128 ≤ M a i ∧ M a i ≤ 127 := zok_at S h3 ha.2 t (by decide) hi0 hi1
        exact go ⟨by omega, by omega⟩
      · have he : zent B aD M a = .inl (aD 3, ((zsh a).2).toNat, .inl (fun j => Int32.ofInt (M a j))) := by unfold zent; rw [if_neg (by omega), if_neg (by omega), if_neg (by omega), if_pos t]
        rw [he] at hg
        refine va_zald hx hb hK S.1.2.2.1 _ 3 hg rfl (zvp hi0 hi (by omega)) hd ?_
        rw [znc hi0 hi, hi2]
        have hz : 0 ≤ M a i ∧ M a i ≤ 1 := zok_at S h3 ha.2 t (by decide) hi0 hi1
        exact go ⟨by omega, by omega⟩
    · cases h
  · cases h
theorem zs_lald (S : zSt B D aD L xs k s H locs ls LS st M) (C : zCtx B D aD L xs k p s m args meth c) (hd : decode (zcode k) pc = .ok (.laload, 1)) (h : zaldJ (pc + 1) ls st M = some (pc', ls', st', M'))
    (kk : ∀ LS', zSt B D aD L xs k s H locs ls' LS' st' M' → M' = M → W p l e R s m args below meth c H locs cells slots Q (F0 m pc' LS' (st'.map (zenc B)))) : W p l e R s m args below meth c H locs cells slots Q (F0 m pc LS (st.map (zenc B))) := by
  obtain ⟨hx, hb, -, -, -, -, hK, -⟩ := C
  unfold zaldJ at h
  split at h
  · next i a r =>
    split at h
    · next hc =>
      obtain ⟨rfl, rfl, rfl, rfl⟩ := zsome h
      obtain ⟨t, hi0, hi1⟩ := hc
      have hi : zi32 i := S.2.2.2.2 (.inl i) List.mem_cons_self
      have ha : -3 ≤ a ∧ a < znx M := S.2.2.2.2 (.inr (.inr a)) (List.mem_cons_of_mem _ List.mem_cons_self)
      have hi2 : ((i.toNat : Nat) : Int) = i := Int.toNat_of_nonneg hi0
      have h3 : 3 ≤ a := zsh_low (by omega) (by omega) (by omega)
      have hgp : a ≠ 223 := zsh_gap (by omega)
      rw [zlen_own h3] at hi1
      have hg := zW_get (B := B) (aD := aD) h3 ha.2 hgp
      have go : zi64 (M a i) → W p l e R s m args below meth c H locs cells slots Q (F0 m (pc + 1) LS (.long (Int64.ofInt (M a i)) :: r.map (zenc B))) := fun hv =>
        kk LS (S.to fun w hw => (List.mem_cons.mp hw).elim (fun e => e ▸ hv) (fun h => S.2.2.2.2 w (List.mem_cons_of_mem _ (List.mem_cons_of_mem _ h)))) rfl
      show W p l e R s m args below meth c H locs cells slots Q (F0 m pc LS (.int (Int32.ofInt i) :: zrv B a :: r.map (zenc B)))
      rw [zrv_ref (by omega)]
      have he : zent B aD M a = .inl (aD 1, ((zsh a).2).toNat, .inr (.inl (fun j => Int64.ofInt (M a j)))) := by unfold zent; rw [if_neg (by omega), if_pos t]
      rw [he] at hg
      refine va_lald hx hb hK S.1.2.2.1 _ 1 hg rfl (zvp hi0 hi (by omega)) hd ?_
      rw [znc hi0 hi, hi2]
      exact go (zok_at S h3 ha.2 t (by decide) hi0 hi1)
    · cases h
  · cases h
theorem zs_aald (S : zSt B D aD L xs k s H locs ls LS st M) (C : zCtx B D aD L xs k p s m args meth c) (hd : decode (zcode k) pc = .ok (.aaload, 1)) (h : zaldA (pc + 1) ls st M = some (pc', ls', st', M'))
    (kk : ∀ LS', zSt B D aD L xs k s H locs ls' LS' st' M' → M' = M → W p l e R s m args below meth c H locs cells slots Q (F0 m pc' LS' (st'.map (zenc B)))) : W p l e R s m args below meth c H locs cells slots Q (F0 m pc LS (st.map (zenc B))) := by
  obtain ⟨hx, hb, -, -, -, -, hK, -⟩ := C
  unfold zaldA at h
  split at h
  · next i a r =>
    split at h
    · next hc =>
      obtain ⟨rfl, rfl, rfl, rfl⟩ := zsome h
      obtain ⟨hk, hi0, hi1⟩ := hc
      have hi : zi32 i := S.2.2.2.2 (.inl i) List.mem_cons_self
      have ha : -3 ≤ a ∧ a < znx M := S.2.2.2.2 (.inr (.inr a)) (List.mem_cons_of_mem _ List.mem_cons_self)
      have hi2 : ((i.toNat : Nat) : Int) = i := Int.toNat_of_nonneg hi0
      have h3 : 3 ≤ a := zsh_low (by omega) (by omega) (by omega)
      have hgp : a ≠ 223 := zsh_gap (by omega)
      rw [zlen_own h3] at hi1
      have hg := zW_get (B := B) (aD := aD) h3 ha.2 hgp
      have go : (-1 ≤ M a i ∧ M a i < znx M) → W p l e R s m args below meth c H locs cells slots Q (F0 m (pc + 1) LS (zrv B (M a i) :: r.map (zenc B))) := fun hv =>
        kk LS (S.to fun w hw => (List.mem_cons.mp hw).elim (fun e => e ▸ (show -3 ≤ M a i ∧ M a i < znx M from ⟨by omega, hv.2⟩)) (fun h => S.2.2.2.2 w (List.mem_cons_of_mem _ (List.mem_cons_of_mem _ h)))) rfl
      show W p l e R s m args below meth c H locs cells slots Q (F0 m pc LS (.int (Int32.ofInt i) :: zrv B a :: r.map (zenc B)))
      rw [zrv_ref (by omega)]
      rcases hk with t | t
      · have he : zent B aD M a = .inl (aD 4, ((zsh a).2).toNat, .inr (.inr (.inr (.inr (fun j => zro B (M a j)))))) := by unfold zent; rw [if_neg (by omega), if_neg (by omega), if_neg (by omega), if_neg (by omega), if_pos t]
        rw [he] at hg
        refine va_aldq hx hb hK S.1.2.2.1 _ 4 hg rfl (zvp hi0 hi (by omega)) hd ?_
        rw [znc hi0 hi, hi2, zro_rf]
        exact go (zok_at S h3 ha.2 t (by decide) hi0 hi1)
      · exact absurd t (zsh_5 h3 (by have := znx_le S.1; omega))
    · cases h
  · cases h
theorem zupd_fun {α : Type} (g : Int → α) {M : ZM} {a i x : Int} (hi0 : 0 ≤ i) : (fun j : Nat => g (zset M a i x a j)) = fun j : Nat => if j = i.toNat then g x else g (M a j) := by
  funext j
  by_cases q : j = i.toNat
  · subst q
    rw [if_pos rfl, Int.toNat_of_nonneg hi0, zset_eq]
  · rw [if_neg q, zset_nj (by omega)]
theorem zarr_set {α : Type} (mk : α → Value) (cA : ClassId) (n : Nat) (f : Nat → α) (i : Nat) (x : α) : arrV cA n (updV (fun j => mk (f j)) i (mk x)) = arrV cA n (fun j => mk (if j = i then x else f j)) := by
  congr 1
  funext j
  unfold updV
  split <;> rfl
theorem zarr_st {g : Int → Value} {M : ZM} {a i x : Int} (cA : ClassId) (n : Nat) (hi0 : 0 ≤ i) : (arrV cA n (fun j : Nat => g (M a j))).setSlot i.toNat (g x) = arrV cA n (fun j : Nat => g (zset M a i x a j)) := by
  rw [arrV_store]
  congr 1
  funext j
  unfold updV
  by_cases q : j = i.toNat
  · subst q
    rw [if_pos rfl, Int.toNat_of_nonneg hi0, zset_eq]
  · rw [if_neg q, zset_nj (by omega)]
theorem zs_iast (S : zSt B D aD L xs k s H locs ls LS st M) (C : zCtx B D aD L xs k p s m args meth c) (hd : decode (zcode k) pc = .ok (.iastore, 1)) (h : zastI (pc + 1) ls st M = some (pc', ls', st', M'))
    (kk : ∀ H1 locs1, zSt B D aD L xs k s H1 locs1 ls' LS st' M' → znx M' = znx M → W p l e R s m args below meth c H1 locs1 cells slots Q (F0 m pc' LS (st'.map (zenc B)))) : W p l e R s m args below meth c H locs cells slots Q (F0 m pc LS (st.map (zenc B))) := by
  obtain ⟨hx, hb, -, -, -, -, hK, -⟩ := C
  unfold zastI at h
  split at h
  · next x i a r =>
    split at h
    · next hc =>
      obtain ⟨rfl, rfl, rfl, rfl⟩ := zsome h
      obtain ⟨t, hi0, hi1⟩ := hc
      have hxr : zi32 x := S.2.2.2.2 (.inl x) List.mem_cons_self
      have hi : zi32 i := S.2.2.2.2 (.inl i) (List.mem_cons_of_mem _ List.mem_cons_self)
      have ha : -3 ≤ a ∧ a < znx M := S.2.2.2.2 (.inr (.inr a)) (List.mem_cons_of_mem _ (List.mem_cons_of_mem _ List.mem_cons_self))
      have h3 : 3 ≤ a := zsh_low (by omega) (by omega) (by omega)
      have hgp : a ≠ 223 := zsh_gap (by omega)
      rw [zlen_own h3] at hi1
      have hg := zW_get (B := B) (aD := aD) h3 ha.2 hgp
      have he : ∀ M : ZM, zent B aD M a = .inl (aD 0, ((zsh a).2).toNat, .inl (fun j => Int32.ofInt (M a j))) := fun M => by unfold zent; rw [if_pos t]
      rw [he] at hg
      have hin := zvp hi0 hi (n := ((zsh a).2).toNat) (by omega)
      show W p l e R s m args below meth c H locs cells slots Q (F0 m pc LS (.int (Int32.ofInt x) :: .int (Int32.ofInt i) :: zrv B a :: r.map (zenc B)))
      rw [zrv_ref (by omega)]
      refine W.iast hx hb (S.1.2.2.1 _ _ hg) ((hK.2 0 _ rfl).1 ((zsh a).2).toNat (fun j => .int (Int32.ofInt (M a j)))) (fun q => by cases q) (by show ¬ (_ < 0 ∨ (arrV _ _ _).slots.size ≤ _); rw [arrV_size]; exact hin) rfl rfl hd fun H1 e z oq => ?_
      refine kk H1 _ (S.set h3 ha.2 hgp (by rw [zpk_at t (by decide)]; exact hxr) (fun w hw => List.mem_cons_of_mem _ (List.mem_cons_of_mem _ (List.mem_cons_of_mem _ hw))) ?_ z oq (fun q hq => (List.mem_append.mp hq).imp id (fun h => by rw [List.mem_singleton.mp h]))) (znx_set h3)
      rw [he]
      show H1[zad B a]? = some (vp_cell _ _)
      refine e.trans ?_
      rw [znc hi0 hi]
      exact congrArg some (zarr_st (g := fun z => Value.int (Int32.ofInt z)) (aD 0) _ hi0)
    · cases h
  · cases h
theorem zs_last (S : zSt B D aD L xs k s H locs ls LS st M) (C : zCtx B D aD L xs k p s m args meth c) (hd : decode (zcode k) pc = .ok (.lastore, 1)) (h : zastJ (pc + 1) ls st M = some (pc', ls', st', M'))
    (kk : ∀ H1 locs1, zSt B D aD L xs k s H1 locs1 ls' LS st' M' → znx M' = znx M → W p l e R s m args below meth c H1 locs1 cells slots Q (F0 m pc' LS (st'.map (zenc B)))) : W p l e R s m args below meth c H locs cells slots Q (F0 m pc LS (st.map (zenc B))) := by
  obtain ⟨hx, hb, -, -, -, -, hK, -⟩ := C
  unfold zastJ at h
  split at h
  · next x i a r =>
    split at h
    · next hc =>
      obtain ⟨rfl, rfl, rfl, rfl⟩ := zsome h
      obtain ⟨t, hi0, hi1⟩ := hc
      have hxr : zi64 x := S.2.2.2.2 (.inr (.inl x)) List.mem_cons_self
      have hi : zi32 i := S.2.2.2.2 (.inl i) (List.mem_cons_of_mem _ List.mem_cons_self)
      have ha : -3 ≤ a ∧ a < znx M := S.2.2.2.2 (.inr (.inr a)) (List.mem_cons_of_mem _ (List.mem_cons_of_mem _ List.mem_cons_self))
      have h3 : 3 ≤ a := zsh_low (by omega) (by omega) (by omega)
      have hgp : a ≠ 223 := zsh_gap (by omega)
      rw [zlen_own h3] at hi1
      have hg := zW_get (B := B) (aD := aD) h3 ha.2 hgp
      have he : ∀ M : ZM, zent B aD M a = .inl (aD 1, ((zsh a).2).toNat, .inr (.inl (fun j => Int64.ofInt (M a j)))) := fun M => by unfold zent; rw [if_neg (by omega), if_pos t]
      rw [he] at hg
      have hin := zvp hi0 hi (n := ((zsh a).2).toNat) (by omega)
      show W p l e R s m args below meth c H locs cells slots Q (F0 m pc LS (.long (Int64.ofInt x) :: .int (Int32.ofInt i) :: zrv B a :: r.map (zenc B)))
      rw [zrv_ref (by omega)]
      refine W.last hx hb (S.1.2.2.1 _ _ hg) ((hK.2 1 _ rfl).1 ((zsh a).2).toNat (fun j => .long (Int64.ofInt (M a j)))) (fun q => by cases q) (by show ¬ (_ < 0 ∨ (arrV _ _ _).slots.size ≤ _); rw [arrV_size]; exact hin) rfl rfl hd fun H1 e z oq => ?_
      refine kk H1 _ (S.set h3 ha.2 hgp (by rw [zpk_at t (by decide)]; exact hxr) (fun w hw => List.mem_cons_of_mem _ (List.mem_cons_of_mem _ (List.mem_cons_of_mem _ hw))) ?_ z oq (fun q hq => (List.mem_append.mp hq).imp id (fun h => by rw [List.mem_singleton.mp h]))) (znx_set h3)
      rw [he]
      show H1[zad B a]? = some (vp_cell _ _)
      refine e.trans ?_
      rw [znc hi0 hi]
      exact congrArg some (zarr_st (g := fun z => Value.long (Int64.ofInt z)) (aD 1) _ hi0)
    · cases h
  · cases h
theorem znar_b {x : Int} (h : -128 ≤ x ∧ x ≤ 127) : narrow .byte (.int (Int32.ofInt x)) = .int (Int32.ofInt x) := by
  show Value.int _ = Value.int _
  congr 1
  apply Int32.toInt_inj.mp
  rw [zi32_of x ⟨by omega, by omega⟩]
  show (Int32.ofInt x).toInt8.toInt32.toInt = x
  rw [Int8.toInt_toInt32, Int32.toInt_toInt8, zi32_of x ⟨by omega, by omega⟩]
  exact Int.bmod_eq_of_le (by omega) (by omega)
theorem zfits_b {x : Int} (h : -128 ≤ x ∧ x ≤ 127) : fits .byte (.int (Int32.ofInt x)) = true := by
  show (decide (-128 ≤ Int32.ofInt x) && decide (Int32.ofInt x ≤ 127)) = true
  rw [Bool.and_eq_true]
  have hx : zi32 x := ⟨by omega, by omega⟩
  exact ⟨decide_eq_true ((zle32 (x := -128) ⟨by decide, by decide⟩ hx).mpr h.1), decide_eq_true ((zle32 (y := 127) hx ⟨by decide, by decide⟩).mpr h.2)⟩
theorem znar_z {x : Int} (h : 0 ≤ x ∧ x ≤ 1) : narrow .boolean (.int (Int32.ofInt x)) = .int (Int32.ofInt x) := by
  have : x = 0 ∨ x = 1 := by omega
  rcases this with rfl | rfl <;> rfl
theorem zs_bast (S : zSt B D aD L xs k s H locs ls LS st M) (C : zCtx B D aD L xs k p s m args meth c) (hd : decode (zcode k) pc = .ok (.bastore, 1)) (h : zastB (pc + 1) ls st M = some (pc', ls', st', M'))
    (kk : ∀ H1 locs1, zSt B D aD L xs k s H1 locs1 ls' LS st' M' → znx M' = znx M → W p l e R s m args below meth c H1 locs1 cells slots Q (F0 m pc' LS (st'.map (zenc B)))) : W p l e R s m args below meth c H locs cells slots Q (F0 m pc LS (st.map (zenc B))) := by
  obtain ⟨hx, hb, -, -, -, -, hK, -⟩ := C
  unfold zastB at h
  split at h
  · next x i a r =>
    split at h
    · next hc =>
      obtain ⟨rfl, rfl, rfl, rfl⟩ := zsome h
      obtain ⟨hk, hi0, hi1⟩ := hc
      have hi : zi32 i := S.2.2.2.2 (.inl i) (List.mem_cons_of_mem _ List.mem_cons_self)
      have ha : -3 ≤ a ∧ a < znx M := S.2.2.2.2 (.inr (.inr a)) (List.mem_cons_of_mem _ (List.mem_cons_of_mem _ List.mem_cons_self))
      have h3 : 3 ≤ a := zsh_low (by omega) (by omega) (by omega)
      have hgp : a ≠ 223 := zsh_gap (by omega)
      rw [zlen_own h3] at hi1
      have hg := zW_get (B := B) (aD := aD) h3 ha.2 hgp
      have hin := zvp hi0 hi (n := ((zsh a).2).toNat) (by omega)
      show W p l e R s m args below meth c H locs cells slots Q (F0 m pc LS (.int (Int32.ofInt x) :: .int (Int32.ofInt i) :: zrv B a :: r.map (zenc B)))
      rw [zrv_ref (by omega)]
      rcases hk with ⟨t, hxr⟩ | ⟨t, hxr⟩
      · have he : ∀ M : ZM, zent B aD M a = .inl (aD 2, ((zsh a).2).toNat, .inl (fun j => Int32.ofInt (M a j))) := fun M => by unfold zent; rw [if_neg (by omega), if_neg (by omega), if_pos t]
        rw [he] at hg
        refine W.bast hx hb (S.1.2.2.1 _ _ hg) ((hK.2 2 _ rfl).1 ((zsh a).2).toNat (fun j => .int (Int32.ofInt (M a j)))) (fun q => by cases q) (by show ¬ (_ < 0 ∨ (arrV _ _ _).slots.size ≤ _); rw [arrV_size]; exact hin) rfl rfl hd fun H1 e z oq => ?_
        refine kk H1 _ (S.set h3 ha.2 hgp (by rw [zpk_at t (by decide)]; exact hxr) (fun w hw => List.mem_cons_of_mem _ (List.mem_cons_of_mem _ (List.mem_cons_of_mem _ hw))) ?_ z oq (fun q hq => (List.mem_append.mp hq).imp id (fun h => by rw [List.mem_singleton.mp h]))) (znx_set h3)
        rw [he]
        show H1[zad B a]? = some (vp_cell _ _)
        rw [znar_b hxr] at e
        refine e.trans ?_
        rw [znc hi0 hi]
        exact congrArg some (zarr_st (g := fun z => Value.int (Int32.ofInt z)) (aD 2) _ hi0)
      · have he : ∀ M : ZM, zent B aD M a = .inl (aD 3, ((zsh a).2).toNat, .inl (fun j => Int32.ofInt (M a j))) := fun M => by unfold zent; rw [if_neg (by omega), if_neg (by omega), if_neg (by omega), if_pos t]
        rw [he] at hg
        refine W.zast hx hb (S.1.2.2.1 _ _ hg) ((hK.2 3 _ rfl).1 ((zsh a).2).toNat (fun j => .int (Int32.ofInt (M a j)))) (fun q => by cases q) (by show ¬ (_ < 0 ∨ (arrV _ _ _).slots.size ≤ _); rw [arrV_size]; exact hin) rfl rfl hd fun H1 e z oq => ?_
        refine kk H1 _ (S.set h3 ha.2 hgp (by rw [zpk_at t (by decide)]; exact hxr) (fun w hw => List.mem_cons_of_mem _ (List.mem_cons_of_mem _ (List.mem_cons_of_mem _ hw))) ?_ z oq (fun q hq => (List.mem_append.mp hq).imp id (fun h => by rw [List.mem_singleton.mp h]))) (znx_set h3)
        rw [he]
        show H1[zad B a]? = some (vp_cell _ _)
        rw [znar_z hxr] at e
        refine e.trans ?_
        rw [znc hi0 hi]
        exact congrArg some (zarr_st (g := fun z => Value.int (Int32.ofInt z)) (aD 3) _ hi0)
    · cases h
  · cases h
theorem zs_alen (S : zSt B D aD L xs k s H locs ls LS st M) (C : zCtx B D aD L xs k p s m args meth c) (hd : decode (zcode k) pc = .ok (.arraylength, 1)) (h : zalen (pc + 1) ls st M = some (pc', ls', st', M'))
    (kk : ∀ LS', zSt B D aD L xs k s H locs ls' LS' st' M' → M' = M → W p l e R s m args below meth c H locs cells slots Q (F0 m pc' LS' (st'.map (zenc B)))) : W p l e R s m args below meth c H locs cells slots Q (F0 m pc LS (st.map (zenc B))) := by
  obtain ⟨hx, hb, -, -, -, -, hK, hX, hL4, hbl, hbs, -, -, hT1, hT2, -⟩ := C
  unfold zalen at h
  split at h
  · next a r =>
    split at h
    · next hc =>
      obtain ⟨rfl, rfl, rfl, rfl⟩ := zsome h
      have ha : -3 ≤ a ∧ a < znx M := S.2.2.2.2 (.inr (.inr a)) List.mem_cons_self
      have go : zi32 (zlen M a) → W p l e R s m args below meth c H locs cells slots Q (F0 m (pc + 1) LS (.int (Int32.ofInt (zlen M a)) :: r.map (zenc B))) := fun hv =>
        kk LS (S.to fun w hw => (List.mem_cons.mp hw).elim (fun e => e ▸ hv) (fun h => S.2.2.2.2 w (List.mem_cons_of_mem _ h))) rfl
      show W p l e R s m args below meth c H locs cells slots Q (F0 m pc LS (zrv B a :: r.map (zenc B)))
      rcases hc with t | t
      · have h3 : 3 ≤ a := zsh_low (by omega) (by omega) (by omega)
        have hgp : a ≠ 223 := zsh_gap (by omega)
        rw [zrv_ref (by omega)]
        have hg := zW_get (B := B) (aD := aD) h3 ha.2 hgp
        have hz := zsh_sz h3
        have h0 : 0 ≤ (zsh a).2 ∧ (zsh a).2 ≤ 100000 := by
          rcases hz with h | h
          · omega
          · exact h.2
        have hgo := go (by rw [zlen_own h3]; exact ⟨by omega, by omega⟩)
        rw [zlen_own h3] at hgo
        have hv : ∀ x : vp_A, x.1 = ((zsh a).2).toNat → Int32.ofNat x.1 = Int32.ofInt (zsh a).2 := fun x hx => by
          rw [hx]
          show Int32.ofInt (((zsh a).2).toNat : Int) = _
          rw [Int.toNat_of_nonneg h0.1]
        have key : ∃ (t0 : Nat) (cA : ClassId) (x : vp_A) (ty : FieldType), (zty aD)[t0]? = some (cA, ty) ∧ zent B aD M a = .inl (cA, x) ∧ x.1 = ((zsh a).2).toNat := by
          unfold zent
          by_cases q0 : (zsh a).1 = 0
          · rw [if_pos q0]; exact ⟨0, _, _, _, rfl, rfl, rfl⟩
          rw [if_neg q0]
          by_cases q1 : (zsh a).1 = 1
          · rw [if_pos q1]; exact ⟨1, _, _, _, rfl, rfl, rfl⟩
          rw [if_neg q1]
          by_cases q2 : (zsh a).1 = 2
          · rw [if_pos q2]; exact ⟨2, _, _, _, rfl, rfl, rfl⟩
          rw [if_neg q2]
          by_cases q3 : (zsh a).1 = 3
          · rw [if_pos q3]; exact ⟨3, _, _, _, rfl, rfl, rfl⟩
          rw [if_neg q3]
          by_cases q4 : (zsh a).1 = 4
          · rw [if_pos q4]; exact ⟨4, _, _, _, rfl, rfl, rfl⟩
          rw [if_neg q4, if_pos (by omega)]
          exact absurd (show (zsh a).1 = 5 by omega) (zsh_5 h3 (by have := znx_le S.1; omega))
        obtain ⟨t0, cA, x, ty, k1, k2, k3⟩ := key
        rw [k2] at hg
        exact va_alen hx hb hK S.1.2.2.1 _ t0 hg k1 (hv x k3) hd hgo
      · have a0 := zsh_21 t
        subst a0
        have e0 : zlen M 0 = (L : Int) := by
          unfold zlen
          rw [if_pos rfl]
          exact S.2.1.1
        rw [zrv_ref (by decide)]
        rw [e0] at go
        exact va_slen hx hb hX (show B.1 < s.heap.size by omega) (show ¬ B.2.2.2 ≤ B.1 by omega) S.2.2.1 hd (go ⟨by omega, by omega⟩)
    · cases h
  · cases h
theorem zs_aast (S : zSt B D aD L xs k s H locs ls LS st M) (C : zCtx B D aD L xs k p s m args meth c) (hd : decode (zcode k) pc = .ok (.aastore, 1)) (h : zastA (pc + 1) ls st M = some (pc', ls', st', M'))
    (kk : ∀ H1 locs1, zSt B D aD L xs k s H1 locs1 ls' LS st' M' → znx M' = znx M → W p l e R s m args below meth c H1 locs1 cells slots Q (F0 m pc' LS (st'.map (zenc B)))) : W p l e R s m args below meth c H locs cells slots Q (F0 m pc LS (st.map (zenc B))) := by
  obtain ⟨hx, hb, -, -, -, -, hK, -⟩ := C
  unfold zastA at h
  split at h
  · next x i a r =>
    split at h
    · next hc =>
      obtain ⟨rfl, rfl, rfl, rfl⟩ := zsome h
      obtain ⟨t, hxs, hi0, hi1⟩ := hc
      have hxr0 : -3 ≤ x ∧ x < znx M := S.2.2.2.2 (.inr (.inr x)) List.mem_cons_self
      have hxr : -1 ≤ x ∧ x < znx M := ⟨by have := zsh_low (a := x) (by rw [hxs]; decide) (by rw [hxs]; decide) (by rw [hxs]; decide); omega, hxr0.2⟩
      have hi : zi32 i := S.2.2.2.2 (.inl i) (List.mem_cons_of_mem _ List.mem_cons_self)
      have ha : -3 ≤ a ∧ a < znx M := S.2.2.2.2 (.inr (.inr a)) (List.mem_cons_of_mem _ (List.mem_cons_of_mem _ List.mem_cons_self))
      have h3 : 3 ≤ a := zsh_low (by omega) (by omega) (by omega)
      have hgp : a ≠ 223 := zsh_gap (by omega)
      have hx3 : 3 ≤ x := zsh_low (by rw [hxs]; decide) (by rw [hxs]; decide) (by rw [hxs]; decide)
      have hgpx : x ≠ 223 := zsh_gap (by rw [hxs]; decide)
      rw [zlen_own h3] at hi1
      have hg := zW_get (B := B) (aD := aD) h3 ha.2 hgp
      have hgx := zW_get (B := B) (aD := aD) hx3 hxr.2 hgpx
      rw [show zent B aD M x = .inr (0, (List.range (zNf 0)).map (fun j => zencF B (ztyX 0 j) (M x j))) by unfold zent; rw [hxs]; rfl] at hgx
      have he : ∀ M : ZM, zent B aD M a = .inl (aD 4, ((zsh a).2).toNat, .inr (.inr (.inr (.inr (fun j => zro B (M a j)))))) := fun M => by unfold zent; rw [if_neg (by omega), if_neg (by omega), if_neg (by omega), if_neg (by omega), if_pos t]
      rw [he] at hg
      have hin := zvp hi0 hi (n := ((zsh a).2).toNat) (by omega)
      have hlt : (Int32.ofInt i).toNatClampNeg < ((zsh a).2).toNat := Nat.not_le.mp fun q => hin (Or.inr q)
      have hi00 : ¬ Int32.ofInt i < 0 := fun q => hin (Or.inl q)
      obtain ⟨r', hr', cellV, g1, g2, g3, -⟩ := S.1.2.2.1 _ _ hgx
      have hcls := (hK.1 0 (RX0, TX0, 12) rfl).2
      obtain ⟨kA, comp, k1, k2, k3, -⟩ : ∃ (kA : Class) (comp : ClassId), s.vm.classes[aD 4]? = some kA ∧ kA.kind = .array comp (.object RX0) ∧ s.vm.findClass RX0 = some comp ∧ s.vm.findClass ("[" ++ (FieldType.object RX0).toString) = some (aD 4) := (hK.2 4 _ rfl).2
      have hcomp : comp = D.1 0 := Option.some.inj (k3.symm.trans hcls.1)
      subst hcomp
      have hasn := va_assign hcls
      obtain ⟨kC, hkC, -⟩ := hcls.2
      show W p l e R s m args below meth c H locs cells slots Q (F0 m pc LS (zrv B x :: .int (Int32.ofInt i) :: zrv B a :: r.map (zenc B)))
      rw [zrv_ref (by omega), zrv_ref (by omega)]
      refine W.aast hx hb (S.1.2.2.1 _ _ hg) (fun q h => by cases h) (fun h => by cases h) k1 k2 rfl hkC ⟨hi00, by show _ < (arrV _ _ _).slots.size; rw [arrV_size]; exact hlt⟩ g1 (fun q h => by rw [g3] at h; cases h) (by rw [g2]; exact hkC) (by rw [g2]; exact hasn) rfl rfl hd fun H1 e z oq => ?_
      refine kk H1 _ (S.set h3 ha.2 hgp (by rw [zpk_at t (by decide)]; exact hxr) (fun w hw => List.mem_cons_of_mem _ (List.mem_cons_of_mem _ (List.mem_cons_of_mem _ hw))) ?_ z oq (fun q hq => (List.mem_append.mp hq).imp id (fun h => by rw [List.mem_singleton.mp h]))) (znx_set h3)
      rw [he]
      show H1[zad B a]? = some (vp_cell _ _)
      rw [e, vp_cell_q, vp_cell_q, arrV_store]
      congr 2
      funext j
      have := congrFun (zupd_fun (zro B) (M := M) (a := a) (i := i) (x := x) hi0) j
      rw [this, znc hi0 hi]
      unfold updV
      split
      · rw [zro_rf, zrv_ref (by omega)]
      · rfl
    · cases h
  · cases h
theorem zs_copy (S : zSt B D aD L xs k s H locs ls LS st M) (C : zCtx B D aD L xs k p s m args meth c) {j : Nat} (hd : decode (zcode k) pc = .ok (.invokestatic j, 3)) (hl : Cond.methodLink (zcn (zcl k)) j arraycopyName ∈ zTs) (h : zacopy (pc + 3) ls st M = some (pc', ls', st', M')) (hfr : 1 ≤ R.frames) (hlo : 46 ≤ R.locals)
    (kk : ∀ H1 locs1, zSt B D aD L xs k s H1 locs1 ls' LS st' M' → znx M' = znx M → W p l e R s m args below meth c H1 locs1 cells slots Q (F0 m pc' LS (st'.map (zenc B)))) : W p l e R s m args below meth c H locs cells slots Q (F0 m pc LS (st.map (zenc B))) := by
  obtain ⟨hx, hb, hml, hown, hts, -, hK, -⟩ := C
  unfold zacopy at h
  split at h
  · next n q a sp b r =>
    split at h
    · next hc =>
      obtain ⟨rfl, rfl, rfl, rfl⟩ := zsome h
      obtain ⟨ta, tb, hn0, hq0, hp0, hp1, hq1, hcat, hfull⟩ := hc
      have hn : zi32 n := S.2.2.2.2 (.inl n) List.mem_cons_self
      have hq : zi32 q := S.2.2.2.2 (.inl q) (List.mem_cons_of_mem _ List.mem_cons_self)
      have ha : -3 ≤ a ∧ a < znx M := S.2.2.2.2 (.inr (.inr a)) (List.mem_cons_of_mem _ (List.mem_cons_of_mem _ List.mem_cons_self))
      have hp : zi32 sp := S.2.2.2.2 (.inl sp) (List.mem_cons_of_mem _ (List.mem_cons_of_mem _ (List.mem_cons_of_mem _ List.mem_cons_self)))
      have hb' : -3 ≤ b ∧ b < znx M := S.2.2.2.2 (.inr (.inr b)) (List.mem_cons_of_mem _ (List.mem_cons_of_mem _ (List.mem_cons_of_mem _ (List.mem_cons_of_mem _ List.mem_cons_self))))
      have h3 : 3 ≤ a := zsh_low (by omega) (by omega) (by omega)
      have hgp : a ≠ 223 := zsh_gap (by omega)
      have hb3 : 3 ≤ b := zsh_low (by omega) (by omega) (by omega)
      have hgpb : b ≠ 223 := zsh_gap (by omega)
      have hga := zW_get (B := B) (aD := aD) h3 ha.2 hgp
      have hgb := zW_get (B := B) (aD := aD) hb3 hb'.2 hgpb
      have hcp : ∀ (a' : Int), a' ≠ a → ∀ j, zcopy M b sp a q n a' j = M a' j := fun a' h j => by unfold zcopy; rw [if_neg (fun z => h z.1)]
      have hnx : znx (zcopy M b sp a q n) = znx M := hcp (-1) (by omega) 0
      have hM : ∀ j : Nat, zcopy M b sp a q n a j = if q.toNat ≤ j ∧ j < q.toNat + n.toNat then M b (((sp.toNat + (j - q.toNat) : Nat) : Int)) else M a j := fun j => by
        unfold zcopy
        by_cases z : q.toNat ≤ j ∧ j < q.toNat + n.toNat
        · rw [if_pos z, if_pos ⟨rfl, by omega, by omega⟩]
          congr 1
          omega
        · rw [if_neg z, if_neg (fun w => z ⟨by omega, by omega⟩)]
      have hokM : zokM (zcopy M b sp a q n) := by
        intro a' h1 h2 j' h4 h5
        rw [hnx] at h2 ⊢
        by_cases z : a' = a
        · subst z
          unfold zcopy
          by_cases w : q ≤ j' ∧ j' < q + n
          · rw [if_pos ⟨rfl, w⟩]
            have hz := S.1.2.2.2 b hb3 hb'.2 (sp + (j' - q)) (by omega) (by unfold zcnt; rw [if_pos (by omega)]; omega)
            rw [zpk_at tb (by omega)] at hz
            rw [zpk_at (t := (zsh a').1) rfl (by omega)]
            exact hz
          · rw [if_neg (fun v => w v.2)]
            exact S.1.2.2.2 a' h1 h2 j' h4 h5
        · rw [hcp a' z]
          exact S.1.2.2.2 a' h1 h2 j' h4 h5
      have hS2 : zS L xs (zcopy M b sp a q n) := by
        obtain ⟨s1, s2, s3, s4⟩ := S.2.1
        exact ⟨by rw [hcp 0 (by omega)]; exact s1, fun j hj => by rw [hcp 0 (by omega)]; exact s2 j hj, fun j hj => by rw [hcp 1 (by omega)]; exact s3 j hj, fun j hj => by rw [hcp 2 (by omega)]; exact s4 j hj⟩
      have fin : ∀ (e' : va_E) (H1 : Heap) (locs1 : List Loc), zent B aD (zcopy M b sp a q n) a = e' → va_P D vwCl ((zW B aD M).set (zix a) (zad B a, e')) H1 → va_S (zAq B) s.heap H1 locs1 → W p l e R s m args below meth c H1 locs1 cells slots Q (F0 m (pc + 3) LS (r.map (zenc B))) := by
        intro e' H1 locs1 he hP hF
        rw [zW_set h3 ha.2 hgp hnx he (fun a' h => zent_congr (hcp a' h))] at hP
        refine kk H1 locs1 ⟨⟨by rw [hnx]; exact S.1.1, Or.inl (by rw [hnx]; rcases S.1.2.1 with q | q <;> omega), hP, hokM⟩, hS2, hF, by rw [hnx]; exact S.2.2.2.1, fun w hw => ?_⟩ hnx
        rw [hnx]
        exact S.2.2.2.2 w (List.mem_cons_of_mem _ (List.mem_cons_of_mem _ (List.mem_cons_of_mem _ (List.mem_cons_of_mem _ (List.mem_cons_of_mem _ hw)))))
      show W p l e R s m args below meth c H locs cells slots Q (F0 m pc LS (.int (Int32.ofInt n) :: .int (Int32.ofInt q) :: zrv B a :: .int (Int32.ofInt sp) :: zrv B b :: r.map (zenc B)))
      rw [zrv_ref (by omega), zrv_ref (by omega)]
      have hloc : ((r.map (zenc B)).map fun v => v.category).sum + (nativeFrameWords "java/lang/System" "arraycopy" 5 + 11) ≤ R.locals := by
        rw [zcat_sum]
        have : nativeFrameWords "java/lang/System" "arraycopy" 5 = 7 := by decide
        omega
      have n1 : ¬ Int32.ofInt sp < 0 := by rw [← z0of, zlt32 hp z032]; omega
      have n2 : ¬ Int32.ofInt q < 0 := by rw [← z0of, zlt32 hq z032]; omega
      have n3 : ¬ Int32.ofInt n < 0 := by rw [← z0of, zlt32 hn z032]; omega
      have c1 := znc hn0 hn
      have c2 := znc hq0 hq
      have c3 := znc hp0 hp
      have hca : (zsh a).1 = 0 ∨ (zsh a).1 = 1 ∨ (zsh a).1 = 2 := by omega
      rcases hca with t | t | t
      · have ea : ∀ M : ZM, zent B aD M a = .inl (aD 0, ((zsh a).2).toNat, .inl (fun j => Int32.ofInt (M a j))) := fun M => by unfold zent; rw [if_pos t]
        have eb : zent B aD M b = .inl (aD 0, ((zsh b).2).toNat, .inl (fun j => Int32.ofInt (M b j))) := by unfold zent; rw [if_pos (by omega)]
        rw [ea] at hga
        rw [eb] at hgb
        refine va_copyi hx hb (by rw [hml]; exact S.2.2.2.1.2.1.symm) hown (hts _ hl) (hts _ zx_acn) (hts _ zx_acs) (hts _ zx_aci) hK S.1.2.2.1 zW_D S.2.2.1 _ _ 0 0 hgb hga rfl rfl rfl n1 n2 n3 (by rw [c1, c3]; omega) (by rw [c1, c2]; omega) (fun i _ => rfl) hfr hloc hd (fun H1 locs1 p1 _ p3 => fin _ H1 locs1 ?_ p1 p3)
        rw [ea, c1, c2, c3]
        congr 4
        funext j
        rw [hM j]
        unfold va_cpy
        split <;> rfl
      · have ea : ∀ M : ZM, zent B aD M a = .inl (aD 1, ((zsh a).2).toNat, .inr (.inl (fun j => Int64.ofInt (M a j)))) := fun M => by unfold zent; rw [if_neg (by omega), if_pos t]
        have eb : zent B aD M b = .inl (aD 1, ((zsh b).2).toNat, .inr (.inl (fun j => Int64.ofInt (M b j)))) := by unfold zent; rw [if_neg (by omega), if_pos (by omega)]
        rw [ea] at hga
        rw [eb] at hgb
        refine va_copyl hx hb (by rw [hml]; exact S.2.2.2.1.2.1.symm) hown (hts _ hl) (hts _ zx_acn) (hts _ zx_acs) (hts _ zx_aci) hK S.1.2.2.1 zW_D S.2.2.1 _ _ 1 1 hgb hga rfl rfl rfl n1 n2 n3 (by rw [c1, c3]; omega) (by rw [c1, c2]; omega) (fun i _ => rfl) hfr hloc hd (fun H1 locs1 p1 _ p3 => fin _ H1 locs1 ?_ p1 p3)
        rw [ea, c1, c2, c3]
        congr 5
        funext j
        rw [hM j]
        unfold va_cpy
        split <;> rfl
      · have ea : ∀ M : ZM, zent B aD M a = .inl (aD 2, ((zsh a).2).toNat, .inl (fun j => Int32.ofInt (M a j))) := fun M => by unfold zent; rw [if_neg (by omega), if_neg (by omega), if_pos t]
        have eb : zent B aD M b = .inl (aD 2, ((zsh b).2).toNat, .inl (fun j => Int32.ofInt (M b j))) := by unfold zent; rw [if_neg (by omega), if_neg (by omega), if_pos (by omega)]
        rw [ea] at hga
        rw [eb] at hgb
        refine va_copyi hx hb (by rw [hml]; exact S.2.2.2.1.2.1.symm) hown (hts _ hl) (hts _ zx_acn) (hts _ zx_acs) (hts _ zx_aci) hK S.1.2.2.1 zW_D S.2.2.1 _ _ 2 2 hgb hga rfl rfl rfl n1 n2 n3 (by rw [c1, c3]; omega) (by rw [c1, c2]; omega) (fun i hi => ?_) hfr hloc hd (fun H1 locs1 p1 _ p3 => fin _ H1 locs1 ?_ p1 p3)
        · rw [c3]
          have hz := zok_at S hb3 hb'.2 (t := 2) (by omega) (by decide) (i := ((sp.toNat + i : Nat) : Int)) (by omega) (by rw [c1] at hi; omega)
          have hz : -128 ≤ M b ((sp.toNat + i : Nat) : Int) ∧ M b ((sp.toNat + i : Nat) : Int) ≤ 127 := hz
          exact zfits_b hz
        · rw [ea, c1, c2, c3]
          congr 4
          funext j
          rw [hM j]
          unfold va_cpy
          split <;> rfl
    · cases h
  · cases h
end ZARR2
