/-! ===== what is made ===== -/
theorem zini_in {ci : Nat} (h : ci < 9) : Cond.initialized (zcn ci) ∈ zTs := by
  match ci, h with
  | 0, _ => exact zini_in_0
  | 1, _ => exact zini_in_1
  | 2, _ => exact zini_in_2
  | 3, _ => exact zini_in_3
  | 4, _ => exact zini_in_4
  | 5, _ => exact zini_in_5
  | 6, _ => exact zini_in_6
  | 7, _ => exact zini_in_7
  | 8, _ => exact zini_in_8
  | n + 9, h => exact absurd h (by omega)
theorem zmake_old {M : ZM} {a : Int} (h1 : a ≠ -1) (h2 : a ≠ znx M) (j : Int) : zmake M a j = M a j := by
  unfold zmake
  rw [if_neg (fun q => h1 q.1), if_neg (show ¬ a = M (-1) 0 from h2)]
theorem zmake_nx (M : ZM) : znx (zmake M) = znx M + 1 := by
  show zmake M (-1) 0 = _
  unfold zmake
  rw [if_pos ⟨rfl, rfl⟩]
  rfl
theorem zmake_new {M : ZM} (h : 3 ≤ znx M) (j : Int) : zmake M (znx M) j = zdef (zsh (znx M)).1 j := by
  unfold zmake
  rw [if_neg (fun q => by have := q.1; omega), if_pos (show znx M = M (-1) 0 from rfl)]
theorem zin_mono {n n' : Int} {k : Nat} {x : Int} (h : zin n k x) (hn : n ≤ n') : zin n' k x := by
  unfold zin at h ⊢
  split
  · exact h
  · exact h
  · exact h
  · exact h
  · next h0 h1 h2 h3 =>
    split at h
    · exact absurd rfl h0
    · exact absurd rfl h1
    · exact absurd rfl h2
    · exact absurd rfl h3
    · exact ⟨h.1, by omega⟩
theorem zdef_in {n : Int} (hn : 0 ≤ n) (a j : Int) (h5 : (zsh a).1 ≤ 5 ∨ 10 ≤ (zsh a).1) : zin n (zpk a j) (zdef (zsh a).1 j) := by
  unfold zpk zdef
  rcases h5 with h5 | h5
  · by_cases q : (zsh a).1 < 4
    · rw [if_pos q, if_neg (by omega), if_neg (by omega)]
      have : (zsh a).1 = 0 ∨ (zsh a).1 = 1 ∨ (zsh a).1 = 2 ∨ (zsh a).1 = 3 := by omega
      rcases this with e | e | e | e <;> rw [e]
      · exact ⟨by decide, by decide⟩
      · exact ⟨by decide, by decide⟩
      · exact ⟨by decide, by decide⟩
      · exact ⟨by decide, by decide⟩
    · rw [if_neg q, if_pos (by omega), if_pos (by omega)]
      exact ⟨by omega, by omega⟩
  · rw [if_neg (by omega), if_neg (by omega), if_neg (by omega), if_pos h5]
    cases ztyX ((zsh a).1 - 10) j.toNat <;> first | exact (⟨by omega, by omega⟩ : (-1 : Int) ≤ -1 ∧ (-1 : Int) < n) | exact (⟨by decide, by decide⟩ : zi32 0) | exact (⟨by decide, by decide⟩ : (0 : Int) ≤ 0 ∧ (0 : Int) ≤ 1)
theorem zP_push {B : zBs} {D : va_G} {aD : Nat → ClassId} {M M' : ZM} {H H1 : Heap} (hP : va_P D vwCl (zW B aD M) H) (h3 : 3 ≤ znx M) (hg : znx M ≠ 223) (hx : znx M' = znx M + 1) (ho : ∀ a : Int, 3 ≤ a → a < znx M → ∀ j, M' a j = M a j) (he : va_at D vwCl (zad B (znx M), zent B aD M' (znx M)) H1) (o1 : ∀ q : Nat, q < H.size → H1[q]? = H[q]?) : va_P D vwCl (zW B aD M') H1 := by
  intro i q hq
  have hl : i < zix (znx M') := by
    have := (List.getElem?_eq_some_iff.mp hq).1
    rw [zW_len] at this
    exact this
  have hlt := zce_lt hl
  have h3i := zce_r i
  have g2 := zW_get (B := B) (aD := aD) (M := M') (a := zce i) h3i.1 hlt h3i.2
  rw [zix_ce] at g2
  cases g2.symm.trans hq
  by_cases e : zce i = znx M
  · rw [e]
    exact he
  · have g1 := zW_get (B := B) (aD := aD) (M := M) (a := zce i) h3i.1 (by omega) h3i.2
    rw [zix_ce] at g1
    have h := hP i _ g1
    rw [zent_congr (ho _ h3i.1 (by omega))]
    exact h.kept (o1 _ h.lt)
theorem zsz_arr {a n : Int} {t : Nat} (h : zsh a = (t, n)) (ht : t < 10) : zsz a = n.toNat := by
  unfold zsz
  rw [h]
  exact if_pos ht
theorem zix_s {a : Int} (h3 : 3 ≤ a) (hg : a ≠ 223) : zix (a + 1) = zix a + 1 := by
  unfold zix
  split <;> split <;> omega
theorem zsl_push {M M' : ZM} (h3 : 3 ≤ znx M) (hg : znx M ≠ 223) (hx : znx M' = znx M + 1) : zds M M' = zsz (znx M) ∧ zdc M M' = 1 := by
  have e0 : zdc M M' = 1 := by
    unfold zdc
    rw [hx, zix_s h3 hg]
    omega
  rw [e0]
  unfold zds zsl
  rw [hx, show (znx M + 1 - 3).toNat = (znx M - 3).toNat + 1 by omega]
  have e : zsum ((znx M - 3).toNat + 1) = zsum (znx M - 3).toNat + zsz ((((znx M - 3).toNat : Nat) : Int) + 3) := rfl
  rw [e, show (((znx M - 3).toNat : Nat) : Int) + 3 = znx M by omega]
  exact ⟨by omega, rfl⟩
theorem znq {a n : Int} {t u : Nat} (h : zsh a = (t, n)) (d : t ≠ u) : ¬ (zsh a).1 = u := by rw [h]; exact d
theorem zad_nx {B : zBs} {M : ZM} {H : Heap} (h3 : 3 ≤ znx M) (hz : znx M = 236 ∨ znx M < 236 ∧ H.size = B.2.2.2 + zix (znx M)) (h19 : (zsh (znx M)).1 ≠ 19) : H.size = zad B (znx M) := by
  have hz : H.size = B.2.2.2 + zix (znx M) := by
    rcases hz with h | h
    · rw [h] at h19
      exact absurd (by decide +kernel) h19
    · exact h.2
  unfold zad
  rw [if_neg (by omega), if_neg (by omega), if_neg (by omega)]
  exact hz
/-- the number that stands for no cell, skipped -/
theorem zskip_nx (M : ZM) : znx (zskip M) = if znx M = 223 then 224 else znx M := by
  show zskip M (-1) 0 = _
  unfold zskip
  by_cases q : M (-1) 0 = 223
  · rw [if_pos ⟨⟨rfl, rfl⟩, q⟩, if_pos (show znx M = 223 from q)]
  · rw [if_neg (fun z => q z.2), if_neg (show ¬ znx M = 223 from q)]
    rfl
theorem zskip_le (M : ZM) : znx M ≤ znx (zskip M) := by
  rw [zskip_nx]
  split <;> omega
theorem zskip_ix (M : ZM) : zix (znx (zskip M)) = zix (znx M) := by
  rw [zskip_nx]
  split
  · next h => rw [h]; rfl
  · rfl
theorem zskip_at {M : ZM} {a : Int} (h : a ≠ -1) (j : Int) : zskip M a j = M a j := by
  unfold zskip
  rw [if_neg (fun z => h z.1.1)]
theorem zsum_gap : zsum 221 = zsum 220 := by decide +kernel
theorem zskip_sl (M : ZM) : zsl (zskip M) = zsl M := by
  unfold zsl
  rw [zskip_nx]
  split
  · next h => rw [h]; exact zsum_gap
  · rfl
theorem zdc_skip (M M' : ZM) : zdc (zskip M) M' = zdc M M' := by
  unfold zdc
  rw [zskip_ix]
theorem zds_skip (M M' : ZM) : zds (zskip M) M' = zds M M' := by
  unfold zds
  rw [zskip_sl]
theorem zcnt_gap : zcnt 223 = 0 := by decide +kernel
theorem zSt.skip {B : zBs} {D : va_G} {aD : Nat → ClassId} {L : Nat} {xs : Nat → Int32} {k : Nat} {s : State} {H : Heap} {locs : List Loc} {ls : ZL} {LS : Array Slot} {st : ZS} {M : ZM} (S : zSt B D aD L xs k s H locs ls LS st M) : zSt B D aD L xs k s H locs ls LS st (zskip M) := by
  obtain ⟨⟨g1, g2, g3, g4⟩, ⟨s1, s2, s3, s4⟩, g6, g7, g8⟩ := S
  have hle := zskip_le M
  have hsk : znx (zskip M) = 236 ∨ znx (zskip M) < 236 ∧ H.size = B.2.2.2 + zix (znx (zskip M)) := by
    rcases g2 with q | ⟨q1, q2⟩
    · exact Or.inl (by rw [zskip_nx, q]; rfl)
    · exact Or.inr ⟨by rw [zskip_nx]; split <;> omega, by rw [zskip_ix]; exact q2⟩
  refine ⟨⟨by omega, hsk, ?_, ?_⟩, ⟨by rw [zskip_at (by decide)]; exact s1, fun j hj => by rw [zskip_at (by decide)]; exact s2 j hj, fun j hj => by rw [zskip_at (by decide)]; exact s3 j hj, fun j hj => by rw [zskip_at (by decide)]; exact s4 j hj⟩, g6, g7.mono hle, fun v hv => (g8 v hv).mono hle⟩
  · have e : zW B aD (zskip M) = zW B aD M := by
      unfold zW
      rw [zskip_ix]
      exact List.map_congr_left (fun q _ => by rw [zent_congr (fun j => zskip_at (by have := zce_r q; omega) j)])
    rw [e]
    exact g3
  · intro a h1 h2 j h4 h5
    rw [zskip_at (by omega)]
    by_cases q : a < znx M
    · exact zin_mono (g4 a h1 q j h4 h5) hle
    · exfalso
      rw [zskip_nx] at h2
      split at h2
      · next h =>
        have ea : a = 223 := by omega
        rw [ea, zcnt_gap] at h5
        omega
      · omega
/-- a cell more: the new state -/
theorem zSt.push {B : zBs} {D : va_G} {aD : Nat → ClassId} {L : Nat} {xs : Nat → Int32} {k : Nat} {s : State} {H H1 : Heap} {locs : List Loc} {ls : ZL} {LS : Array Slot} {st st' : ZS} {M : ZM} (S : zSt B D aD L xs k s H locs ls LS st M) (h5 : (zsh (znx M)).1 ≤ 5 ∨ 10 ≤ (zsh (znx M)).1) (h99 : (zsh (znx M)).1 ≠ 99) (h19 : (zsh (znx M)).1 ≠ 19)
    (hst : ∀ w ∈ st', w ∈ st ∨ w = zA (znx M)) (he : va_at D vwCl (zad B (znx M), zent B aD (zmake M) (znx M)) H1) (z : H1.size = H.size + 1) (o1 : ∀ q : Nat, q < H.size → H1[q]? = H[q]?) : zSt B D aD L xs k s H1 locs ls LS st' (zmake M) := by
  obtain ⟨⟨g1, g2, g3, g4⟩, ⟨s1, s2, s3, s4⟩, g6, g7, g8⟩ := S
  have hold : ∀ a : Int, a ≠ -1 → a < znx M → ∀ j, zmake M a j = M a j := fun a h1 h2 j => zmake_old h1 (by omega) j
  have hg : znx M ≠ 223 := zsh_gap h99
  have hnew : znx (zmake M) = 236 ∨ znx (zmake M) < 236 ∧ H1.size = B.2.2.2 + zix (znx (zmake M)) := by
    rcases g2 with h | ⟨ha, hb⟩
    · rw [h] at h19
      exact absurd (by decide +kernel) h19
    · rw [zmake_nx]
      by_cases q : znx M + 1 = 236
      · exact Or.inl q
      · exact Or.inr ⟨by omega, by rw [z, hb, zix_s g1 hg]; omega⟩
  refine ⟨⟨by rw [zmake_nx]; omega, hnew, zP_push g3 g1 hg (zmake_nx M) (fun a h1 h2 j => hold a (by omega) h2 j) he o1, ?_⟩, ⟨by rw [hold 0 (by decide) (by omega)]; exact s1, fun j hj => by rw [hold 0 (by decide) (by omega)]; exact s2 j hj, fun j hj => by rw [hold 1 (by decide) (by omega)]; exact s3 j hj, fun j hj => by rw [hold 2 (by decide) (by omega)]; exact s4 j hj⟩, ⟨by rw [z]; exact Nat.le_succ_of_le g6.1, fun q h1 h2 => (o1 q (Nat.lt_of_lt_of_le h1 g6.1)).trans (g6.2.1 q h1 h2), g6.2.2⟩, by rw [zmake_nx]; exact g7.mono (by omega), fun w hw => ?_⟩
  · intro a h1 h2 j h4 h5'
    rw [zmake_nx] at h2 ⊢
    by_cases q : a = znx M
    · subst q
      rw [zmake_new g1]
      exact zdef_in (by omega) _ j h5
    · rw [hold a (by omega) (by omega)]
      exact zin_mono (g4 a h1 (by omega) j h4 h5') (by omega)
  · rw [zmake_nx]
    rcases hst w hw with h | rfl
    · exact (g8 w h).mono (by omega)
    · exact ⟨by omega, by omega⟩
section ZNEW
variable {p : Program} {l : Launch} {e : Env} {R : Room} {s : State} {m : MethodId} {args : Array Value} {below : List Frame} {meth : Method} {c : Code} {H : Heap} {locs : List Loc} {cells slots : Nat} {Q : State → Prop}
variable {B : zBs} {D : va_G} {aD : Nat → ClassId} {L : Nat} {xs : Nat → Int32} {k : Nat} {pc pc' : Nat} {ls ls' : ZL} {st st' : ZS} {M M' : ZM} {LS : Array Slot}
theorem zcl_at {n w : Nat} {q : zPos} (hc : zcl k ≠ 9) (h : zlk (zCl (zcl k)) n = some (w, q)) : Cond.classLink (zcn (zcl k)) n (zcn w) ∈ zTs ∧ w < 9 := by
  have h1 := zCl_ok (zcl k) hc _ (zlk_mem _ _ _ h)
  unfold zClOk at h1
  rw [Bool.and_eq_true] at h1
  exact ⟨zhas_in h1.1, Nat.lt_of_lt_of_le (Nat.lt_succ_self _) (Nat.le_of_ble_eq_true h1.2)⟩
theorem zs_new0 (S : zSt B D aD L xs k s H locs ls LS st M) (C : zCtx B D aD L xs k p s m args meth c) {n : Nat} (hd : decode (zcode k) pc = .ok (.new n, 3)) (h : znew (zlk (zCl (zcl k)) n) (pc + 3) ls st M = some (pc', ls', st', M')) (hc : cells + zdc M M' ≤ R.cells) (hs : slots + zds M M' ≤ R.slots)
    (kk : ∀ H1 locs1, zSt B D aD L xs k s H1 locs1 ls' LS st' M' → W p l e R s m args below meth c H1 locs1 (cells + zdc M M') (slots + zds M M') Q (F0 m pc' LS (st'.map (zenc B)))) : W p l e R s m args below meth c H locs cells slots Q (F0 m pc LS (st.map (zenc B))) := by
  obtain ⟨hx, hb, -, hown, hts, ⟨-, hgh⟩, hK, -⟩ := C
  unfold znew at h
  split at h
  · next ci q eq =>
    split at h
    · next hcc =>
      obtain ⟨rfl, rfl, rfl, rfl⟩ := zsome h
      obtain ⟨hc90, hsh⟩ := hcc
      obtain ⟨hlk, hci⟩ := zcl_at (zgh_c hgh) eq
      have h3 := S.1.1
      have h19 : (zsh (znx M)).1 ≠ 19 := by rw [hsh]; show 10 + ci ≠ 19; omega
      have h99 : (zsh (znx M)).1 ≠ 99 := by rw [hsh]; show 10 + ci ≠ 99; omega
      obtain ⟨z1, z2⟩ := zsl_push h3 (zsh_gap h99) (zmake_nx M)
      have z3 : zsz (znx M) = zNf ci := by
        unfold zsz
        rw [hsh]
        simp only [show ¬ 10 + ci < 10 from by omega, if_false, Nat.add_sub_cancel_left]
      rw [z1, z2, z3] at kk
      rw [z1, z3] at hs
      rw [z2] at hc
      have hKn := hK.1 ci _ (zvw hci)
      refine W.newcK hx hb hown (hts _ hlk) (hts _ (zci_in hci)) (hts _ (zini_in hci)) rfl hd hc hs hKn.2.1 (zad_nx h3 S.1.2.1 h19) fun H1 kC hkC e1 z1 o1 => ?_
      have hz : zad B (znx M) = H.size := (zad_nx h3 S.1.2.1 h19).symm
      have step := kk H1 locs (S.push (st' := zA (znx M) :: st) (H1 := H1) (by rw [hsh]; right; show 10 ≤ 10 + ci; omega) h99 h19 (fun w hw => (List.mem_cons.mp hw).elim Or.inr Or.inl) ?_ (by rw [z1, hz]) (fun q hq => o1 q (by rw [hz]; exact hq)))
      · show W p l e R s m args below meth c H1 locs (cells + 1) (slots + zNf ci) Q (F0 m (pc + 3) LS (.ref (zad B (znx M)) :: st.map (zenc B)))
        rw [← zrv_ref (B := B) (a := znx M) (by omega)]
        exact step
      · rw [zent_obj hsh]
        refine ⟨(zcn ci, zTX ci, zNf ci), zvw hci, (u_born (ztyX ci) hts (zcw_in hci) hKn hkC e1 (zty_ok hci)).to (fun j hj => ?_)⟩
        unfold vp_V
        rw [List.getD_eq_getElem?_getD, List.getElem?_map, List.getElem?_range hj]
        show defaultValue (ztyX ci j) = zencF B (ztyX ci j) (zmake M (znx M) j)
        rw [zmake_new h3, hsh]
        unfold zdef
        rw [if_neg (show ¬ (10 + ci = 4 ∨ 10 + ci = 5) by omega), if_pos (show 10 ≤ 10 + ci by omega), Nat.add_sub_cancel_left, Int.toNat_natCast]
        rcases zty_nl ci hci j hj with e | e | ⟨n, e⟩ | ⟨t, e⟩ <;> rw [e] <;> rfl
    · cases h
  · cases h
theorem zs_newa0 (S : zSt B D aD L xs k s H locs ls LS st M) (C : zCtx B D aD L xs k p s m args meth c) {at' : ArrayType} (hd : decode (zcode k) pc = .ok (.newarray at', 2)) (ha3 : zatype at' ≤ 3) (h : znewa (zatype at') (pc + 2) ls st M = some (pc', ls', st', M')) (hc : cells + zdc M M' ≤ R.cells) (hs : slots + zds M M' ≤ R.slots)
    (kk : ∀ H1 locs1, zSt B D aD L xs k s H1 locs1 ls' LS st' M' → W p l e R s m args below meth c H1 locs1 (cells + zdc M M') (slots + zds M M') Q (F0 m pc' LS (st'.map (zenc B)))) : W p l e R s m args below meth c H locs cells slots Q (F0 m pc LS (st.map (zenc B))) := by
  obtain ⟨hx, hb, -, hown, hts, -, hK, -⟩ := C
  unfold znewa at h
  split at h
  · next n r =>
    split at h
    · next hcc =>
      obtain ⟨rfl, rfl, rfl, rfl⟩ := zsome h
      obtain ⟨-, hsh, hn0, hn1⟩ := hcc
      have h3 := S.1.1
      have h99 : (zsh (znx M)).1 ≠ 99 := by rw [hsh]; show zatype at' ≠ 99; omega
      have h19 : (zsh (znx M)).1 ≠ 19 := by rw [hsh]; show zatype at' ≠ 19; omega
      obtain ⟨z1, z2⟩ := zsl_push h3 (zsh_gap h99) (zmake_nx M)
      have z3 : zsz (znx M) = n.toNat := zsz_arr hsh (by omega)
      rw [z1, z2, z3] at kk
      rw [z1, z3] at hs
      rw [z2] at hc
      have hni : zi32 n := ⟨by omega, by omega⟩
      have hz : zad B (znx M) = H.size := (zad_nx h3 S.1.2.1 h19).symm
      have hnn : ¬ Int32.ofInt n < 0 := by rw [← z0of, zlt32 hni z032]; omega
      have key : Cond.arrayClass (newarray.typeOf at') ∈ zTs ∧ n.toNat * componentBytes (newarray.typeOf at') ≤ 536870912 ∧ ∀ (H1 : Heap) (cA : ClassId), H1[zad B (znx M)]? = some (arrV cA n.toNat (fun _ => defaultValue (newarray.typeOf at'))) → s.vm.findClass ("[" ++ (newarray.typeOf at').toString) = some cA → va_at D vwCl (zad B (znx M), zent B aD (zmake M) (znx M)) H1 := by
        have hnew : ∀ j : Nat, zmake M (znx M) j = zdef (zatype at') j := fun j => by rw [zmake_new h3, hsh]
        have hd0 : ∀ j : Int, zdef (zatype at') j = 0 := fun j => by unfold zdef; rw [if_neg (by omega), if_neg (by omega)]
        have e1 : (zsh (znx M)).2.toNat = n.toNat := by rw [hsh]
        cases at' with
        | int =>
          refine ⟨zx_arrI, by show n.toNat * 4 ≤ _; omega, fun H1 cA e f => ?_⟩
          have eA : aD 0 = cA := Option.some.inj (((hK.2 0 _ rfl).2 : s.vm.findClass _ = some (aD 0)).symm.trans f)
          unfold zent
          rw [if_pos (by rw [hsh]; rfl)]
          show H1[_]? = some (vp_cell _ _)
          rw [e, vp_cell_i, eA, e1]
          congr 2
          funext j
          rw [hnew, hd0]; rfl
        | long =>
          refine ⟨zx_arrJ, by show n.toNat * 8 ≤ _; omega, fun H1 cA e f => ?_⟩
          have eA : aD 1 = cA := Option.some.inj (((hK.2 1 _ rfl).2 : s.vm.findClass _ = some (aD 1)).symm.trans f)
          unfold zent
          rw [if_neg (znq hsh (by decide)), if_pos (by rw [hsh]; rfl)]
          show H1[_]? = some (vp_cell _ _)
          rw [e, vp_cell_l, eA, e1]
          congr 2
          funext j
          rw [hnew, hd0]; rfl
        | byte =>
          refine ⟨zx_arrB, by show n.toNat * 1 ≤ _; omega, fun H1 cA e f => ?_⟩
          have eA : aD 2 = cA := Option.some.inj (((hK.2 2 _ rfl).2 : s.vm.findClass _ = some (aD 2)).symm.trans f)
          unfold zent
          rw [if_neg (znq hsh (by decide)), if_neg (znq hsh (by decide)), if_pos (by rw [hsh]; rfl)]
          show H1[_]? = some (vp_cell _ _)
          rw [e, vp_cell_i, eA, e1]
          congr 2
          funext j
          rw [hnew, hd0]; rfl
        | boolean =>
          refine ⟨zx_arrZ, by show n.toNat * 1 ≤ _; omega, fun H1 cA e f => ?_⟩
          have eA : aD 3 = cA := Option.some.inj (((hK.2 3 _ rfl).2 : s.vm.findClass _ = some (aD 3)).symm.trans f)
          unfold zent
          rw [if_neg (znq hsh (by decide)), if_neg (znq hsh (by decide)), if_neg (znq hsh (by decide)), if_pos (by rw [hsh]; rfl)]
          show H1[_]? = some (vp_cell _ _)
          rw [e, vp_cell_i, eA, e1]
          congr 2
          funext j
          rw [hnew, hd0]; rfl
        | char => exact absurd ha3 (by decide)
        | float => exact absurd ha3 (by decide)
        | double => exact absurd ha3 (by decide)
        | short => exact absurd ha3 (by decide)
      obtain ⟨k1, k2, k3⟩ := key
      show W p l e R s m args below meth c H locs cells slots Q (F0 m pc LS (.int (Int32.ofInt n) :: r.map (zenc B)))
      refine va_newaK hx hb (hts _ k1) rfl hd rfl hnn (znc hn0 hni) k2 hc hs (zad_nx h3 S.1.2.1 h19) (fun H1 cA e1 z1 o1 _ f => ?_)
      have step := kk H1 locs (S.push (st' := zA (znx M) :: r) (H1 := H1) (by rw [hsh]; left; show zatype at' ≤ 5; omega) h99 h19 (fun w hw => (List.mem_cons.mp hw).elim Or.inr (fun h => Or.inl (List.mem_cons_of_mem _ h))) (k3 H1 cA e1 f) (by rw [z1, hz]) (fun q hq => o1 q (by rw [hz]; exact hq)))
      show W p l e R s m args below meth c H1 locs (cells + 1) (slots + n.toNat) Q (F0 m (pc + 2) LS (.ref (zad B (znx M)) :: r.map (zenc B)))
      rw [← zrv_ref (B := B) (a := znx M) (by omega)]
      exact step
    · cases h
  · cases h
theorem zs_newq0 (S : zSt B D aD L xs k s H locs ls LS st M) (C : zCtx B D aD L xs k p s m args meth c) {i : Nat} {q : zPos} (eq : zlk (zCl (zcl k)) i = some (0, q)) (hd : decode (zcode k) pc = .ok (.anewarray i, 3)) (h : znewa 4 (pc + 3) ls st M = some (pc', ls', st', M')) (hc : cells + zdc M M' ≤ R.cells) (hs : slots + zds M M' ≤ R.slots)
    (kk : ∀ H1 locs1, zSt B D aD L xs k s H1 locs1 ls' LS st' M' → W p l e R s m args below meth c H1 locs1 (cells + zdc M M') (slots + zds M M') Q (F0 m pc' LS (st'.map (zenc B)))) : W p l e R s m args below meth c H locs cells slots Q (F0 m pc LS (st.map (zenc B))) := by
  obtain ⟨hx, hb, -, hown, hts, ⟨-, hgh⟩, hU⟩ := C
  have hK := hU.1
  have hOv := hU.2.2.2.2.2.2.2.2.2.2
  unfold znewa at h
  split at h
  · next n r =>
    split at h
    · next hcc =>
      obtain ⟨rfl, rfl, rfl, rfl⟩ := zsome h
      obtain ⟨-, hsh, hn0, hn1⟩ := hcc
      have h3 := S.1.1
      have h99 : (zsh (znx M)).1 ≠ 99 := znq hsh (by decide)
      have h19 : (zsh (znx M)).1 ≠ 19 := znq hsh (by decide)
      obtain ⟨z1, z2⟩ := zsl_push h3 (zsh_gap h99) (zmake_nx M)
      have z3 : zsz (znx M) = n.toNat := zsz_arr hsh (by omega)
      rw [z1, z2, z3] at kk
      rw [z1, z3] at hs
      rw [z2] at hc
      have hni : zi32 n := ⟨by omega, by omega⟩
      have hz : zad B (znx M) = H.size := (zad_nx h3 S.1.2.1 h19).symm
      have hnn : ¬ Int32.ofInt n < 0 := by rw [← z0of, zlt32 hni z032]; omega
      have hnc := znc hn0 hni
      show W p l e R s m args below meth c H locs cells slots Q (F0 m pc LS (.int (Int32.ofInt n) :: r.map (zenc B)))
      refine W.anew hx hb hown (C := RX0) (hts _ (zcl_at (zgh_c hgh) eq).1) (va_AO.use hOv.1) rfl hd rfl hnn (by rw [hnc]; omega) hc (by rw [hnc]; exact hs) fun cA kA comp f1 f2 f3 f4 => ?_
      rw [hnc]
      generalize hH1 : H.push ({ cls := cA, slots := Array.replicate n.toNat .null, vm := .none } : Cell) = H1
      have z1 : H1.size = H.size + 1 := by rw [← hH1, Array.size_push]
      have e1 : H1[H.size]? = some (arrV cA n.toNat (fun _ => .null)) := by rw [← hH1, Array.getElem?_push_size, ← arrV_new]
      have o1 : ∀ q : Nat, q < H.size → H1[q]? = H[q]? := fun q hq => by rw [← hH1, Array.getElem?_push, if_neg (Nat.ne_of_lt hq)]
      have eA : aD 4 = cA := by
        obtain ⟨kA', comp', g1, g2, g3, g4⟩ : ∃ (kA : Class) (comp : ClassId), s.vm.classes[aD 4]? = some kA ∧ kA.kind = .array comp (.object RX0) ∧ s.vm.findClass RX0 = some comp ∧ s.vm.findClass ("[" ++ (FieldType.object RX0).toString) = some (aD 4) := (hK.2 4 _ rfl).2
        exact Option.some.inj (g4.symm.trans f1)
      have step := kk H1 locs (S.push (st' := zA (znx M) :: r) (H1 := H1) (by rw [hsh]; left; show 4 ≤ 5; decide) h99 h19 (fun w hw => (List.mem_cons.mp hw).elim Or.inr (fun h => Or.inl (List.mem_cons_of_mem _ h))) ?_ z1 o1)
      · show W p l e R s m args below meth c H1 locs (cells + 1) (slots + n.toNat) Q (F0 m (pc + 3) LS (.ref H.size :: r.map (zenc B)))
        rw [← hz, ← zrv_ref (B := B) (a := znx M) (by omega)]
        exact step
      · unfold zent
        rw [if_neg (znq hsh (by decide)), if_neg (znq hsh (by decide)), if_neg (znq hsh (by decide)), if_neg (znq hsh (by decide)), if_pos (by rw [hsh])]
        show H1[zad B (znx M)]? = some (vp_cell _ _)
        rw [hz, e1, vp_cell_q, eA, hsh]
        congr 2
        funext j
        rw [zmake_new h3, hsh]
        rfl
    · cases h
  · cases h
theorem zs_new (S : zSt B D aD L xs k s H locs ls LS st M) (C : zCtx B D aD L xs k p s m args meth c) {n : Nat} (hd : decode (zcode k) pc = .ok (.new n, 3)) (h : znew (zlk (zCl (zcl k)) n) (pc + 3) ls st (zskip M) = some (pc', ls', st', M')) (hc : cells + zdc M M' ≤ R.cells) (hs : slots + zds M M' ≤ R.slots)
    (kk : ∀ H1 locs1, zSt B D aD L xs k s H1 locs1 ls' LS st' M' → W p l e R s m args below meth c H1 locs1 (cells + zdc M M') (slots + zds M M') Q (F0 m pc' LS (st'.map (zenc B)))) : W p l e R s m args below meth c H locs cells slots Q (F0 m pc LS (st.map (zenc B))) :=
  zs_new0 S.skip C hd h (by rw [zdc_skip]; exact hc) (by rw [zds_skip]; exact hs) (fun H1 locs1 g => by rw [zdc_skip, zds_skip]; exact kk H1 locs1 g)
theorem zs_newa (S : zSt B D aD L xs k s H locs ls LS st M) (C : zCtx B D aD L xs k p s m args meth c) {at' : ArrayType} (hd : decode (zcode k) pc = .ok (.newarray at', 2)) (ha3 : zatype at' ≤ 3) (h : znewa (zatype at') (pc + 2) ls st (zskip M) = some (pc', ls', st', M')) (hc : cells + zdc M M' ≤ R.cells) (hs : slots + zds M M' ≤ R.slots)
    (kk : ∀ H1 locs1, zSt B D aD L xs k s H1 locs1 ls' LS st' M' → W p l e R s m args below meth c H1 locs1 (cells + zdc M M') (slots + zds M M') Q (F0 m pc' LS (st'.map (zenc B)))) : W p l e R s m args below meth c H locs cells slots Q (F0 m pc LS (st.map (zenc B))) :=
  zs_newa0 S.skip C hd ha3 h (by rw [zdc_skip]; exact hc) (by rw [zds_skip]; exact hs) (fun H1 locs1 g => by rw [zdc_skip, zds_skip]; exact kk H1 locs1 g)
theorem zs_newq (S : zSt B D aD L xs k s H locs ls LS st M) (C : zCtx B D aD L xs k p s m args meth c) {i : Nat} {q : zPos} (eq : zlk (zCl (zcl k)) i = some (0, q)) (hd : decode (zcode k) pc = .ok (.anewarray i, 3)) (h : znewa 4 (pc + 3) ls st (zskip M) = some (pc', ls', st', M')) (hc : cells + zdc M M' ≤ R.cells) (hs : slots + zds M M' ≤ R.slots)
    (kk : ∀ H1 locs1, zSt B D aD L xs k s H1 locs1 ls' LS st' M' → W p l e R s m args below meth c H1 locs1 (cells + zdc M M') (slots + zds M M') Q (F0 m pc' LS (st'.map (zenc B)))) : W p l e R s m args below meth c H locs cells slots Q (F0 m pc LS (st.map (zenc B))) :=
  zs_newq0 S.skip C eq hd h (by rw [zdc_skip]; exact hc) (by rw [zds_skip]; exact hs) (fun H1 locs1 g => by rw [zdc_skip, zds_skip]; exact kk H1 locs1 g)
end ZNEW
