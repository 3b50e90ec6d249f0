/-! ===== one step: fields, statics, constants, the stack ===== -/
theorem zvw {ci : Nat} (h : ci < 9) : vwCl[ci]? = some (zcn ci, zTX ci, zNf ci) := by
  match ci, h with
  | 0, _ => rfl
  | 1, _ => rfl
  | 2, _ => rfl
  | 3, _ => rfl
  | 4, _ => rfl
  | 5, _ => rfl
  | 6, _ => rfl
  | 7, _ => rfl
  | 8, _ => rfl
  | n + 9, h => exact absurd h (by omega)
theorem zcw_in {ci : Nat} (h : ci < 9) : ∀ w ∈ u_ws (zcn ci) (zTX ci) (zNf ci), w ∈ zTs := by
  match ci, h with
  | 0, _ => exact zCw_in_0
  | 1, _ => exact zCw_in_1
  | 2, _ => exact zCw_in_2
  | 3, _ => exact zCw_in_3
  | 4, _ => exact zCw_in_4
  | 5, _ => exact zCw_in_5
  | 6, _ => exact zCw_in_6
  | 7, _ => exact zCw_in_7
  | 8, _ => exact zCw_in_8
  | n + 9, h => exact absurd h (by omega)
theorem zci_in {ci : Nat} (h : ci < 9) : Cond.instantiable (zcn ci) (zNf ci) ∈ zTs := by
  match ci, h with
  | 0, _ => exact zCi_in_0
  | 1, _ => exact zCi_in_1
  | 2, _ => exact zCi_in_2
  | 3, _ => exact zCi_in_3
  | 4, _ => exact zCi_in_4
  | 5, _ => exact zCi_in_5
  | 6, _ => exact zCi_in_6
  | 7, _ => exact zCi_in_7
  | 8, _ => exact zCi_in_8
  | n + 9, h => exact absurd h (by omega)
theorem zty_ok {ci : Nat} (h : ci < 9) : ∀ j, j < zNf ci → parseFieldDescriptor (zTX ci j).2.2.1 = some (ztyX ci j) := by
  match ci, h with
  | 0, _ => exact tyX0_ok
  | 1, _ => exact tyX1_ok
  | 2, _ => exact tyX2_ok
  | 3, _ => exact tyX3_ok
  | 4, _ => exact tyX4_ok
  | 5, _ => exact tyX5_ok
  | 6, _ => exact tyX6_ok
  | 7, _ => exact tyX7_ok
  | 8, _ => exact tyX8_ok
  | n + 9, h => exact absurd h (by omega)
theorem znm {ci : Nat} (h : ci < 9) : ∀ a, a < zNf ci → ∀ b, b < zNf ci → a ≠ b → (zTX ci a).2.1 ≠ (zTX ci b).2.1 := by
  match ci, h with
  | 0, _ => exact nmX0
  | 1, _ => exact nmX1
  | 2, _ => exact nmX2
  | 3, _ => exact nmX3
  | 4, _ => exact nmX4
  | 5, _ => exact nmX5
  | 6, _ => exact nmX6
  | 7, _ => exact nmX7
  | 8, _ => exact nmX8
  | n + 9, h => exact absurd h (by omega)
theorem zown_ok : ∀ ci, ci < 9 → ∀ j, j < zNf ci → (zTX ci j).1 = zcn ci := by decide +kernel
theorem zty_nl : ∀ ci, ci < 9 → ∀ j, j < zNf ci → (ztyX ci j = .int ∨ ztyX ci j = .boolean ∨ (∃ n, ztyX ci j = .object n) ∨ ∃ t, ztyX ci j = .array t) := by
  intro ci h j hj
  have key : ∀ ci, ci < 9 → ∀ j, j < zNf ci → (match ztyX ci j with | .int => true | .boolean => true | .object _ => true | .array _ => true | _ => false) = true := by decide +kernel
  have h1 := key ci h j hj
  cases e : ztyX ci j <;> rw [e] at h1 <;> first | exact Or.inl rfl | exact Or.inr (Or.inl rfl) | exact Or.inr (Or.inr (Or.inl ⟨_, rfl⟩)) | exact Or.inr (Or.inr (Or.inr ⟨_, rfl⟩)) | cases h1
theorem zent_obj {B : zBs} {aD : Nat → ClassId} {M : ZM} {a : Int} {ci : Nat} (h : zsh a = (10 + ci, 0)) : zent B aD M a = .inr (ci, (List.range (zNf ci)).map (fun j => zencF B (ztyX ci j) (M a j))) := by
  unfold zent
  rw [h]
  simp only [show (10 + ci = 0) = False from by simp, show ¬ 10 + ci = 0 from by omega, show ¬ 10 + ci = 1 from by omega, show ¬ 10 + ci = 2 from by omega, show ¬ 10 + ci = 3 from by omega, show ¬ 10 + ci = 4 from by omega, show ¬ 10 + ci = 5 from by omega, if_false, Nat.add_sub_cancel_left]
theorem ztag_enc {B : zBs} {ty : FieldType} {x : Int} {v : ZV} (h : ztag ty x = some v) : zencF B ty x = zenc B v := by
  unfold ztag at h
  split at h
  · cases h; rfl
  · cases h; rfl
  · cases h; rfl
  · cases h; rfl
  · cases h
theorem zpk_obj {a : Int} {ci j : Nat} (h : zsh a = (10 + ci, 0)) : zpk a j = match ztyX ci j with
  | .object _ => 4
  | .array _ => 4
  | .boolean => 3
  | _ => 0 := by
  unfold zpk
  rw [h]
  simp only [show ¬ 10 + ci < 4 from by omega, show ¬ 10 + ci < 10 from by omega, if_false, Nat.add_sub_cancel_left, Int.toNat_natCast]
  cases ztyX ci j <;> rfl
theorem zcnt_obj {a : Int} {ci : Nat} (h : zsh a = (10 + ci, 0)) : zcnt a = (zNf ci : Nat) := by
  unfold zcnt
  rw [h]
  simp only [show ¬ 10 + ci < 10 from by omega, if_false, Nat.add_sub_cancel_left]
theorem ztag_ok {a : Int} {ci j : Nat} {n x : Int} {v : ZV} (h : zsh a = (10 + ci, 0)) (hz : zin n (zpk a j) x) (ht : ztag (ztyX ci j) x = some v) : zokV n v := by
  rw [zpk_obj h] at hz
  unfold ztag at ht
  split at ht
  · next e => rw [e] at hz; cases ht; exact hz
  · next e =>
    rw [e] at hz
    cases ht
    have hz : 0 ≤ x ∧ x ≤ 1 := hz
    exact ⟨by omega, by omega⟩
  · next e =>
    rw [e] at hz
    cases ht
    have hz : -1 ≤ x ∧ x < n := hz
    exact ⟨by omega, hz.2⟩
  · next e =>
    rw [e] at hz
    cases ht
    have hz : -1 ≤ x ∧ x < n := hz
    exact ⟨by omega, hz.2⟩
  · cases ht
theorem zfit_ok {a : Int} {ci j : Nat} {n x : Int} {v : ZV} (h : zsh a = (10 + ci, 0)) (hv : zokV n v) (ht : zfit (ztyX ci j) v = some x) : zin n (zpk a j) x := by
  rw [zpk_obj h]
  unfold zfit at ht
  split at ht
  · next e => rw [e]; cases ht; exact hv
  · next e =>
    rw [e]
    split at ht
    · next q => cases ht; exact q
    · cases ht
  · next e =>
    rw [e]
    split at ht
    · next q =>
      cases ht
      have hv : -3 ≤ x ∧ x < n := hv
      exact (⟨by omega, hv.2⟩ : -1 ≤ x ∧ x < n)
    · cases ht
  · next e =>
    rw [e]
    split at ht
    · next q =>
      cases ht
      have hv : -3 ≤ x ∧ x < n := hv
      exact (⟨by omega, hv.2⟩ : -1 ≤ x ∧ x < n)
    · cases ht
  · cases ht
theorem zfit_enc {B : zBs} {ty : FieldType} {x n : Int} {v : ZV} (ht : zfit ty v = some x) (hv : zokV n v) : zencF B ty x = zenc B v ∧ narrow ty (zenc B v) = zenc B v ∧ fits ty (zenc B v) = true := by
  unfold zfit at ht
  split at ht
  · cases ht; exact ⟨rfl, rfl, rfl⟩
  · next z =>
    split at ht
    · next q =>
      have hz := Option.some.inj ht
      subst hz
      refine ⟨rfl, znar_z q, ?_⟩
      have h01 : z = 0 ∨ z = 1 := by omega
      rcases h01 with rfl | rfl <;> rfl
    · cases ht
  · next z =>
    split at ht
    · next q =>
      have hz := Option.some.inj ht
      subst hz
      refine ⟨rfl, ?_, ?_⟩
      · show narrow _ (zrv B z) = zrv B z
        rw [zrv_ref q]; rfl
      · show fits _ (zrv B z) = true
        rw [zrv_ref q]; rfl
    · cases ht
  · next z =>
    split at ht
    · next q =>
      have hz := Option.some.inj ht
      subst hz
      refine ⟨rfl, ?_, ?_⟩
      · show narrow _ (zrv B z) = zrv B z
        rw [zrv_ref q]; rfl
      · show fits _ (zrv B z) = true
        rw [zrv_ref q]; rfl
    · cases ht
  · cases ht
section ZFLD
variable {p : Program} {l : Launch} {e : Env} {R : Room} {s : State} {m : MethodId} {args : Array Value} {below : List Frame} {meth : Method} {c : Code} {H : Heap} {locs : List Loc} {cells slots : Nat} {Q : State → Prop}
variable {B : zBs} {D : va_G} {aD : Nat → ClassId} {L : Nat} {xs : Nat → Int32} {k : Nat} {pc pc' : Nat} {ls ls' : ZL} {st st' : ZS} {M M' : ZM} {LS : Array Slot}
theorem zfl_at {n ci j : Nat} {q : zPos} (hc : zcl k ≠ 9) (h : zlk (zFl (zcl k)) n = some (ci, j, q)) : Cond.fieldLink (zcn (zcl k)) n (zTX ci j).1 (zTX ci j).2.1 (zTX ci j).2.2.1 ∈ zTs ∧ j < zNf ci ∧ ci < 9 := by
  have h1 := zFl_ok (zcl k) hc _ (zlk_mem _ _ _ h)
  unfold zFlOk at h1
  simp only [Bool.and_eq_true] at h1
  exact ⟨zhas_in h1.1.1, Nat.lt_of_lt_of_le (Nat.lt_succ_self _) (Nat.le_of_ble_eq_true h1.1.2), Nat.lt_of_lt_of_le (Nat.lt_succ_self _) (Nat.le_of_ble_eq_true h1.2)⟩
theorem zs_getf (S : zSt B D aD L xs k s H locs ls LS st M) (C : zCtx B D aD L xs k p s m args meth c) {n : Nat} (hd : decode (zcode k) pc = .ok (.getfield n, 3)) (h : zgetf (zlk (zFl (zcl k)) n) (pc + 3) ls st M = some (pc', ls', st', M'))
    (kk : ∀ LS', zSt B D aD L xs k s H locs ls' LS' st' M' → M' = M → W p l e R s m args below meth c H locs cells slots Q (F0 m pc' LS' (st'.map (zenc B)))) : W p l e R s m args below meth c H locs cells slots Q (F0 m pc LS (st.map (zenc B))) := by
  obtain ⟨hx, hb, -, hown, hts, ⟨-, hgh⟩, hK, -⟩ := C
  unfold zgetf at h
  split at h
  · next ci j q a r eq =>
    split at h
    · next hsh =>
      split at h
      · next v hv =>
        obtain ⟨rfl, rfl, rfl, rfl⟩ := zsome h
        obtain ⟨hlk, hj, hci⟩ := zfl_at (zgh_c hgh) eq
        have ha : -3 ≤ a ∧ a < znx M := S.2.2.2.2 (.inr (.inr a)) List.mem_cons_self
        have h3 : 3 ≤ a := zsh_low (by rw [hsh]; show 10 + ci ≠ 20; omega) (by rw [hsh]; show 10 + ci ≠ 21; omega) (by rw [hsh]; show 10 + ci ≠ 99; omega)
        have hgp : a ≠ 223 := zsh_gap (by rw [hsh]; show 10 + ci ≠ 99; omega)
        have hg := zW_get (B := B) (aD := aD) h3 ha.2 hgp
        rw [zent_obj hsh] at hg
        show W p l e R s m args below meth c H locs cells slots Q (F0 m pc LS (zrv B a :: r.map (zenc B)))
        rw [zrv_ref (by omega)]
        refine va_get hx hb hts (zcw_in hci) hown hK S.1.2.2.1 _ hg (zvw hci) j hj (hts _ hlk) (fun _ h => h) (v := zenc B v) ?_ hd ?_
        · rw [List.getElem?_map, List.getElem?_range hj]
          show some (zencF B (ztyX ci j) (M a j)) = _
          rw [ztag_enc hv]
        · have hz := S.1.2.2.2 a h3 ha.2 (j : Int) (by omega) (by rw [zcnt_obj hsh]; omega)
          exact kk LS (S.to fun w hw => (List.mem_cons.mp hw).elim (fun e => e ▸ ztag_ok hsh hz hv) (fun h => S.2.2.2.2 w (List.mem_cons_of_mem _ h))) rfl
      · cases h
    · cases h
  · cases h
theorem zobj_set {B : zBs} {D : va_G} {aD : Nat → ClassId} {M : ZM} {a x : Int} {ci j : Nat} {v : Value} {cell : Cell} {H1 : Heap} (hci : ci < 9) (hsh : zsh a = (10 + ci, 0)) (hj : j < zNf ci) (hv : zencF B (ztyX ci j) x = v)
    (q2 : cell.cls = D.1 ci) (q3 : cell.vm = .none) (q4 : ∀ i, i < zNf ci → cell.slots[D.2 ci i]? = some (vp_V ((List.range (zNf ci)).map (fun j => zencF B (ztyX ci j) (M a j))) i)) (hap : ∀ x y, x < zNf ci → y < zNf ci → x ≠ y → (D.2 ci) x ≠ (D.2 ci) y)
    (e1 : H1[zad B a]? = some (cell.setSlot (D.2 ci j) v)) : va_at D vwCl (zad B a, zent B aD (zset M a j x) a) H1 := by
  rw [zent_obj hsh]
  refine ⟨(zcn ci, zTX ci, zNf ci), zvw hci, t_OB.to (V := updV (vp_V ((List.range (zNf ci)).map (fun j => zencF B (ztyX ci j) (M a j)))) j v) ⟨_, e1, q2, q3, t_set q4 hap hj v⟩ (fun i hi => ?_)⟩
  unfold updV vp_V
  rw [List.getD_eq_getElem?_getD, List.getD_eq_getElem?_getD, List.getElem?_map, List.getElem?_map, List.getElem?_range hi]
  show (if i = j then v else zencF B (ztyX ci i) (M a i)) = zencF B (ztyX ci i) (zset M a j x a i)
  by_cases q : i = j
  · subst q
    rw [if_pos rfl, zset_eq, hv]
  · rw [if_neg q, zset_nj (by omega)]
theorem zs_putf (S : zSt B D aD L xs k s H locs ls LS st M) (C : zCtx B D aD L xs k p s m args meth c) {n : Nat} (hd : decode (zcode k) pc = .ok (.putfield n, 3)) (h : zputf k (zlk (zFl (zcl k)) n) (pc + 3) ls st M = some (pc', ls', st', M'))
    (kk : ∀ H1 locs1, zSt B D aD L xs k s H1 locs1 ls' LS st' M' → znx M' = znx M → W p l e R s m args below meth c H1 locs1 cells slots Q (F0 m pc' LS (st'.map (zenc B)))) : W p l e R s m args below meth c H locs cells slots Q (F0 m pc LS (st.map (zenc B))) := by
  obtain ⟨hx, hb, -, hown, hts, ⟨hinit, hgh⟩, hK, -⟩ := C
  unfold zputf at h
  split at h
  · next ci j q v a r eq =>
    split at h
    · next hsh =>
      obtain ⟨hsh, hfin⟩ := hsh
      split at h
      · next x hv =>
        obtain ⟨rfl, rfl, rfl, rfl⟩ := zsome h
        obtain ⟨hlk, hj, hci⟩ := zfl_at (zgh_c hgh) eq
        have hvo : zokV (znx M) v := S.2.2.2.2 v List.mem_cons_self
        have ha : -3 ≤ a ∧ a < znx M := S.2.2.2.2 (.inr (.inr a)) (List.mem_cons_of_mem _ List.mem_cons_self)
        have h3 : 3 ≤ a := zsh_low (by rw [hsh]; show 10 + ci ≠ 20; omega) (by rw [hsh]; show 10 + ci ≠ 21; omega) (by rw [hsh]; show 10 + ci ≠ 99; omega)
        have hgp : a ≠ 223 := zsh_gap (by rw [hsh]; show 10 + ci ≠ 99; omega)
        have hg := zW_get (B := B) (aD := aD) h3 ha.2 hgp
        rw [zent_obj hsh] at hg
        show W p l e R s m args below meth c H locs cells slots Q (F0 m pc LS (zenc B v :: zrv B a :: r.map (zenc B)))
        rw [zrv_ref (by omega)]
        obtain ⟨f1, f2, f3⟩ := zfit_enc (B := B) hv hvo
        have hap := va_apart (own := zcn (zcl k)) hts (zcw_in hci) (ztyX ci) (zty_ok hci) (znm hci) hK (zvw hci)
        obtain ⟨r', h1, cell, q1, q2, q3, q4⟩ := S.1.2.2.1 _ _ hg
        have hr : r' = (zcn ci, zTX ci, zNf ci) := Option.some.inj (h1.symm.trans (zvw hci))
        subst hr
        obtain ⟨hSl, hfc, kC, hkC, hkind⟩ := hK.1 ci _ (zvw hci)
        obtain ⟨cf, kf, fi, f, hi, hsl⟩ := hSl j hj
        have hlays := u_lays hts (zcw_in hci) hj
        have hst := (u_facts hfc hkC hlays hi).1
        have h6 := u_fits hfc hkC hkind hlays hi (zty_ok hci j hj) f2 f3
        have hf : hasFlag f.accessFlags Acc.final = false ∨ (m.cls = cf ∧ meth.name = "<init>") := by
          have hlay := hts _ (zcw_in hci _ (u_in_lay hj))
          unfold u_lay at hlay
          unfold zfin at hfin
          by_cases hF : (zTX ci j).2.2.2 = true
          · rw [if_pos hF] at hlay
            rw [hF] at hfin
            simp only [Bool.not_true, Bool.false_or, Bool.and_eq_true] at hfin
            have e1 := Nat.eq_of_beq_eq_true hfin.1
            have e2 := Nat.eq_of_beq_eq_true hfin.2
            refine Or.inr ⟨?_, hinit e1⟩
            obtain ⟨_, _, c', _, _, _, -, -, hf', -, -, -, hown2, -⟩ := Cond.laysFinal_spec hlay
            have e3 : c' = cf := by have := hi.symm.trans hf'; simp at this; exact this.1.symm
            rw [zown_ok ci hci j hj, ← e2] at hown2
            rw [← e3]
            exact Option.some.inj (hown.symm.trans hown2)
          · rw [if_neg hF] at hlay
            exact Or.inl (u_store hfc hkC hkind hlay hi (zty_ok hci j hj) f2 f3).1
        refine W.putf hx hb hown (hts _ hlk) hi hst hf q1 (by rw [q3]; intro z; cases z) (by rw [hsl]; exact k2_hasslot (q4 j hj)) h6.1 (by rw [q2, q3]; exact h6.2) rfl rfl hd ?_
        have hlt : zad B a < H.size := (Array.getElem?_eq_some_iff.mp q1).1
        refine kk _ _ (S.set h3 ha.2 hgp (zfit_ok hsh hvo hv) (fun w hw => List.mem_cons_of_mem _ (List.mem_cons_of_mem _ hw)) (zobj_set hci hsh hj f1 q2 q3 q4 hap ?_) (by simp) (fun q hq => by simp [Array.getElem?_setIfInBounds, Ne.symm hq]) (fun q hq => (List.mem_append.mp hq).imp id (fun h => by rw [List.mem_singleton.mp h]))) (znx_set h3)
        rw [← hsl]
        simp [Array.getElem?_setIfInBounds, hlt]
      · cases h
    · cases h
  · cases h
theorem zs_gets (S : zSt B D aD L xs k s H locs ls LS st M) (C : zCtx B D aD L xs k p s m args meth c) {n : Nat} (hd : decode (zcode k) pc = .ok (.getstatic n, 3)) (h : (match zlk (zSl (zcl k)) n with | some (w, _) => some (pc + 3, ls, zA (w : Int) :: st, M) | none => none) = some (pc', ls', st', M'))
    (kk : ∀ LS', zSt B D aD L xs k s H locs ls' LS' st' M' → M' = M → W p l e R s m args below meth c H locs cells slots Q (F0 m pc' LS' (st'.map (zenc B)))) : W p l e R s m args below meth c H locs cells slots Q (F0 m pc LS (st.map (zenc B))) := by
  obtain ⟨hx, hb, -, hown, hts, ⟨-, hgh⟩, hK, -, -, -, -, hZ1, hZ2, -, -, hN, -⟩ := C
  split at h
  · next w nest eq =>
    obtain ⟨rfl, rfl, rfl, rfl⟩ := zsome h
    have h1 := zSl_ok (zcl k) (zgh_c hgh) _ (zlk_mem _ _ _ eq)
    unfold zSlOk at h1
    simp only [Bool.and_eq_true, Bool.or_eq_true] at h1
    obtain ⟨h2, h3⟩ := h1
    have h3 : w = 1 ∨ w = 2 := h3.imp Nat.eq_of_beq_eq_true Nat.eq_of_beq_eq_true
    have go : W p l e R s m args below meth c H locs cells slots Q (F0 m (pc + 3) LS (zrv B (w : Int) :: st.map (zenc B))) :=
      kk LS (S.to fun v hv => (List.mem_cons.mp hv).elim (fun e => e ▸ (show -3 ≤ (w : Int) ∧ (w : Int) < znx M from ⟨by omega, by have := S.1.1; omega⟩)) (S.2.2.2.2 v)) rfl
    have hZ : va_Z "SkippingKeys" (zSn w) "[I" (zrv B (w : Int)) (zAq B) s s.heap := by
      rcases h3 with rfl | rfl
      · rw [zrv_ref (by decide)]; exact hZ1
      · rw [zrv_ref (by decide)]; exact hZ2
    cases hn : Nat.beq nest.1 0 with
    | true =>
      rw [hn] at h2
      exact va_gets hx hb hZ S.2.2.1 hown (hts _ (zhas_in h2)) (fun _ h => h) hd go
    | false =>
      rw [hn] at h2
      exact va_getsN hx hb hZ S.2.2.1 hown (va_Nw.use rfl (hN _ (of_decide_eq_true h2))) (fun _ h => h) hd go
  · cases h
theorem zkl_at {n w : Nat} {x : Int} {q : zPos} (hc : zcl k ≠ 9) (h : zlk (zKl (zcl k)) n = some (w, x, q)) : (w = 0 → Cond.constant (zcn (zcl k)) n (Int32.ofInt x) ∈ zTs ∧ zi32 x) ∧ (w = 1 → Cond.constantLong (zcn (zcl k)) n (Int64.ofInt x) ∈ zTs ∧ zi64 x) ∧ (w = 2 → zcl k = 10 ∧ ((n = 52 ∧ x = -2) ∨ (n = 60 ∧ x = -3))) := by
  have h1 := zKl_ok (zcl k) hc _ (zlk_mem _ _ _ h)
  unfold zKlOk at h1
  refine ⟨fun hw => ?_, fun hw => ?_, fun hw => ?_⟩
  · subst hw
    have h2 : (zhas q (.constant (zcn (zcl k)) n (Int32.ofInt x)) && decide (-2147483648 ≤ x ∧ x < 2147483648)) = true := h1
    rw [Bool.and_eq_true] at h2
    have h3 : -2147483648 ≤ x ∧ x < 2147483648 := of_decide_eq_true h2.2
    exact ⟨zhas_in h2.1, h3⟩
  · subst hw
    have h2 : (zhas q (.constantLong (zcn (zcl k)) n (Int64.ofInt x)) && decide (-9223372036854775808 ≤ x ∧ x < 9223372036854775808)) = true := h1
    rw [Bool.and_eq_true] at h2
    have h3 : -9223372036854775808 ≤ x ∧ x < 9223372036854775808 := of_decide_eq_true h2.2
    exact ⟨zhas_in h2.1, h3⟩
  · subst hw
    exact of_decide_eq_true (show decide (zcl k = 10 ∧ ((n = 52 ∧ x = -2) ∨ (n = 60 ∧ x = -3))) = true from h1)
theorem zs_ld (S : zSt B D aD L xs k s H locs ls LS st M) {i n : Nat} {v : ZV} (hv : zget ls i = some v) (h : some (pc + n, ls, v :: st, M) = some (pc', ls', st', M'))
    (row : LS[i]? = some (.val (zenc B v)) → W p l e R s m args below meth c H locs cells slots Q (F0 m (pc + n) LS (zenc B v :: st.map (zenc B))) → W p l e R s m args below meth c H locs cells slots Q (F0 m pc LS (st.map (zenc B))))
    (kk : ∀ LS', zSt B D aD L xs k s H locs ls' LS' st' M' → M' = M → W p l e R s m args below meth c H locs cells slots Q (F0 m pc' LS' (st'.map (zenc B)))) : W p l e R s m args below meth c H locs cells slots Q (F0 m pc LS (st.map (zenc B))) := by
  obtain ⟨h1, h2⟩ := S.2.2.2.1.2.2.2 i v hv
  exact zs_kon S h2 h (row h1) kk
theorem zs_stv (S : zSt B D aD L xs k s H locs ls LS st M) {i n : Nat} {v : ZV} {r : ZS} (hst : st = v :: r) (h : some (pc + n, zput ls i v, r, M) = some (pc', ls', st', M')) (hi : i < ls.length) (h2 : z2 v = false)
    (row : ∀ lv' : List (Nat × Value), lv_has LS (zmaxL k) (zll B ls) → i < zmaxL k → (i, zenc B v) :: (zll B ls).filter (fun q => !(q.1 == i) && !(q.1 + 1 == i && q.2.category == 2)) = lv' →
      (∀ LS' : Array Slot, lv_has LS' (zmaxL k) lv' → W p l e R s m args below meth c H locs cells slots Q (F0 m (pc + n) LS' (r.map (zenc B)))) → W p l e R s m args below meth c H locs cells slots Q (F0 m pc LS (zenc B v :: r.map (zenc B))))
    (kk : ∀ LS', zSt B D aD L xs k s H locs ls' LS' st' M' → M' = M → W p l e R s m args below meth c H locs cells slots Q (F0 m pc' LS' (st'.map (zenc B)))) : W p l e R s m args below meth c H locs cells slots Q (F0 m pc LS (st.map (zenc B))) := by
  subst hst
  obtain ⟨rfl, rfl, rfl, rfl⟩ := zsome h
  have hv : zokV (znx M) v := S.2.2.2.2 v List.mem_cons_self
  refine row _ S.2.2.2.1.has (by rw [← S.2.2.2.1.1]; exact hi) rfl (fun LS' g => ?_)
  exact kk LS' ⟨S.1, S.2.1, S.2.2.1, S.2.2.2.1.put1 hv h2 g, fun w hw => S.2.2.2.2 w (List.mem_cons_of_mem _ hw)⟩ rfl
end ZFLD
