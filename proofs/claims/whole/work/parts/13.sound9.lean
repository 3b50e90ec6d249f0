/-! ===== rows of rows ===== -/
theorem zmakes_nx : ∀ (n : Nat) (M : ZM), znx (zmakes n M) = znx M + n
  | 0, M => by simp [zmakes]
  | n + 1, M => by
    show znx (zmakes n (zmake M)) = _
    rw [zmakes_nx n, zmake_nx]
    omega
theorem zmakes_old : ∀ (n : Nat) (M : ZM) (a : Int), a ≠ -1 → a < znx M → ∀ j, zmakes n M a j = M a j
  | 0, M, a, h1, h2, j => rfl
  | n + 1, M, a, h1, h2, j => by
    show zmakes n (zmake M) a j = _
    rw [zmakes_old n _ a h1 (by rw [zmake_nx]; omega), zmake_old h1 (by omega)]
theorem zmakes_new : ∀ (n : Nat) (M : ZM) (a : Int), 3 ≤ znx M → znx M ≤ a → a < znx M + n → ∀ j, zmakes n M a j = zdef (zsh a).1 j
  | 0, M, a, h0, h1, h2, j => by omega
  | n + 1, M, a, h0, h1, h2, j => by
    show zmakes n (zmake M) a j = _
    by_cases q : a = znx M
    · subst q
      rw [zmakes_old n _ _ (by omega) (by rw [zmake_nx]; omega), zmake_new h0]
    · exact zmakes_new n _ a (by rw [zmake_nx]; omega) (by rw [zmake_nx]; omega) (by rw [zmake_nx]; omega) j
theorem zsum_rows {k : Int} : ∀ (n N : Nat), (∀ i : Nat, i < n → zsh ((N : Int) + 3 + i) = (1, k)) → zsum (N + n) = zsum N + n * k.toNat
  | 0, N, _ => by simp
  | n + 1, N, h => by
    show zsum (N + n) + zsz (((N + n : Nat) : Int) + 3) = _
    rw [zsum_rows n N (fun i hi => h i (by omega)), zsz_arr (n := k) (t := 1) (by have := h n (by omega); rw [show ((N + n : Nat) : Int) + 3 = (N : Int) + 3 + n by omega]; exact this) (by decide), Nat.add_mul, Nat.one_mul]
    omega
theorem zouter (c : ClassId) (N h0 : Nat) : ∀ i : Nat, Jvm.Free.Multi.outerC c N h0 i = arrV c N (fun j => if j < i then .ref (h0 + 1 + j) else .null)
  | 0 => by
    show ({ cls := c, slots := Array.replicate N .null, vm := .none } : Cell) = _
    rw [arrV_new]
    congr 1
  | i + 1 => by
    show (Jvm.Free.Multi.outerC c N h0 i).setSlot i (.ref (h0 + 1 + i)) = _
    rw [zouter c N h0 i, arrV_store]
    congr 1
    funext j
    unfold updV
    by_cases e : j = i
    · subst e
      rw [if_pos rfl, if_pos (Nat.lt_succ_self _)]
    · rw [if_neg e]
      by_cases h : j < i
      · show (if j < i then _ else _) = _
        rw [if_pos h, if_pos (by omega)]
      · show (if j < i then _ else _) = _
        rw [if_neg h, if_neg (by omega)]
section ZNEWM
variable {p : Program} {l : Launch} {e : Env} {R : Room} {s : State} {m : MethodId} {args : Array Value} {below : List Frame} {meth : Method} {c : Code} {H : Heap} {locs : List Loc} {cells slots : Nat} {Q : State → Prop}
variable {B : zBs} {D : va_G} {aD : Nat → ClassId} {L : Nat} {xs : Nat → Int32} {k : Nat} {pc pc' : Nat} {ls ls' : ZL} {st st' : ZS} {M M' : ZM} {LS : Array Slot}
theorem zs_newm0 (S : zSt B D aD L xs k s H locs ls LS st M) (C : zCtx B D aD L xs k p s m args meth c) {i : Nat} {q : zPos} (eq : zlk (zCl (zcl k)) i = some (100, q)) (hd : decode (zcode k) pc = .ok (.multianewarray i 2, 4)) (h : znewm (pc + 4) ls st M = some (pc', ls', st', M')) (hc : cells + zdc M M' ≤ R.cells) (hs : slots + zds M M' ≤ R.slots)
    (kk : ∀ H1 locs1, zSt B D aD L xs k s H1 locs1 ls' LS st' M' → W p l e R s m args below meth c H1 locs1 (cells + zdc M M') (slots + zds M M') Q (F0 m pc' LS (st'.map (zenc B)))) : W p l e R s m args below meth c H locs cells slots Q (F0 m pc LS (st.map (zenc B))) := by
  obtain ⟨hx, hb, -, hown, hts, -, hU⟩ := C
  have hK := hU.1
  have hOv := hU.2.2.2.2.2.2.2.2.2.2
  unfold znewm at h
  split at h
  · next w n r =>
    split at h
    · next hcc =>
      obtain ⟨rfl, rfl, rfl, rfl⟩ := zsome h
      obtain ⟨hsh, hn0, hn1, hw0, hw1, hrows⟩ := hcc
      have h3 := S.1.1
      have hn2 : ((n.toNat : Nat) : Int) = n := Int.toNat_of_nonneg hn0
      generalize hM' : (fun a j => if a = znx M ∧ 0 ≤ j ∧ j < n then znx M + 1 + j else zmakes n.toNat (zmake M) a j) = M' at *
      have hnx : znx M' = znx M + 1 + n := by
        show M' (-1) 0 = _
        rw [← hM']
        show (if (-1 : Int) = znx M ∧ _ then _ else _) = _
        rw [if_neg (fun q => by have := q.1; omega)]
        show znx (zmakes n.toNat (zmake M)) = _
        rw [zmakes_nx, zmake_nx, hn2]
      have hold : ∀ a : Int, a ≠ -1 → a < znx M → ∀ j, M' a j = M a j := fun a h1 h2 j => by
        rw [← hM']
        show (if a = znx M ∧ _ then _ else _) = _
        rw [if_neg (fun q => by have := q.1; omega), zmakes_old _ _ a h1 (by rw [zmake_nx]; omega), zmake_old h1 (by omega)]
      have hin : ∀ a : Int, znx M < a → a < znx M + 1 + n → ∀ j, M' a j = zdef (zsh a).1 j := fun a h1 h2 j => by
        rw [← hM']
        show (if a = znx M ∧ _ then _ else _) = _
        rw [if_neg (fun q => by have := q.1; omega), zmakes_new _ _ a (by rw [zmake_nx]; omega) (by rw [zmake_nx]; omega) (by rw [zmake_nx]; omega)]
      have hout : ∀ j : Int, M' (znx M) j = if 0 ≤ j ∧ j < n then znx M + 1 + j else -1 := fun j => by
        rw [← hM']
        show (if znx M = znx M ∧ 0 ≤ j ∧ j < n then _ else _) = _
        by_cases qj : 0 ≤ j ∧ j < n
        · rw [if_pos ⟨rfl, qj⟩, if_pos qj]
        · rw [if_neg (fun q => qj q.2), if_neg qj, zmakes_old _ _ _ (by omega) (by rw [zmake_nx]; omega), zmake_new h3, hsh]
          rfl
      have h223 : znx M ≠ 223 := zsh_gap (znq hsh (by decide))
      have hgap : 223 < znx M ∨ znx M + 1 + n ≤ 223 := by
        by_cases q1 : 223 < znx M
        · exact Or.inl q1
        · by_cases q2 : znx M + 1 + n ≤ 223
          · exact Or.inr q2
          · exfalso
            have := hrows (223 - (znx M + 1)).toNat (by omega)
            rw [show znx M + 1 + (((223 - (znx M + 1)).toNat : Nat) : Int) = 223 by omega] at this
            have e223 : zsh 223 = (99, 0) := by decide +kernel
            rw [e223] at this
            cases this
      have hix : zix (znx M') = zix (znx M) + (1 + n.toNat) := by
        rw [hnx]
        unfold zix
        split <;> split <;> omega
      have z2 : zdc M M' = 1 + n.toNat := by unfold zdc; rw [hix]; omega
      have z1 : zds M M' = n.toNat + n.toNat * w.toNat := by
        unfold zds zsl
        rw [hnx, show (znx M + 1 + n - 3).toNat = ((znx M - 3).toNat + 1) + n.toNat by omega, zsum_rows n.toNat _ (k := w) (fun i hi => by
          have := hrows i hi
          rw [show ((((znx M - 3).toNat + 1 : Nat) : Int) + 3 + i) = znx M + 1 + i by omega]
          exact this)]
        show zsum (znx M - 3).toNat + zsz ((((znx M - 3).toNat : Nat) : Int) + 3) + _ - _ = _
        rw [show (((znx M - 3).toNat : Nat) : Int) + 3 = znx M by omega, zsz_arr hsh (by decide)]
        omega
      rw [z1, z2] at kk
      rw [z1] at hs
      rw [z2] at hc
      have hni : zi32 n := ⟨by omega, by omega⟩
      have hwi : zi32 w := ⟨by omega, by omega⟩
      have hz : H.size = zad B (znx M) := zad_nx h3 S.1.2.1 (znq hsh (by decide))
      have hnn : ¬ Int32.ofInt n < 0 := by rw [← z0of, zlt32 hni z032]; omega
      have hww : ¬ Int32.ofInt w < 0 := by rw [← z0of, zlt32 hwi z032]; omega
      have hnc := znc hn0 hni
      have hwc := znc hw0 hwi
      show W p l e R s m args below meth c H locs cells slots Q (F0 m pc LS (.int (Int32.ofInt w) :: .int (Int32.ofInt n) :: r.map (zenc B)))
      intro T hT Xs
      obtain ⟨vm₁, cA, comp, -, fA, fC, hO, hI, X', step⟩ := Xs.multianewarray2F hx (ty := .long) hown (hts _ (zcl_at eq).1) hOv.2 (hts _ zx_arrJ) (g := F0 m pc LS (.int (Int32.ofInt w) :: .int (Int32.ofInt n) :: r.map (zenc B))) rfl (by rw [hb]; exact hd) rfl hnn hww (by rw [hnc]; omega) (by rw [hwc]; show w.toNat * 8 ≤ _; omega) (by rw [hwc]; omega) rfl rfl (by rw [hnc]; exact hc) (by rw [hnc, hwc]; exact hs)
      rw [hnc, hwc] at X' step
      generalize hF : Jvm.Free.Multi.fill (T.setVm vm₁) cA comp n.toNat w.toNat (defaultValue .long) n.toNat = F at X' step
      have hTh : (T.setVm vm₁).heap = H := hT
      obtain ⟨f1, f2, -, -⟩ := Jvm.Free.Multi.fill_facts (T.setVm vm₁) cA comp n.toNat w.toNat (defaultValue .long) n.toNat
      rw [hF, hTh] at f1 f2
      have fold : ∀ x : Nat, x < H.size → F.heap[x]? = H[x]? := fun x hx => by
        have := Jvm.Free.Multi.fill_old (T.setVm vm₁) cA comp n.toNat w.toNat (defaultValue .long) (a := x) (by rw [hTh]; exact hx) n.toNat
        rw [hF, hTh] at this
        exact this
      have frow : ∀ j : Nat, j < n.toNat → F.heap[H.size + 1 + j]? = some (Jvm.Free.Multi.innerC comp w.toNat (defaultValue .long)) := fun j hj => by
        have := Jvm.Free.Multi.fill_inner (T.setVm vm₁) cA comp n.toNat w.toNat (defaultValue .long) n.toNat j hj
        rw [hF, hTh] at this
        exact this
      have eA5 : aD 5 = cA := Option.some.inj (((hK.2 5 _ rfl).2 : s.vm.findClass _ = some (aD 5)).symm.trans fA)
      have eA1 : aD 1 = comp := Option.some.inj (((hK.2 1 _ rfl).2 : s.vm.findClass _ = some (aD 1)).symm.trans fC)
      have hP' : va_P D vwCl (zW B aD M') F.heap := by
        intro i q hq
        have hl : i < zix (znx M') := by
          have := (List.getElem?_eq_some_iff.mp hq).1
          rw [zW_len] at this
          exact this
        have hlt := zce_lt hl
        have h3i := zce_r i
        have g2 := zW_get (B := B) (aD := aD) (M := M') (a := zce i) h3i.1 hlt h3i.2
        rw [zix_ce] at g2
        cases g2.symm.trans hq
        generalize hce : zce i = ci at *
        by_cases e1 : ci < znx M
        · have g1 := zW_get (B := B) (aD := aD) (M := M) (a := ci) h3i.1 e1 h3i.2
          rw [← hce, zix_ce, hce] at g1
          have h := S.1.2.2.1 i _ g1
          rw [zent_congr (hold _ (by omega) e1)]
          exact h.kept (fold _ h.lt)
        · by_cases e2 : ci = znx M
          · rw [e2]
            unfold zent
            rw [if_neg (znq hsh (by decide)), if_neg (znq hsh (by decide)), if_neg (znq hsh (by decide)), if_neg (znq hsh (by decide)), if_neg (znq hsh (by decide)), if_pos (by rw [hsh])]
            show F.heap[zad B (znx M)]? = some (vp_cell _ _)
            rw [← hz, f2, vp_cell_q, eA5, hsh, zouter]
            congr 2
            funext j
            rw [zro_rf, hout j]
            by_cases qj : j < n.toNat
            · rw [if_pos qj, if_pos ⟨by omega, by omega⟩, zrv_ref (by omega)]
              have ez : zad B (znx M + 1 + (j : Int)) = H.size + 1 + j := by
                rw [hz]
                unfold zad
                rw [if_neg (by omega), if_neg (by omega), if_neg (by omega), if_neg (by omega), if_neg (by omega), if_neg (by omega)]
                unfold zix
                split <;> split <;> omega
              rw [ez]
            · rw [if_neg qj, if_neg (fun q => qj (by omega))]
              rfl
          · have e3 : ci < znx M + 1 + n := by omega
            have hsi := hrows (ci - (znx M + 1)).toNat (by omega)
            rw [show znx M + 1 + (((ci - (znx M + 1)).toNat : Nat) : Int) = ci by omega] at hsi
            have ea : zad B ci = H.size + 1 + (ci - (znx M + 1)).toNat := by
              rw [hz]
              unfold zad
              rw [if_neg (by omega), if_neg (by omega), if_neg (by omega), if_neg (by omega), if_neg (by omega), if_neg (by omega)]
              unfold zix
              split <;> split <;> omega
            unfold zent
            rw [if_neg (znq hsi (by decide)), if_pos (by rw [hsi])]
            show F.heap[zad B ci]? = some (vp_cell _ _)
            rw [ea, frow _ (by omega), vp_cell_l, eA1, hsi]
            show some ({ cls := comp, slots := Array.replicate w.toNat (defaultValue .long), vm := .none } : Cell) = _
            rw [arrV_new]
            congr 2
            funext j
            rw [hin _ (by omega) e3, hsi]
            rfl
      have hS2 : zSt B D aD L xs k s F.heap locs ls LS (zA (znx M) :: r) M' := by
        refine ⟨⟨by omega, fun _ => by rw [f1, S.1.2.1 (zsh_lt h3 (znq hsh (by decide))), hix]; omega, hP', ?_⟩, ?_, ⟨by rw [f1]; have := S.2.2.1.1; omega, fun x g1 g2 => (fold x (Nat.lt_of_lt_of_le g1 S.2.2.1.1)).trans (S.2.2.1.2.1 x g1 g2), S.2.2.1.2.2⟩, S.2.2.2.1.mono (by omega), fun v hv => ?_⟩
        · intro a g1 g2 j g4 g5
          by_cases e1 : a < znx M
          · rw [hold a (by omega) e1]
            exact zin_mono (S.1.2.2.2 a g1 e1 j g4 g5) (by omega)
          · by_cases e2 : a = znx M
            · subst e2
              rw [hout j, zpk_at (t := 5) (by rw [hsh]) (by decide)]
              show -1 ≤ _ ∧ _ < znx M'
              split <;> omega
            · rw [hin a (by omega) (by omega)]
              have hsi := hrows (a - (znx M + 1)).toNat (by omega)
              rw [show znx M + 1 + (((a - (znx M + 1)).toNat : Nat) : Int) = a by omega] at hsi
              exact zdef_in (by omega) a j (Or.inl (by rw [hsi]; exact (by decide : (1 : Nat) ≤ 5)))
        · obtain ⟨s1, s2, s3, s4⟩ := S.2.1
          exact ⟨by rw [hold 0 (by decide) (by omega)]; exact s1, fun j hj => by rw [hold 0 (by decide) (by omega)]; exact s2 j hj, fun j hj => by rw [hold 1 (by decide) (by omega)]; exact s3 j hj, fun j hj => by rw [hold 2 (by decide) (by omega)]; exact s4 j hj⟩
        · rcases List.mem_cons.mp hv with rfl | hv
          · exact ⟨by omega, by omega⟩
          · exact (S.2.2.2.2 v (List.mem_cons_of_mem _ (List.mem_cons_of_mem _ hv))).mono (by omega)
      rw [Nat.add_assoc, Nat.add_assoc] at X'
      obtain ⟨t, a1, b1⟩ := kk F.heap locs hS2 F rfl X'
      refine ⟨t, step t ?_, b1⟩
      have e9 : (zA (znx M) :: r).map (zenc B) = .ref T.heap.size :: r.map (zenc B) := by
        show zrv B (znx M) :: _ = _
        rw [zrv_ref (by omega), hT, hz]
      rw [e9] at a1
      exact a1
    · cases h
  · cases h
theorem zs_newm (S : zSt B D aD L xs k s H locs ls LS st M) (C : zCtx B D aD L xs k p s m args meth c) {i : Nat} {q : zPos} (eq : zlk (zCl (zcl k)) i = some (100, q)) (hd : decode (zcode k) pc = .ok (.multianewarray i 2, 4)) (h : znewm (pc + 4) ls st (zskip M) = some (pc', ls', st', M')) (hc : cells + zdc M M' ≤ R.cells) (hs : slots + zds M M' ≤ R.slots)
    (kk : ∀ H1 locs1, zSt B D aD L xs k s H1 locs1 ls' LS st' M' → W p l e R s m args below meth c H1 locs1 (cells + zdc M M') (slots + zds M M') Q (F0 m pc' LS (st'.map (zenc B)))) : W p l e R s m args below meth c H locs cells slots Q (F0 m pc LS (st.map (zenc B))) :=
  zs_newm0 S.skip C eq hd h (by rw [zdc_skip]; exact hc) (by rw [zds_skip]; exact hs) (fun H1 locs1 g => by rw [zdc_skip, zds_skip]; exact kk H1 locs1 g)
end ZNEWM
