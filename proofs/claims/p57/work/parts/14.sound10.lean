/-! ===== one step, whole ===== -/
section ZSTEPS
variable {p : Program} {l : Launch} {e : Env} {R : Room} {s : State} {m : MethodId} {args : Array Value} {below : List Frame} {meth : Method} {c : Code} {H : Heap} {locs : List Loc} {cells slots : Nat} {Q : State → Prop}
variable {B : zBs} {D : va_G} {aD : Nat → ClassId} {L : Nat} {xs : Nat → Int32} {k : Nat} {pc pc' : Nat} {ls ls' : ZL} {st st' : ZS} {M M' : ZM} {LS : Array Slot}
theorem zs_stI (S : zSt B D aD L xs k s H locs ls LS st M) {i n : Nat} (h : zstI i (pc + n) ls st M = some (pc', ls', st', M'))
    (row : ∀ (x : Int32) (rest : List Value) (lv' : List (Nat × Value)), lv_has LS (zmaxL k) (zll B ls) → i < zmaxL k → (i, Value.int x) :: (zll B ls).filter (fun q => !(q.1 == i) && !(q.1 + 1 == i && q.2.category == 2)) = lv' →
      (∀ LS' : Array Slot, lv_has LS' (zmaxL k) lv' → W p l e R s m args below meth c H locs cells slots Q (F0 m (pc + n) LS' rest)) → W p l e R s m args below meth c H locs cells slots Q (F0 m pc LS (.int x :: rest)))
    (kk : ∀ LS', zSt B D aD L xs k s H locs ls' LS' st' M' → M' = M → W p l e R s m args below meth c H locs cells slots Q (F0 m pc' LS' (st'.map (zenc B)))) : W p l e R s m args below meth c H locs cells slots Q (F0 m pc LS (st.map (zenc B))) := by
  unfold zstI at h
  split at h
  · next x r =>
    split at h
    · next hi => exact zs_stv S rfl h hi rfl (fun lv' a b c' d => row (Int32.ofInt x) _ lv' a b c' d) kk
    · cases h
  · cases h
theorem zs_stA (S : zSt B D aD L xs k s H locs ls LS st M) {i n : Nat} (h : zstA i (pc + n) ls st M = some (pc', ls', st', M'))
    (row : ∀ (x : Nat) (rest : List Value) (lv' : List (Nat × Value)), lv_has LS (zmaxL k) (zll B ls) → i < zmaxL k → (i, Value.ref x) :: (zll B ls).filter (fun q => !(q.1 == i) && !(q.1 + 1 == i && q.2.category == 2)) = lv' →
      (∀ LS' : Array Slot, lv_has LS' (zmaxL k) lv' → W p l e R s m args below meth c H locs cells slots Q (F0 m (pc + n) LS' rest)) → W p l e R s m args below meth c H locs cells slots Q (F0 m pc LS (.ref x :: rest)))
    (kk : ∀ LS', zSt B D aD L xs k s H locs ls' LS' st' M' → M' = M → W p l e R s m args below meth c H locs cells slots Q (F0 m pc' LS' (st'.map (zenc B)))) : W p l e R s m args below meth c H locs cells slots Q (F0 m pc LS (st.map (zenc B))) := by
  unfold zstA at h
  split at h
  · next x r =>
    split at h
    · next hi =>
      refine zs_stv S rfl h hi.2 rfl (fun lv' a b c' d => ?_) kk
      have e1 : zenc B (.inr (.inr x)) = .ref (zad B x) := zrv_ref hi.1
      rw [e1] at c' ⊢
      exact row (zad B x) _ lv' a b c' d
    · cases h
  · cases h
theorem zs_stJ (S : zSt B D aD L xs k s H locs ls LS st M) (hx : p.tables.exec = Jvm.exec) (hb : c.code = zcode k) {i : Nat} (hd : decode (zcode k) pc = .ok (.lstore i, 2)) (h : zstJ i (pc + 2) ls st M = some (pc', ls', st', M'))
    (kk : ∀ LS', zSt B D aD L xs k s H locs ls' LS' st' M' → M' = M → W p l e R s m args below meth c H locs cells slots Q (F0 m pc' LS' (st'.map (zenc B)))) : W p l e R s m args below meth c H locs cells slots Q (F0 m pc LS (st.map (zenc B))) := by
  unfold zstJ at h
  split at h
  · next x r =>
    split at h
    · next hi =>
      obtain ⟨rfl, rfl, rfl, rfl⟩ := zsome h
      have hv : zi64 x := S.2.2.2.2 (.inr (.inl x)) List.mem_cons_self
      show W p l e R s m args below meth c H locs cells slots Q (F0 m pc LS (.long (Int64.ofInt x) :: r.map (zenc B)))
      refine lv_lstore hx hb hd S.2.2.2.1.has (by rw [← S.2.2.2.1.1]; exact hi) rfl (fun LS' g => ?_)
      exact kk LS' ⟨S.1, S.2.1, S.2.2.1, S.2.2.2.1.put2 hv g, fun w hw => S.2.2.2.2 w (List.mem_cons_of_mem _ hw)⟩ rfl
    · cases h
  · cases h
theorem zs_iinc (S : zSt B D aD L xs k s H locs ls LS st M) (hx : p.tables.exec = Jvm.exec) (hb : c.code = zcode k) {i : Nat} {v : Int} (hd : decode (zcode k) pc = .ok (.iinc i v, 3)) (h : (match (generalizing := false) zget ls i with | some (.inl x) => if i < ls.length then some (pc + 3, zput ls i (zI (zb (x + v))), st, M) else none | _ => none) = some (pc', ls', st', M'))
    (kk : ∀ LS', zSt B D aD L xs k s H locs ls' LS' st' M' → M' = M → W p l e R s m args below meth c H locs cells slots Q (F0 m pc' LS' (st'.map (zenc B)))) : W p l e R s m args below meth c H locs cells slots Q (F0 m pc LS (st.map (zenc B))) := by
  split at h
  · next x eq =>
    split at h
    · next hi =>
      obtain ⟨rfl, rfl, rfl, rfl⟩ := zsome h
      obtain ⟨q, hq⟩ := List.getElem?_of_mem (zll_mem.mpr ⟨.inl x, eq, rfl⟩ : (i, zenc B (.inl x)) ∈ zll B ls)
      refine lv_iinc (v := Int32.ofInt (zb (x + v))) hx hb hd S.2.2.2.1.has hq (by rw [zb_of, Int32.ofInt_add]) (by rw [← S.2.2.2.1.1]; exact hi) rfl (fun LS' g => ?_)
      exact kk LS' ⟨S.1, S.2.1, S.2.2.1, S.2.2.2.1.put1 (zb_r _) rfl g, S.2.2.2.2⟩ rfl
    · cases h
  · cases h
theorem zs_tsw (S : zSt B D aD L xs k s H locs ls LS st M) (hx : p.tables.exec = Jvm.exec) (hb : c.code = zcode k) {d lo hi : Int} {offs : Array Int} {n : Nat} (hd : decode (zcode k) pc = .ok (.tableswitch d lo hi offs, n))
    (h : (match (generalizing := false) st with | .inl x :: r => if x < lo ∨ hi < x then zjump pc d ls r M else (match offs[(x - lo).toNat]? with | some off => zjump pc off ls r M | none => none) | _ => none) = some (pc', ls', st', M'))
    (kk : ∀ LS', zSt B D aD L xs k s H locs ls' LS' st' M' → M' = M → W p l e R s m args below meth c H locs cells slots Q (F0 m pc' LS' (st'.map (zenc B)))) : W p l e R s m args below meth c H locs cells slots Q (F0 m pc LS (st.map (zenc B))) := by
  split at h
  · next x r =>
    have hxr : zi32 x := S.2.2.2.2 (.inl x) List.mem_cons_self
    have hS : ∀ w ∈ r, zokV (znx M) w := fun w hw => S.2.2.2.2 w (List.mem_cons_of_mem _ hw)
    show W p l e R s m args below meth c H locs cells slots Q (F0 m pc LS (.int (Int32.ofInt x) :: r.map (zenc B)))
    split at h
    · next hc =>
      obtain ⟨h1, rfl, rfl, rfl⟩ := zjump_at h
      exact lv_tableOut hx hb hd (by rw [zi32_of x hxr]; exact hc) h1 (kk LS (S.to hS) rfl)
    · next hc =>
      split at h
      · next off ho =>
        obtain ⟨h1, rfl, rfl, rfl⟩ := zjump_at h
        exact lv_tableIn hx hb hd (by rw [zi32_of x hxr]; omega) (by rw [zi32_of x hxr]; omega) (by rw [zi32_of x hxr]; exact ho) h1 (kk LS (S.to hS) rfl)
      · cases h
  · cases h
theorem zs_lsw (S : zSt B D aD L xs k s H locs ls LS st M) (hx : p.tables.exec = Jvm.exec) (hb : c.code = zcode k) {d : Int} {ps : Array (Int × Int)} {n : Nat} (hd : decode (zcode k) pc = .ok (.lookupswitch d ps, n))
    (h : (match (generalizing := false) st with | .inl x :: r => if (ps.toList.zip (ps.toList.drop 1)).all (fun (a, next) => a.1 < next.1) = true then zjump pc (Op.lookupswitch.offset ps.toList d x) ls r M else none | _ => none) = some (pc', ls', st', M'))
    (kk : ∀ LS', zSt B D aD L xs k s H locs ls' LS' st' M' → M' = M → W p l e R s m args below meth c H locs cells slots Q (F0 m pc' LS' (st'.map (zenc B)))) : W p l e R s m args below meth c H locs cells slots Q (F0 m pc LS (st.map (zenc B))) := by
  split at h
  · next x r =>
    have hxr : zi32 x := S.2.2.2.2 (.inl x) List.mem_cons_self
    have hS : ∀ w ∈ r, zokV (znx M) w := fun w hw => S.2.2.2.2 w (List.mem_cons_of_mem _ hw)
    show W p l e R s m args below meth c H locs cells slots Q (F0 m pc LS (.int (Int32.ofInt x) :: r.map (zenc B)))
    split at h
    · next hc =>
      obtain ⟨h1, rfl, rfl, rfl⟩ := zjump_at h
      exact lv_lookup hx hb hd hc (by rw [zi32_of x hxr]) h1 (kk LS (S.to hS) rfl)
    · cases h
  · cases h
theorem zcat1 {v : ZV} (h : z2 v = false) : (zenc B v).category = 1 := by
  rcases lv_cat (zenc B v) with h1 | h1
  · exact h1
  · rw [(z2_cat v).mp h1] at h
    cases h
theorem zjdiv (x y : Int) (hx : zi32 x) (hy : zi32 y) : Int32.ofInt (zb (Int.tdiv x y)) = Int32.ofInt x / Int32.ofInt y := by
  apply Int32.toInt_inj.mp
  rw [zb_of, Int32.toInt_ofInt, Int32.toInt_div, zi32_of x hx, zi32_of y hy]
theorem zjmod (x y : Int) (hx : zi32 x) (hy : zi32 y) : Int32.ofInt (Int.tmod x y) = Int32.ofInt x % Int32.ofInt y ∧ zi32 (Int.tmod x y) := by
  have h := Int32.toInt_mod (Int32.ofInt x) (Int32.ofInt y)
  rw [zi32_of x hx, zi32_of y hy] at h
  rw [← h]
  exact ⟨(Int32.ofInt_toInt _), zi32_r _⟩
theorem zjrem (x y : Int) (hx : zi32 x) (hy : zi32 y) : Int32.ofInt (Int.tmod x y) = Int32.ofInt x - Int32.ofInt x / Int32.ofInt y * Int32.ofInt y := by
  rw [← zjdiv x y hx hy, zb_of, ← Int32.ofInt_mul, ← Int32.ofInt_sub, Int.tmod_def, Int.mul_comm]
theorem zjlcmp (x y : Int) (hx : zi64 x) (hy : zi64 y) : Int32.ofInt (zlcmp x y) = lg_cmp (Int64.ofInt x) (Int64.ofInt y) ∧ zi32 (zlcmp x y) := by
  have h1 : (Int64.ofInt x > Int64.ofInt y) ↔ y < x := by
    show Int64.ofInt y < Int64.ofInt x ↔ _
    rw [Int64.lt_iff_toInt_lt, zi64_of x hx, zi64_of y hy]
  have h2 : (Int64.ofInt x = Int64.ofInt y) ↔ x = y := by rw [← Int64.toInt_inj, zi64_of x hx, zi64_of y hy]
  unfold zlcmp lg_cmp
  by_cases q1 : y < x
  · rw [if_pos q1, if_pos (h1.mpr q1)]; exact ⟨rfl, ⟨by decide, by decide⟩⟩
  · rw [if_neg q1, if_neg (fun z => q1 (h1.mp z))]
    by_cases q2 : x = y
    · rw [if_pos q2, if_pos (h2.mpr q2)]; exact ⟨rfl, ⟨by decide, by decide⟩⟩
    · rw [if_neg q2, if_neg (fun z => q2 (h2.mp z))]; exact ⟨rfl, ⟨by decide, by decide⟩⟩
theorem zstep_sound {i : Instr} {n : Nat} (S : zSt B D aD L xs k s H locs ls LS st M) (C : zCtx B D aD L xs k p s m args meth c) (hd : decode (zcode k) pc = .ok (i, n)) (hn : zlenOk i n = true) (h : zstep k i pc ls st M = some (pc', ls', st', M')) (hc : cells + zdc M M' ≤ R.cells) (hs : slots + zds M M' ≤ R.slots)
    (kk0 : ∀ H1 locs1 LS', zSt B D aD L xs k s H1 locs1 ls' LS' st' M' → W p l e R s m args below meth c H1 locs1 (cells + zdc M M') (slots + zds M M') Q (F0 m pc' LS' (st'.map (zenc B)))) : W p l e R s m args below meth c H locs cells slots Q (F0 m pc LS (st.map (zenc B))) := by
  have hx := C.1
  have hb := C.2.1
  have hown := C.2.2.2.1
  have hts := C.2.2.2.2.1
  have kk : ∀ LS', zSt B D aD L xs k s H locs ls' LS' st' M' → M' = M → W p l e R s m args below meth c H locs cells slots Q (F0 m pc' LS' (st'.map (zenc B))) := fun LS' h1 h2 => by
    have := kk0 H locs LS' h1
    rw [zdc_self (by rw [h2]), zds_self (by rw [h2])] at this
    exact this
  have kh : ∀ H1 locs1, zSt B D aD L xs k s H1 locs1 ls' LS st' M' → znx M' = znx M → W p l e R s m args below meth c H1 locs1 cells slots Q (F0 m pc' LS (st'.map (zenc B))) := fun H1 locs1 h1 h2 => by
    have := kk0 H1 locs1 LS h1
    rw [zdc_self h2, zds_self h2] at this
    exact this
  have kn : ∀ H1 locs1, zSt B D aD L xs k s H1 locs1 ls' LS st' M' → W p l e R s m args below meth c H1 locs1 (cells + zdc M M') (slots + zds M M') Q (F0 m pc' LS (st'.map (zenc B))) := fun H1 locs1 h1 => kk0 H1 locs1 LS h1
  cases i
  case iconst v =>
    cases Nat.eq_of_beq_eq_true hn
    have h : (if -32768 ≤ v ∧ v ≤ 32767 then some (pc + 1, ls, zI v :: st, M) else none) = some (pc', ls', st', M') := h
    split at h
    · next hv => exact zs_kon S (n := 1) (v := zI v) (show zi32 v from ⟨by omega, by omega⟩) h (fun w => lv_iconst hx hb hd rfl w) kk
    · cases h
  case bipush v =>
    cases Nat.eq_of_beq_eq_true hn
    have h : (if -128 ≤ v ∧ v ≤ 127 then some (pc + 2, ls, zI v :: st, M) else none) = some (pc', ls', st', M') := h
    split at h
    · next hv =>
      refine zs_kon S (n := 2) (v := zI v) (show zi32 v from ⟨by omega, by omega⟩) h (fun w => lv_bipush hx hb hd ?_ w) kk
      apply Int32.toInt_inj.mp
      rw [Int8.toInt_toInt32, Int8.toInt_ofInt, zi32_of v ⟨by omega, by omega⟩]
      have e8 : ((Int8.size : Nat) : Int) = 256 := rfl
      exact Int.bmod_eq_of_le (by omega) (by omega)
    · cases h
  case sipush v =>
    cases Nat.eq_of_beq_eq_true hn
    have h : (if -32768 ≤ v ∧ v ≤ 32767 then some (pc + 3, ls, zI v :: st, M) else none) = some (pc', ls', st', M') := h
    split at h
    · next hv =>
      refine zs_kon S (n := 3) (v := zI v) (show zi32 v from ⟨by omega, by omega⟩) h (fun w => lv_sipush hx hb hd ?_ w) kk
      apply Int32.toInt_inj.mp
      rw [Int16.toInt_toInt32, Int16.toInt_ofInt, zi32_of v ⟨by omega, by omega⟩]
      have e8 : ((Int16.size : Nat) : Int) = 65536 := rfl
      exact Int.bmod_eq_of_le (by omega) (by omega)
    · cases h
  case lconst v =>
    cases Nat.eq_of_beq_eq_true hn
    exact zs_kon S (n := 1) (v := zJ (v.val : Int)) (show zi64 (v.val : Int) from ⟨by omega, by omega⟩) h (fun w => lv_lconst hx hb hd rfl w) kk
  case ldc j =>
    cases Nat.eq_of_beq_eq_true hn
    have h : zkonS (zlk (zKl (zcl k)) j) (pc + 2) ls st M = some (pc', ls', st', M') := h
    unfold zkonS at h
    split at h
    · next w x q eq =>
      have hk := zkl_at (zgh_c C.2.2.2.2.2.1.2) eq
      split at h
      · next hw =>
        obtain ⟨hc10, hnx⟩ := hk.2.2 hw
        have hx3 : -3 ≤ x ∧ x < znx M := ⟨by omega, by have := S.1.1; omega⟩
        have hown' : s.vm.findClass "SkippingKeysLaw" = some m.cls := by rw [hc10] at hown; exact hown
        have hR := C.2.2.2.2.2.2.2.2.2.2.2.2.2.2.2.2.2.2.1
        refine zs_kon S (n := 2) (v := .inr (.inr x)) hx3 h (fun w => ?_) kk
        rcases hnx with ⟨rfl, rfl⟩ | ⟨rfl, rfl⟩
        · exact va_ldcS hx hb hown' hR.1 hd w
        · exact va_ldcS hx hb hown' hR.2 hd w
      · split at h
        · next hw =>
          obtain ⟨h1, h2⟩ := hk.1 hw
          exact zs_kon S (n := 2) (v := zI x) h2 h (fun w => lv_ldc hx hb hown (hts _ h1) hd w) kk
        · cases h
    · cases h
  case ldc_w j =>
    cases Nat.eq_of_beq_eq_true hn
    have h : zkon 0 (zlk (zKl (zcl k)) j) (pc + 3) ls st M = some (pc', ls', st', M') := h
    unfold zkon at h
    split at h
    · next w x q eq =>
      split at h
      · next hw =>
        subst hw
        obtain ⟨h1, h2⟩ := (zkl_at (zgh_c C.2.2.2.2.2.1.2) eq).1 rfl
        exact zs_kon S (n := 3) (v := zI x) h2 h (fun w => lv_ldcw hx hb hown (hts _ h1) hd w) kk
      · cases h
    · cases h
  case ldc2_w j =>
    cases Nat.eq_of_beq_eq_true hn
    have h : zkon 1 (zlk (zKl (zcl k)) j) (pc + 3) ls st M = some (pc', ls', st', M') := h
    unfold zkon at h
    split at h
    · next w x q eq =>
      split at h
      · next hw =>
        subst hw
        obtain ⟨h1, h2⟩ := (zkl_at (zgh_c C.2.2.2.2.2.1.2) eq).2.1 rfl
        exact zs_kon S (n := 3) (v := zJ x) h2 h (fun w => lv_ldc2 hx hb hown (hts _ h1) hd w) kk
      · cases h
    · cases h
  case iload j =>
    cases Nat.eq_of_beq_eq_true hn
    have h : zldI (zget ls j) (pc + 2) ls st M = some (pc', ls', st', M') := h
    unfold zldI at h
    split at h
    · next x eq => exact zs_ld S eq h (fun g w => lv_iload hx hb hd g w) kk
    · cases h
  case iload_n j =>
    cases Nat.eq_of_beq_eq_true hn
    have h : zldI (zget ls j.val) (pc + 1) ls st M = some (pc', ls', st', M') := h
    unfold zldI at h
    split at h
    · next x eq => exact zs_ld S eq h (fun g w => lv_iload_n hx hb hd rfl g w) kk
    · cases h
  case lload j =>
    cases Nat.eq_of_beq_eq_true hn
    have h : zldJ (zget ls j) (pc + 2) ls st M = some (pc', ls', st', M') := h
    unfold zldJ at h
    split at h
    · next x eq => exact zs_ld S eq h (fun g w => lv_lload hx hb hd g w) kk
    · cases h
  case lload_n j =>
    cases Nat.eq_of_beq_eq_true hn
    have h : zldJ (zget ls j.val) (pc + 1) ls st M = some (pc', ls', st', M') := h
    unfold zldJ at h
    split at h
    · next x eq => exact zs_ld S eq h (fun g w => lv_lload_n hx hb hd rfl g w) kk
    · cases h
  case aload j =>
    cases Nat.eq_of_beq_eq_true hn
    have h : zldA (zget ls j) (pc + 2) ls st M = some (pc', ls', st', M') := h
    unfold zldA at h
    split at h
    · next x eq =>
      split at h
      · next h0 =>
        refine zs_ld S eq h (fun g w => ?_) kk
        have e1 : zenc B (.inr (.inr x)) = .ref (zad B x) := zrv_ref h0
        rw [e1] at g w
        exact lv_aload hx hb hd g w
      · cases h
    · cases h
  case aload_n j =>
    cases Nat.eq_of_beq_eq_true hn
    have h : zldA (zget ls j.val) (pc + 1) ls st M = some (pc', ls', st', M') := h
    unfold zldA at h
    split at h
    · next x eq =>
      split at h
      · next h0 =>
        refine zs_ld S eq h (fun g w => ?_) kk
        have e1 : zenc B (.inr (.inr x)) = .ref (zad B x) := zrv_ref h0
        rw [e1] at g w
        exact lv_aload_n hx hb hd rfl g w
      · cases h
    · cases h
  case istore j =>
    cases Nat.eq_of_beq_eq_true hn
    exact zs_stI S h (fun x rest lv' a b c' d => lv_istore hx hb hd a b c' d) kk
  case istore_n j =>
    cases Nat.eq_of_beq_eq_true hn
    exact zs_stI S h (fun x rest lv' a b c' d => lv_istore_n hx hb hd rfl a b c' d) kk
  case lstore j =>
    cases Nat.eq_of_beq_eq_true hn
    exact zs_stJ S hx hb hd h kk
  case astore j =>
    cases Nat.eq_of_beq_eq_true hn
    exact zs_stA S h (fun x rest lv' a b c' d => lv_astore hx hb hd a b c' d) kk
  case astore_n j =>
    cases Nat.eq_of_beq_eq_true hn
    exact zs_stA S h (fun x rest lv' a b c' d => lv_astore_n hx hb hd rfl a b c' d) kk
  case iinc j v =>
    cases Nat.eq_of_beq_eq_true hn
    exact zs_iinc S hx hb hd h kk
  case iadd =>
    cases Nat.eq_of_beq_eq_true hn
    exact zs_bin S (f := fun x y => zb (x + y)) (g := fun x y => x + y) (fun x y _ _ => ⟨by rw [zb_of, Int32.ofInt_add], zb_r _⟩) h (fun x y rest w => lv_iadd hx hb hd w) kk
  case isub =>
    cases Nat.eq_of_beq_eq_true hn
    exact zs_bin S (f := fun x y => zb (x - y)) (g := fun x y => x - y) (fun x y _ _ => ⟨by rw [zb_of, Int32.ofInt_sub], zb_r _⟩) h (fun x y rest w => lv_isub hx hb hd w) kk
  case imul =>
    cases Nat.eq_of_beq_eq_true hn
    exact zs_bin S (f := fun x y => zb (x * y)) (g := fun x y => x * y) (fun x y _ _ => ⟨by rw [zb_of, Int32.ofInt_mul], zb_r _⟩) h (fun x y rest w => lv_imul hx hb hd w) kk
  case iand =>
    cases Nat.eq_of_beq_eq_true hn
    exact zs_bin S (f := zand) (g := fun x y => x &&& y) (fun x y _ _ => ⟨(Int32.ofInt_toInt _), zi32_r _⟩) h (fun x y rest w => lv_iand hx hb hd w) kk
  case ior =>
    cases Nat.eq_of_beq_eq_true hn
    exact zs_bin S (f := zor) (g := fun x y => x ||| y) (fun x y _ _ => ⟨(Int32.ofInt_toInt _), zi32_r _⟩) h (fun x y rest w => lv_ior hx hb hd w) kk
  case ixor =>
    cases Nat.eq_of_beq_eq_true hn
    exact zs_bin S (f := zxor) (g := fun x y => x ^^^ y) (fun x y _ _ => ⟨(Int32.ofInt_toInt _), zi32_r _⟩) h (fun x y rest w => lv_ixor hx hb hd w) kk
  case ishl =>
    cases Nat.eq_of_beq_eq_true hn
    exact zs_bin S (f := zshl) (g := fun x y => x <<< (y &&& 31)) (fun x y _ _ => ⟨(Int32.ofInt_toInt _), zi32_r _⟩) h (fun x y rest w => lv_ishl hx hb hd w) kk
  case ishr =>
    cases Nat.eq_of_beq_eq_true hn
    exact zs_bin S (f := zshr) (g := fun x y => x >>> (y &&& 31)) (fun x y _ _ => ⟨(Int32.ofInt_toInt _), zi32_r _⟩) h (fun x y rest w => lv_ishr hx hb hd w) kk
  case iushr =>
    cases Nat.eq_of_beq_eq_true hn
    exact zs_bin S (f := zushr) (g := fun x y => (x.toUInt32 >>> (y.toUInt32 &&& Int32.toUInt32 31)).toInt32) (fun x y _ _ => ⟨(Int32.ofInt_toInt _), zi32_r _⟩) h (fun x y rest w => lv_iushr hx hb hd rfl w) kk
  case idiv =>
    cases Nat.eq_of_beq_eq_true hn
    replace h : (match (generalizing := false) st with | .inl y :: .inl x :: r => if y = 0 then none else some (pc + 1, ls, zI (zb (Int.tdiv x y)) :: r, M) | _ => none) = some (pc', ls', st', M') := h
    split at h
    · next y x r =>
      split at h
      · cases h
      · next hy0 =>
        refine zs_bi S (n := 1) (w := zI (zb (Int.tdiv x y))) rfl (fun _ _ => zb_r _) h (fun hy hx2 w => ?_) kk
        have e1 : zenc B (zI (zb (Int.tdiv x y))) = .int (Int32.ofInt x / Int32.ofInt y) := congrArg Value.int (zjdiv x y hx2 hy)
        rw [e1] at w
        exact lv_idiv hx hb hd (fun z => hy0 ((zeq32 hy z032).mp z)) w
    · cases h
  case irem =>
    cases Nat.eq_of_beq_eq_true hn
    replace h : (match (generalizing := false) st with | .inl y :: .inl x :: r => if y = 0 then none else some (pc + 1, ls, zI (Int.tmod x y) :: r, M) | _ => none) = some (pc', ls', st', M') := h
    split at h
    · next y x r =>
      split at h
      · cases h
      · next hy0 =>
        refine zs_bi S (n := 1) (w := zI (Int.tmod x y)) rfl (fun hy hx2 => (zjmod x y hx2 hy).2) h (fun hy hx2 w => ?_) kk
        have e1 : zenc B (zI (Int.tmod x y)) = .int (Int32.ofInt x - Int32.ofInt x / Int32.ofInt y * Int32.ofInt y) := congrArg Value.int (zjrem x y hx2 hy)
        rw [e1] at w
        exact lv_irem hx hb hd (fun z => hy0 ((zeq32 hy z032).mp z)) w
    · cases h
  case ineg =>
    cases Nat.eq_of_beq_eq_true hn
    replace h : (match (generalizing := false) st with | .inl x :: r => some (pc + 1, ls, zI (zb (-x)) :: r, M) | _ => none) = some (pc', ls', st', M') := h
    split at h
    · next x r =>
      refine zs_un S (n := 1) (v := .inl x) (w := zI (zb (-x))) rfl (fun _ => zb_r _) h (fun _ w => ?_) kk
      have e1 : zenc B (zI (zb (-x))) = .int (- Int32.ofInt x) := congrArg Value.int (by rw [zb_of, Int32.ofInt_neg])
      rw [e1] at w
      exact lv_ineg hx hb hd w
    · cases h
  case lshl =>
    cases Nat.eq_of_beq_eq_true hn
    replace h : (match (generalizing := false) st with | .inl y :: .inr (.inl x) :: r => some (pc + 1, ls, zJ (zlshl x y) :: r, M) | _ => none) = some (pc', ls', st', M') := h
    split at h
    · next y x r => exact zs_bi S (n := 1) (w := zJ (zlshl x y)) rfl (fun _ _ => zi64_r _) h (fun _ _ w => lv_lshl hx hb hd (by rw [show Int64.ofInt (zlshl x y) = _ from (Int64.ofInt_toInt _)]) w) kk
    · cases h
  case land =>
    cases Nat.eq_of_beq_eq_true hn
    replace h : (match (generalizing := false) st with | .inr (.inl y) :: .inr (.inl x) :: r => some (pc + 1, ls, zJ (zland x y) :: r, M) | _ => none) = some (pc', ls', st', M') := h
    split at h
    · next y x r =>
      refine zs_bi S (n := 1) (w := zJ (zland x y)) rfl (fun _ _ => zi64_r _) h (fun _ _ w => ?_) kk
      have e1 : zenc B (zJ (zland x y)) = .long (Int64.ofInt x &&& Int64.ofInt y) := congrArg Value.long (Int64.ofInt_toInt _)
      rw [e1] at w
      exact lv_land hx hb hd w
    · cases h
  case lor =>
    cases Nat.eq_of_beq_eq_true hn
    replace h : (match (generalizing := false) st with | .inr (.inl y) :: .inr (.inl x) :: r => some (pc + 1, ls, zJ (zlor x y) :: r, M) | _ => none) = some (pc', ls', st', M') := h
    split at h
    · next y x r =>
      refine zs_bi S (n := 1) (w := zJ (zlor x y)) rfl (fun _ _ => zi64_r _) h (fun _ _ w => ?_) kk
      have e1 : zenc B (zJ (zlor x y)) = .long (Int64.ofInt x ||| Int64.ofInt y) := congrArg Value.long (Int64.ofInt_toInt _)
      rw [e1] at w
      exact lv_lor hx hb hd w
    · cases h
  case lcmp =>
    cases Nat.eq_of_beq_eq_true hn
    replace h : (match (generalizing := false) st with | .inr (.inl y) :: .inr (.inl x) :: r => some (pc + 1, ls, zI (zlcmp x y) :: r, M) | _ => none) = some (pc', ls', st', M') := h
    split at h
    · next y x r =>
      refine zs_bi S (n := 1) (w := zI (zlcmp x y)) rfl (fun hy hx2 => (zjlcmp x y hx2 hy).2) h (fun hy hx2 w => ?_) kk
      have e1 : zenc B (zI (zlcmp x y)) = .int (lg_cmp (Int64.ofInt x) (Int64.ofInt y)) := congrArg Value.int (zjlcmp x y hx2 hy).1
      rw [e1] at w
      exact W.lcmp hx hb hd w
    · cases h
  case i2l =>
    cases Nat.eq_of_beq_eq_true hn
    replace h : (match (generalizing := false) st with | .inl x :: r => some (pc + 1, ls, zJ x :: r, M) | _ => none) = some (pc', ls', st', M') := h
    split at h
    · next x r =>
      refine zs_un S (n := 1) (v := .inl x) (w := zJ x) rfl (fun (hv : zi32 x) => (⟨by have := hv.1; omega, by have := hv.2; omega⟩ : zi64 x)) h (fun hv w => lv_i2l hx hb hd ?_ w) kk
      apply Int64.toInt_inj.mp
      rw [Int32.toInt_toInt64, zi32_of x hv, zi64_of x ⟨by have := hv.1; omega, by have := hv.2; omega⟩]
    · cases h
  case l2i =>
    cases Nat.eq_of_beq_eq_true hn
    replace h : (match (generalizing := false) st with | .inr (.inl x) :: r => some (pc + 1, ls, zI (zb x) :: r, M) | _ => none) = some (pc', ls', st', M') := h
    split at h
    · next x r =>
      refine zs_un S (n := 1) (v := .inr (.inl x)) (w := zI (zb x)) rfl (fun _ => zb_r _) h (fun hv w => lv_l2i hx hb hd ?_ w) kk
      apply Int32.toInt_inj.mp
      rw [zb_of, Int64.toInt_toInt32, Int32.toInt_ofInt, zi64_of x hv]
    · cases h
  case i2b =>
    cases Nat.eq_of_beq_eq_true hn
    replace h : (match (generalizing := false) st with | .inl x :: r => some (pc + 1, ls, zI (zi2b x) :: r, M) | _ => none) = some (pc', ls', st', M') := h
    split at h
    · next x r => exact zs_un S (n := 1) (v := .inl x) (w := zI (zi2b x)) rfl (fun _ => zi32_r _) h (fun hv w => lv_i2b hx hb hd (by rw [show Int32.ofInt (zi2b x) = _ from (Int32.ofInt_toInt _)]) w) kk
    · cases h
  case i2s =>
    cases Nat.eq_of_beq_eq_true hn
    replace h : (match (generalizing := false) st with | .inl x :: r => some (pc + 1, ls, zI (zi2s x) :: r, M) | _ => none) = some (pc', ls', st', M') := h
    split at h
    · next x r => exact zs_un S (n := 1) (v := .inl x) (w := zI (zi2s x)) rfl (fun _ => zi32_r _) h (fun hv w => lv_i2s hx hb hd (by rw [show Int32.ofInt (zi2s x) = _ from (Int32.ofInt_toInt _)]) w) kk
    · cases h
  case dup =>
    cases Nat.eq_of_beq_eq_true hn
    replace h : (match (generalizing := false) st with | v :: r => if z2 v = true then none else some (pc + 1, ls, v :: v :: r, M) | _ => none) = some (pc', ls', st', M') := h
    split at h
    · next v r =>
      split at h
      · cases h
      · next q =>
        obtain ⟨rfl, rfl, rfl, rfl⟩ := zsome h
        exact lv_dup hx hb hd (zcat1 (by simpa using q)) (kk LS (S.to fun w hw => by
          rcases List.mem_cons.mp hw with rfl | hw
          · exact S.2.2.2.2 _ List.mem_cons_self
          · exact S.2.2.2.2 w hw) rfl)
    · cases h
  case pop =>
    cases Nat.eq_of_beq_eq_true hn
    replace h : (match (generalizing := false) st with | v :: r => if z2 v = true then none else some (pc + 1, ls, r, M) | _ => none) = some (pc', ls', st', M') := h
    split at h
    · next v r =>
      split at h
      · cases h
      · next q =>
        obtain ⟨rfl, rfl, rfl, rfl⟩ := zsome h
        exact lv_pop hx hb hd (zcat1 (by simpa using q)) (kk LS (S.to fun w hw => S.2.2.2.2 w (List.mem_cons_of_mem _ hw)) rfl)
    · cases h
  case dup_x1 =>
    cases Nat.eq_of_beq_eq_true hn
    replace h : (match (generalizing := false) st with | v :: w :: r => if z2 v = true ∨ z2 w = true then none else some (pc + 1, ls, v :: w :: v :: r, M) | _ => none) = some (pc', ls', st', M') := h
    split at h
    · next v w r =>
      split at h
      · cases h
      · next q =>
        obtain ⟨rfl, rfl, rfl, rfl⟩ := zsome h
        refine lv_dup_x1 hx hb hd (zcat1 (by cases z : z2 v; rfl; exact absurd (Or.inl z) q)) (zcat1 (by cases z : z2 w; rfl; exact absurd (Or.inr z) q)) (kk LS (S.to fun u hu => ?_) rfl)
        rcases List.mem_cons.mp hu with rfl | hu
        · exact S.2.2.2.2 _ List.mem_cons_self
        · rcases List.mem_cons.mp hu with rfl | hu
          · exact S.2.2.2.2 _ (List.mem_cons_of_mem _ List.mem_cons_self)
          · rcases List.mem_cons.mp hu with rfl | hu
            · exact S.2.2.2.2 _ List.mem_cons_self
            · exact S.2.2.2.2 u (List.mem_cons_of_mem _ (List.mem_cons_of_mem _ hu))
    · cases h
  case dup2 =>
    cases Nat.eq_of_beq_eq_true hn
    replace h : (match (generalizing := false) st with | v :: w :: r => if z2 v = true ∨ z2 w = true then none else some (pc + 1, ls, v :: w :: v :: w :: r, M) | _ => none) = some (pc', ls', st', M') := h
    split at h
    · next v w r =>
      split at h
      · cases h
      · next q =>
        obtain ⟨rfl, rfl, rfl, rfl⟩ := zsome h
        refine lv_dup2_11 hx hb hd (zcat1 (by cases z : z2 v; rfl; exact absurd (Or.inl z) q)) (zcat1 (by cases z : z2 w; rfl; exact absurd (Or.inr z) q)) (kk LS (S.to fun u hu => ?_) rfl)
        rcases List.mem_cons.mp hu with rfl | hu
        · exact S.2.2.2.2 _ List.mem_cons_self
        · rcases List.mem_cons.mp hu with rfl | hu
          · exact S.2.2.2.2 _ (List.mem_cons_of_mem _ List.mem_cons_self)
          · exact S.2.2.2.2 u hu
    · cases h
  case goto off =>
    cases Nat.eq_of_beq_eq_true hn
    obtain ⟨h1, rfl, rfl, rfl⟩ := zjump_at h
    exact lv_goto hx hb hd h1 (kk LS S rfl)
  case ifCond cm off =>
    cases Nat.eq_of_beq_eq_true hn
    replace h : (match (generalizing := false) st with | .inl x :: r => zbr (zcmp cm x 0) pc off ls r M | _ => none) = some (pc', ls', st', M') := h
    split at h
    · exact zs_if1 S hx hb hd rfl h kk
    · cases h
  case if_icmp cm off =>
    cases Nat.eq_of_beq_eq_true hn
    replace h : (match (generalizing := false) st with | .inl y :: .inl x :: r => zbr (zcmp cm x y) pc off ls r M | _ => none) = some (pc', ls', st', M') := h
    split at h
    · exact zs_if2 S hx hb hd rfl h kk
    · cases h
  case tableswitch d lo hi offs => exact zs_tsw S hx hb hd h kk
  case lookupswitch d ps => exact zs_lsw S hx hb hd h kk
  case getfield j =>
    cases Nat.eq_of_beq_eq_true hn
    exact zs_getf S C hd h kk
  case putfield j =>
    cases Nat.eq_of_beq_eq_true hn
    exact zs_putf S C hd h kh
  case getstatic j =>
    cases Nat.eq_of_beq_eq_true hn
    exact zs_gets S C hd h kk
  case iaload =>
    cases Nat.eq_of_beq_eq_true hn
    exact zs_iald S C hd h kk
  case baload =>
    cases Nat.eq_of_beq_eq_true hn
    exact zs_bald S C hd h kk
  case laload =>
    cases Nat.eq_of_beq_eq_true hn
    exact zs_lald S C hd h kk
  case aaload =>
    cases Nat.eq_of_beq_eq_true hn
    exact zs_aald S C hd h kk
  case iastore =>
    cases Nat.eq_of_beq_eq_true hn
    exact zs_iast S C hd h kh
  case bastore =>
    cases Nat.eq_of_beq_eq_true hn
    exact zs_bast S C hd h kh
  case lastore =>
    cases Nat.eq_of_beq_eq_true hn
    exact zs_last S C hd h kh
  case aastore =>
    cases Nat.eq_of_beq_eq_true hn
    exact zs_aast S C hd h kh
  case arraylength =>
    cases Nat.eq_of_beq_eq_true hn
    exact zs_alen S C hd h kk
  case new j =>
    cases Nat.eq_of_beq_eq_true hn
    exact zs_new S C hd h hc hs kn
  case newarray t =>
    cases Nat.eq_of_beq_eq_true hn
    have h : (if zatype t ≤ 3 then znewa (zatype t) (pc + 2) ls st (zskip M) else none) = some (pc', ls', st', M') := h
    split at h
    · next ht => exact zs_newa S C hd ht h hc hs kn
    · cases h
  case anewarray j =>
    cases Nat.eq_of_beq_eq_true hn
    replace h : (match (generalizing := false) zlk (zCl (zcl k)) j with | some (0, _) => znewa 4 (pc + 3) ls st (zskip M) | _ => none) = some (pc', ls', st', M') := h
    split at h
    · next q eq => exact zs_newq S C eq hd h hc hs kn
    · cases h
  all_goals exact absurd (show none = some (pc', ls', st', M') from h) (by intro z; cases z)
end ZSTEPS
