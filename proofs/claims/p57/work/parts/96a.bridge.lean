/-! ===== the large machine at the law's entry ===== -/
theorem zeqt {args : Array Value} {s : State} {tm : Term} {z : Int32} (h : (Cond.eq tm (.int z)).before args s = true) : tm.eval args s none [] s = some (.int z) := by
  cases hv : tm.eval args s none [] s with
  | none => simp [Cond.before, Cond.holds, Cond.value, hv] at h
  | some w =>
    have hz : (Term.int z).eval args s none [] s = some (.int z) := rfl
    simp only [Cond.before, Cond.holds, Cond.value, hv, hz] at h
    cases w <;> simp_all
abbrev zTc : Term := .static "SkippingKeys" "COLUMN_AT" "[I"
abbrev zTw : Term := .static "SkippingKeys" "WEIGHT" "[I"
theorem zx_iniK : Cond.initialized "SkippingKeys" ∈ lw_tbl := zpart_in (i := 1) (List.mem_of_getElem? (i := 1) (by decide +kernel))
theorem zx_iniS : Cond.initialized "java/lang/String" ∈ lw_tbl := zpart_in (i := 1) (List.mem_of_getElem? (i := 12) (by decide +kernel))
theorem zx_iniP : Cond.initialized "jdk/internal/util/Preconditions" ∈ lw_tbl := zpart_in (i := 1) (List.mem_of_getElem? (i := 14) (by decide +kernel))
theorem zx_layS : Cond.laysStatic "java/lang/String" "COMPACT_STRINGS" "Z" ∈ lw_tbl := zpart_in (i := 3) (List.mem_of_getElem? (i := 116) (by decide +kernel))
theorem zx_layP : Cond.laysStatic "jdk/internal/util/Preconditions" "SIOOBE_FORMATTER" "Ljava/util/function/BiFunction;" ∈ lw_tbl := zpart_in (i := 3) (List.mem_of_getElem? (i := 124) (by decide +kernel))
theorem zx_s52 : Cond.stringRef "SkippingKeysLaw" (52 : Nat) "<=>~" ∈ lw_tbl := zpart_in (i := 3) (List.mem_of_getElem? (i := 106) (by decide +kernel))
theorem zx_s60 : Cond.stringRef "SkippingKeysLaw" (60 : Nat) "&|" ∈ lw_tbl := zpart_in (i := 3) (List.mem_of_getElem? (i := 147) (by decide +kernel))
def zTst (i : Nat) : Term := match i with
  | 0 => .string "SkippingKeysLaw" 52
  | _ => .string "SkippingKeysLaw" 60
section ZST
variable {args : Array Value} {s : State}
theorem zst_col {A : Nat → Prop} (hg : (Jvm.Cond.and given_1 narrow_1).before args s = true) (hA : ∀ a : Nat, a < s.heap.size → ¬ A a) : ∃ t : Nat, zTc.eval args s none [] s = some (.ref t) ∧ va_T .int t 18 (fun j => .int (Int32.ofInt (zcol j))) A s s.heap := by
  have hs := flat_of_before _ hg
  refine va_Tof (by decide) (hs (.arrayOf zTc .int) (by decide +kernel)) (zeqt (z := Int32.ofNat 18) (hs (.eq (.length zTc) (.int 18)) (by decide +kernel))) (fun j hj => ?_) hA
  match j, hj with
  | 0, _ => rw [show Int32.ofInt (zcol 0) = 0 from by decide +kernel]; exact zeqt (hs (.eq (.elem zTc (.int 0)) (.int 0)) (by decide +kernel))
  | 1, _ => rw [show Int32.ofInt (zcol 1) = 1 from by decide +kernel]; exact zeqt (hs (.eq (.elem zTc (.int 1)) (.int 1)) (by decide +kernel))
  | 2, _ => rw [show Int32.ofInt (zcol 2) = 2 from by decide +kernel]; exact zeqt (hs (.eq (.elem zTc (.int 2)) (.int 2)) (by decide +kernel))
  | 3, _ => rw [show Int32.ofInt (zcol 3) = 0 from by decide +kernel]; exact zeqt (hs (.eq (.elem zTc (.int 3)) (.int 0)) (by decide +kernel))
  | 4, _ => rw [show Int32.ofInt (zcol 4) = 2 from by decide +kernel]; exact zeqt (hs (.eq (.elem zTc (.int 4)) (.int 2)) (by decide +kernel))
  | 5, _ => rw [show Int32.ofInt (zcol 5) = 1 from by decide +kernel]; exact zeqt (hs (.eq (.elem zTc (.int 5)) (.int 1)) (by decide +kernel))
  | 6, _ => rw [show Int32.ofInt (zcol 6) = 1 from by decide +kernel]; exact zeqt (hs (.eq (.elem zTc (.int 6)) (.int 1)) (by decide +kernel))
  | 7, _ => rw [show Int32.ofInt (zcol 7) = 0 from by decide +kernel]; exact zeqt (hs (.eq (.elem zTc (.int 7)) (.int 0)) (by decide +kernel))
  | 8, _ => rw [show Int32.ofInt (zcol 8) = 2 from by decide +kernel]; exact zeqt (hs (.eq (.elem zTc (.int 8)) (.int 2)) (by decide +kernel))
  | 9, _ => rw [show Int32.ofInt (zcol 9) = 1 from by decide +kernel]; exact zeqt (hs (.eq (.elem zTc (.int 9)) (.int 1)) (by decide +kernel))
  | 10, _ => rw [show Int32.ofInt (zcol 10) = 2 from by decide +kernel]; exact zeqt (hs (.eq (.elem zTc (.int 10)) (.int 2)) (by decide +kernel))
  | 11, _ => rw [show Int32.ofInt (zcol 11) = 0 from by decide +kernel]; exact zeqt (hs (.eq (.elem zTc (.int 11)) (.int 0)) (by decide +kernel))
  | 12, _ => rw [show Int32.ofInt (zcol 12) = 2 from by decide +kernel]; exact zeqt (hs (.eq (.elem zTc (.int 12)) (.int 2)) (by decide +kernel))
  | 13, _ => rw [show Int32.ofInt (zcol 13) = 0 from by decide +kernel]; exact zeqt (hs (.eq (.elem zTc (.int 13)) (.int 0)) (by decide +kernel))
  | 14, _ => rw [show Int32.ofInt (zcol 14) = 1 from by decide +kernel]; exact zeqt (hs (.eq (.elem zTc (.int 14)) (.int 1)) (by decide +kernel))
  | 15, _ => rw [show Int32.ofInt (zcol 15) = 2 from by decide +kernel]; exact zeqt (hs (.eq (.elem zTc (.int 15)) (.int 2)) (by decide +kernel))
  | 16, _ => rw [show Int32.ofInt (zcol 16) = 1 from by decide +kernel]; exact zeqt (hs (.eq (.elem zTc (.int 16)) (.int 1)) (by decide +kernel))
  | 17, _ => rw [show Int32.ofInt (zcol 17) = 0 from by decide +kernel]; exact zeqt (hs (.eq (.elem zTc (.int 17)) (.int 0)) (by decide +kernel))
  | n + 18, h => exact absurd h (by omega)
theorem zst_wei {A : Nat → Prop} (hg : (Jvm.Cond.and given_1 narrow_1).before args s = true) (hA : ∀ a : Nat, a < s.heap.size → ¬ A a) : ∃ t : Nat, zTw.eval args s none [] s = some (.ref t) ∧ va_T .int t 3 (fun j => .int (Int32.ofInt (zwei j))) A s s.heap := by
  have hs := flat_of_before _ hg
  refine va_Tof (by decide) (hs (.arrayOf zTw .int) (by decide +kernel)) (zeqt (z := Int32.ofNat 3) (hs (.eq (.length zTw) (.int 3)) (by decide +kernel))) (fun j hj => ?_) hA
  match j, hj with
  | 0, _ => rw [show Int32.ofInt (zwei 0) = 100 from by decide +kernel]; exact zeqt (hs (.eq (.elem zTw (.int 0)) (.int 100)) (by decide +kernel))
  | 1, _ => rw [show Int32.ofInt (zwei 1) = 10 from by decide +kernel]; exact zeqt (hs (.eq (.elem zTw (.int 1)) (.int 10)) (by decide +kernel))
  | 2, _ => rw [show Int32.ofInt (zwei 2) = 1 from by decide +kernel]; exact zeqt (hs (.eq (.elem zTw (.int 2)) (.int 1)) (by decide +kernel))
  | n + 3, h => exact absurd h (by omega)
theorem zst_arr {cI : ClassId} {kI : Class} {compI : ClassId} {ty : FieldType} (a2 : s.vm.classes[cI]? = some kI) (a3 : kI.kind = .array compI ty) : ArrOfT s cI ty := fun n z => ⟨(fun k h => by cases h), kI, a2, compI, a3⟩
theorem zst_str (hts : ∀ w ∈ lw_tbl, w.before args s = true) (hg : (Jvm.Cond.and given_1 narrow_1).before args s = true) (hA : ∀ a : Nat, a < s.heap.size → ¬ (fun q => s.heap.size ≤ q) a) : ∃ (q1 q2 : Nat), ∀ b tC tW : Nat, zStr (b, tC, (tW, q1, q2), s.heap.size) s := by
  have hs := flat_of_before _ hg
  have hN : ∀ i : Nat, i < 2 → ([4, 2] : List Nat).getD i 0 < 2 ^ 31 := fun i hi => by
    match i, hi with
    | 0, _ => decide
    | 1, _ => decide
    | n + 2, h => exact absurd h (by omega)
  have hex : ∀ i : Nat, i < 2 → (Cond.exactly (zTst i) "java/lang/String").before args s = true := fun i hi => by
    match i, hi with
    | 0, _ => exact hs (.exactly (.string "SkippingKeysLaw" 52) "java/lang/String") (by decide +kernel)
    | 1, _ => exact hs (.exactly (.string "SkippingKeysLaw" 60) "java/lang/String") (by decide +kernel)
    | n + 2, h => exact absurd h (by omega)
  have hco : ∀ i : Nat, i < 2 → (Cond.eq (.field (zTst i) "java/lang/String" "coder" "B") (.int 0)).before args s = true := fun i hi => by
    match i, hi with
    | 0, _ => exact hs (.eq (.field (.string "SkippingKeysLaw" 52) "java/lang/String" "coder" "B") (.int 0)) (by decide +kernel)
    | 1, _ => exact hs (.eq (.field (.string "SkippingKeysLaw" 60) "java/lang/String" "coder" "B") (.int 0)) (by decide +kernel)
    | n + 2, h => exact absurd h (by omega)
  have har : ∀ i : Nat, i < 2 → (Cond.arrayOf (.field (zTst i) "java/lang/String" "value" "[B") .byte).before args s = true := fun i hi => by
    match i, hi with
    | 0, _ => exact hs (.arrayOf (.field (.string "SkippingKeysLaw" 52) "java/lang/String" "value" "[B") .byte) (by decide +kernel)
    | 1, _ => exact hs (.arrayOf (.field (.string "SkippingKeysLaw" 60) "java/lang/String" "value" "[B") .byte) (by decide +kernel)
    | n + 2, h => exact absurd h (by omega)
  have hle : ∀ i : Nat, i < 2 → (Cond.eq (.length (.field (zTst i) "java/lang/String" "value" "[B")) (.int (Int32.ofNat (([4, 2] : List Nat).getD i 0)))).before args s = true := fun i hi => by
    match i, hi with
    | 0, _ => exact hs (.eq (.length (.field (.string "SkippingKeysLaw" 52) "java/lang/String" "value" "[B")) (.int 4)) (by decide +kernel)
    | 1, _ => exact hs (.eq (.length (.field (.string "SkippingKeysLaw" 60) "java/lang/String" "value" "[B")) (.int 2)) (by decide +kernel)
    | n + 2, h => exact absurd h (by omega)
  have hel : ∀ i : Nat, i < 2 → ∀ j : Nat, j < ([4, 2] : List Nat).getD i 0 → (Cond.eq (.elem (.field (zTst i) "java/lang/String" "value" "[B") (.int (Int32.ofNat j))) (.int ((([[60, 61, 62, 126], [38, 124]] : List (List Int32)).getD i []).getD j 0))).before args s = true := fun i hi j hj => by
    match i, hi, j, hj with
    | 0, _, 0, _ => exact hs (.eq (.elem (.field (.string "SkippingKeysLaw" 52) "java/lang/String" "value" "[B") (.int 0)) (.int 60)) (by decide +kernel)
    | 0, _, 1, _ => exact hs (.eq (.elem (.field (.string "SkippingKeysLaw" 52) "java/lang/String" "value" "[B") (.int 1)) (.int 61)) (by decide +kernel)
    | 0, _, 2, _ => exact hs (.eq (.elem (.field (.string "SkippingKeysLaw" 52) "java/lang/String" "value" "[B") (.int 2)) (.int 62)) (by decide +kernel)
    | 0, _, 3, _ => exact hs (.eq (.elem (.field (.string "SkippingKeysLaw" 52) "java/lang/String" "value" "[B") (.int 3)) (.int 126)) (by decide +kernel)
    | 0, _, n + 4, h => exact absurd h (by have : ([4, 2] : List Nat).getD 0 0 = 4 := rfl; omega)
    | 1, _, 0, _ => exact hs (.eq (.elem (.field (.string "SkippingKeysLaw" 60) "java/lang/String" "value" "[B") (.int 0)) (.int 38)) (by decide +kernel)
    | 1, _, 1, _ => exact hs (.eq (.elem (.field (.string "SkippingKeysLaw" 60) "java/lang/String" "value" "[B") (.int 1)) (.int 124)) (by decide +kernel)
    | 1, _, n + 2, h => exact absurd h (by have : ([4, 2] : List Nat).getD 1 0 = 2 := rfl; omega)
    | n + 2, h, _, _ => exact absurd h (by omega)
  have hne : ∀ i j : Nat, i < 2 → j < 2 → i ≠ j → (Cond.not (Cond.eq (zTst i) (zTst j))).before args s = true ∨ (Cond.not (Cond.eq (zTst j) (zTst i))).before args s = true := fun i j hi hj hij => by
    have h := hs (.not (.eq (.string "SkippingKeysLaw" 52) (.string "SkippingKeysLaw" 60))) (by decide +kernel)
    match i, hi, j, hj, hij with
    | 0, _, 0, _, h2 => exact absurd rfl h2
    | 0, _, 1, _, _ => exact Or.inl h
    | 1, _, 0, _, _ => exact Or.inr h
    | 1, _, 1, _, h2 => exact absurd rfl h2
    | n + 2, h2, _, _, _ => exact absurd h2 (by omega)
    | 0, _, n + 2, h2, _ => exact absurd h2 (by omega)
    | 1, _, n + 2, h2, _ => exact absurd h2 (by omega)
  obtain ⟨adK, adV, hV, hE⟩ := vk_Sof (args := args) (s := s) (N := 2) (tm := zTst) (len := [4, 2]) (byt := [[60, 61, 62, 126], [38, 124]]) (A := fun q => s.heap.size ≤ q) hN hex hco har hle hel hne hA
  have ek : ∀ i : Nat, i < 2 → (if i = 0 then adK 0 else adK 1) = adK i := fun i hi => by
    match i, hi with
    | 0, _ => rfl
    | 1, _ => rfl
  refine ⟨adK 0, adK 1, fun b tC tW => ⟨⟨adV, fun i hi => ?_, fun i j hi hj e => hV.2 i j hi hj ?_⟩, ⟨vk_R.of (hts _ zx_s52) (hE 0 (by decide)), vk_R.of (hts _ zx_s60) (hE 1 (by decide))⟩, va_Zof (hts _ zx_layS) (hts _ zx_iniS) (zeqt (z := 1) (hs (.eq (.static "java/lang/String" "COMPACT_STRINGS" "Z") (.int 1)) (by decide +kernel))) hA, ?_⟩⟩
  · have h := hV.1 i hi
    rw [← ek i hi] at h
    exact h
  · rw [← ek i hi, ← ek j hj]
    exact e
  · rcases va_Zqof (hts _ zx_layP) (hts _ zx_iniP) (hs (.isRef (.static "jdk/internal/util/Preconditions" "SIOOBE_FORMATTER" "Ljava/util/function/BiFunction;")) (by decide +kernel)) hA with h | ⟨t, h⟩
    · exact ⟨_, h, Or.inl rfl⟩
    · exact ⟨_, h, Or.inr ⟨t, rfl⟩⟩
theorem zst_U {b L : Nat} {xs : Nat → Int32} (hts : ∀ w ∈ lw_tbl, w.before args s = true) (hX : va_X b L xs s s.heap) (hb : b < s.heap.size) (hL : L ≤ 4000) (hg : (Jvm.Cond.and given_1 narrow_1).before args s = true) : ∃ (B : zBs) (D : va_G) (aD : Nat → ClassId), B.1 = b ∧ B.2.2.2 = s.heap.size ∧ zU B D aD L xs s := by
  have hz : ∀ w ∈ zTs, w.before args s = true := fun w hw => hts w (List.mem_filter.mp hw).1
  obtain ⟨c0, i0, k0⟩ := u_known hz zCw_in_0 (hz _ zCi_in_0)
  obtain ⟨c1, i1, k1⟩ := u_known hz zCw_in_1 (hz _ zCi_in_1)
  obtain ⟨c2, i2, k2⟩ := u_known hz zCw_in_2 (hz _ zCi_in_2)
  obtain ⟨c3, i3, k3⟩ := u_known hz zCw_in_3 (hz _ zCi_in_3)
  obtain ⟨c4, i4, k4⟩ := u_known hz zCw_in_4 (hz _ zCi_in_4)
  obtain ⟨c5, i5, k5⟩ := u_known hz zCw_in_5 (hz _ zCi_in_5)
  obtain ⟨c6, i6, k6⟩ := u_known hz zCw_in_6 (hz _ zCi_in_6)
  obtain ⟨c7, i7, k7⟩ := u_known hz zCw_in_7 (hz _ zCi_in_7)
  obtain ⟨c8, i8, k8⟩ := u_known hz zCw_in_8 (hz _ zCi_in_8)
  obtain ⟨cI, kI, pI, aI1, aI2, aI3⟩ := Cond.arrayClass_spec (hz _ zx_arrI)
  obtain ⟨cJ, kJ, pJ, aJ1, aJ2, aJ3⟩ := Cond.arrayClass_spec (hz _ zx_arrJ)
  obtain ⟨cB, kB, pB, aB1, aB2, aB3⟩ := Cond.arrayClass_spec (hz _ zx_arrB)
  obtain ⟨cZ, kZ, pZ, aZ1, aZ2, aZ3⟩ := Cond.arrayClass_spec (hz _ zx_arrZ)
  obtain ⟨pO, cO, kO, o1, o2, o3, o4, o5⟩ := Cond.arrayOver_spec (hts _ zx_over)
  have hA : ∀ a : Nat, a < s.heap.size → ¬ (fun q => s.heap.size ≤ q) a := fun a h1 h2 => Nat.lt_irrefl _ (Nat.lt_of_lt_of_le h1 h2)
  obtain ⟨tC, t1, t2⟩ := zst_col hg hA
  obtain ⟨tW, w1, w2⟩ := zst_wei hg hA
  obtain ⟨q1, q2, hS⟩ := zst_str hts hg hA
  refine ⟨(b, tC, (tW, q1, q2), s.heap.size), (fun c => match c with | 0 => c0 | 1 => c1 | 2 => c2 | 3 => c3 | 4 => c4 | 5 => c5 | 6 => c6 | 7 => c7 | _ => c8, fun c => match c with | 0 => i0 | 1 => i1 | 2 => i2 | 3 => i3 | 4 => i4 | 5 => i5 | 6 => i6 | 7 => i7 | _ => i8), (fun k => match k with | 0 => cI | 1 => cJ | 2 => cB | 3 => cZ | _ => cO), rfl, rfl, ⟨fun c q hq => ?_, fun k q hq => ?_⟩, hX, hL, hb, Nat.le_refl _, va_Zref (hts _ zx_st2) (hts _ zx_iniK) t1 hA, va_Zref (hts _ zx_st1) (hts _ zx_iniK) w1 hA, t2, w2, fun w hw => va_tabs (zNs_on w hw) rfl (hts w (zNs_in w hw)), va_AO.of (hts _ zx_over), hS b tC tW⟩
  · match c, hq with
    | 0, hq => cases hq; exact k0
    | 1, hq => cases hq; exact k1
    | 2, hq => cases hq; exact k2
    | 3, hq => cases hq; exact k3
    | 4, hq => cases hq; exact k4
    | 5, hq => cases hq; exact k5
    | 6, hq => cases hq; exact k6
    | 7, hq => cases hq; exact k7
    | 8, hq => cases hq; exact k8
    | n + 9, hq => exact absurd hq (by simp [vwCl])
  · match k, hq with
    | 0, hq => cases hq; exact ⟨zst_arr aI2 aI3, aI1⟩
    | 1, hq => cases hq; exact ⟨zst_arr aJ2 aJ3, aJ1⟩
    | 2, hq => cases hq; exact ⟨zst_arr aB2 aB3, aB1⟩
    | 3, hq => cases hq; exact ⟨zst_arr aZ2 aZ3, aZ1⟩
    | 4, hq => cases hq; exact ⟨zst_arr o3 o4, kO, pO, o3, o4, o1, o5⟩
    | n + 5, hq => exact absurd hq (by simp [zty])
end ZST
