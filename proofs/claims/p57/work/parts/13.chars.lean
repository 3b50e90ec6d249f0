/-! ===== charAt of the law's two texts: the platform's own methods ===== -/
def zyA : MethodName := ⟨"java/lang/String", "charAt", "(I)C"⟩
def zyI : MethodName := ⟨"java/lang/String", "isLatin1", "()Z"⟩
def zyC : MethodName := ⟨"java/lang/String", "checkIndex", "(II)V"⟩
def zyL : MethodName := ⟨"java/lang/StringLatin1", "charAt", "([BI)C"⟩
def zyP : MethodName := ⟨"jdk/internal/util/Preconditions", "checkIndex", "(IILjava/util/function/BiFunction;)I"⟩
theorem zxc_i1 : Cond.initialized "java/lang/String" ∈ zTs := zhas_in (q := (1, 12)) (by decide +kernel)
theorem zxc_i2 : Cond.initialized "java/lang/StringLatin1" ∈ zTs := zhas_in (q := (1, 13)) (by decide +kernel)
theorem zxc_i3 : Cond.initialized "jdk/internal/util/Preconditions" ∈ zTs := zhas_in (q := (1, 14)) (by decide +kernel)
theorem zxc_ai : Cond.instanceMethod zyA ∈ zTs := zhas_in (q := (3, 108)) (by decide +kernel)
theorem zxc_as : Cond.selects "java/lang/String" zyA zyA ∈ zTs := zhas_in (q := (3, 109)) (by decide +kernel)
theorem zxc_ac : Cond.code zyA prog_13_method_56_code 2 (some .char) ∈ zTs := zhas_in (q := (3, 110)) (by decide +kernel)
theorem zxc_l1 : Cond.methodLink "java/lang/String" 492 zyI ∈ zTs := zhas_in (q := (3, 111)) (by decide +kernel)
theorem zxc_ii : Cond.instanceMethod zyI ∈ zTs := zhas_in (q := (3, 112)) (by decide +kernel)
theorem zxc_is : Cond.selects "java/lang/String" zyI zyI ∈ zTs := zhas_in (q := (3, 113)) (by decide +kernel)
theorem zxc_ic : Cond.code zyI prog_13_method_154_code 1 (some .boolean) ∈ zTs := zhas_in (q := (3, 114)) (by decide +kernel)
theorem zxc_f1 : Cond.fieldLink "java/lang/String" 38 "java/lang/String" "COMPACT_STRINGS" "Z" ∈ zTs := zhas_in (q := (3, 115)) (by decide +kernel)
theorem zxc_l2 : Cond.methodLink "java/lang/String" 495 zyL ∈ zTs := zhas_in (q := (3, 117)) (by decide +kernel)
theorem zxc_ls : Cond.static zyL ∈ zTs := zhas_in (q := (3, 118)) (by decide +kernel)
theorem zxc_lc : Cond.code zyL prog_14_method_2_code 2 (some .char) ∈ zTs := zhas_in (q := (3, 119)) (by decide +kernel)
theorem zxc_l3 : Cond.methodLink "java/lang/StringLatin1" 9 zyC ∈ zTs := zhas_in (q := (3, 120)) (by decide +kernel)
theorem zxc_cs : Cond.static zyC ∈ zTs := zhas_in (q := (3, 121)) (by decide +kernel)
theorem zxc_cc : Cond.code zyC prog_13_method_155_code 2 none ∈ zTs := zhas_in (q := (3, 122)) (by decide +kernel)
theorem zxc_f2 : Cond.fieldLink "java/lang/String" 1053 "jdk/internal/util/Preconditions" "SIOOBE_FORMATTER" "Ljava/util/function/BiFunction;" ∈ zTs := zhas_in (q := (3, 123)) (by decide +kernel)
theorem zxc_l4 : Cond.methodLink "java/lang/String" 1059 zyP ∈ zTs := zhas_in (q := (3, 125)) (by decide +kernel)
theorem zxc_ps : Cond.static zyP ∈ zTs := zhas_in (q := (3, 126)) (by decide +kernel)
theorem zxc_pc : Cond.code zyP prog_17_method_11_code 3 (some .int) ∈ zTs := zhas_in (q := (3, 127)) (by decide +kernel)
theorem zxc_f3 : Cond.fieldLink "java/lang/String" 15 "java/lang/String" "coder" "B" ∈ zTs := zhas_in (q := (5, 14)) (by decide +kernel)
theorem zxc_f4 : Cond.fieldLink "java/lang/String" 9 "java/lang/String" "value" "[B" ∈ zTs := zhas_in (q := (5, 15)) (by decide +kernel)
theorem zdP_0 : decode prog_17_method_11_code 0 = .ok (.iload_n 0, 1) := by decide +kernel
theorem zdP_1 : decode prog_17_method_11_code 1 = .ok (.ifCond .lt 8, 3) := by decide +kernel
theorem zdP_4 : decode prog_17_method_11_code 4 = .ok (.iload_n 0, 1) := by decide +kernel
theorem zdP_5 : decode prog_17_method_11_code 5 = .ok (.iload_n 1, 1) := by decide +kernel
theorem zdP_6 : decode prog_17_method_11_code 6 = .ok (.if_icmp .lt 10, 3) := by decide +kernel
theorem zdP_16 : decode prog_17_method_11_code 16 = .ok (.iload_n 0, 1) := by decide +kernel
theorem zdP_17 : decode prog_17_method_11_code 17 = .ok (.ireturn, 1) := by decide +kernel
theorem zdC_0 : decode prog_13_method_155_code 0 = .ok (.iload_n 0, 1) := by decide +kernel
theorem zdC_1 : decode prog_13_method_155_code 1 = .ok (.iload_n 1, 1) := by decide +kernel
theorem zdC_2 : decode prog_13_method_155_code 2 = .ok (.getstatic 1053, 3) := by decide +kernel
theorem zdC_5 : decode prog_13_method_155_code 5 = .ok (.invokestatic 1059, 3) := by decide +kernel
theorem zdC_8 : decode prog_13_method_155_code 8 = .ok (.pop, 1) := by decide +kernel
theorem zdC_9 : decode prog_13_method_155_code 9 = .ok (.return_, 1) := by decide +kernel
theorem zdL_0 : decode prog_14_method_2_code 0 = .ok (.iload_n 1, 1) := by decide +kernel
theorem zdL_1 : decode prog_14_method_2_code 1 = .ok (.aload_n 0, 1) := by decide +kernel
theorem zdL_2 : decode prog_14_method_2_code 2 = .ok (.arraylength, 1) := by decide +kernel
theorem zdL_3 : decode prog_14_method_2_code 3 = .ok (.invokestatic 9, 3) := by decide +kernel
theorem zdL_6 : decode prog_14_method_2_code 6 = .ok (.aload_n 0, 1) := by decide +kernel
theorem zdL_7 : decode prog_14_method_2_code 7 = .ok (.iload_n 1, 1) := by decide +kernel
theorem zdL_8 : decode prog_14_method_2_code 8 = .ok (.baload, 1) := by decide +kernel
theorem zdL_9 : decode prog_14_method_2_code 9 = .ok (.sipush 255, 3) := by decide +kernel
theorem zdL_12 : decode prog_14_method_2_code 12 = .ok (.iand, 1) := by decide +kernel
theorem zdL_13 : decode prog_14_method_2_code 13 = .ok (.i2c, 1) := by decide +kernel
theorem zdL_14 : decode prog_14_method_2_code 14 = .ok (.ireturn, 1) := by decide +kernel
theorem zdI_0 : decode prog_13_method_154_code 0 = .ok (.getstatic 38, 3) := by decide +kernel
theorem zdI_3 : decode prog_13_method_154_code 3 = .ok (.ifCond .eq 14, 3) := by decide +kernel
theorem zdI_6 : decode prog_13_method_154_code 6 = .ok (.aload_n 0, 1) := by decide +kernel
theorem zdI_7 : decode prog_13_method_154_code 7 = .ok (.getfield 15, 3) := by decide +kernel
theorem zdI_10 : decode prog_13_method_154_code 10 = .ok (.ifCond .ne 7, 3) := by decide +kernel
theorem zdI_13 : decode prog_13_method_154_code 13 = .ok (.iconst 1, 1) := by decide +kernel
theorem zdI_14 : decode prog_13_method_154_code 14 = .ok (.goto 4, 3) := by decide +kernel
theorem zdI_18 : decode prog_13_method_154_code 18 = .ok (.ireturn, 1) := by decide +kernel
theorem zdA_0 : decode prog_13_method_56_code 0 = .ok (.aload_n 0, 1) := by decide +kernel
theorem zdA_1 : decode prog_13_method_56_code 1 = .ok (.invokevirtual 492, 3) := by decide +kernel
theorem zdA_4 : decode prog_13_method_56_code 4 = .ok (.ifCond .eq 12, 3) := by decide +kernel
theorem zdA_7 : decode prog_13_method_56_code 7 = .ok (.aload_n 0, 1) := by decide +kernel
theorem zdA_8 : decode prog_13_method_56_code 8 = .ok (.getfield 9, 3) := by decide +kernel
theorem zdA_11 : decode prog_13_method_56_code 11 = .ok (.iload_n 1, 1) := by decide +kernel
theorem zdA_12 : decode prog_13_method_56_code 12 = .ok (.invokestatic 495, 3) := by decide +kernel
theorem zdA_15 : decode prog_13_method_56_code 15 = .ok (.ireturn, 1) := by decide +kernel
abbrev zFa : Nat → Prop := fun _ => False
def zwc (y : MethodName) (b : ByteArray) (n : Nat) (r : Option FieldType) : List Cond := Cond.code y b n r :: zTs
theorem zwc_good {y : MethodName} {b : ByteArray} {n : Nat} {r : Option FieldType} (h : Cond.code y b n r ∈ zTs) (y' : MethodName) (b' : ByteArray) (n' : Nat) (r' : Option FieldType) : GoodIn (zwc y' b' n' r') (zwc y b n r) := fun w hw => by
  have hm : w ∈ zTs := (List.mem_cons.mp hw).elim (fun e => e ▸ h) id
  exact ⟨List.mem_cons_of_mem _ hm, zTs_good w hm⟩
theorem zFa_S {A : Nat → Prop} {H0 H : Heap} {locs : List Loc} (h : va_S zFa H0 H locs) : va_S A H0 H locs := ⟨h.1, fun q a _ => h.2.1 q a id, fun l hl => (h.2.2 l hl).elim⟩
theorem zk_pci (l : Launch) (H0 : Heap) (i n : Int32) (v : Value) (hv : v = .null ∨ ∃ b, v = .ref b) (h0 : ¬ i < 0) (h1 : i < n) : Met l zyP (zwc zyP prog_17_method_11_code 3 (some .int)) ({ frames := 0, cells := 0, slots := 0, locals := 0 }) (va_Pc [.int i, .int n, v] (fun U => U.heap = H0)) (va_Qi (fun r (_ : Unit) => r = i) (fun _ U => U.heap = H0) zFa) 0 0 zFa := by
  refine Met.ofW (cc := prog_17_method_11_code) (maxL := 3) (ret := some .int) (by decide) rfl ?_
  intro p e s m args below meth c s₁ Bd hml hv'
  obtain ⟨rfl, hH⟩ := hv'
  have hx := Bd.exec
  have hb := Bd.bytes
  have hr := Bd.returns
  have hl : ∃ ls : Array Slot, lv_has ls 3 [(0, .int i), (1, .int n), (2, v)] ∧ (lg_sl [.int i, .int n, v] ++ List.replicate (3 - (lg_sl [.int i, .int n, v]).length) Slot.unset).toArray = ls := by
    rcases hv with rfl | ⟨b, rfl⟩
    · exact ⟨_, lv_entry ([.int i, .int n, .null]) (n := 3) (Nat.le_of_ble_eq_true rfl), rfl⟩
    · exact ⟨_, lv_entry ([.int i, .int n, .ref b]) (n := 3) (Nat.le_of_ble_eq_true rfl), rfl⟩
  obtain ⟨ls, hl, he⟩ := hl
  rw [lg_entry_eq, he]
  refine lv_iload_n hx hb zdP_0 rfl (lv_at hl 0 rfl) ?_
  refine lv_if_lt hx hb zdP_1 (tgt := 9) rfl (fun h => absurd h h0) (fun _ => ?_)
  refine lv_iload_n hx hb zdP_4 rfl (lv_at hl 0 rfl) ?_
  refine lv_iload_n hx hb zdP_5 rfl (lv_at hl 1 rfl) ?_
  refine lv_icmp_lt hx hb zdP_6 (tgt := 16) rfl (fun _ => ?_) (fun h => absurd h1 h)
  refine lv_iload_n hx hb zdP_16 rfl (lv_at hl 0 rfl) ?_
  exact W.iret hx hb hr (fun t ht hW => ⟨⟨i, (), rfl, rfl, ht.trans hH⟩, (va_S.rf (A := zFa)).F ht⟩) (fun _ h => by cases h) zdP_17
theorem zk_chk (l : Launch) (A : Nat → Prop) (H0 : Heap) (i n : Int32) (v : Value) (hv : v = .null ∨ ∃ b, v = .ref b) (h0 : ¬ i < 0) (h1 : i < n) : Met l zyC (zwc zyC prog_13_method_155_code 2 none) ({ frames := 1, cells := 0, slots := 0, locals := 22 }) (va_Pc [.int i, .int n] (fun U => U.heap = H0 ∧ va_Z "jdk/internal/util/Preconditions" "SIOOBE_FORMATTER" "Ljava/util/function/BiFunction;" v A U U.heap)) (va_Qv (fun (_ : Unit) => True) (fun _ U => U.heap = H0) zFa) 0 0 zFa := by
  refine Met.ofW (cc := prog_13_method_155_code) (maxL := 2) (ret := none) (by decide) rfl ?_
  intro p e s m args below meth c s₁ Bd hml hv'
  obtain ⟨rfl, hH, hZ⟩ := hv'
  have hx := Bd.exec
  have hb := Bd.bytes
  have hr := Bd.returns
  have hts := atoms_spec (ws := zwc zyC prog_13_method_155_code 2 none) Bd.pre
  have hts2 : ∀ w ∈ zTs, w.before #[Value.int i, Value.int n] s = true := fun w hw => hts w (List.mem_cons_of_mem _ hw)
  have hown : s.vm.findClass "java/lang/String" = some m.cls := findClass_of_methodNamed Bd.named
  have hS : va_S A s.heap s.heap [] := va_S.rf
  have hl := lv_entry ([.int i, .int n]) (n := 2) (Nat.le_of_ble_eq_true rfl)
  rw [lg_entry_eq]
  generalize (lg_sl ([.int i, .int n]) ++ List.replicate (2 - (lg_sl ([.int i, .int n])).length) Slot.unset).toArray = ls at hl ⊢
  have hl : lv_has ls 2 [(0, .int i), (1, .int n)] := hl
  refine lv_iload_n hx hb zdC_0 rfl (lv_at hl 0 rfl) ?_
  refine lv_iload_n hx hb zdC_1 rfl (lv_at hl 1 rfl) ?_
  refine va_gets hx hb hZ hS hown (hts2 _ zxc_f2) (fun _ h => h) zdC_2 ?_
  refine va_calli (A0 := zFa) (va_runS (As := [.int i, .int n, v]) (rest := []) (n := 3) (bytes := prog_17_method_11_code) (maxL := 3) (ret := some .int) ⟨hx, hb, hml, hown, hts⟩ (zk_pci l H0 i n v hv h0 h1) ⟨⟨rfl, rfl, Nat.le_of_ble_eq_true rfl, Nat.le_of_ble_eq_true rfl, pay_in hts (zwc_good zxc_pc _ _ _ _), List.mem_cons_self, hts2 _ zxc_pc, hts2 _ zxc_i3, ⟨by decide, by decide⟩, fun sig hs => by
    have e : (parseMethodDescriptor zyP.desc).map (fun d => d.parameters.length) = some 3 := by decide +kernel
    rw [hs] at e
    exact (Option.some.inj e).symm, hts2 _ zxc_l4⟩, hts2 _ zxc_ps⟩ ⟨fun a U g mk q => q, fun U hU hW => ⟨rfl, hU.trans hH⟩⟩ rfl rfl hl.1 rfl (lv_room (Nat.le_of_ble_eq_true rfl)) zdC_5 ⟨Nat.le_refl _, Nat.le_refl _⟩) va_S.rf (fun _ _ h => h) (fun _ h => h) (fun r u t H1 locs1 ht hvm hp hB hz hk hS1 => ?_)
  refine lv_pop hx hb zdC_8 rfl ?_
  exact W.vret hx hb hr (fun t2 ht2 hW => ⟨⟨(), rfl, trivial, ht2.trans (ht.symm.trans hB)⟩, hS1.F ht2⟩) hS1.2.2 zdC_9
theorem zk_lat (l : Launch) (A : Nat → Prop) (H0 : Heap) (q : Nat) : Met l zyI (zwc zyI prog_13_method_154_code 1 (some .boolean)) ({ frames := 0, cells := 0, slots := 0, locals := 0 }) (va_Pc [.ref q] (fun U => U.heap = H0 ∧ va_Z "java/lang/String" "COMPACT_STRINGS" "Z" (.int 1) A U U.heap ∧ va_OF "java/lang/String" "coder" "B" (.int 0) q A U U.heap)) (va_Qi (fun r (_ : Unit) => r = 1) (fun _ U => U.heap = H0) zFa) 0 0 zFa := by
  refine Met.ofW (cc := prog_13_method_154_code) (maxL := 1) (ret := some .boolean) (by decide) rfl ?_
  intro p e s m args below meth c s₁ Bd hml hv'
  obtain ⟨rfl, hH, hZ, hO⟩ := hv'
  have hx := Bd.exec
  have hb := Bd.bytes
  have hr := Bd.returns
  have hts := atoms_spec (ws := zwc zyI prog_13_method_154_code 1 (some .boolean)) Bd.pre
  have hts2 : ∀ w ∈ zTs, w.before #[Value.ref q] s = true := fun w hw => hts w (List.mem_cons_of_mem _ hw)
  have hown : s.vm.findClass "java/lang/String" = some m.cls := findClass_of_methodNamed Bd.named
  have hS : va_S A s.heap s.heap [] := va_S.rf
  have hl := lv_entry ([.ref q]) (n := 1) (Nat.le_of_ble_eq_true rfl)
  rw [lg_entry_eq]
  generalize (lg_sl ([.ref q]) ++ List.replicate (1 - (lg_sl ([.ref q])).length) Slot.unset).toArray = ls at hl ⊢
  have hl : lv_has ls 1 [(0, .ref q)] := hl
  refine va_gets hx hb hZ hS hown (hts2 _ zxc_f1) (fun _ h => h) zdI_0 ?_
  refine lv_if_eq hx hb zdI_3 (tgt := 17) rfl (fun h => absurd h (by decide)) (fun _ => ?_)
  refine lv_aload_n hx hb zdI_6 rfl (lv_at hl 0 rfl) ?_
  refine vk_getf hx hb hO hS hown (hts2 _ zxc_f3) (fun _ h => h) zdI_7 ?_
  refine lv_if_ne hx hb zdI_10 (tgt := 17) rfl (fun h => absurd rfl h) (fun _ => ?_)
  refine lv_iconst hx hb zdI_13 (v := 1) rfl ?_
  refine lv_goto hx hb zdI_14 (tgt := 18) rfl ?_
  exact W.zret hx hb hr rfl (fun t ht hW => ⟨⟨1, (), rfl, rfl, ht.trans hH⟩, (va_S.rf (A := zFa)).F ht⟩) (fun _ h => by cases h) zdI_18
theorem zk_lch (l : Launch) (A : Nat → Prop) (H0 : Heap) (t N : Nat) (f : Nat → Value) (i x w : Int32) (v : Value) (hv : v = .null ∨ ∃ b, v = .ref b) (h0 : ¬ i < 0) (h1 : i < Int32.ofNat N) (hin : vp_in i N) (hf : f i.toNatClampNeg = .int x) (hw : ((x &&& 255).toUInt32 % 65536).toInt32 = w) (hc : narrow .char (.int w) = .int w) : Met l zyL (zwc zyL prog_14_method_2_code 2 (some .char)) ({ frames := 2, cells := 0, slots := 0, locals := 43 }) (va_Pc [.ref t, .int i] (fun U => U.heap = H0 ∧ va_Z "jdk/internal/util/Preconditions" "SIOOBE_FORMATTER" "Ljava/util/function/BiFunction;" v A U U.heap ∧ va_T .byte t N f A U U.heap)) (va_Qi (fun r (_ : Unit) => r = w) (fun _ U => U.heap = H0) zFa) 0 0 zFa := by
  refine Met.ofW (cc := prog_14_method_2_code) (maxL := 2) (ret := some .char) (by decide) rfl ?_
  intro p e s m args below meth c s₁ Bd hml hv'
  obtain ⟨rfl, hH, hZ, hT⟩ := hv'
  have hx := Bd.exec
  have hb := Bd.bytes
  have hr := Bd.returns
  have hts := atoms_spec (ws := zwc zyL prog_14_method_2_code 2 (some .char)) Bd.pre
  have hts2 : ∀ w ∈ zTs, w.before #[Value.ref t, Value.int i] s = true := fun w hw => hts w (List.mem_cons_of_mem _ hw)
  have hown : s.vm.findClass "java/lang/StringLatin1" = some m.cls := findClass_of_methodNamed Bd.named
  have hS : va_S A s.heap s.heap [] := va_S.rf
  have hl := lv_entry ([.ref t, .int i]) (n := 2) (Nat.le_of_ble_eq_true rfl)
  rw [lg_entry_eq]
  generalize (lg_sl ([.ref t, .int i]) ++ List.replicate (2 - (lg_sl ([.ref t, .int i])).length) Slot.unset).toArray = ls at hl ⊢
  have hl : lv_has ls 2 [(0, .ref t), (1, .int i)] := hl
  refine lv_iload_n hx hb zdL_0 rfl (lv_at hl 1 rfl) ?_
  refine lv_aload_n hx hb zdL_1 rfl (lv_at hl 0 rfl) ?_
  refine va_tlen hx hb hT hS rfl zdL_2 ?_
  refine va_callv (A0 := zFa) (va_runS (As := [.int i, .int (Int32.ofNat N)]) (rest := []) (n := 2) (bytes := prog_13_method_155_code) (maxL := 2) (ret := none) ⟨hx, hb, hml, hown, hts⟩ (zk_chk l A H0 i (Int32.ofNat N) v hv h0 h1) ⟨⟨rfl, rfl, Nat.le_of_ble_eq_true rfl, Nat.le_of_ble_eq_true rfl, pay_in hts (zwc_good zxc_cc _ _ _ _), List.mem_cons_self, hts2 _ zxc_cc, hts2 _ zxc_i1, ⟨by decide, by decide⟩, fun sig hs => by
    have e : (parseMethodDescriptor zyC.desc).map (fun d => d.parameters.length) = some 2 := by decide +kernel
    rw [hs] at e
    exact (Option.some.inj e).symm, hts2 _ zxc_l3⟩, hts2 _ zxc_cs⟩ ⟨fun a U g mk h => ⟨h.1, h.2.1, h.2.2.moved (u := U) (U := U.calling g mk a) (Vm.Alike.refl U.vm)⟩, fun U hU hW => ⟨rfl, hU.trans hH, by rw [hU]; exact hZ.moved hW.alike⟩⟩ rfl rfl hl.1 rfl (lv_room (Nat.le_of_ble_eq_true rfl)) zdL_3 ⟨Nat.le_refl _, Nat.le_refl _⟩) va_S.rf (fun _ _ h => h) (fun _ h => h) (fun u t2 H1 locs1 ht hvm hp hB hz hk hS1 => ?_)
  refine lv_aload_n hx hb zdL_6 rfl (lv_at hl 0 rfl) ?_
  refine lv_iload_n hx hb zdL_7 rfl (lv_at hl 1 rfl) ?_
  refine va_tb hx hb hT (zFa_S hS1) hin hf zdL_8 ?_
  refine lv_sipush hx hb zdL_9 (v := 255) rfl ?_
  refine lv_iand hx hb zdL_12 ?_
  refine lv_i2c hx hb zdL_13 hw ?_
  exact W.zret hx hb hr hc (fun t3 ht3 hW => ⟨⟨w, (), rfl, rfl, ht3.trans (ht.symm.trans hB)⟩, hS1.F ht3⟩) hS1.2.2 zdL_14
/-- String.charAt of a text of one byte a sign -/
theorem zk_cha (l : Launch) (A : Nat → Prop) (H0 : Heap) (q t N : Nat) (f : Nat → Value) (i x w : Int32) (v : Value) (hv : v = .null ∨ ∃ b, v = .ref b) (h0 : ¬ i < 0) (h1 : i < Int32.ofNat N) (hin : vp_in i N) (hf : f i.toNatClampNeg = .int x) (hw : ((x &&& 255).toUInt32 % 65536).toInt32 = w) (hc : narrow .char (.int w) = .int w) : Met l zyA (zwc zyA prog_13_method_56_code 2 (some .char)) ({ frames := 3, cells := 0, slots := 0, locals := 64 }) (va_Pc [.ref q, .int i] (fun U => U.heap = H0 ∧ va_Z "java/lang/String" "COMPACT_STRINGS" "Z" (.int 1) A U U.heap ∧ (va_OF "java/lang/String" "coder" "B" (.int 0) q A U U.heap ∧ va_OF "java/lang/String" "value" "[B" (.ref t) q A U U.heap ∧ va_O "java/lang/String" q A U U.heap) ∧ va_Z "jdk/internal/util/Preconditions" "SIOOBE_FORMATTER" "Ljava/util/function/BiFunction;" v A U U.heap ∧ va_T .byte t N f A U U.heap)) (va_Qi (fun r (_ : Unit) => r = w) (fun _ U => U.heap = H0) zFa) 0 0 zFa := by
  refine Met.ofW (cc := prog_13_method_56_code) (maxL := 2) (ret := some .char) (by decide) rfl ?_
  intro p e s m args below meth c s₁ Bd hml hv'
  obtain ⟨rfl, hH, hC, ⟨hO, hV, hO2⟩, hZ, hT⟩ := hv'
  have hx := Bd.exec
  have hb := Bd.bytes
  have hr := Bd.returns
  have hts := atoms_spec (ws := zwc zyA prog_13_method_56_code 2 (some .char)) Bd.pre
  have hts2 : ∀ w ∈ zTs, w.before #[Value.ref q, Value.int i] s = true := fun w hw => hts w (List.mem_cons_of_mem _ hw)
  have hown : s.vm.findClass "java/lang/String" = some m.cls := findClass_of_methodNamed Bd.named
  have hl := lv_entry ([.ref q, .int i]) (n := 2) (Nat.le_of_ble_eq_true rfl)
  rw [lg_entry_eq]
  generalize (lg_sl ([.ref q, .int i]) ++ List.replicate (2 - (lg_sl ([.ref q, .int i])).length) Slot.unset).toArray = ls at hl ⊢
  have hl : lv_has ls 2 [(0, .ref q), (1, .int i)] := hl
  refine lv_aload_n hx hb zdA_0 rfl (lv_at hl 0 rfl) ?_
  have hrc : ∃ cell : Cell, s.heap[q]? = some cell ∧ cell.vm.isStatics = false ∧ s.vm.findClass "java/lang/String" = some cell.cls := by
    obtain ⟨cell, a1, a2, a3, -⟩ := hO2
    exact ⟨cell, a1, a2, a3⟩
  refine va_calli (A0 := zFa) (va_runV (As := []) (rest := []) (n := 0) (bytes := prog_13_method_154_code) (maxL := 1) (ret := some .boolean) ⟨hx, hb, hml, hown, hts⟩ (zk_lat l A H0 q) ⟨⟨rfl, rfl, Nat.le_of_ble_eq_true rfl, Nat.le_of_ble_eq_true rfl, pay_in hts (zwc_good zxc_ic _ _ _ _), List.mem_cons_self, hts2 _ zxc_ic, hts2 _ zxc_i1, ⟨by decide, by decide⟩, fun sig hs => by
    have e : (parseMethodDescriptor zyI.desc).map (fun d => d.parameters.length) = some 0 := by decide +kernel
    rw [hs] at e
    exact (Option.some.inj e).symm, hts2 _ zxc_l1⟩, hts2 _ zxc_ii, hts2 _ zxc_is⟩ ⟨fun a U g mk h => ⟨h.1, h.2.1, h.2.2.1.moved (u := U) (U := U.calling g mk a) (Vm.Alike.refl U.vm), h.2.2.2.moved (u := U) (U := U.calling g mk a) (Vm.Alike.refl U.vm)⟩, hrc, fun U hU hW => ⟨rfl, hU.trans hH, by rw [hU]; exact hC.moved hW.alike, by rw [hU]; exact hO.moved hW.alike⟩⟩ rfl rfl hl.1 rfl (lv_room (Nat.le_of_ble_eq_true rfl)) zdA_1 ⟨Nat.le_refl _, Nat.le_refl _⟩) va_S.rf (fun _ _ h => h) (fun _ h => h) (fun r1 u1 t1 H1 locs1 ht hvm hp hB hz hk hS1 => ?_)
  subst hp
  have e1 : H1 = s.heap := ht.symm.trans (hB.trans hH.symm)
  subst e1
  refine lv_if_eq hx hb zdA_4 (tgt := 16) rfl (fun h => absurd h (by decide)) (fun _ => ?_)
  refine lv_aload_n hx hb zdA_7 rfl (lv_at hl 0 rfl) ?_
  refine vk_getf hx hb hV (zFa_S hS1) hown (hts2 _ zxc_f4) (fun _ h => h) zdA_8 ?_
  refine lv_iload_n hx hb zdA_11 rfl (lv_at hl 1 rfl) ?_
  refine va_calli (A0 := zFa) (va_runS (As := [.ref t, .int i]) (rest := []) (n := 2) (bytes := prog_14_method_2_code) (maxL := 2) (ret := some .char) ⟨hx, hb, hml, hown, hts⟩ (zk_lch l A H0 t N f i x w v hv h0 h1 hin hf hw hc) ⟨⟨rfl, rfl, Nat.le_of_ble_eq_true rfl, Nat.le_of_ble_eq_true rfl, pay_in hts (zwc_good zxc_lc _ _ _ _), List.mem_cons_self, hts2 _ zxc_lc, hts2 _ zxc_i2, ⟨by decide, by decide⟩, fun sig hs => by
    have e : (parseMethodDescriptor zyL.desc).map (fun d => d.parameters.length) = some 2 := by decide +kernel
    rw [hs] at e
    exact (Option.some.inj e).symm, hts2 _ zxc_l2⟩, hts2 _ zxc_ls⟩ ⟨fun a U g mk h => ⟨h.1, h.2.1, h.2.2.1.moved (u := U) (U := U.calling g mk a) (Vm.Alike.refl U.vm), h.2.2.2.moved (u := U) (U := U.calling g mk a) (Vm.Alike.refl U.vm)⟩, fun U hU hW => ⟨rfl, hU.trans hH, by rw [hU]; exact hZ.moved hW.alike, by rw [hU]; exact hT.moved hW.alike⟩⟩ rfl rfl hl.1 rfl (lv_room (Nat.le_of_ble_eq_true rfl)) zdA_12 ⟨Nat.le_refl _, Nat.le_refl _⟩) hS1 (fun _ _ h => h) (fun _ h => h) (fun r2 u2 t2 H2 locs2 ht2 hvm2 hp2 hB2 hz2 hk2 hS2 => ?_)
  subst hp2
  exact W.zret hx hb hr hc (fun t3 ht3 hW => ⟨⟨r2, (), rfl, rfl, ht3.trans (ht2.symm.trans hB2)⟩, hS2.F ht3⟩) hS2.2.2 zdA_15
section ZCHR
variable {p : Program} {l : Launch} {e : Env} {R : Room} {s : State} {m : MethodId} {args : Array Value} {below : List Frame} {meth : Method} {c : Code} {H : Heap} {locs : List Loc} {cells slots : Nat} {Q : State → Prop}
variable {B : zBs} {D : va_G} {aD : Nat → ClassId} {L : Nat} {xs : Nat → Int32} {k : Nat} {pc pc' : Nat} {ls ls' : ZL} {st st' : ZS} {M M' : ZM} {LS : Array Slot}
theorem zs_chr {d j : Nat} {q : Nat × zPos} (S : zSt B D aD L xs k s H locs ls LS st M) (C : zCtx B D aD L xs k p s m args meth c) (hlk : zlk (zMl (zcl k)) j = some (1004, q)) (hd : decode (zcode k) pc = .ok (.invokevirtual j, 3)) (h : zchar d (pc + 3) ls st M = some (pc', ls', st', M')) (hfr : d ≤ R.frames) (hlo : 46 * d ≤ R.locals) (hcl : cells ≤ R.cells) (hsl : slots ≤ R.slots)
    (kk : ∀ H1 locs1, zSt B D aD L xs k s H1 locs1 ls' LS st' M' → M' = M → W p l e R s m args below meth c H1 locs1 cells slots Q (F0 m pc' LS (st'.map (zenc B)))) : W p l e R s m args below meth c H locs cells slots Q (F0 m pc LS (st.map (zenc B))) := by
  have hC := C
  obtain ⟨hx, hb, hml, hown, hts, hinit, hU⟩ := C
  have hl0 := zMl_ok (zcl k) (zgh_c hinit.2) _ (zlk_mem _ _ _ hlk)
  have hlink : Cond.methodLink (zcn (zcl k)) j zyA ∈ zTs := by
    unfold zMlOk at hl0
    dsimp only at hl0
    have hl0 : (zhas q.2 (.methodLink (zcn (zcl k)) j zyA) && _) = true := hl0
    rw [Bool.and_eq_true] at hl0
    exact zhas_in hl0.1
  obtain ⟨⟨adV, hK⟩, -, hCS, v, hZ, hv⟩ := hU.2.2.2.2.2.2.2.2.2.2.2
  have hkp : ∀ U : State, U.heap = H → ∀ q : Nat, q < s.heap.size → ¬ zAq B q → U.heap[q]? = s.heap[q]? := fun U hU q h1 h2 => by rw [hU]; exact S.2.2.1.2.1 q h1 h2
  unfold zchar at h
  split at h
  · next i a r =>
    split at h
    · next hz =>
      obtain ⟨rfl, rfl, rfl, rfl⟩ := zsome h
      obtain ⟨hd4, hcat, hai⟩ := hz
      have core : ∀ (u : Nat) (x : Int32), u < 2 → vp_in (Int32.ofInt i) (([4, 2] : List Nat).getD u 0) → ¬ Int32.ofInt i < 0 → Int32.ofInt i < Int32.ofNat (([4, 2] : List Nat).getD u 0) → (([[60, 61, 62, 126], [38, 124]] : List (List Int32)).getD u []).getD (Int32.ofInt i).toNatClampNeg 0 = x → ((x &&& 255).toUInt32 % 65536).toInt32 = x → narrow .char (.int x) = .int x → zrv B a = .ref (if u = 0 then B.2.2.1.2.1 else B.2.2.1.2.2) → zenc B (zI (zchr a i)) = .int x → zi32 (zchr a i) → W p l e R s m args below meth c H locs cells slots Q (F0 m pc LS ((zI i :: zA a :: r).map (zenc B))) := by
        intro u x hu hin h0 h1 hf hw hc hr hres hr32
        have hmem := hK.1 u hu
        show W p l e R s m args below meth c H locs cells slots Q (F0 m pc LS (.int (Int32.ofInt i) :: zrv B a :: r.map (zenc B)))
        rw [hr]
        have hW2 : 2 * (F0 m pc LS (.int (Int32.ofInt i) :: .ref (if u = 0 then B.2.2.1.2.1 else B.2.2.1.2.2) :: r.map (zenc B))).monitorRoom + ((r.map (zenc B)).map fun v => v.category).sum ≤ 8 := by
          rw [zcat_sum]
          show 2 * 0 + zcat r ≤ 8
          omega
        refine va_calli (A0 := zAq B) (va_runV (As := [.int (Int32.ofInt i)]) (rest := r.map (zenc B)) (n := 1) (bytes := prog_13_method_56_code) (maxL := 2) (ret := some .char) ⟨hx, hb, hml, hown, hts⟩ (zk_cha l (zAq B) H (if u = 0 then B.2.2.1.2.1 else B.2.2.1.2.2) (adV u) (([4, 2] : List Nat).getD u 0) (fun j => .int ((([[60, 61, 62, 126], [38, 124]] : List (List Int32)).getD u []).getD j 0)) (Int32.ofInt i) x x v hv h0 h1 hin (congrArg Value.int hf) hw hc) ⟨⟨rfl, rfl, (by show 3 + 1 ≤ R.frames; omega), (by show 8 + (2 + 11) + 64 ≤ R.locals; omega), pay_in hts (fun w hw => ⟨(List.mem_cons.mp hw).elim (fun e => e ▸ zxc_ac) id, zTs_good w ((List.mem_cons.mp hw).elim (fun e => e ▸ zxc_ac) id)⟩), List.mem_cons_self, hts _ zxc_ac, hts _ zxc_i1, ⟨by decide, by decide⟩, fun sig hs => by
          have e : (parseMethodDescriptor zyA.desc).map (fun d => d.parameters.length) = some 1 := by decide +kernel
          rw [hs] at e
          exact (Option.some.inj e).symm, hts _ hlink⟩, hts _ zxc_ai, hts _ zxc_as⟩ ⟨fun a U g mk h => ?_, ?_, fun U hU hW => ⟨rfl, hU, (hCS.moved hW.alike).kept (hkp U hU), ⟨(hmem.2.1.moved hW.alike).kept (hkp U hU), (hmem.2.2.1.moved hW.alike).kept (hkp U hU), (hmem.1.moved hW.alike).kept (hkp U hU)⟩, (hZ.moved hW.alike).kept (hkp U hU), (hmem.2.2.2.moved hW.alike).kept (hkp U hU)⟩⟩ rfl rfl S.2.2.2.1.2.1 rfl hW2 hd ⟨hcl, hsl⟩) S.2.2.1 (fun _ _ h => h.elim) (fun _ h => h.elim) (fun r1 u1 t1 H1 locs1 ht hvm hp hB hz hk hS1 => ?_)
        · have al : U.vm.Alike (U.calling g mk a).vm := Vm.Alike.refl U.vm
          obtain ⟨w1, w2, w3, ⟨w4, w5, w6⟩, w7, w8⟩ := h
          exact ⟨w1, w2, w3.moved (u := U) (U := U.calling g mk a) al, ⟨w4.moved (u := U) (U := U.calling g mk a) al, w5.moved (u := U) (U := U.calling g mk a) al, w6.moved (u := U) (U := U.calling g mk a) al⟩, w7.moved (u := U) (U := U.calling g mk a) al, w8.moved (u := U) (U := U.calling g mk a) al⟩
        · obtain ⟨cell, a1, a2, a3, a4⟩ := hmem.1
          exact ⟨cell, by rw [S.2.2.1.2.1 _ (Array.getElem?_eq_some_iff.mp a1).1 a4]; exact a1, a2, a3⟩
        · subst hp
          have e1 : H1 = H := ht.symm.trans hB
          subst e1
          have g := kk H1 locs1 ⟨S.1, S.2.1, hS1, S.2.2.2.1, fun w hw => (List.mem_cons.mp hw).elim (fun e => e ▸ hr32) (fun hw => S.2.2.2.2 w (List.mem_cons_of_mem _ (List.mem_cons_of_mem _ hw)))⟩ rfl
          have e2 : (zI (zchr a i) :: r).map (zenc B) = .int r1 :: r.map (zenc B) := by rw [List.map_cons, hres]
          rw [e2] at g
          exact g
      rcases hai with ⟨rfl, i0, i1⟩ | ⟨rfl, i0, i1⟩
      · have hi : i = 0 ∨ i = 1 ∨ i = 2 ∨ i = 3 := by omega
        rcases hi with rfl | rfl | rfl | rfl
        · exact core 0 60 (by decide) (zvp (by decide) ⟨by decide, by decide⟩ (by decide)) (by decide) (by decide) rfl rfl rfl rfl rfl ⟨by decide, by decide⟩
        · exact core 0 61 (by decide) (zvp (by decide) ⟨by decide, by decide⟩ (by decide)) (by decide) (by decide) rfl rfl rfl rfl rfl ⟨by decide, by decide⟩
        · exact core 0 62 (by decide) (zvp (by decide) ⟨by decide, by decide⟩ (by decide)) (by decide) (by decide) rfl rfl rfl rfl rfl ⟨by decide, by decide⟩
        · exact core 0 126 (by decide) (zvp (by decide) ⟨by decide, by decide⟩ (by decide)) (by decide) (by decide) rfl rfl rfl rfl rfl ⟨by decide, by decide⟩
      · have hi : i = 0 ∨ i = 1 := by omega
        rcases hi with rfl | rfl
        · exact core 1 38 (by decide) (zvp (by decide) ⟨by decide, by decide⟩ (by decide)) (by decide) (by decide) rfl rfl rfl rfl rfl ⟨by decide, by decide⟩
        · exact core 1 124 (by decide) (zvp (by decide) ⟨by decide, by decide⟩ (by decide)) (by decide) (by decide) rfl rfl rfl rfl rfl ⟨by decide, by decide⟩
    · cases h
  · cases h
end ZCHR
