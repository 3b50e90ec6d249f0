def zcode (k : Nat) : ByteArray := (zrow k).2.1
def zpair : List zRow → List zIns → Prop
  | t :: T, i :: I => zdok t.2.1 i ∧ zpair T I
  | _, [] => True
  | [], _ :: _ => False
theorem zpair_use : ∀ {T : List zRow} {I : List zIns}, zpair T I → ∀ (j : Nat) (df : zRow), ∀ q ∈ (I[j]?).getD [], decode ((T[j]?).getD df).2.1 q.1 = .ok q.2
  | t :: T, i :: I, h, 0, df, q, hq => h.1 q hq
  | t :: T, i :: I, h, j + 1, df, q, hq => by
    rw [List.getElem?_cons_succ] at hq ⊢
    exact zpair_use h.2 j df q hq
  | [], [], _, j, df, q, hq => by simp at hq
  | _ :: _, [], _, j, df, q, hq => by simp at hq
  | [], _ :: _, h, _, _, _, _ => h.elim
theorem zchk_0 : zpair zT_0 zI_0 := ⟨zdok_0, zdok_1, zdok_2, zdok_3, zdok_4, zdok_5, zdok_6, zdok_7, zdok_8, zdok_9, zdok_10, zdok_11, zdok_12, zdok_13, zdok_14, zdok_15, zdok_16, zdok_17, zdok_18, zdok_19, zdok_20, zdok_21, zdok_22, zdok_23, zdok_24, zdok_25, zdok_26, zdok_27, zdok_28, zdok_29, zdok_30, zdok_31, zdok_32, zdok_33, zdok_34, zdok_35, zdok_36, zdok_37, zdok_38, zdok_39, trivial⟩
theorem zchk_1 : zpair zT_1 zI_1 := ⟨zdok_40, zdok_41, zdok_42, zdok_43, zdok_44, zdok_45, zdok_46, zdok_47, zdok_48, zdok_49, zdok_50, zdok_51, zdok_52, zdok_53, zdok_54, zdok_55, zdok_56, zdok_57, zdok_58, zdok_59, zdok_60, zdok_61, zdok_62, zdok_63, zdok_64, zdok_65, zdok_66, zdok_67, zdok_68, zdok_69, zdok_70, zdok_71, zdok_72, zdok_73, zdok_74, zdok_75, zdok_76, zdok_77, zdok_78, zdok_79, trivial⟩
theorem zchk_2 : zpair zT_2 zI_2 := ⟨zdok_80, zdok_81, zdok_82, zdok_83, zdok_84, zdok_85, zdok_86, zdok_87, zdok_88, zdok_89, zdok_90, zdok_91, zdok_92, zdok_93, zdok_94, zdok_95, zdok_96, zdok_97, zdok_98, zdok_99, zdok_100, zdok_101, zdok_102, zdok_103, zdok_104, zdok_105, zdok_106, zdok_107, zdok_108, zdok_109, zdok_110, zdok_111, zdok_112, zdok_113, zdok_114, zdok_115, zdok_116, zdok_117, zdok_118, zdok_119, trivial⟩
theorem zchk_3 : zpair zT_3 zI_3 := ⟨zdok_120, zdok_121, zdok_122, zdok_123, zdok_124, zdok_125, zdok_126, zdok_127, zdok_128, zdok_129, zdok_130, zdok_131, zdok_132, zdok_133, zdok_134, zdok_135, zdok_136, zdok_137, zdok_138, zdok_139, zdok_140, zdok_141, zdok_142, zdok_143, zdok_144, zdok_145, zdok_146, zdok_147, zdok_148, zdok_149, zdok_150, zdok_151, zdok_152, zdok_153, zdok_154, zdok_155, zdok_156, zdok_157, zdok_158, zdok_159, trivial⟩
theorem zchk_4 : zpair zT_4 zI_4 := ⟨zdok_160, zdok_161, zdok_162, zdok_163, zdok_164, zdok_165, zdok_166, zdok_167, zdok_168, zdok_169, zdok_170, zdok_171, zdok_172, zdok_173, zdok_174, zdok_175, zdok_176, zdok_177, zdok_178, zdok_179, zdok_180, zdok_181, zdok_182, zdok_183, zdok_184, zdok_185, zdok_186, zdok_187, zdok_188, zdok_189, zdok_190, zdok_191, zdok_192, zdok_193, zdok_194, zdok_195, zdok_196, zdok_197, zdok_198, zdok_199, trivial⟩
theorem zchk_5 : zpair zT_5 zI_5 := ⟨zdok_200, zdok_201, zdok_202, zdok_203, zdok_204, zdok_205, zdok_206, zdok_207, zdok_208, zdok_209, zdok_210, zdok_211, zdok_212, zdok_213, zdok_214, zdok_215, zdok_216, zdok_217, zdok_218, zdok_219, zdok_220, zdok_221, zdok_222, zdok_223, zdok_224, zdok_225, zdok_226, zdok_227, zdok_228, zdok_229, zdok_230, zdok_231, zdok_232, zdok_233, zdok_234, zdok_235, zdok_236, zdok_237, zdok_238, zdok_239, trivial⟩
theorem zchk_6 : zpair zT_6 zI_6 := ⟨zdok_240, zdok_241, zdok_242, zdok_243, zdok_244, zdok_245, zdok_246, zdok_247, zdok_248, zdok_249, zdok_250, zdok_251, zdok_252, zdok_253, zdok_254, zdok_255, zdok_256, zdok_257, zdok_258, zdok_259, zdok_260, zdok_261, zdok_262, zdok_263, zdok_264, zdok_265, zdok_266, zdok_267, zdok_268, zdok_269, zdok_270, zdok_271, zdok_272, zdok_273, zdok_274, zdok_275, zdok_276, zdok_277, zdok_278, zdok_279, trivial⟩
theorem zchk_7 : zpair zT_7 zI_7 := ⟨zdok_280, zdok_281, zdok_282, zdok_283, zdok_284, zdok_285, zdok_286, zdok_287, zdok_288, zdok_289, zdok_290, zdok_291, zdok_292, zdok_293, zdok_294, zdok_295, zdok_296, zdok_297, zdok_298, zdok_299, zdok_300, zdok_301, zdok_302, zdok_303, zdok_304, zdok_305, zdok_306, zdok_307, zdok_308, zdok_309, zdok_310, zdok_311, zdok_312, zdok_313, zdok_314, zdok_315, zdok_316, zdok_317, zdok_318, zdok_319, trivial⟩
theorem zchk_8 : zpair zT_8 zI_8 := ⟨zdok_320, zdok_321, zdok_322, trivial⟩
theorem zrow_0 {k : Nat} (h : k / 40 = 0) : zrow k = (zT_0[k % 40]?).getD zNone := by
  unfold zrow
  simp only [h]
theorem zinsT_0 {k : Nat} (h : k / 40 = 0) : zinsT k = (zI_0[k % 40]?).getD [] := by
  unfold zinsT
  simp only [h]
theorem zrow_1 {k : Nat} (h : k / 40 = 1) : zrow k = (zT_1[k % 40]?).getD zNone := by
  unfold zrow
  simp only [h]
theorem zinsT_1 {k : Nat} (h : k / 40 = 1) : zinsT k = (zI_1[k % 40]?).getD [] := by
  unfold zinsT
  simp only [h]
theorem zrow_2 {k : Nat} (h : k / 40 = 2) : zrow k = (zT_2[k % 40]?).getD zNone := by
  unfold zrow
  simp only [h]
theorem zinsT_2 {k : Nat} (h : k / 40 = 2) : zinsT k = (zI_2[k % 40]?).getD [] := by
  unfold zinsT
  simp only [h]
theorem zrow_3 {k : Nat} (h : k / 40 = 3) : zrow k = (zT_3[k % 40]?).getD zNone := by
  unfold zrow
  simp only [h]
theorem zinsT_3 {k : Nat} (h : k / 40 = 3) : zinsT k = (zI_3[k % 40]?).getD [] := by
  unfold zinsT
  simp only [h]
theorem zrow_4 {k : Nat} (h : k / 40 = 4) : zrow k = (zT_4[k % 40]?).getD zNone := by
  unfold zrow
  simp only [h]
theorem zinsT_4 {k : Nat} (h : k / 40 = 4) : zinsT k = (zI_4[k % 40]?).getD [] := by
  unfold zinsT
  simp only [h]
theorem zrow_5 {k : Nat} (h : k / 40 = 5) : zrow k = (zT_5[k % 40]?).getD zNone := by
  unfold zrow
  simp only [h]
theorem zinsT_5 {k : Nat} (h : k / 40 = 5) : zinsT k = (zI_5[k % 40]?).getD [] := by
  unfold zinsT
  simp only [h]
theorem zrow_6 {k : Nat} (h : k / 40 = 6) : zrow k = (zT_6[k % 40]?).getD zNone := by
  unfold zrow
  simp only [h]
theorem zinsT_6 {k : Nat} (h : k / 40 = 6) : zinsT k = (zI_6[k % 40]?).getD [] := by
  unfold zinsT
  simp only [h]
theorem zrow_7 {k : Nat} (h : k / 40 = 7) : zrow k = (zT_7[k % 40]?).getD zNone := by
  unfold zrow
  simp only [h]
theorem zinsT_7 {k : Nat} (h : k / 40 = 7) : zinsT k = (zI_7[k % 40]?).getD [] := by
  unfold zinsT
  simp only [h]
theorem zrow_8 {k : Nat} (h : k / 40 = 8) : zrow k = (zT_8[k % 40]?).getD zNone := by
  unfold zrow
  simp only [h]
theorem zinsT_8 {k : Nat} (h : k / 40 = 8) : zinsT k = (zI_8[k % 40]?).getD [] := by
  unfold zinsT
  simp only [h]
theorem zrow_out {k : Nat} (h : 9 ≤ k / 40) : zrow k = zNone := by
  unfold zrow
  split
  · omega
  · omega
  · omega
  · omega
  · omega
  · omega
  · omega
  · omega
  · omega
  · rfl
theorem zinsT_out {k : Nat} (h : 9 ≤ k / 40) : zinsT k = [] := by
  unfold zinsT
  split
  · omega
  · omega
  · omega
  · omega
  · omega
  · omega
  · omega
  · omega
  · omega
  · rfl
theorem zins_ok {k pc : Nat} {q : Instr × Nat} (h : zins k pc = some q) : decode (zcode k) pc = .ok q := by
  have h1 : (pc, q) ∈ zinsT k := zlk_mem _ _ _ h
  have hc : zcode k = (zrow k).2.1 := rfl
  by_cases e0 : k / 40 = 0
  · rw [zinsT_0 e0] at h1
    rw [hc, zrow_0 e0]
    have h2 := zpair_use (T := zT_0) (I := zI_0) zchk_0 (k % 40) zNone (pc, q) h1
    exact h2
  by_cases e1 : k / 40 = 1
  · rw [zinsT_1 e1] at h1
    rw [hc, zrow_1 e1]
    have h2 := zpair_use (T := zT_1) (I := zI_1) zchk_1 (k % 40) zNone (pc, q) h1
    exact h2
  by_cases e2 : k / 40 = 2
  · rw [zinsT_2 e2] at h1
    rw [hc, zrow_2 e2]
    have h2 := zpair_use (T := zT_2) (I := zI_2) zchk_2 (k % 40) zNone (pc, q) h1
    exact h2
  by_cases e3 : k / 40 = 3
  · rw [zinsT_3 e3] at h1
    rw [hc, zrow_3 e3]
    have h2 := zpair_use (T := zT_3) (I := zI_3) zchk_3 (k % 40) zNone (pc, q) h1
    exact h2
  by_cases e4 : k / 40 = 4
  · rw [zinsT_4 e4] at h1
    rw [hc, zrow_4 e4]
    have h2 := zpair_use (T := zT_4) (I := zI_4) zchk_4 (k % 40) zNone (pc, q) h1
    exact h2
  by_cases e5 : k / 40 = 5
  · rw [zinsT_5 e5] at h1
    rw [hc, zrow_5 e5]
    have h2 := zpair_use (T := zT_5) (I := zI_5) zchk_5 (k % 40) zNone (pc, q) h1
    exact h2
  by_cases e6 : k / 40 = 6
  · rw [zinsT_6 e6] at h1
    rw [hc, zrow_6 e6]
    have h2 := zpair_use (T := zT_6) (I := zI_6) zchk_6 (k % 40) zNone (pc, q) h1
    exact h2
  by_cases e7 : k / 40 = 7
  · rw [zinsT_7 e7] at h1
    rw [hc, zrow_7 e7]
    have h2 := zpair_use (T := zT_7) (I := zI_7) zchk_7 (k % 40) zNone (pc, q) h1
    exact h2
  by_cases e8 : k / 40 = 8
  · rw [zinsT_8 e8] at h1
    rw [hc, zrow_8 e8]
    have h2 := zpair_use (T := zT_8) (I := zI_8) zchk_8 (k % 40) zNone (pc, q) h1
    exact h2
  rw [zinsT_out (by omega)] at h1
  cases h1
def zhas (q : zPos) (w : Cond) : Bool := decide ((zpart q.1)[q.2]? = some w) && goodWord w
theorem zpart_in {i : Nat} {w : Cond} (h : w ∈ zpart i) : w ∈ lw_tbl := by
  unfold zpart at h
  unfold lw_tbl tables_1
  simp only [List.mem_append]
  split at h
  · simp only [h, true_or, or_true]
  · simp only [h, true_or, or_true]
  · simp only [h, true_or, or_true]
  · simp only [h, true_or, or_true]
  · simp only [h, true_or, or_true]
  · simp only [h, true_or, or_true]
  · simp only [h, true_or, or_true]
  · simp only [h, true_or, or_true]
  · simp only [h, true_or, or_true]
  · cases h
def zTs : List Cond := lw_tbl.filter goodWord
theorem zhas_in {q : zPos} {w : Cond} (h : zhas q w = true) : w ∈ zTs := by
  unfold zhas at h
  rw [Bool.and_eq_true] at h
  exact List.mem_filter.mpr ⟨zpart_in (List.mem_of_getElem? (of_decide_eq_true h.1)), h.2⟩
theorem zTs_good : ∀ w ∈ zTs, (w.onTables && w.keeps) = true ∨ ∃ ty, w = .arrayClass ty := fun _ h => good_of_word (List.mem_filter.mp h).2
def zmOk (t : zRow) : Bool := Nat.ble 3 t.2.2.2.2.1 || ((bif Nat.beq t.2.2.2.2.1 0 then zhas t.2.2.2.2.2.2.2.2.1 (.static t.1) else zhas t.2.2.2.2.2.2.2.2.1 (.instanceMethod t.1)) && zhas t.2.2.2.2.2.2.2.2.2.1 (.initialized t.1.cls) && (!(Nat.beq t.2.2.2.2.1 1) || zhas t.2.2.2.2.2.2.2.2.2.2 (.selects t.1.cls t.1 t.1)) && (!(Nat.beq t.2.2.2.2.1 2) || decide (t.1.name = "<init>")) && decide (t.1.cls ≠ "java/lang/invoke/MethodHandle" ∧ t.1.cls ≠ "java/lang/invoke/VarHandle" ∧ (parseMethodDescriptor t.1.desc).map (fun d => d.parameters.length) = some t.2.2.2.2.2.1) && plainName t.1.cls && Nat.ble t.2.2.1 40 && decide (t.1.cls = zcn t.2.2.2.2.2.2.1) && Nat.ble t.2.2.2.2.2.2.1 12 && (!(Nat.beq t.2.2.2.2.1 2) || decide (t.2.2.2.1 = none)))
def zmBoth (t : zRow) : Prop := zmOk t = true ∧ (3 ≤ t.2.2.2.2.1 ∨ (zpart t.2.2.2.2.2.2.2.1.1)[t.2.2.2.2.2.2.2.1.2]? = some (.code t.1 t.2.1 t.2.2.1 t.2.2.2.1))
def zmAll : List zRow → Prop
  | [] => True
  | t :: T => zmBoth t ∧ zmAll T
theorem zmAll_use : ∀ {T : List zRow}, zmAll T → ∀ j : Nat, zmBoth ((T[j]?).getD zNone)
  | [], _, j => by
    rw [List.getElem?_nil]
    exact ⟨rfl, Or.inl (by decide)⟩
  | t :: T, h, 0 => h.1
  | t :: T, h, j + 1 => by
    rw [List.getElem?_cons_succ]
    exact zmAll_use h.2 j
theorem zmr_0 : zmBoth zr_0 := ⟨by decide +kernel, Or.inr rfl⟩
theorem zmr_1 : zmBoth zr_1 := ⟨by decide +kernel, Or.inr rfl⟩
theorem zmr_2 : zmBoth zr_2 := ⟨by decide +kernel, Or.inr rfl⟩
theorem zmr_3 : zmBoth zr_3 := ⟨by decide +kernel, Or.inr rfl⟩
theorem zmr_4 : zmBoth zr_4 := ⟨by decide +kernel, Or.inr rfl⟩
theorem zmr_5 : zmBoth zr_5 := ⟨by decide +kernel, Or.inr rfl⟩
theorem zmr_6 : zmBoth zr_6 := ⟨by decide +kernel, Or.inr rfl⟩
theorem zmr_7 : zmBoth zr_7 := ⟨by decide +kernel, Or.inr rfl⟩
theorem zmr_8 : zmBoth zr_8 := ⟨by decide +kernel, Or.inr rfl⟩
theorem zmr_9 : zmBoth zr_9 := ⟨by decide +kernel, Or.inr rfl⟩
theorem zmr_10 : zmBoth zr_10 := ⟨by decide +kernel, Or.inr rfl⟩
theorem zmr_11 : zmBoth zr_11 := ⟨by decide +kernel, Or.inr rfl⟩
theorem zmr_12 : zmBoth zr_12 := ⟨by decide +kernel, Or.inr rfl⟩
theorem zmr_13 : zmBoth zr_13 := ⟨by decide +kernel, Or.inr rfl⟩
theorem zmr_14 : zmBoth zr_14 := ⟨by decide +kernel, Or.inr rfl⟩
theorem zmr_15 : zmBoth zr_15 := ⟨by decide +kernel, Or.inr rfl⟩
theorem zmr_16 : zmBoth zr_16 := ⟨by decide +kernel, Or.inr rfl⟩
theorem zmr_17 : zmBoth zr_17 := ⟨by decide +kernel, Or.inr rfl⟩
theorem zmr_18 : zmBoth zr_18 := ⟨by decide +kernel, Or.inr rfl⟩
theorem zmr_19 : zmBoth zr_19 := ⟨by decide +kernel, Or.inr rfl⟩
theorem zmr_20 : zmBoth zr_20 := ⟨by decide +kernel, Or.inr rfl⟩
theorem zmr_21 : zmBoth zr_21 := ⟨by decide +kernel, Or.inr rfl⟩
theorem zmr_22 : zmBoth zr_22 := ⟨by decide +kernel, Or.inr rfl⟩
theorem zmr_23 : zmBoth zr_23 := ⟨by decide +kernel, Or.inr rfl⟩
theorem zmr_24 : zmBoth zr_24 := ⟨by decide +kernel, Or.inr rfl⟩
theorem zmr_25 : zmBoth zr_25 := ⟨by decide +kernel, Or.inr rfl⟩
theorem zmr_26 : zmBoth zr_26 := ⟨by decide +kernel, Or.inr rfl⟩
theorem zmr_27 : zmBoth zr_27 := ⟨by decide +kernel, Or.inr rfl⟩
theorem zmr_28 : zmBoth zr_28 := ⟨by decide +kernel, Or.inr rfl⟩
theorem zmr_29 : zmBoth zr_29 := ⟨by decide +kernel, Or.inr rfl⟩
theorem zmr_30 : zmBoth zr_30 := ⟨by decide +kernel, Or.inr rfl⟩
theorem zmr_31 : zmBoth zr_31 := ⟨by decide +kernel, Or.inr rfl⟩
theorem zmr_32 : zmBoth zr_32 := ⟨by decide +kernel, Or.inr rfl⟩
theorem zmr_33 : zmBoth zr_33 := ⟨by decide +kernel, Or.inr rfl⟩
theorem zmr_34 : zmBoth zr_34 := ⟨by decide +kernel, Or.inr rfl⟩
theorem zmr_35 : zmBoth zr_35 := ⟨by decide +kernel, Or.inr rfl⟩
theorem zmr_36 : zmBoth zr_36 := ⟨by decide +kernel, Or.inr rfl⟩
theorem zmr_37 : zmBoth zr_37 := ⟨by decide +kernel, Or.inr rfl⟩
theorem zmr_38 : zmBoth zr_38 := ⟨by decide +kernel, Or.inr rfl⟩
theorem zmr_39 : zmBoth zr_39 := ⟨by decide +kernel, Or.inr rfl⟩
theorem zmr_40 : zmBoth zr_40 := ⟨by decide +kernel, Or.inr rfl⟩
theorem zmr_41 : zmBoth zr_41 := ⟨by decide +kernel, Or.inr rfl⟩
theorem zmr_42 : zmBoth zr_42 := ⟨by decide +kernel, Or.inr rfl⟩
theorem zmr_43 : zmBoth zr_43 := ⟨by decide +kernel, Or.inr rfl⟩
theorem zmr_44 : zmBoth zr_44 := ⟨by decide +kernel, Or.inr rfl⟩
theorem zmr_45 : zmBoth zr_45 := ⟨by decide +kernel, Or.inr rfl⟩
theorem zmr_46 : zmBoth zr_46 := ⟨by decide +kernel, Or.inr rfl⟩
theorem zmr_47 : zmBoth zr_47 := ⟨by decide +kernel, Or.inr rfl⟩
theorem zmr_48 : zmBoth zr_48 := ⟨by decide +kernel, Or.inr rfl⟩
theorem zmr_49 : zmBoth zr_49 := ⟨by decide +kernel, Or.inr rfl⟩
theorem zmr_50 : zmBoth zr_50 := ⟨by decide +kernel, Or.inr rfl⟩
theorem zmr_51 : zmBoth zr_51 := ⟨by decide +kernel, Or.inr rfl⟩
theorem zmr_52 : zmBoth zr_52 := ⟨by decide +kernel, Or.inr rfl⟩
theorem zmr_53 : zmBoth zr_53 := ⟨by decide +kernel, Or.inr rfl⟩
theorem zmr_54 : zmBoth zr_54 := ⟨by decide +kernel, Or.inr rfl⟩
theorem zmr_55 : zmBoth zr_55 := ⟨by decide +kernel, Or.inr rfl⟩
theorem zmr_56 : zmBoth zr_56 := ⟨by decide +kernel, Or.inr rfl⟩
theorem zmr_57 : zmBoth zr_57 := ⟨by decide +kernel, Or.inr rfl⟩
theorem zmr_58 : zmBoth zr_58 := ⟨by decide +kernel, Or.inr rfl⟩
theorem zmr_59 : zmBoth zr_59 := ⟨by decide +kernel, Or.inr rfl⟩
theorem zmr_60 : zmBoth zr_60 := ⟨by decide +kernel, Or.inr rfl⟩
theorem zmr_61 : zmBoth zr_61 := ⟨by decide +kernel, Or.inr rfl⟩
theorem zmr_62 : zmBoth zr_62 := ⟨by decide +kernel, Or.inr rfl⟩
theorem zmr_63 : zmBoth zr_63 := ⟨by decide +kernel, Or.inr rfl⟩
theorem zmr_64 : zmBoth zr_64 := ⟨by decide +kernel, Or.inr rfl⟩
theorem zmr_65 : zmBoth zr_65 := ⟨by decide +kernel, Or.inr rfl⟩
theorem zmr_66 : zmBoth zr_66 := ⟨by decide +kernel, Or.inr rfl⟩
theorem zmr_67 : zmBoth zr_67 := ⟨by decide +kernel, Or.inr rfl⟩
theorem zmr_68 : zmBoth zr_68 := ⟨by decide +kernel, Or.inr rfl⟩
theorem zmr_69 : zmBoth zr_69 := ⟨by decide +kernel, Or.inr rfl⟩
theorem zmr_70 : zmBoth zr_70 := ⟨by decide +kernel, Or.inr rfl⟩
theorem zmr_71 : zmBoth zr_71 := ⟨by decide +kernel, Or.inr rfl⟩
theorem zmr_72 : zmBoth zr_72 := ⟨by decide +kernel, Or.inr rfl⟩
theorem zmr_73 : zmBoth zr_73 := ⟨by decide +kernel, Or.inr rfl⟩
theorem zmr_74 : zmBoth zr_74 := ⟨by decide +kernel, Or.inr rfl⟩
theorem zmr_75 : zmBoth zr_75 := ⟨by decide +kernel, Or.inr rfl⟩
theorem zmr_76 : zmBoth zr_76 := ⟨by decide +kernel, Or.inr rfl⟩
theorem zmr_77 : zmBoth zr_77 := ⟨by decide +kernel, Or.inr rfl⟩
theorem zmr_78 : zmBoth zr_78 := ⟨by decide +kernel, Or.inr rfl⟩
theorem zmr_79 : zmBoth zr_79 := ⟨by decide +kernel, Or.inr rfl⟩
theorem zmr_80 : zmBoth zr_80 := ⟨by decide +kernel, Or.inr rfl⟩
theorem zmr_81 : zmBoth zr_81 := ⟨by decide +kernel, Or.inr rfl⟩
theorem zmr_82 : zmBoth zr_82 := ⟨by decide +kernel, Or.inr rfl⟩
theorem zmr_83 : zmBoth zr_83 := ⟨by decide +kernel, Or.inr rfl⟩
theorem zmr_84 : zmBoth zr_84 := ⟨by decide +kernel, Or.inr rfl⟩
theorem zmr_85 : zmBoth zr_85 := ⟨by decide +kernel, Or.inr rfl⟩
theorem zmr_86 : zmBoth zr_86 := ⟨by decide +kernel, Or.inr rfl⟩
theorem zmr_87 : zmBoth zr_87 := ⟨by decide +kernel, Or.inr rfl⟩
theorem zmr_88 : zmBoth zr_88 := ⟨by decide +kernel, Or.inr rfl⟩
theorem zmr_89 : zmBoth zr_89 := ⟨by decide +kernel, Or.inr rfl⟩
theorem zmr_90 : zmBoth zr_90 := ⟨by decide +kernel, Or.inr rfl⟩
theorem zmr_91 : zmBoth zr_91 := ⟨by decide +kernel, Or.inr rfl⟩
theorem zmr_92 : zmBoth zr_92 := ⟨by decide +kernel, Or.inr rfl⟩
theorem zmr_93 : zmBoth zr_93 := ⟨by decide +kernel, Or.inr rfl⟩
theorem zmr_94 : zmBoth zr_94 := ⟨by decide +kernel, Or.inr rfl⟩
theorem zmr_95 : zmBoth zr_95 := ⟨by decide +kernel, Or.inr rfl⟩
theorem zmr_96 : zmBoth zr_96 := ⟨by decide +kernel, Or.inr rfl⟩
theorem zmr_97 : zmBoth zr_97 := ⟨by decide +kernel, Or.inr rfl⟩
theorem zmr_98 : zmBoth zr_98 := ⟨by decide +kernel, Or.inr rfl⟩
theorem zmr_99 : zmBoth zr_99 := ⟨by decide +kernel, Or.inr rfl⟩
theorem zmr_100 : zmBoth zr_100 := ⟨by decide +kernel, Or.inr rfl⟩
theorem zmr_101 : zmBoth zr_101 := ⟨by decide +kernel, Or.inr rfl⟩
theorem zmr_102 : zmBoth zr_102 := ⟨by decide +kernel, Or.inr rfl⟩
theorem zmr_103 : zmBoth zr_103 := ⟨by decide +kernel, Or.inr rfl⟩
theorem zmr_104 : zmBoth zr_104 := ⟨by decide +kernel, Or.inr rfl⟩
theorem zmr_105 : zmBoth zr_105 := ⟨by decide +kernel, Or.inr rfl⟩
theorem zmr_106 : zmBoth zr_106 := ⟨by decide +kernel, Or.inr rfl⟩
theorem zmr_107 : zmBoth zr_107 := ⟨by decide +kernel, Or.inr rfl⟩
theorem zmr_108 : zmBoth zr_108 := ⟨by decide +kernel, Or.inr rfl⟩
theorem zmr_109 : zmBoth zr_109 := ⟨by decide +kernel, Or.inr rfl⟩
theorem zmr_110 : zmBoth zr_110 := ⟨by decide +kernel, Or.inr rfl⟩
theorem zmr_111 : zmBoth zr_111 := ⟨by decide +kernel, Or.inr rfl⟩
theorem zmr_112 : zmBoth zr_112 := ⟨by decide +kernel, Or.inr rfl⟩
theorem zmr_113 : zmBoth zr_113 := ⟨by decide +kernel, Or.inr rfl⟩
theorem zmr_114 : zmBoth zr_114 := ⟨by decide +kernel, Or.inr rfl⟩
theorem zmr_115 : zmBoth zr_115 := ⟨by decide +kernel, Or.inr rfl⟩
theorem zmr_116 : zmBoth zr_116 := ⟨by decide +kernel, Or.inr rfl⟩
theorem zmr_117 : zmBoth zr_117 := ⟨by decide +kernel, Or.inr rfl⟩
theorem zmr_118 : zmBoth zr_118 := ⟨by decide +kernel, Or.inr rfl⟩
theorem zmr_119 : zmBoth zr_119 := ⟨by decide +kernel, Or.inr rfl⟩
theorem zmr_120 : zmBoth zr_120 := ⟨by decide +kernel, Or.inr rfl⟩
theorem zmr_121 : zmBoth zr_121 := ⟨by decide +kernel, Or.inr rfl⟩
theorem zmr_122 : zmBoth zr_122 := ⟨by decide +kernel, Or.inr rfl⟩
theorem zmr_123 : zmBoth zr_123 := ⟨by decide +kernel, Or.inr rfl⟩
theorem zmr_124 : zmBoth zr_124 := ⟨by decide +kernel, Or.inr rfl⟩
theorem zmr_125 : zmBoth zr_125 := ⟨by decide +kernel, Or.inr rfl⟩
theorem zmr_126 : zmBoth zr_126 := ⟨by decide +kernel, Or.inr rfl⟩
theorem zmr_127 : zmBoth zr_127 := ⟨by decide +kernel, Or.inr rfl⟩
theorem zmr_128 : zmBoth zr_128 := ⟨by decide +kernel, Or.inr rfl⟩
theorem zmr_129 : zmBoth zr_129 := ⟨by decide +kernel, Or.inr rfl⟩
theorem zmr_130 : zmBoth zr_130 := ⟨by decide +kernel, Or.inr rfl⟩
theorem zmr_131 : zmBoth zr_131 := ⟨by decide +kernel, Or.inr rfl⟩
theorem zmr_132 : zmBoth zr_132 := ⟨by decide +kernel, Or.inr rfl⟩
theorem zmr_133 : zmBoth zr_133 := ⟨by decide +kernel, Or.inr rfl⟩
theorem zmr_134 : zmBoth zr_134 := ⟨by decide +kernel, Or.inr rfl⟩
theorem zmr_135 : zmBoth zr_135 := ⟨by decide +kernel, Or.inr rfl⟩
theorem zmr_136 : zmBoth zr_136 := ⟨by decide +kernel, Or.inr rfl⟩
theorem zmr_137 : zmBoth zr_137 := ⟨by decide +kernel, Or.inr rfl⟩
theorem zmr_138 : zmBoth zr_138 := ⟨by decide +kernel, Or.inr rfl⟩
theorem zmr_139 : zmBoth zr_139 := ⟨by decide +kernel, Or.inr rfl⟩
theorem zmr_140 : zmBoth zr_140 := ⟨by decide +kernel, Or.inr rfl⟩
theorem zmr_141 : zmBoth zr_141 := ⟨by decide +kernel, Or.inr rfl⟩
theorem zmr_142 : zmBoth zr_142 := ⟨by decide +kernel, Or.inr rfl⟩
theorem zmr_143 : zmBoth zr_143 := ⟨by decide +kernel, Or.inr rfl⟩
theorem zmr_144 : zmBoth zr_144 := ⟨by decide +kernel, Or.inr rfl⟩
theorem zmr_145 : zmBoth zr_145 := ⟨by decide +kernel, Or.inr rfl⟩
theorem zmr_146 : zmBoth zr_146 := ⟨by decide +kernel, Or.inr rfl⟩
theorem zmr_147 : zmBoth zr_147 := ⟨by decide +kernel, Or.inr rfl⟩
theorem zmr_148 : zmBoth zr_148 := ⟨by decide +kernel, Or.inr rfl⟩
theorem zmr_149 : zmBoth zr_149 := ⟨by decide +kernel, Or.inr rfl⟩
theorem zmr_150 : zmBoth zr_150 := ⟨by decide +kernel, Or.inr rfl⟩
theorem zmr_151 : zmBoth zr_151 := ⟨by decide +kernel, Or.inr rfl⟩
theorem zmr_152 : zmBoth zr_152 := ⟨by decide +kernel, Or.inr rfl⟩
theorem zmr_153 : zmBoth zr_153 := ⟨by decide +kernel, Or.inr rfl⟩
theorem zmr_154 : zmBoth zr_154 := ⟨by decide +kernel, Or.inr rfl⟩
theorem zmr_155 : zmBoth zr_155 := ⟨by decide +kernel, Or.inr rfl⟩
theorem zmr_156 : zmBoth zr_156 := ⟨by decide +kernel, Or.inr rfl⟩
theorem zmr_157 : zmBoth zr_157 := ⟨by decide +kernel, Or.inr rfl⟩
theorem zmr_158 : zmBoth zr_158 := ⟨by decide +kernel, Or.inr rfl⟩
theorem zmr_159 : zmBoth zr_159 := ⟨by decide +kernel, Or.inr rfl⟩
theorem zmr_160 : zmBoth zr_160 := ⟨by decide +kernel, Or.inr rfl⟩
theorem zmr_161 : zmBoth zr_161 := ⟨by decide +kernel, Or.inr rfl⟩
theorem zmr_162 : zmBoth zr_162 := ⟨by decide +kernel, Or.inr rfl⟩
theorem zmr_163 : zmBoth zr_163 := ⟨by decide +kernel, Or.inr rfl⟩
theorem zmr_164 : zmBoth zr_164 := ⟨by decide +kernel, Or.inr rfl⟩
theorem zmr_165 : zmBoth zr_165 := ⟨by decide +kernel, Or.inr rfl⟩
theorem zmr_166 : zmBoth zr_166 := ⟨by decide +kernel, Or.inr rfl⟩
theorem zmr_167 : zmBoth zr_167 := ⟨by decide +kernel, Or.inr rfl⟩
theorem zmr_168 : zmBoth zr_168 := ⟨by decide +kernel, Or.inr rfl⟩
theorem zmr_169 : zmBoth zr_169 := ⟨by decide +kernel, Or.inr rfl⟩
theorem zmr_170 : zmBoth zr_170 := ⟨by decide +kernel, Or.inr rfl⟩
theorem zmr_171 : zmBoth zr_171 := ⟨by decide +kernel, Or.inr rfl⟩
theorem zmr_172 : zmBoth zr_172 := ⟨by decide +kernel, Or.inr rfl⟩
theorem zmr_173 : zmBoth zr_173 := ⟨by decide +kernel, Or.inr rfl⟩
theorem zmr_174 : zmBoth zr_174 := ⟨by decide +kernel, Or.inr rfl⟩
theorem zmr_175 : zmBoth zr_175 := ⟨by decide +kernel, Or.inr rfl⟩
theorem zmr_176 : zmBoth zr_176 := ⟨by decide +kernel, Or.inr rfl⟩
theorem zmr_177 : zmBoth zr_177 := ⟨by decide +kernel, Or.inr rfl⟩
theorem zmr_178 : zmBoth zr_178 := ⟨by decide +kernel, Or.inr rfl⟩
theorem zmr_179 : zmBoth zr_179 := ⟨by decide +kernel, Or.inr rfl⟩
theorem zmr_180 : zmBoth zr_180 := ⟨by decide +kernel, Or.inr rfl⟩
theorem zmr_181 : zmBoth zr_181 := ⟨by decide +kernel, Or.inr rfl⟩
theorem zmr_182 : zmBoth zr_182 := ⟨by decide +kernel, Or.inr rfl⟩
theorem zmr_183 : zmBoth zr_183 := ⟨by decide +kernel, Or.inr rfl⟩
theorem zmr_184 : zmBoth zr_184 := ⟨by decide +kernel, Or.inr rfl⟩
theorem zmr_185 : zmBoth zr_185 := ⟨by decide +kernel, Or.inr rfl⟩
theorem zmr_186 : zmBoth zr_186 := ⟨by decide +kernel, Or.inr rfl⟩
theorem zmr_187 : zmBoth zr_187 := ⟨by decide +kernel, Or.inr rfl⟩
theorem zmr_188 : zmBoth zr_188 := ⟨by decide +kernel, Or.inr rfl⟩
theorem zmr_189 : zmBoth zr_189 := ⟨by decide +kernel, Or.inr rfl⟩
theorem zmr_190 : zmBoth zr_190 := ⟨by decide +kernel, Or.inr rfl⟩
theorem zmr_191 : zmBoth zr_191 := ⟨by decide +kernel, Or.inr rfl⟩
theorem zmr_192 : zmBoth zr_192 := ⟨by decide +kernel, Or.inr rfl⟩
theorem zmr_193 : zmBoth zr_193 := ⟨by decide +kernel, Or.inr rfl⟩
theorem zmr_194 : zmBoth zr_194 := ⟨by decide +kernel, Or.inr rfl⟩
theorem zmr_195 : zmBoth zr_195 := ⟨by decide +kernel, Or.inr rfl⟩
theorem zmr_196 : zmBoth zr_196 := ⟨by decide +kernel, Or.inr rfl⟩
theorem zmr_197 : zmBoth zr_197 := ⟨by decide +kernel, Or.inr rfl⟩
theorem zmr_198 : zmBoth zr_198 := ⟨by decide +kernel, Or.inr rfl⟩
theorem zmr_199 : zmBoth zr_199 := ⟨by decide +kernel, Or.inr rfl⟩
theorem zmr_200 : zmBoth zr_200 := ⟨by decide +kernel, Or.inr rfl⟩
theorem zmr_201 : zmBoth zr_201 := ⟨by decide +kernel, Or.inr rfl⟩
theorem zmr_202 : zmBoth zr_202 := ⟨by decide +kernel, Or.inr rfl⟩
theorem zmr_203 : zmBoth zr_203 := ⟨by decide +kernel, Or.inr rfl⟩
theorem zmr_204 : zmBoth zr_204 := ⟨by decide +kernel, Or.inr rfl⟩
theorem zmr_205 : zmBoth zr_205 := ⟨by decide +kernel, Or.inr rfl⟩
theorem zmr_206 : zmBoth zr_206 := ⟨by decide +kernel, Or.inr rfl⟩
theorem zmr_207 : zmBoth zr_207 := ⟨by decide +kernel, Or.inr rfl⟩
theorem zmr_208 : zmBoth zr_208 := ⟨by decide +kernel, Or.inr rfl⟩
theorem zmr_209 : zmBoth zr_209 := ⟨by decide +kernel, Or.inr rfl⟩
theorem zmr_210 : zmBoth zr_210 := ⟨by decide +kernel, Or.inr rfl⟩
theorem zmr_211 : zmBoth zr_211 := ⟨by decide +kernel, Or.inr rfl⟩
theorem zmr_212 : zmBoth zr_212 := ⟨by decide +kernel, Or.inr rfl⟩
theorem zmr_213 : zmBoth zr_213 := ⟨by decide +kernel, Or.inr rfl⟩
theorem zmr_214 : zmBoth zr_214 := ⟨by decide +kernel, Or.inr rfl⟩
theorem zmr_215 : zmBoth zr_215 := ⟨by decide +kernel, Or.inr rfl⟩
theorem zmr_216 : zmBoth zr_216 := ⟨by decide +kernel, Or.inr rfl⟩
theorem zmr_217 : zmBoth zr_217 := ⟨by decide +kernel, Or.inr rfl⟩
theorem zmr_218 : zmBoth zr_218 := ⟨by decide +kernel, Or.inr rfl⟩
theorem zmr_219 : zmBoth zr_219 := ⟨by decide +kernel, Or.inr rfl⟩
theorem zmr_220 : zmBoth zr_220 := ⟨by decide +kernel, Or.inr rfl⟩
theorem zmr_221 : zmBoth zr_221 := ⟨by decide +kernel, Or.inr rfl⟩
theorem zmr_222 : zmBoth zr_222 := ⟨by decide +kernel, Or.inr rfl⟩
theorem zmr_223 : zmBoth zr_223 := ⟨by decide +kernel, Or.inr rfl⟩
theorem zmr_224 : zmBoth zr_224 := ⟨by decide +kernel, Or.inr rfl⟩
theorem zmr_225 : zmBoth zr_225 := ⟨by decide +kernel, Or.inr rfl⟩
theorem zmr_226 : zmBoth zr_226 := ⟨by decide +kernel, Or.inr rfl⟩
theorem zmr_227 : zmBoth zr_227 := ⟨by decide +kernel, Or.inr rfl⟩
theorem zmr_228 : zmBoth zr_228 := ⟨by decide +kernel, Or.inr rfl⟩
theorem zmr_229 : zmBoth zr_229 := ⟨by decide +kernel, Or.inr rfl⟩
theorem zmr_230 : zmBoth zr_230 := ⟨by decide +kernel, Or.inr rfl⟩
theorem zmr_231 : zmBoth zr_231 := ⟨by decide +kernel, Or.inr rfl⟩
theorem zmr_232 : zmBoth zr_232 := ⟨by decide +kernel, Or.inr rfl⟩
theorem zmr_233 : zmBoth zr_233 := ⟨by decide +kernel, Or.inr rfl⟩
theorem zmr_234 : zmBoth zr_234 := ⟨by decide +kernel, Or.inr rfl⟩
theorem zmr_235 : zmBoth zr_235 := ⟨by decide +kernel, Or.inr rfl⟩
theorem zmr_236 : zmBoth zr_236 := ⟨by decide +kernel, Or.inr rfl⟩
theorem zmr_237 : zmBoth zr_237 := ⟨by decide +kernel, Or.inr rfl⟩
theorem zmr_238 : zmBoth zr_238 := ⟨by decide +kernel, Or.inr rfl⟩
theorem zmr_239 : zmBoth zr_239 := ⟨by decide +kernel, Or.inr rfl⟩
theorem zmr_240 : zmBoth zr_240 := ⟨by decide +kernel, Or.inr rfl⟩
theorem zmr_241 : zmBoth zr_241 := ⟨by decide +kernel, Or.inr rfl⟩
theorem zmr_242 : zmBoth zr_242 := ⟨by decide +kernel, Or.inr rfl⟩
theorem zmr_243 : zmBoth zr_243 := ⟨by decide +kernel, Or.inr rfl⟩
theorem zmr_244 : zmBoth zr_244 := ⟨by decide +kernel, Or.inr rfl⟩
theorem zmr_245 : zmBoth zr_245 := ⟨by decide +kernel, Or.inr rfl⟩
theorem zmr_246 : zmBoth zr_246 := ⟨by decide +kernel, Or.inr rfl⟩
theorem zmr_247 : zmBoth zr_247 := ⟨by decide +kernel, Or.inr rfl⟩
theorem zmr_248 : zmBoth zr_248 := ⟨by decide +kernel, Or.inr rfl⟩
theorem zmr_249 : zmBoth zr_249 := ⟨by decide +kernel, Or.inr rfl⟩
theorem zmr_250 : zmBoth zr_250 := ⟨by decide +kernel, Or.inr rfl⟩
theorem zmr_251 : zmBoth zr_251 := ⟨by decide +kernel, Or.inr rfl⟩
theorem zmr_252 : zmBoth zr_252 := ⟨by decide +kernel, Or.inr rfl⟩
theorem zmr_253 : zmBoth zr_253 := ⟨by decide +kernel, Or.inr rfl⟩
theorem zmr_254 : zmBoth zr_254 := ⟨by decide +kernel, Or.inr rfl⟩
theorem zmr_255 : zmBoth zr_255 := ⟨by decide +kernel, Or.inr rfl⟩
theorem zmr_256 : zmBoth zr_256 := ⟨by decide +kernel, Or.inr rfl⟩
theorem zmr_257 : zmBoth zr_257 := ⟨by decide +kernel, Or.inr rfl⟩
theorem zmr_258 : zmBoth zr_258 := ⟨by decide +kernel, Or.inr rfl⟩
theorem zmr_259 : zmBoth zr_259 := ⟨by decide +kernel, Or.inr rfl⟩
theorem zmr_260 : zmBoth zr_260 := ⟨by decide +kernel, Or.inr rfl⟩
theorem zmr_261 : zmBoth zr_261 := ⟨by decide +kernel, Or.inr rfl⟩
theorem zmr_262 : zmBoth zr_262 := ⟨by decide +kernel, Or.inr rfl⟩
theorem zmr_263 : zmBoth zr_263 := ⟨by decide +kernel, Or.inr rfl⟩
theorem zmr_264 : zmBoth zr_264 := ⟨by decide +kernel, Or.inr rfl⟩
theorem zmr_265 : zmBoth zr_265 := ⟨by decide +kernel, Or.inr rfl⟩
theorem zmr_266 : zmBoth zr_266 := ⟨by decide +kernel, Or.inr rfl⟩
theorem zmr_267 : zmBoth zr_267 := ⟨by decide +kernel, Or.inr rfl⟩
theorem zmr_268 : zmBoth zr_268 := ⟨by decide +kernel, Or.inr rfl⟩
theorem zmr_269 : zmBoth zr_269 := ⟨by decide +kernel, Or.inr rfl⟩
theorem zmr_270 : zmBoth zr_270 := ⟨by decide +kernel, Or.inr rfl⟩
theorem zmr_271 : zmBoth zr_271 := ⟨by decide +kernel, Or.inr rfl⟩
theorem zmr_272 : zmBoth zr_272 := ⟨by decide +kernel, Or.inr rfl⟩
theorem zmr_273 : zmBoth zr_273 := ⟨by decide +kernel, Or.inr rfl⟩
theorem zmr_274 : zmBoth zr_274 := ⟨by decide +kernel, Or.inr rfl⟩
theorem zmr_275 : zmBoth zr_275 := ⟨by decide +kernel, Or.inr rfl⟩
theorem zmr_276 : zmBoth zr_276 := ⟨by decide +kernel, Or.inr rfl⟩
theorem zmr_277 : zmBoth zr_277 := ⟨by decide +kernel, Or.inr rfl⟩
theorem zmr_278 : zmBoth zr_278 := ⟨by decide +kernel, Or.inr rfl⟩
theorem zmr_279 : zmBoth zr_279 := ⟨by decide +kernel, Or.inr rfl⟩
theorem zmr_280 : zmBoth zr_280 := ⟨by decide +kernel, Or.inr rfl⟩
theorem zmr_281 : zmBoth zr_281 := ⟨by decide +kernel, Or.inr rfl⟩
theorem zmr_282 : zmBoth zr_282 := ⟨by decide +kernel, Or.inr rfl⟩
theorem zmr_283 : zmBoth zr_283 := ⟨by decide +kernel, Or.inr rfl⟩
theorem zmr_284 : zmBoth zr_284 := ⟨by decide +kernel, Or.inr rfl⟩
theorem zmr_285 : zmBoth zr_285 := ⟨by decide +kernel, Or.inr rfl⟩
theorem zmr_286 : zmBoth zr_286 := ⟨by decide +kernel, Or.inr rfl⟩
theorem zmr_287 : zmBoth zr_287 := ⟨by decide +kernel, Or.inr rfl⟩
theorem zmr_288 : zmBoth zr_288 := ⟨by decide +kernel, Or.inr rfl⟩
theorem zmr_289 : zmBoth zr_289 := ⟨by decide +kernel, Or.inr rfl⟩
theorem zmr_290 : zmBoth zr_290 := ⟨by decide +kernel, Or.inr rfl⟩
theorem zmr_291 : zmBoth zr_291 := ⟨by decide +kernel, Or.inr rfl⟩
theorem zmr_292 : zmBoth zr_292 := ⟨by decide +kernel, Or.inr rfl⟩
theorem zmr_293 : zmBoth zr_293 := ⟨by decide +kernel, Or.inr rfl⟩
theorem zmr_294 : zmBoth zr_294 := ⟨by decide +kernel, Or.inr rfl⟩
theorem zmr_295 : zmBoth zr_295 := ⟨by decide +kernel, Or.inr rfl⟩
theorem zmr_296 : zmBoth zr_296 := ⟨by decide +kernel, Or.inr rfl⟩
theorem zmr_297 : zmBoth zr_297 := ⟨by decide +kernel, Or.inr rfl⟩
theorem zmr_298 : zmBoth zr_298 := ⟨by decide +kernel, Or.inr rfl⟩
theorem zmr_299 : zmBoth zr_299 := ⟨by decide +kernel, Or.inr rfl⟩
theorem zmr_300 : zmBoth zr_300 := ⟨by decide +kernel, Or.inr rfl⟩
theorem zmr_301 : zmBoth zr_301 := ⟨by decide +kernel, Or.inr rfl⟩
theorem zmr_302 : zmBoth zr_302 := ⟨by decide +kernel, Or.inr rfl⟩
theorem zmr_303 : zmBoth zr_303 := ⟨by decide +kernel, Or.inr rfl⟩
theorem zmr_304 : zmBoth zr_304 := ⟨by decide +kernel, Or.inr rfl⟩
theorem zmr_305 : zmBoth zr_305 := ⟨by decide +kernel, Or.inr rfl⟩
theorem zmr_306 : zmBoth zr_306 := ⟨by decide +kernel, Or.inr rfl⟩
theorem zmr_307 : zmBoth zr_307 := ⟨by decide +kernel, Or.inr rfl⟩
theorem zmr_308 : zmBoth zr_308 := ⟨by decide +kernel, Or.inr rfl⟩
theorem zmr_309 : zmBoth zr_309 := ⟨by decide +kernel, Or.inr rfl⟩
theorem zmr_310 : zmBoth zr_310 := ⟨by decide +kernel, Or.inr rfl⟩
theorem zmr_311 : zmBoth zr_311 := ⟨by decide +kernel, Or.inr rfl⟩
theorem zmr_312 : zmBoth zr_312 := ⟨by decide +kernel, Or.inr rfl⟩
theorem zmr_313 : zmBoth zr_313 := ⟨by decide +kernel, Or.inr rfl⟩
theorem zmr_314 : zmBoth zr_314 := ⟨by decide +kernel, Or.inr rfl⟩
theorem zmr_315 : zmBoth zr_315 := ⟨by decide +kernel, Or.inr rfl⟩
theorem zmr_316 : zmBoth zr_316 := ⟨by decide +kernel, Or.inl (by decide)⟩
theorem zmr_317 : zmBoth zr_317 := ⟨by decide +kernel, Or.inl (by decide)⟩
theorem zmr_318 : zmBoth zr_318 := ⟨by decide +kernel, Or.inl (by decide)⟩
theorem zmr_319 : zmBoth zr_319 := ⟨by decide +kernel, Or.inr rfl⟩
theorem zmr_320 : zmBoth zr_320 := ⟨by decide +kernel, Or.inr rfl⟩
theorem zmr_321 : zmBoth zr_321 := ⟨by decide +kernel, Or.inr rfl⟩
theorem zmr_322 : zmBoth zr_322 := ⟨by decide +kernel, Or.inr rfl⟩
theorem zm_0 : zmAll zT_0 := ⟨zmr_0, zmr_1, zmr_2, zmr_3, zmr_4, zmr_5, zmr_6, zmr_7, zmr_8, zmr_9, zmr_10, zmr_11, zmr_12, zmr_13, zmr_14, zmr_15, zmr_16, zmr_17, zmr_18, zmr_19, zmr_20, zmr_21, zmr_22, zmr_23, zmr_24, zmr_25, zmr_26, zmr_27, zmr_28, zmr_29, zmr_30, zmr_31, zmr_32, zmr_33, zmr_34, zmr_35, zmr_36, zmr_37, zmr_38, zmr_39, trivial⟩
theorem zm_1 : zmAll zT_1 := ⟨zmr_40, zmr_41, zmr_42, zmr_43, zmr_44, zmr_45, zmr_46, zmr_47, zmr_48, zmr_49, zmr_50, zmr_51, zmr_52, zmr_53, zmr_54, zmr_55, zmr_56, zmr_57, zmr_58, zmr_59, zmr_60, zmr_61, zmr_62, zmr_63, zmr_64, zmr_65, zmr_66, zmr_67, zmr_68, zmr_69, zmr_70, zmr_71, zmr_72, zmr_73, zmr_74, zmr_75, zmr_76, zmr_77, zmr_78, zmr_79, trivial⟩
theorem zm_2 : zmAll zT_2 := ⟨zmr_80, zmr_81, zmr_82, zmr_83, zmr_84, zmr_85, zmr_86, zmr_87, zmr_88, zmr_89, zmr_90, zmr_91, zmr_92, zmr_93, zmr_94, zmr_95, zmr_96, zmr_97, zmr_98, zmr_99, zmr_100, zmr_101, zmr_102, zmr_103, zmr_104, zmr_105, zmr_106, zmr_107, zmr_108, zmr_109, zmr_110, zmr_111, zmr_112, zmr_113, zmr_114, zmr_115, zmr_116, zmr_117, zmr_118, zmr_119, trivial⟩
theorem zm_3 : zmAll zT_3 := ⟨zmr_120, zmr_121, zmr_122, zmr_123, zmr_124, zmr_125, zmr_126, zmr_127, zmr_128, zmr_129, zmr_130, zmr_131, zmr_132, zmr_133, zmr_134, zmr_135, zmr_136, zmr_137, zmr_138, zmr_139, zmr_140, zmr_141, zmr_142, zmr_143, zmr_144, zmr_145, zmr_146, zmr_147, zmr_148, zmr_149, zmr_150, zmr_151, zmr_152, zmr_153, zmr_154, zmr_155, zmr_156, zmr_157, zmr_158, zmr_159, trivial⟩
theorem zm_4 : zmAll zT_4 := ⟨zmr_160, zmr_161, zmr_162, zmr_163, zmr_164, zmr_165, zmr_166, zmr_167, zmr_168, zmr_169, zmr_170, zmr_171, zmr_172, zmr_173, zmr_174, zmr_175, zmr_176, zmr_177, zmr_178, zmr_179, zmr_180, zmr_181, zmr_182, zmr_183, zmr_184, zmr_185, zmr_186, zmr_187, zmr_188, zmr_189, zmr_190, zmr_191, zmr_192, zmr_193, zmr_194, zmr_195, zmr_196, zmr_197, zmr_198, zmr_199, trivial⟩
theorem zm_5 : zmAll zT_5 := ⟨zmr_200, zmr_201, zmr_202, zmr_203, zmr_204, zmr_205, zmr_206, zmr_207, zmr_208, zmr_209, zmr_210, zmr_211, zmr_212, zmr_213, zmr_214, zmr_215, zmr_216, zmr_217, zmr_218, zmr_219, zmr_220, zmr_221, zmr_222, zmr_223, zmr_224, zmr_225, zmr_226, zmr_227, zmr_228, zmr_229, zmr_230, zmr_231, zmr_232, zmr_233, zmr_234, zmr_235, zmr_236, zmr_237, zmr_238, zmr_239, trivial⟩
theorem zm_6 : zmAll zT_6 := ⟨zmr_240, zmr_241, zmr_242, zmr_243, zmr_244, zmr_245, zmr_246, zmr_247, zmr_248, zmr_249, zmr_250, zmr_251, zmr_252, zmr_253, zmr_254, zmr_255, zmr_256, zmr_257, zmr_258, zmr_259, zmr_260, zmr_261, zmr_262, zmr_263, zmr_264, zmr_265, zmr_266, zmr_267, zmr_268, zmr_269, zmr_270, zmr_271, zmr_272, zmr_273, zmr_274, zmr_275, zmr_276, zmr_277, zmr_278, zmr_279, trivial⟩
theorem zm_7 : zmAll zT_7 := ⟨zmr_280, zmr_281, zmr_282, zmr_283, zmr_284, zmr_285, zmr_286, zmr_287, zmr_288, zmr_289, zmr_290, zmr_291, zmr_292, zmr_293, zmr_294, zmr_295, zmr_296, zmr_297, zmr_298, zmr_299, zmr_300, zmr_301, zmr_302, zmr_303, zmr_304, zmr_305, zmr_306, zmr_307, zmr_308, zmr_309, zmr_310, zmr_311, zmr_312, zmr_313, zmr_314, zmr_315, zmr_316, zmr_317, zmr_318, zmr_319, trivial⟩
theorem zm_8 : zmAll zT_8 := ⟨zmr_320, zmr_321, zmr_322, trivial⟩
theorem zm_ok (k : Nat) : zmBoth (zrow k) := by
  by_cases e0 : k / 40 = 0
  · rw [zrow_0 e0]; exact zmAll_use zm_0 _
  by_cases e1 : k / 40 = 1
  · rw [zrow_1 e1]; exact zmAll_use zm_1 _
  by_cases e2 : k / 40 = 2
  · rw [zrow_2 e2]; exact zmAll_use zm_2 _
  by_cases e3 : k / 40 = 3
  · rw [zrow_3 e3]; exact zmAll_use zm_3 _
  by_cases e4 : k / 40 = 4
  · rw [zrow_4 e4]; exact zmAll_use zm_4 _
  by_cases e5 : k / 40 = 5
  · rw [zrow_5 e5]; exact zmAll_use zm_5 _
  by_cases e6 : k / 40 = 6
  · rw [zrow_6 e6]; exact zmAll_use zm_6 _
  by_cases e7 : k / 40 = 7
  · rw [zrow_7 e7]; exact zmAll_use zm_7 _
  by_cases e8 : k / 40 = 8
  · rw [zrow_8 e8]; exact zmAll_use zm_8 _
  rw [zrow_out (by omega)]
  exact ⟨rfl, Or.inl (by decide)⟩
def zNs : List Cond := [(Cond.methodLinkNest "SkippingKeys$Shelves" (22 : Nat) ({ cls := "SkippingKeys", name := "isWithin", desc := "(III)Z" } : Jvm.MethodName) "SkippingKeys"), (Cond.methodLinkNest "SkippingKeys$Conditions" (29 : Nat) ({ cls := "SkippingKeys", name := "isWithin", desc := "(III)Z" } : Jvm.MethodName) "SkippingKeys"), (Cond.fieldLinkNest "SkippingKeys$Condition" (106 : Nat) "SkippingKeys" "WEIGHT" "[I" "SkippingKeys"), (Cond.methodLinkNest "SkippingKeys$Lines" (31 : Nat) ({ cls := "SkippingKeys", name := "isWithin", desc := "(III)Z" } : Jvm.MethodName) "SkippingKeys"), (Cond.methodLinkNest "SkippingKeys$Tape" (26 : Nat) ({ cls := "SkippingKeys", name := "isWithin", desc := "(III)Z" } : Jvm.MethodName) "SkippingKeys"), (Cond.methodLinkNest "SkippingKeys$Reader" (45 : Nat) ({ cls := "SkippingKeys", name := "isWithin", desc := "(III)Z" } : Jvm.MethodName) "SkippingKeys"), (Cond.methodLinkNest "SkippingKeys$Condition" (43 : Nat) ({ cls := "SkippingKeys", name := "isWithin", desc := "(III)Z" } : Jvm.MethodName) "SkippingKeys"), (Cond.methodLinkNest "SkippingKeys$Condition" (92 : Nat) ({ cls := "SkippingKeys", name := "compared", desc := "(III)I" } : Jvm.MethodName) "SkippingKeys"), (Cond.fieldLinkNest "SkippingKeys$Lines" (47 : Nat) "SkippingKeys" "COLUMN_AT" "[I" "SkippingKeys"), (Cond.methodLinkNest "SkippingKeys$Spans" (41 : Nat) ({ cls := "SkippingKeys", name := "placeOf", desc := "(II)I" } : Jvm.MethodName) "SkippingKeys"), (Cond.methodLinkNest "SkippingKeys$Spans" (65 : Nat) ({ cls := "SkippingKeys", name := "isWithin", desc := "(III)Z" } : Jvm.MethodName) "SkippingKeys")]
theorem zNs_in : ∀ w ∈ zNs, w ∈ lw_tbl := by
  intro w hw
  simp only [zNs, List.mem_cons, List.not_mem_nil, or_false] at hw
  rcases hw with rfl | rfl | rfl | rfl | rfl | rfl | rfl | rfl | rfl | rfl | rfl
  · exact zpart_in (i := 2) (List.mem_of_getElem? (i := 45) (by decide +kernel))
  · exact zpart_in (i := 2) (List.mem_of_getElem? (i := 120) (by decide +kernel))
  · exact zpart_in (i := 2) (List.mem_of_getElem? (i := 164) (by decide +kernel))
  · exact zpart_in (i := 2) (List.mem_of_getElem? (i := 199) (by decide +kernel))
  · exact zpart_in (i := 3) (List.mem_of_getElem? (i := 23) (by decide +kernel))
  · exact zpart_in (i := 3) (List.mem_of_getElem? (i := 36) (by decide +kernel))
  · exact zpart_in (i := 3) (List.mem_of_getElem? (i := 115) (by decide +kernel))
  · exact zpart_in (i := 3) (List.mem_of_getElem? (i := 172) (by decide +kernel))
  · exact zpart_in (i := 4) (List.mem_of_getElem? (i := 43) (by decide +kernel))
  · exact zpart_in (i := 4) (List.mem_of_getElem? (i := 95) (by decide +kernel))
  · exact zpart_in (i := 4) (List.mem_of_getElem? (i := 152) (by decide +kernel))
def zMlOk (c : Nat) (e : Nat × Nat × Nat × zPos) : Bool := bif Nat.beq e.2.1 1000 then zhas e.2.2.2 (.methodLink (zcn c) e.1 Lib.objectInit) && Nat.beq e.2.2.1 0 else bif Nat.beq e.2.1 1001 then zhas e.2.2.2 (.methodLink (zcn c) e.1 arraycopyName) && Nat.beq e.2.2.1 0 else bif Nat.beq e.2.1 1002 then zhas e.2.2.2 (.methodLink (zcn c) e.1 Lib.Math.max.name) && Nat.beq e.2.2.1 0 else bif Nat.beq e.2.1 1003 then zhas e.2.2.2 (.methodLink (zcn c) e.1 Lib.Math.min.name) && Nat.beq e.2.2.1 0 else bif Nat.beq e.2.2.1 0 then zhas e.2.2.2 (.methodLink (zcn c) e.1 (zrow e.2.1).1) else decide (Cond.methodLinkNest (zcn c) e.1 (zrow e.2.1).1 "SkippingKeys" ∈ zNs)
theorem zMl_ok_0 : (zMl_0).all (zMlOk 0) = true := by decide +kernel
theorem zMl_ok_1 : (zMl_1).all (zMlOk 1) = true := by decide +kernel
theorem zMl_ok_2 : (zMl_2).all (zMlOk 2) = true := by decide +kernel
theorem zMl_ok_3 : (zMl_3).all (zMlOk 3) = true := by decide +kernel
theorem zMl_ok_4 : (zMl_4).all (zMlOk 4) = true := by decide +kernel
theorem zMl_ok_5 : (zMl_5).all (zMlOk 5) = true := by decide +kernel
theorem zMl_ok_6 : (zMl_6).all (zMlOk 6) = true := by decide +kernel
theorem zMl_ok_7 : (zMl_7).all (zMlOk 7) = true := by decide +kernel
theorem zMl_ok_8 : (zMl_8).all (zMlOk 8) = true := by decide +kernel
theorem zMl_ok_9 : (zMl_9).all (zMlOk 9) = true := by decide +kernel
theorem zMl_ok_10 : (zMl_10).all (zMlOk 10) = true := by decide +kernel
theorem zMl_ok (c : Nat) : ∀ e ∈ zMl c, zMlOk c e = true := by
  intro e he
  unfold zMl at he
  split at he
  · exact List.all_eq_true.mp zMl_ok_0 e he
  · exact List.all_eq_true.mp zMl_ok_1 e he
  · exact List.all_eq_true.mp zMl_ok_2 e he
  · exact List.all_eq_true.mp zMl_ok_3 e he
  · exact List.all_eq_true.mp zMl_ok_4 e he
  · exact List.all_eq_true.mp zMl_ok_5 e he
  · exact List.all_eq_true.mp zMl_ok_6 e he
  · exact List.all_eq_true.mp zMl_ok_7 e he
  · exact List.all_eq_true.mp zMl_ok_8 e he
  · exact List.all_eq_true.mp zMl_ok_9 e he
  · exact List.all_eq_true.mp zMl_ok_10 e he
  · cases he
def zTX (c : Nat) : u_T := match c with
  | 0 => TX0
  | 1 => TX1
  | 2 => TX2
  | 3 => TX3
  | 4 => TX4
  | 5 => TX5
  | 6 => TX6
  | 7 => TX7
  | 8 => TX8
  | 9 => TX9
  | _ => TX0
def ztyX (c : Nat) : Nat → FieldType := match c with
  | 0 => tyX0
  | 1 => tyX1
  | 2 => tyX2
  | 3 => tyX3
  | 4 => tyX4
  | 5 => tyX5
  | 6 => tyX6
  | 7 => tyX7
  | 8 => tyX8
  | 9 => tyX9
  | _ => tyX0
def zNf (c : Nat) : Nat := match c with
  | 0 => 12
  | 1 => 3
  | 2 => 4
  | 3 => 2
  | 4 => 6
  | 5 => 3
  | 6 => 11
  | 7 => 3
  | 8 => 12
  | 9 => 41
  | _ => 0
def zFlOk (c : Nat) (e : Nat × Nat × Nat × zPos) : Bool := zhas e.2.2.2 (.fieldLink (zcn c) e.1 (zTX e.2.1 e.2.2.1).1 (zTX e.2.1 e.2.2.1).2.1 (zTX e.2.1 e.2.2.1).2.2.1) && Nat.blt e.2.2.1 (zNf e.2.1) && Nat.blt e.2.1 10
theorem zFl_ok_0 : (zFl_0).all (zFlOk 0) = true := by decide +kernel
theorem zFl_ok_1 : (zFl_1).all (zFlOk 1) = true := by decide +kernel
theorem zFl_ok_2 : (zFl_2).all (zFlOk 2) = true := by decide +kernel
theorem zFl_ok_3 : (zFl_3).all (zFlOk 3) = true := by decide +kernel
theorem zFl_ok_4 : (zFl_4).all (zFlOk 4) = true := by decide +kernel
theorem zFl_ok_5 : (zFl_5).all (zFlOk 5) = true := by decide +kernel
theorem zFl_ok_6 : (zFl_6).all (zFlOk 6) = true := by decide +kernel
theorem zFl_ok_7 : (zFl_7).all (zFlOk 7) = true := by decide +kernel
theorem zFl_ok_8 : (zFl_8).all (zFlOk 8) = true := by decide +kernel
theorem zFl_ok_9 : (zFl_9).all (zFlOk 9) = true := by decide +kernel
theorem zFl_ok (c : Nat) : ∀ e ∈ zFl c, zFlOk c e = true := by
  intro e he
  unfold zFl at he
  split at he
  · exact List.all_eq_true.mp zFl_ok_0 e he
  · exact List.all_eq_true.mp zFl_ok_1 e he
  · exact List.all_eq_true.mp zFl_ok_2 e he
  · exact List.all_eq_true.mp zFl_ok_3 e he
  · exact List.all_eq_true.mp zFl_ok_4 e he
  · exact List.all_eq_true.mp zFl_ok_5 e he
  · exact List.all_eq_true.mp zFl_ok_6 e he
  · exact List.all_eq_true.mp zFl_ok_7 e he
  · exact List.all_eq_true.mp zFl_ok_8 e he
  · exact List.all_eq_true.mp zFl_ok_9 e he
  · cases he
def zSn (i : Nat) : String := match i with
  | 1 => "COLUMN_AT"
  | _ => "WEIGHT"
def zSlOk (c : Nat) (e : Nat × Nat × Nat × zPos) : Bool := (bif Nat.beq e.2.2.1 0 then zhas e.2.2.2 (.fieldLink (zcn c) e.1 "SkippingKeys" (zSn e.2.1) "[I") else decide (Cond.fieldLinkNest (zcn c) e.1 "SkippingKeys" (zSn e.2.1) "[I" "SkippingKeys" ∈ zNs)) && (Nat.beq e.2.1 1 || Nat.beq e.2.1 2)
theorem zSl_ok_0 : (zSl_0).all (zSlOk 0) = true := by decide +kernel
theorem zSl_ok_2 : (zSl_2).all (zSlOk 2) = true := by decide +kernel
theorem zSl_ok_8 : (zSl_8).all (zSlOk 8) = true := by decide +kernel
theorem zSl_ok (c : Nat) : ∀ e ∈ zSl c, zSlOk c e = true := by
  intro e he
  unfold zSl at he
  split at he
  · exact List.all_eq_true.mp zSl_ok_0 e he
  · exact List.all_eq_true.mp zSl_ok_2 e he
  · exact List.all_eq_true.mp zSl_ok_8 e he
  · cases he
def zKlOk (c : Nat) (e : Nat × Nat × Int × zPos) : Bool := bif Nat.beq e.2.1 0 then zhas e.2.2.2 (.constant (zcn c) e.1 (Int32.ofInt e.2.2.1)) && decide (-2147483648 ≤ e.2.2.1 ∧ e.2.2.1 < 2147483648) else zhas e.2.2.2 (.constantLong (zcn c) e.1 (Int64.ofInt e.2.2.1)) && decide (-9223372036854775808 ≤ e.2.2.1 ∧ e.2.2.1 < 9223372036854775808)
theorem zKl_ok_2 : (zKl_2).all (zKlOk 2) = true := by decide +kernel
theorem zKl_ok_8 : (zKl_8).all (zKlOk 8) = true := by decide +kernel
theorem zKl_ok_9 : (zKl_9).all (zKlOk 9) = true := by decide +kernel
theorem zKl_ok_10 : (zKl_10).all (zKlOk 10) = true := by decide +kernel
theorem zKl_ok_11 : (zKl_11).all (zKlOk 11) = true := by decide +kernel
theorem zKl_ok (c : Nat) : ∀ e ∈ zKl c, zKlOk c e = true := by
  intro e he
  unfold zKl at he
  split at he
  · exact List.all_eq_true.mp zKl_ok_2 e he
  · exact List.all_eq_true.mp zKl_ok_8 e he
  · exact List.all_eq_true.mp zKl_ok_9 e he
  · exact List.all_eq_true.mp zKl_ok_10 e he
  · exact List.all_eq_true.mp zKl_ok_11 e he
  · cases he
def zClOk (c : Nat) (e : Nat × Nat × zPos) : Bool := zhas e.2.2 (.classLink (zcn c) e.1 (bif Nat.beq e.2.1 100 then "[[J" else zcn e.2.1)) && (Nat.beq e.2.1 100 || Nat.blt e.2.1 10)
theorem zCl_ok_1 : (zCl_1).all (zClOk 1) = true := by decide +kernel
theorem zCl_ok_8 : (zCl_8).all (zClOk 8) = true := by decide +kernel
theorem zCl_ok_9 : (zCl_9).all (zClOk 9) = true := by decide +kernel
theorem zCl_ok_10 : (zCl_10).all (zClOk 10) = true := by decide +kernel
theorem zCl_ok (c : Nat) : ∀ e ∈ zCl c, zClOk c e = true := by
  intro e he
  unfold zCl at he
  split at he
  · exact List.all_eq_true.mp zCl_ok_1 e he
  · exact List.all_eq_true.mp zCl_ok_8 e he
  · exact List.all_eq_true.mp zCl_ok_9 e he
  · exact List.all_eq_true.mp zCl_ok_10 e he
  · cases he
def zwAll : Nat → List Cond → List zPos → Bool
  | _, [], _ => true
  | n, w :: l, q :: m => zhas q w && zwAll n l m
  | _, _ :: _, [] => false
theorem zwAll_in : ∀ (n : Nat) (l : List Cond) (m : List zPos), zwAll n l m = true → ∀ w ∈ l, w ∈ zTs
  | _, [], _, _, w, h => by cases h
  | n, w :: l, q :: m, h, v, hv => by
    unfold zwAll at h
    rw [Bool.and_eq_true] at h
    rcases List.mem_cons.mp hv with rfl | h2
    · exact zhas_in h.1
    · exact zwAll_in n l m h.2 v h2
  | _, _ :: _, [], h, _, _ => by cases h
theorem zCw_in_0 : ∀ w ∈ u_ws RX0 TX0 12, w ∈ zTs := zwAll_in 0 _ zCw_0 (by decide +kernel)
theorem zCi_in_0 : Cond.instantiable RX0 12 ∈ zTs := zhas_in (q := zCi_0) (by decide +kernel)
theorem zCw_in_1 : ∀ w ∈ u_ws RX1 TX1 3, w ∈ zTs := zwAll_in 0 _ zCw_1 (by decide +kernel)
theorem zCi_in_1 : Cond.instantiable RX1 3 ∈ zTs := zhas_in (q := zCi_1) (by decide +kernel)
theorem zCw_in_2 : ∀ w ∈ u_ws RX2 TX2 4, w ∈ zTs := zwAll_in 0 _ zCw_2 (by decide +kernel)
theorem zCi_in_2 : Cond.instantiable RX2 4 ∈ zTs := zhas_in (q := zCi_2) (by decide +kernel)
theorem zCw_in_3 : ∀ w ∈ u_ws RX3 TX3 2, w ∈ zTs := zwAll_in 0 _ zCw_3 (by decide +kernel)
theorem zCi_in_3 : Cond.instantiable RX3 2 ∈ zTs := zhas_in (q := zCi_3) (by decide +kernel)
theorem zCw_in_4 : ∀ w ∈ u_ws RX4 TX4 6, w ∈ zTs := zwAll_in 0 _ zCw_4 (by decide +kernel)
theorem zCi_in_4 : Cond.instantiable RX4 6 ∈ zTs := zhas_in (q := zCi_4) (by decide +kernel)
theorem zCw_in_5 : ∀ w ∈ u_ws RX5 TX5 3, w ∈ zTs := zwAll_in 0 _ zCw_5 (by decide +kernel)
theorem zCi_in_5 : Cond.instantiable RX5 3 ∈ zTs := zhas_in (q := zCi_5) (by decide +kernel)
theorem zCw_in_6 : ∀ w ∈ u_ws RX6 TX6 11, w ∈ zTs := zwAll_in 0 _ zCw_6 (by decide +kernel)
theorem zCi_in_6 : Cond.instantiable RX6 11 ∈ zTs := zhas_in (q := zCi_6) (by decide +kernel)
theorem zCw_in_7 : ∀ w ∈ u_ws RX7 TX7 3, w ∈ zTs := zwAll_in 0 _ zCw_7 (by decide +kernel)
theorem zCi_in_7 : Cond.instantiable RX7 3 ∈ zTs := zhas_in (q := zCi_7) (by decide +kernel)
theorem zCw_in_8 : ∀ w ∈ u_ws RX8 TX8 12, w ∈ zTs := zwAll_in 0 _ zCw_8 (by decide +kernel)
theorem zCi_in_8 : Cond.instantiable RX8 12 ∈ zTs := zhas_in (q := zCi_8) (by decide +kernel)
theorem zCw_in_9 : ∀ w ∈ u_ws RX9 TX9 41, w ∈ zTs := zwAll_in 0 _ zCw_9 (by decide +kernel)
theorem zCi_in_9 : Cond.instantiable RX9 41 ∈ zTs := zhas_in (q := zCi_9) (by decide +kernel)
theorem zini_in_0 : Cond.initialized RX0 ∈ zTs := zhas_in (q := (1, 4)) (by decide +kernel)
theorem zini_in_1 : Cond.initialized RX1 ∈ zTs := zhas_in (q := (1, 3)) (by decide +kernel)
theorem zini_in_2 : Cond.initialized RX2 ∈ zTs := zhas_in (q := (1, 2)) (by decide +kernel)
theorem zini_in_3 : Cond.initialized RX3 ∈ zTs := zhas_in (q := (1, 9)) (by decide +kernel)
theorem zini_in_4 : Cond.initialized RX4 ∈ zTs := zhas_in (q := (1, 7)) (by decide +kernel)
theorem zini_in_5 : Cond.initialized RX5 ∈ zTs := zhas_in (q := (1, 5)) (by decide +kernel)
theorem zini_in_6 : Cond.initialized RX6 ∈ zTs := zhas_in (q := (1, 8)) (by decide +kernel)
theorem zini_in_7 : Cond.initialized RX7 ∈ zTs := zhas_in (q := (1, 6)) (by decide +kernel)
theorem zini_in_8 : Cond.initialized RX8 ∈ zTs := zhas_in (q := (1, 1)) (by decide +kernel)
theorem zini_in_9 : Cond.initialized RX9 ∈ zTs := zhas_in (q := (1, 10)) (by decide +kernel)
theorem zx_arrI : Cond.arrayClass .int ∈ zTs := zhas_in (q := (1, 47)) (by decide +kernel)
theorem zx_arrJ : Cond.arrayClass .long ∈ zTs := zhas_in (q := (1, 139)) (by decide +kernel)
theorem zx_arrB : Cond.arrayClass .byte ∈ zTs := zhas_in (q := (5, 233)) (by decide +kernel)
theorem zx_arrZ : Cond.arrayClass .boolean ∈ zTs := zhas_in (q := (1, 226)) (by decide +kernel)
theorem zx_over : Cond.arrayOver (.object RX0) ∈ lw_tbl := zpart_in (i := 1) (List.mem_of_getElem? (i := 55) (by decide +kernel))
theorem zx_overA : Cond.arrayOver (.array .long) ∈ lw_tbl := zpart_in (i := 5) (List.mem_of_getElem? (i := 108) (by decide +kernel))
theorem zx_acs : Cond.static arraycopyName ∈ zTs := zhas_in (q := (2, 94)) (by decide +kernel)
theorem zx_acn : Cond.native arraycopyName ∈ zTs := zhas_in (q := (2, 95)) (by decide +kernel)
theorem zx_aci : Cond.initialized "java/lang/System" ∈ zTs := zhas_in (q := (1, 11)) (by decide +kernel)
theorem zx_oii : Cond.instanceMethod Lib.objectInit ∈ zTs := zhas_in (q := (1, 20)) (by decide +kernel)
theorem zx_oic : Cond.code Lib.objectInit ⟨#[0xb1]⟩ 1 none ∈ zTs := zhas_in (q := (1, 21)) (by decide +kernel)
theorem zx_mxs : Cond.static Lib.Math.max.name ∈ zTs := zhas_in (q := (3, 198)) (by decide +kernel)
theorem zx_mxc : Cond.code Lib.Math.max.name Lib.Math.max.code 2 (some .int) ∈ zTs := zhas_in (q := (3, 199)) (by decide +kernel)
theorem zx_mns : Cond.static Lib.Math.min.name ∈ zTs := zhas_in (q := (3, 158)) (by decide +kernel)
theorem zx_mnc : Cond.code Lib.Math.min.name Lib.Math.min.code 2 (some .int) ∈ zTs := zhas_in (q := (3, 159)) (by decide +kernel)
theorem zx_mi : Cond.initialized "java/lang/Math" ∈ zTs := zhas_in (q := (1, 13)) (by decide +kernel)
theorem zx_st1 : Cond.laysStatic "SkippingKeys" "WEIGHT" "[I" ∈ lw_tbl := zpart_in (i := 2) (List.mem_of_getElem? (i := 165) (by decide +kernel))
theorem zx_st2 : Cond.laysStatic "SkippingKeys" "COLUMN_AT" "[I" ∈ lw_tbl := zpart_in (i := 4) (List.mem_of_getElem? (i := 44) (by decide +kernel))
