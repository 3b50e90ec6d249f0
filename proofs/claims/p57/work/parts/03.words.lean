/-- a row of the reference's, kept as a ghost: the large machine never runs it -/
def zgh (t : zRow) : Bool := Nat.beq t.2.2.2.2.2.2.1 9
def zcode (k : Nat) : ByteArray := (zrow k).2.1
def zpair : List zRow → List zIns → Prop
  | t :: T, i :: I => (zgh t = true ∨ zdok t.2.1 i) ∧ zpair T I
  | _, [] => True
  | [], _ :: _ => False
theorem zpair_use : ∀ {T : List zRow} {I : List zIns}, zpair T I → ∀ (j : Nat) (df : zRow), zgh ((T[j]?).getD df) = false → ∀ q ∈ (I[j]?).getD [], decode ((T[j]?).getD df).2.1 q.1 = .ok q.2
  | t :: T, i :: I, h, 0, df, g, q, hq => (h.1.resolve_left (fun e => by rw [show ((t :: T)[0]?).getD df = t from rfl, e] at g; cases g)) q hq
  | t :: T, i :: I, h, j + 1, df, g, q, hq => by
    rw [List.getElem?_cons_succ] at hq g ⊢
    exact zpair_use h.2 j df g q hq
  | [], [], _, j, df, _, q, hq => by simp at hq
  | _ :: _, [], _, j, df, _, q, hq => by simp at hq
  | [], _ :: _, h, _, _, _, _, _ => h.elim
theorem zchk_0 : zpair zT_0 zI_0 := ⟨Or.inr zdok_0, Or.inr zdok_1, Or.inr zdok_2, Or.inr zdok_3, Or.inr zdok_4, Or.inr zdok_5, Or.inr zdok_6, Or.inr zdok_7, Or.inr zdok_8, Or.inr zdok_9, Or.inr zdok_10, Or.inr zdok_11, Or.inr zdok_12, Or.inr zdok_13, Or.inr zdok_14, Or.inr zdok_15, Or.inr zdok_16, Or.inr zdok_17, Or.inr zdok_18, Or.inr zdok_19, Or.inr zdok_20, Or.inr zdok_21, Or.inr zdok_22, Or.inr zdok_23, Or.inr zdok_24, Or.inr zdok_25, Or.inr zdok_26, Or.inr zdok_27, Or.inr zdok_28, Or.inr zdok_29, Or.inr zdok_30, Or.inr zdok_31, Or.inr zdok_32, Or.inr zdok_33, Or.inr zdok_34, Or.inr zdok_35, Or.inr zdok_36, Or.inr zdok_37, Or.inr zdok_38, Or.inr zdok_39, trivial⟩
theorem zchk_1 : zpair zT_1 zI_1 := ⟨Or.inr zdok_40, Or.inr zdok_41, Or.inr zdok_42, Or.inr zdok_43, Or.inr zdok_44, Or.inr zdok_45, Or.inr zdok_46, Or.inr zdok_47, Or.inr zdok_48, Or.inr zdok_49, Or.inr zdok_50, Or.inr zdok_51, Or.inr zdok_52, Or.inr zdok_53, Or.inr zdok_54, Or.inr zdok_55, Or.inr zdok_56, Or.inr zdok_57, Or.inr zdok_58, Or.inr zdok_59, Or.inr zdok_60, Or.inr zdok_61, Or.inr zdok_62, Or.inr zdok_63, Or.inr zdok_64, Or.inr zdok_65, Or.inr zdok_66, Or.inr zdok_67, Or.inr zdok_68, Or.inr zdok_69, Or.inr zdok_70, Or.inr zdok_71, Or.inr zdok_72, Or.inr zdok_73, Or.inr zdok_74, Or.inr zdok_75, Or.inr zdok_76, Or.inr zdok_77, Or.inr zdok_78, Or.inr zdok_79, trivial⟩
theorem zchk_2 : zpair zT_2 zI_2 := ⟨Or.inr zdok_80, Or.inr zdok_81, Or.inr zdok_82, Or.inr zdok_83, Or.inr zdok_84, Or.inr zdok_85, Or.inr zdok_86, Or.inr zdok_87, Or.inr zdok_88, Or.inr zdok_89, Or.inr zdok_90, Or.inr zdok_91, Or.inr zdok_92, Or.inr zdok_93, Or.inr zdok_94, Or.inr zdok_95, Or.inr zdok_96, Or.inr zdok_97, Or.inr zdok_98, Or.inr zdok_99, Or.inr zdok_100, Or.inr zdok_101, Or.inr zdok_102, Or.inr zdok_103, Or.inr zdok_104, Or.inr zdok_105, Or.inr zdok_106, Or.inr zdok_107, Or.inr zdok_108, Or.inr zdok_109, Or.inr zdok_110, Or.inr zdok_111, Or.inr zdok_112, Or.inr zdok_113, Or.inr zdok_114, Or.inr zdok_115, Or.inr zdok_116, Or.inr zdok_117, Or.inr zdok_118, Or.inr zdok_119, trivial⟩
theorem zchk_3 : zpair zT_3 zI_3 := ⟨Or.inr zdok_120, Or.inr zdok_121, Or.inr zdok_122, Or.inr zdok_123, Or.inr zdok_124, Or.inr zdok_125, Or.inr zdok_126, Or.inr zdok_127, Or.inr zdok_128, Or.inr zdok_129, Or.inr zdok_130, Or.inr zdok_131, Or.inr zdok_132, Or.inr zdok_133, Or.inr zdok_134, Or.inr zdok_135, Or.inr zdok_136, Or.inr zdok_137, Or.inr zdok_138, Or.inr zdok_139, Or.inr zdok_140, Or.inr zdok_141, Or.inr zdok_142, Or.inr zdok_143, Or.inr zdok_144, Or.inr zdok_145, Or.inr zdok_146, Or.inr zdok_147, Or.inr zdok_148, Or.inr zdok_149, Or.inr zdok_150, Or.inr zdok_151, Or.inr zdok_152, Or.inr zdok_153, Or.inr zdok_154, Or.inr zdok_155, Or.inr zdok_156, Or.inr zdok_157, Or.inr zdok_158, Or.inr zdok_159, trivial⟩
theorem zchk_4 : zpair zT_4 zI_4 := ⟨Or.inr zdok_160, Or.inr zdok_161, Or.inr zdok_162, Or.inr zdok_163, Or.inr zdok_164, Or.inr zdok_165, Or.inr zdok_166, Or.inr zdok_167, Or.inr zdok_168, Or.inr zdok_169, Or.inr zdok_170, Or.inr zdok_171, Or.inr zdok_172, Or.inr zdok_173, Or.inr zdok_174, Or.inr zdok_175, Or.inr zdok_176, Or.inr zdok_177, Or.inr zdok_178, Or.inr zdok_179, Or.inr zdok_180, Or.inr zdok_181, Or.inr zdok_182, Or.inr zdok_183, Or.inr zdok_184, Or.inr zdok_185, Or.inr zdok_186, Or.inr zdok_187, Or.inr zdok_188, Or.inr zdok_189, Or.inl rfl, Or.inl rfl, Or.inl rfl, Or.inl rfl, Or.inl rfl, Or.inl rfl, Or.inl rfl, Or.inl rfl, Or.inl rfl, Or.inl rfl, trivial⟩
theorem zchk_5 : zpair zT_5 zI_5 := ⟨Or.inl rfl, Or.inl rfl, Or.inl rfl, Or.inl rfl, Or.inl rfl, Or.inl rfl, Or.inl rfl, Or.inl rfl, Or.inl rfl, Or.inl rfl, Or.inl rfl, Or.inl rfl, Or.inl rfl, Or.inl rfl, Or.inl rfl, Or.inl rfl, Or.inl rfl, Or.inl rfl, Or.inl rfl, Or.inl rfl, Or.inl rfl, Or.inl rfl, Or.inl rfl, Or.inl rfl, Or.inl rfl, Or.inl rfl, Or.inl rfl, Or.inl rfl, Or.inl rfl, Or.inl rfl, Or.inl rfl, Or.inl rfl, Or.inl rfl, Or.inl rfl, Or.inl rfl, Or.inl rfl, Or.inl rfl, Or.inl rfl, Or.inl rfl, Or.inl rfl, trivial⟩
theorem zchk_6 : zpair zT_6 zI_6 := ⟨Or.inl rfl, Or.inl rfl, Or.inl rfl, Or.inl rfl, Or.inl rfl, Or.inl rfl, Or.inl rfl, Or.inl rfl, Or.inl rfl, Or.inl rfl, Or.inl rfl, Or.inl rfl, Or.inl rfl, Or.inl rfl, Or.inl rfl, Or.inl rfl, Or.inl rfl, Or.inl rfl, Or.inl rfl, Or.inl rfl, Or.inl rfl, Or.inl rfl, Or.inl rfl, Or.inl rfl, Or.inl rfl, Or.inl rfl, Or.inl rfl, Or.inl rfl, Or.inl rfl, Or.inl rfl, Or.inl rfl, Or.inl rfl, Or.inl rfl, Or.inl rfl, Or.inl rfl, Or.inl rfl, Or.inl rfl, Or.inl rfl, Or.inl rfl, Or.inl rfl, trivial⟩
theorem zchk_7 : zpair zT_7 zI_7 := ⟨Or.inl rfl, Or.inl rfl, Or.inl rfl, Or.inl rfl, Or.inl rfl, Or.inl rfl, Or.inl rfl, Or.inl rfl, Or.inl rfl, Or.inl rfl, Or.inl rfl, Or.inl rfl, Or.inl rfl, Or.inl rfl, Or.inl rfl, Or.inl rfl, Or.inl rfl, Or.inl rfl, Or.inl rfl, Or.inl rfl, Or.inl rfl, Or.inl rfl, Or.inl rfl, Or.inl rfl, Or.inl rfl, Or.inl rfl, Or.inl rfl, Or.inl rfl, Or.inl rfl, Or.inl rfl, Or.inl rfl, Or.inl rfl, Or.inl rfl, Or.inl rfl, Or.inl rfl, Or.inr zdok_315, Or.inr zdok_316, Or.inr zdok_317, Or.inr zdok_318, Or.inr zdok_319, trivial⟩
theorem zchk_8 : zpair zT_8 zI_8 := ⟨Or.inr zdok_320, Or.inr zdok_321, Or.inr zdok_322, Or.inr zdok_323, Or.inr zdok_324, Or.inr zdok_325, Or.inr zdok_326, Or.inr zdok_327, trivial⟩
theorem zrow_0 {k : Nat} (h : k / 40 = 0) : zrow k = (zT_0[k % 40]?).getD zNone := by
  unfold zrow
  simp only [h]
theorem zinsT_0 {k : Nat} (h : k / 40 = 0) : zinsT k = (zI_0[k % 40]?).getD [] := by
  unfold zinsT
  simp only [h]
theorem zrow_1 {k : Nat} (h : k / 40 = 1) : zrow k = (zT_1[k % 40]?).getD zNone := by
  unfold zrow
  simp only [h]
theorem zinsT_1 {k : Nat} (h : k / 40 = 1) : zinsT k = (zI_1[k % 40]?).getD [] := by
  unfold zinsT
  simp only [h]
theorem zrow_2 {k : Nat} (h : k / 40 = 2) : zrow k = (zT_2[k % 40]?).getD zNone := by
  unfold zrow
  simp only [h]
theorem zinsT_2 {k : Nat} (h : k / 40 = 2) : zinsT k = (zI_2[k % 40]?).getD [] := by
  unfold zinsT
  simp only [h]
theorem zrow_3 {k : Nat} (h : k / 40 = 3) : zrow k = (zT_3[k % 40]?).getD zNone := by
  unfold zrow
  simp only [h]
theorem zinsT_3 {k : Nat} (h : k / 40 = 3) : zinsT k = (zI_3[k % 40]?).getD [] := by
  unfold zinsT
  simp only [h]
theorem zrow_4 {k : Nat} (h : k / 40 = 4) : zrow k = (zT_4[k % 40]?).getD zNone := by
  unfold zrow
  simp only [h]
theorem zinsT_4 {k : Nat} (h : k / 40 = 4) : zinsT k = (zI_4[k % 40]?).getD [] := by
  unfold zinsT
  simp only [h]
theorem zrow_5 {k : Nat} (h : k / 40 = 5) : zrow k = (zT_5[k % 40]?).getD zNone := by
  unfold zrow
  simp only [h]
theorem zinsT_5 {k : Nat} (h : k / 40 = 5) : zinsT k = (zI_5[k % 40]?).getD [] := by
  unfold zinsT
  simp only [h]
theorem zrow_6 {k : Nat} (h : k / 40 = 6) : zrow k = (zT_6[k % 40]?).getD zNone := by
  unfold zrow
  simp only [h]
theorem zinsT_6 {k : Nat} (h : k / 40 = 6) : zinsT k = (zI_6[k % 40]?).getD [] := by
  unfold zinsT
  simp only [h]
theorem zrow_7 {k : Nat} (h : k / 40 = 7) : zrow k = (zT_7[k % 40]?).getD zNone := by
  unfold zrow
  simp only [h]
theorem zinsT_7 {k : Nat} (h : k / 40 = 7) : zinsT k = (zI_7[k % 40]?).getD [] := by
  unfold zinsT
  simp only [h]
theorem zrow_8 {k : Nat} (h : k / 40 = 8) : zrow k = (zT_8[k % 40]?).getD zNone := by
  unfold zrow
  simp only [h]
theorem zinsT_8 {k : Nat} (h : k / 40 = 8) : zinsT k = (zI_8[k % 40]?).getD [] := by
  unfold zinsT
  simp only [h]
theorem zrow_out {k : Nat} (h : 9 ≤ k / 40) : zrow k = zNone := by
  unfold zrow
  split
  · omega
  · omega
  · omega
  · omega
  · omega
  · omega
  · omega
  · omega
  · omega
  · rfl
theorem zinsT_out {k : Nat} (h : 9 ≤ k / 40) : zinsT k = [] := by
  unfold zinsT
  split
  · omega
  · omega
  · omega
  · omega
  · omega
  · omega
  · omega
  · omega
  · omega
  · rfl
theorem zins_ok {k pc : Nat} {q : Instr × Nat} (hg : zgh (zrow k) = false) (h : zins k pc = some q) : decode (zcode k) pc = .ok q := by
  have h1 : (pc, q) ∈ zinsT k := zlk_mem _ _ _ h
  have hc : zcode k = (zrow k).2.1 := rfl
  by_cases e0 : k / 40 = 0
  · rw [zinsT_0 e0] at h1
    rw [zrow_0 e0] at hg
    rw [hc, zrow_0 e0]
    have h2 := zpair_use (T := zT_0) (I := zI_0) zchk_0 (k % 40) zNone hg (pc, q) h1
    exact h2
  by_cases e1 : k / 40 = 1
  · rw [zinsT_1 e1] at h1
    rw [zrow_1 e1] at hg
    rw [hc, zrow_1 e1]
    have h2 := zpair_use (T := zT_1) (I := zI_1) zchk_1 (k % 40) zNone hg (pc, q) h1
    exact h2
  by_cases e2 : k / 40 = 2
  · rw [zinsT_2 e2] at h1
    rw [zrow_2 e2] at hg
    rw [hc, zrow_2 e2]
    have h2 := zpair_use (T := zT_2) (I := zI_2) zchk_2 (k % 40) zNone hg (pc, q) h1
    exact h2
  by_cases e3 : k / 40 = 3
  · rw [zinsT_3 e3] at h1
    rw [zrow_3 e3] at hg
    rw [hc, zrow_3 e3]
    have h2 := zpair_use (T := zT_3) (I := zI_3) zchk_3 (k % 40) zNone hg (pc, q) h1
    exact h2
  by_cases e4 : k / 40 = 4
  · rw [zinsT_4 e4] at h1
    rw [zrow_4 e4] at hg
    rw [hc, zrow_4 e4]
    have h2 := zpair_use (T := zT_4) (I := zI_4) zchk_4 (k % 40) zNone hg (pc, q) h1
    exact h2
  by_cases e5 : k / 40 = 5
  · rw [zinsT_5 e5] at h1
    rw [zrow_5 e5] at hg
    rw [hc, zrow_5 e5]
    have h2 := zpair_use (T := zT_5) (I := zI_5) zchk_5 (k % 40) zNone hg (pc, q) h1
    exact h2
  by_cases e6 : k / 40 = 6
  · rw [zinsT_6 e6] at h1
    rw [zrow_6 e6] at hg
    rw [hc, zrow_6 e6]
    have h2 := zpair_use (T := zT_6) (I := zI_6) zchk_6 (k % 40) zNone hg (pc, q) h1
    exact h2
  by_cases e7 : k / 40 = 7
  · rw [zinsT_7 e7] at h1
    rw [zrow_7 e7] at hg
    rw [hc, zrow_7 e7]
    have h2 := zpair_use (T := zT_7) (I := zI_7) zchk_7 (k % 40) zNone hg (pc, q) h1
    exact h2
  by_cases e8 : k / 40 = 8
  · rw [zinsT_8 e8] at h1
    rw [zrow_8 e8] at hg
    rw [hc, zrow_8 e8]
    have h2 := zpair_use (T := zT_8) (I := zI_8) zchk_8 (k % 40) zNone hg (pc, q) h1
    exact h2
  rw [zinsT_out (by omega)] at h1
  cases h1
def zhas (q : zPos) (w : Cond) : Bool := decide ((zpart q.1)[q.2]? = some w) && goodWord w
theorem zpart_in {i : Nat} {w : Cond} (h : w ∈ zpart i) : w ∈ lw_tbl := by
  unfold zpart at h
  unfold lw_tbl tables_1
  simp only [List.mem_append]
  split at h
  · simp only [h, true_or, or_true]
  · simp only [h, true_or, or_true]
  · simp only [h, true_or, or_true]
  · simp only [h, true_or, or_true]
  · simp only [h, true_or, or_true]
  · simp only [h, true_or, or_true]
  · cases h
def zTs : List Cond := lw_tbl.filter goodWord
theorem zhas_in {q : zPos} {w : Cond} (h : zhas q w = true) : w ∈ zTs := by
  unfold zhas at h
  rw [Bool.and_eq_true] at h
  exact List.mem_filter.mpr ⟨zpart_in (List.mem_of_getElem? (of_decide_eq_true h.1)), h.2⟩
theorem zTs_good : ∀ w ∈ zTs, (w.onTables && w.keeps) = true ∨ ∃ ty, w = .arrayClass ty := fun _ h => good_of_word (List.mem_filter.mp h).2
def zmOk (t : zRow) : Bool := Nat.ble 3 t.2.2.2.2.1 || ((bif Nat.beq t.2.2.2.2.1 0 then zhas t.2.2.2.2.2.2.2.2.1 (.static t.1) else zhas t.2.2.2.2.2.2.2.2.1 (.instanceMethod t.1)) && zhas t.2.2.2.2.2.2.2.2.2.1 (.initialized t.1.cls) && (!(Nat.beq t.2.2.2.2.1 1) || zhas t.2.2.2.2.2.2.2.2.2.2 (.selects t.1.cls t.1 t.1)) && (!(Nat.beq t.2.2.2.2.1 2) || decide (t.1.name = "<init>")) && decide (t.1.cls ≠ "java/lang/invoke/MethodHandle" ∧ t.1.cls ≠ "java/lang/invoke/VarHandle" ∧ (parseMethodDescriptor t.1.desc).map (fun d => d.parameters.length) = some t.2.2.2.2.2.1) && plainName t.1.cls && Nat.ble t.2.2.1 27 && decide (t.1.cls = zcn t.2.2.2.2.2.2.1) && Nat.ble t.2.2.2.2.2.2.1 12 && (!(Nat.beq t.2.2.2.2.1 2) || decide (t.2.2.2.1 = none)))
def zmBoth (t : zRow) : Prop := zgh t = true ∨ zmOk t = true ∧ (3 ≤ t.2.2.2.2.1 ∨ (zpart t.2.2.2.2.2.2.2.1.1)[t.2.2.2.2.2.2.2.1.2]? = some (.code t.1 t.2.1 t.2.2.1 t.2.2.2.1))
def zmAll : List zRow → Prop
  | [] => True
  | t :: T => zmBoth t ∧ zmAll T
theorem zmAll_use : ∀ {T : List zRow}, zmAll T → ∀ j : Nat, zmBoth ((T[j]?).getD zNone)
  | [], _, j => by
    rw [List.getElem?_nil]
    exact Or.inr ⟨rfl, Or.inl (by decide)⟩
  | t :: T, h, 0 => h.1
  | t :: T, h, j + 1 => by
    rw [List.getElem?_cons_succ]
    exact zmAll_use h.2 j
theorem zmr_0 : zmBoth zr_0 := Or.inr ⟨by decide +kernel, Or.inr rfl⟩
theorem zmr_1 : zmBoth zr_1 := Or.inr ⟨by decide +kernel, Or.inr rfl⟩
theorem zmr_2 : zmBoth zr_2 := Or.inr ⟨by decide +kernel, Or.inr rfl⟩
theorem zmr_3 : zmBoth zr_3 := Or.inr ⟨by decide +kernel, Or.inr rfl⟩
theorem zmr_4 : zmBoth zr_4 := Or.inr ⟨by decide +kernel, Or.inr rfl⟩
theorem zmr_5 : zmBoth zr_5 := Or.inr ⟨by decide +kernel, Or.inr rfl⟩
theorem zmr_6 : zmBoth zr_6 := Or.inr ⟨by decide +kernel, Or.inr rfl⟩
theorem zmr_7 : zmBoth zr_7 := Or.inr ⟨by decide +kernel, Or.inr rfl⟩
theorem zmr_8 : zmBoth zr_8 := Or.inr ⟨by decide +kernel, Or.inr rfl⟩
theorem zmr_9 : zmBoth zr_9 := Or.inr ⟨by decide +kernel, Or.inr rfl⟩
theorem zmr_10 : zmBoth zr_10 := Or.inr ⟨by decide +kernel, Or.inr rfl⟩
theorem zmr_11 : zmBoth zr_11 := Or.inr ⟨by decide +kernel, Or.inr rfl⟩
theorem zmr_12 : zmBoth zr_12 := Or.inr ⟨by decide +kernel, Or.inr rfl⟩
theorem zmr_13 : zmBoth zr_13 := Or.inr ⟨by decide +kernel, Or.inr rfl⟩
theorem zmr_14 : zmBoth zr_14 := Or.inr ⟨by decide +kernel, Or.inr rfl⟩
theorem zmr_15 : zmBoth zr_15 := Or.inr ⟨by decide +kernel, Or.inr rfl⟩
theorem zmr_16 : zmBoth zr_16 := Or.inr ⟨by decide +kernel, Or.inl (by decide)⟩
theorem zmr_17 : zmBoth zr_17 := Or.inr ⟨by decide +kernel, Or.inl (by decide)⟩
theorem zmr_18 : zmBoth zr_18 := Or.inr ⟨by decide +kernel, Or.inr rfl⟩
theorem zmr_19 : zmBoth zr_19 := Or.inr ⟨by decide +kernel, Or.inl (by decide)⟩
theorem zmr_20 : zmBoth zr_20 := Or.inr ⟨by decide +kernel, Or.inr rfl⟩
theorem zmr_21 : zmBoth zr_21 := Or.inr ⟨by decide +kernel, Or.inr rfl⟩
theorem zmr_22 : zmBoth zr_22 := Or.inr ⟨by decide +kernel, Or.inr rfl⟩
theorem zmr_23 : zmBoth zr_23 := Or.inr ⟨by decide +kernel, Or.inr rfl⟩
theorem zmr_24 : zmBoth zr_24 := Or.inr ⟨by decide +kernel, Or.inr rfl⟩
theorem zmr_25 : zmBoth zr_25 := Or.inr ⟨by decide +kernel, Or.inr rfl⟩
theorem zmr_26 : zmBoth zr_26 := Or.inr ⟨by decide +kernel, Or.inr rfl⟩
theorem zmr_27 : zmBoth zr_27 := Or.inr ⟨by decide +kernel, Or.inr rfl⟩
theorem zmr_28 : zmBoth zr_28 := Or.inr ⟨by decide +kernel, Or.inr rfl⟩
theorem zmr_29 : zmBoth zr_29 := Or.inr ⟨by decide +kernel, Or.inr rfl⟩
theorem zmr_30 : zmBoth zr_30 := Or.inr ⟨by decide +kernel, Or.inr rfl⟩
theorem zmr_31 : zmBoth zr_31 := Or.inr ⟨by decide +kernel, Or.inr rfl⟩
theorem zmr_32 : zmBoth zr_32 := Or.inr ⟨by decide +kernel, Or.inr rfl⟩
theorem zmr_33 : zmBoth zr_33 := Or.inr ⟨by decide +kernel, Or.inr rfl⟩
theorem zmr_34 : zmBoth zr_34 := Or.inr ⟨by decide +kernel, Or.inr rfl⟩
theorem zmr_35 : zmBoth zr_35 := Or.inr ⟨by decide +kernel, Or.inr rfl⟩
theorem zmr_36 : zmBoth zr_36 := Or.inr ⟨by decide +kernel, Or.inr rfl⟩
theorem zmr_37 : zmBoth zr_37 := Or.inr ⟨by decide +kernel, Or.inr rfl⟩
theorem zmr_38 : zmBoth zr_38 := Or.inr ⟨by decide +kernel, Or.inr rfl⟩
theorem zmr_39 : zmBoth zr_39 := Or.inr ⟨by decide +kernel, Or.inr rfl⟩
theorem zmr_40 : zmBoth zr_40 := Or.inr ⟨by decide +kernel, Or.inr rfl⟩
theorem zmr_41 : zmBoth zr_41 := Or.inr ⟨by decide +kernel, Or.inr rfl⟩
theorem zmr_42 : zmBoth zr_42 := Or.inr ⟨by decide +kernel, Or.inr rfl⟩
theorem zmr_43 : zmBoth zr_43 := Or.inr ⟨by decide +kernel, Or.inr rfl⟩
theorem zmr_44 : zmBoth zr_44 := Or.inr ⟨by decide +kernel, Or.inr rfl⟩
theorem zmr_45 : zmBoth zr_45 := Or.inr ⟨by decide +kernel, Or.inr rfl⟩
theorem zmr_46 : zmBoth zr_46 := Or.inr ⟨by decide +kernel, Or.inr rfl⟩
theorem zmr_47 : zmBoth zr_47 := Or.inr ⟨by decide +kernel, Or.inr rfl⟩
theorem zmr_48 : zmBoth zr_48 := Or.inr ⟨by decide +kernel, Or.inr rfl⟩
theorem zmr_49 : zmBoth zr_49 := Or.inr ⟨by decide +kernel, Or.inr rfl⟩
theorem zmr_50 : zmBoth zr_50 := Or.inr ⟨by decide +kernel, Or.inr rfl⟩
theorem zmr_51 : zmBoth zr_51 := Or.inr ⟨by decide +kernel, Or.inr rfl⟩
theorem zmr_52 : zmBoth zr_52 := Or.inr ⟨by decide +kernel, Or.inl (by decide)⟩
theorem zmr_53 : zmBoth zr_53 := Or.inr ⟨by decide +kernel, Or.inl (by decide)⟩
theorem zmr_54 : zmBoth zr_54 := Or.inr ⟨by decide +kernel, Or.inl (by decide)⟩
theorem zmr_55 : zmBoth zr_55 := Or.inr ⟨by decide +kernel, Or.inl (by decide)⟩
theorem zmr_56 : zmBoth zr_56 := Or.inr ⟨by decide +kernel, Or.inr rfl⟩
theorem zmr_57 : zmBoth zr_57 := Or.inr ⟨by decide +kernel, Or.inr rfl⟩
theorem zmr_58 : zmBoth zr_58 := Or.inr ⟨by decide +kernel, Or.inr rfl⟩
theorem zmr_59 : zmBoth zr_59 := Or.inr ⟨by decide +kernel, Or.inr rfl⟩
theorem zmr_60 : zmBoth zr_60 := Or.inr ⟨by decide +kernel, Or.inr rfl⟩
theorem zmr_61 : zmBoth zr_61 := Or.inr ⟨by decide +kernel, Or.inr rfl⟩
theorem zmr_62 : zmBoth zr_62 := Or.inr ⟨by decide +kernel, Or.inr rfl⟩
theorem zmr_63 : zmBoth zr_63 := Or.inr ⟨by decide +kernel, Or.inr rfl⟩
theorem zmr_64 : zmBoth zr_64 := Or.inr ⟨by decide +kernel, Or.inr rfl⟩
theorem zmr_65 : zmBoth zr_65 := Or.inr ⟨by decide +kernel, Or.inr rfl⟩
theorem zmr_66 : zmBoth zr_66 := Or.inr ⟨by decide +kernel, Or.inr rfl⟩
theorem zmr_67 : zmBoth zr_67 := Or.inr ⟨by decide +kernel, Or.inr rfl⟩
theorem zmr_68 : zmBoth zr_68 := Or.inr ⟨by decide +kernel, Or.inr rfl⟩
theorem zmr_69 : zmBoth zr_69 := Or.inr ⟨by decide +kernel, Or.inr rfl⟩
theorem zmr_70 : zmBoth zr_70 := Or.inr ⟨by decide +kernel, Or.inr rfl⟩
theorem zmr_71 : zmBoth zr_71 := Or.inr ⟨by decide +kernel, Or.inr rfl⟩
theorem zmr_72 : zmBoth zr_72 := Or.inr ⟨by decide +kernel, Or.inr rfl⟩
theorem zmr_73 : zmBoth zr_73 := Or.inr ⟨by decide +kernel, Or.inr rfl⟩
theorem zmr_74 : zmBoth zr_74 := Or.inr ⟨by decide +kernel, Or.inl (by decide)⟩
theorem zmr_75 : zmBoth zr_75 := Or.inr ⟨by decide +kernel, Or.inl (by decide)⟩
theorem zmr_76 : zmBoth zr_76 := Or.inr ⟨by decide +kernel, Or.inl (by decide)⟩
theorem zmr_77 : zmBoth zr_77 := Or.inr ⟨by decide +kernel, Or.inr rfl⟩
theorem zmr_78 : zmBoth zr_78 := Or.inr ⟨by decide +kernel, Or.inr rfl⟩
theorem zmr_79 : zmBoth zr_79 := Or.inr ⟨by decide +kernel, Or.inr rfl⟩
theorem zmr_80 : zmBoth zr_80 := Or.inr ⟨by decide +kernel, Or.inr rfl⟩
theorem zmr_81 : zmBoth zr_81 := Or.inr ⟨by decide +kernel, Or.inl (by decide)⟩
theorem zmr_82 : zmBoth zr_82 := Or.inr ⟨by decide +kernel, Or.inr rfl⟩
theorem zmr_83 : zmBoth zr_83 := Or.inr ⟨by decide +kernel, Or.inl (by decide)⟩
theorem zmr_84 : zmBoth zr_84 := Or.inr ⟨by decide +kernel, Or.inr rfl⟩
theorem zmr_85 : zmBoth zr_85 := Or.inr ⟨by decide +kernel, Or.inr rfl⟩
theorem zmr_86 : zmBoth zr_86 := Or.inr ⟨by decide +kernel, Or.inl (by decide)⟩
theorem zmr_87 : zmBoth zr_87 := Or.inr ⟨by decide +kernel, Or.inr rfl⟩
theorem zmr_88 : zmBoth zr_88 := Or.inr ⟨by decide +kernel, Or.inr rfl⟩
theorem zmr_89 : zmBoth zr_89 := Or.inr ⟨by decide +kernel, Or.inr rfl⟩
theorem zmr_90 : zmBoth zr_90 := Or.inr ⟨by decide +kernel, Or.inr rfl⟩
theorem zmr_91 : zmBoth zr_91 := Or.inr ⟨by decide +kernel, Or.inr rfl⟩
theorem zmr_92 : zmBoth zr_92 := Or.inr ⟨by decide +kernel, Or.inr rfl⟩
theorem zmr_93 : zmBoth zr_93 := Or.inr ⟨by decide +kernel, Or.inr rfl⟩
theorem zmr_94 : zmBoth zr_94 := Or.inr ⟨by decide +kernel, Or.inr rfl⟩
theorem zmr_95 : zmBoth zr_95 := Or.inr ⟨by decide +kernel, Or.inr rfl⟩
theorem zmr_96 : zmBoth zr_96 := Or.inr ⟨by decide +kernel, Or.inr rfl⟩
theorem zmr_97 : zmBoth zr_97 := Or.inr ⟨by decide +kernel, Or.inr rfl⟩
theorem zmr_98 : zmBoth zr_98 := Or.inr ⟨by decide +kernel, Or.inr rfl⟩
theorem zmr_99 : zmBoth zr_99 := Or.inr ⟨by decide +kernel, Or.inr rfl⟩
theorem zmr_100 : zmBoth zr_100 := Or.inr ⟨by decide +kernel, Or.inr rfl⟩
theorem zmr_101 : zmBoth zr_101 := Or.inr ⟨by decide +kernel, Or.inr rfl⟩
theorem zmr_102 : zmBoth zr_102 := Or.inr ⟨by decide +kernel, Or.inr rfl⟩
theorem zmr_103 : zmBoth zr_103 := Or.inr ⟨by decide +kernel, Or.inr rfl⟩
theorem zmr_104 : zmBoth zr_104 := Or.inr ⟨by decide +kernel, Or.inr rfl⟩
theorem zmr_105 : zmBoth zr_105 := Or.inr ⟨by decide +kernel, Or.inr rfl⟩
theorem zmr_106 : zmBoth zr_106 := Or.inr ⟨by decide +kernel, Or.inr rfl⟩
theorem zmr_107 : zmBoth zr_107 := Or.inr ⟨by decide +kernel, Or.inr rfl⟩
theorem zmr_108 : zmBoth zr_108 := Or.inr ⟨by decide +kernel, Or.inr rfl⟩
theorem zmr_109 : zmBoth zr_109 := Or.inr ⟨by decide +kernel, Or.inr rfl⟩
theorem zmr_110 : zmBoth zr_110 := Or.inr ⟨by decide +kernel, Or.inr rfl⟩
theorem zmr_111 : zmBoth zr_111 := Or.inr ⟨by decide +kernel, Or.inr rfl⟩
theorem zmr_112 : zmBoth zr_112 := Or.inr ⟨by decide +kernel, Or.inr rfl⟩
theorem zmr_113 : zmBoth zr_113 := Or.inr ⟨by decide +kernel, Or.inr rfl⟩
theorem zmr_114 : zmBoth zr_114 := Or.inr ⟨by decide +kernel, Or.inr rfl⟩
theorem zmr_115 : zmBoth zr_115 := Or.inr ⟨by decide +kernel, Or.inr rfl⟩
theorem zmr_116 : zmBoth zr_116 := Or.inr ⟨by decide +kernel, Or.inl (by decide)⟩
theorem zmr_117 : zmBoth zr_117 := Or.inr ⟨by decide +kernel, Or.inl (by decide)⟩
theorem zmr_118 : zmBoth zr_118 := Or.inr ⟨by decide +kernel, Or.inl (by decide)⟩
theorem zmr_119 : zmBoth zr_119 := Or.inr ⟨by decide +kernel, Or.inl (by decide)⟩
theorem zmr_120 : zmBoth zr_120 := Or.inr ⟨by decide +kernel, Or.inl (by decide)⟩
theorem zmr_121 : zmBoth zr_121 := Or.inr ⟨by decide +kernel, Or.inr rfl⟩
theorem zmr_122 : zmBoth zr_122 := Or.inr ⟨by decide +kernel, Or.inr rfl⟩
theorem zmr_123 : zmBoth zr_123 := Or.inr ⟨by decide +kernel, Or.inr rfl⟩
theorem zmr_124 : zmBoth zr_124 := Or.inr ⟨by decide +kernel, Or.inr rfl⟩
theorem zmr_125 : zmBoth zr_125 := Or.inr ⟨by decide +kernel, Or.inr rfl⟩
theorem zmr_126 : zmBoth zr_126 := Or.inr ⟨by decide +kernel, Or.inl (by decide)⟩
theorem zmr_127 : zmBoth zr_127 := Or.inr ⟨by decide +kernel, Or.inl (by decide)⟩
theorem zmr_128 : zmBoth zr_128 := Or.inr ⟨by decide +kernel, Or.inr rfl⟩
theorem zmr_129 : zmBoth zr_129 := Or.inr ⟨by decide +kernel, Or.inr rfl⟩
theorem zmr_130 : zmBoth zr_130 := Or.inr ⟨by decide +kernel, Or.inr rfl⟩
theorem zmr_131 : zmBoth zr_131 := Or.inr ⟨by decide +kernel, Or.inr rfl⟩
theorem zmr_132 : zmBoth zr_132 := Or.inr ⟨by decide +kernel, Or.inr rfl⟩
theorem zmr_133 : zmBoth zr_133 := Or.inr ⟨by decide +kernel, Or.inr rfl⟩
theorem zmr_134 : zmBoth zr_134 := Or.inr ⟨by decide +kernel, Or.inl (by decide)⟩
theorem zmr_135 : zmBoth zr_135 := Or.inr ⟨by decide +kernel, Or.inr rfl⟩
theorem zmr_136 : zmBoth zr_136 := Or.inr ⟨by decide +kernel, Or.inr rfl⟩
theorem zmr_137 : zmBoth zr_137 := Or.inr ⟨by decide +kernel, Or.inr rfl⟩
theorem zmr_138 : zmBoth zr_138 := Or.inr ⟨by decide +kernel, Or.inr rfl⟩
theorem zmr_139 : zmBoth zr_139 := Or.inr ⟨by decide +kernel, Or.inr rfl⟩
theorem zmr_140 : zmBoth zr_140 := Or.inr ⟨by decide +kernel, Or.inl (by decide)⟩
theorem zmr_141 : zmBoth zr_141 := Or.inr ⟨by decide +kernel, Or.inr rfl⟩
theorem zmr_142 : zmBoth zr_142 := Or.inr ⟨by decide +kernel, Or.inr rfl⟩
theorem zmr_143 : zmBoth zr_143 := Or.inr ⟨by decide +kernel, Or.inr rfl⟩
theorem zmr_144 : zmBoth zr_144 := Or.inr ⟨by decide +kernel, Or.inl (by decide)⟩
theorem zmr_145 : zmBoth zr_145 := Or.inr ⟨by decide +kernel, Or.inr rfl⟩
theorem zmr_146 : zmBoth zr_146 := Or.inr ⟨by decide +kernel, Or.inr rfl⟩
theorem zmr_147 : zmBoth zr_147 := Or.inr ⟨by decide +kernel, Or.inr rfl⟩
theorem zmr_148 : zmBoth zr_148 := Or.inr ⟨by decide +kernel, Or.inr rfl⟩
theorem zmr_149 : zmBoth zr_149 := Or.inr ⟨by decide +kernel, Or.inr rfl⟩
theorem zmr_150 : zmBoth zr_150 := Or.inr ⟨by decide +kernel, Or.inl (by decide)⟩
theorem zmr_151 : zmBoth zr_151 := Or.inr ⟨by decide +kernel, Or.inr rfl⟩
theorem zmr_152 : zmBoth zr_152 := Or.inr ⟨by decide +kernel, Or.inl (by decide)⟩
theorem zmr_153 : zmBoth zr_153 := Or.inr ⟨by decide +kernel, Or.inr rfl⟩
theorem zmr_154 : zmBoth zr_154 := Or.inr ⟨by decide +kernel, Or.inl (by decide)⟩
theorem zmr_155 : zmBoth zr_155 := Or.inr ⟨by decide +kernel, Or.inr rfl⟩
theorem zmr_156 : zmBoth zr_156 := Or.inr ⟨by decide +kernel, Or.inr rfl⟩
theorem zmr_157 : zmBoth zr_157 := Or.inr ⟨by decide +kernel, Or.inr rfl⟩
theorem zmr_158 : zmBoth zr_158 := Or.inr ⟨by decide +kernel, Or.inr rfl⟩
theorem zmr_159 : zmBoth zr_159 := Or.inr ⟨by decide +kernel, Or.inl (by decide)⟩
theorem zmr_160 : zmBoth zr_160 := Or.inr ⟨by decide +kernel, Or.inr rfl⟩
theorem zmr_161 : zmBoth zr_161 := Or.inr ⟨by decide +kernel, Or.inl (by decide)⟩
theorem zmr_162 : zmBoth zr_162 := Or.inr ⟨by decide +kernel, Or.inl (by decide)⟩
theorem zmr_163 : zmBoth zr_163 := Or.inr ⟨by decide +kernel, Or.inr rfl⟩
theorem zmr_164 : zmBoth zr_164 := Or.inr ⟨by decide +kernel, Or.inl (by decide)⟩
theorem zmr_165 : zmBoth zr_165 := Or.inr ⟨by decide +kernel, Or.inr rfl⟩
theorem zmr_166 : zmBoth zr_166 := Or.inr ⟨by decide +kernel, Or.inr rfl⟩
theorem zmr_167 : zmBoth zr_167 := Or.inr ⟨by decide +kernel, Or.inr rfl⟩
theorem zmr_168 : zmBoth zr_168 := Or.inr ⟨by decide +kernel, Or.inr rfl⟩
theorem zmr_169 : zmBoth zr_169 := Or.inr ⟨by decide +kernel, Or.inr rfl⟩
theorem zmr_170 : zmBoth zr_170 := Or.inr ⟨by decide +kernel, Or.inr rfl⟩
theorem zmr_171 : zmBoth zr_171 := Or.inr ⟨by decide +kernel, Or.inl (by decide)⟩
theorem zmr_172 : zmBoth zr_172 := Or.inr ⟨by decide +kernel, Or.inl (by decide)⟩
theorem zmr_173 : zmBoth zr_173 := Or.inr ⟨by decide +kernel, Or.inl (by decide)⟩
theorem zmr_174 : zmBoth zr_174 := Or.inr ⟨by decide +kernel, Or.inr rfl⟩
theorem zmr_175 : zmBoth zr_175 := Or.inr ⟨by decide +kernel, Or.inr rfl⟩
theorem zmr_176 : zmBoth zr_176 := Or.inr ⟨by decide +kernel, Or.inr rfl⟩
theorem zmr_177 : zmBoth zr_177 := Or.inr ⟨by decide +kernel, Or.inr rfl⟩
theorem zmr_178 : zmBoth zr_178 := Or.inr ⟨by decide +kernel, Or.inr rfl⟩
theorem zmr_179 : zmBoth zr_179 := Or.inr ⟨by decide +kernel, Or.inr rfl⟩
theorem zmr_180 : zmBoth zr_180 := Or.inr ⟨by decide +kernel, Or.inr rfl⟩
theorem zmr_181 : zmBoth zr_181 := Or.inr ⟨by decide +kernel, Or.inr rfl⟩
theorem zmr_182 : zmBoth zr_182 := Or.inr ⟨by decide +kernel, Or.inr rfl⟩
theorem zmr_183 : zmBoth zr_183 := Or.inr ⟨by decide +kernel, Or.inr rfl⟩
theorem zmr_184 : zmBoth zr_184 := Or.inr ⟨by decide +kernel, Or.inr rfl⟩
theorem zmr_185 : zmBoth zr_185 := Or.inr ⟨by decide +kernel, Or.inr rfl⟩
theorem zmr_186 : zmBoth zr_186 := Or.inr ⟨by decide +kernel, Or.inr rfl⟩
theorem zmr_187 : zmBoth zr_187 := Or.inr ⟨by decide +kernel, Or.inr rfl⟩
theorem zmr_188 : zmBoth zr_188 := Or.inr ⟨by decide +kernel, Or.inr rfl⟩
theorem zmr_189 : zmBoth zr_189 := Or.inr ⟨by decide +kernel, Or.inr rfl⟩
theorem zmr_190 : zmBoth zr_190 := Or.inl rfl
theorem zmr_191 : zmBoth zr_191 := Or.inl rfl
theorem zmr_192 : zmBoth zr_192 := Or.inl rfl
theorem zmr_193 : zmBoth zr_193 := Or.inl rfl
theorem zmr_194 : zmBoth zr_194 := Or.inl rfl
theorem zmr_195 : zmBoth zr_195 := Or.inl rfl
theorem zmr_196 : zmBoth zr_196 := Or.inl rfl
theorem zmr_197 : zmBoth zr_197 := Or.inl rfl
theorem zmr_198 : zmBoth zr_198 := Or.inl rfl
theorem zmr_199 : zmBoth zr_199 := Or.inl rfl
theorem zmr_200 : zmBoth zr_200 := Or.inl rfl
theorem zmr_201 : zmBoth zr_201 := Or.inl rfl
theorem zmr_202 : zmBoth zr_202 := Or.inl rfl
theorem zmr_203 : zmBoth zr_203 := Or.inl rfl
theorem zmr_204 : zmBoth zr_204 := Or.inl rfl
theorem zmr_205 : zmBoth zr_205 := Or.inl rfl
theorem zmr_206 : zmBoth zr_206 := Or.inl rfl
theorem zmr_207 : zmBoth zr_207 := Or.inl rfl
theorem zmr_208 : zmBoth zr_208 := Or.inl rfl
theorem zmr_209 : zmBoth zr_209 := Or.inl rfl
theorem zmr_210 : zmBoth zr_210 := Or.inl rfl
theorem zmr_211 : zmBoth zr_211 := Or.inl rfl
theorem zmr_212 : zmBoth zr_212 := Or.inl rfl
theorem zmr_213 : zmBoth zr_213 := Or.inl rfl
theorem zmr_214 : zmBoth zr_214 := Or.inl rfl
theorem zmr_215 : zmBoth zr_215 := Or.inl rfl
theorem zmr_216 : zmBoth zr_216 := Or.inl rfl
theorem zmr_217 : zmBoth zr_217 := Or.inl rfl
theorem zmr_218 : zmBoth zr_218 := Or.inl rfl
theorem zmr_219 : zmBoth zr_219 := Or.inl rfl
theorem zmr_220 : zmBoth zr_220 := Or.inl rfl
theorem zmr_221 : zmBoth zr_221 := Or.inl rfl
theorem zmr_222 : zmBoth zr_222 := Or.inl rfl
theorem zmr_223 : zmBoth zr_223 := Or.inl rfl
theorem zmr_224 : zmBoth zr_224 := Or.inl rfl
theorem zmr_225 : zmBoth zr_225 := Or.inl rfl
theorem zmr_226 : zmBoth zr_226 := Or.inl rfl
theorem zmr_227 : zmBoth zr_227 := Or.inl rfl
theorem zmr_228 : zmBoth zr_228 := Or.inl rfl
theorem zmr_229 : zmBoth zr_229 := Or.inl rfl
theorem zmr_230 : zmBoth zr_230 := Or.inl rfl
theorem zmr_231 : zmBoth zr_231 := Or.inl rfl
theorem zmr_232 : zmBoth zr_232 := Or.inl rfl
theorem zmr_233 : zmBoth zr_233 := Or.inl rfl
theorem zmr_234 : zmBoth zr_234 := Or.inl rfl
theorem zmr_235 : zmBoth zr_235 := Or.inl rfl
theorem zmr_236 : zmBoth zr_236 := Or.inl rfl
theorem zmr_237 : zmBoth zr_237 := Or.inl rfl
theorem zmr_238 : zmBoth zr_238 := Or.inl rfl
theorem zmr_239 : zmBoth zr_239 := Or.inl rfl
theorem zmr_240 : zmBoth zr_240 := Or.inl rfl
theorem zmr_241 : zmBoth zr_241 := Or.inl rfl
theorem zmr_242 : zmBoth zr_242 := Or.inl rfl
theorem zmr_243 : zmBoth zr_243 := Or.inl rfl
theorem zmr_244 : zmBoth zr_244 := Or.inl rfl
theorem zmr_245 : zmBoth zr_245 := Or.inl rfl
theorem zmr_246 : zmBoth zr_246 := Or.inl rfl
theorem zmr_247 : zmBoth zr_247 := Or.inl rfl
theorem zmr_248 : zmBoth zr_248 := Or.inl rfl
theorem zmr_249 : zmBoth zr_249 := Or.inl rfl
theorem zmr_250 : zmBoth zr_250 := Or.inl rfl
theorem zmr_251 : zmBoth zr_251 := Or.inl rfl
theorem zmr_252 : zmBoth zr_252 := Or.inl rfl
theorem zmr_253 : zmBoth zr_253 := Or.inl rfl
theorem zmr_254 : zmBoth zr_254 := Or.inl rfl
theorem zmr_255 : zmBoth zr_255 := Or.inl rfl
theorem zmr_256 : zmBoth zr_256 := Or.inl rfl
theorem zmr_257 : zmBoth zr_257 := Or.inl rfl
theorem zmr_258 : zmBoth zr_258 := Or.inl rfl
theorem zmr_259 : zmBoth zr_259 := Or.inl rfl
theorem zmr_260 : zmBoth zr_260 := Or.inl rfl
theorem zmr_261 : zmBoth zr_261 := Or.inl rfl
theorem zmr_262 : zmBoth zr_262 := Or.inl rfl
theorem zmr_263 : zmBoth zr_263 := Or.inl rfl
theorem zmr_264 : zmBoth zr_264 := Or.inl rfl
theorem zmr_265 : zmBoth zr_265 := Or.inl rfl
theorem zmr_266 : zmBoth zr_266 := Or.inl rfl
theorem zmr_267 : zmBoth zr_267 := Or.inl rfl
theorem zmr_268 : zmBoth zr_268 := Or.inl rfl
theorem zmr_269 : zmBoth zr_269 := Or.inl rfl
theorem zmr_270 : zmBoth zr_270 := Or.inl rfl
theorem zmr_271 : zmBoth zr_271 := Or.inl rfl
theorem zmr_272 : zmBoth zr_272 := Or.inl rfl
theorem zmr_273 : zmBoth zr_273 := Or.inl rfl
theorem zmr_274 : zmBoth zr_274 := Or.inl rfl
theorem zmr_275 : zmBoth zr_275 := Or.inl rfl
theorem zmr_276 : zmBoth zr_276 := Or.inl rfl
theorem zmr_277 : zmBoth zr_277 := Or.inl rfl
theorem zmr_278 : zmBoth zr_278 := Or.inl rfl
theorem zmr_279 : zmBoth zr_279 := Or.inl rfl
theorem zmr_280 : zmBoth zr_280 := Or.inl rfl
theorem zmr_281 : zmBoth zr_281 := Or.inl rfl
theorem zmr_282 : zmBoth zr_282 := Or.inl rfl
theorem zmr_283 : zmBoth zr_283 := Or.inl rfl
theorem zmr_284 : zmBoth zr_284 := Or.inl rfl
theorem zmr_285 : zmBoth zr_285 := Or.inl rfl
theorem zmr_286 : zmBoth zr_286 := Or.inl rfl
theorem zmr_287 : zmBoth zr_287 := Or.inl rfl
theorem zmr_288 : zmBoth zr_288 := Or.inl rfl
theorem zmr_289 : zmBoth zr_289 := Or.inl rfl
theorem zmr_290 : zmBoth zr_290 := Or.inl rfl
theorem zmr_291 : zmBoth zr_291 := Or.inl rfl
theorem zmr_292 : zmBoth zr_292 := Or.inl rfl
theorem zmr_293 : zmBoth zr_293 := Or.inl rfl
theorem zmr_294 : zmBoth zr_294 := Or.inl rfl
theorem zmr_295 : zmBoth zr_295 := Or.inl rfl
theorem zmr_296 : zmBoth zr_296 := Or.inl rfl
theorem zmr_297 : zmBoth zr_297 := Or.inl rfl
theorem zmr_298 : zmBoth zr_298 := Or.inl rfl
theorem zmr_299 : zmBoth zr_299 := Or.inl rfl
theorem zmr_300 : zmBoth zr_300 := Or.inl rfl
theorem zmr_301 : zmBoth zr_301 := Or.inl rfl
theorem zmr_302 : zmBoth zr_302 := Or.inl rfl
theorem zmr_303 : zmBoth zr_303 := Or.inl rfl
theorem zmr_304 : zmBoth zr_304 := Or.inl rfl
theorem zmr_305 : zmBoth zr_305 := Or.inl rfl
theorem zmr_306 : zmBoth zr_306 := Or.inl rfl
theorem zmr_307 : zmBoth zr_307 := Or.inl rfl
theorem zmr_308 : zmBoth zr_308 := Or.inl rfl
theorem zmr_309 : zmBoth zr_309 := Or.inl rfl
theorem zmr_310 : zmBoth zr_310 := Or.inl rfl
theorem zmr_311 : zmBoth zr_311 := Or.inl rfl
theorem zmr_312 : zmBoth zr_312 := Or.inl rfl
theorem zmr_313 : zmBoth zr_313 := Or.inl rfl
theorem zmr_314 : zmBoth zr_314 := Or.inl rfl
theorem zmr_315 : zmBoth zr_315 := Or.inr ⟨by decide +kernel, Or.inl (by decide)⟩
theorem zmr_316 : zmBoth zr_316 := Or.inr ⟨by decide +kernel, Or.inl (by decide)⟩
theorem zmr_317 : zmBoth zr_317 := Or.inr ⟨by decide +kernel, Or.inl (by decide)⟩
theorem zmr_318 : zmBoth zr_318 := Or.inr ⟨by decide +kernel, Or.inl (by decide)⟩
theorem zmr_319 : zmBoth zr_319 := Or.inr ⟨by decide +kernel, Or.inr rfl⟩
theorem zmr_320 : zmBoth zr_320 := Or.inr ⟨by decide +kernel, Or.inr rfl⟩
theorem zmr_321 : zmBoth zr_321 := Or.inr ⟨by decide +kernel, Or.inr rfl⟩
theorem zmr_322 : zmBoth zr_322 := Or.inr ⟨by decide +kernel, Or.inr rfl⟩
theorem zmr_323 : zmBoth zr_323 := Or.inr ⟨by decide +kernel, Or.inr rfl⟩
theorem zmr_324 : zmBoth zr_324 := Or.inr ⟨by decide +kernel, Or.inr rfl⟩
theorem zmr_325 : zmBoth zr_325 := Or.inr ⟨by decide +kernel, Or.inr rfl⟩
theorem zmr_326 : zmBoth zr_326 := Or.inr ⟨by decide +kernel, Or.inr rfl⟩
theorem zmr_327 : zmBoth zr_327 := Or.inr ⟨by decide +kernel, Or.inr rfl⟩
theorem zm_0 : zmAll zT_0 := ⟨zmr_0, zmr_1, zmr_2, zmr_3, zmr_4, zmr_5, zmr_6, zmr_7, zmr_8, zmr_9, zmr_10, zmr_11, zmr_12, zmr_13, zmr_14, zmr_15, zmr_16, zmr_17, zmr_18, zmr_19, zmr_20, zmr_21, zmr_22, zmr_23, zmr_24, zmr_25, zmr_26, zmr_27, zmr_28, zmr_29, zmr_30, zmr_31, zmr_32, zmr_33, zmr_34, zmr_35, zmr_36, zmr_37, zmr_38, zmr_39, trivial⟩
theorem zm_1 : zmAll zT_1 := ⟨zmr_40, zmr_41, zmr_42, zmr_43, zmr_44, zmr_45, zmr_46, zmr_47, zmr_48, zmr_49, zmr_50, zmr_51, zmr_52, zmr_53, zmr_54, zmr_55, zmr_56, zmr_57, zmr_58, zmr_59, zmr_60, zmr_61, zmr_62, zmr_63, zmr_64, zmr_65, zmr_66, zmr_67, zmr_68, zmr_69, zmr_70, zmr_71, zmr_72, zmr_73, zmr_74, zmr_75, zmr_76, zmr_77, zmr_78, zmr_79, trivial⟩
theorem zm_2 : zmAll zT_2 := ⟨zmr_80, zmr_81, zmr_82, zmr_83, zmr_84, zmr_85, zmr_86, zmr_87, zmr_88, zmr_89, zmr_90, zmr_91, zmr_92, zmr_93, zmr_94, zmr_95, zmr_96, zmr_97, zmr_98, zmr_99, zmr_100, zmr_101, zmr_102, zmr_103, zmr_104, zmr_105, zmr_106, zmr_107, zmr_108, zmr_109, zmr_110, zmr_111, zmr_112, zmr_113, zmr_114, zmr_115, zmr_116, zmr_117, zmr_118, zmr_119, trivial⟩
theorem zm_3 : zmAll zT_3 := ⟨zmr_120, zmr_121, zmr_122, zmr_123, zmr_124, zmr_125, zmr_126, zmr_127, zmr_128, zmr_129, zmr_130, zmr_131, zmr_132, zmr_133, zmr_134, zmr_135, zmr_136, zmr_137, zmr_138, zmr_139, zmr_140, zmr_141, zmr_142, zmr_143, zmr_144, zmr_145, zmr_146, zmr_147, zmr_148, zmr_149, zmr_150, zmr_151, zmr_152, zmr_153, zmr_154, zmr_155, zmr_156, zmr_157, zmr_158, zmr_159, trivial⟩
theorem zm_4 : zmAll zT_4 := ⟨zmr_160, zmr_161, zmr_162, zmr_163, zmr_164, zmr_165, zmr_166, zmr_167, zmr_168, zmr_169, zmr_170, zmr_171, zmr_172, zmr_173, zmr_174, zmr_175, zmr_176, zmr_177, zmr_178, zmr_179, zmr_180, zmr_181, zmr_182, zmr_183, zmr_184, zmr_185, zmr_186, zmr_187, zmr_188, zmr_189, zmr_190, zmr_191, zmr_192, zmr_193, zmr_194, zmr_195, zmr_196, zmr_197, zmr_198, zmr_199, trivial⟩
theorem zm_5 : zmAll zT_5 := ⟨zmr_200, zmr_201, zmr_202, zmr_203, zmr_204, zmr_205, zmr_206, zmr_207, zmr_208, zmr_209, zmr_210, zmr_211, zmr_212, zmr_213, zmr_214, zmr_215, zmr_216, zmr_217, zmr_218, zmr_219, zmr_220, zmr_221, zmr_222, zmr_223, zmr_224, zmr_225, zmr_226, zmr_227, zmr_228, zmr_229, zmr_230, zmr_231, zmr_232, zmr_233, zmr_234, zmr_235, zmr_236, zmr_237, zmr_238, zmr_239, trivial⟩
theorem zm_6 : zmAll zT_6 := ⟨zmr_240, zmr_241, zmr_242, zmr_243, zmr_244, zmr_245, zmr_246, zmr_247, zmr_248, zmr_249, zmr_250, zmr_251, zmr_252, zmr_253, zmr_254, zmr_255, zmr_256, zmr_257, zmr_258, zmr_259, zmr_260, zmr_261, zmr_262, zmr_263, zmr_264, zmr_265, zmr_266, zmr_267, zmr_268, zmr_269, zmr_270, zmr_271, zmr_272, zmr_273, zmr_274, zmr_275, zmr_276, zmr_277, zmr_278, zmr_279, trivial⟩
theorem zm_7 : zmAll zT_7 := ⟨zmr_280, zmr_281, zmr_282, zmr_283, zmr_284, zmr_285, zmr_286, zmr_287, zmr_288, zmr_289, zmr_290, zmr_291, zmr_292, zmr_293, zmr_294, zmr_295, zmr_296, zmr_297, zmr_298, zmr_299, zmr_300, zmr_301, zmr_302, zmr_303, zmr_304, zmr_305, zmr_306, zmr_307, zmr_308, zmr_309, zmr_310, zmr_311, zmr_312, zmr_313, zmr_314, zmr_315, zmr_316, zmr_317, zmr_318, zmr_319, trivial⟩
theorem zm_8 : zmAll zT_8 := ⟨zmr_320, zmr_321, zmr_322, zmr_323, zmr_324, zmr_325, zmr_326, zmr_327, trivial⟩
theorem zm_ok (k : Nat) : zmBoth (zrow k) := by
  by_cases e0 : k / 40 = 0
  · rw [zrow_0 e0]; exact zmAll_use zm_0 _
  by_cases e1 : k / 40 = 1
  · rw [zrow_1 e1]; exact zmAll_use zm_1 _
  by_cases e2 : k / 40 = 2
  · rw [zrow_2 e2]; exact zmAll_use zm_2 _
  by_cases e3 : k / 40 = 3
  · rw [zrow_3 e3]; exact zmAll_use zm_3 _
  by_cases e4 : k / 40 = 4
  · rw [zrow_4 e4]; exact zmAll_use zm_4 _
  by_cases e5 : k / 40 = 5
  · rw [zrow_5 e5]; exact zmAll_use zm_5 _
  by_cases e6 : k / 40 = 6
  · rw [zrow_6 e6]; exact zmAll_use zm_6 _
  by_cases e7 : k / 40 = 7
  · rw [zrow_7 e7]; exact zmAll_use zm_7 _
  by_cases e8 : k / 40 = 8
  · rw [zrow_8 e8]; exact zmAll_use zm_8 _
  rw [zrow_out (by omega)]
  exact Or.inr ⟨rfl, Or.inl (by decide)⟩
def zNs : List Cond := [(Cond.methodLinkNest "SkippingKeys$Lines" (31 : Nat) ({ cls := "SkippingKeys", name := "isWithin", desc := "(III)Z" } : Jvm.MethodName) "SkippingKeys"), (Cond.methodLinkNest "SkippingKeys$Conditions" (29 : Nat) ({ cls := "SkippingKeys", name := "isWithin", desc := "(III)Z" } : Jvm.MethodName) "SkippingKeys"), (Cond.fieldLinkNest "SkippingKeys$Lines" (47 : Nat) "SkippingKeys" "COLUMN_AT" "[I" "SkippingKeys"), (Cond.fieldLinkNest "SkippingKeys$Condition" (106 : Nat) "SkippingKeys" "WEIGHT" "[I" "SkippingKeys"), (Cond.methodLinkNest "SkippingKeys$Condition" (92 : Nat) ({ cls := "SkippingKeys", name := "compared", desc := "(III)I" } : Jvm.MethodName) "SkippingKeys"), (Cond.methodLinkNest "SkippingKeys$Tape" (26 : Nat) ({ cls := "SkippingKeys", name := "isWithin", desc := "(III)Z" } : Jvm.MethodName) "SkippingKeys"), (Cond.methodLinkNest "SkippingKeys$Condition" (43 : Nat) ({ cls := "SkippingKeys", name := "isWithin", desc := "(III)Z" } : Jvm.MethodName) "SkippingKeys"), (Cond.methodLinkNest "SkippingKeys$Spans" (41 : Nat) ({ cls := "SkippingKeys", name := "placeOf", desc := "(II)I" } : Jvm.MethodName) "SkippingKeys"), (Cond.methodLinkNest "SkippingKeys$Spans" (65 : Nat) ({ cls := "SkippingKeys", name := "isWithin", desc := "(III)Z" } : Jvm.MethodName) "SkippingKeys"), (Cond.methodLinkNest "SkippingKeys$Shelves" (22 : Nat) ({ cls := "SkippingKeys", name := "isWithin", desc := "(III)Z" } : Jvm.MethodName) "SkippingKeys")]
theorem zNs_in : ∀ w ∈ zNs, w ∈ lw_tbl := by
  intro w hw
  simp only [zNs, List.mem_cons, List.not_mem_nil, or_false] at hw
  rcases hw with rfl | rfl | rfl | rfl | rfl | rfl | rfl | rfl | rfl | rfl
  · exact zpart_in (i := 2) (List.mem_of_getElem? (i := 63) (by decide +kernel))
  · exact zpart_in (i := 2) (List.mem_of_getElem? (i := 82) (by decide +kernel))
  · exact zpart_in (i := 2) (List.mem_of_getElem? (i := 117) (by decide +kernel))
  · exact zpart_in (i := 3) (List.mem_of_getElem? (i := 31) (by decide +kernel))
  · exact zpart_in (i := 3) (List.mem_of_getElem? (i := 33) (by decide +kernel))
  · exact zpart_in (i := 3) (List.mem_of_getElem? (i := 213) (by decide +kernel))
  · exact zpart_in (i := 3) (List.mem_of_getElem? (i := 230) (by decide +kernel))
  · exact zpart_in (i := 4) (List.mem_of_getElem? (i := 51) (by decide +kernel))
  · exact zpart_in (i := 4) (List.mem_of_getElem? (i := 154) (by decide +kernel))
  · exact zpart_in (i := 4) (List.mem_of_getElem? (i := 200) (by decide +kernel))
def zcharAt : MethodName := ⟨"java/lang/String", "charAt", "(I)C"⟩
def zMlOk (c : Nat) (e : Nat × Nat × Nat × zPos) : Bool := bif Nat.beq e.2.1 1000 then zhas e.2.2.2 (.methodLink (zcn c) e.1 Lib.objectInit) && Nat.beq e.2.2.1 0 else bif Nat.beq e.2.1 1001 then zhas e.2.2.2 (.methodLink (zcn c) e.1 arraycopyName) && Nat.beq e.2.2.1 0 else bif Nat.beq e.2.1 1002 then zhas e.2.2.2 (.methodLink (zcn c) e.1 Lib.Math.max.name) && Nat.beq e.2.2.1 0 else bif Nat.beq e.2.1 1003 then zhas e.2.2.2 (.methodLink (zcn c) e.1 Lib.Math.min.name) && Nat.beq e.2.2.1 0 else bif Nat.beq e.2.1 1004 then zhas e.2.2.2 (.methodLink (zcn c) e.1 zcharAt) && Nat.beq e.2.2.1 0 else !zgh (zrow e.2.1) && bif Nat.beq e.2.2.1 0 then zhas e.2.2.2 (.methodLink (zcn c) e.1 (zrow e.2.1).1) else decide (Cond.methodLinkNest (zcn c) e.1 (zrow e.2.1).1 "SkippingKeys" ∈ zNs)
theorem zMl_ok_0 : (zMl_0).all (zMlOk 0) = true := by decide +kernel
theorem zMl_ok_1 : (zMl_1).all (zMlOk 1) = true := by decide +kernel
theorem zMl_ok_2 : (zMl_2).all (zMlOk 2) = true := by decide +kernel
theorem zMl_ok_3 : (zMl_3).all (zMlOk 3) = true := by decide +kernel
theorem zMl_ok_4 : (zMl_4).all (zMlOk 4) = true := by decide +kernel
theorem zMl_ok_5 : (zMl_5).all (zMlOk 5) = true := by decide +kernel
theorem zMl_ok_6 : (zMl_6).all (zMlOk 6) = true := by decide +kernel
theorem zMl_ok_7 : (zMl_7).all (zMlOk 7) = true := by decide +kernel
theorem zMl_ok_8 : (zMl_8).all (zMlOk 8) = true := by decide +kernel
theorem zMl_ok_10 : (zMl_10).all (zMlOk 10) = true := by decide +kernel
theorem zMl_ok (c : Nat) (hc : c ≠ 9) : ∀ e ∈ zMl c, zMlOk c e = true := by
  intro e he
  unfold zMl at he
  split at he
  · exact List.all_eq_true.mp zMl_ok_0 e he
  · exact List.all_eq_true.mp zMl_ok_1 e he
  · exact List.all_eq_true.mp zMl_ok_2 e he
  · exact List.all_eq_true.mp zMl_ok_3 e he
  · exact List.all_eq_true.mp zMl_ok_4 e he
  · exact List.all_eq_true.mp zMl_ok_5 e he
  · exact List.all_eq_true.mp zMl_ok_6 e he
  · exact List.all_eq_true.mp zMl_ok_7 e he
  · exact List.all_eq_true.mp zMl_ok_8 e he
  · exact absurd rfl hc
  · exact List.all_eq_true.mp zMl_ok_10 e he
  · cases he
def zTX (c : Nat) : u_T := match c with
  | 0 => TX0
  | 1 => TX1
  | 2 => TX2
  | 3 => TX3
  | 4 => TX4
  | 5 => TX5
  | 6 => TX6
  | 7 => TX7
  | 8 => TX8
  | 9 => TX9
  | _ => TX0
def ztyX (c : Nat) : Nat → FieldType := match c with
  | 0 => tyX0
  | 1 => tyX1
  | 2 => tyX2
  | 3 => tyX3
  | 4 => tyX4
  | 5 => tyX5
  | 6 => tyX6
  | 7 => tyX7
  | 8 => tyX8
  | 9 => tyX9
  | _ => tyX0
def zNf (c : Nat) : Nat := match c with
  | 0 => 12
  | 1 => 3
  | 2 => 4
  | 3 => 2
  | 4 => 6
  | 5 => 3
  | 6 => 11
  | 7 => 3
  | 8 => 12
  | 9 => 41
  | _ => 0
def zFlOk (c : Nat) (e : Nat × Nat × Nat × zPos) : Bool := zhas e.2.2.2 (.fieldLink (zcn c) e.1 (zTX e.2.1 e.2.2.1).1 (zTX e.2.1 e.2.2.1).2.1 (zTX e.2.1 e.2.2.1).2.2.1) && Nat.blt e.2.2.1 (zNf e.2.1) && Nat.blt e.2.1 9
theorem zFl_ok_0 : (zFl_0).all (zFlOk 0) = true := by decide +kernel
theorem zFl_ok_1 : (zFl_1).all (zFlOk 1) = true := by decide +kernel
theorem zFl_ok_2 : (zFl_2).all (zFlOk 2) = true := by decide +kernel
theorem zFl_ok_3 : (zFl_3).all (zFlOk 3) = true := by decide +kernel
theorem zFl_ok_4 : (zFl_4).all (zFlOk 4) = true := by decide +kernel
theorem zFl_ok_5 : (zFl_5).all (zFlOk 5) = true := by decide +kernel
theorem zFl_ok_6 : (zFl_6).all (zFlOk 6) = true := by decide +kernel
theorem zFl_ok_7 : (zFl_7).all (zFlOk 7) = true := by decide +kernel
theorem zFl_ok_8 : (zFl_8).all (zFlOk 8) = true := by decide +kernel
theorem zFl_ok (c : Nat) (hc : c ≠ 9) : ∀ e ∈ zFl c, zFlOk c e = true := by
  intro e he
  unfold zFl at he
  split at he
  · exact List.all_eq_true.mp zFl_ok_0 e he
  · exact List.all_eq_true.mp zFl_ok_1 e he
  · exact List.all_eq_true.mp zFl_ok_2 e he
  · exact List.all_eq_true.mp zFl_ok_3 e he
  · exact List.all_eq_true.mp zFl_ok_4 e he
  · exact List.all_eq_true.mp zFl_ok_5 e he
  · exact List.all_eq_true.mp zFl_ok_6 e he
  · exact List.all_eq_true.mp zFl_ok_7 e he
  · exact List.all_eq_true.mp zFl_ok_8 e he
  · exact absurd rfl hc
  · cases he
def zSn (i : Nat) : String := match i with
  | 1 => "COLUMN_AT"
  | _ => "WEIGHT"
def zSlOk (c : Nat) (e : Nat × Nat × Nat × zPos) : Bool := (bif Nat.beq e.2.2.1 0 then zhas e.2.2.2 (.fieldLink (zcn c) e.1 "SkippingKeys" (zSn e.2.1) "[I") else decide (Cond.fieldLinkNest (zcn c) e.1 "SkippingKeys" (zSn e.2.1) "[I" "SkippingKeys" ∈ zNs)) && (Nat.beq e.2.1 1 || Nat.beq e.2.1 2)
theorem zSl_ok_0 : (zSl_0).all (zSlOk 0) = true := by decide +kernel
theorem zSl_ok_2 : (zSl_2).all (zSlOk 2) = true := by decide +kernel
theorem zSl_ok_8 : (zSl_8).all (zSlOk 8) = true := by decide +kernel
theorem zSl_ok (c : Nat) (hc : c ≠ 9) : ∀ e ∈ zSl c, zSlOk c e = true := by
  intro e he
  unfold zSl at he
  split at he
  · exact List.all_eq_true.mp zSl_ok_0 e he
  · exact List.all_eq_true.mp zSl_ok_2 e he
  · exact List.all_eq_true.mp zSl_ok_8 e he
  · cases he
def zstr (x : Int) : String := if x = -2 then "<=>~" else "&|"
def zKlOk (c : Nat) (e : Nat × Nat × Int × zPos) : Bool := bif Nat.beq e.2.1 0 then zhas e.2.2.2 (.constant (zcn c) e.1 (Int32.ofInt e.2.2.1)) && decide (-2147483648 ≤ e.2.2.1 ∧ e.2.2.1 < 2147483648) else bif Nat.beq e.2.1 2 then decide (c = 10 ∧ ((e.1 = 52 ∧ e.2.2.1 = -2) ∨ (e.1 = 60 ∧ e.2.2.1 = -3))) else zhas e.2.2.2 (.constantLong (zcn c) e.1 (Int64.ofInt e.2.2.1)) && decide (-9223372036854775808 ≤ e.2.2.1 ∧ e.2.2.1 < 9223372036854775808)
theorem zKl_ok_2 : (zKl_2).all (zKlOk 2) = true := by decide +kernel
theorem zKl_ok_10 : (zKl_10).all (zKlOk 10) = true := by decide +kernel
theorem zKl_ok (c : Nat) (hc : c ≠ 9) : ∀ e ∈ zKl c, zKlOk c e = true := by
  intro e he
  unfold zKl at he
  split at he
  · exact List.all_eq_true.mp zKl_ok_2 e he
  · exact absurd rfl hc
  · exact List.all_eq_true.mp zKl_ok_10 e he
  · cases he
def zClOk (c : Nat) (e : Nat × Nat × zPos) : Bool := zhas e.2.2 (.classLink (zcn c) e.1 (zcn e.2.1)) && Nat.blt e.2.1 9
theorem zCl_ok_1 : (zCl_1).all (zClOk 1) = true := by decide +kernel
theorem zCl_ok_8 : (zCl_8).all (zClOk 8) = true := by decide +kernel
theorem zCl_ok_10 : (zCl_10).all (zClOk 10) = true := by decide +kernel
theorem zCl_ok (c : Nat) (hc : c ≠ 9) : ∀ e ∈ zCl c, zClOk c e = true := by
  intro e he
  unfold zCl at he
  split at he
  · exact List.all_eq_true.mp zCl_ok_1 e he
  · exact List.all_eq_true.mp zCl_ok_8 e he
  · exact List.all_eq_true.mp zCl_ok_10 e he
  · cases he
def zwAll : Nat → List Cond → List zPos → Bool
  | _, [], _ => true
  | n, w :: l, q :: m => zhas q w && zwAll n l m
  | _, _ :: _, [] => false
theorem zwAll_in : ∀ (n : Nat) (l : List Cond) (m : List zPos), zwAll n l m = true → ∀ w ∈ l, w ∈ zTs
  | _, [], _, _, w, h => by cases h
  | n, w :: l, q :: m, h, v, hv => by
    unfold zwAll at h
    rw [Bool.and_eq_true] at h
    rcases List.mem_cons.mp hv with rfl | h2
    · exact zhas_in h.1
    · exact zwAll_in n l m h.2 v h2
  | _, _ :: _, [], h, _, _ => by cases h
theorem zCw_in_0 : ∀ w ∈ u_ws RX0 TX0 12, w ∈ zTs := zwAll_in 0 _ zCw_0 (by decide +kernel)
theorem zCi_in_0 : Cond.instantiable RX0 12 ∈ zTs := zhas_in (q := zCi_0) (by decide +kernel)
theorem zCw_in_1 : ∀ w ∈ u_ws RX1 TX1 3, w ∈ zTs := zwAll_in 0 _ zCw_1 (by decide +kernel)
theorem zCi_in_1 : Cond.instantiable RX1 3 ∈ zTs := zhas_in (q := zCi_1) (by decide +kernel)
theorem zCw_in_2 : ∀ w ∈ u_ws RX2 TX2 4, w ∈ zTs := zwAll_in 0 _ zCw_2 (by decide +kernel)
theorem zCi_in_2 : Cond.instantiable RX2 4 ∈ zTs := zhas_in (q := zCi_2) (by decide +kernel)
theorem zCw_in_3 : ∀ w ∈ u_ws RX3 TX3 2, w ∈ zTs := zwAll_in 0 _ zCw_3 (by decide +kernel)
theorem zCi_in_3 : Cond.instantiable RX3 2 ∈ zTs := zhas_in (q := zCi_3) (by decide +kernel)
theorem zCw_in_4 : ∀ w ∈ u_ws RX4 TX4 6, w ∈ zTs := zwAll_in 0 _ zCw_4 (by decide +kernel)
theorem zCi_in_4 : Cond.instantiable RX4 6 ∈ zTs := zhas_in (q := zCi_4) (by decide +kernel)
theorem zCw_in_5 : ∀ w ∈ u_ws RX5 TX5 3, w ∈ zTs := zwAll_in 0 _ zCw_5 (by decide +kernel)
theorem zCi_in_5 : Cond.instantiable RX5 3 ∈ zTs := zhas_in (q := zCi_5) (by decide +kernel)
theorem zCw_in_6 : ∀ w ∈ u_ws RX6 TX6 11, w ∈ zTs := zwAll_in 0 _ zCw_6 (by decide +kernel)
theorem zCi_in_6 : Cond.instantiable RX6 11 ∈ zTs := zhas_in (q := zCi_6) (by decide +kernel)
theorem zCw_in_7 : ∀ w ∈ u_ws RX7 TX7 3, w ∈ zTs := zwAll_in 0 _ zCw_7 (by decide +kernel)
theorem zCi_in_7 : Cond.instantiable RX7 3 ∈ zTs := zhas_in (q := zCi_7) (by decide +kernel)
theorem zCw_in_8 : ∀ w ∈ u_ws RX8 TX8 12, w ∈ zTs := zwAll_in 0 _ zCw_8 (by decide +kernel)
theorem zCi_in_8 : Cond.instantiable RX8 12 ∈ zTs := zhas_in (q := zCi_8) (by decide +kernel)
theorem zini_in_0 : Cond.initialized RX0 ∈ zTs := zhas_in (q := (1, 4)) (by decide +kernel)
theorem zini_in_1 : Cond.initialized RX1 ∈ zTs := zhas_in (q := (1, 3)) (by decide +kernel)
theorem zini_in_2 : Cond.initialized RX2 ∈ zTs := zhas_in (q := (1, 2)) (by decide +kernel)
theorem zini_in_3 : Cond.initialized RX3 ∈ zTs := zhas_in (q := (1, 9)) (by decide +kernel)
theorem zini_in_4 : Cond.initialized RX4 ∈ zTs := zhas_in (q := (1, 7)) (by decide +kernel)
theorem zini_in_5 : Cond.initialized RX5 ∈ zTs := zhas_in (q := (1, 5)) (by decide +kernel)
theorem zini_in_6 : Cond.initialized RX6 ∈ zTs := zhas_in (q := (1, 8)) (by decide +kernel)
theorem zini_in_7 : Cond.initialized RX7 ∈ zTs := zhas_in (q := (1, 6)) (by decide +kernel)
theorem zini_in_8 : Cond.initialized RX8 ∈ zTs := zhas_in (q := (1, 1)) (by decide +kernel)
theorem zx_arrI : Cond.arrayClass .int ∈ zTs := zhas_in (q := (1, 49)) (by decide +kernel)
theorem zx_arrJ : Cond.arrayClass .long ∈ zTs := zhas_in (q := (1, 141)) (by decide +kernel)
theorem zx_arrB : Cond.arrayClass .byte ∈ zTs := zhas_in (q := (4, 29)) (by decide +kernel)
theorem zx_arrZ : Cond.arrayClass .boolean ∈ zTs := zhas_in (q := (1, 227)) (by decide +kernel)
theorem zx_over : Cond.arrayOver (.object RX0) ∈ lw_tbl := zpart_in (i := 1) (List.mem_of_getElem? (i := 57) (by decide +kernel))
theorem zx_acs : Cond.static arraycopyName ∈ zTs := zhas_in (q := (2, 152)) (by decide +kernel)
theorem zx_acn : Cond.native arraycopyName ∈ zTs := zhas_in (q := (2, 153)) (by decide +kernel)
theorem zx_aci : Cond.initialized "java/lang/System" ∈ zTs := zhas_in (q := (1, 11)) (by decide +kernel)
theorem zx_oii : Cond.instanceMethod Lib.objectInit ∈ zTs := zhas_in (q := (1, 22)) (by decide +kernel)
theorem zx_oic : Cond.code Lib.objectInit ⟨#[0xb1]⟩ 1 none ∈ zTs := zhas_in (q := (1, 23)) (by decide +kernel)
theorem zx_mxs : Cond.static Lib.Math.max.name ∈ zTs := zhas_in (q := (3, 59)) (by decide +kernel)
theorem zx_mxc : Cond.code Lib.Math.max.name Lib.Math.max.code 2 (some .int) ∈ zTs := zhas_in (q := (3, 60)) (by decide +kernel)
theorem zx_mns : Cond.static Lib.Math.min.name ∈ zTs := zhas_in (q := (3, 17)) (by decide +kernel)
theorem zx_mnc : Cond.code Lib.Math.min.name Lib.Math.min.code 2 (some .int) ∈ zTs := zhas_in (q := (3, 18)) (by decide +kernel)
theorem zx_mi : Cond.initialized "java/lang/Math" ∈ zTs := zhas_in (q := (1, 10)) (by decide +kernel)
theorem zx_st1 : Cond.laysStatic "SkippingKeys" "WEIGHT" "[I" ∈ lw_tbl := zpart_in (i := 3) (List.mem_of_getElem? (i := 32) (by decide +kernel))
theorem zx_st2 : Cond.laysStatic "SkippingKeys" "COLUMN_AT" "[I" ∈ lw_tbl := zpart_in (i := 2) (List.mem_of_getElem? (i := 118) (by decide +kernel))
