theorem zrow_0 {k : Nat} (h : k / 40 = 0) : zrow k = (zT_0[k % 40]?).getD zNone := by
  unfold zrow
  simp only [h]
theorem zinsT_0 {k : Nat} (h : k / 40 = 0) : zinsT k = (zI_0[k % 40]?).getD [] := by
  unfold zinsT
  simp only [h]
theorem zrow_1 {k : Nat} (h : k / 40 = 1) : zrow k = (zT_1[k % 40]?).getD zNone := by
  unfold zrow
  simp only [h]
theorem zinsT_1 {k : Nat} (h : k / 40 = 1) : zinsT k = (zI_1[k % 40]?).getD [] := by
  unfold zinsT
  simp only [h]
theorem zrow_2 {k : Nat} (h : k / 40 = 2) : zrow k = (zT_2[k % 40]?).getD zNone := by
  unfold zrow
  simp only [h]
theorem zinsT_2 {k : Nat} (h : k / 40 = 2) : zinsT k = (zI_2[k % 40]?).getD [] := by
  unfold zinsT
  simp only [h]
theorem zrow_3 {k : Nat} (h : k / 40 = 3) : zrow k = (zT_3[k % 40]?).getD zNone := by
  unfold zrow
  simp only [h]
theorem zinsT_3 {k : Nat} (h : k / 40 = 3) : zinsT k = (zI_3[k % 40]?).getD [] := by
  unfold zinsT
  simp only [h]
theorem zrow_4 {k : Nat} (h : k / 40 = 4) : zrow k = (zT_4[k % 40]?).getD zNone := by
  unfold zrow
  simp only [h]
theorem zinsT_4 {k : Nat} (h : k / 40 = 4) : zinsT k = (zI_4[k % 40]?).getD [] := by
  unfold zinsT
  simp only [h]
theorem zrow_5 {k : Nat} (h : k / 40 = 5) : zrow k = (zT_5[k % 40]?).getD zNone := by
  unfold zrow
  simp only [h]
theorem zinsT_5 {k : Nat} (h : k / 40 = 5) : zinsT k = (zI_5[k % 40]?).getD [] := by
  unfold zinsT
  simp only [h]
theorem zrow_6 {k : Nat} (h : k / 40 = 6) : zrow k = (zT_6[k % 40]?).getD zNone := by
  unfold zrow
  simp only [h]
theorem zinsT_6 {k : Nat} (h : k / 40 = 6) : zinsT k = (zI_6[k % 40]?).getD [] := by
  unfold zinsT
  simp only [h]
theorem zrow_7 {k : Nat} (h : k / 40 = 7) : zrow k = (zT_7[k % 40]?).getD zNone := by
  unfold zrow
  simp only [h]
theorem zinsT_7 {k : Nat} (h : k / 40 = 7) : zinsT k = (zI_7[k % 40]?).getD [] := by
  unfold zinsT
  simp only [h]
theorem zinsT_out {k : Nat} (h : 8 ≤ k / 40) : zinsT k = [] := by
  unfold zinsT
  split
  · omega
  · omega
  · omega
  · omega
  · omega
  · omega
  · omega
  · omega
  · rfl
theorem zins_ok {k pc : Nat} {q : Instr × Nat} (h : zins k pc = some q) : decode (zcode k) pc = .ok q := by
  have h1 : (pc, q) ∈ zinsT k := zlk_mem _ _ _ h
  have hc : zcode k = (zrow k).2.1 := rfl
  by_cases e0 : k / 40 = 0
  · rw [zinsT_0 e0] at h1
    rw [hc, zrow_0 e0]
    have h2 := zpair_use (T := zT_0) (I := zI_0) zchk_0 (k % 40) zNone (pc, q) h1
    exact h2
  by_cases e1 : k / 40 = 1
  · rw [zinsT_1 e1] at h1
    rw [hc, zrow_1 e1]
    have h2 := zpair_use (T := zT_1) (I := zI_1) zchk_1 (k % 40) zNone (pc, q) h1
    exact h2
  by_cases e2 : k / 40 = 2
  · rw [zinsT_2 e2] at h1
    rw [hc, zrow_2 e2]
    have h2 := zpair_use (T := zT_2) (I := zI_2) zchk_2 (k % 40) zNone (pc, q) h1
    exact h2
  by_cases e3 : k / 40 = 3
  · rw [zinsT_3 e3] at h1
    rw [hc, zrow_3 e3]
    have h2 := zpair_use (T := zT_3) (I := zI_3) zchk_3 (k % 40) zNone (pc, q) h1
    exact h2
  by_cases e4 : k / 40 = 4
  · rw [zinsT_4 e4] at h1
    rw [hc, zrow_4 e4]
    have h2 := zpair_use (T := zT_4) (I := zI_4) zchk_4 (k % 40) zNone (pc, q) h1
    exact h2
  by_cases e5 : k / 40 = 5
  · rw [zinsT_5 e5] at h1
    rw [hc, zrow_5 e5]
    have h2 := zpair_use (T := zT_5) (I := zI_5) zchk_5 (k % 40) zNone (pc, q) h1
    exact h2
  by_cases e6 : k / 40 = 6
  · rw [zinsT_6 e6] at h1
    rw [hc, zrow_6 e6]
    have h2 := zpair_use (T := zT_6) (I := zI_6) zchk_6 (k % 40) zNone (pc, q) h1
    exact h2
  by_cases e7 : k / 40 = 7
  · rw [zinsT_7 e7] at h1
    rw [hc, zrow_7 e7]
    have h2 := zpair_use (T := zT_7) (I := zI_7) zchk_7 (k % 40) zNone (pc, q) h1
    exact h2
  rw [zinsT_out (by omega)] at h1
  cases h1
def zhas (q : zPos) (w : Cond) : Bool := decide ((zpart q.1)[q.2]? = some w) && goodWord w
theorem zpart_in {i : Nat} {w : Cond} (h : w ∈ zpart i) : w ∈ lw_tbl := by
  unfold zpart at h
  unfold lw_tbl tables_1
  simp only [List.mem_append]
  split at h
  · simp only [h, true_or, or_true]
  · simp only [h, true_or, or_true]
  · simp only [h, true_or, or_true]
  · simp only [h, true_or, or_true]
  · simp only [h, true_or, or_true]
  · simp only [h, true_or, or_true]
  · simp only [h, true_or, or_true]
  · simp only [h, true_or, or_true]
  · simp only [h, true_or, or_true]
  · cases h
def zTs : List Cond := lw_tbl.filter goodWord
theorem zhas_in {q : zPos} {w : Cond} (h : zhas q w = true) : w ∈ zTs := by
  unfold zhas at h
  rw [Bool.and_eq_true] at h
  exact List.mem_filter.mpr ⟨zpart_in (List.mem_of_getElem? (of_decide_eq_true h.1)), h.2⟩
theorem zTs_good : ∀ w ∈ zTs, (w.onTables && w.keeps) = true ∨ ∃ ty, w = .arrayClass ty := fun _ h => good_of_word (List.mem_filter.mp h).2
def zmOk (t : zRow) : Bool := Nat.ble 3 t.2.2.2.2.1 || (zhas t.2.2.2.2.2.2.2.1 (.code t.1 t.2.1 t.2.2.1 t.2.2.2.1) && (bif Nat.beq t.2.2.2.2.1 0 then zhas t.2.2.2.2.2.2.2.2.1 (.static t.1) else zhas t.2.2.2.2.2.2.2.2.1 (.instanceMethod t.1)) && zhas t.2.2.2.2.2.2.2.2.2.1 (.initialized t.1.cls) && (!(Nat.beq t.2.2.2.2.1 1) || zhas t.2.2.2.2.2.2.2.2.2.2 (.selects t.1.cls t.1 t.1)) && (!(Nat.beq t.2.2.2.2.1 2) || decide (t.1.name = "<init>")) && decide (t.1.cls ≠ "java/lang/invoke/MethodHandle" ∧ t.1.cls ≠ "java/lang/invoke/VarHandle" ∧ (parseMethodDescriptor t.1.desc).map (fun d => d.parameters.length) = some t.2.2.2.2.2.1) && plainName t.1.cls && Nat.ble t.2.2.1 40 && decide (t.1.cls = zcn t.2.2.2.2.2.2.1))
theorem zm_0 : zT_0.all zmOk = true := by decide +kernel
theorem zm_1 : zT_1.all zmOk = true := by decide +kernel
theorem zm_2 : zT_2.all zmOk = true := by decide +kernel
theorem zm_3 : zT_3.all zmOk = true := by decide +kernel
theorem zm_4 : zT_4.all zmOk = true := by decide +kernel
theorem zm_5 : zT_5.all zmOk = true := by decide +kernel
theorem zm_6 : zT_6.all zmOk = true := by decide +kernel
theorem zm_7 : zT_7.all zmOk = true := by decide +kernel
theorem zm_ok (k : Nat) : zmOk (zrow k) = true := by
  have hd : ∀ (T : List zRow) (j : Nat), T.all zmOk = true → zmOk ((T[j]?).getD zNone) = true := by
    intro T j h
    cases e : T[j]? with
    | none => rfl
    | some t => exact List.all_eq_true.mp h t (List.mem_of_getElem? e)
  unfold zrow
  split
  · exact hd _ _ zm_0
  · exact hd _ _ zm_1
  · exact hd _ _ zm_2
  · exact hd _ _ zm_3
  · exact hd _ _ zm_4
  · exact hd _ _ zm_5
  · exact hd _ _ zm_6
  · exact hd _ _ zm_7
  · rfl
def zMlOk (c : Nat) (e : Nat × Nat × Nat × zPos) : Bool := bif Nat.beq e.2.1 1000 then zhas e.2.2.2 (.methodLink (zcn c) e.1 Lib.objectInit) && Nat.beq e.2.2.1 0 else bif Nat.beq e.2.1 1001 then zhas e.2.2.2 (.methodLink (zcn c) e.1 arraycopyName) && Nat.beq e.2.2.1 0 else bif Nat.beq e.2.2.1 0 then zhas e.2.2.2 (.methodLink (zcn c) e.1 (zrow e.2.1).1) else zhas e.2.2.2 (.methodLinkNest (zcn c) e.1 (zrow e.2.1).1 "SkippingKeys")
theorem zMl_ok_0 : (zMl_0).all (zMlOk 0) = true := by decide +kernel
theorem zMl_ok_1 : (zMl_1).all (zMlOk 1) = true := by decide +kernel
theorem zMl_ok_2 : (zMl_2).all (zMlOk 2) = true := by decide +kernel
theorem zMl_ok_3 : (zMl_3).all (zMlOk 3) = true := by decide +kernel
theorem zMl_ok_4 : (zMl_4).all (zMlOk 4) = true := by decide +kernel
theorem zMl_ok_5 : (zMl_5).all (zMlOk 5) = true := by decide +kernel
theorem zMl_ok_6 : (zMl_6).all (zMlOk 6) = true := by decide +kernel
theorem zMl_ok_7 : (zMl_7).all (zMlOk 7) = true := by decide +kernel
theorem zMl_ok_8 : (zMl_8).all (zMlOk 8) = true := by decide +kernel
theorem zMl_ok_9 : (zMl_9).all (zMlOk 9) = true := by decide +kernel
theorem zMl_ok_10 : (zMl_10).all (zMlOk 10) = true := by decide +kernel
theorem zMl_ok (c : Nat) : ∀ e ∈ zMl c, zMlOk c e = true := by
  intro e he
  unfold zMl at he
  split at he
  · exact List.all_eq_true.mp zMl_ok_0 e he
  · exact List.all_eq_true.mp zMl_ok_1 e he
  · exact List.all_eq_true.mp zMl_ok_2 e he
  · exact List.all_eq_true.mp zMl_ok_3 e he
  · exact List.all_eq_true.mp zMl_ok_4 e he
  · exact List.all_eq_true.mp zMl_ok_5 e he
  · exact List.all_eq_true.mp zMl_ok_6 e he
  · exact List.all_eq_true.mp zMl_ok_7 e he
  · exact List.all_eq_true.mp zMl_ok_8 e he
  · exact List.all_eq_true.mp zMl_ok_9 e he
  · exact List.all_eq_true.mp zMl_ok_10 e he
  · cases he
def zTX (c : Nat) : u_T := match c with
  | 0 => TX0
  | 1 => TX1
  | 2 => TX2
  | 3 => TX3
  | 4 => TX4
  | 5 => TX5
  | 6 => TX6
  | 7 => TX7
  | 8 => TX8
  | 9 => TX9
  | _ => TX0
def ztyX (c : Nat) : Nat → FieldType := match c with
  | 0 => tyX0
  | 1 => tyX1
  | 2 => tyX2
  | 3 => tyX3
  | 4 => tyX4
  | 5 => tyX5
  | 6 => tyX6
  | 7 => tyX7
  | 8 => tyX8
  | 9 => tyX9
  | _ => tyX0
def zNf (c : Nat) : Nat := match c with
  | 0 => 12
  | 1 => 3
  | 2 => 4
  | 3 => 2
  | 4 => 6
  | 5 => 3
  | 6 => 12
  | 7 => 3
  | 8 => 12
  | 9 => 41
  | _ => 0
def zFlOk (c : Nat) (e : Nat × Nat × Nat × zPos) : Bool := zhas e.2.2.2 (.fieldLink (zcn c) e.1 (zTX e.2.1 e.2.2.1).1 (zTX e.2.1 e.2.2.1).2.1 (zTX e.2.1 e.2.2.1).2.2.1) && Nat.blt e.2.2.1 (zNf e.2.1) && Nat.blt e.2.1 10
theorem zFl_ok_0 : (zFl_0).all (zFlOk 0) = true := by decide +kernel
theorem zFl_ok_1 : (zFl_1).all (zFlOk 1) = true := by decide +kernel
theorem zFl_ok_2 : (zFl_2).all (zFlOk 2) = true := by decide +kernel
theorem zFl_ok_3 : (zFl_3).all (zFlOk 3) = true := by decide +kernel
theorem zFl_ok_4 : (zFl_4).all (zFlOk 4) = true := by decide +kernel
theorem zFl_ok_5 : (zFl_5).all (zFlOk 5) = true := by decide +kernel
theorem zFl_ok_6 : (zFl_6).all (zFlOk 6) = true := by decide +kernel
theorem zFl_ok_7 : (zFl_7).all (zFlOk 7) = true := by decide +kernel
theorem zFl_ok_8 : (zFl_8).all (zFlOk 8) = true := by decide +kernel
theorem zFl_ok_9 : (zFl_9).all (zFlOk 9) = true := by decide +kernel
theorem zFl_ok (c : Nat) : ∀ e ∈ zFl c, zFlOk c e = true := by
  intro e he
  unfold zFl at he
  split at he
  · exact List.all_eq_true.mp zFl_ok_0 e he
  · exact List.all_eq_true.mp zFl_ok_1 e he
  · exact List.all_eq_true.mp zFl_ok_2 e he
  · exact List.all_eq_true.mp zFl_ok_3 e he
  · exact List.all_eq_true.mp zFl_ok_4 e he
  · exact List.all_eq_true.mp zFl_ok_5 e he
  · exact List.all_eq_true.mp zFl_ok_6 e he
  · exact List.all_eq_true.mp zFl_ok_7 e he
  · exact List.all_eq_true.mp zFl_ok_8 e he
  · exact List.all_eq_true.mp zFl_ok_9 e he
  · cases he
def zSn (i : Nat) : String := match i with
  | 1 => "COLUMN_AT"
  | _ => "WEIGHT"
def zSlOk (c : Nat) (e : Nat × Nat × Nat × zPos) : Bool := (bif Nat.beq e.2.2.1 0 then zhas e.2.2.2 (.fieldLink (zcn c) e.1 "SkippingKeys" (zSn e.2.1) "[I") else zhas e.2.2.2 (.fieldLinkNest (zcn c) e.1 "SkippingKeys" (zSn e.2.1) "[I" "SkippingKeys")) && (Nat.beq e.2.1 1 || Nat.beq e.2.1 2)
theorem zSl_ok_0 : (zSl_0).all (zSlOk 0) = true := by decide +kernel
theorem zSl_ok_2 : (zSl_2).all (zSlOk 2) = true := by decide +kernel
theorem zSl_ok_8 : (zSl_8).all (zSlOk 8) = true := by decide +kernel
theorem zSl_ok (c : Nat) : ∀ e ∈ zSl c, zSlOk c e = true := by
  intro e he
  unfold zSl at he
  split at he
  · exact List.all_eq_true.mp zSl_ok_0 e he
  · exact List.all_eq_true.mp zSl_ok_2 e he
  · exact List.all_eq_true.mp zSl_ok_8 e he
  · cases he
def zKlOk (c : Nat) (e : Nat × Nat × Int × zPos) : Bool := bif Nat.beq e.2.1 0 then zhas e.2.2.2 (.constant (zcn c) e.1 (Int32.ofInt e.2.2.1)) && decide (-2147483648 ≤ e.2.2.1 ∧ e.2.2.1 < 2147483648) else zhas e.2.2.2 (.constantLong (zcn c) e.1 (Int64.ofInt e.2.2.1)) && decide (-9223372036854775808 ≤ e.2.2.1 ∧ e.2.2.1 < 9223372036854775808)
theorem zKl_ok_2 : (zKl_2).all (zKlOk 2) = true := by decide +kernel
theorem zKl_ok_8 : (zKl_8).all (zKlOk 8) = true := by decide +kernel
theorem zKl_ok_9 : (zKl_9).all (zKlOk 9) = true := by decide +kernel
theorem zKl_ok_10 : (zKl_10).all (zKlOk 10) = true := by decide +kernel
theorem zKl_ok_11 : (zKl_11).all (zKlOk 11) = true := by decide +kernel
theorem zKl_ok (c : Nat) : ∀ e ∈ zKl c, zKlOk c e = true := by
  intro e he
  unfold zKl at he
  split at he
  · exact List.all_eq_true.mp zKl_ok_2 e he
  · exact List.all_eq_true.mp zKl_ok_8 e he
  · exact List.all_eq_true.mp zKl_ok_9 e he
  · exact List.all_eq_true.mp zKl_ok_10 e he
  · exact List.all_eq_true.mp zKl_ok_11 e he
  · cases he
def zClOk (c : Nat) (e : Nat × Nat × zPos) : Bool := zhas e.2.2 (.classLink (zcn c) e.1 (bif Nat.beq e.2.1 100 then "[[J" else zcn e.2.1)) && (Nat.beq e.2.1 100 || Nat.blt e.2.1 10)
theorem zCl_ok_1 : (zCl_1).all (zClOk 1) = true := by decide +kernel
theorem zCl_ok_8 : (zCl_8).all (zClOk 8) = true := by decide +kernel
theorem zCl_ok_9 : (zCl_9).all (zClOk 9) = true := by decide +kernel
theorem zCl_ok_10 : (zCl_10).all (zClOk 10) = true := by decide +kernel
theorem zCl_ok (c : Nat) : ∀ e ∈ zCl c, zClOk c e = true := by
  intro e he
  unfold zCl at he
  split at he
  · exact List.all_eq_true.mp zCl_ok_1 e he
  · exact List.all_eq_true.mp zCl_ok_8 e he
  · exact List.all_eq_true.mp zCl_ok_9 e he
  · exact List.all_eq_true.mp zCl_ok_10 e he
  · cases he
def zwAll : Nat → List Cond → List zPos → Bool
  | _, [], _ => true
  | n, w :: l, q :: m => zhas q w && zwAll n l m
  | _, _ :: _, [] => false
theorem zwAll_in : ∀ (n : Nat) (l : List Cond) (m : List zPos), zwAll n l m = true → ∀ w ∈ l, w ∈ zTs
  | _, [], _, _, w, h => by cases h
  | n, w :: l, q :: m, h, v, hv => by
    unfold zwAll at h
    rw [Bool.and_eq_true] at h
    rcases List.mem_cons.mp hv with rfl | h2
    · exact zhas_in h.1
    · exact zwAll_in n l m h.2 v h2
  | _, _ :: _, [], h, _, _ => by cases h
theorem zCw_in_0 : ∀ w ∈ u_ws RX0 TX0 12, w ∈ zTs := zwAll_in 0 _ zCw_0 (by decide +kernel)
theorem zCi_in_0 : Cond.instantiable RX0 12 ∈ zTs := zhas_in (q := zCi_0) (by decide +kernel)
theorem zCw_in_1 : ∀ w ∈ u_ws RX1 TX1 3, w ∈ zTs := zwAll_in 0 _ zCw_1 (by decide +kernel)
theorem zCi_in_1 : Cond.instantiable RX1 3 ∈ zTs := zhas_in (q := zCi_1) (by decide +kernel)
theorem zCw_in_2 : ∀ w ∈ u_ws RX2 TX2 4, w ∈ zTs := zwAll_in 0 _ zCw_2 (by decide +kernel)
theorem zCi_in_2 : Cond.instantiable RX2 4 ∈ zTs := zhas_in (q := zCi_2) (by decide +kernel)
theorem zCw_in_3 : ∀ w ∈ u_ws RX3 TX3 2, w ∈ zTs := zwAll_in 0 _ zCw_3 (by decide +kernel)
theorem zCi_in_3 : Cond.instantiable RX3 2 ∈ zTs := zhas_in (q := zCi_3) (by decide +kernel)
theorem zCw_in_4 : ∀ w ∈ u_ws RX4 TX4 6, w ∈ zTs := zwAll_in 0 _ zCw_4 (by decide +kernel)
theorem zCi_in_4 : Cond.instantiable RX4 6 ∈ zTs := zhas_in (q := zCi_4) (by decide +kernel)
theorem zCw_in_5 : ∀ w ∈ u_ws RX5 TX5 3, w ∈ zTs := zwAll_in 0 _ zCw_5 (by decide +kernel)
theorem zCi_in_5 : Cond.instantiable RX5 3 ∈ zTs := zhas_in (q := zCi_5) (by decide +kernel)
theorem zCw_in_6 : ∀ w ∈ u_ws RX6 TX6 12, w ∈ zTs := zwAll_in 0 _ zCw_6 (by decide +kernel)
theorem zCi_in_6 : Cond.instantiable RX6 12 ∈ zTs := zhas_in (q := zCi_6) (by decide +kernel)
theorem zCw_in_7 : ∀ w ∈ u_ws RX7 TX7 3, w ∈ zTs := zwAll_in 0 _ zCw_7 (by decide +kernel)
theorem zCi_in_7 : Cond.instantiable RX7 3 ∈ zTs := zhas_in (q := zCi_7) (by decide +kernel)
theorem zCw_in_8 : ∀ w ∈ u_ws RX8 TX8 12, w ∈ zTs := zwAll_in 0 _ zCw_8 (by decide +kernel)
theorem zCi_in_8 : Cond.instantiable RX8 12 ∈ zTs := zhas_in (q := zCi_8) (by decide +kernel)
theorem zCw_in_9 : ∀ w ∈ u_ws RX9 TX9 41, w ∈ zTs := zwAll_in 0 _ zCw_9 (by decide +kernel)
theorem zCi_in_9 : Cond.instantiable RX9 41 ∈ zTs := zhas_in (q := zCi_9) (by decide +kernel)
