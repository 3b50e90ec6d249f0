section
-- ===== PART A: goes FIRST, ahead of the names: the tables' words, and 'selects' of the private methods out of them =====
/-- a private method of a class that the tables say can be made, by its rows of tables_1 -/
def lw_okq (q : MethodName × Nat) : Prop := (q.1.cls ≠ "java/lang/invoke/MethodHandle" ∧ q.1.cls ≠ "java/lang/invoke/VarHandle") ∧ Cond.instantiable q.1.cls q.2 ∈ tables_1 ∧ Cond.privateMethod q.1 ∈ tables_1 ∧ Cond.instanceMethod q.1 ∈ tables_1
theorem lw_p0 : lw_okq (⟨"SkippingKeys", "refuse", "(I)I"⟩, 12) := ⟨⟨by decide +kernel, by decide +kernel⟩, List.mem_of_getElem? (i := 15) (by decide +kernel), List.mem_of_getElem? (i := 297) (by decide +kernel), List.mem_of_getElem? (i := 298) (by decide +kernel)⟩
theorem lw_p1 : lw_okq (⟨"SkippingKeys$Lines", "putAll", "(IIII)V"⟩, 4) := ⟨⟨by decide +kernel, by decide +kernel⟩, List.mem_of_getElem? (i := 23) (by decide +kernel), List.mem_of_getElem? (i := 424) (by decide +kernel), List.mem_of_getElem? (i := 425) (by decide +kernel)⟩
theorem lw_p2 : lw_okq (⟨"SkippingKeys$Reader", "readLine", "(LSkippingKeys$Tape;)Z"⟩, 6) := ⟨⟨by decide +kernel, by decide +kernel⟩, List.mem_of_getElem? (i := 163) (by decide +kernel), List.mem_of_getElem? (i := 491) (by decide +kernel), List.mem_of_getElem? (i := 492) (by decide +kernel)⟩
theorem lw_p3 : lw_okq (⟨"SkippingKeys$Reader", "isClosed", "(LSkippingKeys$Conditions;)Z"⟩, 6) := ⟨⟨by decide +kernel, by decide +kernel⟩, List.mem_of_getElem? (i := 163) (by decide +kernel), List.mem_of_getElem? (i := 526) (by decide +kernel), List.mem_of_getElem? (i := 527) (by decide +kernel)⟩
theorem lw_p4 : lw_okq (⟨"SkippingKeys$Reader", "closeOr", "(LSkippingKeys$Conditions;)V"⟩, 6) := ⟨⟨by decide +kernel, by decide +kernel⟩, List.mem_of_getElem? (i := 163) (by decide +kernel), List.mem_of_getElem? (i := 530) (by decide +kernel), List.mem_of_getElem? (i := 531) (by decide +kernel)⟩
theorem lw_p5 : lw_okq (⟨"SkippingKeys$Reader", "topOpen", "()I"⟩, 6) := ⟨⟨by decide +kernel, by decide +kernel⟩, List.mem_of_getElem? (i := 163) (by decide +kernel), List.mem_of_getElem? (i := 534) (by decide +kernel), List.mem_of_getElem? (i := 535) (by decide +kernel)⟩
theorem lw_p6 : lw_okq (⟨"SkippingKeys$Reader", "popOpen", "()V"⟩, 6) := ⟨⟨by decide +kernel, by decide +kernel⟩, List.mem_of_getElem? (i := 163) (by decide +kernel), List.mem_of_getElem? (i := 538) (by decide +kernel), List.mem_of_getElem? (i := 539) (by decide +kernel)⟩
theorem lw_p7 : lw_okq (⟨"SkippingKeys$Reader", "popWhole", "()I"⟩, 6) := ⟨⟨by decide +kernel, by decide +kernel⟩, List.mem_of_getElem? (i := 163) (by decide +kernel), List.mem_of_getElem? (i := 542) (by decide +kernel), List.mem_of_getElem? (i := 543) (by decide +kernel)⟩
theorem lw_p8 : lw_okq (⟨"SkippingKeys$Reader", "pushWhole", "(I)V"⟩, 6) := ⟨⟨by decide +kernel, by decide +kernel⟩, List.mem_of_getElem? (i := 163) (by decide +kernel), List.mem_of_getElem? (i := 559) (by decide +kernel), List.mem_of_getElem? (i := 560) (by decide +kernel)⟩
theorem lw_p9 : lw_okq (⟨"SkippingKeys$Reader", "pushOpen", "(I)V"⟩, 6) := ⟨⟨by decide +kernel, by decide +kernel⟩, List.mem_of_getElem? (i := 163) (by decide +kernel), List.mem_of_getElem? (i := 566) (by decide +kernel), List.mem_of_getElem? (i := 567) (by decide +kernel)⟩
theorem lw_p10 : lw_okq (⟨"SkippingKeys$Reader", "turnIsWhole", "(LSkippingKeys$Conditions;I)V"⟩, 6) := ⟨⟨by decide +kernel, by decide +kernel⟩, List.mem_of_getElem? (i := 163) (by decide +kernel), List.mem_of_getElem? (i := 614) (by decide +kernel), List.mem_of_getElem? (i := 615) (by decide +kernel)⟩
theorem lw_p11 : lw_okq (⟨"SkippingKeys$Reader", "readBehindTurn", "(LSkippingKeys$Tape;LSkippingKeys$Conditions;I)Z"⟩, 6) := ⟨⟨by decide +kernel, by decide +kernel⟩, List.mem_of_getElem? (i := 163) (by decide +kernel), List.mem_of_getElem? (i := 618) (by decide +kernel), List.mem_of_getElem? (i := 619) (by decide +kernel)⟩
theorem lw_p12 : lw_okq (⟨"SkippingKeys", "settled", "()I"⟩, 12) := ⟨⟨by decide +kernel, by decide +kernel⟩, List.mem_of_getElem? (i := 15) (by decide +kernel), List.mem_of_getElem? (i := 626) (by decide +kernel), List.mem_of_getElem? (i := 627) (by decide +kernel)⟩
theorem lw_p13 : lw_okq (⟨"SkippingKeys$Condition", "leafTruth", "(I)I"⟩, 12) := ⟨⟨by decide +kernel, by decide +kernel⟩, List.mem_of_getElem? (i := 56) (by decide +kernel), List.mem_of_getElem? (i := 645) (by decide +kernel), List.mem_of_getElem? (i := 646) (by decide +kernel)⟩
theorem lw_p14 : lw_okq (⟨"SkippingKeys$Condition", "digitOf", "(II)I"⟩, 12) := ⟨⟨by decide +kernel, by decide +kernel⟩, List.mem_of_getElem? (i := 56) (by decide +kernel), List.mem_of_getElem? (i := 649) (by decide +kernel), List.mem_of_getElem? (i := 650) (by decide +kernel)⟩
theorem lw_p15 : lw_okq (⟨"SkippingKeys$Condition", "orderTruth", "(I)I"⟩, 12) := ⟨⟨by decide +kernel, by decide +kernel⟩, List.mem_of_getElem? (i := 56) (by decide +kernel), List.mem_of_getElem? (i := 659) (by decide +kernel), List.mem_of_getElem? (i := 660) (by decide +kernel)⟩
def lw_privs_1 : List (MethodName × Nat) := [(⟨"SkippingKeys", "refuse", "(I)I"⟩, 12), (⟨"SkippingKeys$Lines", "putAll", "(IIII)V"⟩, 4), (⟨"SkippingKeys$Reader", "readLine", "(LSkippingKeys$Tape;)Z"⟩, 6), (⟨"SkippingKeys$Reader", "isClosed", "(LSkippingKeys$Conditions;)Z"⟩, 6), (⟨"SkippingKeys$Reader", "closeOr", "(LSkippingKeys$Conditions;)V"⟩, 6), (⟨"SkippingKeys$Reader", "topOpen", "()I"⟩, 6), (⟨"SkippingKeys$Reader", "popOpen", "()V"⟩, 6), (⟨"SkippingKeys$Reader", "popWhole", "()I"⟩, 6), (⟨"SkippingKeys$Reader", "pushWhole", "(I)V"⟩, 6), (⟨"SkippingKeys$Reader", "pushOpen", "(I)V"⟩, 6), (⟨"SkippingKeys$Reader", "turnIsWhole", "(LSkippingKeys$Conditions;I)V"⟩, 6), (⟨"SkippingKeys$Reader", "readBehindTurn", "(LSkippingKeys$Tape;LSkippingKeys$Conditions;I)Z"⟩, 6), (⟨"SkippingKeys", "settled", "()I"⟩, 12), (⟨"SkippingKeys$Condition", "leafTruth", "(I)I"⟩, 12), (⟨"SkippingKeys$Condition", "digitOf", "(II)I"⟩, 12), (⟨"SkippingKeys$Condition", "orderTruth", "(I)I"⟩, 12)]
theorem lw_r1 : ∀ q ∈ lw_privs_1, lw_okq q := List.forall_mem_cons.mpr ⟨lw_p0, List.forall_mem_cons.mpr ⟨lw_p1, List.forall_mem_cons.mpr ⟨lw_p2, List.forall_mem_cons.mpr ⟨lw_p3, List.forall_mem_cons.mpr ⟨lw_p4, List.forall_mem_cons.mpr ⟨lw_p5, List.forall_mem_cons.mpr ⟨lw_p6, List.forall_mem_cons.mpr ⟨lw_p7, List.forall_mem_cons.mpr ⟨lw_p8, List.forall_mem_cons.mpr ⟨lw_p9, List.forall_mem_cons.mpr ⟨lw_p10, List.forall_mem_cons.mpr ⟨lw_p11, List.forall_mem_cons.mpr ⟨lw_p12, List.forall_mem_cons.mpr ⟨lw_p13, List.forall_mem_cons.mpr ⟨lw_p14, List.forall_mem_cons.mpr ⟨lw_p15, fun _ h => absurd h List.not_mem_nil⟩⟩⟩⟩⟩⟩⟩⟩⟩⟩⟩⟩⟩⟩⟩⟩
theorem lw_p16 : lw_okq (⟨"SkippingKeys$Condition", "equalTruth", "(I)I"⟩, 12) := ⟨⟨by decide +kernel, by decide +kernel⟩, List.mem_of_getElem? (i := 56) (by decide +kernel), List.mem_of_getElem? (i := 663) (by decide +kernel), List.mem_of_getElem? (i := 664) (by decide +kernel)⟩
theorem lw_p17 : lw_okq (⟨"SkippingKeys$Condition", "joinedTruth", "(II)I"⟩, 12) := ⟨⟨by decide +kernel, by decide +kernel⟩, List.mem_of_getElem? (i := 56) (by decide +kernel), List.mem_of_getElem? (i := 677) (by decide +kernel), List.mem_of_getElem? (i := 678) (by decide +kernel)⟩
theorem lw_p18 : lw_okq (⟨"SkippingKeys", "tellsSeveral", "(II)Z"⟩, 12) := ⟨⟨by decide +kernel, by decide +kernel⟩, List.mem_of_getElem? (i := 15) (by decide +kernel), List.mem_of_getElem? (i := 717) (by decide +kernel), List.mem_of_getElem? (i := 718) (by decide +kernel)⟩
theorem lw_p19 : lw_okq (⟨"SkippingKeys", "isCondAndIndex", "(II)Z"⟩, 12) := ⟨⟨by decide +kernel, by decide +kernel⟩, List.mem_of_getElem? (i := 15) (by decide +kernel), List.mem_of_getElem? (i := 767) (by decide +kernel), List.mem_of_getElem? (i := 768) (by decide +kernel)⟩
theorem lw_p20 : lw_okq (⟨"SkippingKeys$Spans", "orderGaps", "()V"⟩, 12) := ⟨⟨by decide +kernel, by decide +kernel⟩, List.mem_of_getElem? (i := 188) (by decide +kernel), List.mem_of_getElem? (i := 832) (by decide +kernel), List.mem_of_getElem? (i := 833) (by decide +kernel)⟩
theorem lw_p21 : lw_okq (⟨"SkippingKeys$Spans", "widthOf", "(I)I"⟩, 12) := ⟨⟨by decide +kernel, by decide +kernel⟩, List.mem_of_getElem? (i := 188) (by decide +kernel), List.mem_of_getElem? (i := 836) (by decide +kernel), List.mem_of_getElem? (i := 837) (by decide +kernel)⟩
theorem lw_p22 : lw_okq (⟨"SkippingKeys$Spans", "gapAt", "(I)I"⟩, 12) := ⟨⟨by decide +kernel, by decide +kernel⟩, List.mem_of_getElem? (i := 188) (by decide +kernel), List.mem_of_getElem? (i := 862) (by decide +kernel), List.mem_of_getElem? (i := 863) (by decide +kernel)⟩
theorem lw_p23 : lw_okq (⟨"SkippingKeys", "stillToTest", "(II)I"⟩, 12) := ⟨⟨by decide +kernel, by decide +kernel⟩, List.mem_of_getElem? (i := 15) (by decide +kernel), List.mem_of_getElem? (i := 867) (by decide +kernel), List.mem_of_getElem? (i := 868) (by decide +kernel)⟩
theorem lw_p24 : lw_okq (⟨"SkippingKeys", "isTrueInPlan", "(LSkippingKeys$Condition;I)Z"⟩, 12) := ⟨⟨by decide +kernel, by decide +kernel⟩, List.mem_of_getElem? (i := 15) (by decide +kernel), List.mem_of_getElem? (i := 871) (by decide +kernel), List.mem_of_getElem? (i := 872) (by decide +kernel)⟩
theorem lw_p25 : lw_okq (⟨"SkippingKeys$Spans", "countLinesByGap", "(LSkippingKeys$Lines;I)I"⟩, 12) := ⟨⟨by decide +kernel, by decide +kernel⟩, List.mem_of_getElem? (i := 188) (by decide +kernel), List.mem_of_getElem? (i := 884) (by decide +kernel), List.mem_of_getElem? (i := 885) (by decide +kernel)⟩
theorem lw_p26 : lw_okq (⟨"SkippingKeys", "clearSeen", "()V"⟩, 12) := ⟨⟨by decide +kernel, by decide +kernel⟩, List.mem_of_getElem? (i := 15) (by decide +kernel), List.mem_of_getElem? (i := 908) (by decide +kernel), List.mem_of_getElem? (i := 909) (by decide +kernel)⟩
theorem lw_p27 : lw_okq (⟨"SkippingKeys", "countSeen", "()I"⟩, 12) := ⟨⟨by decide +kernel, by decide +kernel⟩, List.mem_of_getElem? (i := 15) (by decide +kernel), List.mem_of_getElem? (i := 913) (by decide +kernel), List.mem_of_getElem? (i := 914) (by decide +kernel)⟩
theorem lw_p28 : lw_okq (⟨"SkippingKeys$Ranking", "insert", "(I)V"⟩, 2) := ⟨⟨by decide +kernel, by decide +kernel⟩, List.mem_of_getElem? (i := 235) (by decide +kernel), List.mem_of_getElem? (i := 930) (by decide +kernel), List.mem_of_getElem? (i := 931) (by decide +kernel)⟩
theorem lw_p29 : lw_okq (⟨"SkippingKeys", "tellsLines", "(II)Z"⟩, 12) := ⟨⟨by decide +kernel, by decide +kernel⟩, List.mem_of_getElem? (i := 15) (by decide +kernel), List.mem_of_getElem? (i := 972) (by decide +kernel), List.mem_of_getElem? (i := 973) (by decide +kernel)⟩
theorem lw_p30 : lw_okq (⟨"SkippingKeys", "fitsTold", "(IIIII)Z"⟩, 12) := ⟨⟨by decide +kernel, by decide +kernel⟩, List.mem_of_getElem? (i := 15) (by decide +kernel), List.mem_of_getElem? (i := 976) (by decide +kernel), List.mem_of_getElem? (i := 977) (by decide +kernel)⟩
theorem lw_p31 : lw_okq (⟨"SkippingKeys$Lines", "draw", "(I)I"⟩, 4) := ⟨⟨by decide +kernel, by decide +kernel⟩, List.mem_of_getElem? (i := 23) (by decide +kernel), List.mem_of_getElem? (i := 1005) (by decide +kernel), List.mem_of_getElem? (i := 1006) (by decide +kernel)⟩
def lw_privs_2 : List (MethodName × Nat) := [(⟨"SkippingKeys$Condition", "equalTruth", "(I)I"⟩, 12), (⟨"SkippingKeys$Condition", "joinedTruth", "(II)I"⟩, 12), (⟨"SkippingKeys", "tellsSeveral", "(II)Z"⟩, 12), (⟨"SkippingKeys", "isCondAndIndex", "(II)Z"⟩, 12), (⟨"SkippingKeys$Spans", "orderGaps", "()V"⟩, 12), (⟨"SkippingKeys$Spans", "widthOf", "(I)I"⟩, 12), (⟨"SkippingKeys$Spans", "gapAt", "(I)I"⟩, 12), (⟨"SkippingKeys", "stillToTest", "(II)I"⟩, 12), (⟨"SkippingKeys", "isTrueInPlan", "(LSkippingKeys$Condition;I)Z"⟩, 12), (⟨"SkippingKeys$Spans", "countLinesByGap", "(LSkippingKeys$Lines;I)I"⟩, 12), (⟨"SkippingKeys", "clearSeen", "()V"⟩, 12), (⟨"SkippingKeys", "countSeen", "()I"⟩, 12), (⟨"SkippingKeys$Ranking", "insert", "(I)V"⟩, 2), (⟨"SkippingKeys", "tellsLines", "(II)Z"⟩, 12), (⟨"SkippingKeys", "fitsTold", "(IIIII)Z"⟩, 12), (⟨"SkippingKeys$Lines", "draw", "(I)I"⟩, 4)]
theorem lw_r2 : ∀ q ∈ lw_privs_2, lw_okq q := List.forall_mem_cons.mpr ⟨lw_p16, List.forall_mem_cons.mpr ⟨lw_p17, List.forall_mem_cons.mpr ⟨lw_p18, List.forall_mem_cons.mpr ⟨lw_p19, List.forall_mem_cons.mpr ⟨lw_p20, List.forall_mem_cons.mpr ⟨lw_p21, List.forall_mem_cons.mpr ⟨lw_p22, List.forall_mem_cons.mpr ⟨lw_p23, List.forall_mem_cons.mpr ⟨lw_p24, List.forall_mem_cons.mpr ⟨lw_p25, List.forall_mem_cons.mpr ⟨lw_p26, List.forall_mem_cons.mpr ⟨lw_p27, List.forall_mem_cons.mpr ⟨lw_p28, List.forall_mem_cons.mpr ⟨lw_p29, List.forall_mem_cons.mpr ⟨lw_p30, List.forall_mem_cons.mpr ⟨lw_p31, fun _ h => absurd h List.not_mem_nil⟩⟩⟩⟩⟩⟩⟩⟩⟩⟩⟩⟩⟩⟩⟩⟩
theorem lw_p32 : lw_okq (⟨"SkippingKeys", "countDifferentKeys", "()I"⟩, 12) := ⟨⟨by decide +kernel, by decide +kernel⟩, List.mem_of_getElem? (i := 15) (by decide +kernel), List.mem_of_getElem? (i := 1043) (by decide +kernel), List.mem_of_getElem? (i := 1044) (by decide +kernel)⟩
theorem lw_p33 : lw_okq (⟨"SkippingKeysModel", "refuse", "(I)I"⟩, 41) := ⟨⟨by decide +kernel, by decide +kernel⟩, List.mem_of_getElem? (i := 1051) (by decide +kernel), List.mem_of_getElem? (i := 1193) (by decide +kernel), List.mem_of_getElem? (i := 1194) (by decide +kernel)⟩
theorem lw_p34 : lw_okq (⟨"SkippingKeysModel", "noRow", "(I)I"⟩, 41) := ⟨⟨by decide +kernel, by decide +kernel⟩, List.mem_of_getElem? (i := 1051) (by decide +kernel), List.mem_of_getElem? (i := 1201) (by decide +kernel), List.mem_of_getElem? (i := 1202) (by decide +kernel)⟩
theorem lw_p35 : lw_okq (⟨"SkippingKeysModel", "isCond", "(I)Z"⟩, 41) := ⟨⟨by decide +kernel, by decide +kernel⟩, List.mem_of_getElem? (i := 1051) (by decide +kernel), List.mem_of_getElem? (i := 1224) (by decide +kernel), List.mem_of_getElem? (i := 1225) (by decide +kernel)⟩
theorem lw_p36 : lw_okq (⟨"SkippingKeysModel", "keysOf", "(II)I"⟩, 41) := ⟨⟨by decide +kernel, by decide +kernel⟩, List.mem_of_getElem? (i := 1051) (by decide +kernel), List.mem_of_getElem? (i := 1236) (by decide +kernel), List.mem_of_getElem? (i := 1237) (by decide +kernel)⟩
theorem lw_p37 : lw_okq (⟨"SkippingKeysModel", "isAt", "(II)I"⟩, 41) := ⟨⟨by decide +kernel, by decide +kernel⟩, List.mem_of_getElem? (i := 1051) (by decide +kernel), List.mem_of_getElem? (i := 1240) (by decide +kernel), List.mem_of_getElem? (i := 1241) (by decide +kernel)⟩
theorem lw_p38 : lw_okq (⟨"SkippingKeysModel", "valuesOf", "(II)I"⟩, 41) := ⟨⟨by decide +kernel, by decide +kernel⟩, List.mem_of_getElem? (i := 1051) (by decide +kernel), List.mem_of_getElem? (i := 1244) (by decide +kernel), List.mem_of_getElem? (i := 1245) (by decide +kernel)⟩
theorem lw_p39 : lw_okq (⟨"SkippingKeysModel", "put", "(IIII)V"⟩, 41) := ⟨⟨by decide +kernel, by decide +kernel⟩, List.mem_of_getElem? (i := 1051) (by decide +kernel), List.mem_of_getElem? (i := 1259) (by decide +kernel), List.mem_of_getElem? (i := 1260) (by decide +kernel)⟩
theorem lw_p40 : lw_okq (⟨"SkippingKeysModel", "isLine", "(I)Z"⟩, 41) := ⟨⟨by decide +kernel, by decide +kernel⟩, List.mem_of_getElem? (i := 1051) (by decide +kernel), List.mem_of_getElem? (i := 1267) (by decide +kernel), List.mem_of_getElem? (i := 1268) (by decide +kernel)⟩
theorem lw_p41 : lw_okq (⟨"SkippingKeysModel", "strikeOut", "(I)V"⟩, 41) := ⟨⟨by decide +kernel, by decide +kernel⟩, List.mem_of_getElem? (i := 1051) (by decide +kernel), List.mem_of_getElem? (i := 1276) (by decide +kernel), List.mem_of_getElem? (i := 1277) (by decide +kernel)⟩
theorem lw_p42 : lw_okq (⟨"SkippingKeysModel", "tableFault", "()I"⟩, 41) := ⟨⟨by decide +kernel, by decide +kernel⟩, List.mem_of_getElem? (i := 1051) (by decide +kernel), List.mem_of_getElem? (i := 1298) (by decide +kernel), List.mem_of_getElem? (i := 1299) (by decide +kernel)⟩
theorem lw_p43 : lw_okq (⟨"SkippingKeysModel", "condHere", "()I"⟩, 41) := ⟨⟨by decide +kernel, by decide +kernel⟩, List.mem_of_getElem? (i := 1051) (by decide +kernel), List.mem_of_getElem? (i := 1311) (by decide +kernel), List.mem_of_getElem? (i := 1312) (by decide +kernel)⟩
theorem lw_p44 : lw_okq (⟨"SkippingKeysModel", "eachHere", "()I"⟩, 41) := ⟨⟨by decide +kernel, by decide +kernel⟩, List.mem_of_getElem? (i := 1051) (by decide +kernel), List.mem_of_getElem? (i := 1315) (by decide +kernel), List.mem_of_getElem? (i := 1316) (by decide +kernel)⟩
theorem lw_p45 : lw_okq (⟨"SkippingKeysModel", "turnHere", "()I"⟩, 41) := ⟨⟨by decide +kernel, by decide +kernel⟩, List.mem_of_getElem? (i := 1051) (by decide +kernel), List.mem_of_getElem? (i := 1319) (by decide +kernel), List.mem_of_getElem? (i := 1320) (by decide +kernel)⟩
theorem lw_p46 : lw_okq (⟨"SkippingKeysModel", "sees", "(I)Z"⟩, 41) := ⟨⟨by decide +kernel, by decide +kernel⟩, List.mem_of_getElem? (i := 1051) (by decide +kernel), List.mem_of_getElem? (i := 1323) (by decide +kernel), List.mem_of_getElem? (i := 1324) (by decide +kernel)⟩
theorem lw_p47 : lw_okq (⟨"SkippingKeysModel", "here", "()I"⟩, 41) := ⟨⟨by decide +kernel, by decide +kernel⟩, List.mem_of_getElem? (i := 1051) (by decide +kernel), List.mem_of_getElem? (i := 1327) (by decide +kernel), List.mem_of_getElem? (i := 1328) (by decide +kernel)⟩
def lw_privs_3 : List (MethodName × Nat) := [(⟨"SkippingKeys", "countDifferentKeys", "()I"⟩, 12), (⟨"SkippingKeysModel", "refuse", "(I)I"⟩, 41), (⟨"SkippingKeysModel", "noRow", "(I)I"⟩, 41), (⟨"SkippingKeysModel", "isCond", "(I)Z"⟩, 41), (⟨"SkippingKeysModel", "keysOf", "(II)I"⟩, 41), (⟨"SkippingKeysModel", "isAt", "(II)I"⟩, 41), (⟨"SkippingKeysModel", "valuesOf", "(II)I"⟩, 41), (⟨"SkippingKeysModel", "put", "(IIII)V"⟩, 41), (⟨"SkippingKeysModel", "isLine", "(I)Z"⟩, 41), (⟨"SkippingKeysModel", "strikeOut", "(I)V"⟩, 41), (⟨"SkippingKeysModel", "tableFault", "()I"⟩, 41), (⟨"SkippingKeysModel", "condHere", "()I"⟩, 41), (⟨"SkippingKeysModel", "eachHere", "()I"⟩, 41), (⟨"SkippingKeysModel", "turnHere", "()I"⟩, 41), (⟨"SkippingKeysModel", "sees", "(I)Z"⟩, 41), (⟨"SkippingKeysModel", "here", "()I"⟩, 41)]
theorem lw_r3 : ∀ q ∈ lw_privs_3, lw_okq q := List.forall_mem_cons.mpr ⟨lw_p32, List.forall_mem_cons.mpr ⟨lw_p33, List.forall_mem_cons.mpr ⟨lw_p34, List.forall_mem_cons.mpr ⟨lw_p35, List.forall_mem_cons.mpr ⟨lw_p36, List.forall_mem_cons.mpr ⟨lw_p37, List.forall_mem_cons.mpr ⟨lw_p38, List.forall_mem_cons.mpr ⟨lw_p39, List.forall_mem_cons.mpr ⟨lw_p40, List.forall_mem_cons.mpr ⟨lw_p41, List.forall_mem_cons.mpr ⟨lw_p42, List.forall_mem_cons.mpr ⟨lw_p43, List.forall_mem_cons.mpr ⟨lw_p44, List.forall_mem_cons.mpr ⟨lw_p45, List.forall_mem_cons.mpr ⟨lw_p46, List.forall_mem_cons.mpr ⟨lw_p47, fun _ h => absurd h List.not_mem_nil⟩⟩⟩⟩⟩⟩⟩⟩⟩⟩⟩⟩⟩⟩⟩⟩
theorem lw_p48 : lw_okq (⟨"SkippingKeysModel", "makeOver", "(III)I"⟩, 41) := ⟨⟨by decide +kernel, by decide +kernel⟩, List.mem_of_getElem? (i := 1051) (by decide +kernel), List.mem_of_getElem? (i := 1331) (by decide +kernel), List.mem_of_getElem? (i := 1332) (by decide +kernel)⟩
theorem lw_p49 : lw_okq (⟨"SkippingKeysModel", "clearTold", "()V"⟩, 41) := ⟨⟨by decide +kernel, by decide +kernel⟩, List.mem_of_getElem? (i := 1051) (by decide +kernel), List.mem_of_getElem? (i := 1335) (by decide +kernel), List.mem_of_getElem? (i := 1336) (by decide +kernel)⟩
theorem lw_p50 : lw_okq (⟨"SkippingKeysModel", "make", "(I)I"⟩, 41) := ⟨⟨by decide +kernel, by decide +kernel⟩, List.mem_of_getElem? (i := 1051) (by decide +kernel), List.mem_of_getElem? (i := 1339) (by decide +kernel), List.mem_of_getElem? (i := 1340) (by decide +kernel)⟩
theorem lw_p51 : lw_okq (⟨"SkippingKeysModel", "must", "(I)V"⟩, 41) := ⟨⟨by decide +kernel, by decide +kernel⟩, List.mem_of_getElem? (i := 1051) (by decide +kernel), List.mem_of_getElem? (i := 1343) (by decide +kernel), List.mem_of_getElem? (i := 1344) (by decide +kernel)⟩
theorem lw_p52 : lw_okq (⟨"SkippingKeysModel", "wrong", "()I"⟩, 41) := ⟨⟨by decide +kernel, by decide +kernel⟩, List.mem_of_getElem? (i := 1051) (by decide +kernel), List.mem_of_getElem? (i := 1347) (by decide +kernel), List.mem_of_getElem? (i := 1348) (by decide +kernel)⟩
theorem lw_p53 : lw_okq (⟨"SkippingKeysModel", "columnHere", "(I)I"⟩, 41) := ⟨⟨by decide +kernel, by decide +kernel⟩, List.mem_of_getElem? (i := 1051) (by decide +kernel), List.mem_of_getElem? (i := 1353) (by decide +kernel), List.mem_of_getElem? (i := 1354) (by decide +kernel)⟩
theorem lw_p54 : lw_okq (⟨"SkippingKeysModel", "severalHere", "(I)I"⟩, 41) := ⟨⟨by decide +kernel, by decide +kernel⟩, List.mem_of_getElem? (i := 1051) (by decide +kernel), List.mem_of_getElem? (i := 1357) (by decide +kernel), List.mem_of_getElem? (i := 1358) (by decide +kernel)⟩
theorem lw_p55 : lw_okq (⟨"SkippingKeysModel", "signHere", "()V"⟩, 41) := ⟨⟨by decide +kernel, by decide +kernel⟩, List.mem_of_getElem? (i := 1051) (by decide +kernel), List.mem_of_getElem? (i := 1361) (by decide +kernel), List.mem_of_getElem? (i := 1362) (by decide +kernel)⟩
theorem lw_p56 : lw_okq (⟨"SkippingKeysModel", "number", "(II)I"⟩, 41) := ⟨⟨by decide +kernel, by decide +kernel⟩, List.mem_of_getElem? (i := 1051) (by decide +kernel), List.mem_of_getElem? (i := 1368) (by decide +kernel), List.mem_of_getElem? (i := 1369) (by decide +kernel)⟩
theorem lw_p57 : lw_okq (⟨"SkippingKeysModel", "amongHere", "(I)I"⟩, 41) := ⟨⟨by decide +kernel, by decide +kernel⟩, List.mem_of_getElem? (i := 1051) (by decide +kernel), List.mem_of_getElem? (i := 1372) (by decide +kernel), List.mem_of_getElem? (i := 1373) (by decide +kernel)⟩
theorem lw_p58 : lw_okq (⟨"SkippingKeysModel", "added", "()I"⟩, 41) := ⟨⟨by decide +kernel, by decide +kernel⟩, List.mem_of_getElem? (i := 1051) (by decide +kernel), List.mem_of_getElem? (i := 1376) (by decide +kernel), List.mem_of_getElem? (i := 1377) (by decide +kernel)⟩
theorem lw_p59 : lw_okq (⟨"SkippingKeysModel", "workFrom", "(I)V"⟩, 41) := ⟨⟨by decide +kernel, by decide +kernel⟩, List.mem_of_getElem? (i := 1051) (by decide +kernel), List.mem_of_getElem? (i := 1380) (by decide +kernel), List.mem_of_getElem? (i := 1381) (by decide +kernel)⟩
theorem lw_p60 : lw_okq (⟨"SkippingKeysModel", "leafIn", "(I)V"⟩, 41) := ⟨⟨by decide +kernel, by decide +kernel⟩, List.mem_of_getElem? (i := 1051) (by decide +kernel), List.mem_of_getElem? (i := 1384) (by decide +kernel), List.mem_of_getElem? (i := 1385) (by decide +kernel)⟩
theorem lw_p61 : lw_okq (⟨"SkippingKeysModel", "overIn", "(I)V"⟩, 41) := ⟨⟨by decide +kernel, by decide +kernel⟩, List.mem_of_getElem? (i := 1051) (by decide +kernel), List.mem_of_getElem? (i := 1388) (by decide +kernel), List.mem_of_getElem? (i := 1389) (by decide +kernel)⟩
theorem lw_p62 : lw_okq (⟨"SkippingKeysModel", "worked", "(II)I"⟩, 41) := ⟨⟨by decide +kernel, by decide +kernel⟩, List.mem_of_getElem? (i := 1051) (by decide +kernel), List.mem_of_getElem? (i := 1392) (by decide +kernel), List.mem_of_getElem? (i := 1393) (by decide +kernel)⟩
theorem lw_p63 : lw_okq (⟨"SkippingKeysModel", "leafFor", "(II)I"⟩, 41) := ⟨⟨by decide +kernel, by decide +kernel⟩, List.mem_of_getElem? (i := 1051) (by decide +kernel), List.mem_of_getElem? (i := 1396) (by decide +kernel), List.mem_of_getElem? (i := 1397) (by decide +kernel)⟩
def lw_privs_4 : List (MethodName × Nat) := [(⟨"SkippingKeysModel", "makeOver", "(III)I"⟩, 41), (⟨"SkippingKeysModel", "clearTold", "()V"⟩, 41), (⟨"SkippingKeysModel", "make", "(I)I"⟩, 41), (⟨"SkippingKeysModel", "must", "(I)V"⟩, 41), (⟨"SkippingKeysModel", "wrong", "()I"⟩, 41), (⟨"SkippingKeysModel", "columnHere", "(I)I"⟩, 41), (⟨"SkippingKeysModel", "severalHere", "(I)I"⟩, 41), (⟨"SkippingKeysModel", "signHere", "()V"⟩, 41), (⟨"SkippingKeysModel", "number", "(II)I"⟩, 41), (⟨"SkippingKeysModel", "amongHere", "(I)I"⟩, 41), (⟨"SkippingKeysModel", "added", "()I"⟩, 41), (⟨"SkippingKeysModel", "workFrom", "(I)V"⟩, 41), (⟨"SkippingKeysModel", "leafIn", "(I)V"⟩, 41), (⟨"SkippingKeysModel", "overIn", "(I)V"⟩, 41), (⟨"SkippingKeysModel", "worked", "(II)I"⟩, 41), (⟨"SkippingKeysModel", "leafFor", "(II)I"⟩, 41)]
theorem lw_r4 : ∀ q ∈ lw_privs_4, lw_okq q := List.forall_mem_cons.mpr ⟨lw_p48, List.forall_mem_cons.mpr ⟨lw_p49, List.forall_mem_cons.mpr ⟨lw_p50, List.forall_mem_cons.mpr ⟨lw_p51, List.forall_mem_cons.mpr ⟨lw_p52, List.forall_mem_cons.mpr ⟨lw_p53, List.forall_mem_cons.mpr ⟨lw_p54, List.forall_mem_cons.mpr ⟨lw_p55, List.forall_mem_cons.mpr ⟨lw_p56, List.forall_mem_cons.mpr ⟨lw_p57, List.forall_mem_cons.mpr ⟨lw_p58, List.forall_mem_cons.mpr ⟨lw_p59, List.forall_mem_cons.mpr ⟨lw_p60, List.forall_mem_cons.mpr ⟨lw_p61, List.forall_mem_cons.mpr ⟨lw_p62, List.forall_mem_cons.mpr ⟨lw_p63, fun _ h => absurd h List.not_mem_nil⟩⟩⟩⟩⟩⟩⟩⟩⟩⟩⟩⟩⟩⟩⟩⟩
theorem lw_p64 : lw_okq (⟨"SkippingKeysModel", "severalFor", "(II)I"⟩, 41) := ⟨⟨by decide +kernel, by decide +kernel⟩, List.mem_of_getElem? (i := 1051) (by decide +kernel), List.mem_of_getElem? (i := 1400) (by decide +kernel), List.mem_of_getElem? (i := 1401) (by decide +kernel)⟩
theorem lw_p65 : lw_okq (⟨"SkippingKeysModel", "tell", "(IIIII)I"⟩, 41) := ⟨⟨by decide +kernel, by decide +kernel⟩, List.mem_of_getElem? (i := 1051) (by decide +kernel), List.mem_of_getElem? (i := 1415) (by decide +kernel), List.mem_of_getElem? (i := 1416) (by decide +kernel)⟩
theorem lw_p66 : lw_okq (⟨"SkippingKeysModel", "add", "(I)I"⟩, 41) := ⟨⟨by decide +kernel, by decide +kernel⟩, List.mem_of_getElem? (i := 1051) (by decide +kernel), List.mem_of_getElem? (i := 1419) (by decide +kernel), List.mem_of_getElem? (i := 1420) (by decide +kernel)⟩
theorem lw_p67 : lw_okq (⟨"SkippingKeysModel", "noRowOf", "(II)I"⟩, 41) := ⟨⟨by decide +kernel, by decide +kernel⟩, List.mem_of_getElem? (i := 1051) (by decide +kernel), List.mem_of_getElem? (i := 1443) (by decide +kernel), List.mem_of_getElem? (i := 1444) (by decide +kernel)⟩
theorem lw_p68 : lw_okq (⟨"SkippingKeysModel", "keyIn", "(II)I"⟩, 41) := ⟨⟨by decide +kernel, by decide +kernel⟩, List.mem_of_getElem? (i := 1051) (by decide +kernel), List.mem_of_getElem? (i := 1476) (by decide +kernel), List.mem_of_getElem? (i := 1477) (by decide +kernel)⟩
theorem lw_p69 : lw_okq (⟨"SkippingKeysModel", "linesOf", "(II)I"⟩, 41) := ⟨⟨by decide +kernel, by decide +kernel⟩, List.mem_of_getElem? (i := 1051) (by decide +kernel), List.mem_of_getElem? (i := 1502) (by decide +kernel), List.mem_of_getElem? (i := 1503) (by decide +kernel)⟩
theorem lw_p70 : lw_okq (⟨"SkippingKeysModel", "isFor", "(II)I"⟩, 41) := ⟨⟨by decide +kernel, by decide +kernel⟩, List.mem_of_getElem? (i := 1051) (by decide +kernel), List.mem_of_getElem? (i := 1506) (by decide +kernel), List.mem_of_getElem? (i := 1507) (by decide +kernel)⟩
theorem lw_p71 : lw_okq (⟨"SkippingKeysModel", "runsIn", "(II)V"⟩, 41) := ⟨⟨by decide +kernel, by decide +kernel⟩, List.mem_of_getElem? (i := 1051) (by decide +kernel), List.mem_of_getElem? (i := 1518) (by decide +kernel), List.mem_of_getElem? (i := 1519) (by decide +kernel)⟩
theorem lw_p72 : lw_okq (⟨"SkippingKeysModel", "spanAt", "(I)I"⟩, 41) := ⟨⟨by decide +kernel, by decide +kernel⟩, List.mem_of_getElem? (i := 1051) (by decide +kernel), List.mem_of_getElem? (i := 1526) (by decide +kernel), List.mem_of_getElem? (i := 1527) (by decide +kernel)⟩
theorem lw_p73 : lw_okq (⟨"SkippingKeysModel", "planIn", "(III)V"⟩, 41) := ⟨⟨by decide +kernel, by decide +kernel⟩, List.mem_of_getElem? (i := 1051) (by decide +kernel), List.mem_of_getElem? (i := 1534) (by decide +kernel), List.mem_of_getElem? (i := 1535) (by decide +kernel)⟩
theorem lw_p74 : lw_okq (⟨"SkippingKeysModel", "mergeOnce", "()V"⟩, 41) := ⟨⟨by decide +kernel, by decide +kernel⟩, List.mem_of_getElem? (i := 1051) (by decide +kernel), List.mem_of_getElem? (i := 1538) (by decide +kernel), List.mem_of_getElem? (i := 1539) (by decide +kernel)⟩
theorem lw_p75 : lw_okq (⟨"SkippingKeysModel", "otherKeys", "(II)I"⟩, 41) := ⟨⟨by decide +kernel, by decide +kernel⟩, List.mem_of_getElem? (i := 1051) (by decide +kernel), List.mem_of_getElem? (i := 1546) (by decide +kernel), List.mem_of_getElem? (i := 1547) (by decide +kernel)⟩
theorem lw_p76 : lw_okq (⟨"SkippingKeysModel", "readIn", "(IIZ)I"⟩, 41) := ⟨⟨by decide +kernel, by decide +kernel⟩, List.mem_of_getElem? (i := 1051) (by decide +kernel), List.mem_of_getElem? (i := 1550) (by decide +kernel), List.mem_of_getElem? (i := 1551) (by decide +kernel)⟩
theorem lw_p77 : lw_okq (⟨"SkippingKeysModel", "isRead", "(I)Z"⟩, 41) := ⟨⟨by decide +kernel, by decide +kernel⟩, List.mem_of_getElem? (i := 1051) (by decide +kernel), List.mem_of_getElem? (i := 1554) (by decide +kernel), List.mem_of_getElem? (i := 1555) (by decide +kernel)⟩
theorem lw_p78 : lw_okq (⟨"SkippingKeysModel", "costIn", "(II)I"⟩, 41) := ⟨⟨by decide +kernel, by decide +kernel⟩, List.mem_of_getElem? (i := 1051) (by decide +kernel), List.mem_of_getElem? (i := 1558) (by decide +kernel), List.mem_of_getElem? (i := 1559) (by decide +kernel)⟩
theorem lw_p79 : lw_okq (⟨"SkippingKeysModel", "still", "(II)I"⟩, 41) := ⟨⟨by decide +kernel, by decide +kernel⟩, List.mem_of_getElem? (i := 1051) (by decide +kernel), List.mem_of_getElem? (i := 1562) (by decide +kernel), List.mem_of_getElem? (i := 1563) (by decide +kernel)⟩
def lw_privs_5 : List (MethodName × Nat) := [(⟨"SkippingKeysModel", "severalFor", "(II)I"⟩, 41), (⟨"SkippingKeysModel", "tell", "(IIIII)I"⟩, 41), (⟨"SkippingKeysModel", "add", "(I)I"⟩, 41), (⟨"SkippingKeysModel", "noRowOf", "(II)I"⟩, 41), (⟨"SkippingKeysModel", "keyIn", "(II)I"⟩, 41), (⟨"SkippingKeysModel", "linesOf", "(II)I"⟩, 41), (⟨"SkippingKeysModel", "isFor", "(II)I"⟩, 41), (⟨"SkippingKeysModel", "runsIn", "(II)V"⟩, 41), (⟨"SkippingKeysModel", "spanAt", "(I)I"⟩, 41), (⟨"SkippingKeysModel", "planIn", "(III)V"⟩, 41), (⟨"SkippingKeysModel", "mergeOnce", "()V"⟩, 41), (⟨"SkippingKeysModel", "otherKeys", "(II)I"⟩, 41), (⟨"SkippingKeysModel", "readIn", "(IIZ)I"⟩, 41), (⟨"SkippingKeysModel", "isRead", "(I)Z"⟩, 41), (⟨"SkippingKeysModel", "costIn", "(II)I"⟩, 41), (⟨"SkippingKeysModel", "still", "(II)I"⟩, 41)]
theorem lw_r5 : ∀ q ∈ lw_privs_5, lw_okq q := List.forall_mem_cons.mpr ⟨lw_p64, List.forall_mem_cons.mpr ⟨lw_p65, List.forall_mem_cons.mpr ⟨lw_p66, List.forall_mem_cons.mpr ⟨lw_p67, List.forall_mem_cons.mpr ⟨lw_p68, List.forall_mem_cons.mpr ⟨lw_p69, List.forall_mem_cons.mpr ⟨lw_p70, List.forall_mem_cons.mpr ⟨lw_p71, List.forall_mem_cons.mpr ⟨lw_p72, List.forall_mem_cons.mpr ⟨lw_p73, List.forall_mem_cons.mpr ⟨lw_p74, List.forall_mem_cons.mpr ⟨lw_p75, List.forall_mem_cons.mpr ⟨lw_p76, List.forall_mem_cons.mpr ⟨lw_p77, List.forall_mem_cons.mpr ⟨lw_p78, List.forall_mem_cons.mpr ⟨lw_p79, fun _ h => absurd h List.not_mem_nil⟩⟩⟩⟩⟩⟩⟩⟩⟩⟩⟩⟩⟩⟩⟩⟩
theorem lw_p80 : lw_okq (⟨"SkippingKeysModel", "bestIn", "(II)I"⟩, 41) := ⟨⟨by decide +kernel, by decide +kernel⟩, List.mem_of_getElem? (i := 1051) (by decide +kernel), List.mem_of_getElem? (i := 1570) (by decide +kernel), List.mem_of_getElem? (i := 1571) (by decide +kernel)⟩
theorem lw_p81 : lw_okq (⟨"SkippingKeysModel", "leads", "(IIIIZ)Z"⟩, 41) := ⟨⟨by decide +kernel, by decide +kernel⟩, List.mem_of_getElem? (i := 1051) (by decide +kernel), List.mem_of_getElem? (i := 1586) (by decide +kernel), List.mem_of_getElem? (i := 1587) (by decide +kernel)⟩
theorem lw_p82 : lw_okq (⟨"SkippingKeysModel", "findIn", "(III)V"⟩, 41) := ⟨⟨by decide +kernel, by decide +kernel⟩, List.mem_of_getElem? (i := 1051) (by decide +kernel), List.mem_of_getElem? (i := 1594) (by decide +kernel), List.mem_of_getElem? (i := 1595) (by decide +kernel)⟩
theorem lw_p83 : lw_okq (⟨"SkippingKeysModel", "isAhead", "(IIII)Z"⟩, 41) := ⟨⟨by decide +kernel, by decide +kernel⟩, List.mem_of_getElem? (i := 1051) (by decide +kernel), List.mem_of_getElem? (i := 1598) (by decide +kernel), List.mem_of_getElem? (i := 1599) (by decide +kernel)⟩
theorem lw_p84 : lw_okq (⟨"SkippingKeysModel", "differ", "(II)I"⟩, 41) := ⟨⟨by decide +kernel, by decide +kernel⟩, List.mem_of_getElem? (i := 1051) (by decide +kernel), List.mem_of_getElem? (i := 1621) (by decide +kernel), List.mem_of_getElem? (i := 1622) (by decide +kernel)⟩
theorem lw_p85 : lw_okq (⟨"SkippingKeysModel", "isTold", "(IIIII)Z"⟩, 41) := ⟨⟨by decide +kernel, by decide +kernel⟩, List.mem_of_getElem? (i := 1051) (by decide +kernel), List.mem_of_getElem? (i := 1633) (by decide +kernel), List.mem_of_getElem? (i := 1634) (by decide +kernel)⟩
theorem lw_p86 : lw_okq (⟨"SkippingKeysModel", "draw", "(I)I"⟩, 41) := ⟨⟨by decide +kernel, by decide +kernel⟩, List.mem_of_getElem? (i := 1051) (by decide +kernel), List.mem_of_getElem? (i := 1654) (by decide +kernel), List.mem_of_getElem? (i := 1655) (by decide +kernel)⟩
theorem lw_p87 : lw_okq (⟨"SkippingKeysModel", "differentKeys", "()I"⟩, 41) := ⟨⟨by decide +kernel, by decide +kernel⟩, List.mem_of_getElem? (i := 1051) (by decide +kernel), List.mem_of_getElem? (i := 1678) (by decide +kernel), List.mem_of_getElem? (i := 1679) (by decide +kernel)⟩
def lw_privs_6 : List (MethodName × Nat) := [(⟨"SkippingKeysModel", "bestIn", "(II)I"⟩, 41), (⟨"SkippingKeysModel", "leads", "(IIIIZ)Z"⟩, 41), (⟨"SkippingKeysModel", "findIn", "(III)V"⟩, 41), (⟨"SkippingKeysModel", "isAhead", "(IIII)Z"⟩, 41), (⟨"SkippingKeysModel", "differ", "(II)I"⟩, 41), (⟨"SkippingKeysModel", "isTold", "(IIIII)Z"⟩, 41), (⟨"SkippingKeysModel", "draw", "(I)I"⟩, 41), (⟨"SkippingKeysModel", "differentKeys", "()I"⟩, 41)]
theorem lw_r6 : ∀ q ∈ lw_privs_6, lw_okq q := List.forall_mem_cons.mpr ⟨lw_p80, List.forall_mem_cons.mpr ⟨lw_p81, List.forall_mem_cons.mpr ⟨lw_p82, List.forall_mem_cons.mpr ⟨lw_p83, List.forall_mem_cons.mpr ⟨lw_p84, List.forall_mem_cons.mpr ⟨lw_p85, List.forall_mem_cons.mpr ⟨lw_p86, List.forall_mem_cons.mpr ⟨lw_p87, fun _ h => absurd h List.not_mem_nil⟩⟩⟩⟩⟩⟩⟩⟩
def lw_privs : List (MethodName × Nat) := lw_privs_1 ++ (lw_privs_2 ++ (lw_privs_3 ++ (lw_privs_4 ++ (lw_privs_5 ++ (lw_privs_6)))))
def lw_tbl : List Cond := k2_sels lw_privs ++ tables_1
theorem lw_privs_ok : ∀ q ∈ lw_privs, lw_okq q := by
  show ∀ q ∈ lw_privs_1 ++ (lw_privs_2 ++ (lw_privs_3 ++ (lw_privs_4 ++ (lw_privs_5 ++ (lw_privs_6))))), lw_okq q
  exact List.forall_mem_append.mpr ⟨lw_r1, List.forall_mem_append.mpr ⟨lw_r2, List.forall_mem_append.mpr ⟨lw_r3, List.forall_mem_append.mpr ⟨lw_r4, List.forall_mem_append.mpr ⟨lw_r5, lw_r6⟩⟩⟩⟩⟩

def RX0 : String := "SkippingKeys$Condition"
def RX1 : String := "SkippingKeys$Conditions"
def RX2 : String := "SkippingKeys$Lines"
def RX3 : String := "SkippingKeys$Ranking"
def RX4 : String := "SkippingKeys$Reader"
def RX5 : String := "SkippingKeys$Shelves"
def RX6 : String := "SkippingKeys$Spans"
def RX7 : String := "SkippingKeys$Tape"
def RX8 : String := "SkippingKeys"
def RX9 : String := "SkippingKeysModel"
def RJ6 : String := "java/lang/Integer"
def RJ9 : String := "java/lang/Math"
def RJ10 : String := "java/lang/System"
def RL : String := "SkippingKeysLaw"
def TX0 : u_T := fun k => match k with
  | 0 => ("SkippingKeys$Condition", "kind", "I", false)
  | 1 => ("SkippingKeys$Condition", "sign", "I", false)
  | 2 => ("SkippingKeys$Condition", "x", "I", false)
  | 3 => ("SkippingKeys$Condition", "y", "I", false)
  | 4 => ("SkippingKeys$Condition", "remainder", "I", false)
  | 5 => ("SkippingKeys$Condition", "columnBits", "I", false)
  | 6 => ("SkippingKeys$Condition", "deep", "I", false)
  | 7 => ("SkippingKeys$Condition", "parts", "I", false)
  | 8 => ("SkippingKeys$Condition", "truths", "[B", true)
  | 9 => ("SkippingKeys$Condition", "size", "I", false)
  | 10 => ("SkippingKeys$Condition", "columns", "[I", true)
  | _ => ("SkippingKeys$Condition", "wanted", "[I", true)
def tyX0 : Nat → FieldType := fun k => match k with
  | 0 => .int
  | 1 => .int
  | 2 => .int
  | 3 => .int
  | 4 => .int
  | 5 => .int
  | 6 => .int
  | 7 => .int
  | 8 => .array .byte
  | 9 => .int
  | 10 => .array .int
  | _ => .array .int
theorem nmX0 : ∀ a, a < 12 → ∀ b, b < 12 → a ≠ b → (TX0 a).2.1 ≠ (TX0 b).2.1 := by decide +kernel
theorem tyX0_ok : ∀ k, k < 12 → parseFieldDescriptor (TX0 k).2.2.1 = some (tyX0 k) := by decide +kernel
def TX1 : u_T := fun k => match k with
  | 0 => ("SkippingKeys$Conditions", "list", "[LSkippingKeys$Condition;", true)
  | 1 => ("SkippingKeys$Conditions", "count", "I", false)
  | _ => ("SkippingKeys$Conditions", "drafts", "I", false)
def tyX1 : Nat → FieldType := fun k => match k with
  | 0 => .array (.object "SkippingKeys$Condition")
  | 1 => .int
  | _ => .int
theorem nmX1 : ∀ a, a < 3 → ∀ b, b < 3 → a ≠ b → (TX1 a).2.1 ≠ (TX1 b).2.1 := by decide +kernel
theorem tyX1_ok : ∀ k, k < 3 → parseFieldDescriptor (TX1 k).2.2.1 = some (tyX1 k) := by decide +kernel
def TX2 : u_T := fun k => match k with
  | 0 => ("SkippingKeys$Lines", "places", "[I", true)
  | 1 => ("SkippingKeys$Lines", "count", "I", false)
  | 2 => ("SkippingKeys$Lines", "price", "I", false)
  | _ => ("SkippingKeys$Lines", "seed", "I", false)
def tyX2 : Nat → FieldType := fun k => match k with
  | 0 => .array .int
  | 1 => .int
  | 2 => .int
  | _ => .int
theorem nmX2 : ∀ a, a < 4 → ∀ b, b < 4 → a ≠ b → (TX2 a).2.1 ≠ (TX2 b).2.1 := by decide +kernel
theorem tyX2_ok : ∀ k, k < 4 → parseFieldDescriptor (TX2 k).2.2.1 = some (tyX2 k) := by decide +kernel
def TX3 : u_T := fun k => match k with
  | 0 => ("SkippingKeys$Ranking", "codes", "[I", true)
  | _ => ("SkippingKeys$Ranking", "count", "I", false)
def tyX3 : Nat → FieldType := fun k => match k with
  | 0 => .array .int
  | _ => .int
theorem nmX3 : ∀ a, a < 2 → ∀ b, b < 2 → a ≠ b → (TX3 a).2.1 ≠ (TX3 b).2.1 := by decide +kernel
theorem tyX3_ok : ∀ k, k < 2 → parseFieldDescriptor (TX3 k).2.2.1 = some (tyX3 k) := by decide +kernel
def TX4 : u_T := fun k => match k with
  | 0 => ("SkippingKeys$Reader", "values", "[I", true)
  | 1 => ("SkippingKeys$Reader", "valueCount", "I", false)
  | 2 => ("SkippingKeys$Reader", "open", "[I", true)
  | 3 => ("SkippingKeys$Reader", "openCount", "I", false)
  | 4 => ("SkippingKeys$Reader", "whole", "[I", true)
  | _ => ("SkippingKeys$Reader", "wholeCount", "I", false)
def tyX4 : Nat → FieldType := fun k => match k with
  | 0 => .array .int
  | 1 => .int
  | 2 => .array .int
  | 3 => .int
  | 4 => .array .int
  | _ => .int
theorem nmX4 : ∀ a, a < 6 → ∀ b, b < 6 → a ≠ b → (TX4 a).2.1 ≠ (TX4 b).2.1 := by decide +kernel
theorem tyX4_ok : ∀ k, k < 6 → parseFieldDescriptor (TX4 k).2.2.1 = some (tyX4 k) := by decide +kernel
def TX5 : u_T := fun k => match k with
  | 0 => ("SkippingKeys$Shelves", "held", "[I", true)
  | 1 => ("SkippingKeys$Shelves", "sizes", "[I", true)
  | _ => ("SkippingKeys$Shelves", "elements", "[J", true)
def tyX5 : Nat → FieldType := fun k => match k with
  | 0 => .array .int
  | 1 => .array .int
  | _ => .array .long
theorem nmX5 : ∀ a, a < 3 → ∀ b, b < 3 → a ≠ b → (TX5 a).2.1 ≠ (TX5 b).2.1 := by decide +kernel
theorem tyX5_ok : ∀ k, k < 3 → parseFieldDescriptor (TX5 k).2.2.1 = some (tyX5 k) := by decide +kernel
def TX6 : u_T := fun k => match k with
  | 0 => ("SkippingKeys$Spans", "truths", "[B", true)
  | 1 => ("SkippingKeys$Spans", "first", "[I", true)
  | 2 => ("SkippingKeys$Spans", "last", "[I", true)
  | 3 => ("SkippingKeys$Spans", "begun", "[I", true)
  | 4 => ("SkippingKeys$Spans", "gapOrder", "[I", true)
  | 5 => ("SkippingKeys$Spans", "firstOfWidth", "[I", true)
  | 6 => ("SkippingKeys$Spans", "nextOfWidth", "[I", true)
  | 7 => ("SkippingKeys$Spans", "joined", "[Z", true)
  | 8 => ("SkippingKeys$Spans", "linesInGap", "[I", true)
  | 9 => ("SkippingKeys$Spans", "count", "I", false)
  | 10 => ("SkippingKeys$Spans", "bestSize", "I", false)
  | _ => ("SkippingKeys$Spans", "bestCost", "I", false)
def tyX6 : Nat → FieldType := fun k => match k with
  | 0 => .array .byte
  | 1 => .array .int
  | 2 => .array .int
  | 3 => .array .int
  | 4 => .array .int
  | 5 => .array .int
  | 6 => .array .int
  | 7 => .array .boolean
  | 8 => .array .int
  | 9 => .int
  | 10 => .int
  | _ => .int
theorem nmX6 : ∀ a, a < 12 → ∀ b, b < 12 → a ≠ b → (TX6 a).2.1 ≠ (TX6 b).2.1 := by decide +kernel
theorem tyX6_ok : ∀ k, k < 12 → parseFieldDescriptor (TX6 k).2.2.1 = some (tyX6 k) := by decide +kernel
def TX7 : u_T := fun k => match k with
  | 0 => ("SkippingKeys$Tape", "bytes", "[I", true)
  | 1 => ("SkippingKeys$Tape", "size", "I", false)
  | _ => ("SkippingKeys$Tape", "place", "I", false)
def tyX7 : Nat → FieldType := fun k => match k with
  | 0 => .array .int
  | 1 => .int
  | _ => .int
theorem nmX7 : ∀ a, a < 3 → ∀ b, b < 3 → a ≠ b → (TX7 a).2.1 ≠ (TX7 b).2.1 := by decide +kernel
theorem tyX7_ok : ∀ k, k < 3 → parseFieldDescriptor (TX7 k).2.2.1 = some (tyX7 k) := by decide +kernel
def TX8 : u_T := fun k => match k with
  | 0 => ("SkippingKeys", "lines", "LSkippingKeys$Lines;", true)
  | 1 => ("SkippingKeys", "keptLines", "LSkippingKeys$Lines;", true)
  | 2 => ("SkippingKeys", "conditions", "LSkippingKeys$Conditions;", true)
  | 3 => ("SkippingKeys", "keptConditions", "LSkippingKeys$Conditions;", true)
  | 4 => ("SkippingKeys", "shelves", "LSkippingKeys$Shelves;", true)
  | 5 => ("SkippingKeys", "tape", "LSkippingKeys$Tape;", true)
  | 6 => ("SkippingKeys", "reader", "LSkippingKeys$Reader;", true)
  | 7 => ("SkippingKeys", "spans", "LSkippingKeys$Spans;", true)
  | 8 => ("SkippingKeys", "ranking", "LSkippingKeys$Ranking;", true)
  | 9 => ("SkippingKeys", "refusals", "[I", true)
  | 10 => ("SkippingKeys", "seen", "[Z", true)
  | _ => ("SkippingKeys", "hasImage", "Z", false)
def tyX8 : Nat → FieldType := fun k => match k with
  | 0 => .object "SkippingKeys$Lines"
  | 1 => .object "SkippingKeys$Lines"
  | 2 => .object "SkippingKeys$Conditions"
  | 3 => .object "SkippingKeys$Conditions"
  | 4 => .object "SkippingKeys$Shelves"
  | 5 => .object "SkippingKeys$Tape"
  | 6 => .object "SkippingKeys$Reader"
  | 7 => .object "SkippingKeys$Spans"
  | 8 => .object "SkippingKeys$Ranking"
  | 9 => .array .int
  | 10 => .array .boolean
  | _ => .boolean
theorem nmX8 : ∀ a, a < 12 → ∀ b, b < 12 → a ≠ b → (TX8 a).2.1 ≠ (TX8 b).2.1 := by decide +kernel
theorem tyX8_ok : ∀ k, k < 12 → parseFieldDescriptor (TX8 k).2.2.1 = some (tyX8 k) := by decide +kernel
def TX9 : u_T := fun k => match k with
  | 0 => ("SkippingKeysModel", "shelf", "[I", true)
  | 1 => ("SkippingKeysModel", "rowSort", "[I", true)
  | 2 => ("SkippingKeysModel", "rowSize", "[I", true)
  | 3 => ("SkippingKeysModel", "rows", "[[J", true)
  | 4 => ("SkippingKeysModel", "moved", "[J", true)
  | 5 => ("SkippingKeysModel", "shown", "[I", true)
  | 6 => ("SkippingKeysModel", "tape", "[I", true)
  | 7 => ("SkippingKeysModel", "tapeSize", "I", false)
  | 8 => ("SkippingKeysModel", "refused", "[I", true)
  | 9 => ("SkippingKeysModel", "lines", "I", false)
  | 10 => ("SkippingKeysModel", "conds", "I", false)
  | 11 => ("SkippingKeysModel", "price", "I", false)
  | 12 => ("SkippingKeysModel", "seed", "I", false)
  | 13 => ("SkippingKeysModel", "cells", "[I", true)
  | 14 => ("SkippingKeysModel", "kind", "[I", true)
  | 15 => ("SkippingKeysModel", "sign", "[I", true)
  | 16 => ("SkippingKeysModel", "said", "[I", true)
  | 17 => ("SkippingKeysModel", "isKept", "Z", false)
  | 18 => ("SkippingKeysModel", "keptLines", "I", false)
  | 19 => ("SkippingKeysModel", "keptConds", "I", false)
  | 20 => ("SkippingKeysModel", "keptPrice", "I", false)
  | 21 => ("SkippingKeysModel", "keptSeed", "I", false)
  | 22 => ("SkippingKeysModel", "keptCells", "[I", true)
  | 23 => ("SkippingKeysModel", "keptKind", "[I", true)
  | 24 => ("SkippingKeysModel", "keptSign", "[I", true)
  | 25 => ("SkippingKeysModel", "keptSaid", "[I", true)
  | 26 => ("SkippingKeysModel", "is", "[B", true)
  | 27 => ("SkippingKeysModel", "columnsIn", "[I", true)
  | 28 => ("SkippingKeysModel", "deep", "[I", true)
  | 29 => ("SkippingKeysModel", "parts", "[I", true)
  | 30 => ("SkippingKeysModel", "firsts", "[I", true)
  | 31 => ("SkippingKeysModel", "lasts", "[I", true)
  | 32 => ("SkippingKeysModel", "spans", "I", false)
  | 33 => ("SkippingKeysModel", "found", "[I", true)
  | 34 => ("SkippingKeysModel", "foundMany", "I", false)
  | 35 => ("SkippingKeysModel", "spot", "I", false)
  | 36 => ("SkippingKeysModel", "fault", "I", false)
  | 37 => ("SkippingKeysModel", "made", "I", false)
  | 38 => ("SkippingKeysModel", "told", "[I", true)
  | 39 => ("SkippingKeysModel", "toldSign", "I", false)
  | _ => ("SkippingKeysModel", "leastCost", "I", false)
def tyX9 : Nat → FieldType := fun k => match k with
  | 0 => .array .int
  | 1 => .array .int
  | 2 => .array .int
  | 3 => .array (.array .long)
  | 4 => .array .long
  | 5 => .array .int
  | 6 => .array .int
  | 7 => .int
  | 8 => .array .int
  | 9 => .int
  | 10 => .int
  | 11 => .int
  | 12 => .int
  | 13 => .array .int
  | 14 => .array .int
  | 15 => .array .int
  | 16 => .array .int
  | 17 => .boolean
  | 18 => .int
  | 19 => .int
  | 20 => .int
  | 21 => .int
  | 22 => .array .int
  | 23 => .array .int
  | 24 => .array .int
  | 25 => .array .int
  | 26 => .array .byte
  | 27 => .array .int
  | 28 => .array .int
  | 29 => .array .int
  | 30 => .array .int
  | 31 => .array .int
  | 32 => .int
  | 33 => .array .int
  | 34 => .int
  | 35 => .int
  | 36 => .int
  | 37 => .int
  | 38 => .array .int
  | 39 => .int
  | _ => .int
theorem nmX9 : ∀ a, a < 41 → ∀ b, b < 41 → a ≠ b → (TX9 a).2.1 ≠ (TX9 b).2.1 := by decide +kernel
theorem tyX9_ok : ∀ k, k < 41 → parseFieldDescriptor (TX9 k).2.2.1 = some (tyX9 k) := by decide +kernel
abbrev vwCl : List vw_C := [(RX0, TX0, 12), (RX1, TX1, 3), (RX2, TX2, 4), (RX3, TX3, 2), (RX4, TX4, 6), (RX5, TX5, 3), (RX6, TX6, 12), (RX7, TX7, 3), (RX8, TX8, 12), (RX9, TX9, 41)]
abbrev cX0_init : ByteArray := prog_2_method_1_code
def yX0_init : MethodName := ⟨RX0, "<init>", "()V"⟩
abbrev cX0_begin : ByteArray := prog_2_method_2_code
def yX0_begin : MethodName := ⟨RX0, "begin", "(IIII)V"⟩
abbrev cX0_addColumn : ByteArray := prog_2_method_3_code
def yX0_addColumn : MethodName := ⟨RX0, "addColumn", "(II)V"⟩
abbrev cX0_columnCount : ByteArray := prog_2_method_4_code
def yX0_columnCount : MethodName := ⟨RX0, "columnCount", "()I"⟩
abbrev cX0_want : ByteArray := prog_2_method_5_code
def yX0_want : MethodName := ⟨RX0, "want", "(II)V"⟩
abbrev cX0_names : ByteArray := prog_2_method_6_code
def yX0_names : MethodName := ⟨RX0, "names", "(I)Z"⟩
abbrev cX0_copyFrom : ByteArray := prog_2_method_7_code
def yX0_copyFrom : MethodName := ⟨RX0, "copyFrom", "(LSkippingKeys$Condition;)V"⟩
abbrev cX0_settleLeaf : ByteArray := prog_2_method_8_code
def yX0_settleLeaf : MethodName := ⟨RX0, "settleLeaf", "(I)V"⟩
abbrev cX0_settleOver : ByteArray := prog_2_method_9_code
def yX0_settleOver : MethodName := ⟨RX0, "settleOver", "(ILSkippingKeys$Condition;LSkippingKeys$Condition;)V"⟩
abbrev cX0_leafTruth : ByteArray := prog_2_method_10_code
def yX0_leafTruth : MethodName := ⟨RX0, "leafTruth", "(I)I"⟩
abbrev cX0_digitOf : ByteArray := prog_2_method_11_code
def yX0_digitOf : MethodName := ⟨RX0, "digitOf", "(II)I"⟩
abbrev cX0_orDoubt : ByteArray := prog_2_method_12_code
def yX0_orDoubt : MethodName := ⟨RX0, "orDoubt", "(IZ)I"⟩
abbrev cX0_orderTruth : ByteArray := prog_2_method_13_code
def yX0_orderTruth : MethodName := ⟨RX0, "orderTruth", "(I)I"⟩
abbrev cX0_equalTruth : ByteArray := prog_2_method_14_code
def yX0_equalTruth : MethodName := ⟨RX0, "equalTruth", "(I)I"⟩
abbrev cX0_joinedTruth : ByteArray := prog_2_method_15_code
def yX0_joinedTruth : MethodName := ⟨RX0, "joinedTruth", "(II)I"⟩
abbrev cX0_opposite : ByteArray := prog_2_method_16_code
def yX0_opposite : MethodName := ⟨RX0, "opposite", "(I)I"⟩
abbrev cX0_isOfSort : ByteArray := prog_2_method_17_code
def yX0_isOfSort : MethodName := ⟨RX0, "isOfSort", "(I)Z"⟩
abbrev cX0_toldAs : ByteArray := prog_2_method_18_code
def yX0_toldAs : MethodName := ⟨RX0, "toldAs", "(I)I"⟩
abbrev cX0_countKeys : ByteArray := prog_2_method_19_code
def yX0_countKeys : MethodName := ⟨RX0, "countKeys", "(I)I"⟩
abbrev cX0_valuesIn : ByteArray := prog_2_method_20_code
def yX0_valuesIn : MethodName := ⟨RX0, "valuesIn", "(I)I"⟩
abbrev cX0_firstUnlike : ByteArray := prog_2_method_21_code
def yX0_firstUnlike : MethodName := ⟨RX0, "firstUnlike", "(LSkippingKeys$Condition;)I"⟩
abbrev cX1_init : ByteArray := prog_3_method_1_code
def yX1_init : MethodName := ⟨RX1, "<init>", "()V"⟩
abbrev cX1_copyFrom : ByteArray := prog_3_method_2_code
def yX1_copyFrom : MethodName := ⟨RX1, "copyFrom", "(LSkippingKeys$Conditions;)V"⟩
abbrev cX1_has : ByteArray := prog_3_method_3_code
def yX1_has : MethodName := ⟨RX1, "has", "(I)Z"⟩
abbrev cX1_at : ByteArray := prog_3_method_4_code
def yX1_at : MethodName := ⟨RX1, "at", "(I)LSkippingKeys$Condition;"⟩
abbrev cX1_draft : ByteArray := prog_3_method_5_code
def yX1_draft : MethodName := ⟨RX1, "draft", "(II)LSkippingKeys$Condition;"⟩
abbrev cX1_draftOver : ByteArray := prog_3_method_6_code
def yX1_draftOver : MethodName := ⟨RX1, "draftOver", "(III)V"⟩
abbrev cX1_lastDraft : ByteArray := prog_3_method_7_code
def yX1_lastDraft : MethodName := ⟨RX1, "lastDraft", "()I"⟩
abbrev cX1_fitsDrafts : ByteArray := prog_3_method_8_code
def yX1_fitsDrafts : MethodName := ⟨RX1, "fitsDrafts", "()Z"⟩
abbrev cX1_forgetDrafts : ByteArray := prog_3_method_9_code
def yX1_forgetDrafts : MethodName := ⟨RX1, "forgetDrafts", "()V"⟩
abbrev cX1_settleDrafts : ByteArray := prog_3_method_10_code
def yX1_settleDrafts : MethodName := ⟨RX1, "settleDrafts", "()V"⟩
abbrev cX2_init : ByteArray := prog_4_method_1_code
def yX2_init : MethodName := ⟨RX2, "<init>", "()V"⟩
abbrev cX2_copyFrom : ByteArray := prog_4_method_2_code
def yX2_copyFrom : MethodName := ⟨RX2, "copyFrom", "(LSkippingKeys$Lines;)V"⟩
abbrev cX2_has : ByteArray := prog_4_method_3_code
def yX2_has : MethodName := ⟨RX2, "has", "(I)Z"⟩
abbrev cX2_valueOf : ByteArray := prog_4_method_4_code
def yX2_valueOf : MethodName := ⟨RX2, "valueOf", "(II)I"⟩
abbrev cX2_put : ByteArray := prog_4_method_5_code
def yX2_put : MethodName := ⟨RX2, "put", "(III)V"⟩
abbrev cX2_putAll : ByteArray := prog_4_method_6_code
def yX2_putAll : MethodName := ⟨RX2, "putAll", "(IIII)V"⟩
abbrev cX2_add : ByteArray := prog_4_method_7_code
def yX2_add : MethodName := ⟨RX2, "add", "(III)V"⟩
abbrev cX2_remove : ByteArray := prog_4_method_8_code
def yX2_remove : MethodName := ⟨RX2, "remove", "(I)V"⟩
abbrev cX2_keyIn : ByteArray := prog_4_method_9_code
def yX2_keyIn : MethodName := ⟨RX2, "keyIn", "(II)I"⟩
abbrev cX2_truthOf : ByteArray := prog_4_method_10_code
def yX2_truthOf : MethodName := ⟨RX2, "truthOf", "(LSkippingKeys$Condition;I)I"⟩
abbrev cX2_countOf : ByteArray := prog_4_method_11_code
def yX2_countOf : MethodName := ⟨RX2, "countOf", "(LSkippingKeys$Condition;I)I"⟩
abbrev cX2_countValue : ByteArray := prog_4_method_12_code
def yX2_countValue : MethodName := ⟨RX2, "countValue", "(II)I"⟩
abbrev cX2_liveDay : ByteArray := prog_4_method_13_code
def yX2_liveDay : MethodName := ⟨RX2, "liveDay", "()V"⟩
abbrev cX2_draw : ByteArray := prog_4_method_14_code
def yX2_draw : MethodName := ⟨RX2, "draw", "(I)I"⟩
abbrev cX3_init : ByteArray := prog_5_method_1_code
def yX3_init : MethodName := ⟨RX3, "<init>", "()V"⟩
abbrev cX3_codeOf : ByteArray := prog_5_method_2_code
def yX3_codeOf : MethodName := ⟨RX3, "codeOf", "(III)I"⟩
abbrev cX3_rank : ByteArray := prog_5_method_3_code
def yX3_rank : MethodName := ⟨RX3, "rank", "(LSkippingKeys$Lines;LSkippingKeys$Condition;II)V"⟩
abbrev cX3_insert : ByteArray := prog_5_method_4_code
def yX3_insert : MethodName := ⟨RX3, "insert", "(I)V"⟩
abbrev cX3_lineAt : ByteArray := prog_5_method_5_code
def yX3_lineAt : MethodName := ⟨RX3, "lineAt", "(I)I"⟩
abbrev cX3_firstBehind : ByteArray := prog_5_method_6_code
def yX3_firstBehind : MethodName := ⟨RX3, "firstBehind", "(I)I"⟩
abbrev cX4_init : ByteArray := prog_6_method_1_code
def yX4_init : MethodName := ⟨RX4, "<init>", "()V"⟩
abbrev cX4_readTable : ByteArray := prog_6_method_2_code
def yX4_readTable : MethodName := ⟨RX4, "readTable", "(LSkippingKeys$Tape;)Z"⟩
abbrev cX4_readLine : ByteArray := prog_6_method_3_code
def yX4_readLine : MethodName := ⟨RX4, "readLine", "(LSkippingKeys$Tape;)Z"⟩
abbrev cX4_lineCount : ByteArray := prog_6_method_4_code
def yX4_lineCount : MethodName := ⟨RX4, "lineCount", "()I"⟩
abbrev cX4_valueRead : ByteArray := prog_6_method_5_code
def yX4_valueRead : MethodName := ⟨RX4, "valueRead", "(II)I"⟩
abbrev cX4_readCondition : ByteArray := prog_6_method_6_code
def yX4_readCondition : MethodName := ⟨RX4, "readCondition", "(LSkippingKeys$Tape;LSkippingKeys$Conditions;)Z"⟩
abbrev cX4_isTurnSign : ByteArray := prog_6_method_7_code
def yX4_isTurnSign : MethodName := ⟨RX4, "isTurnSign", "(I)Z"⟩
abbrev cX4_isClosed : ByteArray := prog_6_method_8_code
def yX4_isClosed : MethodName := ⟨RX4, "isClosed", "(LSkippingKeys$Conditions;)Z"⟩
abbrev cX4_readBehindTurn : ByteArray := prog_6_method_9_code
def yX4_readBehindTurn : MethodName := ⟨RX4, "readBehindTurn", "(LSkippingKeys$Tape;LSkippingKeys$Conditions;I)Z"⟩
abbrev cX4_turnIsWhole : ByteArray := prog_6_method_10_code
def yX4_turnIsWhole : MethodName := ⟨RX4, "turnIsWhole", "(LSkippingKeys$Conditions;I)V"⟩
abbrev cX4_closeOr : ByteArray := prog_6_method_11_code
def yX4_closeOr : MethodName := ⟨RX4, "closeOr", "(LSkippingKeys$Conditions;)V"⟩
abbrev cX4_pushOpen : ByteArray := prog_6_method_12_code
def yX4_pushOpen : MethodName := ⟨RX4, "pushOpen", "(I)V"⟩
abbrev cX4_topOpen : ByteArray := prog_6_method_13_code
def yX4_topOpen : MethodName := ⟨RX4, "topOpen", "()I"⟩
abbrev cX4_popOpen : ByteArray := prog_6_method_14_code
def yX4_popOpen : MethodName := ⟨RX4, "popOpen", "()V"⟩
abbrev cX4_pushWhole : ByteArray := prog_6_method_15_code
def yX4_pushWhole : MethodName := ⟨RX4, "pushWhole", "(I)V"⟩
abbrev cX4_popWhole : ByteArray := prog_6_method_16_code
def yX4_popWhole : MethodName := ⟨RX4, "popWhole", "()I"⟩
abbrev cX4_readLeaf : ByteArray := prog_6_method_17_code
def yX4_readLeaf : MethodName := ⟨RX4, "readLeaf", "(LSkippingKeys$Tape;LSkippingKeys$Condition;)Z"⟩
abbrev cX4_readCompared : ByteArray := prog_6_method_18_code
def yX4_readCompared : MethodName := ⟨RX4, "readCompared", "(LSkippingKeys$Tape;LSkippingKeys$Condition;)Z"⟩
abbrev cX4_readAmong : ByteArray := prog_6_method_19_code
def yX4_readAmong : MethodName := ⟨RX4, "readAmong", "(LSkippingKeys$Tape;LSkippingKeys$Condition;)Z"⟩
abbrev cX4_readRest : ByteArray := prog_6_method_20_code
def yX4_readRest : MethodName := ⟨RX4, "readRest", "(LSkippingKeys$Tape;LSkippingKeys$Condition;)Z"⟩
abbrev cX4_readSeveral : ByteArray := prog_6_method_21_code
def yX4_readSeveral : MethodName := ⟨RX4, "readSeveral", "(LSkippingKeys$Tape;LSkippingKeys$Condition;)Z"⟩
abbrev cX5_init : ByteArray := prog_7_method_1_code
def yX5_init : MethodName := ⟨RX5, "<init>", "()V"⟩
abbrev cX5_isShelf : ByteArray := prog_7_method_2_code
def yX5_isShelf : MethodName := ⟨RX5, "isShelf", "(I)Z"⟩
abbrev cX5_heldBy : ByteArray := prog_7_method_3_code
def yX5_heldBy : MethodName := ⟨RX5, "heldBy", "(I)I"⟩
abbrev cX5_empty : ByteArray := prog_7_method_4_code
def yX5_empty : MethodName := ⟨RX5, "empty", "(I)V"⟩
abbrev cX5_holdCondition : ByteArray := prog_7_method_5_code
def yX5_holdCondition : MethodName := ⟨RX5, "holdCondition", "(II)V"⟩
abbrev cX5_conditionIn : ByteArray := prog_7_method_6_code
def yX5_conditionIn : MethodName := ⟨RX5, "conditionIn", "(I)I"⟩
abbrev cX5_layRow : ByteArray := prog_7_method_7_code
def yX5_layRow : MethodName := ⟨RX5, "layRow", "(III)V"⟩
abbrev cX5_whyNoRow : ByteArray := prog_7_method_8_code
def yX5_whyNoRow : MethodName := ⟨RX5, "whyNoRow", "(I)I"⟩
abbrev cX5_whyNoRowOf : ByteArray := prog_7_method_9_code
def yX5_whyNoRowOf : MethodName := ⟨RX5, "whyNoRowOf", "(II)I"⟩
abbrev cX5_whyNoTwoRows : ByteArray := prog_7_method_10_code
def yX5_whyNoTwoRows : MethodName := ⟨RX5, "whyNoTwoRows", "(II)I"⟩
abbrev cX5_hasElement : ByteArray := prog_7_method_11_code
def yX5_hasElement : MethodName := ⟨RX5, "hasElement", "(II)Z"⟩
abbrev cX5_hasPart : ByteArray := prog_7_method_12_code
def yX5_hasPart : MethodName := ⟨RX5, "hasPart", "(III)Z"⟩
abbrev cX5_elementAt : ByteArray := prog_7_method_13_code
def yX5_elementAt : MethodName := ⟨RX5, "elementAt", "(II)J"⟩
abbrev cX5_put : ByteArray := prog_7_method_14_code
def yX5_put : MethodName := ⟨RX5, "put", "(IIJ)V"⟩
abbrev cX5_carry : ByteArray := prog_7_method_15_code
def yX5_carry : MethodName := ⟨RX5, "carry", "(IIIII)V"⟩
abbrev cX5_kept : ByteArray := prog_7_method_16_code
def yX5_kept : MethodName := ⟨RX5, "kept", "(IJ)J"⟩
abbrev cX5_forgetConditionsFrom : ByteArray := prog_7_method_17_code
def yX5_forgetConditionsFrom : MethodName := ⟨RX5, "forgetConditionsFrom", "(I)V"⟩
abbrev cX5_countHolding : ByteArray := prog_7_method_18_code
def yX5_countHolding : MethodName := ⟨RX5, "countHolding", "()I"⟩
abbrev cX6_init : ByteArray := prog_8_method_1_code
def yX6_init : MethodName := ⟨RX6, "<init>", "()V"⟩
abbrev cX6_layOut : ByteArray := prog_8_method_2_code
def yX6_layOut : MethodName := ⟨RX6, "layOut", "(LSkippingKeys$Condition;I)V"⟩
abbrev cX6_runTold : ByteArray := prog_8_method_3_code
def yX6_runTold : MethodName := ⟨RX6, "runTold", "(I)I"⟩
abbrev cX6_planSize : ByteArray := prog_8_method_4_code
def yX6_planSize : MethodName := ⟨RX6, "planSize", "(I)I"⟩
abbrev cX6_widthOf : ByteArray := prog_8_method_5_code
def yX6_widthOf : MethodName := ⟨RX6, "widthOf", "(I)I"⟩
abbrev cX6_orderGaps : ByteArray := prog_8_method_6_code
def yX6_orderGaps : MethodName := ⟨RX6, "orderGaps", "()V"⟩
abbrev cX6_joinDownTo : ByteArray := prog_8_method_7_code
def yX6_joinDownTo : MethodName := ⟨RX6, "joinDownTo", "(I)V"⟩
abbrev cX6_spanTold : ByteArray := prog_8_method_8_code
def yX6_spanTold : MethodName := ⟨RX6, "spanTold", "(I)I"⟩
abbrev cX6_gapAt : ByteArray := prog_8_method_9_code
def yX6_gapAt : MethodName := ⟨RX6, "gapAt", "(I)I"⟩
abbrev cX6_planHas : ByteArray := prog_8_method_10_code
def yX6_planHas : MethodName := ⟨RX6, "planHas", "(I)Z"⟩
abbrev cX6_countKeysBetween : ByteArray := prog_8_method_11_code
def yX6_countKeysBetween : MethodName := ⟨RX6, "countKeysBetween", "()I"⟩
abbrev cX6_countRead : ByteArray := prog_8_method_12_code
def yX6_countRead : MethodName := ⟨RX6, "countRead", "(LSkippingKeys$Lines;I)I"⟩
abbrev cX6_findBest : ByteArray := prog_8_method_13_code
def yX6_findBest : MethodName := ⟨RX6, "findBest", "(LSkippingKeys$Lines;I)V"⟩
abbrev cX6_countLinesByGap : ByteArray := prog_8_method_14_code
def yX6_countLinesByGap : MethodName := ⟨RX6, "countLinesByGap", "(LSkippingKeys$Lines;I)I"⟩
abbrev cX7_init : ByteArray := prog_9_method_1_code
def yX7_init : MethodName := ⟨RX7, "<init>", "()V"⟩
abbrev cX7_append : ByteArray := prog_9_method_2_code
def yX7_append : MethodName := ⟨RX7, "append", "(I)V"⟩
abbrev cX7_wipeAll : ByteArray := prog_9_method_3_code
def yX7_wipeAll : MethodName := ⟨RX7, "wipeAll", "()V"⟩
abbrev cX7_rewind : ByteArray := prog_9_method_4_code
def yX7_rewind : MethodName := ⟨RX7, "rewind", "()V"⟩
abbrev cX7_ahead : ByteArray := prog_9_method_5_code
def yX7_ahead : MethodName := ⟨RX7, "ahead", "()I"⟩
abbrev cX7_take : ByteArray := prog_9_method_6_code
def yX7_take : MethodName := ⟨RX7, "take", "()V"⟩
abbrev cX7_columnAhead : ByteArray := prog_9_method_7_code
def yX7_columnAhead : MethodName := ⟨RX7, "columnAhead", "()I"⟩
abbrev cX7_signAhead : ByteArray := prog_9_method_8_code
def yX7_signAhead : MethodName := ⟨RX7, "signAhead", "()I"⟩
abbrev cX7_digitAhead : ByteArray := prog_9_method_9_code
def yX7_digitAhead : MethodName := ⟨RX7, "digitAhead", "(II)I"⟩
abbrev cX8_init : ByteArray := prog_1_method_1_code
def yX8_init : MethodName := ⟨RX8, "<init>", "()V"⟩
abbrev cX8_row : ByteArray := prog_1_method_2_code
def yX8_row : MethodName := ⟨RX8, "row", "(III)I"⟩
abbrev cX8_set : ByteArray := prog_1_method_3_code
def yX8_set : MethodName := ⟨RX8, "set", "(IIJ)I"⟩
abbrev cX8_copy : ByteArray := prog_1_method_4_code
def yX8_copy : MethodName := ⟨RX8, "copy", "(IIIII)I"⟩
abbrev cX8_element : ByteArray := prog_1_method_5_code
def yX8_element : MethodName := ⟨RX8, "element", "(II)J"⟩
abbrev cX8_holds : ByteArray := prog_1_method_6_code
def yX8_holds : MethodName := ⟨RX8, "holds", "(I)I"⟩
abbrev cX8_show : ByteArray := prog_1_method_7_code
def yX8_show : MethodName := ⟨RX8, "show", "(II)I"⟩
abbrev cX8_says : ByteArray := prog_1_method_8_code
def yX8_says : MethodName := ⟨RX8, "says", "(II)I"⟩
abbrev cX8_line : ByteArray := prog_1_method_9_code
def yX8_line : MethodName := ⟨RX8, "line", "(III)I"⟩
abbrev cX8_alter : ByteArray := prog_1_method_10_code
def yX8_alter : MethodName := ⟨RX8, "alter", "(III)I"⟩
abbrev cX8_strike : ByteArray := prog_1_method_11_code
def yX8_strike : MethodName := ⟨RX8, "strike", "(I)I"⟩
abbrev cX8_price : ByteArray := prog_1_method_12_code
def yX8_price : MethodName := ⟨RX8, "price", "(I)I"⟩
abbrev cX8_feed : ByteArray := prog_1_method_13_code
def yX8_feed : MethodName := ⟨RX8, "feed", "(I)I"⟩
abbrev cX8_wipe : ByteArray := prog_1_method_14_code
def yX8_wipe : MethodName := ⟨RX8, "wipe", "()I"⟩
abbrev cX8_table : ByteArray := prog_1_method_15_code
def yX8_table : MethodName := ⟨RX8, "table", "()I"⟩
abbrev cX8_cond : ByteArray := prog_1_method_16_code
def yX8_cond : MethodName := ⟨RX8, "cond", "()I"⟩
abbrev cX8_test : ByteArray := prog_1_method_17_code
def yX8_test : MethodName := ⟨RX8, "test", "(III)I"⟩
abbrev cX8_among : ByteArray := prog_1_method_18_code
def yX8_among : MethodName := ⟨RX8, "among", "(II)I"⟩
abbrev cX8_gone : ByteArray := prog_1_method_19_code
def yX8_gone : MethodName := ⟨RX8, "gone", "(I)I"⟩
abbrev cX8_columns : ByteArray := prog_1_method_20_code
def yX8_columns : MethodName := ⟨RX8, "columns", "(III)I"⟩
abbrev cX8_rest : ByteArray := prog_1_method_21_code
def yX8_rest : MethodName := ⟨RX8, "rest", "(III)I"⟩
abbrev cX8_several : ByteArray := prog_1_method_22_code
def yX8_several : MethodName := ⟨RX8, "several", "(III)I"⟩
abbrev cX8_pair : ByteArray := prog_1_method_23_code
def yX8_pair : MethodName := ⟨RX8, "pair", "(III)I"⟩
abbrev cX8_turn : ByteArray := prog_1_method_24_code
def yX8_turn : MethodName := ⟨RX8, "turn", "(II)I"⟩
abbrev cX8_drop : ByteArray := prog_1_method_25_code
def yX8_drop : MethodName := ⟨RX8, "drop", "()I"⟩
abbrev cX8_condOf : ByteArray := prog_1_method_26_code
def yX8_condOf : MethodName := ⟨RX8, "condOf", "(II)I"⟩
abbrev cX8_lineOf : ByteArray := prog_1_method_27_code
def yX8_lineOf : MethodName := ⟨RX8, "lineOf", "(II)I"⟩
abbrev cX8_keyOf : ByteArray := prog_1_method_28_code
def yX8_keyOf : MethodName := ⟨RX8, "keyOf", "(II)I"⟩
abbrev cX8_truth : ByteArray := prog_1_method_29_code
def yX8_truth : MethodName := ⟨RX8, "truth", "(III)I"⟩
abbrev cX8_keys : ByteArray := prog_1_method_30_code
def yX8_keys : MethodName := ⟨RX8, "keys", "(II)I"⟩
abbrev cX8_lines : ByteArray := prog_1_method_31_code
def yX8_lines : MethodName := ⟨RX8, "lines", "(II)I"⟩
abbrev cX8_values : ByteArray := prog_1_method_32_code
def yX8_values : MethodName := ⟨RX8, "values", "(II)I"⟩
abbrev cX8_runs : ByteArray := prog_1_method_33_code
def yX8_runs : MethodName := ⟨RX8, "runs", "(II)I"⟩
abbrev cX8_run : ByteArray := prog_1_method_34_code
def yX8_run : MethodName := ⟨RX8, "run", "(III)I"⟩
abbrev cX8_plan : ByteArray := prog_1_method_35_code
def yX8_plan : MethodName := ⟨RX8, "plan", "(IIII)I"⟩
abbrev cX8_of : ByteArray := prog_1_method_36_code
def yX8_of : MethodName := ⟨RX8, "of", "(IIII)I"⟩
abbrev cX8_best : ByteArray := prog_1_method_37_code
def yX8_best : MethodName := ⟨RX8, "best", "(III)I"⟩
abbrev cX8_bestIndex : ByteArray := prog_1_method_38_code
def yX8_bestIndex : MethodName := ⟨RX8, "bestIndex", "(II)I"⟩
abbrev cX8_seek : ByteArray := prog_1_method_39_code
def yX8_seek : MethodName := ⟨RX8, "seek", "(IIII)I"⟩
abbrev cX8_leaders : ByteArray := prog_1_method_40_code
def yX8_leaders : MethodName := ⟨RX8, "leaders", "(IIII)I"⟩
abbrev cX8_found : ByteArray := prog_1_method_41_code
def yX8_found : MethodName := ⟨RX8, "found", "(III)I"⟩
abbrev cX8_order : ByteArray := prog_1_method_42_code
def yX8_order : MethodName := ⟨RX8, "order", "(IIII)I"⟩
abbrev cX8_behind : ByteArray := prog_1_method_43_code
def yX8_behind : MethodName := ⟨RX8, "behind", "(III)I"⟩
abbrev cX8_implies : ByteArray := prog_1_method_44_code
def yX8_implies : MethodName := ⟨RX8, "implies", "(II)I"⟩
abbrev cX8_alike : ByteArray := prog_1_method_45_code
def yX8_alike : MethodName := ⟨RX8, "alike", "(II)I"⟩
abbrev cX8_same : ByteArray := prog_1_method_46_code
def yX8_same : MethodName := ⟨RX8, "same", "(I)I"⟩
abbrev cX8_signs : ByteArray := prog_1_method_47_code
def yX8_signs : MethodName := ⟨RX8, "signs", "(IIII)I"⟩
abbrev cX8_judge : ByteArray := prog_1_method_48_code
def yX8_judge : MethodName := ⟨RX8, "judge", "(IIII)I"⟩
abbrev cX8_many : ByteArray := prog_1_method_49_code
def yX8_many : MethodName := ⟨RX8, "many", "(II)I"⟩
abbrev cX8_whatIf : ByteArray := prog_1_method_50_code
def yX8_whatIf : MethodName := ⟨RX8, "whatIf", "(IIII)I"⟩
abbrev cX8_days : ByteArray := prog_1_method_51_code
def yX8_days : MethodName := ⟨RX8, "days", "(I)I"⟩
abbrev cX8_seed : ByteArray := prog_1_method_52_code
def yX8_seed : MethodName := ⟨RX8, "seed", "(I)I"⟩
abbrev cX8_image : ByteArray := prog_1_method_53_code
def yX8_image : MethodName := ⟨RX8, "image", "()I"⟩
abbrev cX8_back : ByteArray := prog_1_method_54_code
def yX8_back : MethodName := ⟨RX8, "back", "()I"⟩
abbrev cX8_status : ByteArray := prog_1_method_55_code
def yX8_status : MethodName := ⟨RX8, "status", "(I)I"⟩
abbrev cX8_refuse : ByteArray := prog_1_method_56_code
def yX8_refuse : MethodName := ⟨RX8, "refuse", "(I)I"⟩
abbrev cX8_settled : ByteArray := prog_1_method_57_code
def yX8_settled : MethodName := ⟨RX8, "settled", "()I"⟩
abbrev cX8_isCondAndIndex : ByteArray := prog_1_method_58_code
def yX8_isCondAndIndex : MethodName := ⟨RX8, "isCondAndIndex", "(II)Z"⟩
abbrev cX8_tellsSeveral : ByteArray := prog_1_method_59_code
def yX8_tellsSeveral : MethodName := ⟨RX8, "tellsSeveral", "(II)Z"⟩
abbrev cX8_tellsLines : ByteArray := prog_1_method_60_code
def yX8_tellsLines : MethodName := ⟨RX8, "tellsLines", "(II)Z"⟩
abbrev cX8_fitsTold : ByteArray := prog_1_method_61_code
def yX8_fitsTold : MethodName := ⟨RX8, "fitsTold", "(IIIII)Z"⟩
abbrev cX8_stillToTest : ByteArray := prog_1_method_62_code
def yX8_stillToTest : MethodName := ⟨RX8, "stillToTest", "(II)I"⟩
abbrev cX8_isTrueInPlan : ByteArray := prog_1_method_63_code
def yX8_isTrueInPlan : MethodName := ⟨RX8, "isTrueInPlan", "(LSkippingKeys$Condition;I)Z"⟩
abbrev cX8_seekUp : ByteArray := prog_1_method_64_code
def yX8_seekUp : MethodName := ⟨RX8, "seekUp", "(LSkippingKeys$Condition;II)I"⟩
abbrev cX8_seekDown : ByteArray := prog_1_method_65_code
def yX8_seekDown : MethodName := ⟨RX8, "seekDown", "(LSkippingKeys$Condition;II)I"⟩
abbrev cX8_countDifferentKeys : ByteArray := prog_1_method_66_code
def yX8_countDifferentKeys : MethodName := ⟨RX8, "countDifferentKeys", "()I"⟩
abbrev cX8_clearSeen : ByteArray := prog_1_method_67_code
def yX8_clearSeen : MethodName := ⟨RX8, "clearSeen", "()V"⟩
abbrev cX8_countSeen : ByteArray := prog_1_method_68_code
def yX8_countSeen : MethodName := ⟨RX8, "countSeen", "()I"⟩
abbrev cX8_isWithin : ByteArray := prog_1_method_69_code
def yX8_isWithin : MethodName := ⟨RX8, "isWithin", "(III)Z"⟩
abbrev cX8_isColumn : ByteArray := prog_1_method_70_code
def yX8_isColumn : MethodName := ⟨RX8, "isColumn", "(I)Z"⟩
abbrev cX8_isIndex : ByteArray := prog_1_method_71_code
def yX8_isIndex : MethodName := ⟨RX8, "isIndex", "(I)Z"⟩
abbrev cX8_isSign : ByteArray := prog_1_method_72_code
def yX8_isSign : MethodName := ⟨RX8, "isSign", "(I)Z"⟩
abbrev cX8_isTruth : ByteArray := prog_1_method_73_code
def yX8_isTruth : MethodName := ⟨RX8, "isTruth", "(I)Z"⟩
abbrev cX8_isDigit : ByteArray := prog_1_method_74_code
def yX8_isDigit : MethodName := ⟨RX8, "isDigit", "(I)Z"⟩
abbrev cX8_isValue : ByteArray := prog_1_method_75_code
def yX8_isValue : MethodName := ⟨RX8, "isValue", "(I)Z"⟩
abbrev cX8_placeOf : ByteArray := prog_1_method_76_code
def yX8_placeOf : MethodName := ⟨RX8, "placeOf", "(II)I"⟩
abbrev cX8_compared : ByteArray := prog_1_method_77_code
def yX8_compared : MethodName := ⟨RX8, "compared", "(III)I"⟩
abbrev cX9_init : ByteArray := prog_11_method_1_code
def yX9_init : MethodName := ⟨RX9, "<init>", "()V"⟩
abbrev cX9_refuse : ByteArray := prog_11_method_2_code
def yX9_refuse : MethodName := ⟨RX9, "refuse", "(I)I"⟩
abbrev cX9_in : ByteArray := prog_11_method_3_code
def yX9_in : MethodName := ⟨RX9, "in", "(JJJ)Z"⟩
abbrev cX9_isCond : ByteArray := prog_11_method_4_code
def yX9_isCond : MethodName := ⟨RX9, "isCond", "(I)Z"⟩
abbrev cX9_isLine : ByteArray := prog_11_method_5_code
def yX9_isLine : MethodName := ⟨RX9, "isLine", "(I)Z"⟩
abbrev cX9_bits : ByteArray := prog_11_method_6_code
def yX9_bits : MethodName := ⟨RX9, "bits", "(I)I"⟩
abbrev cX9_row : ByteArray := prog_11_method_7_code
def yX9_row : MethodName := ⟨RX9, "row", "(III)I"⟩
abbrev cX9_fit : ByteArray := prog_11_method_8_code
def yX9_fit : MethodName := ⟨RX9, "fit", "(IJ)J"⟩
abbrev cX9_noRow : ByteArray := prog_11_method_9_code
def yX9_noRow : MethodName := ⟨RX9, "noRow", "(I)I"⟩
abbrev cX9_set : ByteArray := prog_11_method_10_code
def yX9_set : MethodName := ⟨RX9, "set", "(IIJ)I"⟩
abbrev cX9_copy : ByteArray := prog_11_method_11_code
def yX9_copy : MethodName := ⟨RX9, "copy", "(IIIII)I"⟩
abbrev cX9_element : ByteArray := prog_11_method_12_code
def yX9_element : MethodName := ⟨RX9, "element", "(II)J"⟩
abbrev cX9_holds : ByteArray := prog_11_method_13_code
def yX9_holds : MethodName := ⟨RX9, "holds", "(I)I"⟩
abbrev cX9_show : ByteArray := prog_11_method_14_code
def yX9_show : MethodName := ⟨RX9, "show", "(II)I"⟩
abbrev cX9_isOf : ByteArray := prog_11_method_15_code
def yX9_isOf : MethodName := ⟨RX9, "isOf", "(II)Z"⟩
abbrev cX9_says : ByteArray := prog_11_method_16_code
def yX9_says : MethodName := ⟨RX9, "says", "(II)I"⟩
abbrev cX9_columnAt : ByteArray := prog_11_method_17_code
def yX9_columnAt : MethodName := ⟨RX9, "columnAt", "(II)I"⟩
abbrev cX9_digit : ByteArray := prog_11_method_18_code
def yX9_digit : MethodName := ⟨RX9, "digit", "(II)I"⟩
abbrev cX9_weight : ByteArray := prog_11_method_19_code
def yX9_weight : MethodName := ⟨RX9, "weight", "(I)I"⟩
abbrev cX9_plain : ByteArray := prog_11_method_20_code
def yX9_plain : MethodName := ⟨RX9, "plain", "(II)I"⟩
abbrev cX9_keyIn : ByteArray := prog_11_method_21_code
def yX9_keyIn : MethodName := ⟨RX9, "keyIn", "(II)I"⟩
abbrev cX9_isAt : ByteArray := prog_11_method_22_code
def yX9_isAt : MethodName := ⟨RX9, "isAt", "(II)I"⟩
abbrev cX9_isFor : ByteArray := prog_11_method_23_code
def yX9_isFor : MethodName := ⟨RX9, "isFor", "(II)I"⟩
abbrev cX9_holds_ : ByteArray := prog_11_method_24_code
def yX9_holds_ : MethodName := ⟨RX9, "holds", "(III)I"⟩
abbrev cX9_severalFor : ByteArray := prog_11_method_25_code
def yX9_severalFor : MethodName := ⟨RX9, "severalFor", "(II)I"⟩
abbrev cX9_leafFor : ByteArray := prog_11_method_26_code
def yX9_leafFor : MethodName := ⟨RX9, "leafFor", "(II)I"⟩
abbrev cX9_worked : ByteArray := prog_11_method_27_code
def yX9_worked : MethodName := ⟨RX9, "worked", "(II)I"⟩
abbrev cX9_leafIn : ByteArray := prog_11_method_28_code
def yX9_leafIn : MethodName := ⟨RX9, "leafIn", "(I)V"⟩
abbrev cX9_overIn : ByteArray := prog_11_method_29_code
def yX9_overIn : MethodName := ⟨RX9, "overIn", "(I)V"⟩
abbrev cX9_workFrom : ByteArray := prog_11_method_30_code
def yX9_workFrom : MethodName := ⟨RX9, "workFrom", "(I)V"⟩
abbrev cX9_put : ByteArray := prog_11_method_31_code
def yX9_put : MethodName := ⟨RX9, "put", "(IIII)V"⟩
abbrev cX9_line : ByteArray := prog_11_method_32_code
def yX9_line : MethodName := ⟨RX9, "line", "(III)I"⟩
abbrev cX9_alter : ByteArray := prog_11_method_33_code
def yX9_alter : MethodName := ⟨RX9, "alter", "(III)I"⟩
abbrev cX9_strikeOut : ByteArray := prog_11_method_34_code
def yX9_strikeOut : MethodName := ⟨RX9, "strikeOut", "(I)V"⟩
abbrev cX9_strike : ByteArray := prog_11_method_35_code
def yX9_strike : MethodName := ⟨RX9, "strike", "(I)I"⟩
abbrev cX9_price : ByteArray := prog_11_method_36_code
def yX9_price : MethodName := ⟨RX9, "price", "(I)I"⟩
abbrev cX9_feed : ByteArray := prog_11_method_37_code
def yX9_feed : MethodName := ⟨RX9, "feed", "(I)I"⟩
abbrev cX9_wipe : ByteArray := prog_11_method_38_code
def yX9_wipe : MethodName := ⟨RX9, "wipe", "()I"⟩
abbrev cX9_isCell : ByteArray := prog_11_method_39_code
def yX9_isCell : MethodName := ⟨RX9, "isCell", "(I)Z"⟩
abbrev cX9_tableFault : ByteArray := prog_11_method_40_code
def yX9_tableFault : MethodName := ⟨RX9, "tableFault", "()I"⟩
abbrev cX9_table : ByteArray := prog_11_method_41_code
def yX9_table : MethodName := ⟨RX9, "table", "()I"⟩
abbrev cX9_clearTold : ByteArray := prog_11_method_42_code
def yX9_clearTold : MethodName := ⟨RX9, "clearTold", "()V"⟩
abbrev cX9_make : ByteArray := prog_11_method_43_code
def yX9_make : MethodName := ⟨RX9, "make", "(I)I"⟩
abbrev cX9_makeOver : ByteArray := prog_11_method_44_code
def yX9_makeOver : MethodName := ⟨RX9, "makeOver", "(III)I"⟩
abbrev cX9_here : ByteArray := prog_11_method_45_code
def yX9_here : MethodName := ⟨RX9, "here", "()I"⟩
abbrev cX9_sees : ByteArray := prog_11_method_46_code
def yX9_sees : MethodName := ⟨RX9, "sees", "(I)Z"⟩
abbrev cX9_wrong : ByteArray := prog_11_method_47_code
def yX9_wrong : MethodName := ⟨RX9, "wrong", "()I"⟩
abbrev cX9_must : ByteArray := prog_11_method_48_code
def yX9_must : MethodName := ⟨RX9, "must", "(I)V"⟩
abbrev cX9_signOf : ByteArray := prog_11_method_49_code
def yX9_signOf : MethodName := ⟨RX9, "signOf", "(I)I"⟩
abbrev cX9_number : ByteArray := prog_11_method_50_code
def yX9_number : MethodName := ⟨RX9, "number", "(II)I"⟩
abbrev cX9_signHere : ByteArray := prog_11_method_51_code
def yX9_signHere : MethodName := ⟨RX9, "signHere", "()V"⟩
abbrev cX9_severalHere : ByteArray := prog_11_method_52_code
def yX9_severalHere : MethodName := ⟨RX9, "severalHere", "(I)I"⟩
abbrev cX9_amongHere : ByteArray := prog_11_method_53_code
def yX9_amongHere : MethodName := ⟨RX9, "amongHere", "(I)I"⟩
abbrev cX9_columnHere : ByteArray := prog_11_method_54_code
def yX9_columnHere : MethodName := ⟨RX9, "columnHere", "(I)I"⟩
abbrev cX9_turnHere : ByteArray := prog_11_method_55_code
def yX9_turnHere : MethodName := ⟨RX9, "turnHere", "()I"⟩
abbrev cX9_eachHere : ByteArray := prog_11_method_56_code
def yX9_eachHere : MethodName := ⟨RX9, "eachHere", "()I"⟩
abbrev cX9_condHere : ByteArray := prog_11_method_57_code
def yX9_condHere : MethodName := ⟨RX9, "condHere", "()I"⟩
abbrev cX9_cond : ByteArray := prog_11_method_58_code
def yX9_cond : MethodName := ⟨RX9, "cond", "()I"⟩
abbrev cX9_added : ByteArray := prog_11_method_59_code
def yX9_added : MethodName := ⟨RX9, "added", "()I"⟩
abbrev cX9_add : ByteArray := prog_11_method_60_code
def yX9_add : MethodName := ⟨RX9, "add", "(I)I"⟩
abbrev cX9_tell : ByteArray := prog_11_method_61_code
def yX9_tell : MethodName := ⟨RX9, "tell", "(IIIII)I"⟩
abbrev cX9_isColumn : ByteArray := prog_11_method_62_code
def yX9_isColumn : MethodName := ⟨RX9, "isColumn", "(I)Z"⟩
abbrev cX9_test : ByteArray := prog_11_method_63_code
def yX9_test : MethodName := ⟨RX9, "test", "(III)I"⟩
abbrev cX9_among : ByteArray := prog_11_method_64_code
def yX9_among : MethodName := ⟨RX9, "among", "(II)I"⟩
abbrev cX9_gone : ByteArray := prog_11_method_65_code
def yX9_gone : MethodName := ⟨RX9, "gone", "(I)I"⟩
abbrev cX9_columns : ByteArray := prog_11_method_66_code
def yX9_columns : MethodName := ⟨RX9, "columns", "(III)I"⟩
abbrev cX9_rest : ByteArray := prog_11_method_67_code
def yX9_rest : MethodName := ⟨RX9, "rest", "(III)I"⟩
abbrev cX9_noRowOf : ByteArray := prog_11_method_68_code
def yX9_noRowOf : MethodName := ⟨RX9, "noRowOf", "(II)I"⟩
abbrev cX9_several : ByteArray := prog_11_method_69_code
def yX9_several : MethodName := ⟨RX9, "several", "(III)I"⟩
abbrev cX9_pair : ByteArray := prog_11_method_70_code
def yX9_pair : MethodName := ⟨RX9, "pair", "(III)I"⟩
abbrev cX9_turn : ByteArray := prog_11_method_71_code
def yX9_turn : MethodName := ⟨RX9, "turn", "(II)I"⟩
abbrev cX9_drop : ByteArray := prog_11_method_72_code
def yX9_drop : MethodName := ⟨RX9, "drop", "()I"⟩
abbrev cX9_condOf : ByteArray := prog_11_method_73_code
def yX9_condOf : MethodName := ⟨RX9, "condOf", "(II)I"⟩
abbrev cX9_lineOf : ByteArray := prog_11_method_74_code
def yX9_lineOf : MethodName := ⟨RX9, "lineOf", "(II)I"⟩
abbrev cX9_isIndex : ByteArray := prog_11_method_75_code
def yX9_isIndex : MethodName := ⟨RX9, "isIndex", "(I)Z"⟩
abbrev cX9_keyOf : ByteArray := prog_11_method_76_code
def yX9_keyOf : MethodName := ⟨RX9, "keyOf", "(II)I"⟩
abbrev cX9_truth : ByteArray := prog_11_method_77_code
def yX9_truth : MethodName := ⟨RX9, "truth", "(III)I"⟩
abbrev cX9_keysOf : ByteArray := prog_11_method_78_code
def yX9_keysOf : MethodName := ⟨RX9, "keysOf", "(II)I"⟩
abbrev cX9_keys : ByteArray := prog_11_method_79_code
def yX9_keys : MethodName := ⟨RX9, "keys", "(II)I"⟩
abbrev cX9_linesOf : ByteArray := prog_11_method_80_code
def yX9_linesOf : MethodName := ⟨RX9, "linesOf", "(II)I"⟩
abbrev cX9_lines : ByteArray := prog_11_method_81_code
def yX9_lines : MethodName := ⟨RX9, "lines", "(II)I"⟩
abbrev cX9_valuesOf : ByteArray := prog_11_method_82_code
def yX9_valuesOf : MethodName := ⟨RX9, "valuesOf", "(II)I"⟩
abbrev cX9_values : ByteArray := prog_11_method_83_code
def yX9_values : MethodName := ⟨RX9, "values", "(II)I"⟩
abbrev cX9_runsIn : ByteArray := prog_11_method_84_code
def yX9_runsIn : MethodName := ⟨RX9, "runsIn", "(II)V"⟩
abbrev cX9_mergeOnce : ByteArray := prog_11_method_85_code
def yX9_mergeOnce : MethodName := ⟨RX9, "mergeOnce", "()V"⟩
abbrev cX9_planIn : ByteArray := prog_11_method_86_code
def yX9_planIn : MethodName := ⟨RX9, "planIn", "(III)V"⟩
abbrev cX9_spanAt : ByteArray := prog_11_method_87_code
def yX9_spanAt : MethodName := ⟨RX9, "spanAt", "(I)I"⟩
abbrev cX9_runs : ByteArray := prog_11_method_88_code
def yX9_runs : MethodName := ⟨RX9, "runs", "(II)I"⟩
abbrev cX9_run : ByteArray := prog_11_method_89_code
def yX9_run : MethodName := ⟨RX9, "run", "(III)I"⟩
abbrev cX9_plan : ByteArray := prog_11_method_90_code
def yX9_plan : MethodName := ⟨RX9, "plan", "(IIII)I"⟩
abbrev cX9_isRead : ByteArray := prog_11_method_91_code
def yX9_isRead : MethodName := ⟨RX9, "isRead", "(I)Z"⟩
abbrev cX9_readIn : ByteArray := prog_11_method_92_code
def yX9_readIn : MethodName := ⟨RX9, "readIn", "(IIZ)I"⟩
abbrev cX9_otherKeys : ByteArray := prog_11_method_93_code
def yX9_otherKeys : MethodName := ⟨RX9, "otherKeys", "(II)I"⟩
abbrev cX9_still : ByteArray := prog_11_method_94_code
def yX9_still : MethodName := ⟨RX9, "still", "(II)I"⟩
abbrev cX9_costIn : ByteArray := prog_11_method_95_code
def yX9_costIn : MethodName := ⟨RX9, "costIn", "(II)I"⟩
abbrev cX9_of : ByteArray := prog_11_method_96_code
def yX9_of : MethodName := ⟨RX9, "of", "(IIII)I"⟩
abbrev cX9_bestIn : ByteArray := prog_11_method_97_code
def yX9_bestIn : MethodName := ⟨RX9, "bestIn", "(II)I"⟩
abbrev cX9_best : ByteArray := prog_11_method_98_code
def yX9_best : MethodName := ⟨RX9, "best", "(III)I"⟩
abbrev cX9_bestIndex : ByteArray := prog_11_method_99_code
def yX9_bestIndex : MethodName := ⟨RX9, "bestIndex", "(II)I"⟩
abbrev cX9_seek : ByteArray := prog_11_method_100_code
def yX9_seek : MethodName := ⟨RX9, "seek", "(IIII)I"⟩
abbrev cX9_leads : ByteArray := prog_11_method_101_code
def yX9_leads : MethodName := ⟨RX9, "leads", "(IIIIZ)Z"⟩
abbrev cX9_leaders : ByteArray := prog_11_method_102_code
def yX9_leaders : MethodName := ⟨RX9, "leaders", "(IIII)I"⟩
abbrev cX9_without : ByteArray := prog_11_method_103_code
def yX9_without : MethodName := ⟨RX9, "without", "(II)I"⟩
abbrev cX9_isAhead : ByteArray := prog_11_method_104_code
def yX9_isAhead : MethodName := ⟨RX9, "isAhead", "(IIII)Z"⟩
abbrev cX9_findIn : ByteArray := prog_11_method_105_code
def yX9_findIn : MethodName := ⟨RX9, "findIn", "(III)V"⟩
abbrev cX9_found : ByteArray := prog_11_method_106_code
def yX9_found : MethodName := ⟨RX9, "found", "(III)I"⟩
abbrev cX9_order : ByteArray := prog_11_method_107_code
def yX9_order : MethodName := ⟨RX9, "order", "(IIII)I"⟩
abbrev cX9_behind : ByteArray := prog_11_method_108_code
def yX9_behind : MethodName := ⟨RX9, "behind", "(III)I"⟩
abbrev cX9_implies : ByteArray := prog_11_method_109_code
def yX9_implies : MethodName := ⟨RX9, "implies", "(II)I"⟩
abbrev cX9_differ : ByteArray := prog_11_method_110_code
def yX9_differ : MethodName := ⟨RX9, "differ", "(II)I"⟩
abbrev cX9_alike : ByteArray := prog_11_method_111_code
def yX9_alike : MethodName := ⟨RX9, "alike", "(II)I"⟩
abbrev cX9_same : ByteArray := prog_11_method_112_code
def yX9_same : MethodName := ⟨RX9, "same", "(I)I"⟩
abbrev cX9_isTold : ByteArray := prog_11_method_113_code
def yX9_isTold : MethodName := ⟨RX9, "isTold", "(IIIII)Z"⟩
abbrev cX9_signs : ByteArray := prog_11_method_114_code
def yX9_signs : MethodName := ⟨RX9, "signs", "(IIII)I"⟩
abbrev cX9_judge : ByteArray := prog_11_method_115_code
def yX9_judge : MethodName := ⟨RX9, "judge", "(IIII)I"⟩
abbrev cX9_many : ByteArray := prog_11_method_116_code
def yX9_many : MethodName := ⟨RX9, "many", "(II)I"⟩
abbrev cX9_whatIf : ByteArray := prog_11_method_117_code
def yX9_whatIf : MethodName := ⟨RX9, "whatIf", "(IIII)I"⟩
abbrev cX9_draw : ByteArray := prog_11_method_118_code
def yX9_draw : MethodName := ⟨RX9, "draw", "(I)I"⟩
abbrev cX9_days : ByteArray := prog_11_method_119_code
def yX9_days : MethodName := ⟨RX9, "days", "(I)I"⟩
abbrev cX9_seed : ByteArray := prog_11_method_120_code
def yX9_seed : MethodName := ⟨RX9, "seed", "(I)I"⟩
abbrev cX9_take : ByteArray := prog_11_method_121_code
def yX9_take : MethodName := ⟨RX9, "take", "([I[I)V"⟩
abbrev cX9_image : ByteArray := prog_11_method_122_code
def yX9_image : MethodName := ⟨RX9, "image", "()I"⟩
abbrev cX9_back : ByteArray := prog_11_method_123_code
def yX9_back : MethodName := ⟨RX9, "back", "()I"⟩
abbrev cX9_differentKeys : ByteArray := prog_11_method_124_code
def yX9_differentKeys : MethodName := ⟨RX9, "differentKeys", "()I"⟩
abbrev cX9_status : ByteArray := prog_11_method_125_code
def yX9_status : MethodName := ⟨RX9, "status", "(I)I"⟩
abbrev cJ6_bitCount_0f7a4 : ByteArray := prog_12_method_49_code
def yJ6_bitCount_0f7a4 : MethodName := ⟨RJ6, "bitCount", "(I)I"⟩
abbrev cJ9_max_7cf53 : ByteArray := prog_13_method_65_code
def yJ9_max_7cf53 : MethodName := ⟨RJ9, "max", "(II)I"⟩
abbrev cJ9_min_7cf53 : ByteArray := prog_13_method_69_code
def yJ9_min_7cf53 : MethodName := ⟨RJ9, "min", "(II)I"⟩
def yL_law : MethodName := ⟨RL, "law", "([I)Z"⟩
/-! ===== own tables: methods, links, by program out of the tables of the claim ===== -/
abbrev zPos : Type := Nat × Nat
abbrev zRow : Type := MethodName × ByteArray × Nat × Option FieldType × Nat × Nat × Nat × zPos × zPos × zPos × zPos
def zT_0 : List zRow := [
  (yX0_init, cX0_init, 1, none, 2, 0, 0, (1, 59), (1, 58), (1, 4), (99, 0)),
  (yX0_begin, cX0_begin, 5, none, 1, 4, 0, (3, 73), (3, 71), (1, 4), (3, 72)),
  (yX0_addColumn, cX0_addColumn, 3, none, 1, 2, 0, (3, 103), (3, 101), (1, 4), (3, 102)),
  (yX0_columnCount, cX0_columnCount, 1, (some FieldType.int), 1, 0, 0, (3, 132), (3, 130), (1, 4), (3, 131)),
  (yX0_want, cX0_want, 3, none, 1, 2, 0, (3, 114), (3, 112), (1, 4), (3, 113)),
  (yX0_names, cX0_names, 2, (some FieldType.boolean), 1, 1, 0, (3, 119), (3, 117), (1, 4), (3, 118)),
  (yX0_copyFrom, cX0_copyFrom, 3, none, 1, 1, 0, (5, 70), (5, 68), (1, 4), (5, 69)),
  (yX0_settleLeaf, cX0_settleLeaf, 3, none, 1, 1, 0, (3, 163), (3, 161), (1, 4), (3, 162)),
  (yX0_settleOver, cX0_settleOver, 5, none, 1, 3, 0, (3, 192), (3, 190), (1, 4), (3, 191)),
  (yX0_leafTruth, cX0_leafTruth, 3, (some FieldType.int), 1, 1, 0, (3, 167), (3, 166), (1, 4), (0, 13)),
  (yX0_digitOf, cX0_digitOf, 3, (some FieldType.int), 1, 2, 0, (3, 171), (3, 170), (1, 4), (0, 14)),
  (yX0_orDoubt, cX0_orDoubt, 2, (some FieldType.int), 0, 2, 0, (3, 177), (3, 176), (1, 4), (99, 0)),
  (yX0_orderTruth, cX0_orderTruth, 5, (some FieldType.int), 1, 1, 0, (3, 181), (3, 180), (1, 4), (0, 15)),
  (yX0_equalTruth, cX0_equalTruth, 5, (some FieldType.int), 1, 1, 0, (3, 185), (3, 184), (1, 4), (0, 16)),
  (yX0_joinedTruth, cX0_joinedTruth, 3, (some FieldType.int), 1, 2, 0, (3, 199), (3, 198), (1, 4), (0, 17)),
  (yX0_opposite, cX0_opposite, 1, (some FieldType.int), 0, 1, 0, (3, 188), (3, 187), (1, 4), (99, 0)),
  (yX0_isOfSort, cX0_isOfSort, 2, (some FieldType.boolean), 1, 1, 0, (2, 151), (2, 149), (1, 4), (2, 150)),
  (yX0_toldAs, cX0_toldAs, 2, (some FieldType.int), 1, 1, 0, (2, 155), (2, 153), (1, 4), (2, 154)),
  (yX0_countKeys, cX0_countKeys, 4, (some FieldType.int), 1, 1, 0, (2, 159), (2, 157), (1, 4), (2, 158)),
  (yX0_valuesIn, cX0_valuesIn, 4, (some FieldType.int), 1, 1, 0, (2, 163), (2, 161), (1, 4), (2, 162)),
  (yX0_firstUnlike, cX0_firstUnlike, 3, (some FieldType.int), 1, 1, 0, (5, 2), (5, 0), (1, 4), (5, 1)),
  (yX1_init, cX1_init, 2, none, 2, 0, 1, (1, 52), (1, 51), (1, 3), (99, 0)),
  (yX1_copyFrom, cX1_copyFrom, 3, none, 1, 1, 1, (5, 66), (5, 64), (1, 3), (5, 65)),
  (yX1_has, cX1_has, 2, (some FieldType.boolean), 1, 1, 1, (2, 126), (2, 124), (1, 3), (2, 125)),
  (yX1_at, cX1_at, 2, (some (FieldType.object "SkippingKeys$Condition")), 1, 1, 1, (2, 147), (2, 145), (1, 3), (2, 146)),
  (yX1_draft, cX1_draft, 4, (some (FieldType.object "SkippingKeys$Condition")), 1, 2, 1, (3, 92), (3, 90), (1, 3), (3, 91)),
  (yX1_draftOver, cX1_draftOver, 5, none, 1, 3, 1, (3, 68), (3, 66), (1, 3), (3, 67)),
  (yX1_lastDraft, cX1_lastDraft, 1, (some FieldType.int), 1, 0, 1, (3, 77), (3, 75), (1, 3), (3, 76)),
  (yX1_fitsDrafts, cX1_fitsDrafts, 1, (some FieldType.boolean), 1, 0, 1, (3, 152), (3, 150), (1, 3), (3, 151)),
  (yX1_forgetDrafts, cX1_forgetDrafts, 1, none, 1, 0, 1, (3, 144), (3, 142), (1, 3), (3, 143)),
  (yX1_settleDrafts, cX1_settleDrafts, 4, none, 1, 0, 1, (3, 156), (3, 154), (1, 3), (3, 155)),
  (yX2_init, cX2_init, 1, none, 2, 0, 2, (1, 26), (1, 25), (1, 2), (99, 0)),
  (yX2_copyFrom, cX2_copyFrom, 2, none, 1, 1, 2, (5, 62), (5, 60), (1, 2), (5, 61)),
  (yX2_has, cX2_has, 2, (some FieldType.boolean), 1, 1, 2, (2, 198), (2, 196), (1, 2), (2, 197)),
  (yX2_valueOf, cX2_valueOf, 3, (some FieldType.int), 1, 2, 2, (2, 206), (2, 204), (1, 2), (2, 205)),
  (yX2_put, cX2_put, 4, none, 1, 3, 2, (2, 190), (2, 188), (1, 2), (2, 189)),
  (yX2_putAll, cX2_putAll, 5, none, 1, 4, 2, (2, 186), (2, 185), (1, 2), (0, 1)),
  (yX2_add, cX2_add, 4, none, 1, 3, 2, (2, 182), (2, 180), (1, 2), (2, 181)),
  (yX2_remove, cX2_remove, 4, none, 1, 1, 2, (2, 215), (2, 213), (1, 2), (2, 214)),
  (yX2_keyIn, cX2_keyIn, 4, (some FieldType.int), 1, 2, 2, (4, 38), (4, 36), (1, 2), (4, 37))]
def zT_1 : List zRow := [
  (yX2_truthOf, cX2_truthOf, 3, (some FieldType.int), 1, 2, 2, (4, 74), (4, 72), (1, 2), (4, 73)),
  (yX2_countOf, cX2_countOf, 5, (some FieldType.int), 1, 2, 2, (4, 70), (4, 68), (1, 2), (4, 69)),
  (yX2_countValue, cX2_countValue, 5, (some FieldType.int), 1, 2, 2, (5, 31), (5, 29), (1, 2), (5, 30)),
  (yX2_liveDay, cX2_liveDay, 4, none, 1, 0, 2, (5, 43), (5, 41), (1, 2), (5, 42)),
  (yX2_draw, cX2_draw, 2, (some FieldType.int), 1, 1, 2, (5, 47), (5, 46), (1, 2), (0, 31)),
  (yX3_init, cX3_init, 1, none, 2, 0, 3, (1, 238), (1, 237), (1, 9), (99, 0)),
  (yX3_codeOf, cX3_codeOf, 4, (some FieldType.int), 0, 3, 3, (4, 208), (4, 207), (1, 9), (99, 0)),
  (yX3_rank, cX3_rank, 6, none, 1, 4, 3, (4, 203), (4, 201), (1, 9), (4, 202)),
  (yX3_insert, cX3_insert, 3, none, 1, 1, 3, (4, 212), (4, 211), (1, 9), (0, 28)),
  (yX3_lineAt, cX3_lineAt, 2, (some FieldType.int), 1, 1, 3, (4, 216), (4, 214), (1, 9), (4, 215)),
  (yX3_firstBehind, cX3_firstBehind, 3, (some FieldType.int), 1, 1, 3, (4, 229), (4, 227), (1, 9), (4, 228)),
  (yX4_init, cX4_init, 1, none, 2, 0, 4, (1, 166), (1, 165), (1, 7), (99, 0)),
  (yX4_readTable, cX4_readTable, 4, (some FieldType.boolean), 1, 1, 4, (3, 5), (3, 3), (1, 7), (3, 4)),
  (yX4_readLine, cX4_readLine, 4, (some FieldType.boolean), 1, 1, 4, (3, 13), (3, 12), (1, 7), (0, 2)),
  (yX4_lineCount, cX4_lineCount, 1, (some FieldType.int), 1, 0, 4, (3, 31), (3, 29), (1, 7), (3, 30)),
  (yX4_valueRead, cX4_valueRead, 4, (some FieldType.int), 1, 2, 4, (3, 35), (3, 33), (1, 7), (3, 34)),
  (yX4_readCondition, cX4_readCondition, 6, (some FieldType.boolean), 1, 2, 4, (3, 44), (3, 42), (1, 7), (3, 43)),
  (yX4_isTurnSign, cX4_isTurnSign, 1, (some FieldType.boolean), 0, 1, 4, (3, 84), (3, 83), (1, 7), (99, 0)),
  (yX4_isClosed, cX4_isClosed, 2, (some FieldType.boolean), 1, 1, 4, (3, 48), (3, 47), (1, 7), (0, 3)),
  (yX4_readBehindTurn, cX4_readBehindTurn, 4, (some FieldType.boolean), 1, 3, 4, (3, 140), (3, 139), (1, 7), (0, 11)),
  (yX4_turnIsWhole, cX4_turnIsWhole, 4, none, 1, 2, 4, (3, 136), (3, 135), (1, 7), (0, 10)),
  (yX4_closeOr, cX4_closeOr, 4, none, 1, 1, 4, (3, 52), (3, 51), (1, 7), (0, 4)),
  (yX4_pushOpen, cX4_pushOpen, 2, none, 1, 1, 4, (3, 88), (3, 87), (1, 7), (0, 9)),
  (yX4_topOpen, cX4_topOpen, 1, (some FieldType.int), 1, 0, 4, (3, 56), (3, 55), (1, 7), (0, 5)),
  (yX4_popOpen, cX4_popOpen, 1, none, 1, 0, 4, (3, 60), (3, 59), (1, 7), (0, 6)),
  (yX4_pushWhole, cX4_pushWhole, 2, none, 1, 1, 4, (3, 81), (3, 80), (1, 7), (0, 8)),
  (yX4_popWhole, cX4_popWhole, 1, (some FieldType.int), 1, 0, 4, (3, 64), (3, 63), (1, 7), (0, 7)),
  (yX4_readLeaf, cX4_readLeaf, 3, (some FieldType.boolean), 0, 2, 4, (3, 95), (3, 94), (1, 7), (99, 0)),
  (yX4_readCompared, cX4_readCompared, 4, (some FieldType.boolean), 0, 2, 4, (3, 110), (3, 109), (1, 7), (99, 0)),
  (yX4_readAmong, cX4_readAmong, 5, (some FieldType.boolean), 0, 2, 4, (3, 122), (3, 121), (1, 7), (99, 0)),
  (yX4_readRest, cX4_readRest, 4, (some FieldType.boolean), 0, 2, 4, (3, 125), (3, 124), (1, 7), (99, 0)),
  (yX4_readSeveral, cX4_readSeveral, 5, (some FieldType.boolean), 0, 2, 4, (3, 128), (3, 127), (1, 7), (99, 0)),
  (yX5_init, cX5_init, 2, none, 2, 0, 5, (1, 131), (1, 130), (1, 5), (99, 0)),
  (yX5_isShelf, cX5_isShelf, 1, (some FieldType.boolean), 0, 1, 5, (2, 51), (2, 50), (1, 5), (99, 0)),
  (yX5_heldBy, cX5_heldBy, 2, (some FieldType.int), 1, 1, 5, (2, 118), (2, 116), (1, 5), (2, 117)),
  (yX5_empty, cX5_empty, 2, none, 1, 1, 5, (2, 131), (2, 129), (1, 5), (2, 130)),
  (yX5_holdCondition, cX5_holdCondition, 3, none, 1, 2, 5, (2, 135), (2, 133), (1, 5), (2, 134)),
  (yX5_conditionIn, cX5_conditionIn, 2, (some FieldType.int), 1, 1, 5, (2, 143), (2, 141), (1, 5), (2, 142)),
  (yX5_layRow, cX5_layRow, 5, none, 1, 3, 5, (2, 63), (2, 61), (1, 5), (2, 62)),
  (yX5_whyNoRow, cX5_whyNoRow, 2, (some FieldType.int), 1, 1, 5, (2, 71), (2, 69), (1, 5), (2, 70))]
def zT_2 : List zRow := [
  (yX5_whyNoRowOf, cX5_whyNoRowOf, 4, (some FieldType.int), 1, 2, 5, (3, 235), (3, 233), (1, 5), (3, 234)),
  (yX5_whyNoTwoRows, cX5_whyNoTwoRows, 5, (some FieldType.int), 1, 2, 5, (2, 90), (2, 88), (1, 5), (2, 89)),
  (yX5_hasElement, cX5_hasElement, 3, (some FieldType.boolean), 1, 2, 5, (2, 75), (2, 73), (1, 5), (2, 74)),
  (yX5_hasPart, cX5_hasPart, 4, (some FieldType.boolean), 1, 3, 5, (2, 95), (2, 93), (1, 5), (2, 94)),
  (yX5_elementAt, cX5_elementAt, 3, (some FieldType.long), 1, 2, 5, (2, 110), (2, 108), (1, 5), (2, 109)),
  (yX5_put, cX5_put, 5, none, 1, 3, 5, (2, 79), (2, 77), (1, 5), (2, 78)),
  (yX5_carry, cX5_carry, 6, none, 1, 5, 5, (2, 99), (2, 97), (1, 5), (2, 98)),
  (yX5_kept, cX5_kept, 3, (some FieldType.long), 0, 2, 5, (2, 82), (2, 81), (1, 5), (99, 0)),
  (yX5_forgetConditionsFrom, cX5_forgetConditionsFrom, 3, none, 1, 1, 5, (4, 18), (4, 16), (1, 5), (4, 17)),
  (yX5_countHolding, cX5_countHolding, 3, (some FieldType.int), 1, 0, 5, (5, 89), (5, 87), (1, 5), (5, 88)),
  (yX6_init, cX6_init, 1, none, 2, 0, 6, (1, 191), (1, 190), (1, 8), (99, 0)),
  (yX6_layOut, cX6_layOut, 6, none, 1, 2, 6, (4, 88), (4, 86), (1, 8), (4, 87)),
  (yX6_runTold, cX6_runTold, 2, (some FieldType.int), 1, 1, 6, (4, 97), (4, 95), (1, 8), (4, 96)),
  (yX6_planSize, cX6_planSize, 2, (some FieldType.int), 1, 1, 6, (4, 105), (4, 103), (1, 8), (4, 104)),
  (yX6_widthOf, cX6_widthOf, 2, (some FieldType.int), 1, 1, 6, (4, 118), (4, 117), (1, 8), (0, 21)),
  (yX6_orderGaps, cX6_orderGaps, 4, none, 1, 0, 6, (4, 114), (4, 113), (1, 8), (0, 20)),
  (yX6_joinDownTo, cX6_joinDownTo, 3, none, 1, 1, 6, (4, 110), (4, 108), (1, 8), (4, 109)),
  (yX6_spanTold, cX6_spanTold, 5, (some FieldType.int), 1, 1, 6, (4, 123), (4, 121), (1, 8), (4, 122)),
  (yX6_gapAt, cX6_gapAt, 3, (some FieldType.int), 1, 1, 6, (4, 144), (4, 143), (1, 8), (0, 22)),
  (yX6_planHas, cX6_planHas, 3, (some FieldType.boolean), 1, 1, 6, (4, 140), (4, 138), (1, 8), (4, 139)),
  (yX6_countKeysBetween, cX6_countKeysBetween, 3, (some FieldType.int), 1, 0, 6, (4, 131), (4, 129), (1, 8), (4, 130)),
  (yX6_countRead, cX6_countRead, 5, (some FieldType.int), 1, 2, 6, (4, 135), (4, 133), (1, 8), (4, 134)),
  (yX6_findBest, cX6_findBest, 6, none, 1, 2, 6, (4, 162), (4, 160), (1, 8), (4, 161)),
  (yX6_countLinesByGap, cX6_countLinesByGap, 7, (some FieldType.int), 1, 2, 6, (4, 166), (4, 165), (1, 8), (0, 25)),
  (yX7_init, cX7_init, 1, none, 2, 0, 7, (1, 148), (1, 147), (1, 6), (99, 0)),
  (yX7_append, cX7_append, 2, none, 1, 1, 7, (2, 229), (2, 227), (1, 6), (2, 228)),
  (yX7_wipeAll, cX7_wipeAll, 1, none, 1, 0, 7, (2, 237), (2, 235), (1, 6), (2, 236)),
  (yX7_rewind, cX7_rewind, 1, none, 1, 0, 7, (3, 9), (3, 7), (1, 6), (3, 8)),
  (yX7_ahead, cX7_ahead, 1, (some FieldType.int), 1, 0, 7, (3, 17), (3, 15), (1, 6), (3, 16)),
  (yX7_take, cX7_take, 1, none, 1, 0, 7, (3, 27), (3, 25), (1, 6), (3, 26)),
  (yX7_columnAhead, cX7_columnAhead, 2, (some FieldType.int), 1, 0, 7, (3, 99), (3, 97), (1, 6), (3, 98)),
  (yX7_signAhead, cX7_signAhead, 1, (some FieldType.int), 1, 0, 7, (3, 107), (3, 105), (1, 6), (3, 106)),
  (yX7_digitAhead, cX7_digitAhead, 4, (some FieldType.int), 1, 2, 7, (3, 21), (3, 19), (1, 6), (3, 20)),
  (yX8_init, cX8_init, 1, none, 2, 0, 8, (1, 18), (1, 17), (1, 1), (99, 0)),
  (yX8_row, cX8_row, 4, (some FieldType.int), 1, 3, 8, (2, 48), (2, 46), (1, 1), (2, 47)),
  (yX8_set, cX8_set, 6, (some FieldType.int), 1, 3, 8, (2, 67), (2, 65), (1, 1), (2, 66)),
  (yX8_copy, cX8_copy, 7, (some FieldType.int), 1, 5, 8, (2, 86), (2, 84), (1, 1), (2, 85)),
  (yX8_element, cX8_element, 3, (some FieldType.long), 1, 2, 8, (2, 106), (2, 104), (1, 1), (2, 105)),
  (yX8_holds, cX8_holds, 2, (some FieldType.int), 1, 1, 8, (2, 114), (2, 112), (1, 1), (2, 113)),
  (yX8_show, cX8_show, 3, (some FieldType.int), 1, 2, 8, (2, 122), (2, 120), (1, 1), (2, 121))]
def zT_3 : List zRow := [
  (yX8_says, cX8_says, 4, (some FieldType.int), 1, 2, 8, (2, 139), (2, 137), (1, 1), (2, 138)),
  (yX8_line, cX8_line, 4, (some FieldType.int), 1, 3, 8, (2, 175), (2, 173), (1, 1), (2, 174)),
  (yX8_alter, cX8_alter, 5, (some FieldType.int), 1, 3, 8, (2, 194), (2, 192), (1, 1), (2, 193)),
  (yX8_strike, cX8_strike, 2, (some FieldType.int), 1, 1, 8, (2, 211), (2, 209), (1, 1), (2, 210)),
  (yX8_price, cX8_price, 3, (some FieldType.int), 1, 1, 8, (2, 221), (2, 219), (1, 1), (2, 220)),
  (yX8_feed, cX8_feed, 2, (some FieldType.int), 1, 1, 8, (2, 225), (2, 223), (1, 1), (2, 224)),
  (yX8_wipe, cX8_wipe, 2, (some FieldType.int), 1, 0, 8, (2, 233), (2, 231), (1, 1), (2, 232)),
  (yX8_table, cX8_table, 5, (some FieldType.int), 1, 0, 8, (3, 1), (2, 239), (1, 1), (3, 0)),
  (yX8_cond, cX8_cond, 3, (some FieldType.int), 1, 0, 8, (3, 40), (3, 38), (1, 1), (3, 39)),
  (yX8_test, cX8_test, 4, (some FieldType.int), 1, 3, 8, (3, 203), (3, 201), (1, 1), (3, 202)),
  (yX8_among, cX8_among, 3, (some FieldType.int), 1, 2, 8, (3, 215), (3, 213), (1, 1), (3, 214)),
  (yX8_gone, cX8_gone, 2, (some FieldType.int), 1, 1, 8, (3, 219), (3, 217), (1, 1), (3, 218)),
  (yX8_columns, cX8_columns, 5, (some FieldType.int), 1, 3, 8, (3, 223), (3, 221), (1, 1), (3, 222)),
  (yX8_rest, cX8_rest, 5, (some FieldType.int), 1, 3, 8, (3, 227), (3, 225), (1, 1), (3, 226)),
  (yX8_several, cX8_several, 7, (some FieldType.int), 1, 3, 8, (3, 231), (3, 229), (1, 1), (3, 230)),
  (yX8_pair, cX8_pair, 4, (some FieldType.int), 1, 3, 8, (4, 5), (4, 3), (1, 1), (4, 4)),
  (yX8_turn, cX8_turn, 3, (some FieldType.int), 1, 2, 8, (4, 10), (4, 8), (1, 1), (4, 9)),
  (yX8_drop, cX8_drop, 1, (some FieldType.int), 1, 0, 8, (4, 14), (4, 12), (1, 1), (4, 13)),
  (yX8_condOf, cX8_condOf, 4, (some FieldType.int), 1, 2, 8, (4, 23), (4, 21), (1, 1), (4, 22)),
  (yX8_lineOf, cX8_lineOf, 3, (some FieldType.int), 1, 2, 8, (4, 27), (4, 25), (1, 1), (4, 26)),
  (yX8_keyOf, cX8_keyOf, 3, (some FieldType.int), 1, 2, 8, (4, 31), (4, 29), (1, 1), (4, 30)),
  (yX8_truth, cX8_truth, 4, (some FieldType.int), 1, 3, 8, (4, 45), (4, 43), (1, 1), (4, 44)),
  (yX8_keys, cX8_keys, 3, (some FieldType.int), 1, 2, 8, (4, 58), (4, 56), (1, 1), (4, 57)),
  (yX8_lines, cX8_lines, 3, (some FieldType.int), 1, 2, 8, (4, 66), (4, 64), (1, 1), (4, 65)),
  (yX8_values, cX8_values, 3, (some FieldType.int), 1, 2, 8, (4, 79), (4, 77), (1, 1), (4, 78)),
  (yX8_runs, cX8_runs, 3, (some FieldType.int), 1, 2, 8, (4, 84), (4, 82), (1, 1), (4, 83)),
  (yX8_run, cX8_run, 4, (some FieldType.int), 1, 3, 8, (4, 93), (4, 91), (1, 1), (4, 92)),
  (yX8_plan, cX8_plan, 6, (some FieldType.int), 1, 4, 8, (4, 101), (4, 99), (1, 1), (4, 100)),
  (yX8_of, cX8_of, 6, (some FieldType.int), 1, 4, 8, (4, 127), (4, 125), (1, 1), (4, 126)),
  (yX8_best, cX8_best, 4, (some FieldType.int), 1, 3, 8, (4, 158), (4, 156), (1, 1), (4, 157)),
  (yX8_bestIndex, cX8_bestIndex, 6, (some FieldType.int), 1, 2, 8, (4, 170), (4, 168), (1, 1), (4, 169)),
  (yX8_seek, cX8_seek, 6, (some FieldType.int), 1, 4, 8, (4, 174), (4, 172), (1, 1), (4, 173)),
  (yX8_leaders, cX8_leaders, 8, (some FieldType.int), 1, 4, 8, (4, 186), (4, 184), (1, 1), (4, 185)),
  (yX8_found, cX8_found, 4, (some FieldType.int), 1, 3, 8, (4, 199), (4, 197), (1, 1), (4, 198)),
  (yX8_order, cX8_order, 5, (some FieldType.int), 1, 4, 8, (4, 220), (4, 218), (1, 1), (4, 219)),
  (yX8_behind, cX8_behind, 4, (some FieldType.int), 1, 3, 8, (4, 224), (4, 222), (1, 1), (4, 223)),
  (yX8_implies, cX8_implies, 6, (some FieldType.int), 1, 2, 8, (4, 234), (4, 232), (1, 1), (4, 233)),
  (yX8_alike, cX8_alike, 3, (some FieldType.int), 1, 2, 8, (4, 238), (4, 236), (1, 1), (4, 237)),
  (yX8_same, cX8_same, 3, (some FieldType.int), 1, 1, 8, (5, 6), (5, 4), (1, 1), (5, 5)),
  (yX8_signs, cX8_signs, 8, (some FieldType.int), 1, 4, 8, (5, 10), (5, 8), (1, 1), (5, 9))]
def zT_4 : List zRow := [
  (yX8_judge, cX8_judge, 7, (some FieldType.int), 1, 4, 8, (5, 23), (5, 21), (1, 1), (5, 22)),
  (yX8_many, cX8_many, 3, (some FieldType.int), 1, 2, 8, (5, 27), (5, 25), (1, 1), (5, 26)),
  (yX8_whatIf, cX8_whatIf, 8, (some FieldType.int), 1, 4, 8, (5, 35), (5, 33), (1, 1), (5, 34)),
  (yX8_days, cX8_days, 3, (some FieldType.int), 1, 1, 8, (5, 39), (5, 37), (1, 1), (5, 38)),
  (yX8_seed, cX8_seed, 3, (some FieldType.int), 1, 1, 8, (5, 54), (5, 52), (1, 1), (5, 53)),
  (yX8_image, cX8_image, 1, (some FieldType.int), 1, 0, 8, (5, 58), (5, 56), (1, 1), (5, 57)),
  (yX8_back, cX8_back, 1, (some FieldType.int), 1, 0, 8, (5, 77), (5, 75), (1, 1), (5, 76)),
  (yX8_status, cX8_status, 2, (some FieldType.int), 1, 1, 8, (5, 81), (5, 79), (1, 1), (5, 80)),
  (yX8_refuse, cX8_refuse, 3, (some FieldType.int), 1, 1, 8, (2, 59), (2, 58), (1, 1), (0, 0)),
  (yX8_settled, cX8_settled, 1, (some FieldType.int), 1, 0, 8, (3, 148), (3, 147), (1, 1), (0, 12)),
  (yX8_isCondAndIndex, cX8_isCondAndIndex, 3, (some FieldType.boolean), 1, 2, 8, (4, 49), (4, 48), (1, 1), (0, 19)),
  (yX8_tellsSeveral, cX8_tellsSeveral, 10, (some FieldType.boolean), 1, 2, 8, (3, 239), (3, 238), (1, 1), (0, 18)),
  (yX8_tellsLines, cX8_tellsLines, 8, (some FieldType.boolean), 1, 2, 8, (5, 14), (5, 13), (1, 1), (0, 29)),
  (yX8_fitsTold, cX8_fitsTold, 9, (some FieldType.boolean), 1, 5, 8, (5, 18), (5, 17), (1, 1), (0, 30)),
  (yX8_stillToTest, cX8_stillToTest, 5, (some FieldType.int), 1, 2, 8, (4, 149), (4, 148), (1, 1), (0, 23)),
  (yX8_isTrueInPlan, cX8_isTrueInPlan, 4, (some FieldType.boolean), 1, 2, 8, (4, 153), (4, 152), (1, 1), (0, 24)),
  (yX8_seekUp, cX8_seekUp, 4, (some FieldType.int), 0, 3, 8, (4, 177), (4, 176), (1, 1), (99, 0)),
  (yX8_seekDown, cX8_seekDown, 4, (some FieldType.int), 0, 3, 8, (4, 181), (4, 180), (1, 1), (99, 0)),
  (yX8_countDifferentKeys, cX8_countDifferentKeys, 2, (some FieldType.int), 1, 0, 8, (5, 85), (5, 84), (1, 1), (0, 32)),
  (yX8_clearSeen, cX8_clearSeen, 2, none, 1, 0, 8, (4, 190), (4, 189), (1, 1), (0, 26)),
  (yX8_countSeen, cX8_countSeen, 3, (some FieldType.int), 1, 0, 8, (4, 195), (4, 194), (1, 1), (0, 27)),
  (yX8_isWithin, cX8_isWithin, 3, (some FieldType.boolean), 0, 3, 8, (2, 54), (2, 53), (1, 1), (99, 0)),
  (yX8_isColumn, cX8_isColumn, 1, (some FieldType.boolean), 0, 1, 8, (2, 202), (2, 201), (1, 1), (99, 0)),
  (yX8_isIndex, cX8_isIndex, 1, (some FieldType.boolean), 0, 1, 8, (4, 34), (4, 33), (1, 1), (99, 0)),
  (yX8_isSign, cX8_isSign, 1, (some FieldType.boolean), 0, 1, 8, (3, 206), (3, 205), (1, 1), (99, 0)),
  (yX8_isTruth, cX8_isTruth, 1, (some FieldType.boolean), 0, 1, 8, (4, 61), (4, 60), (1, 1), (99, 0)),
  (yX8_isDigit, cX8_isDigit, 1, (some FieldType.boolean), 0, 1, 8, (2, 178), (2, 177), (1, 1), (99, 0)),
  (yX8_isValue, cX8_isValue, 1, (some FieldType.boolean), 0, 1, 8, (3, 209), (3, 208), (1, 1), (99, 0)),
  (yX8_placeOf, cX8_placeOf, 3, (some FieldType.int), 0, 2, 8, (4, 52), (4, 51), (1, 1), (99, 0)),
  (yX8_compared, cX8_compared, 4, (some FieldType.int), 0, 3, 8, (3, 174), (3, 173), (1, 1), (99, 0)),
  (yX9_init, cX9_init, 1, none, 2, 0, 9, (5, 94), (5, 93), (1, 10), (99, 0)),
  (yX9_refuse, cX9_refuse, 2, (some FieldType.int), 1, 1, 9, (5, 235), (5, 234), (1, 10), (0, 33)),
  (yX9_in, cX9_in, 6, (some FieldType.boolean), 0, 3, 9, (5, 229), (5, 228), (1, 10), (99, 0)),
  (yX9_isCond, cX9_isCond, 2, (some FieldType.boolean), 1, 1, 9, (6, 26), (6, 25), (1, 10), (0, 35)),
  (yX9_isLine, cX9_isLine, 2, (some FieldType.boolean), 1, 1, 9, (6, 69), (6, 68), (1, 10), (0, 40)),
  (yX9_bits, cX9_bits, 3, (some FieldType.int), 0, 1, 9, (6, 52), (6, 51), (1, 10), (99, 0)),
  (yX9_row, cX9_row, 5, (some FieldType.int), 1, 3, 9, (5, 225), (5, 223), (1, 10), (5, 224)),
  (yX9_fit, cX9_fit, 3, (some FieldType.long), 0, 2, 9, (6, 6), (6, 5), (1, 10), (99, 0)),
  (yX9_noRow, cX9_noRow, 2, (some FieldType.int), 1, 1, 9, (6, 3), (6, 2), (1, 10), (0, 34)),
  (yX9_set, cX9_set, 6, (some FieldType.int), 1, 3, 9, (5, 239), (5, 237), (1, 10), (5, 238))]
def zT_5 : List zRow := [
  (yX9_copy, cX9_copy, 7, (some FieldType.int), 1, 5, 9, (6, 10), (6, 8), (1, 10), (6, 9)),
  (yX9_element, cX9_element, 3, (some FieldType.long), 1, 2, 9, (6, 14), (6, 12), (1, 10), (6, 13)),
  (yX9_holds, cX9_holds, 2, (some FieldType.int), 1, 1, 9, (6, 18), (6, 16), (1, 10), (6, 17)),
  (yX9_show, cX9_show, 3, (some FieldType.int), 1, 2, 9, (6, 22), (6, 20), (1, 10), (6, 21)),
  (yX9_isOf, cX9_isOf, 2, (some FieldType.boolean), 0, 2, 9, (6, 34), (6, 33), (1, 10), (99, 0)),
  (yX9_says, cX9_says, 4, (some FieldType.int), 1, 2, 9, (6, 30), (6, 28), (1, 10), (6, 29)),
  (yX9_columnAt, cX9_columnAt, 5, (some FieldType.int), 0, 2, 9, (7, 44), (7, 43), (1, 10), (99, 0)),
  (yX9_digit, cX9_digit, 2, (some FieldType.int), 0, 2, 9, (6, 49), (6, 48), (1, 10), (99, 0)),
  (yX9_weight, cX9_weight, 1, (some FieldType.int), 0, 1, 9, (7, 41), (7, 40), (1, 10), (99, 0)),
  (yX9_plain, cX9_plain, 4, (some FieldType.int), 0, 2, 9, (7, 52), (7, 51), (1, 10), (99, 0)),
  (yX9_keyIn, cX9_keyIn, 5, (some FieldType.int), 1, 2, 9, (7, 38), (7, 37), (1, 10), (0, 68)),
  (yX9_isAt, cX9_isAt, 3, (some FieldType.int), 1, 2, 9, (6, 42), (6, 41), (1, 10), (0, 37)),
  (yX9_isFor, cX9_isFor, 3, (some FieldType.int), 1, 2, 9, (7, 68), (7, 67), (1, 10), (0, 70)),
  (yX9_holds_, cX9_holds_, 4, (some FieldType.int), 0, 3, 9, (6, 205), (6, 204), (1, 10), (99, 0)),
  (yX9_severalFor, cX9_severalFor, 9, (some FieldType.int), 1, 2, 9, (6, 202), (6, 201), (1, 10), (0, 64)),
  (yX9_leafFor, cX9_leafFor, 6, (some FieldType.int), 1, 2, 9, (6, 198), (6, 197), (1, 10), (0, 63)),
  (yX9_worked, cX9_worked, 5, (some FieldType.int), 1, 2, 9, (6, 194), (6, 193), (1, 10), (0, 62)),
  (yX9_leafIn, cX9_leafIn, 4, none, 1, 1, 9, (6, 186), (6, 185), (1, 10), (0, 60)),
  (yX9_overIn, cX9_overIn, 4, none, 1, 1, 9, (6, 190), (6, 189), (1, 10), (0, 61)),
  (yX9_workFrom, cX9_workFrom, 4, none, 1, 1, 9, (6, 182), (6, 181), (1, 10), (0, 59)),
  (yX9_put, cX9_put, 5, none, 1, 4, 9, (6, 61), (6, 60), (1, 10), (0, 39)),
  (yX9_line, cX9_line, 4, (some FieldType.int), 1, 3, 9, (6, 56), (6, 54), (1, 10), (6, 55)),
  (yX9_alter, cX9_alter, 5, (some FieldType.int), 1, 3, 9, (6, 65), (6, 63), (1, 10), (6, 64)),
  (yX9_strikeOut, cX9_strikeOut, 3, none, 1, 1, 9, (6, 78), (6, 77), (1, 10), (0, 41)),
  (yX9_strike, cX9_strike, 2, (some FieldType.int), 1, 1, 9, (6, 74), (6, 72), (1, 10), (6, 73)),
  (yX9_price, cX9_price, 3, (some FieldType.int), 1, 1, 9, (6, 82), (6, 80), (1, 10), (6, 81)),
  (yX9_feed, cX9_feed, 2, (some FieldType.int), 1, 1, 9, (6, 87), (6, 85), (1, 10), (6, 86)),
  (yX9_wipe, cX9_wipe, 2, (some FieldType.int), 1, 0, 9, (6, 92), (6, 90), (1, 10), (6, 91)),
  (yX9_isCell, cX9_isCell, 1, (some FieldType.boolean), 0, 1, 9, (6, 103), (6, 102), (1, 10), (99, 0)),
  (yX9_tableFault, cX9_tableFault, 4, (some FieldType.int), 1, 0, 9, (6, 100), (6, 99), (1, 10), (0, 42)),
  (yX9_table, cX9_table, 6, (some FieldType.int), 1, 0, 9, (6, 96), (6, 94), (1, 10), (6, 95)),
  (yX9_clearTold, cX9_clearTold, 2, none, 1, 0, 9, (6, 137), (6, 136), (1, 10), (0, 49)),
  (yX9_make, cX9_make, 3, (some FieldType.int), 1, 1, 9, (6, 141), (6, 140), (1, 10), (0, 50)),
  (yX9_makeOver, cX9_makeOver, 4, (some FieldType.int), 1, 3, 9, (6, 133), (6, 132), (1, 10), (0, 48)),
  (yX9_here, cX9_here, 1, (some FieldType.int), 1, 0, 9, (6, 129), (6, 128), (1, 10), (0, 47)),
  (yX9_sees, cX9_sees, 3, (some FieldType.boolean), 1, 1, 9, (6, 125), (6, 124), (1, 10), (0, 46)),
  (yX9_wrong, cX9_wrong, 1, (some FieldType.int), 1, 0, 9, (6, 149), (6, 148), (1, 10), (0, 52)),
  (yX9_must, cX9_must, 2, none, 1, 1, 9, (6, 145), (6, 144), (1, 10), (0, 51)),
  (yX9_signOf, cX9_signOf, 1, (some FieldType.int), 0, 1, 9, (6, 166), (6, 165), (1, 10), (99, 0)),
  (yX9_number, cX9_number, 3, (some FieldType.int), 1, 2, 9, (6, 170), (6, 169), (1, 10), (0, 56))]
def zT_6 : List zRow := [
  (yX9_signHere, cX9_signHere, 1, none, 1, 0, 9, (6, 163), (6, 162), (1, 10), (0, 55)),
  (yX9_severalHere, cX9_severalHere, 4, (some FieldType.int), 1, 1, 9, (6, 159), (6, 158), (1, 10), (0, 54)),
  (yX9_amongHere, cX9_amongHere, 2, (some FieldType.int), 1, 1, 9, (6, 174), (6, 173), (1, 10), (0, 57)),
  (yX9_columnHere, cX9_columnHere, 3, (some FieldType.int), 1, 1, 9, (6, 155), (6, 154), (1, 10), (0, 53)),
  (yX9_turnHere, cX9_turnHere, 3, (some FieldType.int), 1, 0, 9, (6, 121), (6, 120), (1, 10), (0, 45)),
  (yX9_eachHere, cX9_eachHere, 3, (some FieldType.int), 1, 0, 9, (6, 117), (6, 116), (1, 10), (0, 44)),
  (yX9_condHere, cX9_condHere, 3, (some FieldType.int), 1, 0, 9, (6, 113), (6, 112), (1, 10), (0, 43)),
  (yX9_cond, cX9_cond, 1, (some FieldType.int), 1, 0, 9, (6, 109), (6, 107), (1, 10), (6, 108)),
  (yX9_added, cX9_added, 2, (some FieldType.int), 1, 0, 9, (6, 178), (6, 177), (1, 10), (0, 58)),
  (yX9_add, cX9_add, 2, (some FieldType.int), 1, 1, 9, (6, 221), (6, 220), (1, 10), (0, 66)),
  (yX9_tell, cX9_tell, 6, (some FieldType.int), 1, 5, 9, (6, 217), (6, 216), (1, 10), (0, 65)),
  (yX9_isColumn, cX9_isColumn, 1, (some FieldType.boolean), 0, 1, 9, (6, 212), (6, 211), (1, 10), (99, 0)),
  (yX9_test, cX9_test, 4, (some FieldType.int), 1, 3, 9, (6, 209), (6, 207), (1, 10), (6, 208)),
  (yX9_among, cX9_among, 3, (some FieldType.int), 1, 2, 9, (6, 225), (6, 223), (1, 10), (6, 224)),
  (yX9_gone, cX9_gone, 2, (some FieldType.int), 1, 1, 9, (6, 229), (6, 227), (1, 10), (6, 228)),
  (yX9_columns, cX9_columns, 4, (some FieldType.int), 1, 3, 9, (6, 233), (6, 231), (1, 10), (6, 232)),
  (yX9_rest, cX9_rest, 4, (some FieldType.int), 1, 3, 9, (6, 237), (6, 235), (1, 10), (6, 236)),
  (yX9_noRowOf, cX9_noRowOf, 4, (some FieldType.int), 1, 2, 9, (7, 5), (7, 4), (1, 10), (0, 67)),
  (yX9_several, cX9_several, 11, (some FieldType.int), 1, 3, 9, (7, 1), (6, 239), (1, 10), (7, 0)),
  (yX9_pair, cX9_pair, 4, (some FieldType.int), 1, 3, 9, (7, 9), (7, 7), (1, 10), (7, 8)),
  (yX9_turn, cX9_turn, 3, (some FieldType.int), 1, 2, 9, (7, 13), (7, 11), (1, 10), (7, 12)),
  (yX9_drop, cX9_drop, 2, (some FieldType.int), 1, 0, 9, (7, 18), (7, 16), (1, 10), (7, 17)),
  (yX9_condOf, cX9_condOf, 3, (some FieldType.int), 1, 2, 9, (7, 22), (7, 20), (1, 10), (7, 21)),
  (yX9_lineOf, cX9_lineOf, 3, (some FieldType.int), 1, 2, 9, (7, 26), (7, 24), (1, 10), (7, 25)),
  (yX9_isIndex, cX9_isIndex, 1, (some FieldType.boolean), 0, 1, 9, (7, 33), (7, 32), (1, 10), (99, 0)),
  (yX9_keyOf, cX9_keyOf, 3, (some FieldType.int), 1, 2, 9, (7, 30), (7, 28), (1, 10), (7, 29)),
  (yX9_truth, cX9_truth, 4, (some FieldType.int), 1, 3, 9, (7, 48), (7, 46), (1, 10), (7, 47)),
  (yX9_keysOf, cX9_keysOf, 5, (some FieldType.int), 1, 2, 9, (6, 38), (6, 37), (1, 10), (0, 36)),
  (yX9_keys, cX9_keys, 3, (some FieldType.int), 1, 2, 9, (7, 56), (7, 54), (1, 10), (7, 55)),
  (yX9_linesOf, cX9_linesOf, 5, (some FieldType.int), 1, 2, 9, (7, 64), (7, 63), (1, 10), (0, 69)),
  (yX9_lines, cX9_lines, 3, (some FieldType.int), 1, 2, 9, (7, 60), (7, 58), (1, 10), (7, 59)),
  (yX9_valuesOf, cX9_valuesOf, 5, (some FieldType.int), 1, 2, 9, (6, 46), (6, 45), (1, 10), (0, 38)),
  (yX9_values, cX9_values, 3, (some FieldType.int), 1, 2, 9, (7, 72), (7, 70), (1, 10), (7, 71)),
  (yX9_runsIn, cX9_runsIn, 6, none, 1, 2, 9, (7, 80), (7, 79), (1, 10), (0, 71)),
  (yX9_mergeOnce, cX9_mergeOnce, 3, none, 1, 0, 9, (7, 100), (7, 99), (1, 10), (0, 74)),
  (yX9_planIn, cX9_planIn, 4, none, 1, 3, 9, (7, 96), (7, 95), (1, 10), (0, 73)),
  (yX9_spanAt, cX9_spanAt, 2, (some FieldType.int), 1, 1, 9, (7, 88), (7, 87), (1, 10), (0, 72)),
  (yX9_runs, cX9_runs, 3, (some FieldType.int), 1, 2, 9, (7, 76), (7, 74), (1, 10), (7, 75)),
  (yX9_run, cX9_run, 4, (some FieldType.int), 1, 3, 9, (7, 84), (7, 82), (1, 10), (7, 83)),
  (yX9_plan, cX9_plan, 5, (some FieldType.int), 1, 4, 9, (7, 92), (7, 90), (1, 10), (7, 91))]
def zT_7 : List zRow := [
  (yX9_isRead, cX9_isRead, 3, (some FieldType.boolean), 1, 1, 9, (7, 116), (7, 115), (1, 10), (0, 77)),
  (yX9_readIn, cX9_readIn, 6, (some FieldType.int), 1, 3, 9, (7, 112), (7, 111), (1, 10), (0, 76)),
  (yX9_otherKeys, cX9_otherKeys, 6, (some FieldType.int), 1, 2, 9, (7, 108), (7, 107), (1, 10), (0, 75)),
  (yX9_still, cX9_still, 5, (some FieldType.int), 1, 2, 9, (7, 124), (7, 123), (1, 10), (0, 79)),
  (yX9_costIn, cX9_costIn, 3, (some FieldType.int), 1, 2, 9, (7, 120), (7, 119), (1, 10), (0, 78)),
  (yX9_of, cX9_of, 5, (some FieldType.int), 1, 4, 9, (7, 104), (7, 102), (1, 10), (7, 103)),
  (yX9_bestIn, cX9_bestIn, 6, (some FieldType.int), 1, 2, 9, (7, 132), (7, 131), (1, 10), (0, 80)),
  (yX9_best, cX9_best, 5, (some FieldType.int), 1, 3, 9, (7, 128), (7, 126), (1, 10), (7, 127)),
  (yX9_bestIndex, cX9_bestIndex, 6, (some FieldType.int), 1, 2, 9, (7, 136), (7, 134), (1, 10), (7, 135)),
  (yX9_seek, cX9_seek, 8, (some FieldType.int), 1, 4, 9, (7, 140), (7, 138), (1, 10), (7, 139)),
  (yX9_leads, cX9_leads, 7, (some FieldType.boolean), 1, 5, 9, (7, 148), (7, 147), (1, 10), (0, 81)),
  (yX9_leaders, cX9_leaders, 8, (some FieldType.int), 1, 4, 9, (7, 144), (7, 142), (1, 10), (7, 143)),
  (yX9_without, cX9_without, 2, (some FieldType.int), 0, 2, 9, (7, 163), (7, 162), (1, 10), (99, 0)),
  (yX9_isAhead, cX9_isAhead, 7, (some FieldType.boolean), 1, 4, 9, (7, 160), (7, 159), (1, 10), (0, 83)),
  (yX9_findIn, cX9_findIn, 7, none, 1, 3, 9, (7, 156), (7, 155), (1, 10), (0, 82)),
  (yX9_found, cX9_found, 4, (some FieldType.int), 1, 3, 9, (7, 152), (7, 150), (1, 10), (7, 151)),
  (yX9_order, cX9_order, 5, (some FieldType.int), 1, 4, 9, (7, 167), (7, 165), (1, 10), (7, 166)),
  (yX9_behind, cX9_behind, 6, (some FieldType.int), 1, 3, 9, (7, 171), (7, 169), (1, 10), (7, 170)),
  (yX9_implies, cX9_implies, 4, (some FieldType.int), 1, 2, 9, (7, 175), (7, 173), (1, 10), (7, 174)),
  (yX9_differ, cX9_differ, 4, (some FieldType.int), 1, 2, 9, (7, 183), (7, 182), (1, 10), (0, 84)),
  (yX9_alike, cX9_alike, 3, (some FieldType.int), 1, 2, 9, (7, 179), (7, 177), (1, 10), (7, 178)),
  (yX9_same, cX9_same, 3, (some FieldType.int), 1, 1, 9, (7, 187), (7, 185), (1, 10), (7, 186)),
  (yX9_isTold, cX9_isTold, 9, (some FieldType.boolean), 1, 5, 9, (7, 195), (7, 194), (1, 10), (0, 85)),
  (yX9_signs, cX9_signs, 8, (some FieldType.int), 1, 4, 9, (7, 191), (7, 189), (1, 10), (7, 190)),
  (yX9_judge, cX9_judge, 7, (some FieldType.int), 1, 4, 9, (7, 199), (7, 197), (1, 10), (7, 198)),
  (yX9_many, cX9_many, 5, (some FieldType.int), 1, 2, 9, (7, 203), (7, 201), (1, 10), (7, 202)),
  (yX9_whatIf, cX9_whatIf, 7, (some FieldType.int), 1, 4, 9, (7, 207), (7, 205), (1, 10), (7, 206)),
  (yX9_draw, cX9_draw, 2, (some FieldType.int), 1, 1, 9, (7, 216), (7, 215), (1, 10), (0, 86)),
  (yX9_days, cX9_days, 7, (some FieldType.int), 1, 1, 9, (7, 211), (7, 209), (1, 10), (7, 210)),
  (yX9_seed, cX9_seed, 3, (some FieldType.int), 1, 1, 9, (7, 221), (7, 219), (1, 10), (7, 220)),
  (yX9_take, cX9_take, 3, none, 0, 2, 9, (7, 228), (7, 227), (1, 10), (99, 0)),
  (yX9_image, cX9_image, 1, (some FieldType.int), 1, 0, 9, (7, 225), (7, 223), (1, 10), (7, 224)),
  (yX9_back, cX9_back, 2, (some FieldType.int), 1, 0, 9, (7, 232), (7, 230), (1, 10), (7, 231)),
  (yX9_differentKeys, cX9_differentKeys, 4, (some FieldType.int), 1, 0, 9, (8, 0), (7, 239), (1, 10), (0, 87)),
  (yX9_status, cX9_status, 4, (some FieldType.int), 1, 1, 9, (7, 236), (7, 234), (1, 10), (7, 235)),
  (yJ6_bitCount_0f7a4, cJ6_bitCount_0f7a4, 1, (some FieldType.int), 0, 1, 11, (2, 168), (2, 167), (1, 12), (99, 0)),
  (yJ9_max_7cf53, cJ9_max_7cf53, 2, (some FieldType.int), 0, 2, 12, (3, 195), (3, 194), (1, 13), (99, 0)),
  (yJ9_min_7cf53, cJ9_min_7cf53, 2, (some FieldType.int), 0, 2, 12, (3, 159), (3, 158), (1, 13), (99, 0)),
  (yL_law, code, maxLocals, ret, 3, 1, 10, (99, 0), (99, 0), (99, 0), (99, 0))]
def zTn : Nat := 318
def zNone : zRow := (yL_law, code, maxLocals, ret, 9, 1, 99, (99, 0), (99, 0), (99, 0), (99, 0))
def zrow (k : Nat) : zRow := match k / 40 with
  | 0 => (zT_0[k % 40]?).getD zNone
  | 1 => (zT_1[k % 40]?).getD zNone
  | 2 => (zT_2[k % 40]?).getD zNone
  | 3 => (zT_3[k % 40]?).getD zNone
  | 4 => (zT_4[k % 40]?).getD zNone
  | 5 => (zT_5[k % 40]?).getD zNone
  | 6 => (zT_6[k % 40]?).getD zNone
  | 7 => (zT_7[k % 40]?).getD zNone
  | _ => zNone
def zcn (c : Nat) : String := match c with
  | 0 => RX0
  | 1 => RX1
  | 2 => RX2
  | 3 => RX3
  | 4 => RX4
  | 5 => RX5
  | 6 => RX6
  | 7 => RX7
  | 8 => RX8
  | 9 => RX9
  | 10 => RL
  | 11 => RJ6
  | 12 => RJ9
  | 13 => RJ10
  | _ => "-"
def zpart (i : Nat) : List Cond := match i with
  | 0 => k2_sels lw_privs
  | 1 => tables_1_1
  | 2 => tables_1_2
  | 3 => tables_1_3
  | 4 => tables_1_4
  | 5 => tables_1_5
  | 6 => tables_1_6
  | 7 => tables_1_7
  | 8 => tables_1_8
  | _ => []
def zMl_0 : List (Nat × (Nat × Nat × zPos)) := [(3, (1000, 0, (1, 60))), (44, (181, 1, (3, 115))), (48, (1, 0, (5, 71))), (52, (2, 0, (5, 72))), (62, (1001, 0, (5, 73))), (68, (9, 0, (3, 164))), (72, (316, 0, (3, 193))), (78, (14, 0, (3, 196))), (81, (10, 0, (3, 168))), (84, (189, 1, (3, 172))), (88, (11, 0, (3, 175))), (92, (12, 0, (3, 178))), (95, (13, 0, (3, 182))), (101, (15, 0, (3, 186))), (104, (18, 0, (2, 156))), (107, (19, 0, (2, 160))), (110, (315, 0, (2, 166)))]
def zMl_1 : List (Nat × (Nat × Nat × zPos)) := [(3, (1000, 0, (1, 53))), (17, (0, 0, (1, 57))), (25, (6, 0, (5, 67))), (29, (181, 1, (2, 127))), (33, (24, 0, (3, 69))), (37, (1, 0, (3, 70))), (41, (317, 0, (3, 157))), (50, (7, 0, (3, 160))), (60, (8, 0, (3, 189)))]
def zMl_2 : List (Nat × (Nat × Nat × zPos)) := [(3, (1000, 0, (1, 27))), (25, (1001, 0, (2, 217))), (31, (181, 1, (2, 199))), (35, (35, 0, (2, 187))), (39, (36, 0, (2, 183))), (43, (33, 0, (2, 216))), (50, (34, 0, (4, 41))), (60, (39, 0, (4, 75))), (63, (40, 0, (4, 71))), (67, (44, 0, (5, 44))), (71, (37, 0, (5, 49))), (74, (38, 0, (5, 50)))]
def zMl_3 : List (Nat × (Nat × Nat × zPos)) := [(3, (1000, 0, (1, 239))), (22, (40, 0, (4, 204))), (26, (39, 0, (4, 205))), (30, (46, 0, (4, 206))), (34, (48, 0, (4, 209))), (38, (49, 0, (4, 230)))]
def zMl_4 : List (Nat × (Nat × Nat × zPos)) := [(3, (1000, 0, (1, 167))), (23, (107, 0, (3, 6))), (30, (53, 0, (3, 10))), (34, (108, 0, (3, 14))), (38, (109, 0, (3, 24))), (41, (112, 0, (3, 18))), (45, (181, 1, (3, 36))), (55, (58, 0, (3, 45))), (59, (57, 0, (3, 82))), (63, (62, 0, (3, 85))), (67, (25, 0, (3, 89))), (73, (67, 0, (3, 93))), (77, (27, 0, (3, 74))), (80, (60, 0, (3, 133))), (84, (59, 0, (3, 137))), (88, (61, 0, (3, 49))), (92, (63, 0, (3, 53))), (95, (64, 0, (3, 57))), (98, (66, 0, (3, 61))), (101, (26, 0, (3, 65))), (105, (65, 0, (3, 78))), (108, (110, 0, (3, 96))), (111, (2, 0, (3, 100))), (117, (111, 0, (3, 104))), (120, (68, 0, (3, 108))), (123, (69, 0, (3, 120))), (129, (70, 0, (3, 123))), (132, (71, 0, (3, 126))), (138, (4, 0, (3, 111))), (141, (5, 0, (3, 116))), (147, (3, 0, (3, 129)))]
def zMl_5 : List (Nat × (Nat × Nat × zPos)) := [(3, (1000, 0, (1, 132))), (22, (181, 1, (2, 52))), (26, (79, 0, (2, 91))), (30, (87, 0, (2, 80))), (34, (1001, 0, (2, 100))), (40, (77, 0, (4, 19)))]
def zMl_6 : List (Nat × (Nat × Nat × zPos)) := [(3, (1000, 0, (1, 192))), (48, (188, 1, (4, 89))), (52, (317, 0, (4, 106))), (57, (94, 0, (4, 115))), (61, (95, 0, (4, 111))), (64, (316, 0, (4, 119))), (67, (181, 1, (4, 145))), (71, (98, 0, (4, 141))), (77, (39, 0, (4, 136))), (80, (99, 0, (4, 137))), (87, (103, 0, (4, 163)))]
def zMl_7 : List (Nat × (Nat × Nat × zPos)) := [(3, (1000, 0, (1, 149))), (22, (108, 0, (3, 22))), (26, (181, 1, (3, 23)))]
def zMl_8 : List (Nat × (Nat × Nat × zPos)) := [(1, (1000, 0, (1, 19))), (9, (31, 0, (1, 24))), (21, (21, 0, (1, 50))), (31, (72, 0, (1, 129))), (38, (104, 0, (1, 146))), (45, (51, 0, (1, 164))), (52, (90, 0, (1, 189))), (59, (45, 0, (1, 236))), (76, (73, 0, (2, 49))), (80, (181, 0, (2, 55))), (84, (168, 0, (2, 56))), (88, (78, 0, (2, 60))), (92, (79, 0, (2, 68))), (95, (82, 0, (2, 72))), (99, (85, 0, (2, 76))), (103, (81, 0, (2, 87))), (107, (83, 0, (2, 92))), (110, (86, 0, (2, 96))), (114, (84, 0, (2, 107))), (118, (74, 0, (2, 115))), (121, (23, 0, (2, 123))), (124, (75, 0, (2, 128))), (128, (76, 0, (2, 132))), (132, (77, 0, (2, 140))), (135, (24, 0, (2, 144))), (139, (16, 0, (2, 148))), (144, (17, 0, (2, 152))), (147, (186, 0, (2, 176))), (154, (37, 0, (2, 179))), (157, (33, 0, (2, 195))), (158, (182, 0, (2, 200))), (161, (34, 0, (2, 203))), (164, (35, 0, (2, 207))), (166, (38, 0, (2, 212))), (175, (105, 0, (2, 226))), (178, (106, 0, (2, 234))), (181, (52, 0, (3, 2))), (188, (54, 0, (3, 28))), (192, (55, 0, (3, 32))), (195, (56, 0, (3, 41))), (199, (29, 0, (3, 141))), (202, (169, 0, (3, 145))), (205, (184, 0, (3, 204))), (208, (187, 0, (3, 207))), (211, (25, 0, (3, 210))), (215, (2, 0, (3, 211))), (221, (80, 0, (3, 232))), (224, (171, 0, (3, 236))), (227, (26, 0, (4, 6))), (231, (88, 0, (4, 15))), (255, (183, 0, (4, 32))), (258, (39, 0, (4, 35))), (261, (170, 0, (4, 46))), (268, (188, 0, (4, 50))), (271, (185, 0, (4, 59))), (274, (18, 0, (4, 62))), (277, (41, 0, (4, 67))), (281, (19, 0, (4, 80))), (284, (91, 0, (4, 85))), (289, (92, 0, (4, 94))), (292, (93, 0, (4, 102))), (295, (96, 0, (4, 107))), (298, (97, 0, (4, 120))), (301, (100, 0, (4, 128))), (304, (101, 0, (4, 132))), (308, (174, 0, (4, 146))), (311, (102, 0, (4, 159))), (321, (176, 0, (4, 175))), (325, (177, 0, (4, 179))), (328, (179, 0, (4, 187))), (331, (40, 0, (4, 191))), (334, (180, 0, (4, 192))), (337, (47, 0, (4, 200))), (342, (49, 0, (4, 213))), (345, (46, 0, (4, 225))), (349, (50, 0, (4, 226))), (352, (20, 0, (4, 239))), (356, (172, 0, (5, 11))), (359, (173, 0, (5, 15))), (363, (42, 0, (5, 28))), (366, (43, 0, (5, 40))), (372, (32, 0, (5, 59))), (376, (22, 0, (5, 63))), (379, (178, 0, (5, 82))), (382, (89, 0, (5, 86))), (385, (28, 0, (3, 149))), (389, (30, 0, (3, 153))), (396, (189, 0, (5, 19))), (399, (175, 0, (4, 150))), (403, (99, 0, (4, 154))), (406, (316, 0, (4, 178))), (411, (317, 0, (4, 182)))]
def zMl_9 : List (Nat × (Nat × Nat × zPos)) := [(1, (1000, 0, (5, 95))), (96, (192, 0, (5, 227))), (109, (191, 0, (5, 232))), (113, (198, 0, (6, 0))), (116, (197, 0, (6, 4))), (120, (193, 0, (6, 23))), (126, (204, 0, (6, 32))), (130, (267, 0, (6, 35))), (134, (271, 0, (6, 43))), (137, (195, 0, (6, 50))), (140, (206, 0, (7, 42))), (143, (208, 0, (7, 39))), (146, (207, 0, (6, 47))), (149, (210, 0, (7, 35))), (152, (211, 0, (6, 39))), (155, (213, 0, (6, 203))), (159, (214, 0, (6, 199))), (162, (215, 0, (6, 195))), (165, (217, 0, (6, 183))), (169, (218, 0, (6, 187))), (172, (216, 0, (6, 191))), (177, (220, 0, (6, 58))), (181, (194, 0, (6, 66))), (186, (223, 0, (6, 75))), (200, (228, 0, (6, 101))), (203, (229, 0, (6, 97))), (213, (231, 0, (6, 134))), (216, (232, 0, (6, 138))), (225, (234, 0, (6, 126))), (228, (235, 0, (6, 122))), (231, (236, 0, (6, 146))), (234, (238, 0, (6, 164))), (241, (240, 0, (6, 160))), (244, (239, 0, (6, 167))), (247, (237, 0, (6, 142))), (250, (241, 0, (6, 156))), (253, (242, 0, (6, 171))), (256, (244, 0, (6, 118))), (259, (233, 0, (6, 130))), (262, (246, 0, (6, 110))), (265, (243, 0, (6, 152))), (268, (245, 0, (6, 114))), (271, (248, 0, (6, 175))), (274, (219, 0, (6, 179))), (277, (249, 0, (6, 218))), (280, (251, 0, (6, 210))), (285, (250, 0, (6, 214))), (289, (257, 0, (7, 2))), (296, (264, 0, (7, 31))), (301, (209, 0, (7, 50))), (304, (212, 0, (7, 65))), (307, (269, 0, (7, 61))), (313, (273, 0, (7, 77))), (317, (274, 0, (7, 97))), (320, (276, 0, (7, 85))), (323, (275, 0, (7, 93))), (327, (280, 0, (7, 113))), (330, (282, 0, (7, 105))), (333, (281, 0, (7, 109))), (337, (284, 0, (7, 117))), (340, (283, 0, (7, 121))), (346, (286, 0, (7, 129))), (349, (290, 0, (7, 145))), (353, (292, 0, (7, 161))), (359, (293, 0, (7, 157))), (363, (294, 0, (7, 153))), (366, (299, 0, (7, 180))), (369, (302, 0, (7, 192))), (376, (307, 0, (7, 213))), (395, (310, 0, (7, 226))), (399, (313, 0, (7, 237)))]
def zMl_10 : List (Nat × (Nat × Nat × zPos)) := [(9, (113, 0, (1, 16))), (12, (190, 0, (5, 92))), (13, (114, 0, (2, 45))), (17, (196, 0, (5, 222))), (20, (115, 0, (2, 64))), (24, (199, 0, (5, 236))), (25, (116, 0, (2, 83))), (29, (200, 0, (6, 7))), (30, (117, 0, (2, 103))), (34, (201, 0, (6, 11))), (35, (118, 0, (2, 111))), (39, (202, 0, (6, 15))), (40, (119, 0, (2, 119))), (44, (203, 0, (6, 19))), (45, (120, 0, (2, 136))), (48, (205, 0, (6, 27))), (49, (121, 0, (2, 172))), (52, (221, 0, (6, 53))), (53, (122, 0, (2, 191))), (56, (222, 0, (6, 62))), (57, (123, 0, (2, 208))), (60, (224, 0, (6, 71))), (61, (124, 0, (2, 218))), (64, (225, 0, (6, 79))), (65, (125, 0, (2, 222))), (68, (226, 0, (6, 84))), (69, (126, 0, (2, 230))), (73, (227, 0, (6, 89))), (74, (127, 0, (2, 238))), (77, (230, 0, (6, 93))), (78, (128, 0, (3, 37))), (81, (247, 0, (6, 106))), (82, (129, 0, (3, 200))), (85, (252, 0, (6, 206))), (86, (130, 0, (3, 212))), (89, (253, 0, (6, 222))), (90, (131, 0, (3, 216))), (93, (254, 0, (6, 226))), (94, (132, 0, (3, 220))), (97, (255, 0, (6, 230))), (98, (133, 0, (3, 224))), (101, (256, 0, (6, 234))), (102, (134, 0, (3, 228))), (105, (258, 0, (6, 238))), (106, (135, 0, (4, 2))), (109, (259, 0, (7, 6))), (110, (136, 0, (4, 7))), (113, (260, 0, (7, 10))), (114, (137, 0, (4, 11))), (117, (261, 0, (7, 15))), (118, (138, 0, (4, 20))), (121, (262, 0, (7, 19))), (122, (139, 0, (4, 24))), (125, (263, 0, (7, 23))), (126, (140, 0, (4, 28))), (129, (265, 0, (7, 27))), (130, (141, 0, (4, 42))), (133, (266, 0, (7, 45))), (134, (142, 0, (4, 55))), (137, (268, 0, (7, 53))), (138, (143, 0, (4, 63))), (141, (270, 0, (7, 57))), (142, (144, 0, (4, 76))), (145, (272, 0, (7, 69))), (146, (145, 0, (4, 81))), (149, (277, 0, (7, 73))), (150, (146, 0, (4, 90))), (153, (278, 0, (7, 81))), (154, (147, 0, (4, 98))), (158, (279, 0, (7, 89))), (159, (148, 0, (4, 124))), (162, (285, 0, (7, 101))), (163, (149, 0, (4, 155))), (166, (287, 0, (7, 125))), (167, (150, 0, (4, 167))), (170, (288, 0, (7, 133))), (171, (151, 0, (4, 171))), (174, (289, 0, (7, 137))), (175, (152, 0, (4, 183))), (178, (291, 0, (7, 141))), (179, (153, 0, (4, 196))), (182, (295, 0, (7, 149))), (183, (154, 0, (4, 217))), (186, (296, 0, (7, 164))), (187, (155, 0, (4, 221))), (190, (297, 0, (7, 168))), (191, (156, 0, (4, 231))), (194, (298, 0, (7, 172))), (195, (157, 0, (4, 235))), (198, (300, 0, (7, 176))), (199, (158, 0, (5, 3))), (202, (301, 0, (7, 184))), (203, (159, 0, (5, 7))), (206, (303, 0, (7, 188))), (207, (160, 0, (5, 20))), (210, (304, 0, (7, 196))), (211, (161, 0, (5, 24))), (214, (305, 0, (7, 200))), (215, (162, 0, (5, 32))), (218, (306, 0, (7, 204))), (219, (163, 0, (5, 36))), (222, (308, 0, (7, 208))), (223, (164, 0, (5, 51))), (226, (309, 0, (7, 218))), (227, (165, 0, (5, 55))), (230, (311, 0, (7, 222))), (231, (166, 0, (5, 74))), (234, (312, 0, (7, 229))), (235, (167, 0, (5, 78))), (238, (314, 0, (7, 233)))]
def zMl (c : Nat) : List (Nat × (Nat × Nat × zPos)) := match c with
  | 0 => zMl_0
  | 1 => zMl_1
  | 2 => zMl_2
  | 3 => zMl_3
  | 4 => zMl_4
  | 5 => zMl_5
  | 6 => zMl_6
  | 7 => zMl_7
  | 8 => zMl_8
  | 9 => zMl_9
  | 10 => zMl_10
  | _ => []
def zFl_0 : List (Nat × (Nat × Nat × zPos)) := [(9, (0, 8, (1, 83))), (15, (0, 10, (1, 88))), (19, (0, 11, (1, 89))), (22, (0, 0, (1, 61))), (26, (0, 1, (1, 65))), (29, (0, 2, (1, 68))), (32, (0, 3, (1, 71))), (35, (0, 4, (1, 74))), (38, (0, 5, (1, 77))), (41, (0, 9, (1, 87))), (56, (0, 6, (1, 79))), (59, (0, 7, (1, 81)))]
def zFl_1 : List (Nat × (Nat × Nat × zPos)) := [(13, (1, 0, (1, 116))), (18, (1, 1, (1, 117))), (22, (1, 2, (1, 119))), (47, (0, 0, (1, 62))), (54, (0, 2, (1, 69))), (57, (0, 3, (1, 72)))]
def zFl_2 : List (Nat × (Nat × Nat × zPos)) := [(11, (2, 0, (1, 28))), (15, (2, 1, (1, 29))), (19, (2, 2, (1, 33))), (22, (2, 3, (1, 36))), (54, (0, 8, (1, 85)))]
def zFl_3 : List (Nat × (Nat × Nat × zPos)) := [(11, (3, 0, (2, 0))), (17, (3, 1, (2, 1))), (21, (2, 1, (1, 30)))]
def zFl_4 : List (Nat × (Nat × Nat × zPos)) := [(11, (4, 0, (1, 168))), (17, (4, 2, (1, 170))), (20, (4, 4, (1, 172))), (26, (4, 1, (1, 169))), (49, (4, 3, (1, 171))), (52, (4, 5, (1, 173))), (126, (0, 0, (1, 63))), (135, (0, 1, (1, 66))), (144, (0, 4, (1, 75)))]
def zFl_5 : List (Nat × (Nat × Nat × zPos)) := [(11, (5, 0, (1, 133))), (15, (5, 1, (1, 134))), (18, (5, 2, (1, 135)))]
def zFl_6 : List (Nat × (Nat × Nat × zPos)) := [(9, (6, 0, (1, 193))), (15, (6, 1, (1, 194))), (19, (6, 2, (1, 195))), (22, (6, 3, (1, 196))), (25, (6, 4, (1, 197))), (28, (6, 5, (1, 198))), (31, (6, 6, (1, 199))), (34, (6, 7, (1, 200))), (38, (6, 8, (1, 201))), (41, (6, 9, (1, 202))), (45, (0, 8, (1, 84))), (74, (2, 1, (1, 32))), (84, (2, 2, (1, 35))), (91, (6, 10, (1, 204))), (94, (6, 11, (1, 206)))]
def zFl_7 : List (Nat × (Nat × Nat × zPos)) := [(11, (7, 0, (1, 150))), (15, (7, 1, (1, 151))), (19, (7, 2, (1, 153)))]
def zFl_8 : List (Nat × (Nat × Nat × zPos)) := [(10, (8, 0, (2, 8))), (16, (8, 1, (2, 9))), (22, (8, 2, (2, 10))), (26, (8, 3, (2, 11))), (32, (8, 4, (2, 12))), (39, (8, 5, (2, 13))), (46, (8, 6, (2, 14))), (53, (8, 7, (2, 15))), (60, (8, 8, (2, 16))), (64, (8, 9, (2, 17))), (68, (8, 10, (2, 18))), (72, (8, 11, (2, 19))), (150, (2, 1, (1, 31))), (169, (2, 2, (1, 34))), (172, (7, 1, (1, 152))), (185, (7, 2, (1, 154))), (218, (0, 4, (1, 76))), (230, (1, 1, (1, 118))), (234, (0, 0, (1, 64))), (237, (0, 2, (1, 70))), (240, (0, 3, (1, 73))), (243, (0, 5, (1, 78))), (246, (0, 1, (1, 67))), (249, (0, 6, (1, 80))), (252, (0, 7, (1, 82))), (264, (0, 8, (1, 86))), (288, (6, 9, (1, 203))), (315, (6, 10, (1, 205))), (318, (6, 11, (1, 207))), (341, (3, 1, (2, 2))), (369, (2, 3, (1, 37)))]
def zFl_9 : List (Nat × (Nat × Nat × zPos)) := [(7, (9, 0, (5, 98))), (13, (9, 1, (5, 99))), (16, (9, 2, (5, 100))), (21, (9, 3, (5, 101))), (24, (9, 4, (5, 102))), (28, (9, 5, (5, 103))), (31, (9, 6, (5, 104))), (34, (9, 8, (5, 106))), (37, (9, 11, (5, 109))), (41, (9, 12, (5, 110))), (44, (9, 13, (5, 111))), (47, (9, 14, (5, 112))), (50, (9, 15, (5, 113))), (53, (9, 16, (5, 114))), (56, (9, 22, (5, 120))), (59, (9, 23, (5, 121))), (62, (9, 24, (5, 122))), (65, (9, 25, (5, 123))), (68, (9, 26, (5, 124))), (72, (9, 27, (5, 125))), (75, (9, 28, (5, 126))), (78, (9, 29, (5, 127))), (81, (9, 30, (5, 128))), (84, (9, 31, (5, 129))), (87, (9, 33, (5, 131))), (90, (9, 38, (5, 136))), (93, (9, 10, (5, 108))), (100, (9, 9, (5, 107))), (193, (9, 7, (5, 105))), (207, (9, 39, (5, 137))), (210, (9, 37, (5, 135))), (219, (9, 35, (5, 133))), (222, (9, 36, (5, 134))), (310, (9, 32, (5, 130))), (343, (9, 40, (5, 138))), (356, (9, 34, (5, 132))), (379, (9, 17, (5, 115))), (383, (9, 18, (5, 116))), (386, (9, 19, (5, 117))), (389, (9, 20, (5, 118))), (392, (9, 21, (5, 119)))]
def zFl (c : Nat) : List (Nat × (Nat × Nat × zPos)) := match c with
  | 0 => zFl_0
  | 1 => zFl_1
  | 2 => zFl_2
  | 3 => zFl_3
  | 4 => zFl_4
  | 5 => zFl_5
  | 6 => zFl_6
  | 7 => zFl_7
  | 8 => zFl_8
  | 9 => zFl_9
  | _ => []
def zSl_0 : List (Nat × (Nat × Nat × zPos)) := [(98, (2, 1, (2, 164)))]
def zSl_2 : List (Nat × (Nat × Nat × zPos)) := [(47, (1, 1, (4, 39)))]
def zSl_8 : List (Nat × (Nat × Nat × zPos)) := [(414, (2, 0, (4, 53))), (417, (1, 0, (4, 54)))]
def zSl (c : Nat) : List (Nat × (Nat × Nat × zPos)) := match c with
  | 0 => zSl_0
  | 2 => zSl_2
  | 8 => zSl_8
  | _ => []
def zKl_2 : List (Nat × (Nat × Int × zPos)) := [(78, (0, 1103515245, (5, 48)))]
def zKl_8 : List (Nat × (Nat × Int × zPos)) := [(392, (1, 3, (4, 0))), (394, (1, 9, (4, 1)))]
def zKl_9 : List (Nat × (Nat × Int × zPos)) := [(103, (1, 7, (5, 226))), (105, (1, 4, (5, 230))), (107, (1, 40, (5, 231))), (124, (1, 6, (6, 31))), (175, (1, 9, (6, 57))), (184, (1, 2, (6, 70))), (189, (1, 20, (6, 83))), (191, (1, 255, (6, 88))), (196, (1, 49, (6, 104))), (198, (1, 57, (6, 105))), (237, (1, 97, (6, 150))), (239, (1, 99, (6, 151))), (283, (1, 3, (6, 213))), (292, (1, 8, (7, 14))), (294, (1, 5, (7, 34))), (299, (1, 999, (7, 49))), (373, (0, 1103515245, (7, 217))), (374, (1, 60, (7, 212))), (402, (1, 12, (8, 1))), (404, (1, 16, (8, 2)))]
def zKl_10 : List (Nat × (Nat × Int × zPos)) := [(18, (1, 4294967295, (8, 3)))]
def zKl_11 : List (Nat × (Nat × Int × zPos)) := [(265, (0, 1431655765, (2, 169))), (266, (0, 858993459, (2, 170))), (267, (0, 252645135, (2, 171)))]
def zKl (c : Nat) : List (Nat × (Nat × Int × zPos)) := match c with
  | 2 => zKl_2
  | 8 => zKl_8
  | 9 => zKl_9
  | 10 => zKl_10
  | 11 => zKl_11
  | _ => []
def zCl_1 : List (Nat × (Nat × zPos)) := [(11, (0, (1, 54)))]
def zCl_8 : List (Nat × (Nat × zPos)) := [(7, (2, (1, 22))), (19, (1, (1, 48))), (29, (5, (1, 127))), (36, (7, (1, 144))), (43, (4, (1, 162))), (50, (6, (1, 187))), (57, (3, (1, 234)))]
def zCl_9 : List (Nat × (Nat × zPos)) := [(19, (100, (5, 96)))]
def zCl_10 : List (Nat × (Nat × zPos)) := [(7, (8, (1, 14))), (10, (9, (5, 90)))]
def zCl (c : Nat) : List (Nat × (Nat × zPos)) := match c with
  | 1 => zCl_1
  | 8 => zCl_8
  | 9 => zCl_9
  | 10 => zCl_10
  | _ => []
def zCw_0 : List zPos := [(1, 90), (1, 92), (1, 94), (1, 96), (1, 98), (1, 100), (1, 102), (1, 104), (1, 106), (1, 108), (1, 110), (1, 112)]
def zCi_0 : zPos := (1, 56)
def zCw_1 : List zPos := [(1, 120), (1, 122), (1, 124)]
def zCi_1 : zPos := (1, 49)
def zCw_2 : List zPos := [(1, 38), (1, 40), (1, 42), (1, 44)]
def zCi_2 : zPos := (1, 23)
def zCw_3 : List zPos := [(2, 3), (2, 5)]
def zCi_3 : zPos := (1, 235)
def zCw_4 : List zPos := [(1, 174), (1, 176), (1, 178), (1, 180), (1, 182), (1, 184)]
def zCi_4 : zPos := (1, 163)
def zCw_5 : List zPos := [(1, 136), (1, 138), (1, 140)]
def zCi_5 : zPos := (1, 128)
def zCw_6 : List zPos := [(1, 208), (1, 210), (1, 212), (1, 214), (1, 216), (1, 218), (1, 220), (1, 222), (1, 224), (1, 226), (1, 228), (1, 230)]
def zCi_6 : zPos := (1, 188)
def zCw_7 : List zPos := [(1, 155), (1, 157), (1, 159)]
def zCi_7 : zPos := (1, 145)
def zCw_8 : List zPos := [(2, 20), (2, 22), (2, 24), (2, 26), (2, 28), (2, 30), (2, 32), (2, 34), (2, 36), (2, 38), (2, 40), (2, 42)]
def zCi_8 : zPos := (1, 15)
def zCw_9 : List zPos := [(5, 139), (5, 141), (5, 143), (5, 145), (5, 147), (5, 149), (5, 151), (5, 153), (5, 155), (5, 157), (5, 159), (5, 161), (5, 163), (5, 165), (5, 167), (5, 169), (5, 171), (5, 173), (5, 175), (5, 177), (5, 179), (5, 181), (5, 183), (5, 185), (5, 187), (5, 189), (5, 191), (5, 193), (5, 195), (5, 197), (5, 199), (5, 201), (5, 203), (5, 205), (5, 207), (5, 209), (5, 211), (5, 213), (5, 215), (5, 217), (5, 219)]
def zCi_9 : zPos := (5, 91)
end
section
/-! ===== the decoded code, and the checks of the tables, by program ===== -/
def zlk {α : Type} : List (Nat × α) → Nat → Option α
  | [], _ => none
  | q :: l, n => bif Nat.beq q.1 n then some q.2 else zlk l n
theorem zlk_mem {α : Type} : ∀ (l : List (Nat × α)) (n : Nat) (x : α), zlk l n = some x → (n, x) ∈ l
  | [], _, _, h => by cases h
  | q :: l, n, x, h => by
    unfold zlk at h
    cases hb : Nat.beq q.1 n with
    | true =>
      rw [hb] at h
      have e : q.1 = n := Nat.eq_of_beq_eq_true hb
      cases h
      rw [← e]
      exact List.mem_cons_self
    | false =>
      rw [hb] at h
      exact List.mem_cons_of_mem _ (zlk_mem l n x h)
abbrev zIns : Type := List (Nat × Instr × Nat)
def zi_0 : zIns := [(0, .aload_n 0, 1), (1, .invokespecial 3, 3), (4, .aload_n 0, 1), (5, .sipush 1000, 3), (8, .newarray .byte, 2), (10, .putfield 9, 3), (13, .aload_n 0, 1), (14, .iconst 3, 1), (15, .newarray .int, 2), (17, .putfield 15, 3), (20, .aload_n 0, 1), (21, .iconst 3, 1), (22, .newarray .int, 2), (24, .putfield 19, 3), (27, .return_, 1)]
def zi_1 : zIns := [(0, .aload_n 0, 1), (1, .iload_n 1, 1), (2, .putfield 22, 3), (5, .aload_n 0, 1), (6, .iload_n 2, 1), (7, .putfield 26, 3), (10, .aload_n 0, 1), (11, .iload_n 3, 1), (12, .putfield 29, 3), (15, .aload_n 0, 1), (16, .iload 4, 2), (18, .putfield 32, 3), (21, .aload_n 0, 1), (22, .iconst 0, 1), (23, .putfield 35, 3), (26, .aload_n 0, 1), (27, .iconst 0, 1), (28, .putfield 38, 3), (31, .aload_n 0, 1), (32, .iconst 0, 1), (33, .putfield 41, 3), (36, .return_, 1)]
def zi_2 : zIns := [(0, .aload_n 0, 1), (1, .getfield 41, 3), (4, .iconst 3, 1), (5, .if_icmp .ge 45, 3), (8, .aload_n 0, 1), (9, .getfield 15, 3), (12, .aload_n 0, 1), (13, .getfield 41, 3), (16, .iload_n 1, 1), (17, .iastore, 1), (18, .aload_n 0, 1), (19, .getfield 19, 3), (22, .aload_n 0, 1), (23, .getfield 41, 3), (26, .iload_n 2, 1), (27, .iastore, 1), (28, .aload_n 0, 1), (29, .dup, 1), (30, .getfield 38, 3), (33, .iconst 1, 1), (34, .iload_n 1, 1), (35, .ishl, 1), (36, .ior, 1), (37, .putfield 38, 3), (40, .aload_n 0, 1), (41, .dup, 1), (42, .getfield 41, 3), (45, .iconst 1, 1), (46, .iadd, 1), (47, .putfield 41, 3), (50, .return_, 1)]
def zi_3 : zIns := [(0, .aload_n 0, 1), (1, .getfield 41, 3), (4, .ireturn, 1)]
def zi_4 : zIns := [(0, .iload_n 1, 1), (1, .iconst 0, 1), (2, .aload_n 0, 1), (3, .getfield 41, 3), (6, .iconst 1, 1), (7, .isub, 1), (8, .invokestatic 44, 3), (11, .ifCond .eq 10, 3), (14, .aload_n 0, 1), (15, .getfield 19, 3), (18, .iload_n 1, 1), (19, .iload_n 2, 1), (20, .iastore, 1), (21, .return_, 1)]
def zi_5 : zIns := [(0, .aload_n 0, 1), (1, .getfield 38, 3), (4, .iconst 1, 1), (5, .iload_n 1, 1), (6, .ishl, 1), (7, .iand, 1), (8, .ifCond .eq 7, 3), (11, .iconst 1, 1), (12, .goto 4, 3), (15, .iconst 0, 1), (16, .ireturn, 1)]
def zi_6_0 : zIns := [(0, .aload_n 0, 1), (1, .aload_n 1, 1), (2, .getfield 22, 3), (5, .aload_n 1, 1), (6, .getfield 26, 3), (9, .aload_n 1, 1), (10, .getfield 29, 3), (13, .aload_n 1, 1), (14, .getfield 32, 3), (17, .invokevirtual 48, 3), (20, .iconst 0, 1), (21, .istore_n 2, 1), (22, .iload_n 2, 1), (23, .aload_n 1, 1), (24, .getfield 41, 3), (27, .if_icmp .ge 25, 3), (30, .aload_n 0, 1), (31, .aload_n 1, 1), (32, .getfield 15, 3), (35, .iload_n 2, 1), (36, .iaload, 1), (37, .aload_n 1, 1), (38, .getfield 19, 3), (41, .iload_n 2, 1), (42, .iaload, 1), (43, .invokevirtual 52, 3), (46, .iinc 2 1, 3), (49, .goto (-27), 3), (52, .aload_n 0, 1), (53, .aload_n 1, 1), (54, .getfield 35, 3), (57, .putfield 35, 3), (60, .aload_n 0, 1), (61, .aload_n 1, 1), (62, .getfield 38, 3), (65, .putfield 38, 3), (68, .aload_n 0, 1), (69, .aload_n 1, 1), (70, .getfield 56, 3), (73, .putfield 56, 3), (76, .aload_n 0, 1), (77, .aload_n 1, 1), (78, .getfield 59, 3), (81, .putfield 59, 3), (84, .aload_n 1, 1), (85, .getfield 9, 3), (88, .iconst 0, 1), (89, .aload_n 0, 1), (90, .getfield 9, 3), (93, .iconst 0, 1)]
def zi_6_1 : zIns := [(94, .sipush 1000, 3), (97, .invokestatic 62, 3), (100, .return_, 1)]
def zi_6 : zIns := zi_6_0 ++ (zi_6_1)
def zi_7 : zIns := [(0, .aload_n 0, 1), (1, .iconst 0, 1), (2, .putfield 56, 3), (5, .aload_n 0, 1), (6, .iconst 1, 1), (7, .iload_n 1, 1), (8, .ishl, 1), (9, .putfield 59, 3), (12, .iconst 0, 1), (13, .istore_n 2, 1), (14, .iload_n 2, 1), (15, .sipush 1000, 3), (18, .if_icmp .ge 21, 3), (21, .aload_n 0, 1), (22, .getfield 9, 3), (25, .iload_n 2, 1), (26, .aload_n 0, 1), (27, .iload_n 2, 1), (28, .invokevirtual 68, 3), (31, .i2b, 1), (32, .bastore, 1), (33, .iinc 2 1, 3), (36, .goto (-22), 3), (39, .return_, 1)]
def zi_8_0 : zIns := [(0, .aload_n 0, 1), (1, .iconst 1, 1), (2, .aload_n 2, 1), (3, .getfield 56, 3), (6, .aload_n 3, 1), (7, .getfield 56, 3), (10, .invokestatic 72, 3), (13, .iadd, 1), (14, .putfield 56, 3), (17, .aload_n 0, 1), (18, .aload_n 2, 1), (19, .getfield 38, 3), (22, .aload_n 3, 1), (23, .getfield 38, 3), (26, .ior, 1), (27, .putfield 38, 3), (30, .aload_n 0, 1), (31, .aload_n 0, 1), (32, .getfield 22, 3), (35, .bipush 6, 2), (37, .if_icmp .ne 15, 3), (40, .aload_n 2, 1), (41, .getfield 59, 3), (44, .aload_n 3, 1), (45, .getfield 59, 3), (48, .ior, 1), (49, .goto 6, 3), (52, .iconst 1, 1), (53, .iload_n 1, 1), (54, .ishl, 1), (55, .putfield 59, 3), (58, .iconst 0, 1), (59, .istore 4, 2), (61, .iload 4, 2), (63, .sipush 1000, 3), (66, .if_icmp .ge 35, 3), (69, .aload_n 0, 1), (70, .getfield 9, 3), (73, .iload 4, 2), (75, .aload_n 0, 1), (76, .aload_n 2, 1), (77, .getfield 9, 3), (80, .iload 4, 2), (82, .baload, 1), (83, .aload_n 3, 1), (84, .getfield 9, 3), (87, .iload 4, 2), (89, .baload, 1), (90, .invokevirtual 78, 3), (93, .i2b, 1)]
def zi_8_1 : zIns := [(94, .bastore, 1), (95, .iinc 4 1, 3), (98, .goto (-37), 3), (101, .return_, 1)]
def zi_8 : zIns := zi_8_0 ++ (zi_8_1)
def zi_9_0 : zIns := [(0, .aload_n 0, 1), (1, .iload_n 1, 1), (2, .iconst 0, 1), (3, .invokevirtual 81, 3), (6, .istore_n 2, 1), (7, .aload_n 0, 1), (8, .getfield 22, 3), (11, .tableswitch 130 0 4 #[33, 48, 71, 81, 96], 33), (44, .iload_n 2, 1), (45, .aload_n 0, 1), (46, .getfield 26, 3), (49, .aload_n 0, 1), (50, .getfield 19, 3), (53, .iconst 0, 1), (54, .iaload, 1), (55, .invokestatic 84, 3), (58, .ireturn, 1), (59, .iload_n 2, 1), (60, .aload_n 0, 1), (61, .getfield 19, 3), (64, .iconst 0, 1), (65, .iaload, 1), (66, .iconst 1, 1), (67, .iload_n 2, 1), (68, .ishl, 1), (69, .iand, 1), (70, .ifCond .eq 7, 3), (73, .iconst 1, 1), (74, .goto 4, 3), (77, .iconst 0, 1), (78, .invokestatic 88, 3), (81, .ireturn, 1), (82, .iload_n 2, 1), (83, .ifCond .ne 7, 3), (86, .iconst 1, 1), (87, .goto 4, 3), (90, .iconst 0, 1), (91, .ireturn, 1), (92, .iload_n 2, 1), (93, .aload_n 0, 1), (94, .getfield 26, 3), (97, .aload_n 0, 1), (98, .iload_n 1, 1), (99, .iconst 1, 1), (100, .invokevirtual 81, 3), (103, .invokestatic 84, 3), (106, .ireturn, 1), (107, .iload_n 2, 1), (108, .aload_n 0, 1), (109, .getfield 19, 3)]
def zi_9_1 : zIns := [(112, .iconst 0, 1), (113, .iaload, 1), (114, .ifCond .le 22, 3), (117, .iload_n 2, 1), (118, .aload_n 0, 1), (119, .getfield 19, 3), (122, .iconst 0, 1), (123, .iaload, 1), (124, .irem, 1), (125, .aload_n 0, 1), (126, .getfield 35, 3), (129, .if_icmp .ne 7, 3), (132, .iconst 1, 1), (133, .goto 4, 3), (136, .iconst 0, 1), (137, .invokestatic 88, 3), (140, .ireturn, 1), (141, .aload_n 0, 1), (142, .getfield 26, 3), (145, .ifCond .eq 11, 3), (148, .aload_n 0, 1), (149, .getfield 26, 3), (152, .iconst 2, 1), (153, .if_icmp .ne 11, 3), (156, .aload_n 0, 1), (157, .iload_n 1, 1), (158, .invokevirtual 92, 3), (161, .goto 8, 3), (164, .aload_n 0, 1), (165, .iload_n 1, 1), (166, .invokevirtual 95, 3), (169, .ireturn, 1)]
def zi_9 : zIns := zi_9_0 ++ (zi_9_1)
def zi_10 : zIns := [(0, .iload_n 1, 1), (1, .getstatic 98, 3), (4, .aload_n 0, 1), (5, .getfield 15, 3), (8, .iload_n 2, 1), (9, .iaload, 1), (10, .iaload, 1), (11, .idiv, 1), (12, .bipush 10, 2), (14, .irem, 1), (15, .ireturn, 1)]
def zi_11 : zIns := [(0, .iload_n 0, 1), (1, .ifCond .ne 5, 3), (4, .iconst 2, 1), (5, .ireturn, 1), (6, .iload_n 1, 1), (7, .ifCond .eq 7, 3), (10, .iconst 1, 1), (11, .goto 4, 3), (14, .iconst 0, 1), (15, .ireturn, 1)]
def zi_12 : zIns := [(0, .iconst 0, 1), (1, .istore_n 2, 1), (2, .iload_n 2, 1), (3, .aload_n 0, 1), (4, .getfield 41, 3), (7, .if_icmp .ge 52, 3), (10, .aload_n 0, 1), (11, .iload_n 1, 1), (12, .iload_n 2, 1), (13, .invokevirtual 81, 3), (16, .istore_n 3, 1), (17, .iload_n 3, 1), (18, .aload_n 0, 1), (19, .getfield 26, 3), (22, .aload_n 0, 1), (23, .getfield 19, 3), (26, .iload_n 2, 1), (27, .iaload, 1), (28, .invokestatic 84, 3), (31, .istore 4, 2), (33, .iload 4, 2), (35, .ifCond .eq 6, 3), (38, .iload 4, 2), (40, .ireturn, 1), (41, .iload_n 3, 1), (42, .aload_n 0, 1), (43, .getfield 19, 3), (46, .iload_n 2, 1), (47, .iaload, 1), (48, .if_icmp .eq 5, 3), (51, .iconst 0, 1), (52, .ireturn, 1), (53, .iinc 2 1, 3), (56, .goto (-54), 3), (59, .iconst 0, 1), (60, .ireturn, 1)]
def zi_13 : zIns := [(0, .iconst 1, 1), (1, .istore_n 2, 1), (2, .iconst 0, 1), (3, .istore_n 3, 1), (4, .iload_n 3, 1), (5, .aload_n 0, 1), (6, .getfield 41, 3), (9, .if_icmp .ge 50, 3), (12, .aload_n 0, 1), (13, .iload_n 1, 1), (14, .iload_n 3, 1), (15, .invokevirtual 81, 3), (18, .istore 4, 2), (20, .iload 4, 2), (22, .ifCond .eq 19, 3), (25, .iload 4, 2), (27, .aload_n 0, 1), (28, .getfield 19, 3), (31, .iload_n 3, 1), (32, .iaload, 1), (33, .if_icmp .eq 8, 3), (36, .iconst 0, 1), (37, .istore_n 2, 1), (38, .goto 15, 3), (41, .iload 4, 2), (43, .ifCond .ne 10, 3), (46, .iload_n 2, 1), (47, .iconst 1, 1), (48, .if_icmp .ne 5, 3), (51, .iconst 2, 1), (52, .istore_n 2, 1), (53, .iinc 3 1, 3), (56, .goto (-52), 3), (59, .aload_n 0, 1), (60, .getfield 26, 3), (63, .iconst 1, 1), (64, .if_icmp .ne 7, 3), (67, .iload_n 2, 1), (68, .goto 7, 3), (71, .iload_n 2, 1), (72, .invokestatic 101, 3), (75, .ireturn, 1)]
def zi_14 : zIns := [(0, .aload_n 0, 1), (1, .getfield 22, 3), (4, .tableswitch 87 6 8 #[28, 54, 82], 28), (32, .iload_n 1, 1), (33, .ifCond .eq 7, 3), (36, .iload_n 2, 1), (37, .ifCond .ne 5, 3), (40, .iconst 0, 1), (41, .ireturn, 1), (42, .iload_n 1, 1), (43, .iconst 2, 1), (44, .if_icmp .eq 8, 3), (47, .iload_n 2, 1), (48, .iconst 2, 1), (49, .if_icmp .ne 7, 3), (52, .iconst 2, 1), (53, .goto 4, 3), (56, .iconst 1, 1), (57, .ireturn, 1), (58, .iload_n 1, 1), (59, .iconst 1, 1), (60, .if_icmp .eq 8, 3), (63, .iload_n 2, 1), (64, .iconst 1, 1), (65, .if_icmp .ne 5, 3), (68, .iconst 1, 1), (69, .ireturn, 1), (70, .iload_n 1, 1), (71, .iconst 2, 1), (72, .if_icmp .eq 8, 3), (75, .iload_n 2, 1), (76, .iconst 2, 1), (77, .if_icmp .ne 7, 3), (80, .iconst 2, 1), (81, .goto 4, 3), (84, .iconst 0, 1), (85, .ireturn, 1), (86, .iload_n 1, 1), (87, .invokestatic 101, 3), (90, .ireturn, 1), (91, .iload_n 1, 1), (92, .iconst 1, 1), (93, .if_icmp .ne 7, 3), (96, .iconst 1, 1), (97, .goto 4, 3), (100, .iconst 0, 1), (101, .ireturn, 1)]
def zi_15 : zIns := [(0, .iload_n 0, 1), (1, .iconst 2, 1), (2, .if_icmp .ne 5, 3), (5, .iconst 2, 1), (6, .ireturn, 1), (7, .iload_n 0, 1), (8, .iconst 1, 1), (9, .if_icmp .ne 7, 3), (12, .iconst 0, 1), (13, .goto 4, 3), (16, .iconst 1, 1), (17, .ireturn, 1)]
def zi_16_0 : zIns := [(0, .iload_n 1, 1), (1, .tableswitch 140 0 5 #[39, 41, 55, 77, 101, 125], 39), (40, .iconst 1, 1), (41, .ireturn, 1), (42, .aload_n 0, 1), (43, .getfield 22, 3), (46, .iconst 5, 1), (47, .if_icmp .gt 7, 3), (50, .iconst 1, 1), (51, .goto 4, 3), (54, .iconst 0, 1), (55, .ireturn, 1), (56, .aload_n 0, 1), (57, .getfield 22, 3), (60, .iconst 4, 1), (61, .if_icmp .gt 15, 3), (64, .aload_n 0, 1), (65, .getfield 22, 3), (68, .iconst 3, 1), (69, .if_icmp .eq 7, 3), (72, .iconst 1, 1), (73, .goto 4, 3), (76, .iconst 0, 1), (77, .ireturn, 1), (78, .aload_n 0, 1), (79, .getfield 22, 3), (82, .bipush 6, 2), (84, .if_icmp .eq 12, 3), (87, .aload_n 0, 1), (88, .getfield 22, 3), (91, .bipush 7, 2), (93, .if_icmp .ne 7, 3), (96, .iconst 1, 1), (97, .goto 4, 3), (100, .iconst 0, 1), (101, .ireturn, 1), (102, .aload_n 0, 1), (103, .getfield 22, 3), (106, .bipush 8, 2), (108, .if_icmp .eq 12, 3), (111, .aload_n 0, 1), (112, .getfield 22, 3), (115, .bipush 9, 2), (117, .if_icmp .ne 7, 3), (120, .iconst 1, 1), (121, .goto 4, 3), (124, .iconst 0, 1), (125, .ireturn, 1), (126, .aload_n 0, 1), (127, .getfield 22, 3)]
def zi_16_1 : zIns := [(130, .bipush 6, 2), (132, .if_icmp .ne 7, 3), (135, .iconst 1, 1), (136, .goto 4, 3), (139, .iconst 0, 1), (140, .ireturn, 1), (141, .aload_n 0, 1), (142, .getfield 22, 3), (145, .iconst 5, 1), (146, .if_icmp .ne 7, 3), (149, .iconst 1, 1), (150, .goto 4, 3), (153, .iconst 0, 1), (154, .ireturn, 1)]
def zi_16 : zIns := zi_16_0 ++ (zi_16_1)
def zi_17 : zIns := [(0, .iload_n 1, 1), (1, .tableswitch 89 0 5 #[39, 45, 52, 63, 76, 81], 39), (40, .aload_n 0, 1), (41, .iconst 1, 1), (42, .invokevirtual 104, 3), (45, .ireturn, 1), (46, .aload_n 0, 1), (47, .getfield 15, 3), (50, .iconst 0, 1), (51, .iaload, 1), (52, .ireturn, 1), (53, .aload_n 0, 1), (54, .aload_n 0, 1), (55, .getfield 15, 3), (58, .iconst 0, 1), (59, .iaload, 1), (60, .invokevirtual 107, 3), (63, .ireturn, 1), (64, .bipush 100, 2), (66, .aload_n 0, 1), (67, .getfield 29, 3), (70, .imul, 1), (71, .aload_n 0, 1), (72, .getfield 32, 3), (75, .iadd, 1), (76, .ireturn, 1), (77, .aload_n 0, 1), (78, .getfield 29, 3), (81, .ireturn, 1), (82, .aload_n 0, 1), (83, .getfield 59, 3), (86, .invokestatic 110, 3), (89, .ireturn, 1), (90, .aload_n 0, 1), (91, .getfield 41, 3), (94, .ireturn, 1)]
def zi_18 : zIns := [(0, .iconst 0, 1), (1, .istore_n 2, 1), (2, .iconst 0, 1), (3, .istore_n 3, 1), (4, .iload_n 3, 1), (5, .sipush 1000, 3), (8, .if_icmp .ge 22, 3), (11, .aload_n 0, 1), (12, .getfield 9, 3), (15, .iload_n 3, 1), (16, .baload, 1), (17, .iload_n 1, 1), (18, .if_icmp .ne 6, 3), (21, .iinc 2 1, 3), (24, .iinc 3 1, 3), (27, .goto (-23), 3), (30, .iload_n 2, 1), (31, .ireturn, 1)]
def zi_19 : zIns := [(0, .iconst 0, 1), (1, .istore_n 2, 1), (2, .iconst 0, 1), (3, .istore_n 3, 1), (4, .iload_n 3, 1), (5, .sipush 1000, 3), (8, .if_icmp .ge 34, 3), (11, .aload_n 0, 1), (12, .getfield 9, 3), (15, .iload_n 3, 1), (16, .baload, 1), (17, .iconst 1, 1), (18, .if_icmp .ne 18, 3), (21, .iload_n 2, 1), (22, .iconst 1, 1), (23, .iload_n 3, 1), (24, .getstatic 98, 3), (27, .iload_n 1, 1), (28, .iaload, 1), (29, .idiv, 1), (30, .bipush 10, 2), (32, .irem, 1), (33, .ishl, 1), (34, .ior, 1), (35, .istore_n 2, 1), (36, .iinc 3 1, 3), (39, .goto (-35), 3), (42, .iload_n 2, 1), (43, .ireturn, 1)]
def zi_20 : zIns := [(0, .iconst 0, 1), (1, .istore_n 2, 1), (2, .iload_n 2, 1), (3, .sipush 1000, 3), (6, .if_icmp .ge 26, 3), (9, .aload_n 0, 1), (10, .getfield 9, 3), (13, .iload_n 2, 1), (14, .baload, 1), (15, .aload_n 1, 1), (16, .getfield 9, 3), (19, .iload_n 2, 1), (20, .baload, 1), (21, .if_icmp .eq 5, 3), (24, .iload_n 2, 1), (25, .ireturn, 1), (26, .iinc 2 1, 3), (29, .goto (-27), 3), (32, .iconst (-1), 1), (33, .ireturn, 1)]
def zi_21 : zIns := [(0, .aload_n 0, 1), (1, .invokespecial 3, 3), (4, .aload_n 0, 1), (5, .bipush 25, 2), (7, .anewarray 11, 3), (10, .putfield 13, 3), (13, .iconst 0, 1), (14, .istore_n 1, 1), (15, .iload_n 1, 1), (16, .bipush 24, 2), (18, .if_icmp .gt 22, 3), (21, .aload_n 0, 1), (22, .getfield 13, 3), (25, .iload_n 1, 1), (26, .new 11, 3), (29, .dup, 1), (30, .invokespecial 17, 3), (33, .aastore, 1), (34, .iinc 1 1, 3), (37, .goto (-22), 3), (40, .aload_n 0, 1), (41, .iconst 0, 1), (42, .putfield 18, 3), (45, .aload_n 0, 1), (46, .iconst 0, 1), (47, .putfield 22, 3), (50, .return_, 1)]
def zi_22 : zIns := [(0, .iconst 0, 1), (1, .istore_n 2, 1), (2, .iload_n 2, 1), (3, .aload_n 1, 1), (4, .getfield 18, 3), (7, .if_icmp .ge 24, 3), (10, .aload_n 0, 1), (11, .getfield 13, 3), (14, .iload_n 2, 1), (15, .aaload, 1), (16, .aload_n 1, 1), (17, .getfield 13, 3), (20, .iload_n 2, 1), (21, .aaload, 1), (22, .invokevirtual 25, 3), (25, .iinc 2 1, 3), (28, .goto (-26), 3), (31, .aload_n 0, 1), (32, .aload_n 1, 1), (33, .getfield 18, 3), (36, .putfield 18, 3), (39, .return_, 1)]
def zi_23 : zIns := [(0, .iload_n 1, 1), (1, .iconst 0, 1), (2, .aload_n 0, 1), (3, .getfield 18, 3), (6, .iconst 1, 1), (7, .isub, 1), (8, .invokestatic 29, 3), (11, .ireturn, 1)]
def zi_24 : zIns := [(0, .aload_n 0, 1), (1, .getfield 13, 3), (4, .iload_n 1, 1), (5, .iconst 0, 1), (6, .bipush 24, 2), (8, .invokestatic 29, 3), (11, .ifCond .eq 7, 3), (14, .iload_n 1, 1), (15, .goto 5, 3), (18, .bipush 24, 2), (20, .aaload, 1), (21, .areturn, 1)]
def zi_25 : zIns := [(0, .aload_n 0, 1), (1, .aload_n 0, 1), (2, .getfield 18, 3), (5, .aload_n 0, 1), (6, .getfield 22, 3), (9, .iadd, 1), (10, .invokevirtual 33, 3), (13, .astore_n 3, 1), (14, .aload_n 3, 1), (15, .iload_n 1, 1), (16, .iload_n 2, 1), (17, .iconst (-1), 1), (18, .iconst (-1), 1), (19, .invokevirtual 37, 3), (22, .aload_n 0, 1), (23, .dup, 1), (24, .getfield 22, 3), (27, .iconst 1, 1), (28, .iadd, 1), (29, .putfield 22, 3), (32, .aload_n 3, 1), (33, .areturn, 1)]
def zi_26 : zIns := [(0, .aload_n 0, 1), (1, .aload_n 0, 1), (2, .getfield 18, 3), (5, .aload_n 0, 1), (6, .getfield 22, 3), (9, .iadd, 1), (10, .invokevirtual 33, 3), (13, .astore 4, 2), (15, .aload 4, 2), (17, .iload_n 1, 1), (18, .iconst (-1), 1), (19, .iload_n 2, 1), (20, .iload_n 3, 1), (21, .invokevirtual 37, 3), (24, .aload_n 0, 1), (25, .dup, 1), (26, .getfield 22, 3), (29, .iconst 1, 1), (30, .iadd, 1), (31, .putfield 22, 3), (34, .return_, 1)]
def zi_27 : zIns := [(0, .aload_n 0, 1), (1, .getfield 18, 3), (4, .aload_n 0, 1), (5, .getfield 22, 3), (8, .iadd, 1), (9, .iconst 1, 1), (10, .isub, 1), (11, .ireturn, 1)]
def zi_28 : zIns := [(0, .aload_n 0, 1), (1, .getfield 18, 3), (4, .aload_n 0, 1), (5, .getfield 22, 3), (8, .iadd, 1), (9, .bipush 24, 2), (11, .if_icmp .gt 7, 3), (14, .iconst 1, 1), (15, .goto 4, 3), (18, .iconst 0, 1), (19, .ireturn, 1)]
def zi_29 : zIns := [(0, .aload_n 0, 1), (1, .iconst 0, 1), (2, .putfield 22, 3), (5, .return_, 1)]
def zi_30_0 : zIns := [(0, .aload_n 0, 1), (1, .getfield 18, 3), (4, .aload_n 0, 1), (5, .getfield 22, 3), (8, .iadd, 1), (9, .bipush 24, 2), (11, .invokestatic 41, 3), (14, .istore_n 1, 1), (15, .aload_n 0, 1), (16, .getfield 18, 3), (19, .istore_n 2, 1), (20, .iload_n 2, 1), (21, .iload_n 1, 1), (22, .if_icmp .ge 68, 3), (25, .aload_n 0, 1), (26, .getfield 13, 3), (29, .iload_n 2, 1), (30, .aaload, 1), (31, .astore_n 3, 1), (32, .aload_n 3, 1), (33, .getfield 47, 3), (36, .iconst 5, 1), (37, .if_icmp .gt 11, 3), (40, .aload_n 3, 1), (41, .iload_n 2, 1), (42, .invokevirtual 50, 3), (45, .goto 39, 3), (48, .aload_n 3, 1), (49, .iload_n 2, 1), (50, .aload_n 0, 1), (51, .aload_n 3, 1), (52, .getfield 54, 3), (55, .invokevirtual 33, 3), (58, .aload_n 0, 1), (59, .aload_n 3, 1), (60, .getfield 57, 3), (63, .iconst (-1), 1), (64, .if_icmp .ne 10, 3), (67, .aload_n 3, 1), (68, .getfield 54, 3), (71, .goto 7, 3), (74, .aload_n 3, 1), (75, .getfield 57, 3), (78, .invokevirtual 33, 3), (81, .invokevirtual 60, 3), (84, .iinc 2 1, 3), (87, .goto (-67), 3), (90, .aload_n 0, 1), (91, .iload_n 1, 1), (92, .putfield 18, 3)]
def zi_30_1 : zIns := [(95, .aload_n 0, 1), (96, .iconst 0, 1), (97, .putfield 22, 3), (100, .return_, 1)]
def zi_30 : zIns := zi_30_0 ++ (zi_30_1)
def zi_31 : zIns := [(0, .aload_n 0, 1), (1, .invokespecial 3, 3), (4, .aload_n 0, 1), (5, .sipush 180, 3), (8, .newarray .int, 2), (10, .putfield 11, 3), (13, .aload_n 0, 1), (14, .iconst 0, 1), (15, .putfield 15, 3), (18, .aload_n 0, 1), (19, .iconst 4, 1), (20, .putfield 19, 3), (23, .aload_n 0, 1), (24, .iconst 1, 1), (25, .putfield 22, 3), (28, .return_, 1)]
def zi_32 : zIns := [(0, .aload_n 1, 1), (1, .getfield 11, 3), (4, .iconst 0, 1), (5, .aload_n 0, 1), (6, .getfield 11, 3), (9, .iconst 0, 1), (10, .aload_n 0, 1), (11, .getfield 11, 3), (14, .arraylength, 1), (15, .invokestatic 25, 3), (18, .aload_n 0, 1), (19, .aload_n 1, 1), (20, .getfield 15, 3), (23, .putfield 15, 3), (26, .aload_n 0, 1), (27, .aload_n 1, 1), (28, .getfield 19, 3), (31, .putfield 19, 3), (34, .aload_n 0, 1), (35, .aload_n 1, 1), (36, .getfield 22, 3), (39, .putfield 22, 3), (42, .return_, 1)]
def zi_33 : zIns := [(0, .iload_n 1, 1), (1, .iconst 0, 1), (2, .aload_n 0, 1), (3, .getfield 15, 3), (6, .iconst 1, 1), (7, .isub, 1), (8, .invokestatic 31, 3), (11, .ireturn, 1)]
def zi_34 : zIns := [(0, .aload_n 0, 1), (1, .getfield 11, 3), (4, .iload_n 1, 1), (5, .iconst 3, 1), (6, .imul, 1), (7, .iload_n 2, 1), (8, .iadd, 1), (9, .iaload, 1), (10, .ireturn, 1)]
def zi_35 : zIns := [(0, .aload_n 0, 1), (1, .getfield 11, 3), (4, .iload_n 1, 1), (5, .iconst 3, 1), (6, .imul, 1), (7, .iload_n 2, 1), (8, .iadd, 1), (9, .iload_n 3, 1), (10, .iastore, 1), (11, .return_, 1)]
def zi_36 : zIns := [(0, .aload_n 0, 1), (1, .iload_n 1, 1), (2, .iconst 0, 1), (3, .iload_n 2, 1), (4, .invokevirtual 35, 3), (7, .aload_n 0, 1), (8, .iload_n 1, 1), (9, .iconst 1, 1), (10, .iload_n 3, 1), (11, .invokevirtual 35, 3), (14, .aload_n 0, 1), (15, .iload_n 1, 1), (16, .iconst 2, 1), (17, .iload 4, 2), (19, .invokevirtual 35, 3), (22, .return_, 1)]
def zi_37 : zIns := [(0, .aload_n 0, 1), (1, .getfield 15, 3), (4, .bipush 60, 2), (6, .if_icmp .ge 24, 3), (9, .aload_n 0, 1), (10, .aload_n 0, 1), (11, .getfield 15, 3), (14, .iload_n 1, 1), (15, .iload_n 2, 1), (16, .iload_n 3, 1), (17, .invokevirtual 39, 3), (20, .aload_n 0, 1), (21, .dup, 1), (22, .getfield 15, 3), (25, .iconst 1, 1), (26, .iadd, 1), (27, .putfield 15, 3), (30, .return_, 1)]
def zi_38 : zIns := [(0, .aload_n 0, 1), (1, .iload_n 1, 1), (2, .invokevirtual 43, 3), (5, .ifCond .eq 44, 3), (8, .iload_n 1, 1), (9, .iconst 1, 1), (10, .iadd, 1), (11, .iconst 3, 1), (12, .imul, 1), (13, .istore_n 2, 1), (14, .aload_n 0, 1), (15, .getfield 15, 3), (18, .iconst 3, 1), (19, .imul, 1), (20, .iload_n 2, 1), (21, .isub, 1), (22, .istore_n 3, 1), (23, .aload_n 0, 1), (24, .getfield 11, 3), (27, .iload_n 2, 1), (28, .aload_n 0, 1), (29, .getfield 11, 3), (32, .iload_n 2, 1), (33, .iconst 3, 1), (34, .isub, 1), (35, .iload_n 3, 1), (36, .invokestatic 25, 3), (39, .aload_n 0, 1), (40, .dup, 1), (41, .getfield 15, 3), (44, .iconst 1, 1), (45, .isub, 1), (46, .putfield 15, 3), (49, .return_, 1)]
def zi_39 : zIns := [(0, .iconst 3, 1), (1, .iload_n 2, 1), (2, .imul, 1), (3, .istore_n 3, 1), (4, .bipush 100, 2), (6, .aload_n 0, 1), (7, .iload_n 1, 1), (8, .getstatic 47, 3), (11, .iload_n 3, 1), (12, .iaload, 1), (13, .invokevirtual 50, 3), (16, .imul, 1), (17, .bipush 10, 2), (19, .aload_n 0, 1), (20, .iload_n 1, 1), (21, .getstatic 47, 3), (24, .iload_n 3, 1), (25, .iconst 1, 1), (26, .iadd, 1), (27, .iaload, 1), (28, .invokevirtual 50, 3), (31, .imul, 1), (32, .iadd, 1), (33, .aload_n 0, 1), (34, .iload_n 1, 1), (35, .getstatic 47, 3), (38, .iload_n 3, 1), (39, .iconst 2, 1), (40, .iadd, 1), (41, .iaload, 1), (42, .invokevirtual 50, 3), (45, .iadd, 1), (46, .ireturn, 1)]
def zi_40 : zIns := [(0, .aload_n 1, 1), (1, .getfield 54, 3), (4, .aload_n 0, 1), (5, .iload_n 2, 1), (6, .iconst 0, 1), (7, .invokevirtual 60, 3), (10, .baload, 1), (11, .ireturn, 1)]
def zi_41 : zIns := [(0, .iconst 0, 1), (1, .istore_n 3, 1), (2, .iconst 0, 1), (3, .istore 4, 2), (5, .iload 4, 2), (7, .aload_n 0, 1), (8, .getfield 15, 3), (11, .if_icmp .ge 23, 3), (14, .aload_n 0, 1), (15, .aload_n 1, 1), (16, .iload 4, 2), (18, .invokevirtual 63, 3), (21, .iload_n 2, 1), (22, .if_icmp .ne 6, 3), (25, .iinc 3 1, 3), (28, .iinc 4 1, 3), (31, .goto (-26), 3), (34, .iload_n 3, 1), (35, .ireturn, 1)]
def zi_42 : zIns := [(0, .iconst 0, 1), (1, .istore_n 3, 1), (2, .iconst 0, 1), (3, .istore 4, 2), (5, .iload 4, 2), (7, .aload_n 0, 1), (8, .getfield 15, 3), (11, .if_icmp .ge 23, 3), (14, .aload_n 0, 1), (15, .iload 4, 2), (17, .iload_n 1, 1), (18, .invokevirtual 50, 3), (21, .iload_n 2, 1), (22, .if_icmp .ne 6, 3), (25, .iinc 3 1, 3), (28, .iinc 4 1, 3), (31, .goto (-26), 3), (34, .iload_n 3, 1), (35, .ireturn, 1)]
def zi_43 : zIns := [(0, .aload_n 0, 1), (1, .bipush 10, 2), (3, .invokevirtual 67, 3), (6, .istore_n 1, 1), (7, .aload_n 0, 1), (8, .bipush 10, 2), (10, .invokevirtual 67, 3), (13, .istore_n 2, 1), (14, .aload_n 0, 1), (15, .bipush 10, 2), (17, .invokevirtual 67, 3), (20, .istore_n 3, 1), (21, .aload_n 0, 1), (22, .getfield 15, 3), (25, .bipush 60, 2), (27, .if_icmp .ge 13, 3), (30, .aload_n 0, 1), (31, .iload_n 1, 1), (32, .iload_n 2, 1), (33, .iload_n 3, 1), (34, .invokevirtual 71, 3), (37, .goto 16, 3), (40, .aload_n 0, 1), (41, .aload_n 0, 1), (42, .bipush 60, 2), (44, .invokevirtual 67, 3), (47, .iload_n 1, 1), (48, .iload_n 2, 1), (49, .iload_n 3, 1), (50, .invokevirtual 39, 3), (53, .aload_n 0, 1), (54, .bipush 8, 2), (56, .invokevirtual 67, 3), (59, .ifCond .ne 15, 3), (62, .aload_n 0, 1), (63, .aload_n 0, 1), (64, .aload_n 0, 1), (65, .getfield 15, 3), (68, .invokevirtual 67, 3), (71, .invokevirtual 74, 3), (74, .return_, 1)]
def zi_44 : zIns := [(0, .aload_n 0, 1), (1, .aload_n 0, 1), (2, .getfield 22, 3), (5, .ldc 78, 2), (7, .imul, 1), (8, .sipush 12345, 3), (11, .iadd, 1), (12, .putfield 22, 3), (15, .iload_n 1, 1), (16, .ifCond .le 15, 3), (19, .aload_n 0, 1), (20, .getfield 22, 3), (23, .bipush 16, 2), (25, .iushr, 1), (26, .iload_n 1, 1), (27, .irem, 1), (28, .goto 4, 3), (31, .iconst 0, 1), (32, .ireturn, 1)]
def zi_45 : zIns := [(0, .aload_n 0, 1), (1, .invokespecial 3, 3), (4, .aload_n 0, 1), (5, .bipush 60, 2), (7, .newarray .int, 2), (9, .putfield 11, 3), (12, .return_, 1)]
def zi_46 : zIns := [(0, .iload_n 1, 1), (1, .ifCond .ne 7, 3), (4, .iload_n 0, 1), (5, .goto 19, 3), (8, .iload_n 1, 1), (9, .iconst 1, 1), (10, .if_icmp .ne 10, 3), (13, .iload_n 0, 1), (14, .bipush 100, 2), (16, .irem, 1), (17, .goto 7, 3), (20, .iload_n 0, 1), (21, .bipush 10, 2), (23, .irem, 1), (24, .istore_n 3, 1), (25, .iload_n 3, 1), (26, .sipush 1000, 3), (29, .imul, 1), (30, .iload_n 0, 1), (31, .iadd, 1), (32, .bipush 100, 2), (34, .imul, 1), (35, .iload_n 2, 1), (36, .iadd, 1), (37, .ireturn, 1)]
def zi_47 : zIns := [(0, .aload_n 0, 1), (1, .iconst 0, 1), (2, .putfield 17, 3), (5, .iconst 0, 1), (6, .istore 5, 2), (8, .iload 5, 2), (10, .aload_n 1, 1), (11, .getfield 21, 3), (14, .if_icmp .ge 38, 3), (17, .aload_n 1, 1), (18, .aload_n 2, 1), (19, .iload 5, 2), (21, .invokevirtual 22, 3), (24, .iconst 1, 1), (25, .if_icmp .ne 21, 3), (28, .aload_n 0, 1), (29, .aload_n 1, 1), (30, .iload 5, 2), (32, .iload_n 3, 1), (33, .invokevirtual 26, 3), (36, .iload 4, 2), (38, .iload 5, 2), (40, .invokestatic 30, 3), (43, .invokevirtual 34, 3), (46, .iinc 5 1, 3), (49, .goto (-41), 3), (52, .return_, 1)]
def zi_48 : zIns := [(0, .aload_n 0, 1), (1, .getfield 17, 3), (4, .aload_n 0, 1), (5, .getfield 11, 3), (8, .arraylength, 1), (9, .if_icmp .lt 4, 3), (12, .return_, 1), (13, .aload_n 0, 1), (14, .getfield 17, 3), (17, .istore_n 2, 1), (18, .iload_n 2, 1), (19, .ifCond .le 35, 3), (22, .aload_n 0, 1), (23, .getfield 11, 3), (26, .iload_n 2, 1), (27, .iconst 1, 1), (28, .isub, 1), (29, .iaload, 1), (30, .iload_n 1, 1), (31, .if_icmp .le 23, 3), (34, .aload_n 0, 1), (35, .getfield 11, 3), (38, .iload_n 2, 1), (39, .aload_n 0, 1), (40, .getfield 11, 3), (43, .iload_n 2, 1), (44, .iconst 1, 1), (45, .isub, 1), (46, .iaload, 1), (47, .iastore, 1), (48, .iinc 2 (-1), 3), (51, .goto (-33), 3), (54, .aload_n 0, 1), (55, .getfield 11, 3), (58, .iload_n 2, 1), (59, .iload_n 1, 1), (60, .iastore, 1), (61, .aload_n 0, 1), (62, .dup, 1), (63, .getfield 17, 3), (66, .iconst 1, 1), (67, .iadd, 1), (68, .putfield 17, 3), (71, .return_, 1)]
def zi_49 : zIns := [(0, .aload_n 0, 1), (1, .getfield 11, 3), (4, .iload_n 1, 1), (5, .iaload, 1), (6, .bipush 100, 2), (8, .irem, 1), (9, .ireturn, 1)]
def zi_50 : zIns := [(0, .iconst 0, 1), (1, .istore_n 2, 1), (2, .iload_n 2, 1), (3, .aload_n 0, 1), (4, .getfield 17, 3), (7, .if_icmp .ge 25, 3), (10, .aload_n 0, 1), (11, .getfield 11, 3), (14, .iload_n 2, 1), (15, .iaload, 1), (16, .iload_n 1, 1), (17, .if_icmp .le 9, 3), (20, .aload_n 0, 1), (21, .iload_n 2, 1), (22, .invokevirtual 38, 3), (25, .ireturn, 1), (26, .iinc 2 1, 3), (29, .goto (-27), 3), (32, .iconst (-1), 1), (33, .ireturn, 1)]
def zi_51 : zIns := [(0, .aload_n 0, 1), (1, .invokespecial 3, 3), (4, .aload_n 0, 1), (5, .sipush 250, 3), (8, .newarray .int, 2), (10, .putfield 11, 3), (13, .aload_n 0, 1), (14, .sipush 250, 3), (17, .newarray .int, 2), (19, .putfield 17, 3), (22, .aload_n 0, 1), (23, .sipush 250, 3), (26, .newarray .int, 2), (28, .putfield 20, 3), (31, .return_, 1)]
def zi_52 : zIns := [(0, .aload_n 1, 1), (1, .invokevirtual 23, 3), (4, .aload_n 0, 1), (5, .iconst 0, 1), (6, .putfield 26, 3), (9, .iconst 0, 1), (10, .istore_n 2, 1), (11, .iload_n 2, 1), (12, .sipush 250, 3), (15, .if_icmp .gt 43, 3), (18, .aload_n 0, 1), (19, .aload_n 1, 1), (20, .invokevirtual 30, 3), (23, .ifCond .ne 5, 3), (26, .iconst 0, 1), (27, .ireturn, 1), (28, .aload_n 1, 1), (29, .invokevirtual 34, 3), (32, .istore_n 3, 1), (33, .iload_n 3, 1), (34, .iconst (-1), 1), (35, .if_icmp .ne 5, 3), (38, .iconst 1, 1), (39, .ireturn, 1), (40, .iload_n 3, 1), (41, .bipush 59, 2), (43, .if_icmp .eq 5, 3), (46, .iconst 0, 1), (47, .ireturn, 1), (48, .aload_n 1, 1), (49, .invokevirtual 38, 3), (52, .iinc 2 1, 3), (55, .goto (-44), 3), (58, .iconst 0, 1), (59, .ireturn, 1)]
def zi_53 : zIns := [(0, .iconst 0, 1), (1, .istore_n 2, 1), (2, .iload_n 2, 1), (3, .iconst 3, 1), (4, .if_icmp .ge 73, 3), (7, .aload_n 1, 1), (8, .invokevirtual 34, 3), (11, .bipush 46, 2), (13, .if_icmp .ne 7, 3), (16, .iconst 0, 1), (17, .goto 10, 3), (20, .aload_n 1, 1), (21, .iconst 1, 1), (22, .bipush 9, 2), (24, .invokevirtual 41, 3), (27, .istore_n 3, 1), (28, .iload_n 3, 1), (29, .iconst (-1), 1), (30, .if_icmp .eq 15, 3), (33, .aload_n 0, 1), (34, .getfield 26, 3), (37, .aload_n 0, 1), (38, .getfield 11, 3), (41, .arraylength, 1), (42, .if_icmp .lt 5, 3), (45, .iconst 0, 1), (46, .ireturn, 1), (47, .aload_n 0, 1), (48, .getfield 11, 3), (51, .aload_n 0, 1), (52, .getfield 26, 3), (55, .iload_n 3, 1), (56, .iastore, 1), (57, .aload_n 0, 1), (58, .dup, 1), (59, .getfield 26, 3), (62, .iconst 1, 1), (63, .iadd, 1), (64, .putfield 26, 3), (67, .aload_n 1, 1), (68, .invokevirtual 38, 3), (71, .iinc 2 1, 3), (74, .goto (-72), 3), (77, .iconst 1, 1), (78, .ireturn, 1)]
def zi_54 : zIns := [(0, .aload_n 0, 1), (1, .getfield 26, 3), (4, .iconst 3, 1), (5, .idiv, 1), (6, .ireturn, 1)]
def zi_55 : zIns := [(0, .iload_n 1, 1), (1, .iconst 3, 1), (2, .imul, 1), (3, .iload_n 2, 1), (4, .iadd, 1), (5, .istore_n 3, 1), (6, .iload_n 3, 1), (7, .iconst 0, 1), (8, .aload_n 0, 1), (9, .getfield 26, 3), (12, .iconst 1, 1), (13, .isub, 1), (14, .invokestatic 45, 3), (17, .ifCond .eq 12, 3), (20, .aload_n 0, 1), (21, .getfield 11, 3), (24, .iload_n 3, 1), (25, .iaload, 1), (26, .goto 4, 3), (29, .iconst 0, 1), (30, .ireturn, 1)]
def zi_56_0 : zIns := [(0, .aload_n 1, 1), (1, .invokevirtual 23, 3), (4, .aload_n 0, 1), (5, .iconst 0, 1), (6, .putfield 49, 3), (9, .aload_n 0, 1), (10, .iconst 0, 1), (11, .putfield 52, 3), (14, .iconst 1, 1), (15, .istore_n 3, 1), (16, .iconst 0, 1), (17, .istore 4, 2), (19, .iload 4, 2), (21, .sipush 250, 3), (24, .if_icmp .gt 123, 3), (27, .aload_n 1, 1), (28, .invokevirtual 34, 3), (31, .istore 5, 2), (33, .iload 5, 2), (35, .iconst (-1), 1), (36, .if_icmp .ne 21, 3), (39, .iload_n 3, 1), (40, .ifCond .ne 15, 3), (43, .aload_n 0, 1), (44, .aload_n 2, 1), (45, .invokevirtual 55, 3), (48, .ifCond .eq 7, 3), (51, .iconst 1, 1), (52, .goto 4, 3), (55, .iconst 0, 1), (56, .ireturn, 1), (57, .iload_n 3, 1), (58, .ifCond .eq 24, 3), (61, .iload 5, 2), (63, .invokestatic 59, 3), (66, .ifCond .eq 16, 3), (69, .aload_n 0, 1), (70, .iload 5, 2), (72, .invokevirtual 63, 3), (75, .aload_n 1, 1), (76, .invokevirtual 38, 3), (79, .goto 62, 3), (82, .iload_n 3, 1), (83, .ifCond .eq 32, 3), (86, .aload_n 1, 1), (87, .aload_n 2, 1), (88, .iconst 0, 1), (89, .iconst (-1), 1), (90, .invokevirtual 67, 3), (93, .invokestatic 73, 3)]
def zi_56_1 : zIns := [(96, .ifCond .ne 5, 3), (99, .iconst 0, 1), (100, .ireturn, 1), (101, .aload_n 0, 1), (102, .aload_n 2, 1), (103, .aload_n 2, 1), (104, .invokevirtual 77, 3), (107, .invokevirtual 80, 3), (110, .iconst 0, 1), (111, .istore_n 3, 1), (112, .goto 29, 3), (115, .aload_n 0, 1), (116, .aload_n 1, 1), (117, .aload_n 2, 1), (118, .iload 5, 2), (120, .invokevirtual 84, 3), (123, .ifCond .ne 5, 3), (126, .iconst 0, 1), (127, .ireturn, 1), (128, .iload 5, 2), (130, .bipush 41, 2), (132, .if_icmp .eq 7, 3), (135, .iconst 1, 1), (136, .goto 4, 3), (139, .iconst 0, 1), (140, .istore_n 3, 1), (141, .iinc 4 1, 3), (144, .goto (-125), 3), (147, .iconst 0, 1), (148, .ireturn, 1)]
def zi_56 : zIns := zi_56_0 ++ (zi_56_1)
def zi_57 : zIns := [(0, .iload_n 0, 1), (1, .bipush 45, 2), (3, .if_icmp .eq 15, 3), (6, .iload_n 0, 1), (7, .bipush 43, 2), (9, .if_icmp .eq 9, 3), (12, .iload_n 0, 1), (13, .bipush 40, 2), (15, .if_icmp .ne 7, 3), (18, .iconst 1, 1), (19, .goto 4, 3), (22, .iconst 0, 1), (23, .ireturn, 1)]
def zi_58 : zIns := [(0, .aload_n 0, 1), (1, .aload_n 1, 1), (2, .invokevirtual 88, 3), (5, .aload_n 0, 1), (6, .getfield 49, 3), (9, .ifCond .ne 7, 3), (12, .iconst 1, 1), (13, .goto 4, 3), (16, .iconst 0, 1), (17, .ireturn, 1)]
def zi_59 : zIns := [(0, .iload_n 3, 1), (1, .bipush 38, 2), (3, .if_icmp .ne 11, 3), (6, .aload_n 0, 1), (7, .iload_n 3, 1), (8, .invokevirtual 63, 3), (11, .goto 62, 3), (14, .iload_n 3, 1), (15, .bipush 124, 2), (17, .if_icmp .ne 16, 3), (20, .aload_n 0, 1), (21, .aload_n 2, 1), (22, .invokevirtual 88, 3), (25, .aload_n 0, 1), (26, .iload_n 3, 1), (27, .invokevirtual 63, 3), (30, .goto 43, 3), (33, .iload_n 3, 1), (34, .bipush 41, 2), (36, .if_icmp .ne 35, 3), (39, .aload_n 0, 1), (40, .aload_n 2, 1), (41, .invokevirtual 88, 3), (44, .aload_n 0, 1), (45, .invokevirtual 92, 3), (48, .bipush 40, 2), (50, .if_icmp .eq 5, 3), (53, .iconst 0, 1), (54, .ireturn, 1), (55, .aload_n 0, 1), (56, .invokevirtual 95, 3), (59, .aload_n 0, 1), (60, .aload_n 2, 1), (61, .aload_n 0, 1), (62, .invokevirtual 98, 3), (65, .invokevirtual 80, 3), (68, .goto 5, 3), (71, .iconst 0, 1), (72, .ireturn, 1), (73, .aload_n 1, 1), (74, .invokevirtual 38, 3), (77, .iconst 1, 1), (78, .ireturn, 1)]
def zi_60_0 : zIns := [(0, .iload_n 2, 1), (1, .istore_n 3, 1), (2, .aload_n 0, 1), (3, .getfield 49, 3), (6, .ifCond .le 61, 3), (9, .aload_n 0, 1), (10, .invokevirtual 92, 3), (13, .bipush 45, 2), (15, .if_icmp .eq 12, 3), (18, .aload_n 0, 1), (19, .invokevirtual 92, 3), (22, .bipush 43, 2), (24, .if_icmp .ne 43, 3), (27, .aload_n 1, 1), (28, .aload_n 0, 1), (29, .invokevirtual 92, 3), (32, .bipush 45, 2), (34, .if_icmp .ne 8, 3), (37, .bipush 8, 2), (39, .goto 5, 3), (42, .bipush 9, 2), (44, .iload_n 3, 1), (45, .iconst (-1), 1), (46, .invokevirtual 101, 3), (49, .aload_n 1, 1), (50, .invokevirtual 77, 3), (53, .istore_n 3, 1), (54, .aload_n 0, 1), (55, .dup, 1), (56, .getfield 49, 3), (59, .iconst 1, 1), (60, .isub, 1), (61, .putfield 49, 3), (64, .goto (-62), 3), (67, .aload_n 0, 1), (68, .invokevirtual 92, 3), (71, .bipush 38, 2), (73, .if_icmp .ne 23, 3), (76, .aload_n 0, 1), (77, .invokevirtual 95, 3), (80, .aload_n 1, 1), (81, .bipush 6, 2), (83, .aload_n 0, 1), (84, .invokevirtual 98, 3), (87, .iload_n 3, 1), (88, .invokevirtual 101, 3), (91, .aload_n 1, 1), (92, .invokevirtual 77, 3), (95, .istore_n 3, 1), (96, .aload_n 0, 1)]
def zi_60_1 : zIns := [(97, .iload_n 3, 1), (98, .invokevirtual 105, 3), (101, .return_, 1)]
def zi_60 : zIns := zi_60_0 ++ (zi_60_1)
def zi_61 : zIns := [(0, .aload_n 0, 1), (1, .invokevirtual 92, 3), (4, .bipush 124, 2), (6, .if_icmp .ne 41, 3), (9, .aload_n 0, 1), (10, .getfield 52, 3), (13, .iconst 2, 1), (14, .if_icmp .lt 33, 3), (17, .aload_n 0, 1), (18, .invokevirtual 95, 3), (21, .aload_n 0, 1), (22, .invokevirtual 98, 3), (25, .istore_n 2, 1), (26, .aload_n 0, 1), (27, .invokevirtual 98, 3), (30, .istore_n 3, 1), (31, .aload_n 1, 1), (32, .bipush 7, 2), (34, .iload_n 3, 1), (35, .iload_n 2, 1), (36, .invokevirtual 101, 3), (39, .aload_n 0, 1), (40, .aload_n 1, 1), (41, .invokevirtual 77, 3), (44, .invokevirtual 105, 3), (47, .return_, 1)]
def zi_62 : zIns := [(0, .aload_n 0, 1), (1, .getfield 49, 3), (4, .aload_n 0, 1), (5, .getfield 17, 3), (8, .arraylength, 1), (9, .if_icmp .ge 23, 3), (12, .aload_n 0, 1), (13, .getfield 17, 3), (16, .aload_n 0, 1), (17, .getfield 49, 3), (20, .iload_n 1, 1), (21, .iastore, 1), (22, .aload_n 0, 1), (23, .dup, 1), (24, .getfield 49, 3), (27, .iconst 1, 1), (28, .iadd, 1), (29, .putfield 49, 3), (32, .return_, 1)]
def zi_63 : zIns := [(0, .aload_n 0, 1), (1, .getfield 49, 3), (4, .ifCond .le 17, 3), (7, .aload_n 0, 1), (8, .getfield 17, 3), (11, .aload_n 0, 1), (12, .getfield 49, 3), (15, .iconst 1, 1), (16, .isub, 1), (17, .iaload, 1), (18, .goto 4, 3), (21, .iconst (-1), 1), (22, .ireturn, 1)]
def zi_64 : zIns := [(0, .aload_n 0, 1), (1, .getfield 49, 3), (4, .ifCond .le 13, 3), (7, .aload_n 0, 1), (8, .dup, 1), (9, .getfield 49, 3), (12, .iconst 1, 1), (13, .isub, 1), (14, .putfield 49, 3), (17, .return_, 1)]
def zi_65 : zIns := [(0, .aload_n 0, 1), (1, .getfield 52, 3), (4, .aload_n 0, 1), (5, .getfield 20, 3), (8, .arraylength, 1), (9, .if_icmp .ge 23, 3), (12, .aload_n 0, 1), (13, .getfield 20, 3), (16, .aload_n 0, 1), (17, .getfield 52, 3), (20, .iload_n 1, 1), (21, .iastore, 1), (22, .aload_n 0, 1), (23, .dup, 1), (24, .getfield 52, 3), (27, .iconst 1, 1), (28, .iadd, 1), (29, .putfield 52, 3), (32, .return_, 1)]
def zi_66 : zIns := [(0, .aload_n 0, 1), (1, .getfield 52, 3), (4, .ifCond .gt 5, 3), (7, .iconst (-1), 1), (8, .ireturn, 1), (9, .aload_n 0, 1), (10, .dup, 1), (11, .getfield 52, 3), (14, .iconst 1, 1), (15, .isub, 1), (16, .putfield 52, 3), (19, .aload_n 0, 1), (20, .getfield 20, 3), (23, .aload_n 0, 1), (24, .getfield 52, 3), (27, .iaload, 1), (28, .ireturn, 1)]
def zi_67 : zIns := [(0, .aload_n 0, 1), (1, .invokevirtual 108, 3), (4, .istore_n 2, 1), (5, .iload_n 2, 1), (6, .iconst (-1), 1), (7, .if_icmp .ne 5, 3), (10, .iconst 0, 1), (11, .ireturn, 1), (12, .aload_n 0, 1), (13, .invokevirtual 38, 3), (16, .aload_n 1, 1), (17, .iload_n 2, 1), (18, .iconst 0, 1), (19, .invokevirtual 111, 3), (22, .aload_n 0, 1), (23, .invokevirtual 117, 3), (26, .iconst (-1), 1), (27, .if_icmp .eq 9, 3), (30, .aload_n 0, 1), (31, .aload_n 1, 1), (32, .invokestatic 120, 3), (35, .ireturn, 1), (36, .aload_n 0, 1), (37, .invokevirtual 34, 3), (40, .lookupswitch 59 #[(37, 53), (63, 42), (91, 36)], 36), (76, .aload_n 0, 1), (77, .aload_n 1, 1), (78, .invokestatic 123, 3), (81, .ireturn, 1), (82, .aload_n 1, 1), (83, .iconst 2, 1), (84, .putfield 126, 3), (87, .aload_n 0, 1), (88, .invokevirtual 38, 3), (91, .iconst 1, 1), (92, .ireturn, 1), (93, .aload_n 0, 1), (94, .aload_n 1, 1), (95, .invokestatic 129, 3), (98, .ireturn, 1), (99, .aload_n 0, 1), (100, .aload_n 1, 1), (101, .invokestatic 132, 3), (104, .ireturn, 1)]
def zi_68 : zIns := [(0, .aload_n 1, 1), (1, .aload_n 0, 1), (2, .invokevirtual 117, 3), (5, .putfield 135, 3), (8, .aload_n 0, 1), (9, .invokevirtual 38, 3), (12, .aload_n 0, 1), (13, .iconst 1, 1), (14, .bipush 9, 2), (16, .invokevirtual 41, 3), (19, .istore_n 2, 1), (20, .aload_n 0, 1), (21, .invokevirtual 108, 3), (24, .istore_n 3, 1), (25, .iload_n 2, 1), (26, .iconst (-1), 1), (27, .if_icmp .eq 17, 3), (30, .aload_n 1, 1), (31, .iconst 0, 1), (32, .putfield 126, 3), (35, .aload_n 1, 1), (36, .iconst 0, 1), (37, .iload_n 2, 1), (38, .invokevirtual 138, 3), (41, .goto 32, 3), (44, .iload_n 3, 1), (45, .iconst (-1), 1), (46, .if_icmp .eq 25, 3), (49, .aload_n 1, 1), (50, .iload_n 3, 1), (51, .invokevirtual 141, 3), (54, .ifCond .ne 17, 3), (57, .aload_n 1, 1), (58, .iconst 3, 1), (59, .putfield 126, 3), (62, .aload_n 1, 1), (63, .iload_n 3, 1), (64, .iconst 0, 1), (65, .invokevirtual 111, 3), (68, .goto 5, 3), (71, .iconst 0, 1), (72, .ireturn, 1), (73, .aload_n 0, 1), (74, .invokevirtual 38, 3), (77, .iconst 1, 1), (78, .ireturn, 1)]
def zi_69_0 : zIns := [(0, .aload_n 1, 1), (1, .iconst 1, 1), (2, .putfield 126, 3), (5, .aload_n 0, 1), (6, .invokevirtual 38, 3), (9, .iconst 0, 1), (10, .istore_n 2, 1), (11, .aload_n 0, 1), (12, .iconst 1, 1), (13, .bipush 9, 2), (15, .invokevirtual 41, 3), (18, .istore_n 3, 1), (19, .iconst 0, 1), (20, .istore 4, 2), (22, .iload 4, 2), (24, .sipush 250, 3), (27, .if_icmp .ge 32, 3), (30, .iload_n 3, 1), (31, .iconst (-1), 1), (32, .if_icmp .eq 27, 3), (35, .iload_n 2, 1), (36, .iconst 1, 1), (37, .iload_n 3, 1), (38, .ishl, 1), (39, .ior, 1), (40, .istore_n 2, 1), (41, .aload_n 0, 1), (42, .invokevirtual 38, 3), (45, .aload_n 0, 1), (46, .iconst 1, 1), (47, .bipush 9, 2), (49, .invokevirtual 41, 3), (52, .istore_n 3, 1), (53, .iinc 4 1, 3), (56, .goto (-34), 3), (59, .iload_n 2, 1), (60, .ifCond .eq 12, 3), (63, .aload_n 0, 1), (64, .invokevirtual 34, 3), (67, .bipush 93, 2), (69, .if_icmp .eq 5, 3), (72, .iconst 0, 1), (73, .ireturn, 1), (74, .aload_n 1, 1), (75, .iconst 0, 1), (76, .iload_n 2, 1), (77, .invokevirtual 138, 3), (80, .aload_n 0, 1), (81, .invokevirtual 38, 3), (84, .iconst 1, 1)]
def zi_69_1 : zIns := [(85, .ireturn, 1)]
def zi_69 : zIns := zi_69_0 ++ (zi_69_1)
def zi_70 : zIns := [(0, .aload_n 1, 1), (1, .iconst 4, 1), (2, .putfield 126, 3), (5, .aload_n 0, 1), (6, .invokevirtual 38, 3), (9, .aload_n 0, 1), (10, .iconst 2, 1), (11, .bipush 9, 2), (13, .invokevirtual 41, 3), (16, .istore_n 2, 1), (17, .iload_n 2, 1), (18, .iconst (-1), 1), (19, .if_icmp .ne 5, 3), (22, .iconst 0, 1), (23, .ireturn, 1), (24, .aload_n 0, 1), (25, .invokevirtual 38, 3), (28, .aload_n 0, 1), (29, .iconst 0, 1), (30, .iload_n 2, 1), (31, .iconst 1, 1), (32, .isub, 1), (33, .invokevirtual 41, 3), (36, .istore_n 3, 1), (37, .iload_n 3, 1), (38, .iconst (-1), 1), (39, .if_icmp .ne 5, 3), (42, .iconst 0, 1), (43, .ireturn, 1), (44, .aload_n 0, 1), (45, .invokevirtual 38, 3), (48, .aload_n 1, 1), (49, .iconst 0, 1), (50, .iload_n 2, 1), (51, .invokevirtual 138, 3), (54, .aload_n 1, 1), (55, .iload_n 3, 1), (56, .putfield 144, 3), (59, .iconst 1, 1), (60, .ireturn, 1)]
def zi_71_0 : zIns := [(0, .aload_n 1, 1), (1, .iconst 5, 1), (2, .putfield 126, 3), (5, .aload_n 0, 1), (6, .invokevirtual 108, 3), (9, .istore_n 2, 1), (10, .iconst 1, 1), (11, .istore_n 3, 1), (12, .iload_n 3, 1), (13, .iconst 3, 1), (14, .if_icmp .ge 39, 3), (17, .iload_n 2, 1), (18, .iconst (-1), 1), (19, .if_icmp .eq 34, 3), (22, .aload_n 1, 1), (23, .iload_n 2, 1), (24, .invokevirtual 141, 3), (27, .ifCond .eq 5, 3), (30, .iconst 0, 1), (31, .ireturn, 1), (32, .aload_n 1, 1), (33, .iload_n 2, 1), (34, .iconst 0, 1), (35, .invokevirtual 111, 3), (38, .aload_n 0, 1), (39, .invokevirtual 38, 3), (42, .aload_n 0, 1), (43, .invokevirtual 108, 3), (46, .istore_n 2, 1), (47, .iinc 3 1, 3), (50, .goto (-38), 3), (53, .aload_n 1, 1), (54, .aload_n 0, 1), (55, .invokevirtual 117, 3), (58, .putfield 135, 3), (61, .aload_n 1, 1), (62, .invokevirtual 147, 3), (65, .iconst 2, 1), (66, .if_icmp .lt 11, 3), (69, .aload_n 1, 1), (70, .getfield 135, 3), (73, .iconst (-1), 1), (74, .if_icmp .ne 5, 3), (77, .iconst 0, 1), (78, .ireturn, 1), (79, .aload_n 0, 1), (80, .invokevirtual 38, 3), (83, .iconst 0, 1), (84, .istore_n 3, 1), (85, .iload_n 3, 1)]
def zi_71_1 : zIns := [(86, .aload_n 1, 1), (87, .invokevirtual 147, 3), (90, .if_icmp .ge 37, 3), (93, .aload_n 0, 1), (94, .iconst 1, 1), (95, .bipush 9, 2), (97, .invokevirtual 41, 3), (100, .istore 4, 2), (102, .iload 4, 2), (104, .iconst (-1), 1), (105, .if_icmp .ne 5, 3), (108, .iconst 0, 1), (109, .ireturn, 1), (110, .aload_n 1, 1), (111, .iload_n 3, 1), (112, .iload 4, 2), (114, .invokevirtual 138, 3), (117, .aload_n 0, 1), (118, .invokevirtual 38, 3), (121, .iinc 3 1, 3), (124, .goto (-39), 3), (127, .iconst 1, 1), (128, .ireturn, 1)]
def zi_71 : zIns := zi_71_0 ++ (zi_71_1)
def zi_72 : zIns := [(0, .aload_n 0, 1), (1, .invokespecial 3, 3), (4, .aload_n 0, 1), (5, .bipush 8, 2), (7, .newarray .int, 2), (9, .putfield 11, 3), (12, .aload_n 0, 1), (13, .bipush 8, 2), (15, .newarray .int, 2), (17, .putfield 15, 3), (20, .aload_n 0, 1), (21, .sipush 320, 3), (24, .newarray .long, 2), (26, .putfield 18, 3), (29, .iconst 0, 1), (30, .istore_n 1, 1), (31, .iload_n 1, 1), (32, .bipush 8, 2), (34, .if_icmp .ge 16, 3), (37, .aload_n 0, 1), (38, .getfield 11, 3), (41, .iload_n 1, 1), (42, .iconst (-1), 1), (43, .iastore, 1), (44, .iinc 1 1, 3), (47, .goto (-16), 3), (50, .return_, 1)]
def zi_73 : zIns := [(0, .iload_n 0, 1), (1, .iconst 0, 1), (2, .bipush 7, 2), (4, .invokestatic 22, 3), (7, .ireturn, 1)]
def zi_74 : zIns := [(0, .aload_n 0, 1), (1, .getfield 11, 3), (4, .iload_n 1, 1), (5, .iaload, 1), (6, .ireturn, 1)]
def zi_75 : zIns := [(0, .aload_n 0, 1), (1, .getfield 11, 3), (4, .iload_n 1, 1), (5, .iconst (-1), 1), (6, .iastore, 1), (7, .return_, 1)]
def zi_76 : zIns := [(0, .aload_n 0, 1), (1, .getfield 11, 3), (4, .iload_n 1, 1), (5, .bipush 10, 2), (7, .iload_n 2, 1), (8, .iadd, 1), (9, .iastore, 1), (10, .return_, 1)]
def zi_77 : zIns := [(0, .aload_n 0, 1), (1, .getfield 11, 3), (4, .iload_n 1, 1), (5, .iaload, 1), (6, .bipush 10, 2), (8, .if_icmp .lt 15, 3), (11, .aload_n 0, 1), (12, .getfield 11, 3), (15, .iload_n 1, 1), (16, .iaload, 1), (17, .bipush 10, 2), (19, .isub, 1), (20, .goto 4, 3), (23, .iconst (-1), 1), (24, .ireturn, 1)]
def zi_78 : zIns := [(0, .aload_n 0, 1), (1, .getfield 11, 3), (4, .iload_n 1, 1), (5, .iload_n 2, 1), (6, .iastore, 1), (7, .aload_n 0, 1), (8, .getfield 15, 3), (11, .iload_n 1, 1), (12, .iload_n 3, 1), (13, .iastore, 1), (14, .iconst 0, 1), (15, .istore 4, 2), (17, .iload 4, 2), (19, .iload_n 3, 1), (20, .if_icmp .ge 22, 3), (23, .aload_n 0, 1), (24, .getfield 18, 3), (27, .iload_n 1, 1), (28, .bipush 40, 2), (30, .imul, 1), (31, .iload 4, 2), (33, .iadd, 1), (34, .lconst 0, 1), (35, .lastore, 1), (36, .iinc 4 1, 3), (39, .goto (-22), 3), (42, .return_, 1)]
def zi_79 : zIns := [(0, .aload_n 0, 1), (1, .getfield 11, 3), (4, .iload_n 1, 1), (5, .iaload, 1), (6, .bipush 10, 2), (8, .if_icmp .lt 6, 3), (11, .bipush (-103), 2), (13, .ireturn, 1), (14, .aload_n 0, 1), (15, .getfield 11, 3), (18, .iload_n 1, 1), (19, .iaload, 1), (20, .iconst (-1), 1), (21, .if_icmp .ne 8, 3), (24, .bipush (-104), 2), (26, .goto 4, 3), (29, .iconst 0, 1), (30, .ireturn, 1)]
def zi_80 : zIns := [(0, .aload_n 0, 1), (1, .iload_n 1, 1), (2, .invokevirtual 26, 3), (5, .istore_n 3, 1), (6, .iload_n 3, 1), (7, .ifCond .ne 16, 3), (10, .aload_n 0, 1), (11, .getfield 15, 3), (14, .iload_n 1, 1), (15, .iaload, 1), (16, .iload_n 2, 1), (17, .if_icmp .ge 6, 3), (20, .bipush (-102), 2), (22, .ireturn, 1), (23, .iload_n 3, 1), (24, .ireturn, 1)]
def zi_81 : zIns := [(0, .aload_n 0, 1), (1, .iload_n 1, 1), (2, .invokevirtual 26, 3), (5, .istore_n 3, 1), (6, .aload_n 0, 1), (7, .iload_n 2, 1), (8, .invokevirtual 26, 3), (11, .istore 4, 2), (13, .iload_n 3, 1), (14, .bipush (-103), 2), (16, .if_icmp .eq 10, 3), (19, .iload 4, 2), (21, .bipush (-103), 2), (23, .if_icmp .ne 6, 3), (26, .bipush (-103), 2), (28, .ireturn, 1), (29, .iload_n 3, 1), (30, .bipush (-104), 2), (32, .if_icmp .eq 10, 3), (35, .iload 4, 2), (37, .bipush (-104), 2), (39, .if_icmp .ne 6, 3), (42, .bipush (-104), 2), (44, .ireturn, 1), (45, .aload_n 0, 1), (46, .getfield 11, 3), (49, .iload_n 1, 1), (50, .iaload, 1), (51, .aload_n 0, 1), (52, .getfield 11, 3), (55, .iload_n 2, 1), (56, .iaload, 1), (57, .if_icmp .ne 7, 3), (60, .iconst 0, 1), (61, .goto 5, 3), (64, .bipush (-103), 2), (66, .ireturn, 1)]
def zi_82 : zIns := [(0, .iload_n 2, 1), (1, .iconst 0, 1), (2, .aload_n 0, 1), (3, .getfield 15, 3), (6, .iload_n 1, 1), (7, .iaload, 1), (8, .iconst 1, 1), (9, .isub, 1), (10, .invokestatic 22, 3), (13, .ireturn, 1)]
def zi_83 : zIns := [(0, .iload_n 3, 1), (1, .iconst 0, 1), (2, .aload_n 0, 1), (3, .getfield 15, 3), (6, .iload_n 1, 1), (7, .iaload, 1), (8, .invokestatic 22, 3), (11, .ifCond .eq 23, 3), (14, .iload_n 2, 1), (15, .iconst 0, 1), (16, .aload_n 0, 1), (17, .getfield 15, 3), (20, .iload_n 1, 1), (21, .iaload, 1), (22, .iload_n 3, 1), (23, .isub, 1), (24, .invokestatic 22, 3), (27, .ifCond .eq 7, 3), (30, .iconst 1, 1), (31, .goto 4, 3), (34, .iconst 0, 1), (35, .ireturn, 1)]
def zi_84 : zIns := [(0, .aload_n 0, 1), (1, .getfield 18, 3), (4, .iload_n 1, 1), (5, .bipush 40, 2), (7, .imul, 1), (8, .iload_n 2, 1), (9, .iadd, 1), (10, .laload, 1), (11, .lreturn, 1)]
def zi_85 : zIns := [(0, .aload_n 0, 1), (1, .getfield 18, 3), (4, .iload_n 1, 1), (5, .bipush 40, 2), (7, .imul, 1), (8, .iload_n 2, 1), (9, .iadd, 1), (10, .aload_n 0, 1), (11, .getfield 11, 3), (14, .iload_n 1, 1), (15, .iaload, 1), (16, .lload_n 3, 1), (17, .invokestatic 30, 3), (20, .lastore, 1), (21, .return_, 1)]
def zi_86 : zIns := [(0, .aload_n 0, 1), (1, .getfield 18, 3), (4, .iload_n 1, 1), (5, .bipush 40, 2), (7, .imul, 1), (8, .iload_n 3, 1), (9, .iadd, 1), (10, .aload_n 0, 1), (11, .getfield 18, 3), (14, .iload_n 2, 1), (15, .bipush 40, 2), (17, .imul, 1), (18, .iload 4, 2), (20, .iadd, 1), (21, .iload 5, 2), (23, .invokestatic 34, 3), (26, .return_, 1)]
def zi_87 : zIns := [(0, .iload_n 0, 1), (1, .tableswitch 47 0 3 #[31, 36, 41, 45], 31), (32, .lload_n 1, 1), (33, .l2i, 1), (34, .i2b, 1), (35, .i2l, 1), (36, .lreturn, 1), (37, .lload_n 1, 1), (38, .l2i, 1), (39, .i2s, 1), (40, .i2l, 1), (41, .lreturn, 1), (42, .lload_n 1, 1), (43, .l2i, 1), (44, .i2l, 1), (45, .lreturn, 1), (46, .lload_n 1, 1), (47, .lreturn, 1), (48, .lload_n 1, 1), (49, .lconst 0, 1), (50, .lcmp, 1), (51, .ifCond .eq 7, 3), (54, .lconst 1, 1), (55, .goto 4, 3), (58, .lconst 0, 1), (59, .lreturn, 1)]
def zi_88 : zIns := [(0, .iconst 0, 1), (1, .istore_n 2, 1), (2, .iload_n 2, 1), (3, .bipush 8, 2), (5, .if_icmp .ge 25, 3), (8, .aload_n 0, 1), (9, .iload_n 2, 1), (10, .invokevirtual 40, 3), (13, .iload_n 1, 1), (14, .if_icmp .lt 10, 3), (17, .aload_n 0, 1), (18, .getfield 11, 3), (21, .iload_n 2, 1), (22, .iconst (-1), 1), (23, .iastore, 1), (24, .iinc 2 1, 3), (27, .goto (-25), 3), (30, .return_, 1)]
def zi_89 : zIns := [(0, .iconst 0, 1), (1, .istore_n 1, 1), (2, .iconst 0, 1), (3, .istore_n 2, 1), (4, .iload_n 2, 1), (5, .bipush 8, 2), (7, .if_icmp .ge 22, 3), (10, .aload_n 0, 1), (11, .getfield 11, 3), (14, .iload_n 2, 1), (15, .iaload, 1), (16, .iconst (-1), 1), (17, .if_icmp .eq 6, 3), (20, .iinc 1 1, 3), (23, .iinc 2 1, 3), (26, .goto (-22), 3), (29, .iload_n 1, 1), (30, .ireturn, 1)]
def zi_90 : zIns := [(0, .aload_n 0, 1), (1, .invokespecial 3, 3), (4, .aload_n 0, 1), (5, .sipush 1000, 3), (8, .newarray .byte, 2), (10, .putfield 9, 3), (13, .aload_n 0, 1), (14, .sipush 500, 3), (17, .newarray .int, 2), (19, .putfield 15, 3), (22, .aload_n 0, 1), (23, .sipush 500, 3), (26, .newarray .int, 2), (28, .putfield 19, 3), (31, .aload_n 0, 1), (32, .sipush 1000, 3), (35, .newarray .int, 2), (37, .putfield 22, 3), (40, .aload_n 0, 1), (41, .sipush 500, 3), (44, .newarray .int, 2), (46, .putfield 25, 3), (49, .aload_n 0, 1), (50, .sipush 1000, 3), (53, .newarray .int, 2), (55, .putfield 28, 3), (58, .aload_n 0, 1), (59, .sipush 500, 3), (62, .newarray .int, 2), (64, .putfield 31, 3), (67, .aload_n 0, 1), (68, .sipush 500, 3), (71, .newarray .boolean, 2), (73, .putfield 34, 3), (76, .aload_n 0, 1), (77, .sipush 500, 3), (80, .newarray .int, 2), (82, .putfield 38, 3), (85, .return_, 1)]
def zi_91_0 : zIns := [(0, .aload_n 0, 1), (1, .iconst 0, 1), (2, .putfield 41, 3), (5, .iconst 0, 1), (6, .istore_n 3, 1), (7, .iconst 0, 1), (8, .istore 4, 2), (10, .iload 4, 2), (12, .sipush 1000, 3), (15, .if_icmp .ge 124, 3), (18, .aload_n 0, 1), (19, .getfield 9, 3), (22, .iload 4, 2), (24, .aload_n 1, 1), (25, .getfield 45, 3), (28, .iload_n 2, 1), (29, .iload 4, 2), (31, .invokestatic 48, 3), (34, .baload, 1), (35, .bastore, 1), (36, .aload_n 0, 1), (37, .getfield 9, 3), (40, .iload 4, 2), (42, .baload, 1), (43, .iconst 1, 1), (44, .if_icmp .ne 7, 3), (47, .iconst 1, 1), (48, .goto 4, 3), (51, .iconst 0, 1), (52, .istore 5, 2), (54, .iload 5, 2), (56, .ifCond .eq 38, 3), (59, .iload_n 3, 1), (60, .ifCond .ne 34, 3), (63, .aload_n 0, 1), (64, .getfield 41, 3), (67, .sipush 500, 3), (70, .if_icmp .ge 24, 3), (73, .aload_n 0, 1), (74, .getfield 15, 3), (77, .aload_n 0, 1), (78, .getfield 41, 3), (81, .iload 4, 2), (83, .iastore, 1), (84, .aload_n 0, 1), (85, .dup, 1), (86, .getfield 41, 3), (89, .iconst 1, 1), (90, .iadd, 1), (91, .putfield 41, 3)]
def zi_91_1 : zIns := [(94, .iload 5, 2), (96, .ifCond .eq 23, 3), (99, .aload_n 0, 1), (100, .getfield 41, 3), (103, .ifCond .le 16, 3), (106, .aload_n 0, 1), (107, .getfield 19, 3), (110, .aload_n 0, 1), (111, .getfield 41, 3), (114, .iconst 1, 1), (115, .isub, 1), (116, .iload 4, 2), (118, .iastore, 1), (119, .aload_n 0, 1), (120, .getfield 22, 3), (123, .iload 4, 2), (125, .aload_n 0, 1), (126, .getfield 41, 3), (129, .iastore, 1), (130, .iload 5, 2), (132, .istore_n 3, 1), (133, .iinc 4 1, 3), (136, .goto (-126), 3), (139, .return_, 1)]
def zi_91 : zIns := zi_91_0 ++ (zi_91_1)
def zi_92 : zIns := [(0, .sipush 1000, 3), (3, .aload_n 0, 1), (4, .getfield 15, 3), (7, .iload_n 1, 1), (8, .iaload, 1), (9, .imul, 1), (10, .aload_n 0, 1), (11, .getfield 19, 3), (14, .iload_n 1, 1), (15, .iaload, 1), (16, .iadd, 1), (17, .ireturn, 1)]
def zi_93 : zIns := [(0, .aload_n 0, 1), (1, .getfield 41, 3), (4, .iload_n 1, 1), (5, .invokestatic 52, 3), (8, .ireturn, 1)]
def zi_94 : zIns := [(0, .aload_n 0, 1), (1, .getfield 15, 3), (4, .iload_n 1, 1), (5, .iconst 1, 1), (6, .iadd, 1), (7, .iaload, 1), (8, .aload_n 0, 1), (9, .getfield 19, 3), (12, .iload_n 1, 1), (13, .iaload, 1), (14, .isub, 1), (15, .iconst 1, 1), (16, .isub, 1), (17, .ireturn, 1)]
def zi_95_0 : zIns := [(0, .iconst 0, 1), (1, .istore_n 1, 1), (2, .iload_n 1, 1), (3, .sipush 1000, 3), (6, .if_icmp .ge 16, 3), (9, .aload_n 0, 1), (10, .getfield 28, 3), (13, .iload_n 1, 1), (14, .iconst (-1), 1), (15, .iastore, 1), (16, .iinc 1 1, 3), (19, .goto (-17), 3), (22, .aload_n 0, 1), (23, .getfield 41, 3), (26, .iconst 2, 1), (27, .isub, 1), (28, .istore_n 1, 1), (29, .iload_n 1, 1), (30, .ifCond .lt 34, 3), (33, .aload_n 0, 1), (34, .iload_n 1, 1), (35, .invokevirtual 57, 3), (38, .istore_n 2, 1), (39, .aload_n 0, 1), (40, .getfield 31, 3), (43, .iload_n 1, 1), (44, .aload_n 0, 1), (45, .getfield 28, 3), (48, .iload_n 2, 1), (49, .iaload, 1), (50, .iastore, 1), (51, .aload_n 0, 1), (52, .getfield 28, 3), (55, .iload_n 2, 1), (56, .iload_n 1, 1), (57, .iastore, 1), (58, .iinc 1 (-1), 3), (61, .goto (-32), 3), (64, .iconst 0, 1), (65, .istore_n 1, 1), (66, .iconst 0, 1), (67, .istore_n 2, 1), (68, .iload_n 2, 1), (69, .sipush 1000, 3), (72, .if_icmp .ge 51, 3), (75, .aload_n 0, 1), (76, .getfield 28, 3), (79, .iload_n 2, 1), (80, .iaload, 1), (81, .istore_n 3, 1)]
def zi_95_1 : zIns := [(82, .iload_n 3, 1), (83, .iconst (-1), 1), (84, .if_icmp .eq 33, 3), (87, .iload_n 1, 1), (88, .aload_n 0, 1), (89, .getfield 41, 3), (92, .iconst 1, 1), (93, .isub, 1), (94, .if_icmp .ge 23, 3), (97, .aload_n 0, 1), (98, .getfield 25, 3), (101, .iload_n 1, 1), (102, .iload_n 3, 1), (103, .iastore, 1), (104, .iinc 1 1, 3), (107, .aload_n 0, 1), (108, .getfield 31, 3), (111, .iload_n 3, 1), (112, .iaload, 1), (113, .istore_n 3, 1), (114, .goto (-32), 3), (117, .iinc 2 1, 3), (120, .goto (-52), 3), (123, .return_, 1)]
def zi_95 : zIns := zi_95_0 ++ (zi_95_1)
def zi_96 : zIns := [(0, .aload_n 0, 1), (1, .invokevirtual 61, 3), (4, .iconst 0, 1), (5, .istore_n 2, 1), (6, .iload_n 2, 1), (7, .aload_n 0, 1), (8, .getfield 41, 3), (11, .iconst 1, 1), (12, .isub, 1), (13, .if_icmp .ge 16, 3), (16, .aload_n 0, 1), (17, .getfield 34, 3), (20, .iload_n 2, 1), (21, .iconst 0, 1), (22, .bastore, 1), (23, .iinc 2 1, 3), (26, .goto (-20), 3), (29, .iconst 0, 1), (30, .istore_n 2, 1), (31, .iload_n 2, 1), (32, .aload_n 0, 1), (33, .getfield 41, 3), (36, .iload_n 1, 1), (37, .iconst 1, 1), (38, .invokestatic 64, 3), (41, .isub, 1), (42, .if_icmp .ge 21, 3), (45, .aload_n 0, 1), (46, .getfield 34, 3), (49, .aload_n 0, 1), (50, .getfield 25, 3), (53, .iload_n 2, 1), (54, .iaload, 1), (55, .iconst 1, 1), (56, .bastore, 1), (57, .iinc 2 1, 3), (60, .goto (-29), 3), (63, .return_, 1)]
def zi_97 : zIns := [(0, .iconst 0, 1), (1, .istore_n 2, 1), (2, .iconst 0, 1), (3, .istore_n 3, 1), (4, .iconst 0, 1), (5, .istore 4, 2), (7, .iload 4, 2), (9, .aload_n 0, 1), (10, .getfield 41, 3), (13, .if_icmp .ge 62, 3), (16, .iload 4, 2), (18, .aload_n 0, 1), (19, .getfield 41, 3), (22, .iconst 1, 1), (23, .isub, 1), (24, .if_icmp .eq 13, 3), (27, .aload_n 0, 1), (28, .getfield 34, 3), (31, .iload 4, 2), (33, .baload, 1), (34, .ifCond .ne 35, 3), (37, .iload_n 2, 1), (38, .iload_n 1, 1), (39, .if_icmp .ne 22, 3), (42, .sipush 1000, 3), (45, .aload_n 0, 1), (46, .getfield 15, 3), (49, .iload_n 3, 1), (50, .iaload, 1), (51, .imul, 1), (52, .aload_n 0, 1), (53, .getfield 19, 3), (56, .iload 4, 2), (58, .iaload, 1), (59, .iadd, 1), (60, .ireturn, 1), (61, .iinc 2 1, 3), (64, .iload 4, 2), (66, .iconst 1, 1), (67, .iadd, 1), (68, .istore_n 3, 1), (69, .iinc 4 1, 3), (72, .goto (-65), 3), (75, .iconst (-1), 1), (76, .ireturn, 1)]
def zi_98 : zIns := [(0, .aload_n 0, 1), (1, .getfield 22, 3), (4, .iload_n 1, 1), (5, .iaload, 1), (6, .iconst 1, 1), (7, .isub, 1), (8, .istore_n 2, 1), (9, .aload_n 0, 1), (10, .getfield 9, 3), (13, .iload_n 1, 1), (14, .baload, 1), (15, .iconst 1, 1), (16, .if_icmp .eq 21, 3), (19, .iload_n 2, 1), (20, .iconst 0, 1), (21, .aload_n 0, 1), (22, .getfield 41, 3), (25, .iconst 2, 1), (26, .isub, 1), (27, .invokestatic 67, 3), (30, .ifCond .eq 7, 3), (33, .iload_n 2, 1), (34, .goto 4, 3), (37, .iconst (-1), 1), (38, .ireturn, 1)]
def zi_99 : zIns := [(0, .aload_n 0, 1), (1, .iload_n 1, 1), (2, .invokevirtual 71, 3), (5, .istore_n 2, 1), (6, .aload_n 0, 1), (7, .getfield 9, 3), (10, .iload_n 1, 1), (11, .baload, 1), (12, .iconst 1, 1), (13, .if_icmp .eq 17, 3), (16, .iload_n 2, 1), (17, .iconst (-1), 1), (18, .if_icmp .eq 16, 3), (21, .aload_n 0, 1), (22, .getfield 34, 3), (25, .iload_n 2, 1), (26, .baload, 1), (27, .ifCond .eq 7, 3), (30, .iconst 1, 1), (31, .goto 4, 3), (34, .iconst 0, 1), (35, .ireturn, 1)]
def zi_100 : zIns := [(0, .iconst 0, 1), (1, .istore_n 1, 1), (2, .iconst 0, 1), (3, .istore_n 2, 1), (4, .iload_n 2, 1), (5, .aload_n 0, 1), (6, .getfield 41, 3), (9, .iconst 1, 1), (10, .isub, 1), (11, .if_icmp .ge 26, 3), (14, .aload_n 0, 1), (15, .getfield 34, 3), (18, .iload_n 2, 1), (19, .baload, 1), (20, .ifCond .eq 11, 3), (23, .iload_n 1, 1), (24, .aload_n 0, 1), (25, .iload_n 2, 1), (26, .invokevirtual 57, 3), (29, .iadd, 1), (30, .istore_n 1, 1), (31, .iinc 2 1, 3), (34, .goto (-30), 3), (37, .iload_n 1, 1), (38, .ireturn, 1)]
def zi_101 : zIns := [(0, .iconst 0, 1), (1, .istore_n 3, 1), (2, .iconst 0, 1), (3, .istore 4, 2), (5, .iload 4, 2), (7, .aload_n 1, 1), (8, .getfield 74, 3), (11, .if_icmp .ge 26, 3), (14, .aload_n 0, 1), (15, .aload_n 1, 1), (16, .iload 4, 2), (18, .iload_n 2, 1), (19, .invokevirtual 77, 3), (22, .invokevirtual 80, 3), (25, .ifCond .eq 6, 3), (28, .iinc 3 1, 3), (31, .iinc 4 1, 3), (34, .goto (-29), 3), (37, .iload_n 3, 1), (38, .ireturn, 1)]
def zi_102_0 : zIns := [(0, .aload_n 0, 1), (1, .invokevirtual 61, 3), (4, .aload_n 1, 1), (5, .getfield 84, 3), (8, .aload_n 0, 1), (9, .getfield 41, 3), (12, .imul, 1), (13, .aload_n 0, 1), (14, .aload_n 1, 1), (15, .iload_n 2, 1), (16, .invokevirtual 87, 3), (19, .iadd, 1), (20, .istore_n 3, 1), (21, .aload_n 0, 1), (22, .iconst 1, 1), (23, .putfield 91, 3), (26, .aload_n 0, 1), (27, .iload_n 3, 1), (28, .putfield 94, 3), (31, .iconst 0, 1), (32, .istore 4, 2), (34, .aload_n 0, 1), (35, .getfield 41, 3), (38, .istore 5, 2), (40, .iload 5, 2), (42, .iconst 1, 1), (43, .if_icmp .lt 74, 3), (46, .iload 5, 2), (48, .bipush 40, 2), (50, .if_icmp .gt 30, 3), (53, .iload 4, 2), (55, .ifCond .eq 11, 3), (58, .iload_n 3, 1), (59, .aload_n 0, 1), (60, .getfield 94, 3), (63, .if_icmp .gt 17, 3), (66, .iconst 1, 1), (67, .istore 4, 2), (69, .aload_n 0, 1), (70, .iload 5, 2), (72, .putfield 91, 3), (75, .aload_n 0, 1), (76, .iload_n 3, 1), (77, .putfield 94, 3), (80, .iload 5, 2), (82, .iconst 1, 1), (83, .if_icmp .le 28, 3), (86, .iload_n 3, 1), (87, .aload_n 0, 1), (88, .getfield 38, 3)]
def zi_102_1 : zIns := [(91, .aload_n 0, 1), (92, .getfield 25, 3), (95, .aload_n 0, 1), (96, .getfield 41, 3), (99, .iload 5, 2), (101, .isub, 1), (102, .iaload, 1), (103, .iaload, 1), (104, .aload_n 1, 1), (105, .getfield 84, 3), (108, .isub, 1), (109, .iadd, 1), (110, .istore_n 3, 1), (111, .iinc 5 (-1), 3), (114, .goto (-74), 3), (117, .return_, 1)]
def zi_102 : zIns := zi_102_0 ++ (zi_102_1)
def zi_103_0 : zIns := [(0, .iconst 0, 1), (1, .istore_n 3, 1), (2, .iload_n 3, 1), (3, .aload_n 0, 1), (4, .getfield 41, 3), (7, .iconst 1, 1), (8, .isub, 1), (9, .if_icmp .ge 16, 3), (12, .aload_n 0, 1), (13, .getfield 38, 3), (16, .iload_n 3, 1), (17, .iconst 0, 1), (18, .iastore, 1), (19, .iinc 3 1, 3), (22, .goto (-20), 3), (25, .iconst 0, 1), (26, .istore_n 3, 1), (27, .iconst 0, 1), (28, .istore 4, 2), (30, .iload 4, 2), (32, .aload_n 1, 1), (33, .getfield 74, 3), (36, .if_icmp .ge 60, 3), (39, .aload_n 1, 1), (40, .iload 4, 2), (42, .iload_n 2, 1), (43, .invokevirtual 77, 3), (46, .istore 5, 2), (48, .aload_n 0, 1), (49, .iload 5, 2), (51, .invokevirtual 71, 3), (54, .istore 6, 2), (56, .aload_n 0, 1), (57, .getfield 9, 3), (60, .iload 5, 2), (62, .baload, 1), (63, .iconst 1, 1), (64, .if_icmp .ne 9, 3), (67, .iinc 3 1, 3), (70, .goto 20, 3), (73, .iload 6, 2), (75, .iconst (-1), 1), (76, .if_icmp .eq 14, 3), (79, .aload_n 0, 1), (80, .getfield 38, 3), (83, .iload 6, 2), (85, .dup2, 1), (86, .iaload, 1), (87, .iconst 1, 1), (88, .iadd, 1)]
def zi_103_1 : zIns := [(89, .iastore, 1), (90, .iinc 4 1, 3), (93, .goto (-63), 3), (96, .iload_n 3, 1), (97, .ireturn, 1)]
def zi_103 : zIns := zi_103_0 ++ (zi_103_1)
def zi_104 : zIns := [(0, .aload_n 0, 1), (1, .invokespecial 3, 3), (4, .aload_n 0, 1), (5, .sipush 250, 3), (8, .newarray .int, 2), (10, .putfield 11, 3), (13, .aload_n 0, 1), (14, .iconst 0, 1), (15, .putfield 15, 3), (18, .aload_n 0, 1), (19, .iconst 0, 1), (20, .putfield 19, 3), (23, .return_, 1)]
def zi_105 : zIns := [(0, .aload_n 0, 1), (1, .getfield 15, 3), (4, .sipush 250, 3), (7, .if_icmp .ge 23, 3), (10, .aload_n 0, 1), (11, .getfield 11, 3), (14, .aload_n 0, 1), (15, .getfield 15, 3), (18, .iload_n 1, 1), (19, .iastore, 1), (20, .aload_n 0, 1), (21, .dup, 1), (22, .getfield 15, 3), (25, .iconst 1, 1), (26, .iadd, 1), (27, .putfield 15, 3), (30, .return_, 1)]
def zi_106 : zIns := [(0, .aload_n 0, 1), (1, .iconst 0, 1), (2, .putfield 15, 3), (5, .return_, 1)]
def zi_107 : zIns := [(0, .aload_n 0, 1), (1, .iconst 0, 1), (2, .putfield 19, 3), (5, .return_, 1)]
def zi_108 : zIns := [(0, .aload_n 0, 1), (1, .getfield 19, 3), (4, .aload_n 0, 1), (5, .getfield 15, 3), (8, .if_icmp .ge 30, 3), (11, .aload_n 0, 1), (12, .getfield 11, 3), (15, .aload_n 0, 1), (16, .getfield 19, 3), (19, .iaload, 1), (20, .bipush 32, 2), (22, .if_icmp .ne 16, 3), (25, .aload_n 0, 1), (26, .dup, 1), (27, .getfield 19, 3), (30, .iconst 1, 1), (31, .iadd, 1), (32, .putfield 19, 3), (35, .goto (-35), 3), (38, .aload_n 0, 1), (39, .getfield 19, 3), (42, .aload_n 0, 1), (43, .getfield 15, 3), (46, .if_icmp .ge 15, 3), (49, .aload_n 0, 1), (50, .getfield 11, 3), (53, .aload_n 0, 1), (54, .getfield 19, 3), (57, .iaload, 1), (58, .goto 4, 3), (61, .iconst (-1), 1), (62, .ireturn, 1)]
def zi_109 : zIns := [(0, .aload_n 0, 1), (1, .getfield 19, 3), (4, .aload_n 0, 1), (5, .getfield 15, 3), (8, .if_icmp .ge 13, 3), (11, .aload_n 0, 1), (12, .dup, 1), (13, .getfield 19, 3), (16, .iconst 1, 1), (17, .iadd, 1), (18, .putfield 19, 3), (21, .return_, 1)]
def zi_110 : zIns := [(0, .aload_n 0, 1), (1, .invokevirtual 22, 3), (4, .istore_n 1, 1), (5, .iload_n 1, 1), (6, .bipush 97, 2), (8, .bipush 99, 2), (10, .invokestatic 26, 3), (13, .ifCond .eq 10, 3), (16, .iload_n 1, 1), (17, .bipush 97, 2), (19, .isub, 1), (20, .goto 4, 3), (23, .iconst (-1), 1), (24, .ireturn, 1)]
def zi_111 : zIns := [(0, .aload_n 0, 1), (1, .invokevirtual 22, 3), (4, .lookupswitch 52 #[(60, 44), (61, 46), (62, 48), (126, 50)], 44), (48, .iconst 0, 1), (49, .ireturn, 1), (50, .iconst 1, 1), (51, .ireturn, 1), (52, .iconst 2, 1), (53, .ireturn, 1), (54, .iconst 3, 1), (55, .ireturn, 1), (56, .iconst (-1), 1), (57, .ireturn, 1)]
def zi_112 : zIns := [(0, .aload_n 0, 1), (1, .invokevirtual 22, 3), (4, .istore_n 3, 1), (5, .iload_n 3, 1), (6, .bipush 48, 2), (8, .iload_n 1, 1), (9, .iadd, 1), (10, .bipush 48, 2), (12, .iload_n 2, 1), (13, .iadd, 1), (14, .invokestatic 26, 3), (17, .ifCond .eq 10, 3), (20, .iload_n 3, 1), (21, .bipush 48, 2), (23, .isub, 1), (24, .goto 4, 3), (27, .iconst (-1), 1), (28, .ireturn, 1)]
def zi_113_0 : zIns := [(0, .aload_n 0, 1), (1, .invokespecial 1, 3), (4, .aload_n 0, 1), (5, .new 7, 3), (8, .dup, 1), (9, .invokespecial 9, 3), (12, .putfield 10, 3), (15, .aload_n 0, 1), (16, .new 7, 3), (19, .dup, 1), (20, .invokespecial 9, 3), (23, .putfield 16, 3), (26, .aload_n 0, 1), (27, .new 19, 3), (30, .dup, 1), (31, .invokespecial 21, 3), (34, .putfield 22, 3), (37, .aload_n 0, 1), (38, .new 19, 3), (41, .dup, 1), (42, .invokespecial 21, 3), (45, .putfield 26, 3), (48, .aload_n 0, 1), (49, .new 29, 3), (52, .dup, 1), (53, .invokespecial 31, 3), (56, .putfield 32, 3), (59, .aload_n 0, 1), (60, .new 36, 3), (63, .dup, 1), (64, .invokespecial 38, 3), (67, .putfield 39, 3), (70, .aload_n 0, 1), (71, .new 43, 3), (74, .dup, 1), (75, .invokespecial 45, 3), (78, .putfield 46, 3), (81, .aload_n 0, 1), (82, .new 50, 3), (85, .dup, 1), (86, .invokespecial 52, 3), (89, .putfield 53, 3), (92, .aload_n 0, 1), (93, .new 57, 3), (96, .dup, 1), (97, .invokespecial 59, 3), (100, .putfield 60, 3), (103, .aload_n 0, 1), (104, .iconst 5, 1), (105, .newarray .int, 2)]
def zi_113_1 : zIns := [(107, .putfield 64, 3), (110, .aload_n 0, 1), (111, .sipush 1000, 3), (114, .newarray .boolean, 2), (116, .putfield 68, 3), (119, .aload_n 0, 1), (120, .iconst 0, 1), (121, .putfield 72, 3), (124, .return_, 1)]
def zi_113 : zIns := zi_113_0 ++ (zi_113_1)
def zi_114 : zIns := [(0, .iload_n 1, 1), (1, .invokestatic 76, 3), (4, .ifCond .eq 22, 3), (7, .iload_n 2, 1), (8, .iconst 0, 1), (9, .iconst 4, 1), (10, .invokestatic 80, 3), (13, .ifCond .eq 13, 3), (16, .iload_n 3, 1), (17, .iconst 0, 1), (18, .bipush 40, 2), (20, .invokestatic 80, 3), (23, .ifCond .ne 10, 3), (26, .aload_n 0, 1), (27, .bipush (-102), 2), (29, .invokevirtual 84, 3), (32, .ireturn, 1), (33, .aload_n 0, 1), (34, .getfield 32, 3), (37, .iload_n 1, 1), (38, .iload_n 2, 1), (39, .iload_n 3, 1), (40, .invokevirtual 88, 3), (43, .iconst 1, 1), (44, .ireturn, 1)]
def zi_115 : zIns := [(0, .iload_n 1, 1), (1, .invokestatic 76, 3), (4, .ifCond .ne 10, 3), (7, .aload_n 0, 1), (8, .bipush (-102), 2), (10, .invokevirtual 84, 3), (13, .ireturn, 1), (14, .aload_n 0, 1), (15, .getfield 32, 3), (18, .iload_n 1, 1), (19, .invokevirtual 92, 3), (22, .istore 5, 2), (24, .iload 5, 2), (26, .ifCond .eq 10, 3), (29, .aload_n 0, 1), (30, .iload 5, 2), (32, .invokevirtual 84, 3), (35, .ireturn, 1), (36, .aload_n 0, 1), (37, .getfield 32, 3), (40, .iload_n 1, 1), (41, .iload_n 2, 1), (42, .invokevirtual 95, 3), (45, .ifCond .ne 10, 3), (48, .aload_n 0, 1), (49, .bipush (-102), 2), (51, .invokevirtual 84, 3), (54, .ireturn, 1), (55, .aload_n 0, 1), (56, .getfield 32, 3), (59, .iload_n 1, 1), (60, .iload_n 2, 1), (61, .lload_n 3, 1), (62, .invokevirtual 99, 3), (65, .iconst 1, 1), (66, .ireturn, 1)]
def zi_116 : zIns := [(0, .iload_n 1, 1), (1, .invokestatic 76, 3), (4, .ifCond .eq 10, 3), (7, .iload_n 2, 1), (8, .invokestatic 76, 3), (11, .ifCond .ne 10, 3), (14, .aload_n 0, 1), (15, .bipush (-102), 2), (17, .invokevirtual 84, 3), (20, .ireturn, 1), (21, .aload_n 0, 1), (22, .getfield 32, 3), (25, .iload_n 1, 1), (26, .iload_n 2, 1), (27, .invokevirtual 103, 3), (30, .istore 6, 2), (32, .iload 6, 2), (34, .ifCond .eq 10, 3), (37, .aload_n 0, 1), (38, .iload 6, 2), (40, .invokevirtual 84, 3), (43, .ireturn, 1), (44, .aload_n 0, 1), (45, .getfield 32, 3), (48, .iload_n 1, 1), (49, .iload_n 3, 1), (50, .iload 5, 2), (52, .invokevirtual 107, 3), (55, .ifCond .eq 18, 3), (58, .aload_n 0, 1), (59, .getfield 32, 3), (62, .iload_n 2, 1), (63, .iload 4, 2), (65, .iload 5, 2), (67, .invokevirtual 107, 3), (70, .ifCond .ne 10, 3), (73, .aload_n 0, 1), (74, .bipush (-102), 2), (76, .invokevirtual 84, 3), (79, .ireturn, 1), (80, .aload_n 0, 1), (81, .getfield 32, 3), (84, .iload_n 1, 1), (85, .iload_n 2, 1), (86, .iload_n 3, 1), (87, .iload 4, 2), (89, .iload 5, 2), (91, .invokevirtual 110, 3), (94, .iload 5, 2), (96, .ireturn, 1)]
def zi_117 : zIns := [(0, .iload_n 1, 1), (1, .invokestatic 76, 3), (4, .ifCond .eq 26, 3), (7, .aload_n 0, 1), (8, .getfield 32, 3), (11, .iload_n 1, 1), (12, .invokevirtual 92, 3), (15, .ifCond .ne 15, 3), (18, .aload_n 0, 1), (19, .getfield 32, 3), (22, .iload_n 1, 1), (23, .iload_n 2, 1), (24, .invokevirtual 95, 3), (27, .ifCond .ne 5, 3), (30, .lconst 0, 1), (31, .lreturn, 1), (32, .aload_n 0, 1), (33, .getfield 32, 3), (36, .iload_n 1, 1), (37, .iload_n 2, 1), (38, .invokevirtual 114, 3), (41, .lreturn, 1)]
def zi_118 : zIns := [(0, .iload_n 1, 1), (1, .invokestatic 76, 3), (4, .ifCond .eq 14, 3), (7, .aload_n 0, 1), (8, .getfield 32, 3), (11, .iload_n 1, 1), (12, .invokevirtual 118, 3), (15, .goto 4, 3), (18, .iconst (-1), 1), (19, .ireturn, 1)]
def zi_119 : zIns := [(0, .iload_n 1, 1), (1, .invokestatic 76, 3), (4, .ifCond .eq 19, 3), (7, .iload_n 2, 1), (8, .iconst (-1), 1), (9, .if_icmp .eq 21, 3), (12, .aload_n 0, 1), (13, .getfield 22, 3), (16, .iload_n 2, 1), (17, .invokevirtual 121, 3), (20, .ifCond .ne 10, 3), (23, .aload_n 0, 1), (24, .bipush (-102), 2), (26, .invokevirtual 84, 3), (29, .ireturn, 1), (30, .iload_n 2, 1), (31, .iconst (-1), 1), (32, .if_icmp .ne 14, 3), (35, .aload_n 0, 1), (36, .getfield 32, 3), (39, .iload_n 1, 1), (40, .invokevirtual 124, 3), (43, .goto 12, 3), (46, .aload_n 0, 1), (47, .getfield 32, 3), (50, .iload_n 1, 1), (51, .iload_n 2, 1), (52, .invokevirtual 128, 3), (55, .iconst 1, 1), (56, .ireturn, 1)]
def zi_120 : zIns := [(0, .iload_n 1, 1), (1, .invokestatic 76, 3), (4, .ifCond .eq 13, 3), (7, .iload_n 2, 1), (8, .iconst 0, 1), (9, .bipush 6, 2), (11, .invokestatic 80, 3), (14, .ifCond .ne 10, 3), (17, .aload_n 0, 1), (18, .bipush (-102), 2), (20, .invokevirtual 84, 3), (23, .ireturn, 1), (24, .aload_n 0, 1), (25, .getfield 32, 3), (28, .iload_n 1, 1), (29, .invokevirtual 118, 3), (32, .iconst (-1), 1), (33, .if_icmp .ne 10, 3), (36, .aload_n 0, 1), (37, .bipush (-104), 2), (39, .invokevirtual 84, 3), (42, .ireturn, 1), (43, .aload_n 0, 1), (44, .getfield 32, 3), (47, .iload_n 1, 1), (48, .invokevirtual 132, 3), (51, .istore_n 3, 1), (52, .aload_n 0, 1), (53, .getfield 22, 3), (56, .iload_n 3, 1), (57, .invokevirtual 121, 3), (60, .ifCond .eq 18, 3), (63, .aload_n 0, 1), (64, .getfield 22, 3), (67, .iload_n 3, 1), (68, .invokevirtual 135, 3), (71, .iload_n 2, 1), (72, .invokevirtual 139, 3), (75, .ifCond .ne 10, 3), (78, .aload_n 0, 1), (79, .bipush (-103), 2), (81, .invokevirtual 84, 3), (84, .ireturn, 1), (85, .aload_n 0, 1), (86, .getfield 22, 3), (89, .iload_n 3, 1), (90, .invokevirtual 135, 3), (93, .iload_n 2, 1), (94, .invokevirtual 144, 3), (97, .ireturn, 1)]
def zi_121 : zIns := [(0, .iload_n 1, 1), (1, .invokestatic 147, 3), (4, .ifCond .eq 17, 3), (7, .iload_n 2, 1), (8, .invokestatic 147, 3), (11, .ifCond .eq 10, 3), (14, .iload_n 3, 1), (15, .invokestatic 147, 3), (18, .ifCond .ne 10, 3), (21, .aload_n 0, 1), (22, .bipush (-102), 2), (24, .invokevirtual 84, 3), (27, .ireturn, 1), (28, .aload_n 0, 1), (29, .getfield 10, 3), (32, .getfield 150, 3), (35, .bipush 60, 2), (37, .if_icmp .lt 10, 3), (40, .aload_n 0, 1), (41, .bipush (-106), 2), (43, .invokevirtual 84, 3), (46, .ireturn, 1), (47, .aload_n 0, 1), (48, .getfield 10, 3), (51, .iload_n 1, 1), (52, .iload_n 2, 1), (53, .iload_n 3, 1), (54, .invokevirtual 154, 3), (57, .aload_n 0, 1), (58, .getfield 10, 3), (61, .getfield 150, 3), (64, .iconst 1, 1), (65, .isub, 1), (66, .ireturn, 1)]
def zi_122 : zIns := [(0, .aload_n 0, 1), (1, .getfield 10, 3), (4, .iload_n 1, 1), (5, .invokevirtual 157, 3), (8, .ifCond .eq 17, 3), (11, .iload_n 2, 1), (12, .invokestatic 158, 3), (15, .ifCond .eq 10, 3), (18, .iload_n 3, 1), (19, .invokestatic 147, 3), (22, .ifCond .ne 10, 3), (25, .aload_n 0, 1), (26, .bipush (-102), 2), (28, .invokevirtual 84, 3), (31, .ireturn, 1), (32, .aload_n 0, 1), (33, .getfield 10, 3), (36, .iload_n 1, 1), (37, .iload_n 2, 1), (38, .invokevirtual 161, 3), (41, .istore 4, 2), (43, .aload_n 0, 1), (44, .getfield 10, 3), (47, .iload_n 1, 1), (48, .iload_n 2, 1), (49, .iload_n 3, 1), (50, .invokevirtual 164, 3), (53, .iload 4, 2), (55, .ireturn, 1)]
def zi_123 : zIns := [(0, .aload_n 0, 1), (1, .getfield 10, 3), (4, .iload_n 1, 1), (5, .invokevirtual 157, 3), (8, .ifCond .ne 10, 3), (11, .aload_n 0, 1), (12, .bipush (-102), 2), (14, .invokevirtual 84, 3), (17, .ireturn, 1), (18, .aload_n 0, 1), (19, .getfield 10, 3), (22, .iload_n 1, 1), (23, .invokevirtual 166, 3), (26, .aload_n 0, 1), (27, .getfield 10, 3), (30, .getfield 150, 3), (33, .ireturn, 1)]
def zi_124 : zIns := [(0, .iload_n 1, 1), (1, .iconst 0, 1), (2, .bipush 20, 2), (4, .invokestatic 80, 3), (7, .ifCond .ne 10, 3), (10, .aload_n 0, 1), (11, .bipush (-102), 2), (13, .invokevirtual 84, 3), (16, .ireturn, 1), (17, .aload_n 0, 1), (18, .getfield 10, 3), (21, .getfield 169, 3), (24, .istore_n 2, 1), (25, .aload_n 0, 1), (26, .getfield 10, 3), (29, .iload_n 1, 1), (30, .putfield 169, 3), (33, .iload_n 2, 1), (34, .ireturn, 1)]
def zi_125 : zIns := [(0, .iload_n 1, 1), (1, .iconst 0, 1), (2, .sipush 255, 3), (5, .invokestatic 80, 3), (8, .ifCond .ne 10, 3), (11, .aload_n 0, 1), (12, .bipush (-102), 2), (14, .invokevirtual 84, 3), (17, .ireturn, 1), (18, .aload_n 0, 1), (19, .getfield 39, 3), (22, .getfield 172, 3), (25, .sipush 250, 3), (28, .if_icmp .lt 10, 3), (31, .aload_n 0, 1), (32, .bipush (-106), 2), (34, .invokevirtual 84, 3), (37, .ireturn, 1), (38, .aload_n 0, 1), (39, .getfield 39, 3), (42, .iload_n 1, 1), (43, .invokevirtual 175, 3), (46, .aload_n 0, 1), (47, .getfield 39, 3), (50, .getfield 172, 3), (53, .ireturn, 1)]
def zi_126 : zIns := [(0, .aload_n 0, 1), (1, .getfield 39, 3), (4, .getfield 172, 3), (7, .istore_n 1, 1), (8, .aload_n 0, 1), (9, .getfield 39, 3), (12, .invokevirtual 178, 3), (15, .iload_n 1, 1), (16, .ireturn, 1)]
def zi_127_0 : zIns := [(0, .aload_n 0, 1), (1, .getfield 46, 3), (4, .aload_n 0, 1), (5, .getfield 39, 3), (8, .invokevirtual 181, 3), (11, .istore_n 1, 1), (12, .aload_n 0, 1), (13, .getfield 39, 3), (16, .getfield 185, 3), (19, .istore_n 2, 1), (20, .aload_n 0, 1), (21, .getfield 39, 3), (24, .invokevirtual 178, 3), (27, .iload_n 1, 1), (28, .ifCond .ne 16, 3), (31, .aload_n 0, 1), (32, .bipush (-102), 2), (34, .invokevirtual 84, 3), (37, .pop, 1), (38, .sipush (-200), 3), (41, .iload_n 2, 1), (42, .isub, 1), (43, .ireturn, 1), (44, .aload_n 0, 1), (45, .getfield 46, 3), (48, .invokevirtual 188, 3), (51, .istore_n 3, 1), (52, .aload_n 0, 1), (53, .getfield 10, 3), (56, .getfield 150, 3), (59, .iload_n 3, 1), (60, .iadd, 1), (61, .bipush 60, 2), (63, .if_icmp .le 10, 3), (66, .aload_n 0, 1), (67, .bipush (-106), 2), (69, .invokevirtual 84, 3), (72, .ireturn, 1), (73, .iconst 0, 1), (74, .istore 4, 2), (76, .iload 4, 2), (78, .iload_n 3, 1), (79, .if_icmp .ge 46, 3), (82, .aload_n 0, 1), (83, .getfield 10, 3), (86, .aload_n 0, 1), (87, .getfield 46, 3), (90, .iload 4, 2), (92, .iconst 0, 1), (93, .invokevirtual 192, 3)]
def zi_127_1 : zIns := [(96, .aload_n 0, 1), (97, .getfield 46, 3), (100, .iload 4, 2), (102, .iconst 1, 1), (103, .invokevirtual 192, 3), (106, .aload_n 0, 1), (107, .getfield 46, 3), (110, .iload 4, 2), (112, .iconst 2, 1), (113, .invokevirtual 192, 3), (116, .invokevirtual 154, 3), (119, .iinc 4 1, 3), (122, .goto (-46), 3), (125, .iload_n 3, 1), (126, .ireturn, 1)]
def zi_127 : zIns := zi_127_0 ++ (zi_127_1)
def zi_128 : zIns := [(0, .aload_n 0, 1), (1, .getfield 46, 3), (4, .aload_n 0, 1), (5, .getfield 39, 3), (8, .aload_n 0, 1), (9, .getfield 22, 3), (12, .invokevirtual 195, 3), (15, .istore_n 1, 1), (16, .aload_n 0, 1), (17, .getfield 39, 3), (20, .getfield 185, 3), (23, .istore_n 2, 1), (24, .aload_n 0, 1), (25, .getfield 39, 3), (28, .invokevirtual 178, 3), (31, .iload_n 1, 1), (32, .ifCond .ne 23, 3), (35, .aload_n 0, 1), (36, .getfield 22, 3), (39, .invokevirtual 199, 3), (42, .aload_n 0, 1), (43, .bipush (-102), 2), (45, .invokevirtual 84, 3), (48, .pop, 1), (49, .sipush (-200), 3), (52, .iload_n 2, 1), (53, .isub, 1), (54, .ireturn, 1), (55, .aload_n 0, 1), (56, .invokevirtual 202, 3), (59, .ireturn, 1)]
def zi_129 : zIns := [(0, .iload_n 1, 1), (1, .invokestatic 158, 3), (4, .ifCond .eq 17, 3), (7, .iload_n 2, 1), (8, .invokestatic 205, 3), (11, .ifCond .eq 10, 3), (14, .iload_n 3, 1), (15, .invokestatic 208, 3), (18, .ifCond .ne 10, 3), (21, .aload_n 0, 1), (22, .bipush (-102), 2), (24, .invokevirtual 84, 3), (27, .ireturn, 1), (28, .aload_n 0, 1), (29, .getfield 22, 3), (32, .iconst 0, 1), (33, .iload_n 2, 1), (34, .invokevirtual 211, 3), (37, .iload_n 1, 1), (38, .iload_n 3, 1), (39, .invokevirtual 215, 3), (42, .aload_n 0, 1), (43, .invokevirtual 202, 3), (46, .ireturn, 1)]
def zi_130 : zIns := [(0, .iload_n 1, 1), (1, .invokestatic 158, 3), (4, .ifCond .eq 15, 3), (7, .iload_n 2, 1), (8, .ifCond .eq 11, 3), (11, .iload_n 2, 1), (12, .sipush (-1023), 3), (15, .iand, 1), (16, .ifCond .eq 10, 3), (19, .aload_n 0, 1), (20, .bipush (-102), 2), (22, .invokevirtual 84, 3), (25, .ireturn, 1), (26, .aload_n 0, 1), (27, .getfield 22, 3), (30, .iconst 1, 1), (31, .iconst (-1), 1), (32, .invokevirtual 211, 3), (35, .iload_n 1, 1), (36, .iload_n 2, 1), (37, .invokevirtual 215, 3), (40, .aload_n 0, 1), (41, .invokevirtual 202, 3), (44, .ireturn, 1)]
def zi_131 : zIns := [(0, .iload_n 1, 1), (1, .invokestatic 158, 3), (4, .ifCond .ne 10, 3), (7, .aload_n 0, 1), (8, .bipush (-102), 2), (10, .invokevirtual 84, 3), (13, .ireturn, 1), (14, .aload_n 0, 1), (15, .getfield 22, 3), (18, .iconst 2, 1), (19, .iconst (-1), 1), (20, .invokevirtual 211, 3), (23, .iload_n 1, 1), (24, .iconst 0, 1), (25, .invokevirtual 215, 3), (28, .aload_n 0, 1), (29, .invokevirtual 202, 3), (32, .ireturn, 1)]
def zi_132 : zIns := [(0, .iload_n 1, 1), (1, .invokestatic 158, 3), (4, .ifCond .eq 22, 3), (7, .iload_n 2, 1), (8, .invokestatic 205, 3), (11, .ifCond .eq 15, 3), (14, .iload_n 3, 1), (15, .invokestatic 158, 3), (18, .ifCond .eq 8, 3), (21, .iload_n 1, 1), (22, .iload_n 3, 1), (23, .if_icmp .ne 10, 3), (26, .aload_n 0, 1), (27, .bipush (-102), 2), (29, .invokevirtual 84, 3), (32, .ireturn, 1), (33, .aload_n 0, 1), (34, .getfield 22, 3), (37, .iconst 3, 1), (38, .iload_n 2, 1), (39, .invokevirtual 211, 3), (42, .astore 4, 2), (44, .aload 4, 2), (46, .iload_n 1, 1), (47, .iconst 0, 1), (48, .invokevirtual 215, 3), (51, .aload 4, 2), (53, .iload_n 3, 1), (54, .iconst 0, 1), (55, .invokevirtual 215, 3), (58, .aload_n 0, 1), (59, .invokevirtual 202, 3), (62, .ireturn, 1)]
def zi_133 : zIns := [(0, .iload_n 1, 1), (1, .invokestatic 158, 3), (4, .ifCond .eq 24, 3), (7, .iload_n 2, 1), (8, .iconst 2, 1), (9, .bipush 9, 2), (11, .invokestatic 80, 3), (14, .ifCond .eq 14, 3), (17, .iload_n 3, 1), (18, .iconst 0, 1), (19, .iload_n 2, 1), (20, .iconst 1, 1), (21, .isub, 1), (22, .invokestatic 80, 3), (25, .ifCond .ne 10, 3), (28, .aload_n 0, 1), (29, .bipush (-102), 2), (31, .invokevirtual 84, 3), (34, .ireturn, 1), (35, .aload_n 0, 1), (36, .getfield 22, 3), (39, .iconst 4, 1), (40, .iconst (-1), 1), (41, .invokevirtual 211, 3), (44, .astore 4, 2), (46, .aload 4, 2), (48, .iload_n 1, 1), (49, .iload_n 2, 1), (50, .invokevirtual 215, 3), (53, .aload 4, 2), (55, .iload_n 3, 1), (56, .putfield 218, 3), (59, .aload_n 0, 1), (60, .invokevirtual 202, 3), (63, .ireturn, 1)]
def zi_134_0 : zIns := [(0, .iload_n 1, 1), (1, .invokestatic 76, 3), (4, .ifCond .eq 19, 3), (7, .iload_n 3, 1), (8, .invokestatic 205, 3), (11, .ifCond .eq 12, 3), (14, .iload_n 2, 1), (15, .iconst 2, 1), (16, .iconst 3, 1), (17, .invokestatic 80, 3), (20, .ifCond .ne 10, 3), (23, .aload_n 0, 1), (24, .bipush (-102), 2), (26, .invokevirtual 84, 3), (29, .ireturn, 1), (30, .aload_n 0, 1), (31, .getfield 32, 3), (34, .iload_n 1, 1), (35, .iconst 2, 1), (36, .iload_n 2, 1), (37, .imul, 1), (38, .invokevirtual 221, 3), (41, .istore 4, 2), (43, .iload 4, 2), (45, .ifCond .eq 10, 3), (48, .aload_n 0, 1), (49, .iload 4, 2), (51, .invokevirtual 84, 3), (54, .ireturn, 1), (55, .aload_n 0, 1), (56, .iload_n 1, 1), (57, .iload_n 2, 1), (58, .invokevirtual 224, 3), (61, .ifCond .ne 10, 3), (64, .aload_n 0, 1), (65, .bipush (-105), 2), (67, .invokevirtual 84, 3), (70, .ireturn, 1), (71, .aload_n 0, 1), (72, .getfield 22, 3), (75, .iconst 5, 1), (76, .iload_n 3, 1), (77, .invokevirtual 211, 3), (80, .astore 5, 2), (82, .iconst 0, 1), (83, .istore 6, 2), (85, .iload 6, 2), (87, .iload_n 2, 1), (88, .if_icmp .ge 42, 3), (91, .aload 5, 2)]
def zi_134_1 : zIns := [(93, .aload_n 0, 1), (94, .getfield 32, 3), (97, .iload_n 1, 1), (98, .iconst 2, 1), (99, .iload 6, 2), (101, .imul, 1), (102, .invokevirtual 114, 3), (105, .l2i, 1), (106, .aload_n 0, 1), (107, .getfield 32, 3), (110, .iload_n 1, 1), (111, .iconst 2, 1), (112, .iload 6, 2), (114, .imul, 1), (115, .iconst 1, 1), (116, .iadd, 1), (117, .invokevirtual 114, 3), (120, .l2i, 1), (121, .invokevirtual 215, 3), (124, .iinc 6 1, 3), (127, .goto (-42), 3), (130, .aload_n 0, 1), (131, .invokevirtual 202, 3), (134, .ireturn, 1)]
def zi_134 : zIns := zi_134_0 ++ (zi_134_1)
def zi_135 : zIns := [(0, .iload_n 1, 1), (1, .bipush 6, 2), (3, .if_icmp .eq 9, 3), (6, .iload_n 1, 1), (7, .bipush 7, 2), (9, .if_icmp .ne 25, 3), (12, .aload_n 0, 1), (13, .getfield 22, 3), (16, .iload_n 2, 1), (17, .invokevirtual 121, 3), (20, .ifCond .eq 14, 3), (23, .aload_n 0, 1), (24, .getfield 22, 3), (27, .iload_n 3, 1), (28, .invokevirtual 121, 3), (31, .ifCond .ne 10, 3), (34, .aload_n 0, 1), (35, .bipush (-102), 2), (37, .invokevirtual 84, 3), (40, .ireturn, 1), (41, .aload_n 0, 1), (42, .getfield 22, 3), (45, .iload_n 1, 1), (46, .iload_n 2, 1), (47, .iload_n 3, 1), (48, .invokevirtual 227, 3), (51, .aload_n 0, 1), (52, .invokevirtual 202, 3), (55, .ireturn, 1)]
def zi_136 : zIns := [(0, .iload_n 1, 1), (1, .bipush 8, 2), (3, .if_icmp .eq 9, 3), (6, .iload_n 1, 1), (7, .bipush 9, 2), (9, .if_icmp .ne 14, 3), (12, .aload_n 0, 1), (13, .getfield 22, 3), (16, .iload_n 2, 1), (17, .invokevirtual 121, 3), (20, .ifCond .ne 10, 3), (23, .aload_n 0, 1), (24, .bipush (-102), 2), (26, .invokevirtual 84, 3), (29, .ireturn, 1), (30, .aload_n 0, 1), (31, .getfield 22, 3), (34, .iload_n 1, 1), (35, .iload_n 2, 1), (36, .iconst (-1), 1), (37, .invokevirtual 227, 3), (40, .aload_n 0, 1), (41, .invokevirtual 202, 3), (44, .ireturn, 1)]
def zi_137 : zIns := [(0, .aload_n 0, 1), (1, .getfield 22, 3), (4, .getfield 230, 3), (7, .ifCond .ne 10, 3), (10, .aload_n 0, 1), (11, .bipush (-105), 2), (13, .invokevirtual 84, 3), (16, .ireturn, 1), (17, .aload_n 0, 1), (18, .getfield 22, 3), (21, .dup, 1), (22, .getfield 230, 3), (25, .iconst 1, 1), (26, .isub, 1), (27, .putfield 230, 3), (30, .aload_n 0, 1), (31, .getfield 32, 3), (34, .aload_n 0, 1), (35, .getfield 22, 3), (38, .getfield 230, 3), (41, .invokevirtual 231, 3), (44, .aload_n 0, 1), (45, .getfield 22, 3), (48, .getfield 230, 3), (51, .ireturn, 1)]
def zi_138 : zIns := [(0, .aload_n 0, 1), (1, .getfield 22, 3), (4, .iload_n 1, 1), (5, .invokevirtual 121, 3), (8, .ifCond .ne 10, 3), (11, .aload_n 0, 1), (12, .bipush (-102), 2), (14, .invokevirtual 84, 3), (17, .ireturn, 1), (18, .aload_n 0, 1), (19, .getfield 22, 3), (22, .iload_n 1, 1), (23, .invokevirtual 135, 3), (26, .astore_n 3, 1), (27, .iload_n 2, 1), (28, .tableswitch 79 0 6 #[44, 49, 54, 59, 64, 69, 74], 44), (72, .aload_n 3, 1), (73, .getfield 234, 3), (76, .ireturn, 1), (77, .aload_n 3, 1), (78, .getfield 237, 3), (81, .ireturn, 1), (82, .aload_n 3, 1), (83, .getfield 240, 3), (86, .ireturn, 1), (87, .aload_n 3, 1), (88, .getfield 243, 3), (91, .ireturn, 1), (92, .aload_n 3, 1), (93, .getfield 246, 3), (96, .ireturn, 1), (97, .aload_n 3, 1), (98, .getfield 249, 3), (101, .ireturn, 1), (102, .aload_n 3, 1), (103, .getfield 252, 3), (106, .ireturn, 1), (107, .aload_n 0, 1), (108, .bipush (-102), 2), (110, .invokevirtual 84, 3), (113, .ireturn, 1)]
def zi_139 : zIns := [(0, .aload_n 0, 1), (1, .getfield 10, 3), (4, .iload_n 1, 1), (5, .invokevirtual 157, 3), (8, .ifCond .eq 10, 3), (11, .iload_n 2, 1), (12, .invokestatic 158, 3), (15, .ifCond .ne 10, 3), (18, .aload_n 0, 1), (19, .bipush (-102), 2), (21, .invokevirtual 84, 3), (24, .ireturn, 1), (25, .aload_n 0, 1), (26, .getfield 10, 3), (29, .iload_n 1, 1), (30, .iload_n 2, 1), (31, .invokevirtual 161, 3), (34, .ireturn, 1)]
def zi_140 : zIns := [(0, .aload_n 0, 1), (1, .getfield 10, 3), (4, .iload_n 1, 1), (5, .invokevirtual 157, 3), (8, .ifCond .eq 10, 3), (11, .iload_n 2, 1), (12, .invokestatic 255, 3), (15, .ifCond .ne 10, 3), (18, .aload_n 0, 1), (19, .bipush (-102), 2), (21, .invokevirtual 84, 3), (24, .ireturn, 1), (25, .aload_n 0, 1), (26, .getfield 10, 3), (29, .iload_n 1, 1), (30, .iload_n 2, 1), (31, .invokevirtual 258, 3), (34, .ireturn, 1)]
def zi_141 : zIns := [(0, .aload_n 0, 1), (1, .iload_n 1, 1), (2, .iload_n 2, 1), (3, .invokevirtual 261, 3), (6, .ifCond .eq 14, 3), (9, .iload_n 3, 1), (10, .iconst 0, 1), (11, .sipush 999, 3), (14, .invokestatic 80, 3), (17, .ifCond .ne 10, 3), (20, .aload_n 0, 1), (21, .bipush (-102), 2), (23, .invokevirtual 84, 3), (26, .ireturn, 1), (27, .aload_n 0, 1), (28, .getfield 22, 3), (31, .iload_n 1, 1), (32, .invokevirtual 135, 3), (35, .getfield 264, 3), (38, .iload_n 2, 1), (39, .iload_n 3, 1), (40, .invokestatic 268, 3), (43, .baload, 1), (44, .ireturn, 1)]
def zi_142 : zIns := [(0, .aload_n 0, 1), (1, .getfield 22, 3), (4, .iload_n 1, 1), (5, .invokevirtual 121, 3), (8, .ifCond .eq 10, 3), (11, .iload_n 2, 1), (12, .invokestatic 271, 3), (15, .ifCond .ne 10, 3), (18, .aload_n 0, 1), (19, .bipush (-102), 2), (21, .invokevirtual 84, 3), (24, .ireturn, 1), (25, .aload_n 0, 1), (26, .getfield 22, 3), (29, .iload_n 1, 1), (30, .invokevirtual 135, 3), (33, .iload_n 2, 1), (34, .invokevirtual 274, 3), (37, .ireturn, 1)]
def zi_143 : zIns := [(0, .aload_n 0, 1), (1, .getfield 22, 3), (4, .iload_n 1, 1), (5, .invokevirtual 121, 3), (8, .ifCond .eq 10, 3), (11, .iload_n 2, 1), (12, .invokestatic 271, 3), (15, .ifCond .ne 10, 3), (18, .aload_n 0, 1), (19, .bipush (-102), 2), (21, .invokevirtual 84, 3), (24, .ireturn, 1), (25, .aload_n 0, 1), (26, .getfield 10, 3), (29, .aload_n 0, 1), (30, .getfield 22, 3), (33, .iload_n 1, 1), (34, .invokevirtual 135, 3), (37, .iload_n 2, 1), (38, .invokevirtual 277, 3), (41, .ireturn, 1)]
def zi_144 : zIns := [(0, .aload_n 0, 1), (1, .getfield 22, 3), (4, .iload_n 1, 1), (5, .invokevirtual 121, 3), (8, .ifCond .eq 10, 3), (11, .iload_n 2, 1), (12, .invokestatic 158, 3), (15, .ifCond .ne 10, 3), (18, .aload_n 0, 1), (19, .bipush (-102), 2), (21, .invokevirtual 84, 3), (24, .ireturn, 1), (25, .aload_n 0, 1), (26, .getfield 22, 3), (29, .iload_n 1, 1), (30, .invokevirtual 135, 3), (33, .iload_n 2, 1), (34, .invokevirtual 281, 3), (37, .ireturn, 1)]
def zi_145 : zIns := [(0, .aload_n 0, 1), (1, .iload_n 1, 1), (2, .iload_n 2, 1), (3, .invokevirtual 261, 3), (6, .ifCond .ne 10, 3), (9, .aload_n 0, 1), (10, .bipush (-102), 2), (12, .invokevirtual 84, 3), (15, .ireturn, 1), (16, .aload_n 0, 1), (17, .getfield 53, 3), (20, .aload_n 0, 1), (21, .getfield 22, 3), (24, .iload_n 1, 1), (25, .invokevirtual 135, 3), (28, .iload_n 2, 1), (29, .invokevirtual 284, 3), (32, .aload_n 0, 1), (33, .getfield 53, 3), (36, .getfield 288, 3), (39, .ireturn, 1)]
def zi_146 : zIns := [(0, .aload_n 0, 1), (1, .iload_n 1, 1), (2, .iload_n 2, 1), (3, .invokevirtual 261, 3), (6, .ifCond .ne 10, 3), (9, .aload_n 0, 1), (10, .bipush (-102), 2), (12, .invokevirtual 84, 3), (15, .ireturn, 1), (16, .aload_n 0, 1), (17, .getfield 53, 3), (20, .aload_n 0, 1), (21, .getfield 22, 3), (24, .iload_n 1, 1), (25, .invokevirtual 135, 3), (28, .iload_n 2, 1), (29, .invokevirtual 284, 3), (32, .iload_n 3, 1), (33, .iconst 0, 1), (34, .aload_n 0, 1), (35, .getfield 53, 3), (38, .getfield 288, 3), (41, .iconst 1, 1), (42, .isub, 1), (43, .invokestatic 80, 3), (46, .ifCond .ne 10, 3), (49, .aload_n 0, 1), (50, .bipush (-102), 2), (52, .invokevirtual 84, 3), (55, .ireturn, 1), (56, .aload_n 0, 1), (57, .getfield 53, 3), (60, .iload_n 3, 1), (61, .invokevirtual 289, 3), (64, .ireturn, 1)]
def zi_147_0 : zIns := [(0, .aload_n 0, 1), (1, .iload_n 1, 1), (2, .iload_n 2, 1), (3, .invokevirtual 261, 3), (6, .ifCond .eq 13, 3), (9, .iload_n 3, 1), (10, .iconst 1, 1), (11, .bipush 40, 2), (13, .invokestatic 80, 3), (16, .ifCond .ne 10, 3), (19, .aload_n 0, 1), (20, .bipush (-102), 2), (22, .invokevirtual 84, 3), (25, .ireturn, 1), (26, .aload_n 0, 1), (27, .getfield 53, 3), (30, .aload_n 0, 1), (31, .getfield 22, 3), (34, .iload_n 1, 1), (35, .invokevirtual 135, 3), (38, .iload_n 2, 1), (39, .invokevirtual 284, 3), (42, .aload_n 0, 1), (43, .getfield 53, 3), (46, .iload_n 3, 1), (47, .invokevirtual 292, 3), (50, .istore 5, 2), (52, .iload 4, 2), (54, .iconst (-1), 1), (55, .if_icmp .ne 6, 3), (58, .iload 5, 2), (60, .ireturn, 1), (61, .iload 4, 2), (63, .iconst 0, 1), (64, .iload 5, 2), (66, .iconst 1, 1), (67, .isub, 1), (68, .invokestatic 80, 3), (71, .ifCond .ne 10, 3), (74, .aload_n 0, 1), (75, .bipush (-102), 2), (77, .invokevirtual 84, 3), (80, .ireturn, 1), (81, .aload_n 0, 1), (82, .getfield 53, 3), (85, .iload_n 3, 1), (86, .invokevirtual 295, 3), (89, .aload_n 0, 1), (90, .getfield 53, 3), (93, .iload 4, 2)]
def zi_147_1 : zIns := [(95, .invokevirtual 298, 3), (98, .ireturn, 1)]
def zi_147 : zIns := zi_147_0 ++ (zi_147_1)
def zi_148_0 : zIns := [(0, .aload_n 0, 1), (1, .iload_n 1, 1), (2, .iload_n 2, 1), (3, .invokevirtual 261, 3), (6, .ifCond .eq 23, 3), (9, .iload_n 3, 1), (10, .iconst 1, 1), (11, .bipush 40, 2), (13, .invokestatic 80, 3), (16, .ifCond .eq 13, 3), (19, .iload 4, 2), (21, .iconst 0, 1), (22, .iconst 4, 1), (23, .invokestatic 80, 3), (26, .ifCond .ne 10, 3), (29, .aload_n 0, 1), (30, .bipush (-102), 2), (32, .invokevirtual 84, 3), (35, .ireturn, 1), (36, .aload_n 0, 1), (37, .getfield 22, 3), (40, .iload_n 1, 1), (41, .invokevirtual 135, 3), (44, .astore 5, 2), (46, .aload_n 0, 1), (47, .getfield 53, 3), (50, .aload 5, 2), (52, .iload_n 2, 1), (53, .invokevirtual 284, 3), (56, .aload_n 0, 1), (57, .getfield 53, 3), (60, .iload_n 3, 1), (61, .invokevirtual 295, 3), (64, .iload 4, 2), (66, .tableswitch 105 0 3 #[30, 38, 51, 75], 30), (96, .aload_n 0, 1), (97, .getfield 53, 3), (100, .invokevirtual 301, 3), (103, .ireturn, 1), (104, .aload_n 0, 1), (105, .getfield 53, 3), (108, .aload_n 0, 1), (109, .getfield 10, 3), (112, .iload_n 2, 1), (113, .invokevirtual 304, 3), (116, .ireturn, 1), (117, .aload_n 0, 1), (118, .getfield 53, 3), (121, .aload_n 0, 1), (122, .getfield 10, 3)]
def zi_148_1 : zIns := [(125, .iload_n 2, 1), (126, .invokevirtual 304, 3), (129, .aload_n 0, 1), (130, .getfield 10, 3), (133, .aload 5, 2), (135, .iconst 1, 1), (136, .invokevirtual 277, 3), (139, .isub, 1), (140, .ireturn, 1), (141, .aload_n 0, 1), (142, .getfield 10, 3), (145, .getfield 169, 3), (148, .aload_n 0, 1), (149, .getfield 53, 3), (152, .iload_n 3, 1), (153, .invokevirtual 292, 3), (156, .imul, 1), (157, .aload_n 0, 1), (158, .getfield 53, 3), (161, .aload_n 0, 1), (162, .getfield 10, 3), (165, .iload_n 2, 1), (166, .invokevirtual 304, 3), (169, .iadd, 1), (170, .ireturn, 1), (171, .aload_n 0, 1), (172, .aload 5, 2), (174, .getfield 252, 3), (177, .iload_n 2, 1), (178, .invokevirtual 308, 3), (181, .ireturn, 1)]
def zi_148 : zIns := zi_148_0 ++ (zi_148_1)
def zi_149 : zIns := [(0, .aload_n 0, 1), (1, .iload_n 1, 1), (2, .iload_n 2, 1), (3, .invokevirtual 261, 3), (6, .ifCond .eq 12, 3), (9, .iload_n 3, 1), (10, .iconst 0, 1), (11, .iconst 1, 1), (12, .invokestatic 80, 3), (15, .ifCond .ne 10, 3), (18, .aload_n 0, 1), (19, .bipush (-102), 2), (21, .invokevirtual 84, 3), (24, .ireturn, 1), (25, .aload_n 0, 1), (26, .getfield 53, 3), (29, .aload_n 0, 1), (30, .getfield 22, 3), (33, .iload_n 1, 1), (34, .invokevirtual 135, 3), (37, .iload_n 2, 1), (38, .invokevirtual 284, 3), (41, .aload_n 0, 1), (42, .getfield 53, 3), (45, .aload_n 0, 1), (46, .getfield 10, 3), (49, .iload_n 2, 1), (50, .invokevirtual 311, 3), (53, .iload_n 3, 1), (54, .ifCond .ne 13, 3), (57, .aload_n 0, 1), (58, .getfield 53, 3), (61, .getfield 315, 3), (64, .goto 10, 3), (67, .aload_n 0, 1), (68, .getfield 53, 3), (71, .getfield 318, 3), (74, .ireturn, 1)]
def zi_150_0 : zIns := [(0, .aload_n 0, 1), (1, .getfield 22, 3), (4, .iload_n 1, 1), (5, .invokevirtual 121, 3), (8, .ifCond .eq 12, 3), (11, .iload_n 2, 1), (12, .iconst 0, 1), (13, .iconst 1, 1), (14, .invokestatic 80, 3), (17, .ifCond .ne 10, 3), (20, .aload_n 0, 1), (21, .bipush (-102), 2), (23, .invokevirtual 84, 3), (26, .ireturn, 1), (27, .iconst (-1), 1), (28, .istore_n 3, 1), (29, .iconst 0, 1), (30, .istore 4, 2), (32, .iconst 0, 1), (33, .istore 5, 2), (35, .iload 5, 2), (37, .bipush 6, 2), (39, .if_icmp .ge 68, 3), (42, .aload_n 0, 1), (43, .getfield 53, 3), (46, .aload_n 0, 1), (47, .getfield 22, 3), (50, .iload_n 1, 1), (51, .invokevirtual 135, 3), (54, .iload 5, 2), (56, .invokevirtual 284, 3), (59, .aload_n 0, 1), (60, .getfield 53, 3), (63, .aload_n 0, 1), (64, .getfield 10, 3), (67, .iload 5, 2), (69, .invokevirtual 311, 3), (72, .iload_n 3, 1), (73, .iconst (-1), 1), (74, .if_icmp .eq 15, 3), (77, .aload_n 0, 1), (78, .getfield 53, 3), (81, .getfield 318, 3), (84, .iload 4, 2), (86, .if_icmp .ge 15, 3), (89, .iload 5, 2), (91, .istore_n 3, 1), (92, .aload_n 0, 1), (93, .getfield 53, 3), (96, .getfield 318, 3)]
def zi_150_1 : zIns := [(99, .istore 4, 2), (101, .iinc 5 1, 3), (104, .goto (-69), 3), (107, .iload_n 2, 1), (108, .ifCond .ne 7, 3), (111, .iload_n 3, 1), (112, .goto 5, 3), (115, .iload 4, 2), (117, .ireturn, 1)]
def zi_150 : zIns := zi_150_0 ++ (zi_150_1)
def zi_151 : zIns := [(0, .aload_n 0, 1), (1, .iload_n 1, 1), (2, .iload_n 2, 1), (3, .invokevirtual 261, 3), (6, .ifCond .eq 13, 3), (9, .iload 4, 2), (11, .iconst 0, 1), (12, .iconst 1, 1), (13, .invokestatic 80, 3), (16, .ifCond .ne 10, 3), (19, .aload_n 0, 1), (20, .bipush (-102), 2), (22, .invokevirtual 84, 3), (25, .ireturn, 1), (26, .aload_n 0, 1), (27, .getfield 22, 3), (30, .iload_n 1, 1), (31, .invokevirtual 135, 3), (34, .astore 5, 2), (36, .iload 4, 2), (38, .ifCond .ne 13, 3), (41, .aload 5, 2), (43, .iload_n 2, 1), (44, .iload_n 3, 1), (45, .invokestatic 321, 3), (48, .goto 10, 3), (51, .aload 5, 2), (53, .iload_n 2, 1), (54, .iload_n 3, 1), (55, .invokestatic 325, 3), (58, .ireturn, 1)]
def zi_152_0 : zIns := [(0, .aload_n 0, 1), (1, .iload_n 1, 1), (2, .iload_n 2, 1), (3, .invokevirtual 261, 3), (6, .ifCond .eq 22, 3), (9, .iload_n 3, 1), (10, .iconst 1, 1), (11, .iconst 2, 1), (12, .invokestatic 80, 3), (15, .ifCond .eq 13, 3), (18, .iload 4, 2), (20, .iconst 0, 1), (21, .iconst 1, 1), (22, .invokestatic 80, 3), (25, .ifCond .ne 10, 3), (28, .aload_n 0, 1), (29, .bipush (-102), 2), (31, .invokevirtual 84, 3), (34, .ireturn, 1), (35, .aload_n 0, 1), (36, .getfield 22, 3), (39, .iload_n 1, 1), (40, .invokevirtual 135, 3), (43, .astore 5, 2), (45, .iload_n 3, 1), (46, .iconst 1, 1), (47, .if_icmp .ne 8, 3), (50, .bipush 100, 2), (52, .goto 5, 3), (55, .bipush 10, 2), (57, .istore 6, 2), (59, .aload_n 0, 1), (60, .invokevirtual 328, 3), (63, .iload 4, 2), (65, .ifCond .ne 50, 3), (68, .iconst 0, 1), (69, .istore 7, 2), (71, .iload 7, 2), (73, .sipush 1000, 3), (76, .if_icmp .ge 36, 3), (79, .aload 5, 2), (81, .getfield 264, 3), (84, .iload_n 2, 1), (85, .iload 7, 2), (87, .invokestatic 268, 3), (90, .baload, 1), (91, .iconst 1, 1), (92, .if_icmp .ne 14, 3), (95, .aload_n 0, 1), (96, .getfield 68, 3)]
def zi_152_1 : zIns := [(99, .iload 7, 2), (101, .iload 6, 2), (103, .idiv, 1), (104, .iconst 1, 1), (105, .bastore, 1), (106, .iinc 7 1, 3), (109, .goto (-38), 3), (112, .goto 58, 3), (115, .iconst 0, 1), (116, .istore 7, 2), (118, .iload 7, 2), (120, .aload_n 0, 1), (121, .getfield 10, 3), (124, .getfield 150, 3), (127, .if_icmp .ge 43, 3), (130, .aload_n 0, 1), (131, .getfield 10, 3), (134, .aload 5, 2), (136, .iload 7, 2), (138, .invokevirtual 331, 3), (141, .iconst 1, 1), (142, .if_icmp .ne 22, 3), (145, .aload_n 0, 1), (146, .getfield 68, 3), (149, .aload_n 0, 1), (150, .getfield 10, 3), (153, .iload 7, 2), (155, .iload_n 2, 1), (156, .invokevirtual 258, 3), (159, .iload 6, 2), (161, .idiv, 1), (162, .iconst 1, 1), (163, .bastore, 1), (164, .iinc 7 1, 3), (167, .goto (-49), 3), (170, .aload_n 0, 1), (171, .invokevirtual 334, 3), (174, .ireturn, 1)]
def zi_152 : zIns := zi_152_0 ++ (zi_152_1)
def zi_153 : zIns := [(0, .aload_n 0, 1), (1, .iload_n 1, 1), (2, .iload_n 2, 1), (3, .invokevirtual 261, 3), (6, .ifCond .ne 10, 3), (9, .aload_n 0, 1), (10, .bipush (-102), 2), (12, .invokevirtual 84, 3), (15, .ireturn, 1), (16, .aload_n 0, 1), (17, .getfield 60, 3), (20, .aload_n 0, 1), (21, .getfield 10, 3), (24, .aload_n 0, 1), (25, .getfield 22, 3), (28, .iload_n 1, 1), (29, .invokevirtual 135, 3), (32, .iload_n 2, 1), (33, .iconst 0, 1), (34, .invokevirtual 337, 3), (37, .iload_n 3, 1), (38, .iconst (-1), 1), (39, .if_icmp .ne 11, 3), (42, .aload_n 0, 1), (43, .getfield 60, 3), (46, .getfield 341, 3), (49, .ireturn, 1), (50, .iload_n 3, 1), (51, .iconst 0, 1), (52, .aload_n 0, 1), (53, .getfield 60, 3), (56, .getfield 341, 3), (59, .iconst 1, 1), (60, .isub, 1), (61, .invokestatic 80, 3), (64, .ifCond .eq 14, 3), (67, .aload_n 0, 1), (68, .getfield 60, 3), (71, .iload_n 3, 1), (72, .invokevirtual 342, 3), (75, .goto 9, 3), (78, .aload_n 0, 1), (79, .bipush (-102), 2), (81, .invokevirtual 84, 3), (84, .ireturn, 1)]
def zi_154 : zIns := [(0, .aload_n 0, 1), (1, .iload_n 1, 1), (2, .iload_n 2, 1), (3, .invokevirtual 261, 3), (6, .ifCond .eq 12, 3), (9, .iload_n 3, 1), (10, .iconst 0, 1), (11, .iconst 2, 1), (12, .invokestatic 80, 3), (15, .ifCond .ne 10, 3), (18, .aload_n 0, 1), (19, .bipush (-102), 2), (21, .invokevirtual 84, 3), (24, .ireturn, 1), (25, .aload_n 0, 1), (26, .getfield 60, 3), (29, .aload_n 0, 1), (30, .getfield 10, 3), (33, .aload_n 0, 1), (34, .getfield 22, 3), (37, .iload_n 1, 1), (38, .invokevirtual 135, 3), (41, .iload_n 2, 1), (42, .iload_n 3, 1), (43, .invokevirtual 337, 3), (46, .iload 4, 2), (48, .iconst 0, 1), (49, .aload_n 0, 1), (50, .getfield 60, 3), (53, .getfield 341, 3), (56, .iconst 1, 1), (57, .isub, 1), (58, .invokestatic 80, 3), (61, .ifCond .eq 15, 3), (64, .aload_n 0, 1), (65, .getfield 60, 3), (68, .iload 4, 2), (70, .invokevirtual 342, 3), (73, .goto 9, 3), (76, .aload_n 0, 1), (77, .bipush (-102), 2), (79, .invokevirtual 84, 3), (82, .ireturn, 1)]
def zi_155 : zIns := [(0, .aload_n 0, 1), (1, .iload_n 1, 1), (2, .iload_n 2, 1), (3, .invokevirtual 261, 3), (6, .ifCond .eq 14, 3), (9, .aload_n 0, 1), (10, .getfield 10, 3), (13, .iload_n 3, 1), (14, .invokevirtual 157, 3), (17, .ifCond .ne 10, 3), (20, .aload_n 0, 1), (21, .bipush (-102), 2), (23, .invokevirtual 84, 3), (26, .ireturn, 1), (27, .aload_n 0, 1), (28, .getfield 60, 3), (31, .aload_n 0, 1), (32, .getfield 10, 3), (35, .aload_n 0, 1), (36, .getfield 22, 3), (39, .iload_n 1, 1), (40, .invokevirtual 135, 3), (43, .iload_n 2, 1), (44, .iconst 0, 1), (45, .invokevirtual 337, 3), (48, .aload_n 0, 1), (49, .getfield 60, 3), (52, .aload_n 0, 1), (53, .getfield 10, 3), (56, .iload_n 3, 1), (57, .iload_n 2, 1), (58, .invokevirtual 258, 3), (61, .iconst 0, 1), (62, .iload_n 3, 1), (63, .invokestatic 345, 3), (66, .invokevirtual 349, 3), (69, .ireturn, 1)]
def zi_156 : zIns := [(0, .aload_n 0, 1), (1, .getfield 22, 3), (4, .iload_n 1, 1), (5, .invokevirtual 121, 3), (8, .ifCond .eq 14, 3), (11, .aload_n 0, 1), (12, .getfield 22, 3), (15, .iload_n 2, 1), (16, .invokevirtual 121, 3), (19, .ifCond .ne 10, 3), (22, .aload_n 0, 1), (23, .bipush (-102), 2), (25, .invokevirtual 84, 3), (28, .ireturn, 1), (29, .aload_n 0, 1), (30, .getfield 22, 3), (33, .iload_n 1, 1), (34, .invokevirtual 135, 3), (37, .astore_n 3, 1), (38, .aload_n 0, 1), (39, .getfield 22, 3), (42, .iload_n 2, 1), (43, .invokevirtual 135, 3), (46, .astore 4, 2), (48, .iconst 0, 1), (49, .istore 5, 2), (51, .iload 5, 2), (53, .sipush 1000, 3), (56, .if_icmp .ge 35, 3), (59, .aload_n 3, 1), (60, .getfield 264, 3), (63, .iload 5, 2), (65, .baload, 1), (66, .iconst 1, 1), (67, .if_icmp .ne 18, 3), (70, .aload 4, 2), (72, .getfield 264, 3), (75, .iload 5, 2), (77, .baload, 1), (78, .iconst 1, 1), (79, .if_icmp .eq 6, 3), (82, .iload 5, 2), (84, .ireturn, 1), (85, .iinc 5 1, 3), (88, .goto (-37), 3), (91, .iconst (-1), 1), (92, .ireturn, 1)]
def zi_157 : zIns := [(0, .aload_n 0, 1), (1, .getfield 22, 3), (4, .iload_n 1, 1), (5, .invokevirtual 121, 3), (8, .ifCond .eq 14, 3), (11, .aload_n 0, 1), (12, .getfield 22, 3), (15, .iload_n 2, 1), (16, .invokevirtual 121, 3), (19, .ifCond .ne 10, 3), (22, .aload_n 0, 1), (23, .bipush (-102), 2), (25, .invokevirtual 84, 3), (28, .ireturn, 1), (29, .aload_n 0, 1), (30, .getfield 22, 3), (33, .iload_n 1, 1), (34, .invokevirtual 135, 3), (37, .aload_n 0, 1), (38, .getfield 22, 3), (41, .iload_n 2, 1), (42, .invokevirtual 135, 3), (45, .invokevirtual 352, 3), (48, .ireturn, 1)]
def zi_158 : zIns := [(0, .aload_n 0, 1), (1, .getfield 22, 3), (4, .iload_n 1, 1), (5, .invokevirtual 121, 3), (8, .ifCond .ne 10, 3), (11, .aload_n 0, 1), (12, .bipush (-102), 2), (14, .invokevirtual 84, 3), (17, .ireturn, 1), (18, .iconst 0, 1), (19, .istore_n 2, 1), (20, .iload_n 2, 1), (21, .iload_n 1, 1), (22, .if_icmp .ge 34, 3), (25, .aload_n 0, 1), (26, .getfield 22, 3), (29, .iload_n 2, 1), (30, .invokevirtual 135, 3), (33, .aload_n 0, 1), (34, .getfield 22, 3), (37, .iload_n 1, 1), (38, .invokevirtual 135, 3), (41, .invokevirtual 352, 3), (44, .iconst (-1), 1), (45, .if_icmp .ne 5, 3), (48, .iload_n 2, 1), (49, .ireturn, 1), (50, .iinc 2 1, 3), (53, .goto (-33), 3), (56, .iload_n 1, 1), (57, .ireturn, 1)]
def zi_159_0 : zIns := [(0, .iload_n 1, 1), (1, .invokestatic 158, 3), (4, .ifCond .eq 28, 3), (7, .iload_n 2, 1), (8, .invokestatic 208, 3), (11, .ifCond .eq 21, 3), (14, .iload_n 3, 1), (15, .invokestatic 76, 3), (18, .ifCond .eq 14, 3), (21, .iload 4, 2), (23, .iconst 0, 1), (24, .bipush 20, 2), (26, .invokestatic 80, 3), (29, .ifCond .ne 10, 3), (32, .aload_n 0, 1), (33, .bipush (-102), 2), (35, .invokevirtual 84, 3), (38, .ireturn, 1), (39, .aload_n 0, 1), (40, .getfield 32, 3), (43, .iload_n 3, 1), (44, .iconst 2, 1), (45, .iload 4, 2), (47, .imul, 1), (48, .invokevirtual 221, 3), (51, .istore 5, 2), (53, .iload 5, 2), (55, .ifCond .eq 10, 3), (58, .aload_n 0, 1), (59, .iload 5, 2), (61, .invokevirtual 84, 3), (64, .ireturn, 1), (65, .aload_n 0, 1), (66, .iload_n 3, 1), (67, .iload 4, 2), (69, .invokevirtual 356, 3), (72, .ifCond .ne 10, 3), (75, .aload_n 0, 1), (76, .bipush (-105), 2), (78, .invokevirtual 84, 3), (81, .ireturn, 1), (82, .iconst 0, 1), (83, .istore 6, 2), (85, .iconst 0, 1), (86, .istore 7, 2), (88, .iload 7, 2), (90, .iconst 3, 1), (91, .if_icmp .gt 32, 3), (94, .aload_n 0, 1), (95, .iload_n 1, 1)]
def zi_159_1 : zIns := [(96, .iload 7, 2), (98, .iload_n 2, 1), (99, .iload_n 3, 1), (100, .iload 4, 2), (102, .invokevirtual 359, 3), (105, .ifCond .eq 12, 3), (108, .iload 6, 2), (110, .iconst 1, 1), (111, .iload 7, 2), (113, .ishl, 1), (114, .ior, 1), (115, .istore 6, 2), (117, .iinc 7 1, 3), (120, .goto (-32), 3), (123, .iload 6, 2), (125, .ireturn, 1)]
def zi_159 : zIns := zi_159_0 ++ (zi_159_1)
def zi_160_0 : zIns := [(0, .aload_n 0, 1), (1, .iload_n 1, 1), (2, .iload_n 2, 1), (3, .invokevirtual 261, 3), (6, .ifCond .eq 21, 3), (9, .iload_n 3, 1), (10, .invokestatic 76, 3), (13, .ifCond .eq 14, 3), (16, .iload 4, 2), (18, .iconst 0, 1), (19, .bipush 40, 2), (21, .invokestatic 80, 3), (24, .ifCond .ne 10, 3), (27, .aload_n 0, 1), (28, .bipush (-102), 2), (30, .invokevirtual 84, 3), (33, .ireturn, 1), (34, .aload_n 0, 1), (35, .getfield 32, 3), (38, .iload_n 3, 1), (39, .iload 4, 2), (41, .invokevirtual 221, 3), (44, .istore 5, 2), (46, .iload 5, 2), (48, .ifCond .eq 10, 3), (51, .aload_n 0, 1), (52, .iload 5, 2), (54, .invokevirtual 84, 3), (57, .ireturn, 1), (58, .aload_n 0, 1), (59, .getfield 60, 3), (62, .aload_n 0, 1), (63, .getfield 10, 3), (66, .aload_n 0, 1), (67, .getfield 22, 3), (70, .iload_n 1, 1), (71, .invokevirtual 135, 3), (74, .iload_n 2, 1), (75, .iconst 0, 1), (76, .invokevirtual 337, 3), (79, .iconst 0, 1), (80, .istore 6, 2), (82, .iload 6, 2), (84, .iload 4, 2), (86, .if_icmp .ge 48, 3), (89, .iload 6, 2), (91, .aload_n 0, 1), (92, .getfield 60, 3), (95, .getfield 341, 3), (98, .if_icmp .ge 27, 3)]
def zi_160_1 : zIns := [(101, .aload_n 0, 1), (102, .getfield 60, 3), (105, .iload 6, 2), (107, .invokevirtual 342, 3), (110, .i2l, 1), (111, .aload_n 0, 1), (112, .getfield 32, 3), (115, .iload_n 3, 1), (116, .iload 6, 2), (118, .invokevirtual 114, 3), (121, .lcmp, 1), (122, .ifCond .eq 6, 3), (125, .iload 6, 2), (127, .ireturn, 1), (128, .iinc 6 1, 3), (131, .goto (-49), 3), (134, .aload_n 0, 1), (135, .getfield 60, 3), (138, .getfield 341, 3), (141, .iload 4, 2), (143, .if_icmp .le 8, 3), (146, .iload 4, 2), (148, .goto 4, 3), (151, .iconst (-1), 1), (152, .ireturn, 1)]
def zi_160 : zIns := zi_160_0 ++ (zi_160_1)
def zi_161 : zIns := [(0, .iload_n 1, 1), (1, .invokestatic 158, 3), (4, .ifCond .eq 10, 3), (7, .iload_n 2, 1), (8, .invokestatic 147, 3), (11, .ifCond .ne 10, 3), (14, .aload_n 0, 1), (15, .bipush (-102), 2), (17, .invokevirtual 84, 3), (20, .ireturn, 1), (21, .aload_n 0, 1), (22, .getfield 10, 3), (25, .iload_n 1, 1), (26, .iload_n 2, 1), (27, .invokevirtual 363, 3), (30, .ireturn, 1)]
def zi_162_0 : zIns := [(0, .aload_n 0, 1), (1, .getfield 22, 3), (4, .iload_n 1, 1), (5, .invokevirtual 121, 3), (8, .ifCond .eq 29, 3), (11, .aload_n 0, 1), (12, .getfield 10, 3), (15, .iload_n 2, 1), (16, .invokevirtual 157, 3), (19, .ifCond .eq 18, 3), (22, .iload_n 3, 1), (23, .invokestatic 158, 3), (26, .ifCond .eq 11, 3), (29, .iload 4, 2), (31, .invokestatic 147, 3), (34, .ifCond .ne 10, 3), (37, .aload_n 0, 1), (38, .bipush (-102), 2), (40, .invokevirtual 84, 3), (43, .ireturn, 1), (44, .aload_n 0, 1), (45, .getfield 22, 3), (48, .iload_n 1, 1), (49, .invokevirtual 135, 3), (52, .astore 5, 2), (54, .aload_n 0, 1), (55, .getfield 10, 3), (58, .iload_n 2, 1), (59, .iload_n 3, 1), (60, .invokevirtual 161, 3), (63, .istore 6, 2), (65, .aload_n 0, 1), (66, .getfield 10, 3), (69, .iload_n 2, 1), (70, .iload_n 3, 1), (71, .iload 4, 2), (73, .invokevirtual 164, 3), (76, .aload_n 0, 1), (77, .getfield 10, 3), (80, .aload 5, 2), (82, .iconst 1, 1), (83, .invokevirtual 277, 3), (86, .istore 7, 2), (88, .aload_n 0, 1), (89, .getfield 10, 3), (92, .iload_n 2, 1), (93, .iload_n 3, 1), (94, .iload 6, 2), (96, .invokevirtual 164, 3), (99, .iload 7, 2)]
def zi_162_1 : zIns := [(101, .ireturn, 1)]
def zi_162 : zIns := zi_162_0 ++ (zi_162_1)
def zi_163 : zIns := [(0, .iload_n 1, 1), (1, .iconst 1, 1), (2, .bipush 60, 2), (4, .invokestatic 80, 3), (7, .ifCond .ne 10, 3), (10, .aload_n 0, 1), (11, .bipush (-102), 2), (13, .invokevirtual 84, 3), (16, .ireturn, 1), (17, .iconst 0, 1), (18, .istore_n 2, 1), (19, .iload_n 2, 1), (20, .iload_n 1, 1), (21, .if_icmp .ge 16, 3), (24, .aload_n 0, 1), (25, .getfield 10, 3), (28, .invokevirtual 366, 3), (31, .iinc 2 1, 3), (34, .goto (-15), 3), (37, .aload_n 0, 1), (38, .getfield 10, 3), (41, .getfield 150, 3), (44, .ireturn, 1)]
def zi_164 : zIns := [(0, .aload_n 0, 1), (1, .getfield 10, 3), (4, .getfield 369, 3), (7, .istore_n 2, 1), (8, .aload_n 0, 1), (9, .getfield 10, 3), (12, .iload_n 1, 1), (13, .putfield 369, 3), (16, .iload_n 2, 1), (17, .ireturn, 1)]
def zi_165 : zIns := [(0, .aload_n 0, 1), (1, .getfield 16, 3), (4, .aload_n 0, 1), (5, .getfield 10, 3), (8, .invokevirtual 372, 3), (11, .aload_n 0, 1), (12, .getfield 26, 3), (15, .aload_n 0, 1), (16, .getfield 22, 3), (19, .invokevirtual 376, 3), (22, .aload_n 0, 1), (23, .iconst 1, 1), (24, .putfield 72, 3), (27, .iconst 1, 1), (28, .ireturn, 1)]
def zi_166 : zIns := [(0, .aload_n 0, 1), (1, .getfield 72, 3), (4, .ifCond .ne 10, 3), (7, .aload_n 0, 1), (8, .bipush (-105), 2), (10, .invokevirtual 84, 3), (13, .ireturn, 1), (14, .aload_n 0, 1), (15, .getfield 10, 3), (18, .aload_n 0, 1), (19, .getfield 16, 3), (22, .invokevirtual 372, 3), (25, .aload_n 0, 1), (26, .getfield 22, 3), (29, .aload_n 0, 1), (30, .getfield 26, 3), (33, .invokevirtual 376, 3), (36, .aload_n 0, 1), (37, .getfield 32, 3), (40, .aload_n 0, 1), (41, .getfield 22, 3), (44, .getfield 230, 3), (47, .invokevirtual 231, 3), (50, .iconst 1, 1), (51, .ireturn, 1)]
def zi_167_0 : zIns := [(0, .iload_n 1, 1), (1, .tableswitch 130 0 7 #[47, 55, 63, 71, 76, 106, 114, 122], 47), (48, .aload_n 0, 1), (49, .getfield 10, 3), (52, .getfield 150, 3), (55, .ireturn, 1), (56, .aload_n 0, 1), (57, .getfield 22, 3), (60, .getfield 230, 3), (63, .ireturn, 1), (64, .aload_n 0, 1), (65, .getfield 10, 3), (68, .getfield 169, 3), (71, .ireturn, 1), (72, .aload_n 0, 1), (73, .invokevirtual 379, 3), (76, .ireturn, 1), (77, .aload_n 0, 1), (78, .getfield 10, 3), (81, .iconst 0, 1), (82, .iconst 0, 1), (83, .invokevirtual 363, 3), (86, .aload_n 0, 1), (87, .getfield 10, 3), (90, .iconst 1, 1), (91, .iconst 0, 1), (92, .invokevirtual 363, 3), (95, .iadd, 1), (96, .aload_n 0, 1), (97, .getfield 10, 3), (100, .iconst 2, 1), (101, .iconst 0, 1), (102, .invokevirtual 363, 3), (105, .iadd, 1), (106, .ireturn, 1), (107, .aload_n 0, 1), (108, .getfield 39, 3), (111, .getfield 172, 3), (114, .ireturn, 1), (115, .aload_n 0, 1), (116, .getfield 10, 3), (119, .getfield 369, 3), (122, .ireturn, 1), (123, .aload_n 0, 1), (124, .getfield 32, 3), (127, .invokevirtual 382, 3), (130, .ireturn, 1), (131, .iload_n 1, 1), (132, .bipush 12, 2), (134, .bipush 16, 2)]
def zi_167_1 : zIns := [(136, .invokestatic 80, 3), (139, .ifCond .eq 15, 3), (142, .aload_n 0, 1), (143, .getfield 64, 3), (146, .iload_n 1, 1), (147, .bipush 12, 2), (149, .isub, 1), (150, .iaload, 1), (151, .goto 4, 3), (154, .iconst (-1), 1), (155, .ireturn, 1)]
def zi_167 : zIns := zi_167_0 ++ (zi_167_1)
def zi_168 : zIns := [(0, .bipush (-102), 2), (2, .iload_n 1, 1), (3, .isub, 1), (4, .istore_n 2, 1), (5, .iload_n 2, 1), (6, .ifCond .lt 18, 3), (9, .iload_n 2, 1), (10, .iconst 5, 1), (11, .if_icmp .ge 13, 3), (14, .aload_n 0, 1), (15, .getfield 64, 3), (18, .iload_n 2, 1), (19, .dup2, 1), (20, .iaload, 1), (21, .iconst 1, 1), (22, .iadd, 1), (23, .iastore, 1), (24, .iload_n 1, 1), (25, .ireturn, 1)]
def zi_169 : zIns := [(0, .aload_n 0, 1), (1, .getfield 22, 3), (4, .invokevirtual 385, 3), (7, .ifCond .ne 17, 3), (10, .aload_n 0, 1), (11, .getfield 22, 3), (14, .invokevirtual 199, 3), (17, .aload_n 0, 1), (18, .bipush (-106), 2), (20, .invokevirtual 84, 3), (23, .ireturn, 1), (24, .aload_n 0, 1), (25, .getfield 22, 3), (28, .invokevirtual 389, 3), (31, .aload_n 0, 1), (32, .getfield 22, 3), (35, .getfield 230, 3), (38, .iconst 1, 1), (39, .isub, 1), (40, .ireturn, 1)]
def zi_170 : zIns := [(0, .aload_n 0, 1), (1, .getfield 22, 3), (4, .iload_n 1, 1), (5, .invokevirtual 121, 3), (8, .ifCond .eq 14, 3), (11, .iload_n 2, 1), (12, .invokestatic 255, 3), (15, .ifCond .eq 7, 3), (18, .iconst 1, 1), (19, .goto 4, 3), (22, .iconst 0, 1), (23, .ireturn, 1)]
def zi_171_0 : zIns := [(0, .iconst 0, 1), (1, .istore_n 3, 1), (2, .iconst 0, 1), (3, .istore 4, 2), (5, .iload 4, 2), (7, .iload_n 2, 1), (8, .if_icmp .ge 94, 3), (11, .aload_n 0, 1), (12, .getfield 32, 3), (15, .iload_n 1, 1), (16, .iconst 2, 1), (17, .iload 4, 2), (19, .imul, 1), (20, .invokevirtual 114, 3), (23, .lstore 5, 2), (25, .aload_n 0, 1), (26, .getfield 32, 3), (29, .iload_n 1, 1), (30, .iconst 2, 1), (31, .iload 4, 2), (33, .imul, 1), (34, .iconst 1, 1), (35, .iadd, 1), (36, .invokevirtual 114, 3), (39, .lstore 7, 2), (41, .lload 5, 2), (43, .lconst 0, 1), (44, .lcmp, 1), (45, .ifCond .lt 28, 3), (48, .lload 5, 2), (50, .ldc2_w 392, 3), (53, .lcmp, 1), (54, .ifCond .ge 19, 3), (57, .lload 7, 2), (59, .lconst 1, 1), (60, .lcmp, 1), (61, .ifCond .lt 12, 3), (64, .lload 7, 2), (66, .ldc2_w 394, 3), (69, .lcmp, 1), (70, .ifCond .le 5, 3), (73, .iconst 0, 1), (74, .ireturn, 1), (75, .iconst 1, 1), (76, .lload 5, 2), (78, .l2i, 1), (79, .ishl, 1), (80, .istore 9, 2), (82, .iload_n 3, 1), (83, .iload 9, 2)]
def zi_171_1 : zIns := [(85, .iand, 1), (86, .ifCond .eq 5, 3), (89, .iconst 0, 1), (90, .ireturn, 1), (91, .iload_n 3, 1), (92, .iload 9, 2), (94, .ior, 1), (95, .istore_n 3, 1), (96, .iinc 4 1, 3), (99, .goto (-94), 3), (102, .iconst 1, 1), (103, .ireturn, 1)]
def zi_171 : zIns := zi_171_0 ++ (zi_171_1)
def zi_172 : zIns := [(0, .iconst 0, 1), (1, .istore_n 3, 1), (2, .iload_n 3, 1), (3, .iload_n 2, 1), (4, .if_icmp .ge 74, 3), (7, .aload_n 0, 1), (8, .getfield 32, 3), (11, .iload_n 1, 1), (12, .iconst 2, 1), (13, .iload_n 3, 1), (14, .imul, 1), (15, .invokevirtual 114, 3), (18, .lstore 4, 2), (20, .aload_n 0, 1), (21, .getfield 32, 3), (24, .iload_n 1, 1), (25, .iconst 2, 1), (26, .iload_n 3, 1), (27, .imul, 1), (28, .iconst 1, 1), (29, .iadd, 1), (30, .invokevirtual 114, 3), (33, .lstore 6, 2), (35, .lload 4, 2), (37, .lconst 0, 1), (38, .lcmp, 1), (39, .ifCond .lt 31, 3), (42, .lload 4, 2), (44, .aload_n 0, 1), (45, .getfield 10, 3), (48, .getfield 150, 3), (51, .i2l, 1), (52, .lcmp, 1), (53, .ifCond .ge 17, 3), (56, .lload 6, 2), (58, .lconst 0, 1), (59, .lcmp, 1), (60, .ifCond .lt 10, 3), (63, .lload 6, 2), (65, .lconst 1, 1), (66, .lcmp, 1), (67, .ifCond .le 5, 3), (70, .iconst 0, 1), (71, .ireturn, 1), (72, .iinc 3 1, 3), (75, .goto (-73), 3), (78, .iconst 1, 1), (79, .ireturn, 1)]
def zi_173_0 : zIns := [(0, .iconst 0, 1), (1, .istore 6, 2), (3, .iload 6, 2), (5, .iload 5, 2), (7, .if_icmp .ge 83, 3), (10, .aload_n 0, 1), (11, .getfield 32, 3), (14, .iload 4, 2), (16, .iconst 2, 1), (17, .iload 6, 2), (19, .imul, 1), (20, .invokevirtual 114, 3), (23, .l2i, 1), (24, .istore 7, 2), (26, .aload_n 0, 1), (27, .getfield 32, 3), (30, .iload 4, 2), (32, .iconst 2, 1), (33, .iload 6, 2), (35, .imul, 1), (36, .iconst 1, 1), (37, .iadd, 1), (38, .invokevirtual 114, 3), (41, .lconst 1, 1), (42, .lcmp, 1), (43, .ifCond .ne 7, 3), (46, .iconst 1, 1), (47, .goto 4, 3), (50, .iconst 0, 1), (51, .istore 8, 2), (53, .aload_n 0, 1), (54, .getfield 10, 3), (57, .iload 7, 2), (59, .iload_n 1, 1), (60, .invokevirtual 161, 3), (63, .iload_n 2, 1), (64, .iload_n 3, 1), (65, .invokestatic 396, 3), (68, .iconst 1, 1), (69, .if_icmp .ne 7, 3), (72, .iconst 1, 1), (73, .goto 4, 3), (76, .iconst 0, 1), (77, .iload 8, 2), (79, .if_icmp .eq 5, 3), (82, .iconst 0, 1), (83, .ireturn, 1), (84, .iinc 6 1, 3), (87, .goto (-84), 3), (90, .iconst 1, 1)]
def zi_173_1 : zIns := [(91, .ireturn, 1)]
def zi_173 : zIns := zi_173_0 ++ (zi_173_1)
def zi_174 : zIns := [(0, .iconst 0, 1), (1, .istore_n 3, 1), (2, .iconst 0, 1), (3, .istore 4, 2), (5, .iload 4, 2), (7, .aload_n 0, 1), (8, .getfield 22, 3), (11, .getfield 230, 3), (14, .if_icmp .ge 42, 3), (17, .iload_n 1, 1), (18, .iconst 1, 1), (19, .iload 4, 2), (21, .ishl, 1), (22, .iand, 1), (23, .ifCond .eq 27, 3), (26, .aload_n 0, 1), (27, .aload_n 0, 1), (28, .getfield 22, 3), (31, .iload 4, 2), (33, .invokevirtual 135, 3), (36, .iload_n 2, 1), (37, .invokevirtual 399, 3), (40, .ifCond .ne 10, 3), (43, .iload_n 3, 1), (44, .iconst 1, 1), (45, .iload 4, 2), (47, .ishl, 1), (48, .ior, 1), (49, .istore_n 3, 1), (50, .iinc 4 1, 3), (53, .goto (-48), 3), (56, .iload_n 3, 1), (57, .ireturn, 1)]
def zi_175 : zIns := [(0, .iconst 0, 1), (1, .istore_n 3, 1), (2, .iload_n 3, 1), (3, .sipush 1000, 3), (6, .if_icmp .ge 36, 3), (9, .aload_n 0, 1), (10, .getfield 53, 3), (13, .iload_n 3, 1), (14, .invokevirtual 403, 3), (17, .ifCond .eq 19, 3), (20, .aload_n 1, 1), (21, .getfield 264, 3), (24, .iload_n 2, 1), (25, .iload_n 3, 1), (26, .invokestatic 268, 3), (29, .baload, 1), (30, .iconst 1, 1), (31, .if_icmp .eq 5, 3), (34, .iconst 0, 1), (35, .ireturn, 1), (36, .iinc 3 1, 3), (39, .goto (-37), 3), (42, .iconst 1, 1), (43, .ireturn, 1)]
def zi_176 : zIns := [(0, .iload_n 2, 1), (1, .iconst 0, 1), (2, .invokestatic 406, 3), (5, .istore_n 3, 1), (6, .iload_n 3, 1), (7, .sipush 1000, 3), (10, .if_icmp .ge 25, 3), (13, .aload_n 0, 1), (14, .getfield 264, 3), (17, .iload_n 1, 1), (18, .iload_n 3, 1), (19, .invokestatic 268, 3), (22, .baload, 1), (23, .iconst 1, 1), (24, .if_icmp .ne 5, 3), (27, .iload_n 3, 1), (28, .ireturn, 1), (29, .iinc 3 1, 3), (32, .goto (-26), 3), (35, .iconst (-1), 1), (36, .ireturn, 1)]
def zi_177 : zIns := [(0, .iload_n 2, 1), (1, .sipush 999, 3), (4, .invokestatic 411, 3), (7, .istore_n 3, 1), (8, .iload_n 3, 1), (9, .ifCond .lt 25, 3), (12, .aload_n 0, 1), (13, .getfield 264, 3), (16, .iload_n 1, 1), (17, .iload_n 3, 1), (18, .invokestatic 268, 3), (21, .baload, 1), (22, .iconst 1, 1), (23, .if_icmp .ne 5, 3), (26, .iload_n 3, 1), (27, .ireturn, 1), (28, .iinc 3 (-1), 3), (31, .goto (-23), 3), (34, .iconst (-1), 1), (35, .ireturn, 1)]
def zi_178 : zIns := [(0, .aload_n 0, 1), (1, .invokevirtual 328, 3), (4, .iconst 0, 1), (5, .istore_n 1, 1), (6, .iload_n 1, 1), (7, .aload_n 0, 1), (8, .getfield 10, 3), (11, .getfield 150, 3), (14, .if_icmp .ge 24, 3), (17, .aload_n 0, 1), (18, .getfield 68, 3), (21, .aload_n 0, 1), (22, .getfield 10, 3), (25, .iload_n 1, 1), (26, .iconst 0, 1), (27, .invokevirtual 258, 3), (30, .iconst 1, 1), (31, .bastore, 1), (32, .iinc 1 1, 3), (35, .goto (-29), 3), (38, .aload_n 0, 1), (39, .invokevirtual 334, 3), (42, .ireturn, 1)]
def zi_179 : zIns := [(0, .iconst 0, 1), (1, .istore_n 1, 1), (2, .iload_n 1, 1), (3, .aload_n 0, 1), (4, .getfield 68, 3), (7, .arraylength, 1), (8, .if_icmp .ge 16, 3), (11, .aload_n 0, 1), (12, .getfield 68, 3), (15, .iload_n 1, 1), (16, .iconst 0, 1), (17, .bastore, 1), (18, .iinc 1 1, 3), (21, .goto (-19), 3), (24, .return_, 1)]
def zi_180 : zIns := [(0, .iconst 0, 1), (1, .istore_n 1, 1), (2, .iconst 0, 1), (3, .istore_n 2, 1), (4, .iload_n 2, 1), (5, .aload_n 0, 1), (6, .getfield 68, 3), (9, .arraylength, 1), (10, .if_icmp .ge 21, 3), (13, .aload_n 0, 1), (14, .getfield 68, 3), (17, .iload_n 2, 1), (18, .baload, 1), (19, .ifCond .eq 6, 3), (22, .iinc 1 1, 3), (25, .iinc 2 1, 3), (28, .goto (-24), 3), (31, .iload_n 1, 1), (32, .ireturn, 1)]
def zi_181 : zIns := [(0, .iload_n 0, 1), (1, .iload_n 1, 1), (2, .if_icmp .lt 12, 3), (5, .iload_n 0, 1), (6, .iload_n 2, 1), (7, .if_icmp .gt 7, 3), (10, .iconst 1, 1), (11, .goto 4, 3), (14, .iconst 0, 1), (15, .ireturn, 1)]
def zi_182 : zIns := [(0, .iload_n 0, 1), (1, .iconst 0, 1), (2, .iconst 2, 1), (3, .invokestatic 80, 3), (6, .ireturn, 1)]
def zi_183 : zIns := [(0, .iload_n 0, 1), (1, .iconst 0, 1), (2, .iconst 5, 1), (3, .invokestatic 80, 3), (6, .ireturn, 1)]
def zi_184 : zIns := [(0, .iload_n 0, 1), (1, .iconst 0, 1), (2, .iconst 3, 1), (3, .invokestatic 80, 3), (6, .ireturn, 1)]
def zi_185 : zIns := [(0, .iload_n 0, 1), (1, .iconst 0, 1), (2, .iconst 2, 1), (3, .invokestatic 80, 3), (6, .ireturn, 1)]
def zi_186 : zIns := [(0, .iload_n 0, 1), (1, .iconst 0, 1), (2, .bipush 9, 2), (4, .invokestatic 80, 3), (7, .ireturn, 1)]
def zi_187 : zIns := [(0, .iload_n 0, 1), (1, .iconst 1, 1), (2, .bipush 9, 2), (4, .invokestatic 80, 3), (7, .ireturn, 1)]
def zi_188 : zIns := [(0, .iconst 3, 1), (1, .iload_n 0, 1), (2, .imul, 1), (3, .istore_n 2, 1), (4, .iload_n 1, 1), (5, .bipush 100, 2), (7, .idiv, 1), (8, .getstatic 414, 3), (11, .getstatic 417, 3), (14, .iload_n 2, 1), (15, .iaload, 1), (16, .iaload, 1), (17, .imul, 1), (18, .iload_n 1, 1), (19, .bipush 10, 2), (21, .idiv, 1), (22, .bipush 10, 2), (24, .irem, 1), (25, .getstatic 414, 3), (28, .getstatic 417, 3), (31, .iload_n 2, 1), (32, .iconst 1, 1), (33, .iadd, 1), (34, .iaload, 1), (35, .iaload, 1), (36, .imul, 1), (37, .iadd, 1), (38, .iload_n 1, 1), (39, .bipush 10, 2), (41, .irem, 1), (42, .getstatic 414, 3), (45, .getstatic 417, 3), (48, .iload_n 2, 1), (49, .iconst 2, 1), (50, .iadd, 1), (51, .iaload, 1), (52, .iaload, 1), (53, .imul, 1), (54, .iadd, 1), (55, .ireturn, 1)]
def zi_189 : zIns := [(0, .iload_n 0, 1), (1, .ifCond .eq 7, 3), (4, .iload_n 2, 1), (5, .ifCond .ne 5, 3), (8, .iconst 2, 1), (9, .ireturn, 1), (10, .iload_n 1, 1), (11, .tableswitch 67 0 2 #[25, 39, 53], 25), (36, .iload_n 0, 1), (37, .iload_n 2, 1), (38, .if_icmp .ge 7, 3), (41, .iconst 1, 1), (42, .goto 4, 3), (45, .iconst 0, 1), (46, .istore_n 3, 1), (47, .goto 42, 3), (50, .iload_n 0, 1), (51, .iload_n 2, 1), (52, .if_icmp .ne 7, 3), (55, .iconst 1, 1), (56, .goto 4, 3), (59, .iconst 0, 1), (60, .istore_n 3, 1), (61, .goto 28, 3), (64, .iload_n 0, 1), (65, .iload_n 2, 1), (66, .if_icmp .le 7, 3), (69, .iconst 1, 1), (70, .goto 4, 3), (73, .iconst 0, 1), (74, .istore_n 3, 1), (75, .goto 14, 3), (78, .iload_n 0, 1), (79, .iload_n 2, 1), (80, .if_icmp .eq 7, 3), (83, .iconst 1, 1), (84, .goto 4, 3), (87, .iconst 0, 1), (88, .istore_n 3, 1), (89, .iload_n 3, 1), (90, .ifCond .eq 7, 3), (93, .iconst 1, 1), (94, .goto 4, 3), (97, .iconst 0, 1), (98, .ireturn, 1)]
def zi_190_0 : zIns := [(0, .aload_n 0, 1), (1, .invokespecial 1, 3), (4, .aload_n 0, 1), (5, .bipush 8, 2), (7, .newarray .int, 2), (9, .putfield 7, 3), (12, .aload_n 0, 1), (13, .bipush 8, 2), (15, .newarray .int, 2), (17, .putfield 13, 3), (20, .aload_n 0, 1), (21, .bipush 8, 2), (23, .newarray .int, 2), (25, .putfield 16, 3), (28, .aload_n 0, 1), (29, .bipush 8, 2), (31, .bipush 40, 2), (33, .multianewarray 19 2, 4), (37, .putfield 21, 3), (40, .aload_n 0, 1), (41, .bipush 40, 2), (43, .newarray .long, 2), (45, .putfield 24, 3), (48, .aload_n 0, 1), (49, .bipush 8, 2), (51, .newarray .int, 2), (53, .putfield 28, 3), (56, .aload_n 0, 1), (57, .sipush 250, 3), (60, .newarray .int, 2), (62, .putfield 31, 3), (65, .aload_n 0, 1), (66, .bipush 8, 2), (68, .newarray .int, 2), (70, .putfield 34, 3), (73, .aload_n 0, 1), (74, .iconst 4, 1), (75, .putfield 37, 3), (78, .aload_n 0, 1), (79, .iconst 1, 1), (80, .putfield 41, 3), (83, .aload_n 0, 1), (84, .sipush 180, 3), (87, .newarray .int, 2), (89, .putfield 44, 3), (92, .aload_n 0, 1), (93, .bipush 24, 2), (95, .newarray .int, 2), (97, .putfield 47, 3), (100, .aload_n 0, 1)]
def zi_190_1 : zIns := [(101, .bipush 24, 2), (103, .newarray .int, 2), (105, .putfield 50, 3), (108, .aload_n 0, 1), (109, .sipush 192, 3), (112, .newarray .int, 2), (114, .putfield 53, 3), (117, .aload_n 0, 1), (118, .sipush 180, 3), (121, .newarray .int, 2), (123, .putfield 56, 3), (126, .aload_n 0, 1), (127, .bipush 24, 2), (129, .newarray .int, 2), (131, .putfield 59, 3), (134, .aload_n 0, 1), (135, .bipush 24, 2), (137, .newarray .int, 2), (139, .putfield 62, 3), (142, .aload_n 0, 1), (143, .sipush 192, 3), (146, .newarray .int, 2), (148, .putfield 65, 3), (151, .aload_n 0, 1), (152, .sipush 24000, 3), (155, .newarray .byte, 2), (157, .putfield 68, 3), (160, .aload_n 0, 1), (161, .bipush 24, 2), (163, .newarray .int, 2), (165, .putfield 72, 3), (168, .aload_n 0, 1), (169, .bipush 24, 2), (171, .newarray .int, 2), (173, .putfield 75, 3), (176, .aload_n 0, 1), (177, .bipush 24, 2), (179, .newarray .int, 2), (181, .putfield 78, 3), (184, .aload_n 0, 1), (185, .sipush 1000, 3), (188, .newarray .int, 2), (190, .putfield 81, 3), (193, .aload_n 0, 1), (194, .sipush 1000, 3), (197, .newarray .int, 2), (199, .putfield 84, 3), (202, .aload_n 0, 1), (203, .bipush 60, 2), (205, .newarray .int, 2)]
def zi_190_2 : zIns := [(207, .putfield 87, 3), (210, .aload_n 0, 1), (211, .bipush 8, 2), (213, .newarray .int, 2), (215, .putfield 90, 3), (218, .return_, 1)]
def zi_190 : zIns := zi_190_0 ++ (zi_190_1 ++ (zi_190_2))
def zi_191 : zIns := [(0, .aload_n 0, 1), (1, .getfield 34, 3), (4, .iload_n 1, 1), (5, .ineg, 1), (6, .bipush 100, 2), (8, .isub, 1), (9, .dup2, 1), (10, .iaload, 1), (11, .iconst 1, 1), (12, .iadd, 1), (13, .iastore, 1), (14, .iload_n 1, 1), (15, .ireturn, 1)]
def zi_192 : zIns := [(0, .lload_n 0, 1), (1, .lload_n 2, 1), (2, .lcmp, 1), (3, .ifCond .lt 14, 3), (6, .lload_n 0, 1), (7, .lload 4, 2), (9, .lcmp, 1), (10, .ifCond .gt 7, 3), (13, .iconst 1, 1), (14, .goto 4, 3), (17, .iconst 0, 1), (18, .ireturn, 1)]
def zi_193 : zIns := [(0, .iload_n 1, 1), (1, .i2l, 1), (2, .lconst 0, 1), (3, .aload_n 0, 1), (4, .getfield 93, 3), (7, .iconst 1, 1), (8, .isub, 1), (9, .i2l, 1), (10, .invokestatic 96, 3), (13, .ireturn, 1)]
def zi_194 : zIns := [(0, .iload_n 1, 1), (1, .i2l, 1), (2, .lconst 0, 1), (3, .aload_n 0, 1), (4, .getfield 100, 3), (7, .iconst 1, 1), (8, .isub, 1), (9, .i2l, 1), (10, .invokestatic 96, 3), (13, .ireturn, 1)]
def zi_195 : zIns := [(0, .iconst 0, 1), (1, .istore_n 1, 1), (2, .iload_n 0, 1), (3, .istore_n 2, 1), (4, .iload_n 2, 1), (5, .ifCond .eq 15, 3), (8, .iinc 1 1, 3), (11, .iload_n 2, 1), (12, .iload_n 2, 1), (13, .iconst 1, 1), (14, .isub, 1), (15, .iand, 1), (16, .istore_n 2, 1), (17, .goto (-13), 3), (20, .iload_n 1, 1), (21, .ireturn, 1)]
def zi_196_0 : zIns := [(0, .iload_n 1, 1), (1, .i2l, 1), (2, .lconst 0, 1), (3, .ldc2_w 103, 3), (6, .invokestatic 96, 3), (9, .ifCond .eq 27, 3), (12, .iload_n 2, 1), (13, .i2l, 1), (14, .lconst 0, 1), (15, .ldc2_w 105, 3), (18, .invokestatic 96, 3), (21, .ifCond .eq 15, 3), (24, .iload_n 3, 1), (25, .i2l, 1), (26, .lconst 0, 1), (27, .ldc2_w 107, 3), (30, .invokestatic 96, 3), (33, .ifCond .ne 10, 3), (36, .aload_n 0, 1), (37, .bipush (-102), 2), (39, .invokevirtual 109, 3), (42, .ireturn, 1), (43, .aload_n 0, 1), (44, .getfield 7, 3), (47, .iload_n 1, 1), (48, .iconst 1, 1), (49, .iastore, 1), (50, .aload_n 0, 1), (51, .getfield 13, 3), (54, .iload_n 1, 1), (55, .iload_n 2, 1), (56, .iastore, 1), (57, .aload_n 0, 1), (58, .getfield 16, 3), (61, .iload_n 1, 1), (62, .iload_n 3, 1), (63, .iastore, 1), (64, .iconst 0, 1), (65, .istore 4, 2), (67, .iload 4, 2), (69, .bipush 40, 2), (71, .if_icmp .ge 19, 3), (74, .aload_n 0, 1), (75, .getfield 21, 3), (78, .iload_n 1, 1), (79, .aaload, 1), (80, .iload 4, 2), (82, .lconst 0, 1), (83, .lastore, 1), (84, .iinc 4 1, 3)]
def zi_196_1 : zIns := [(87, .goto (-20), 3), (90, .iconst 1, 1), (91, .ireturn, 1)]
def zi_196 : zIns := zi_196_0 ++ (zi_196_1)
def zi_197 : zIns := [(0, .iload_n 0, 1), (1, .tableswitch 47 0 3 #[31, 36, 41, 45], 31), (32, .lload_n 1, 1), (33, .l2i, 1), (34, .i2b, 1), (35, .i2l, 1), (36, .lreturn, 1), (37, .lload_n 1, 1), (38, .l2i, 1), (39, .i2s, 1), (40, .i2l, 1), (41, .lreturn, 1), (42, .lload_n 1, 1), (43, .l2i, 1), (44, .i2l, 1), (45, .lreturn, 1), (46, .lload_n 1, 1), (47, .lreturn, 1), (48, .lload_n 1, 1), (49, .lconst 0, 1), (50, .lcmp, 1), (51, .ifCond .eq 7, 3), (54, .lconst 1, 1), (55, .goto 4, 3), (58, .lconst 0, 1), (59, .lreturn, 1)]
def zi_198 : zIns := [(0, .iload_n 1, 1), (1, .i2l, 1), (2, .lconst 0, 1), (3, .ldc2_w 103, 3), (6, .invokestatic 96, 3), (9, .ifCond .ne 10, 3), (12, .aload_n 0, 1), (13, .bipush (-102), 2), (15, .invokevirtual 109, 3), (18, .ireturn, 1), (19, .aload_n 0, 1), (20, .getfield 7, 3), (23, .iload_n 1, 1), (24, .iaload, 1), (25, .iconst 2, 1), (26, .if_icmp .ne 10, 3), (29, .aload_n 0, 1), (30, .bipush (-103), 2), (32, .invokevirtual 109, 3), (35, .ireturn, 1), (36, .aload_n 0, 1), (37, .getfield 7, 3), (40, .iload_n 1, 1), (41, .iaload, 1), (42, .ifCond .ne 12, 3), (45, .aload_n 0, 1), (46, .bipush (-104), 2), (48, .invokevirtual 109, 3), (51, .goto 4, 3), (54, .iconst 0, 1), (55, .ireturn, 1)]
def zi_199 : zIns := [(0, .aload_n 0, 1), (1, .iload_n 1, 1), (2, .invokevirtual 113, 3), (5, .istore 5, 2), (7, .iload 5, 2), (9, .ifCond .eq 6, 3), (12, .iload 5, 2), (14, .ireturn, 1), (15, .iload_n 2, 1), (16, .i2l, 1), (17, .lconst 0, 1), (18, .aload_n 0, 1), (19, .getfield 16, 3), (22, .iload_n 1, 1), (23, .iaload, 1), (24, .iconst 1, 1), (25, .isub, 1), (26, .i2l, 1), (27, .invokestatic 96, 3), (30, .ifCond .ne 10, 3), (33, .aload_n 0, 1), (34, .bipush (-102), 2), (36, .invokevirtual 109, 3), (39, .ireturn, 1), (40, .aload_n 0, 1), (41, .getfield 21, 3), (44, .iload_n 1, 1), (45, .aaload, 1), (46, .iload_n 2, 1), (47, .aload_n 0, 1), (48, .getfield 13, 3), (51, .iload_n 1, 1), (52, .iaload, 1), (53, .lload_n 3, 1), (54, .invokestatic 116, 3), (57, .lastore, 1), (58, .iconst 1, 1), (59, .ireturn, 1)]
def zi_200_0 : zIns := [(0, .iload_n 1, 1), (1, .i2l, 1), (2, .lconst 0, 1), (3, .ldc2_w 103, 3), (6, .invokestatic 96, 3), (9, .ifCond .eq 15, 3), (12, .iload_n 2, 1), (13, .i2l, 1), (14, .lconst 0, 1), (15, .ldc2_w 103, 3), (18, .invokestatic 96, 3), (21, .ifCond .ne 10, 3), (24, .aload_n 0, 1), (25, .bipush (-102), 2), (27, .invokevirtual 109, 3), (30, .ireturn, 1), (31, .aload_n 0, 1), (32, .getfield 7, 3), (35, .iload_n 1, 1), (36, .iaload, 1), (37, .iconst 2, 1), (38, .if_icmp .eq 48, 3), (41, .aload_n 0, 1), (42, .getfield 7, 3), (45, .iload_n 2, 1), (46, .iaload, 1), (47, .iconst 2, 1), (48, .if_icmp .eq 38, 3), (51, .aload_n 0, 1), (52, .getfield 7, 3), (55, .iload_n 1, 1), (56, .iaload, 1), (57, .iconst 1, 1), (58, .if_icmp .ne 35, 3), (61, .aload_n 0, 1), (62, .getfield 7, 3), (65, .iload_n 2, 1), (66, .iaload, 1), (67, .iconst 1, 1), (68, .if_icmp .ne 25, 3), (71, .aload_n 0, 1), (72, .getfield 13, 3), (75, .iload_n 1, 1), (76, .iaload, 1), (77, .aload_n 0, 1), (78, .getfield 13, 3), (81, .iload_n 2, 1), (82, .iaload, 1), (83, .if_icmp .eq 10, 3), (86, .aload_n 0, 1)]
def zi_200_1 : zIns := [(87, .bipush (-103), 2), (89, .invokevirtual 109, 3), (92, .ireturn, 1), (93, .aload_n 0, 1), (94, .getfield 7, 3), (97, .iload_n 1, 1), (98, .iaload, 1), (99, .ifCond .eq 12, 3), (102, .aload_n 0, 1), (103, .getfield 7, 3), (106, .iload_n 2, 1), (107, .iaload, 1), (108, .ifCond .ne 10, 3), (111, .aload_n 0, 1), (112, .bipush (-104), 2), (114, .invokevirtual 109, 3), (117, .ireturn, 1), (118, .iload 5, 2), (120, .ifCond .lt 61, 3), (123, .iload_n 3, 1), (124, .ifCond .lt 57, 3), (127, .iload 4, 2), (129, .ifCond .lt 52, 3), (132, .iload 5, 2), (134, .aload_n 0, 1), (135, .getfield 16, 3), (138, .iload_n 1, 1), (139, .iaload, 1), (140, .if_icmp .gt 41, 3), (143, .iload 5, 2), (145, .aload_n 0, 1), (146, .getfield 16, 3), (149, .iload_n 2, 1), (150, .iaload, 1), (151, .if_icmp .gt 30, 3), (154, .iload_n 3, 1), (155, .aload_n 0, 1), (156, .getfield 16, 3), (159, .iload_n 1, 1), (160, .iaload, 1), (161, .iload 5, 2), (163, .isub, 1), (164, .if_icmp .gt 17, 3), (167, .iload 4, 2), (169, .aload_n 0, 1), (170, .getfield 16, 3), (173, .iload_n 2, 1), (174, .iaload, 1), (175, .iload 5, 2), (177, .isub, 1)]
def zi_200_2 : zIns := [(178, .if_icmp .le 10, 3), (181, .aload_n 0, 1), (182, .bipush (-102), 2), (184, .invokevirtual 109, 3), (187, .ireturn, 1), (188, .iconst 0, 1), (189, .istore 6, 2), (191, .iload 6, 2), (193, .iload 5, 2), (195, .if_icmp .ge 27, 3), (198, .aload_n 0, 1), (199, .getfield 24, 3), (202, .iload 6, 2), (204, .aload_n 0, 1), (205, .getfield 21, 3), (208, .iload_n 1, 1), (209, .aaload, 1), (210, .iload_n 3, 1), (211, .iload 6, 2), (213, .iadd, 1), (214, .laload, 1), (215, .lastore, 1), (216, .iinc 6 1, 3), (219, .goto (-28), 3), (222, .iconst 0, 1), (223, .istore 6, 2), (225, .iload 6, 2), (227, .iload 5, 2), (229, .if_icmp .ge 28, 3), (232, .aload_n 0, 1), (233, .getfield 21, 3), (236, .iload_n 2, 1), (237, .aaload, 1), (238, .iload 4, 2), (240, .iload 6, 2), (242, .iadd, 1), (243, .aload_n 0, 1), (244, .getfield 24, 3), (247, .iload 6, 2), (249, .laload, 1), (250, .lastore, 1), (251, .iinc 6 1, 3), (254, .goto (-29), 3), (257, .iload 5, 2), (259, .ireturn, 1)]
def zi_200 : zIns := zi_200_0 ++ (zi_200_1 ++ (zi_200_2))
def zi_201 : zIns := [(0, .iload_n 1, 1), (1, .i2l, 1), (2, .lconst 0, 1), (3, .ldc2_w 103, 3), (6, .invokestatic 96, 3), (9, .ifCond .eq 42, 3), (12, .aload_n 0, 1), (13, .getfield 7, 3), (16, .iload_n 1, 1), (17, .iaload, 1), (18, .iconst 1, 1), (19, .if_icmp .ne 32, 3), (22, .iload_n 2, 1), (23, .i2l, 1), (24, .lconst 0, 1), (25, .aload_n 0, 1), (26, .getfield 16, 3), (29, .iload_n 1, 1), (30, .iaload, 1), (31, .iconst 1, 1), (32, .isub, 1), (33, .i2l, 1), (34, .invokestatic 96, 3), (37, .ifCond .eq 14, 3), (40, .aload_n 0, 1), (41, .getfield 21, 3), (44, .iload_n 1, 1), (45, .aaload, 1), (46, .iload_n 2, 1), (47, .laload, 1), (48, .goto 4, 3), (51, .lconst 0, 1), (52, .lreturn, 1)]
def zi_202 : zIns := [(0, .iload_n 1, 1), (1, .i2l, 1), (2, .lconst 0, 1), (3, .ldc2_w 103, 3), (6, .invokestatic 96, 3), (9, .ifCond .eq 12, 3), (12, .aload_n 0, 1), (13, .getfield 7, 3), (16, .iload_n 1, 1), (17, .iaload, 1), (18, .ifCond .ne 5, 3), (21, .iconst (-1), 1), (22, .ireturn, 1), (23, .aload_n 0, 1), (24, .getfield 7, 3), (27, .iload_n 1, 1), (28, .iaload, 1), (29, .iconst 1, 1), (30, .if_icmp .ne 12, 3), (33, .aload_n 0, 1), (34, .getfield 13, 3), (37, .iload_n 1, 1), (38, .iaload, 1), (39, .goto 12, 3), (42, .bipush 10, 2), (44, .aload_n 0, 1), (45, .getfield 28, 3), (48, .iload_n 1, 1), (49, .iaload, 1), (50, .iadd, 1), (51, .ireturn, 1)]
def zi_203 : zIns := [(0, .iload_n 1, 1), (1, .i2l, 1), (2, .lconst 0, 1), (3, .ldc2_w 103, 3), (6, .invokestatic 96, 3), (9, .ifCond .eq 16, 3), (12, .iload_n 2, 1), (13, .iconst (-1), 1), (14, .if_icmp .eq 18, 3), (17, .aload_n 0, 1), (18, .iload_n 2, 1), (19, .invokevirtual 120, 3), (22, .ifCond .ne 10, 3), (25, .aload_n 0, 1), (26, .bipush (-102), 2), (28, .invokevirtual 109, 3), (31, .ireturn, 1), (32, .aload_n 0, 1), (33, .getfield 7, 3), (36, .iload_n 1, 1), (37, .iload_n 2, 1), (38, .iconst (-1), 1), (39, .if_icmp .ne 7, 3), (42, .iconst 0, 1), (43, .goto 4, 3), (46, .iconst 2, 1), (47, .iastore, 1), (48, .aload_n 0, 1), (49, .getfield 28, 3), (52, .iload_n 1, 1), (53, .iload_n 2, 1), (54, .iastore, 1), (55, .iconst 1, 1), (56, .ireturn, 1)]
def zi_204_0 : zIns := [(0, .iload_n 1, 1), (1, .tableswitch 110 0 5 #[39, 41, 52, 68, 86, 98], 39), (40, .iconst 1, 1), (41, .ireturn, 1), (42, .iload_n 0, 1), (43, .iconst 5, 1), (44, .if_icmp .gt 7, 3), (47, .iconst 1, 1), (48, .goto 4, 3), (51, .iconst 0, 1), (52, .ireturn, 1), (53, .iload_n 0, 1), (54, .iconst 2, 1), (55, .if_icmp .le 8, 3), (58, .iload_n 0, 1), (59, .iconst 4, 1), (60, .if_icmp .ne 7, 3), (63, .iconst 1, 1), (64, .goto 4, 3), (67, .iconst 0, 1), (68, .ireturn, 1), (69, .iload_n 0, 1), (70, .bipush 6, 2), (72, .if_icmp .eq 9, 3), (75, .iload_n 0, 1), (76, .bipush 7, 2), (78, .if_icmp .ne 7, 3), (81, .iconst 1, 1), (82, .goto 4, 3), (85, .iconst 0, 1), (86, .ireturn, 1), (87, .iload_n 0, 1), (88, .bipush 8, 2), (90, .if_icmp .lt 7, 3), (93, .iconst 1, 1), (94, .goto 4, 3), (97, .iconst 0, 1), (98, .ireturn, 1), (99, .iload_n 0, 1), (100, .bipush 6, 2), (102, .if_icmp .ne 7, 3), (105, .iconst 1, 1), (106, .goto 4, 3), (109, .iconst 0, 1), (110, .ireturn, 1), (111, .iload_n 0, 1), (112, .iconst 5, 1), (113, .if_icmp .ne 7, 3), (116, .iconst 1, 1), (117, .goto 4, 3)]
def zi_204_1 : zIns := [(120, .iconst 0, 1), (121, .ireturn, 1)]
def zi_204 : zIns := zi_204_0 ++ (zi_204_1)
def zi_205_0 : zIns := [(0, .iload_n 1, 1), (1, .i2l, 1), (2, .lconst 0, 1), (3, .ldc2_w 103, 3), (6, .invokestatic 96, 3), (9, .ifCond .eq 15, 3), (12, .iload_n 2, 1), (13, .i2l, 1), (14, .lconst 0, 1), (15, .ldc2_w 124, 3), (18, .invokestatic 96, 3), (21, .ifCond .ne 10, 3), (24, .aload_n 0, 1), (25, .bipush (-102), 2), (27, .invokevirtual 109, 3), (30, .ireturn, 1), (31, .aload_n 0, 1), (32, .getfield 28, 3), (35, .iload_n 1, 1), (36, .iaload, 1), (37, .istore_n 3, 1), (38, .aload_n 0, 1), (39, .getfield 7, 3), (42, .iload_n 1, 1), (43, .iaload, 1), (44, .iconst 1, 1), (45, .if_icmp .eq 26, 3), (48, .aload_n 0, 1), (49, .getfield 7, 3), (52, .iload_n 1, 1), (53, .iaload, 1), (54, .iconst 2, 1), (55, .if_icmp .ne 23, 3), (58, .aload_n 0, 1), (59, .getfield 47, 3), (62, .iload_n 3, 1), (63, .iaload, 1), (64, .iload_n 2, 1), (65, .invokestatic 126, 3), (68, .ifCond .ne 10, 3), (71, .aload_n 0, 1), (72, .bipush (-103), 2), (74, .invokevirtual 109, 3), (77, .ireturn, 1), (78, .aload_n 0, 1), (79, .getfield 7, 3), (82, .iload_n 1, 1), (83, .iaload, 1), (84, .ifCond .ne 10, 3), (87, .aload_n 0, 1)]
def zi_205_1 : zIns := [(88, .bipush (-104), 2), (90, .invokevirtual 109, 3), (93, .ireturn, 1), (94, .iload_n 2, 1), (95, .tableswitch 138 0 5 #[37, 44, 78, 93, 118, 128], 37), (132, .aload_n 0, 1), (133, .iload_n 3, 1), (134, .iconst 1, 1), (135, .invokevirtual 130, 3), (138, .ireturn, 1), (139, .aload_n 0, 1), (140, .getfield 47, 3), (143, .iload_n 3, 1), (144, .iaload, 1), (145, .iconst 5, 1), (146, .if_icmp .ne 17, 3), (149, .aload_n 0, 1), (150, .getfield 53, 3), (153, .bipush 8, 2), (155, .iload_n 3, 1), (156, .imul, 1), (157, .iconst 1, 1), (158, .iadd, 1), (159, .iaload, 1), (160, .goto 12, 3), (163, .aload_n 0, 1), (164, .getfield 53, 3), (167, .bipush 8, 2), (169, .iload_n 3, 1), (170, .imul, 1), (171, .iaload, 1), (172, .ireturn, 1), (173, .aload_n 0, 1), (174, .iload_n 3, 1), (175, .aload_n 0, 1), (176, .getfield 53, 3), (179, .bipush 8, 2), (181, .iload_n 3, 1), (182, .imul, 1), (183, .iaload, 1), (184, .invokevirtual 134, 3), (187, .ireturn, 1), (188, .bipush 100, 2), (190, .aload_n 0, 1), (191, .getfield 53, 3), (194, .bipush 8, 2), (196, .iload_n 3, 1), (197, .imul, 1), (198, .iaload, 1), (199, .imul, 1)]
def zi_205_2 : zIns := [(200, .aload_n 0, 1), (201, .getfield 53, 3), (204, .bipush 8, 2), (206, .iload_n 3, 1), (207, .imul, 1), (208, .iconst 1, 1), (209, .iadd, 1), (210, .iaload, 1), (211, .iadd, 1), (212, .ireturn, 1), (213, .aload_n 0, 1), (214, .getfield 53, 3), (217, .bipush 8, 2), (219, .iload_n 3, 1), (220, .imul, 1), (221, .iaload, 1), (222, .ireturn, 1), (223, .aload_n 0, 1), (224, .getfield 78, 3), (227, .iload_n 3, 1), (228, .iaload, 1), (229, .invokestatic 137, 3), (232, .ireturn, 1), (233, .aload_n 0, 1), (234, .getfield 53, 3), (237, .bipush 8, 2), (239, .iload_n 3, 1), (240, .imul, 1), (241, .iaload, 1), (242, .ireturn, 1)]
def zi_205 : zIns := zi_205_0 ++ (zi_205_1 ++ (zi_205_2))
def zi_206 : zIns := [(0, .iload_n 0, 1), (1, .iconst 2, 1), (2, .idiv, 1), (3, .istore_n 2, 1), (4, .iload_n 2, 1), (5, .ifCond .ne 7, 3), (8, .iconst 1, 1), (9, .goto 4, 3), (12, .iconst 0, 1), (13, .istore_n 3, 1), (14, .iload_n 2, 1), (15, .iconst 2, 1), (16, .if_icmp .ne 7, 3), (19, .iconst 1, 1), (20, .goto 4, 3), (23, .iconst 2, 1), (24, .istore 4, 2), (26, .iload_n 1, 1), (27, .ifCond .ne 5, 3), (30, .iload_n 2, 1), (31, .ireturn, 1), (32, .iload_n 1, 1), (33, .iconst 1, 1), (34, .if_icmp .ne 7, 3), (37, .iconst 1, 1), (38, .goto 4, 3), (41, .iconst 0, 1), (42, .iload_n 0, 1), (43, .iconst 2, 1), (44, .irem, 1), (45, .ifCond .ne 7, 3), (48, .iconst 1, 1), (49, .goto 4, 3), (52, .iconst 0, 1), (53, .if_icmp .ne 7, 3), (56, .iload_n 3, 1), (57, .goto 5, 3), (60, .iload 4, 2), (62, .ireturn, 1)]
def zi_207 : zIns := [(0, .iload_n 1, 1), (1, .ifCond .ne 10, 3), (4, .iload_n 0, 1), (5, .bipush 100, 2), (7, .idiv, 1), (8, .goto 22, 3), (11, .iload_n 1, 1), (12, .iconst 1, 1), (13, .if_icmp .ne 13, 3), (16, .iload_n 0, 1), (17, .bipush 10, 2), (19, .idiv, 1), (20, .bipush 10, 2), (22, .irem, 1), (23, .goto 7, 3), (26, .iload_n 0, 1), (27, .bipush 10, 2), (29, .irem, 1), (30, .ireturn, 1)]
def zi_208 : zIns := [(0, .iload_n 0, 1), (1, .ifCond .ne 8, 3), (4, .bipush 100, 2), (6, .goto 14, 3), (9, .iload_n 0, 1), (10, .iconst 1, 1), (11, .if_icmp .ne 8, 3), (14, .bipush 10, 2), (16, .goto 4, 3), (19, .iconst 1, 1), (20, .ireturn, 1)]
def zi_209 : zIns := [(0, .iconst 0, 1), (1, .istore_n 2, 1), (2, .iconst 0, 1), (3, .istore_n 3, 1), (4, .iload_n 3, 1), (5, .iconst 3, 1), (6, .if_icmp .ge 26, 3), (9, .iload_n 2, 1), (10, .iload_n 0, 1), (11, .iload_n 3, 1), (12, .invokestatic 140, 3), (15, .invokestatic 143, 3), (18, .iload_n 1, 1), (19, .iload_n 3, 1), (20, .invokestatic 146, 3), (23, .imul, 1), (24, .iadd, 1), (25, .istore_n 2, 1), (26, .iinc 3 1, 3), (29, .goto (-25), 3), (32, .iload_n 2, 1), (33, .ireturn, 1)]
def zi_210 : zIns := [(0, .iconst 0, 1), (1, .istore_n 3, 1), (2, .iconst 0, 1), (3, .istore 4, 2), (5, .iload 4, 2), (7, .iconst 3, 1), (8, .if_icmp .ge 33, 3), (11, .iload_n 3, 1), (12, .iload 4, 2), (14, .invokestatic 143, 3), (17, .aload_n 0, 1), (18, .getfield 44, 3), (21, .iconst 3, 1), (22, .iload_n 1, 1), (23, .imul, 1), (24, .iload_n 2, 1), (25, .iload 4, 2), (27, .invokestatic 140, 3), (30, .iadd, 1), (31, .iaload, 1), (32, .imul, 1), (33, .iadd, 1), (34, .istore_n 3, 1), (35, .iinc 4 1, 3), (38, .goto (-33), 3), (41, .iload_n 3, 1), (42, .ireturn, 1)]
def zi_211 : zIns := [(0, .aload_n 0, 1), (1, .getfield 68, 3), (4, .iload_n 1, 1), (5, .sipush 1000, 3), (8, .imul, 1), (9, .iload_n 2, 1), (10, .iadd, 1), (11, .baload, 1), (12, .ireturn, 1)]
def zi_212 : zIns := [(0, .aload_n 0, 1), (1, .iload_n 1, 1), (2, .aload_n 0, 1), (3, .iload_n 2, 1), (4, .iconst 0, 1), (5, .invokevirtual 149, 3), (8, .invokevirtual 152, 3), (11, .ireturn, 1)]
def zi_213 : zIns := [(0, .iload_n 0, 1), (1, .ifCond .ne 16, 3), (4, .iload_n 1, 1), (5, .iload_n 2, 1), (6, .if_icmp .ge 7, 3), (9, .iconst 1, 1), (10, .goto 53, 3), (13, .iconst 0, 1), (14, .goto 49, 3), (17, .iload_n 0, 1), (18, .iconst 1, 1), (19, .if_icmp .ne 16, 3), (22, .iload_n 1, 1), (23, .iload_n 2, 1), (24, .if_icmp .ne 7, 3), (27, .iconst 1, 1), (28, .goto 35, 3), (31, .iconst 0, 1), (32, .goto 31, 3), (35, .iload_n 0, 1), (36, .iconst 2, 1), (37, .if_icmp .ne 16, 3), (40, .iload_n 1, 1), (41, .iload_n 2, 1), (42, .if_icmp .le 7, 3), (45, .iconst 1, 1), (46, .goto 17, 3), (49, .iconst 0, 1), (50, .goto 13, 3), (53, .iload_n 1, 1), (54, .iload_n 2, 1), (55, .if_icmp .eq 7, 3), (58, .iconst 1, 1), (59, .goto 4, 3), (62, .iconst 0, 1), (63, .istore_n 3, 1), (64, .iload_n 3, 1), (65, .ifCond .eq 7, 3), (68, .iconst 1, 1), (69, .goto 4, 3), (72, .iconst 0, 1), (73, .ireturn, 1)]
def zi_214_0 : zIns := [(0, .aload_n 0, 1), (1, .getfield 53, 3), (4, .bipush 8, 2), (6, .iload_n 1, 1), (7, .imul, 1), (8, .iaload, 1), (9, .istore_n 3, 1), (10, .aload_n 0, 1), (11, .getfield 50, 3), (14, .iload_n 1, 1), (15, .iaload, 1), (16, .istore 4, 2), (18, .iconst 1, 1), (19, .istore 5, 2), (21, .iconst 0, 1), (22, .istore 6, 2), (24, .iload 6, 2), (26, .iload_n 3, 1), (27, .if_icmp .ge 114, 3), (30, .iload_n 2, 1), (31, .aload_n 0, 1), (32, .getfield 53, 3), (35, .bipush 8, 2), (37, .iload_n 1, 1), (38, .imul, 1), (39, .iconst 1, 1), (40, .iadd, 1), (41, .iconst 2, 1), (42, .iload 6, 2), (44, .imul, 1), (45, .iadd, 1), (46, .iaload, 1), (47, .invokestatic 146, 3), (50, .istore 7, 2), (52, .aload_n 0, 1), (53, .getfield 53, 3), (56, .bipush 8, 2), (58, .iload_n 1, 1), (59, .imul, 1), (60, .iconst 2, 1), (61, .iadd, 1), (62, .iconst 2, 1), (63, .iload 6, 2), (65, .imul, 1), (66, .iadd, 1), (67, .iaload, 1), (68, .istore 8, 2), (70, .iload 4, 2), (72, .ifCond .eq 9, 3), (75, .iload 4, 2)]
def zi_214_1 : zIns := [(77, .iconst 2, 1), (78, .if_icmp .ne 27, 3), (81, .iload 7, 2), (83, .ifCond .ne 5, 3), (86, .iconst 2, 1), (87, .ireturn, 1), (88, .iload 7, 2), (90, .iload 8, 2), (92, .if_icmp .eq 43, 3), (95, .iload 4, 2), (97, .iload 7, 2), (99, .iload 8, 2), (101, .invokestatic 155, 3), (104, .ireturn, 1), (105, .iload 7, 2), (107, .ifCond .ne 9, 3), (110, .iconst 2, 1), (111, .istore 5, 2), (113, .goto 22, 3), (116, .iload 7, 2), (118, .iload 8, 2), (120, .if_icmp .eq 15, 3), (123, .iload 4, 2), (125, .iconst 1, 1), (126, .if_icmp .ne 7, 3), (129, .iconst 0, 1), (130, .goto 4, 3), (133, .iconst 1, 1), (134, .ireturn, 1), (135, .iinc 6 1, 3), (138, .goto (-114), 3), (141, .iload 4, 2), (143, .ifCond .eq 9, 3), (146, .iload 4, 2), (148, .iconst 2, 1), (149, .if_icmp .ne 7, 3), (152, .iconst 0, 1), (153, .goto 24, 3), (156, .iload 5, 2), (158, .iconst 2, 1), (159, .if_icmp .ne 7, 3), (162, .iconst 2, 1), (163, .goto 14, 3), (166, .iload 4, 2), (168, .iconst 1, 1), (169, .if_icmp .ne 7, 3), (172, .iconst 1, 1), (173, .goto 4, 3), (176, .iconst 0, 1), (177, .ireturn, 1)]
def zi_214 : zIns := zi_214_0 ++ (zi_214_1)
def zi_215_0 : zIns := [(0, .bipush 8, 2), (2, .iload_n 1, 1), (3, .imul, 1), (4, .istore_n 3, 1), (5, .aload_n 0, 1), (6, .getfield 47, 3), (9, .iload_n 1, 1), (10, .iaload, 1), (11, .iconst 5, 1), (12, .if_icmp .ne 7, 3), (15, .iconst 1, 1), (16, .goto 13, 3), (19, .iload_n 2, 1), (20, .aload_n 0, 1), (21, .getfield 53, 3), (24, .iload_n 3, 1), (25, .iaload, 1), (26, .invokestatic 146, 3), (29, .istore 4, 2), (31, .aload_n 0, 1), (32, .getfield 47, 3), (35, .iload_n 1, 1), (36, .iaload, 1), (37, .iconst 2, 1), (38, .if_icmp .ne 14, 3), (41, .iload 4, 2), (43, .ifCond .ne 7, 3), (46, .iconst 1, 1), (47, .goto 4, 3), (50, .iconst 0, 1), (51, .ireturn, 1), (52, .aload_n 0, 1), (53, .getfield 47, 3), (56, .iload_n 1, 1), (57, .iaload, 1), (58, .iconst 5, 1), (59, .if_icmp .ne 10, 3), (62, .aload_n 0, 1), (63, .iload_n 1, 1), (64, .iload_n 2, 1), (65, .invokevirtual 159, 3), (68, .ireturn, 1), (69, .iload 4, 2), (71, .ifCond .ne 5, 3), (74, .iconst 2, 1), (75, .ireturn, 1), (76, .aload_n 0, 1), (77, .getfield 47, 3), (80, .iload_n 1, 1), (81, .iaload, 1)]
def zi_215_1 : zIns := [(82, .tableswitch 101 0 3 #[30, 50, 101, 64], 30), (112, .aload_n 0, 1), (113, .getfield 50, 3), (116, .iload_n 1, 1), (117, .iaload, 1), (118, .iload 4, 2), (120, .aload_n 0, 1), (121, .getfield 53, 3), (124, .iload_n 3, 1), (125, .iconst 1, 1), (126, .iadd, 1), (127, .iaload, 1), (128, .invokestatic 155, 3), (131, .ireturn, 1), (132, .aload_n 0, 1), (133, .getfield 53, 3), (136, .iload_n 3, 1), (137, .iconst 1, 1), (138, .iadd, 1), (139, .iaload, 1), (140, .iload 4, 2), (142, .ishr, 1), (143, .iconst 1, 1), (144, .iand, 1), (145, .ireturn, 1), (146, .iload_n 2, 1), (147, .aload_n 0, 1), (148, .getfield 53, 3), (151, .iload_n 3, 1), (152, .iconst 1, 1), (153, .iadd, 1), (154, .iaload, 1), (155, .invokestatic 146, 3), (158, .istore 5, 2), (160, .iload 5, 2), (162, .ifCond .ne 7, 3), (165, .iconst 2, 1), (166, .goto 16, 3), (169, .aload_n 0, 1), (170, .getfield 50, 3), (173, .iload_n 1, 1), (174, .iaload, 1), (175, .iload 4, 2), (177, .iload 5, 2), (179, .invokestatic 155, 3), (182, .ireturn, 1), (183, .iload 4, 2), (185, .aload_n 0, 1), (186, .getfield 53, 3), (189, .iload_n 3, 1)]
def zi_215_2 : zIns := [(190, .iconst 1, 1), (191, .iadd, 1), (192, .iaload, 1), (193, .irem, 1), (194, .aload_n 0, 1), (195, .getfield 53, 3), (198, .iload_n 3, 1), (199, .iconst 2, 1), (200, .iadd, 1), (201, .iaload, 1), (202, .if_icmp .ne 7, 3), (205, .iconst 1, 1), (206, .goto 4, 3), (209, .iconst 0, 1), (210, .ireturn, 1)]
def zi_215 : zIns := zi_215_0 ++ (zi_215_1 ++ (zi_215_2))
def zi_216_0 : zIns := [(0, .aload_n 0, 1), (1, .getfield 47, 3), (4, .iload_n 1, 1), (5, .iaload, 1), (6, .iconst 5, 1), (7, .if_icmp .gt 10, 3), (10, .aload_n 0, 1), (11, .iload_n 1, 1), (12, .iload_n 2, 1), (13, .invokevirtual 162, 3), (16, .ireturn, 1), (17, .aload_n 0, 1), (18, .aload_n 0, 1), (19, .getfield 53, 3), (22, .bipush 8, 2), (24, .iload_n 1, 1), (25, .imul, 1), (26, .iaload, 1), (27, .iload_n 2, 1), (28, .invokevirtual 152, 3), (31, .istore_n 3, 1), (32, .aload_n 0, 1), (33, .getfield 47, 3), (36, .iload_n 1, 1), (37, .iaload, 1), (38, .bipush 7, 2), (40, .if_icmp .gt 22, 3), (43, .aload_n 0, 1), (44, .aload_n 0, 1), (45, .getfield 53, 3), (48, .bipush 8, 2), (50, .iload_n 1, 1), (51, .imul, 1), (52, .iconst 1, 1), (53, .iadd, 1), (54, .iaload, 1), (55, .iload_n 2, 1), (56, .invokevirtual 152, 3), (59, .goto 4, 3), (62, .iconst 0, 1), (63, .istore 4, 2), (65, .aload_n 0, 1), (66, .getfield 47, 3), (69, .iload_n 1, 1), (70, .iaload, 1), (71, .tableswitch 100 6 8 #[25, 55, 87], 25), (96, .iload_n 3, 1), (97, .ifCond .eq 8, 3), (100, .iload 4, 2), (102, .ifCond .ne 7, 3)]
def zi_216_1 : zIns := [(105, .iconst 0, 1), (106, .goto 19, 3), (109, .iload_n 3, 1), (110, .iconst 2, 1), (111, .if_icmp .eq 9, 3), (114, .iload 4, 2), (116, .iconst 2, 1), (117, .if_icmp .ne 7, 3), (120, .iconst 2, 1), (121, .goto 4, 3), (124, .iconst 1, 1), (125, .ireturn, 1), (126, .iload_n 3, 1), (127, .iconst 1, 1), (128, .if_icmp .eq 9, 3), (131, .iload 4, 2), (133, .iconst 1, 1), (134, .if_icmp .ne 7, 3), (137, .iconst 1, 1), (138, .goto 19, 3), (141, .iload_n 3, 1), (142, .iconst 2, 1), (143, .if_icmp .eq 9, 3), (146, .iload 4, 2), (148, .iconst 2, 1), (149, .if_icmp .ne 7, 3), (152, .iconst 2, 1), (153, .goto 4, 3), (156, .iconst 0, 1), (157, .ireturn, 1), (158, .iload_n 3, 1), (159, .iconst 2, 1), (160, .if_icmp .ne 7, 3), (163, .iconst 2, 1), (164, .goto 6, 3), (167, .iconst 1, 1), (168, .iload_n 3, 1), (169, .isub, 1), (170, .ireturn, 1), (171, .iload_n 3, 1), (172, .iconst 1, 1), (173, .if_icmp .ne 7, 3), (176, .iconst 1, 1), (177, .goto 4, 3), (180, .iconst 0, 1), (181, .ireturn, 1)]
def zi_216 : zIns := zi_216_0 ++ (zi_216_1)
def zi_217_0 : zIns := [(0, .bipush 8, 2), (2, .iload_n 1, 1), (3, .imul, 1), (4, .istore_n 2, 1), (5, .aload_n 0, 1), (6, .getfield 78, 3), (9, .iload_n 1, 1), (10, .iconst 1, 1), (11, .iload_n 1, 1), (12, .ishl, 1), (13, .iastore, 1), (14, .aload_n 0, 1), (15, .getfield 75, 3), (18, .iload_n 1, 1), (19, .iconst 0, 1), (20, .iastore, 1), (21, .aload_n 0, 1), (22, .getfield 72, 3), (25, .iload_n 1, 1), (26, .aload_n 0, 1), (27, .getfield 47, 3), (30, .iload_n 1, 1), (31, .iaload, 1), (32, .iconst 5, 1), (33, .if_icmp .ne 7, 3), (36, .iconst 0, 1), (37, .goto 11, 3), (40, .iconst 1, 1), (41, .aload_n 0, 1), (42, .getfield 53, 3), (45, .iload_n 2, 1), (46, .iaload, 1), (47, .ishl, 1), (48, .iastore, 1), (49, .aload_n 0, 1), (50, .getfield 47, 3), (53, .iload_n 1, 1), (54, .iaload, 1), (55, .iconst 3, 1), (56, .if_icmp .ne 22, 3), (59, .aload_n 0, 1), (60, .getfield 72, 3), (63, .iload_n 1, 1), (64, .dup2, 1), (65, .iaload, 1), (66, .iconst 1, 1), (67, .aload_n 0, 1), (68, .getfield 53, 3), (71, .iload_n 2, 1), (72, .iconst 1, 1)]
def zi_217_1 : zIns := [(73, .iadd, 1), (74, .iaload, 1), (75, .ishl, 1), (76, .ior, 1), (77, .iastore, 1), (78, .iconst 0, 1), (79, .istore_n 3, 1), (80, .aload_n 0, 1), (81, .getfield 47, 3), (84, .iload_n 1, 1), (85, .iaload, 1), (86, .iconst 5, 1), (87, .if_icmp .ne 42, 3), (90, .iload_n 3, 1), (91, .aload_n 0, 1), (92, .getfield 53, 3), (95, .iload_n 2, 1), (96, .iaload, 1), (97, .if_icmp .ge 32, 3), (100, .aload_n 0, 1), (101, .getfield 72, 3), (104, .iload_n 1, 1), (105, .dup2, 1), (106, .iaload, 1), (107, .iconst 1, 1), (108, .aload_n 0, 1), (109, .getfield 53, 3), (112, .iload_n 2, 1), (113, .iconst 1, 1), (114, .iadd, 1), (115, .iconst 2, 1), (116, .iload_n 3, 1), (117, .imul, 1), (118, .iadd, 1), (119, .iaload, 1), (120, .ishl, 1), (121, .ior, 1), (122, .iastore, 1), (123, .iinc 3 1, 3), (126, .goto (-46), 3), (129, .return_, 1)]
def zi_217 : zIns := zi_217_0 ++ (zi_217_1)
def zi_218_0 : zIns := [(0, .aload_n 0, 1), (1, .getfield 53, 3), (4, .bipush 8, 2), (6, .iload_n 1, 1), (7, .imul, 1), (8, .iaload, 1), (9, .istore_n 2, 1), (10, .aload_n 0, 1), (11, .getfield 47, 3), (14, .iload_n 1, 1), (15, .iaload, 1), (16, .bipush 7, 2), (18, .if_icmp .gt 17, 3), (21, .aload_n 0, 1), (22, .getfield 53, 3), (25, .bipush 8, 2), (27, .iload_n 1, 1), (28, .imul, 1), (29, .iconst 1, 1), (30, .iadd, 1), (31, .iaload, 1), (32, .goto 4, 3), (35, .iload_n 2, 1), (36, .istore_n 3, 1), (37, .aload_n 0, 1), (38, .getfield 78, 3), (41, .iload_n 1, 1), (42, .aload_n 0, 1), (43, .getfield 47, 3), (46, .iload_n 1, 1), (47, .iaload, 1), (48, .bipush 6, 2), (50, .if_icmp .ne 19, 3), (53, .aload_n 0, 1), (54, .getfield 78, 3), (57, .iload_n 2, 1), (58, .iaload, 1), (59, .aload_n 0, 1), (60, .getfield 78, 3), (63, .iload_n 3, 1), (64, .iaload, 1), (65, .ior, 1), (66, .goto 6, 3), (69, .iconst 1, 1), (70, .iload_n 1, 1), (71, .ishl, 1), (72, .iastore, 1), (73, .aload_n 0, 1), (74, .getfield 75, 3), (77, .iload_n 1, 1)]
def zi_218_1 : zIns := [(78, .iconst 1, 1), (79, .aload_n 0, 1), (80, .getfield 75, 3), (83, .iload_n 2, 1), (84, .iaload, 1), (85, .aload_n 0, 1), (86, .getfield 75, 3), (89, .iload_n 3, 1), (90, .iaload, 1), (91, .if_icmp .le 12, 3), (94, .aload_n 0, 1), (95, .getfield 75, 3), (98, .iload_n 2, 1), (99, .iaload, 1), (100, .goto 9, 3), (103, .aload_n 0, 1), (104, .getfield 75, 3), (107, .iload_n 3, 1), (108, .iaload, 1), (109, .iadd, 1), (110, .iastore, 1), (111, .aload_n 0, 1), (112, .getfield 72, 3), (115, .iload_n 1, 1), (116, .aload_n 0, 1), (117, .getfield 72, 3), (120, .iload_n 2, 1), (121, .iaload, 1), (122, .aload_n 0, 1), (123, .getfield 72, 3), (126, .iload_n 3, 1), (127, .iaload, 1), (128, .ior, 1), (129, .iastore, 1), (130, .return_, 1)]
def zi_218 : zIns := zi_218_0 ++ (zi_218_1)
def zi_219 : zIns := [(0, .iload_n 1, 1), (1, .istore_n 2, 1), (2, .iload_n 2, 1), (3, .aload_n 0, 1), (4, .getfield 93, 3), (7, .if_icmp .ge 66, 3), (10, .aload_n 0, 1), (11, .getfield 47, 3), (14, .iload_n 2, 1), (15, .iaload, 1), (16, .iconst 5, 1), (17, .if_icmp .gt 11, 3), (20, .aload_n 0, 1), (21, .iload_n 2, 1), (22, .invokevirtual 165, 3), (25, .goto 8, 3), (28, .aload_n 0, 1), (29, .iload_n 2, 1), (30, .invokevirtual 169, 3), (33, .iconst 0, 1), (34, .istore_n 3, 1), (35, .iload_n 3, 1), (36, .sipush 1000, 3), (39, .if_icmp .ge 28, 3), (42, .aload_n 0, 1), (43, .getfield 68, 3), (46, .iload_n 2, 1), (47, .sipush 1000, 3), (50, .imul, 1), (51, .iload_n 3, 1), (52, .iadd, 1), (53, .aload_n 0, 1), (54, .iload_n 2, 1), (55, .iload_n 3, 1), (56, .invokevirtual 172, 3), (59, .i2b, 1), (60, .bastore, 1), (61, .iinc 3 1, 3), (64, .goto (-29), 3), (67, .iinc 2 1, 3), (70, .goto (-68), 3), (73, .return_, 1)]
def zi_220 : zIns := [(0, .aload_n 0, 1), (1, .getfield 44, 3), (4, .iconst 3, 1), (5, .iload_n 1, 1), (6, .imul, 1), (7, .iload_n 2, 1), (8, .iastore, 1), (9, .aload_n 0, 1), (10, .getfield 44, 3), (13, .iconst 3, 1), (14, .iload_n 1, 1), (15, .imul, 1), (16, .iconst 1, 1), (17, .iadd, 1), (18, .iload_n 3, 1), (19, .iastore, 1), (20, .aload_n 0, 1), (21, .getfield 44, 3), (24, .iconst 3, 1), (25, .iload_n 1, 1), (26, .imul, 1), (27, .iconst 2, 1), (28, .iadd, 1), (29, .iload 4, 2), (31, .iastore, 1), (32, .return_, 1)]
def zi_221 : zIns := [(0, .iload_n 1, 1), (1, .i2l, 1), (2, .lconst 0, 1), (3, .ldc2_w 175, 3), (6, .invokestatic 96, 3), (9, .ifCond .eq 27, 3), (12, .iload_n 2, 1), (13, .i2l, 1), (14, .lconst 0, 1), (15, .ldc2_w 175, 3), (18, .invokestatic 96, 3), (21, .ifCond .eq 15, 3), (24, .iload_n 3, 1), (25, .i2l, 1), (26, .lconst 0, 1), (27, .ldc2_w 175, 3), (30, .invokestatic 96, 3), (33, .ifCond .ne 10, 3), (36, .aload_n 0, 1), (37, .bipush (-102), 2), (39, .invokevirtual 109, 3), (42, .ireturn, 1), (43, .aload_n 0, 1), (44, .getfield 100, 3), (47, .bipush 60, 2), (49, .if_icmp .ne 10, 3), (52, .aload_n 0, 1), (53, .bipush (-106), 2), (55, .invokevirtual 109, 3), (58, .ireturn, 1), (59, .aload_n 0, 1), (60, .aload_n 0, 1), (61, .getfield 100, 3), (64, .iload_n 1, 1), (65, .iload_n 2, 1), (66, .iload_n 3, 1), (67, .invokevirtual 177, 3), (70, .aload_n 0, 1), (71, .dup, 1), (72, .getfield 100, 3), (75, .dup_x1, 1), (76, .iconst 1, 1), (77, .iadd, 1), (78, .putfield 100, 3), (81, .ireturn, 1)]
def zi_222 : zIns := [(0, .aload_n 0, 1), (1, .iload_n 1, 1), (2, .invokevirtual 181, 3), (5, .ifCond .eq 27, 3), (8, .iload_n 2, 1), (9, .i2l, 1), (10, .lconst 0, 1), (11, .ldc2_w 184, 3), (14, .invokestatic 96, 3), (17, .ifCond .eq 15, 3), (20, .iload_n 3, 1), (21, .i2l, 1), (22, .lconst 0, 1), (23, .ldc2_w 175, 3), (26, .invokestatic 96, 3), (29, .ifCond .ne 10, 3), (32, .aload_n 0, 1), (33, .bipush (-102), 2), (35, .invokevirtual 109, 3), (38, .ireturn, 1), (39, .aload_n 0, 1), (40, .getfield 44, 3), (43, .iconst 3, 1), (44, .iload_n 1, 1), (45, .imul, 1), (46, .iload_n 2, 1), (47, .iadd, 1), (48, .iaload, 1), (49, .istore 4, 2), (51, .aload_n 0, 1), (52, .getfield 44, 3), (55, .iconst 3, 1), (56, .iload_n 1, 1), (57, .imul, 1), (58, .iload_n 2, 1), (59, .iadd, 1), (60, .iload_n 3, 1), (61, .iastore, 1), (62, .iload 4, 2), (64, .ireturn, 1)]
def zi_223 : zIns := [(0, .aload_n 0, 1), (1, .dup, 1), (2, .getfield 100, 3), (5, .iconst 1, 1), (6, .isub, 1), (7, .putfield 100, 3), (10, .iconst 3, 1), (11, .iload_n 1, 1), (12, .imul, 1), (13, .istore_n 2, 1), (14, .iload_n 2, 1), (15, .iconst 3, 1), (16, .aload_n 0, 1), (17, .getfield 100, 3), (20, .imul, 1), (21, .if_icmp .ge 23, 3), (24, .aload_n 0, 1), (25, .getfield 44, 3), (28, .iload_n 2, 1), (29, .aload_n 0, 1), (30, .getfield 44, 3), (33, .iload_n 2, 1), (34, .iconst 3, 1), (35, .iadd, 1), (36, .iaload, 1), (37, .iastore, 1), (38, .iinc 2 1, 3), (41, .goto (-27), 3), (44, .return_, 1)]
def zi_224 : zIns := [(0, .aload_n 0, 1), (1, .iload_n 1, 1), (2, .invokevirtual 181, 3), (5, .ifCond .ne 10, 3), (8, .aload_n 0, 1), (9, .bipush (-102), 2), (11, .invokevirtual 109, 3), (14, .ireturn, 1), (15, .aload_n 0, 1), (16, .iload_n 1, 1), (17, .invokevirtual 186, 3), (20, .aload_n 0, 1), (21, .getfield 100, 3), (24, .ireturn, 1)]
def zi_225 : zIns := [(0, .iload_n 1, 1), (1, .i2l, 1), (2, .lconst 0, 1), (3, .ldc2_w 189, 3), (6, .invokestatic 96, 3), (9, .ifCond .ne 10, 3), (12, .aload_n 0, 1), (13, .bipush (-102), 2), (15, .invokevirtual 109, 3), (18, .ireturn, 1), (19, .aload_n 0, 1), (20, .getfield 37, 3), (23, .istore_n 2, 1), (24, .aload_n 0, 1), (25, .iload_n 1, 1), (26, .putfield 37, 3), (29, .iload_n 2, 1), (30, .ireturn, 1)]
def zi_226 : zIns := [(0, .iload_n 1, 1), (1, .i2l, 1), (2, .lconst 0, 1), (3, .ldc2_w 191, 3), (6, .invokestatic 96, 3), (9, .ifCond .ne 10, 3), (12, .aload_n 0, 1), (13, .bipush (-102), 2), (15, .invokevirtual 109, 3), (18, .ireturn, 1), (19, .aload_n 0, 1), (20, .getfield 193, 3), (23, .sipush 250, 3), (26, .if_icmp .ne 10, 3), (29, .aload_n 0, 1), (30, .bipush (-106), 2), (32, .invokevirtual 109, 3), (35, .ireturn, 1), (36, .aload_n 0, 1), (37, .getfield 31, 3), (40, .aload_n 0, 1), (41, .dup, 1), (42, .getfield 193, 3), (45, .dup_x1, 1), (46, .iconst 1, 1), (47, .iadd, 1), (48, .putfield 193, 3), (51, .iload_n 1, 1), (52, .iastore, 1), (53, .aload_n 0, 1), (54, .getfield 193, 3), (57, .ireturn, 1)]
def zi_227 : zIns := [(0, .aload_n 0, 1), (1, .getfield 193, 3), (4, .istore_n 1, 1), (5, .aload_n 0, 1), (6, .iconst 0, 1), (7, .putfield 193, 3), (10, .iload_n 1, 1), (11, .ireturn, 1)]
def zi_228 : zIns := [(0, .iload_n 0, 1), (1, .bipush 46, 2), (3, .if_icmp .eq 17, 3), (6, .iload_n 0, 1), (7, .i2l, 1), (8, .ldc2_w 196, 3), (11, .ldc2_w 198, 3), (14, .invokestatic 96, 3), (17, .ifCond .eq 7, 3), (20, .iconst 1, 1), (21, .goto 4, 3), (24, .iconst 0, 1), (25, .ireturn, 1)]
def zi_229 : zIns := [(0, .iconst 0, 1), (1, .istore_n 1, 1), (2, .iconst 0, 1), (3, .istore_n 2, 1), (4, .iload_n 2, 1), (5, .aload_n 0, 1), (6, .getfield 193, 3), (9, .if_icmp .ge 61, 3), (12, .aload_n 0, 1), (13, .getfield 31, 3), (16, .iload_n 2, 1), (17, .iaload, 1), (18, .istore_n 3, 1), (19, .iload_n 3, 1), (20, .bipush 32, 2), (22, .if_icmp .ne 6, 3), (25, .goto 39, 3), (28, .iload_n 1, 1), (29, .iconst 3, 1), (30, .if_icmp .ne 12, 3), (33, .iload_n 3, 1), (34, .bipush 59, 2), (36, .if_icmp .eq 15, 3), (39, .goto 10, 3), (42, .iload_n 3, 1), (43, .invokestatic 200, 3), (46, .ifCond .ne 5, 3), (49, .iload_n 2, 1), (50, .ireturn, 1), (51, .iload_n 1, 1), (52, .iconst 3, 1), (53, .if_icmp .ne 7, 3), (56, .iconst 0, 1), (57, .goto 6, 3), (60, .iload_n 1, 1), (61, .iconst 1, 1), (62, .iadd, 1), (63, .istore_n 1, 1), (64, .iinc 2 1, 3), (67, .goto (-63), 3), (70, .iload_n 1, 1), (71, .iconst 3, 1), (72, .if_icmp .ne 7, 3), (75, .iconst (-1), 1), (76, .goto 7, 3), (79, .aload_n 0, 1), (80, .getfield 193, 3), (83, .ireturn, 1)]
def zi_230_0 : zIns := [(0, .aload_n 0, 1), (1, .invokevirtual 203, 3), (4, .istore_n 1, 1), (5, .aload_n 0, 1), (6, .getfield 193, 3), (9, .istore_n 2, 1), (10, .aload_n 0, 1), (11, .iconst 0, 1), (12, .putfield 193, 3), (15, .iload_n 1, 1), (16, .iconst (-1), 1), (17, .if_icmp .eq 16, 3), (20, .aload_n 0, 1), (21, .bipush (-102), 2), (23, .invokevirtual 109, 3), (26, .pop, 1), (27, .sipush (-200), 3), (30, .iload_n 1, 1), (31, .isub, 1), (32, .ireturn, 1), (33, .iconst 0, 1), (34, .istore_n 3, 1), (35, .iconst 0, 1), (36, .istore 4, 2), (38, .iload 4, 2), (40, .iload_n 2, 1), (41, .if_icmp .ge 30, 3), (44, .iload_n 3, 1), (45, .aload_n 0, 1), (46, .getfield 31, 3), (49, .iload 4, 2), (51, .iaload, 1), (52, .invokestatic 200, 3), (55, .ifCond .eq 7, 3), (58, .iconst 1, 1), (59, .goto 4, 3), (62, .iconst 0, 1), (63, .iadd, 1), (64, .istore_n 3, 1), (65, .iinc 4 1, 3), (68, .goto (-30), 3), (71, .aload_n 0, 1), (72, .getfield 100, 3), (75, .iload_n 3, 1), (76, .iconst 3, 1), (77, .idiv, 1), (78, .iadd, 1), (79, .bipush 60, 2), (81, .if_icmp .le 10, 3), (84, .aload_n 0, 1)]
def zi_230_1 : zIns := [(85, .bipush (-106), 2), (87, .invokevirtual 109, 3), (90, .ireturn, 1), (91, .iconst 3, 1), (92, .aload_n 0, 1), (93, .getfield 100, 3), (96, .imul, 1), (97, .istore 4, 2), (99, .iconst 0, 1), (100, .istore 5, 2), (102, .iload 5, 2), (104, .iload_n 2, 1), (105, .if_icmp .ge 58, 3), (108, .aload_n 0, 1), (109, .getfield 31, 3), (112, .iload 5, 2), (114, .iaload, 1), (115, .invokestatic 200, 3), (118, .ifCond .eq 39, 3), (121, .aload_n 0, 1), (122, .getfield 44, 3), (125, .iload 4, 2), (127, .iinc 4 1, 3), (130, .aload_n 0, 1), (131, .getfield 31, 3), (134, .iload 5, 2), (136, .iaload, 1), (137, .bipush 46, 2), (139, .if_icmp .ne 7, 3), (142, .iconst 0, 1), (143, .goto 13, 3), (146, .aload_n 0, 1), (147, .getfield 31, 3), (150, .iload 5, 2), (152, .iaload, 1), (153, .bipush 48, 2), (155, .isub, 1), (156, .iastore, 1), (157, .iinc 5 1, 3), (160, .goto (-58), 3), (163, .aload_n 0, 1), (164, .dup, 1), (165, .getfield 100, 3), (168, .iload_n 3, 1), (169, .iconst 3, 1), (170, .idiv, 1), (171, .iadd, 1), (172, .putfield 100, 3), (175, .iload_n 3, 1), (176, .iconst 3, 1)]
def zi_230_2 : zIns := [(177, .idiv, 1), (178, .ireturn, 1)]
def zi_230 : zIns := zi_230_0 ++ (zi_230_1 ++ (zi_230_2))
def zi_231 : zIns := [(0, .aload_n 0, 1), (1, .iconst (-1), 1), (2, .putfield 207, 3), (5, .iconst 0, 1), (6, .istore_n 1, 1), (7, .iload_n 1, 1), (8, .bipush 8, 2), (10, .if_icmp .ge 16, 3), (13, .aload_n 0, 1), (14, .getfield 90, 3), (17, .iload_n 1, 1), (18, .iconst (-1), 1), (19, .iastore, 1), (20, .iinc 1 1, 3), (23, .goto (-16), 3), (26, .return_, 1)]
def zi_232 : zIns := [(0, .aload_n 0, 1), (1, .getfield 210, 3), (4, .bipush 24, 2), (6, .if_icmp .ge 60, 3), (9, .aload_n 0, 1), (10, .getfield 47, 3), (13, .aload_n 0, 1), (14, .getfield 210, 3), (17, .iload_n 1, 1), (18, .iastore, 1), (19, .aload_n 0, 1), (20, .getfield 50, 3), (23, .aload_n 0, 1), (24, .getfield 210, 3), (27, .aload_n 0, 1), (28, .getfield 207, 3), (31, .iastore, 1), (32, .iconst 0, 1), (33, .istore_n 2, 1), (34, .iload_n 2, 1), (35, .bipush 8, 2), (37, .if_icmp .ge 29, 3), (40, .aload_n 0, 1), (41, .getfield 53, 3), (44, .bipush 8, 2), (46, .aload_n 0, 1), (47, .getfield 210, 3), (50, .imul, 1), (51, .iload_n 2, 1), (52, .iadd, 1), (53, .aload_n 0, 1), (54, .getfield 90, 3), (57, .iload_n 2, 1), (58, .iaload, 1), (59, .iastore, 1), (60, .iinc 2 1, 3), (63, .goto (-29), 3), (66, .aload_n 0, 1), (67, .dup, 1), (68, .getfield 210, 3), (71, .iconst 1, 1), (72, .iadd, 1), (73, .putfield 210, 3), (76, .aload_n 0, 1), (77, .getfield 210, 3), (80, .iconst 1, 1), (81, .isub, 1), (82, .ireturn, 1)]
def zi_233 : zIns := [(0, .aload_n 0, 1), (1, .invokevirtual 213, 3), (4, .aload_n 0, 1), (5, .getfield 90, 3), (8, .iconst 0, 1), (9, .iload_n 2, 1), (10, .iastore, 1), (11, .aload_n 0, 1), (12, .getfield 90, 3), (15, .iconst 1, 1), (16, .iload_n 3, 1), (17, .iastore, 1), (18, .aload_n 0, 1), (19, .iload_n 1, 1), (20, .invokevirtual 216, 3), (23, .ireturn, 1)]
def zi_234 : zIns := [(0, .aload_n 0, 1), (1, .getfield 219, 3), (4, .aload_n 0, 1), (5, .getfield 193, 3), (8, .if_icmp .ge 30, 3), (11, .aload_n 0, 1), (12, .getfield 31, 3), (15, .aload_n 0, 1), (16, .getfield 219, 3), (19, .iaload, 1), (20, .bipush 32, 2), (22, .if_icmp .ne 16, 3), (25, .aload_n 0, 1), (26, .dup, 1), (27, .getfield 219, 3), (30, .iconst 1, 1), (31, .iadd, 1), (32, .putfield 219, 3), (35, .goto (-35), 3), (38, .aload_n 0, 1), (39, .getfield 219, 3), (42, .aload_n 0, 1), (43, .getfield 193, 3), (46, .if_icmp .ge 15, 3), (49, .aload_n 0, 1), (50, .getfield 31, 3), (53, .aload_n 0, 1), (54, .getfield 219, 3), (57, .iaload, 1), (58, .goto 4, 3), (61, .iconst (-1), 1), (62, .ireturn, 1)]
def zi_235 : zIns := [(0, .aload_n 0, 1), (1, .getfield 222, 3), (4, .iconst (-1), 1), (5, .if_icmp .ne 15, 3), (8, .aload_n 0, 1), (9, .invokevirtual 225, 3), (12, .iload_n 1, 1), (13, .if_icmp .ne 7, 3), (16, .iconst 1, 1), (17, .goto 4, 3), (20, .iconst 0, 1), (21, .istore_n 2, 1), (22, .aload_n 0, 1), (23, .dup, 1), (24, .getfield 219, 3), (27, .iload_n 2, 1), (28, .ifCond .eq 7, 3), (31, .iconst 1, 1), (32, .goto 4, 3), (35, .iconst 0, 1), (36, .iadd, 1), (37, .putfield 219, 3), (40, .iload_n 2, 1), (41, .ireturn, 1)]
def zi_236 : zIns := [(0, .aload_n 0, 1), (1, .aload_n 0, 1), (2, .getfield 222, 3), (5, .iconst (-1), 1), (6, .if_icmp .ne 10, 3), (9, .aload_n 0, 1), (10, .getfield 219, 3), (13, .goto 7, 3), (16, .aload_n 0, 1), (17, .getfield 222, 3), (20, .putfield 222, 3), (23, .iconst 0, 1), (24, .ireturn, 1)]
def zi_237 : zIns := [(0, .aload_n 0, 1), (1, .getfield 222, 3), (4, .iconst (-1), 1), (5, .if_icmp .ne 16, 3), (8, .aload_n 0, 1), (9, .iload_n 1, 1), (10, .invokevirtual 228, 3), (13, .ifCond .ne 8, 3), (16, .aload_n 0, 1), (17, .invokevirtual 231, 3), (20, .pop, 1), (21, .return_, 1)]
def zi_238 : zIns := [(0, .iload_n 0, 1), (1, .bipush 60, 2), (3, .if_icmp .ne 7, 3), (6, .iconst 0, 1), (7, .goto 34, 3), (10, .iload_n 0, 1), (11, .bipush 61, 2), (13, .if_icmp .ne 7, 3), (16, .iconst 1, 1), (17, .goto 24, 3), (20, .iload_n 0, 1), (21, .bipush 62, 2), (23, .if_icmp .ne 7, 3), (26, .iconst 2, 1), (27, .goto 14, 3), (30, .iload_n 0, 1), (31, .bipush 126, 2), (33, .if_icmp .ne 7, 3), (36, .iconst 3, 1), (37, .goto 4, 3), (40, .iconst (-1), 1), (41, .ireturn, 1)]
def zi_239 : zIns := [(0, .aload_n 0, 1), (1, .getfield 222, 3), (4, .iconst (-1), 1), (5, .if_icmp .ne 24, 3), (8, .aload_n 0, 1), (9, .invokevirtual 225, 3), (12, .i2l, 1), (13, .bipush 48, 2), (15, .iload_n 1, 1), (16, .iadd, 1), (17, .i2l, 1), (18, .bipush 48, 2), (20, .iload_n 2, 1), (21, .iadd, 1), (22, .i2l, 1), (23, .invokestatic 96, 3), (26, .ifCond .ne 8, 3), (29, .aload_n 0, 1), (30, .invokevirtual 231, 3), (33, .ireturn, 1), (34, .aload_n 0, 1), (35, .getfield 31, 3), (38, .aload_n 0, 1), (39, .dup, 1), (40, .getfield 219, 3), (43, .dup_x1, 1), (44, .iconst 1, 1), (45, .iadd, 1), (46, .putfield 219, 3), (49, .iaload, 1), (50, .bipush 48, 2), (52, .isub, 1), (53, .ireturn, 1)]
def zi_240 : zIns := [(0, .aload_n 0, 1), (1, .aload_n 0, 1), (2, .getfield 222, 3), (5, .iconst (-1), 1), (6, .if_icmp .ne 13, 3), (9, .aload_n 0, 1), (10, .invokevirtual 225, 3), (13, .invokestatic 234, 3), (16, .goto 4, 3), (19, .iconst (-1), 1), (20, .putfield 207, 3), (23, .aload_n 0, 1), (24, .getfield 207, 3), (27, .iconst (-1), 1), (28, .if_icmp .ne 11, 3), (31, .aload_n 0, 1), (32, .invokevirtual 231, 3), (35, .pop, 1), (36, .goto 13, 3), (39, .aload_n 0, 1), (40, .dup, 1), (41, .getfield 219, 3), (44, .iconst 1, 1), (45, .iadd, 1), (46, .putfield 219, 3), (49, .return_, 1)]
def zi_241_0 : zIns := [(0, .aload_n 0, 1), (1, .getfield 90, 3), (4, .iconst 1, 1), (5, .iload_n 1, 1), (6, .iastore, 1), (7, .iconst 1, 1), (8, .istore_n 2, 1), (9, .iload_n 2, 1), (10, .iconst 3, 1), (11, .if_icmp .ge 85, 3), (14, .aload_n 0, 1), (15, .invokevirtual 225, 3), (18, .i2l, 1), (19, .ldc2_w 237, 3), (22, .ldc2_w 239, 3), (25, .invokestatic 96, 3), (28, .ifCond .eq 68, 3), (31, .aload_n 0, 1), (32, .getfield 31, 3), (35, .aload_n 0, 1), (36, .getfield 219, 3), (39, .iaload, 1), (40, .bipush 97, 2), (42, .isub, 1), (43, .istore_n 3, 1), (44, .iload_n 3, 1), (45, .iload_n 1, 1), (46, .if_icmp .eq 18, 3), (49, .iload_n 2, 1), (50, .iconst 2, 1), (51, .if_icmp .ne 18, 3), (54, .iload_n 3, 1), (55, .aload_n 0, 1), (56, .getfield 90, 3), (59, .iconst 3, 1), (60, .iaload, 1), (61, .if_icmp .ne 8, 3), (64, .aload_n 0, 1), (65, .invokevirtual 231, 3), (68, .ireturn, 1), (69, .aload_n 0, 1), (70, .getfield 90, 3), (73, .iconst 1, 1), (74, .iconst 2, 1), (75, .iload_n 2, 1), (76, .imul, 1), (77, .iadd, 1), (78, .iload_n 3, 1), (79, .iastore, 1), (80, .iinc 2 1, 3)]
def zi_241_1 : zIns := [(83, .aload_n 0, 1), (84, .dup, 1), (85, .getfield 219, 3), (88, .iconst 1, 1), (89, .iadd, 1), (90, .putfield 219, 3), (93, .goto (-84), 3), (96, .aload_n 0, 1), (97, .getfield 90, 3), (100, .iconst 0, 1), (101, .iload_n 2, 1), (102, .iastore, 1), (103, .aload_n 0, 1), (104, .invokevirtual 241, 3), (107, .iconst 0, 1), (108, .istore_n 3, 1), (109, .iload_n 3, 1), (110, .iload_n 2, 1), (111, .if_icmp .ge 26, 3), (114, .aload_n 0, 1), (115, .getfield 90, 3), (118, .iconst 2, 1), (119, .iconst 2, 1), (120, .iload_n 3, 1), (121, .imul, 1), (122, .iadd, 1), (123, .aload_n 0, 1), (124, .iconst 1, 1), (125, .bipush 9, 2), (127, .invokevirtual 244, 3), (130, .iastore, 1), (131, .iinc 3 1, 3), (134, .goto (-25), 3), (137, .aload_n 0, 1), (138, .getfield 222, 3), (141, .iconst (-1), 1), (142, .if_icmp .eq 7, 3), (145, .iconst 0, 1), (146, .goto 8, 3), (149, .aload_n 0, 1), (150, .iconst 5, 1), (151, .invokevirtual 216, 3), (154, .ireturn, 1)]
def zi_241 : zIns := zi_241_0 ++ (zi_241_1)
def zi_242_0 : zIns := [(0, .aload_n 0, 1), (1, .getfield 90, 3), (4, .iconst 0, 1), (5, .iload_n 1, 1), (6, .iastore, 1), (7, .aload_n 0, 1), (8, .getfield 90, 3), (11, .iconst 1, 1), (12, .iconst 1, 1), (13, .aload_n 0, 1), (14, .iconst 1, 1), (15, .bipush 9, 2), (17, .invokevirtual 244, 3), (20, .ishl, 1), (21, .iastore, 1), (22, .aload_n 0, 1), (23, .getfield 222, 3), (26, .iconst (-1), 1), (27, .if_icmp .ne 53, 3), (30, .aload_n 0, 1), (31, .invokevirtual 225, 3), (34, .i2l, 1), (35, .ldc2_w 196, 3), (38, .ldc2_w 198, 3), (41, .invokestatic 96, 3), (44, .ifCond .eq 36, 3), (47, .aload_n 0, 1), (48, .getfield 90, 3), (51, .iconst 1, 1), (52, .dup2, 1), (53, .iaload, 1), (54, .iconst 1, 1), (55, .aload_n 0, 1), (56, .getfield 31, 3), (59, .aload_n 0, 1), (60, .dup, 1), (61, .getfield 219, 3), (64, .dup_x1, 1), (65, .iconst 1, 1), (66, .iadd, 1), (67, .putfield 219, 3), (70, .iaload, 1), (71, .bipush 48, 2), (73, .isub, 1), (74, .ishl, 1), (75, .ior, 1), (76, .iastore, 1), (77, .goto (-55), 3), (80, .aload_n 0, 1), (81, .bipush 93, 2)]
def zi_242_1 : zIns := [(83, .invokevirtual 247, 3), (86, .aload_n 0, 1), (87, .getfield 222, 3), (90, .iconst (-1), 1), (91, .if_icmp .eq 7, 3), (94, .iconst 0, 1), (95, .goto 8, 3), (98, .aload_n 0, 1), (99, .iconst 1, 1), (100, .invokevirtual 216, 3), (103, .ireturn, 1)]
def zi_242 : zIns := zi_242_0 ++ (zi_242_1)
def zi_243_0 : zIns := [(0, .aload_n 0, 1), (1, .invokevirtual 213, 3), (4, .aload_n 0, 1), (5, .invokevirtual 225, 3), (8, .istore_n 2, 1), (9, .iload_n 2, 1), (10, .i2l, 1), (11, .ldc2_w 237, 3), (14, .ldc2_w 239, 3), (17, .invokestatic 96, 3), (20, .ifCond .eq 9, 3), (23, .aload_n 0, 1), (24, .iload_n 1, 1), (25, .invokevirtual 250, 3), (28, .ireturn, 1), (29, .aload_n 0, 1), (30, .getfield 90, 3), (33, .iconst 0, 1), (34, .iload_n 1, 1), (35, .iastore, 1), (36, .iload_n 2, 1), (37, .bipush 91, 2), (39, .if_icmp .ne 19, 3), (42, .aload_n 0, 1), (43, .dup, 1), (44, .getfield 219, 3), (47, .iconst 1, 1), (48, .iadd, 1), (49, .putfield 219, 3), (52, .aload_n 0, 1), (53, .iload_n 1, 1), (54, .invokevirtual 253, 3), (57, .ireturn, 1), (58, .iload_n 2, 1), (59, .bipush 63, 2), (61, .if_icmp .ne 19, 3), (64, .aload_n 0, 1), (65, .dup, 1), (66, .getfield 219, 3), (69, .iconst 1, 1), (70, .iadd, 1), (71, .putfield 219, 3), (74, .aload_n 0, 1), (75, .iconst 2, 1), (76, .invokevirtual 216, 3), (79, .ireturn, 1), (80, .iload_n 2, 1), (81, .bipush 37, 2), (83, .if_icmp .ne 63, 3), (86, .aload_n 0, 1)]
def zi_243_1 : zIns := [(87, .dup, 1), (88, .getfield 219, 3), (91, .iconst 1, 1), (92, .iadd, 1), (93, .putfield 219, 3), (96, .aload_n 0, 1), (97, .getfield 90, 3), (100, .iconst 1, 1), (101, .aload_n 0, 1), (102, .iconst 2, 1), (103, .bipush 9, 2), (105, .invokevirtual 244, 3), (108, .iastore, 1), (109, .aload_n 0, 1), (110, .getfield 90, 3), (113, .iconst 2, 1), (114, .aload_n 0, 1), (115, .iconst 0, 1), (116, .aload_n 0, 1), (117, .getfield 90, 3), (120, .iconst 1, 1), (121, .iaload, 1), (122, .iconst 1, 1), (123, .isub, 1), (124, .invokevirtual 244, 3), (127, .iastore, 1), (128, .aload_n 0, 1), (129, .getfield 222, 3), (132, .iconst (-1), 1), (133, .if_icmp .eq 7, 3), (136, .iconst 0, 1), (137, .goto 8, 3), (140, .aload_n 0, 1), (141, .iconst 4, 1), (142, .invokevirtual 216, 3), (145, .ireturn, 1), (146, .aload_n 0, 1), (147, .invokevirtual 241, 3), (150, .aload_n 0, 1), (151, .getfield 222, 3), (154, .iconst (-1), 1), (155, .if_icmp .ne 62, 3), (158, .aload_n 0, 1), (159, .invokevirtual 225, 3), (162, .i2l, 1), (163, .ldc2_w 237, 3), (166, .ldc2_w 239, 3), (169, .invokestatic 96, 3), (172, .ifCond .eq 45, 3), (175, .aload_n 0, 1)]
def zi_243_2 : zIns := [(176, .invokevirtual 225, 3), (179, .bipush 97, 2), (181, .iload_n 1, 1), (182, .iadd, 1), (183, .if_icmp .eq 34, 3), (186, .aload_n 0, 1), (187, .getfield 90, 3), (190, .iconst 1, 1), (191, .aload_n 0, 1), (192, .getfield 31, 3), (195, .aload_n 0, 1), (196, .dup, 1), (197, .getfield 219, 3), (200, .dup_x1, 1), (201, .iconst 1, 1), (202, .iadd, 1), (203, .putfield 219, 3), (206, .iaload, 1), (207, .bipush 97, 2), (209, .isub, 1), (210, .iastore, 1), (211, .aload_n 0, 1), (212, .iconst 3, 1), (213, .invokevirtual 216, 3), (216, .ireturn, 1), (217, .aload_n 0, 1), (218, .getfield 90, 3), (221, .iconst 1, 1), (222, .aload_n 0, 1), (223, .iconst 1, 1), (224, .bipush 9, 2), (226, .invokevirtual 244, 3), (229, .iastore, 1), (230, .aload_n 0, 1), (231, .getfield 222, 3), (234, .iconst (-1), 1), (235, .if_icmp .eq 7, 3), (238, .iconst 0, 1), (239, .goto 8, 3), (242, .aload_n 0, 1), (243, .iconst 0, 1), (244, .invokevirtual 216, 3), (247, .ireturn, 1)]
def zi_243 : zIns := zi_243_0 ++ (zi_243_1 ++ (zi_243_2))
def zi_244_0 : zIns := [(0, .aload_n 0, 1), (1, .bipush 45, 2), (3, .invokevirtual 228, 3), (6, .ifCond .ne 12, 3), (9, .aload_n 0, 1), (10, .bipush 43, 2), (12, .invokevirtual 228, 3), (15, .ifCond .eq 52, 3), (18, .aload_n 0, 1), (19, .getfield 31, 3), (22, .aload_n 0, 1), (23, .getfield 219, 3), (26, .iconst 1, 1), (27, .isub, 1), (28, .iaload, 1), (29, .bipush 45, 2), (31, .if_icmp .ne 8, 3), (34, .bipush 8, 2), (36, .goto 5, 3), (39, .bipush 9, 2), (41, .istore_n 1, 1), (42, .aload_n 0, 1), (43, .invokevirtual 256, 3), (46, .istore_n 2, 1), (47, .aload_n 0, 1), (48, .getfield 222, 3), (51, .iconst (-1), 1), (52, .if_icmp .eq 7, 3), (55, .iconst 0, 1), (56, .goto 10, 3), (59, .aload_n 0, 1), (60, .iload_n 1, 1), (61, .iload_n 2, 1), (62, .iconst (-1), 1), (63, .invokevirtual 259, 3), (66, .ireturn, 1), (67, .aload_n 0, 1), (68, .bipush 40, 2), (70, .invokevirtual 228, 3), (73, .ifCond .eq 16, 3), (76, .aload_n 0, 1), (77, .invokevirtual 262, 3), (80, .istore_n 1, 1), (81, .aload_n 0, 1), (82, .bipush 41, 2), (84, .invokevirtual 247, 3), (87, .iload_n 1, 1), (88, .ireturn, 1), (89, .aload_n 0, 1), (90, .getfield 222, 3)]
def zi_244_1 : zIns := [(93, .iconst (-1), 1), (94, .if_icmp .ne 20, 3), (97, .aload_n 0, 1), (98, .invokevirtual 225, 3), (101, .i2l, 1), (102, .ldc2_w 237, 3), (105, .ldc2_w 239, 3), (108, .invokestatic 96, 3), (111, .ifCond .ne 8, 3), (114, .aload_n 0, 1), (115, .invokevirtual 231, 3), (118, .ireturn, 1), (119, .aload_n 0, 1), (120, .dup, 1), (121, .getfield 219, 3), (124, .iconst 1, 1), (125, .iadd, 1), (126, .putfield 219, 3), (129, .aload_n 0, 1), (130, .aload_n 0, 1), (131, .getfield 31, 3), (134, .aload_n 0, 1), (135, .getfield 219, 3), (138, .iconst 1, 1), (139, .isub, 1), (140, .iaload, 1), (141, .bipush 97, 2), (143, .isub, 1), (144, .invokevirtual 265, 3), (147, .ireturn, 1)]
def zi_244 : zIns := zi_244_0 ++ (zi_244_1)
def zi_245 : zIns := [(0, .aload_n 0, 1), (1, .invokevirtual 256, 3), (4, .istore_n 1, 1), (5, .aload_n 0, 1), (6, .bipush 38, 2), (8, .invokevirtual 228, 3), (11, .ifCond .eq 32, 3), (14, .aload_n 0, 1), (15, .invokevirtual 256, 3), (18, .istore_n 2, 1), (19, .aload_n 0, 1), (20, .getfield 222, 3), (23, .iconst (-1), 1), (24, .if_icmp .eq 7, 3), (27, .iconst 0, 1), (28, .goto 11, 3), (31, .aload_n 0, 1), (32, .bipush 6, 2), (34, .iload_n 1, 1), (35, .iload_n 2, 1), (36, .invokevirtual 259, 3), (39, .istore_n 1, 1), (40, .goto (-35), 3), (43, .iload_n 1, 1), (44, .ireturn, 1)]
def zi_246 : zIns := [(0, .aload_n 0, 1), (1, .invokevirtual 268, 3), (4, .istore_n 1, 1), (5, .aload_n 0, 1), (6, .bipush 124, 2), (8, .invokevirtual 228, 3), (11, .ifCond .eq 32, 3), (14, .aload_n 0, 1), (15, .invokevirtual 268, 3), (18, .istore_n 2, 1), (19, .aload_n 0, 1), (20, .getfield 222, 3), (23, .iconst (-1), 1), (24, .if_icmp .eq 7, 3), (27, .iconst 0, 1), (28, .goto 11, 3), (31, .aload_n 0, 1), (32, .bipush 7, 2), (34, .iload_n 1, 1), (35, .iload_n 2, 1), (36, .invokevirtual 259, 3), (39, .istore_n 1, 1), (40, .goto (-35), 3), (43, .iload_n 1, 1), (44, .ireturn, 1)]
def zi_247_0 : zIns := [(0, .aload_n 0, 1), (1, .iconst 0, 1), (2, .putfield 219, 3), (5, .aload_n 0, 1), (6, .iconst (-1), 1), (7, .putfield 222, 3), (10, .aload_n 0, 1), (11, .aload_n 0, 1), (12, .getfield 93, 3), (15, .putfield 210, 3), (18, .aload_n 0, 1), (19, .invokevirtual 262, 3), (22, .pop, 1), (23, .aload_n 0, 1), (24, .getfield 222, 3), (27, .iconst (-1), 1), (28, .if_icmp .ne 16, 3), (31, .aload_n 0, 1), (32, .invokevirtual 225, 3), (35, .iconst (-1), 1), (36, .if_icmp .eq 8, 3), (39, .aload_n 0, 1), (40, .invokevirtual 231, 3), (43, .pop, 1), (44, .aload_n 0, 1), (45, .iconst 0, 1), (46, .putfield 193, 3), (49, .aload_n 0, 1), (50, .getfield 222, 3), (53, .iconst (-1), 1), (54, .if_icmp .eq 19, 3), (57, .aload_n 0, 1), (58, .bipush (-102), 2), (60, .invokevirtual 109, 3), (63, .pop, 1), (64, .sipush (-200), 3), (67, .aload_n 0, 1), (68, .getfield 222, 3), (71, .isub, 1), (72, .ireturn, 1), (73, .aload_n 0, 1), (74, .getfield 210, 3), (77, .bipush 24, 2), (79, .if_icmp .le 10, 3), (82, .aload_n 0, 1), (83, .bipush (-106), 2), (85, .invokevirtual 109, 3), (88, .ireturn, 1), (89, .aload_n 0, 1), (90, .invokevirtual 271, 3)]
def zi_247_1 : zIns := [(93, .ireturn, 1)]
def zi_247 : zIns := zi_247_0 ++ (zi_247_1)
def zi_248 : zIns := [(0, .aload_n 0, 1), (1, .getfield 93, 3), (4, .istore_n 1, 1), (5, .aload_n 0, 1), (6, .aload_n 0, 1), (7, .getfield 210, 3), (10, .putfield 93, 3), (13, .aload_n 0, 1), (14, .iload_n 1, 1), (15, .invokevirtual 274, 3), (18, .aload_n 0, 1), (19, .getfield 93, 3), (22, .iconst 1, 1), (23, .isub, 1), (24, .ireturn, 1)]
def zi_249 : zIns := [(0, .aload_n 0, 1), (1, .getfield 93, 3), (4, .bipush 24, 2), (6, .if_icmp .ne 10, 3), (9, .aload_n 0, 1), (10, .bipush (-106), 2), (12, .invokevirtual 109, 3), (15, .ireturn, 1), (16, .aload_n 0, 1), (17, .aload_n 0, 1), (18, .getfield 93, 3), (21, .putfield 210, 3), (24, .aload_n 0, 1), (25, .iload_n 1, 1), (26, .invokevirtual 216, 3), (29, .pop, 1), (30, .aload_n 0, 1), (31, .invokevirtual 271, 3), (34, .ireturn, 1)]
def zi_250 : zIns := [(0, .aload_n 0, 1), (1, .invokevirtual 213, 3), (4, .aload_n 0, 1), (5, .iload_n 2, 1), (6, .putfield 207, 3), (9, .aload_n 0, 1), (10, .getfield 90, 3), (13, .iconst 0, 1), (14, .iload_n 3, 1), (15, .iastore, 1), (16, .aload_n 0, 1), (17, .getfield 90, 3), (20, .iconst 1, 1), (21, .iload 4, 2), (23, .iastore, 1), (24, .aload_n 0, 1), (25, .getfield 90, 3), (28, .iconst 2, 1), (29, .iload 5, 2), (31, .iastore, 1), (32, .aload_n 0, 1), (33, .iload_n 1, 1), (34, .invokevirtual 277, 3), (37, .ireturn, 1)]
def zi_251 : zIns := [(0, .iload_n 0, 1), (1, .i2l, 1), (2, .lconst 0, 1), (3, .ldc2_w 184, 3), (6, .invokestatic 96, 3), (9, .ireturn, 1)]
def zi_252 : zIns := [(0, .iload_n 1, 1), (1, .invokestatic 280, 3), (4, .ifCond .eq 39, 3), (7, .iload_n 2, 1), (8, .i2l, 1), (9, .lconst 0, 1), (10, .ldc2_w 283, 3), (13, .invokestatic 96, 3), (16, .ifCond .eq 27, 3), (19, .iload_n 3, 1), (20, .i2l, 1), (21, .lconst 1, 1), (22, .ldc2_w 175, 3), (25, .invokestatic 96, 3), (28, .ifCond .eq 15, 3), (31, .aload_n 0, 1), (32, .iconst 0, 1), (33, .iload_n 2, 1), (34, .iload_n 1, 1), (35, .iload_n 3, 1), (36, .iconst (-1), 1), (37, .invokevirtual 285, 3), (40, .goto 9, 3), (43, .aload_n 0, 1), (44, .bipush (-102), 2), (46, .invokevirtual 109, 3), (49, .ireturn, 1)]
def zi_253 : zIns := [(0, .iload_n 1, 1), (1, .invokestatic 280, 3), (4, .ifCond .eq 27, 3), (7, .iload_n 2, 1), (8, .ifCond .eq 23, 3), (11, .iload_n 2, 1), (12, .sipush (-1023), 3), (15, .iand, 1), (16, .ifCond .ne 15, 3), (19, .aload_n 0, 1), (20, .iconst 1, 1), (21, .iconst (-1), 1), (22, .iload_n 1, 1), (23, .iload_n 2, 1), (24, .iconst (-1), 1), (25, .invokevirtual 285, 3), (28, .goto 9, 3), (31, .aload_n 0, 1), (32, .bipush (-102), 2), (34, .invokevirtual 109, 3), (37, .ireturn, 1)]
def zi_254 : zIns := [(0, .iload_n 1, 1), (1, .invokestatic 280, 3), (4, .ifCond .eq 15, 3), (7, .aload_n 0, 1), (8, .iconst 2, 1), (9, .iconst (-1), 1), (10, .iload_n 1, 1), (11, .iconst (-1), 1), (12, .iconst (-1), 1), (13, .invokevirtual 285, 3), (16, .goto 9, 3), (19, .aload_n 0, 1), (20, .bipush (-102), 2), (22, .invokevirtual 109, 3), (25, .ireturn, 1)]
def zi_255 : zIns := [(0, .iload_n 1, 1), (1, .invokestatic 280, 3), (4, .ifCond .eq 39, 3), (7, .iload_n 2, 1), (8, .i2l, 1), (9, .lconst 0, 1), (10, .ldc2_w 283, 3), (13, .invokestatic 96, 3), (16, .ifCond .eq 27, 3), (19, .iload_n 3, 1), (20, .invokestatic 280, 3), (23, .ifCond .eq 20, 3), (26, .iload_n 1, 1), (27, .iload_n 3, 1), (28, .if_icmp .eq 15, 3), (31, .aload_n 0, 1), (32, .iconst 3, 1), (33, .iload_n 2, 1), (34, .iload_n 1, 1), (35, .iload_n 3, 1), (36, .iconst (-1), 1), (37, .invokevirtual 285, 3), (40, .goto 9, 3), (43, .aload_n 0, 1), (44, .bipush (-102), 2), (46, .invokevirtual 109, 3), (49, .ireturn, 1)]
def zi_256 : zIns := [(0, .iload_n 1, 1), (1, .invokestatic 280, 3), (4, .ifCond .eq 42, 3), (7, .iload_n 2, 1), (8, .i2l, 1), (9, .ldc2_w 184, 3), (12, .ldc2_w 175, 3), (15, .invokestatic 96, 3), (18, .ifCond .eq 28, 3), (21, .iload_n 3, 1), (22, .i2l, 1), (23, .lconst 0, 1), (24, .iload_n 2, 1), (25, .iconst 1, 1), (26, .isub, 1), (27, .i2l, 1), (28, .invokestatic 96, 3), (31, .ifCond .eq 15, 3), (34, .aload_n 0, 1), (35, .iconst 4, 1), (36, .iconst (-1), 1), (37, .iload_n 1, 1), (38, .iload_n 2, 1), (39, .iload_n 3, 1), (40, .invokevirtual 285, 3), (43, .goto 9, 3), (46, .aload_n 0, 1), (47, .bipush (-102), 2), (49, .invokevirtual 109, 3), (52, .ireturn, 1)]
def zi_257 : zIns := [(0, .aload_n 0, 1), (1, .iload_n 1, 1), (2, .invokevirtual 113, 3), (5, .istore_n 3, 1), (6, .iload_n 3, 1), (7, .ifCond .eq 7, 3), (10, .iload_n 3, 1), (11, .goto 23, 3), (14, .iload_n 2, 1), (15, .aload_n 0, 1), (16, .getfield 16, 3), (19, .iload_n 1, 1), (20, .iaload, 1), (21, .if_icmp .le 12, 3), (24, .aload_n 0, 1), (25, .bipush (-102), 2), (27, .invokevirtual 109, 3), (30, .goto 4, 3), (33, .iconst 0, 1), (34, .ireturn, 1)]
def zi_258_0 : zIns := [(0, .iload_n 1, 1), (1, .i2l, 1), (2, .lconst 0, 1), (3, .ldc2_w 103, 3), (6, .invokestatic 96, 3), (9, .ifCond .eq 29, 3), (12, .iload_n 3, 1), (13, .i2l, 1), (14, .lconst 0, 1), (15, .ldc2_w 283, 3), (18, .invokestatic 96, 3), (21, .ifCond .eq 17, 3), (24, .iload_n 2, 1), (25, .i2l, 1), (26, .ldc2_w 184, 3), (29, .ldc2_w 283, 3), (32, .invokestatic 96, 3), (35, .ifCond .ne 10, 3), (38, .aload_n 0, 1), (39, .bipush (-102), 2), (41, .invokevirtual 109, 3), (44, .ireturn, 1), (45, .aload_n 0, 1), (46, .iload_n 1, 1), (47, .iconst 2, 1), (48, .iload_n 2, 1), (49, .imul, 1), (50, .invokevirtual 289, 3), (53, .istore 4, 2), (55, .iload 4, 2), (57, .ifCond .eq 6, 3), (60, .iload 4, 2), (62, .ireturn, 1), (63, .aload_n 0, 1), (64, .invokevirtual 213, 3), (67, .iconst 0, 1), (68, .istore 5, 2), (70, .iconst 0, 1), (71, .istore 6, 2), (73, .iload 6, 2), (75, .iload_n 2, 1), (76, .if_icmp .ge 118, 3), (79, .aload_n 0, 1), (80, .getfield 21, 3), (83, .iload_n 1, 1), (84, .aaload, 1), (85, .iconst 2, 1), (86, .iload 6, 2), (88, .imul, 1), (89, .laload, 1)]
def zi_258_1 : zIns := [(90, .lstore 7, 2), (92, .aload_n 0, 1), (93, .getfield 21, 3), (96, .iload_n 1, 1), (97, .aaload, 1), (98, .iconst 2, 1), (99, .iload 6, 2), (101, .imul, 1), (102, .iconst 1, 1), (103, .iadd, 1), (104, .laload, 1), (105, .lstore 9, 2), (107, .lload 7, 2), (109, .lconst 0, 1), (110, .ldc2_w 184, 3), (113, .invokestatic 96, 3), (116, .ifCond .eq 27, 3), (119, .iload 5, 2), (121, .lload 7, 2), (123, .l2i, 1), (124, .ishr, 1), (125, .iconst 1, 1), (126, .iand, 1), (127, .iconst 1, 1), (128, .if_icmp .eq 15, 3), (131, .lload 9, 2), (133, .lconst 1, 1), (134, .ldc2_w 175, 3), (137, .invokestatic 96, 3), (140, .ifCond .ne 10, 3), (143, .aload_n 0, 1), (144, .bipush (-105), 2), (146, .invokevirtual 109, 3), (149, .ireturn, 1), (150, .iload 5, 2), (152, .iconst 1, 1), (153, .lload 7, 2), (155, .l2i, 1), (156, .ishl, 1), (157, .ior, 1), (158, .istore 5, 2), (160, .aload_n 0, 1), (161, .getfield 90, 3), (164, .iconst 1, 1), (165, .iconst 2, 1), (166, .iload 6, 2), (168, .imul, 1), (169, .iadd, 1), (170, .lload 7, 2), (172, .l2i, 1)]
def zi_258_2 : zIns := [(173, .iastore, 1), (174, .aload_n 0, 1), (175, .getfield 90, 3), (178, .iconst 2, 1), (179, .iconst 2, 1), (180, .iload 6, 2), (182, .imul, 1), (183, .iadd, 1), (184, .lload 9, 2), (186, .l2i, 1), (187, .iastore, 1), (188, .iinc 6 1, 3), (191, .goto (-118), 3), (194, .aload_n 0, 1), (195, .getfield 90, 3), (198, .iconst 0, 1), (199, .iload_n 2, 1), (200, .iastore, 1), (201, .aload_n 0, 1), (202, .iload_n 3, 1), (203, .putfield 207, 3), (206, .aload_n 0, 1), (207, .iconst 5, 1), (208, .invokevirtual 277, 3), (211, .ireturn, 1)]
def zi_258 : zIns := zi_258_0 ++ (zi_258_1 ++ (zi_258_2))
def zi_259 : zIns := [(0, .iload_n 1, 1), (1, .i2l, 1), (2, .ldc2_w 124, 3), (5, .ldc2_w 103, 3), (8, .invokestatic 96, 3), (11, .ifCond .eq 31, 3), (14, .aload_n 0, 1), (15, .iload_n 2, 1), (16, .invokevirtual 120, 3), (19, .ifCond .eq 23, 3), (22, .aload_n 0, 1), (23, .iload_n 3, 1), (24, .invokevirtual 120, 3), (27, .ifCond .eq 15, 3), (30, .aload_n 0, 1), (31, .iload_n 1, 1), (32, .iconst (-1), 1), (33, .iload_n 2, 1), (34, .iload_n 3, 1), (35, .iconst (-1), 1), (36, .invokevirtual 285, 3), (39, .goto 9, 3), (42, .aload_n 0, 1), (43, .bipush (-102), 2), (45, .invokevirtual 109, 3), (48, .ireturn, 1)]
def zi_260 : zIns := [(0, .iload_n 1, 1), (1, .i2l, 1), (2, .ldc2_w 292, 3), (5, .ldc2_w 175, 3), (8, .invokestatic 96, 3), (11, .ifCond .eq 23, 3), (14, .aload_n 0, 1), (15, .iload_n 2, 1), (16, .invokevirtual 120, 3), (19, .ifCond .eq 15, 3), (22, .aload_n 0, 1), (23, .iload_n 1, 1), (24, .iconst (-1), 1), (25, .iload_n 2, 1), (26, .iconst (-1), 1), (27, .iconst (-1), 1), (28, .invokevirtual 285, 3), (31, .goto 9, 3), (34, .aload_n 0, 1), (35, .bipush (-102), 2), (37, .invokevirtual 109, 3), (40, .ireturn, 1)]
def zi_261 : zIns := [(0, .aload_n 0, 1), (1, .getfield 93, 3), (4, .ifCond .ne 10, 3), (7, .aload_n 0, 1), (8, .bipush (-105), 2), (10, .invokevirtual 109, 3), (13, .ireturn, 1), (14, .aload_n 0, 1), (15, .dup, 1), (16, .getfield 93, 3), (19, .iconst 1, 1), (20, .isub, 1), (21, .putfield 93, 3), (24, .iconst 0, 1), (25, .istore_n 1, 1), (26, .iload_n 1, 1), (27, .bipush 8, 2), (29, .if_icmp .ge 48, 3), (32, .aload_n 0, 1), (33, .getfield 7, 3), (36, .iload_n 1, 1), (37, .aload_n 0, 1), (38, .getfield 7, 3), (41, .iload_n 1, 1), (42, .iaload, 1), (43, .iconst 2, 1), (44, .if_icmp .ne 20, 3), (47, .aload_n 0, 1), (48, .getfield 28, 3), (51, .iload_n 1, 1), (52, .iaload, 1), (53, .aload_n 0, 1), (54, .getfield 93, 3), (57, .if_icmp .ne 7, 3), (60, .iconst 0, 1), (61, .goto 9, 3), (64, .aload_n 0, 1), (65, .getfield 7, 3), (68, .iload_n 1, 1), (69, .iaload, 1), (70, .iastore, 1), (71, .iinc 1 1, 3), (74, .goto (-48), 3), (77, .aload_n 0, 1), (78, .getfield 93, 3), (81, .ireturn, 1)]
def zi_262_0 : zIns := [(0, .aload_n 0, 1), (1, .iload_n 1, 1), (2, .invokevirtual 120, 3), (5, .ifCond .eq 15, 3), (8, .iload_n 2, 1), (9, .i2l, 1), (10, .lconst 0, 1), (11, .ldc2_w 124, 3), (14, .invokestatic 96, 3), (17, .ifCond .ne 10, 3), (20, .aload_n 0, 1), (21, .bipush (-102), 2), (23, .invokevirtual 109, 3), (26, .ireturn, 1), (27, .iload_n 2, 1), (28, .tableswitch 131 0 5 #[40, 47, 72, 110, 117, 124], 40), (68, .aload_n 0, 1), (69, .getfield 47, 3), (72, .iload_n 1, 1), (73, .iaload, 1), (74, .ireturn, 1), (75, .aload_n 0, 1), (76, .getfield 47, 3), (79, .iload_n 1, 1), (80, .iaload, 1), (81, .bipush 6, 2), (83, .if_icmp .lt 15, 3), (86, .aload_n 0, 1), (87, .getfield 53, 3), (90, .bipush 8, 2), (92, .iload_n 1, 1), (93, .imul, 1), (94, .iaload, 1), (95, .goto 4, 3), (98, .iconst (-1), 1), (99, .ireturn, 1), (100, .aload_n 0, 1), (101, .getfield 47, 3), (104, .iload_n 1, 1), (105, .iaload, 1), (106, .bipush 6, 2), (108, .if_icmp .eq 14, 3), (111, .aload_n 0, 1), (112, .getfield 47, 3), (115, .iload_n 1, 1), (116, .iaload, 1), (117, .bipush 7, 2), (119, .if_icmp .ne 17, 3), (122, .aload_n 0, 1), (123, .getfield 53, 3)]
def zi_262_1 : zIns := [(126, .bipush 8, 2), (128, .iload_n 1, 1), (129, .imul, 1), (130, .iconst 1, 1), (131, .iadd, 1), (132, .iaload, 1), (133, .goto 4, 3), (136, .iconst (-1), 1), (137, .ireturn, 1), (138, .aload_n 0, 1), (139, .getfield 72, 3), (142, .iload_n 1, 1), (143, .iaload, 1), (144, .ireturn, 1), (145, .aload_n 0, 1), (146, .getfield 50, 3), (149, .iload_n 1, 1), (150, .iaload, 1), (151, .ireturn, 1), (152, .aload_n 0, 1), (153, .getfield 75, 3), (156, .iload_n 1, 1), (157, .iaload, 1), (158, .ireturn, 1), (159, .aload_n 0, 1), (160, .getfield 78, 3), (163, .iload_n 1, 1), (164, .iaload, 1), (165, .ireturn, 1)]
def zi_262 : zIns := zi_262_0 ++ (zi_262_1)
def zi_263 : zIns := [(0, .aload_n 0, 1), (1, .iload_n 1, 1), (2, .invokevirtual 181, 3), (5, .ifCond .eq 23, 3), (8, .iload_n 2, 1), (9, .invokestatic 280, 3), (12, .ifCond .eq 16, 3), (15, .aload_n 0, 1), (16, .getfield 44, 3), (19, .iconst 3, 1), (20, .iload_n 1, 1), (21, .imul, 1), (22, .iload_n 2, 1), (23, .iadd, 1), (24, .iaload, 1), (25, .goto 9, 3), (28, .aload_n 0, 1), (29, .bipush (-102), 2), (31, .invokevirtual 109, 3), (34, .ireturn, 1)]
def zi_264 : zIns := [(0, .iload_n 0, 1), (1, .i2l, 1), (2, .lconst 0, 1), (3, .ldc2_w 294, 3), (6, .invokestatic 96, 3), (9, .ireturn, 1)]
def zi_265 : zIns := [(0, .aload_n 0, 1), (1, .iload_n 1, 1), (2, .invokevirtual 181, 3), (5, .ifCond .eq 19, 3), (8, .iload_n 2, 1), (9, .invokestatic 296, 3), (12, .ifCond .eq 12, 3), (15, .aload_n 0, 1), (16, .iload_n 1, 1), (17, .iload_n 2, 1), (18, .invokevirtual 149, 3), (21, .goto 9, 3), (24, .aload_n 0, 1), (25, .bipush (-102), 2), (27, .invokevirtual 109, 3), (30, .ireturn, 1)]
def zi_266 : zIns := [(0, .aload_n 0, 1), (1, .iload_n 1, 1), (2, .invokevirtual 120, 3), (5, .ifCond .eq 35, 3), (8, .iload_n 2, 1), (9, .invokestatic 296, 3), (12, .ifCond .eq 28, 3), (15, .iload_n 3, 1), (16, .i2l, 1), (17, .lconst 0, 1), (18, .ldc2_w 299, 3), (21, .invokestatic 96, 3), (24, .ifCond .eq 16, 3), (27, .aload_n 0, 1), (28, .iload_n 1, 1), (29, .iload_n 2, 1), (30, .iload_n 3, 1), (31, .invokestatic 301, 3), (34, .invokevirtual 152, 3), (37, .goto 9, 3), (40, .aload_n 0, 1), (41, .bipush (-102), 2), (43, .invokevirtual 109, 3), (46, .ireturn, 1)]
def zi_267 : zIns := [(0, .iconst 0, 1), (1, .istore_n 3, 1), (2, .iconst 0, 1), (3, .istore 4, 2), (5, .iload 4, 2), (7, .sipush 1000, 3), (10, .if_icmp .ge 28, 3), (13, .iload_n 3, 1), (14, .aload_n 0, 1), (15, .iload_n 1, 1), (16, .iload 4, 2), (18, .invokevirtual 152, 3), (21, .iload_n 2, 1), (22, .if_icmp .ne 7, 3), (25, .iconst 1, 1), (26, .goto 4, 3), (29, .iconst 0, 1), (30, .iadd, 1), (31, .istore_n 3, 1), (32, .iinc 4 1, 3), (35, .goto (-30), 3), (38, .iload_n 3, 1), (39, .ireturn, 1)]
def zi_268 : zIns := [(0, .aload_n 0, 1), (1, .iload_n 1, 1), (2, .invokevirtual 120, 3), (5, .ifCond .eq 24, 3), (8, .iload_n 2, 1), (9, .i2l, 1), (10, .lconst 0, 1), (11, .ldc2_w 184, 3), (14, .invokestatic 96, 3), (17, .ifCond .eq 12, 3), (20, .aload_n 0, 1), (21, .iload_n 1, 1), (22, .iload_n 2, 1), (23, .invokevirtual 130, 3), (26, .goto 9, 3), (29, .aload_n 0, 1), (30, .bipush (-102), 2), (32, .invokevirtual 109, 3), (35, .ireturn, 1)]
def zi_269 : zIns := [(0, .iconst 0, 1), (1, .istore_n 3, 1), (2, .iconst 0, 1), (3, .istore 4, 2), (5, .iload 4, 2), (7, .aload_n 0, 1), (8, .getfield 100, 3), (11, .if_icmp .ge 28, 3), (14, .iload_n 3, 1), (15, .aload_n 0, 1), (16, .iload_n 1, 1), (17, .iload 4, 2), (19, .invokevirtual 304, 3), (22, .iload_n 2, 1), (23, .if_icmp .ne 7, 3), (26, .iconst 1, 1), (27, .goto 4, 3), (30, .iconst 0, 1), (31, .iadd, 1), (32, .istore_n 3, 1), (33, .iinc 4 1, 3), (36, .goto (-31), 3), (39, .iload_n 3, 1), (40, .ireturn, 1)]
def zi_270 : zIns := [(0, .aload_n 0, 1), (1, .iload_n 1, 1), (2, .invokevirtual 120, 3), (5, .ifCond .eq 24, 3), (8, .iload_n 2, 1), (9, .i2l, 1), (10, .lconst 0, 1), (11, .ldc2_w 184, 3), (14, .invokestatic 96, 3), (17, .ifCond .eq 12, 3), (20, .aload_n 0, 1), (21, .iload_n 1, 1), (22, .iload_n 2, 1), (23, .invokevirtual 307, 3), (26, .goto 9, 3), (29, .aload_n 0, 1), (30, .bipush (-102), 2), (32, .invokevirtual 109, 3), (35, .ireturn, 1)]
def zi_271 : zIns := [(0, .iconst 0, 1), (1, .istore_n 3, 1), (2, .iconst 0, 1), (3, .istore 4, 2), (5, .iload 4, 2), (7, .sipush 1000, 3), (10, .if_icmp .ge 35, 3), (13, .iload_n 3, 1), (14, .aload_n 0, 1), (15, .iload_n 1, 1), (16, .iload 4, 2), (18, .invokevirtual 152, 3), (21, .iconst 1, 1), (22, .if_icmp .ne 14, 3), (25, .iconst 1, 1), (26, .iload 4, 2), (28, .iload_n 2, 1), (29, .invokestatic 146, 3), (32, .ishl, 1), (33, .goto 4, 3), (36, .iconst 0, 1), (37, .ior, 1), (38, .istore_n 3, 1), (39, .iinc 4 1, 3), (42, .goto (-37), 3), (45, .iload_n 3, 1), (46, .ireturn, 1)]
def zi_272 : zIns := [(0, .aload_n 0, 1), (1, .iload_n 1, 1), (2, .invokevirtual 120, 3), (5, .ifCond .eq 19, 3), (8, .iload_n 2, 1), (9, .invokestatic 280, 3), (12, .ifCond .eq 12, 3), (15, .aload_n 0, 1), (16, .iload_n 1, 1), (17, .iload_n 2, 1), (18, .invokevirtual 134, 3), (21, .goto 9, 3), (24, .aload_n 0, 1), (25, .bipush (-102), 2), (27, .invokevirtual 109, 3), (30, .ireturn, 1)]
def zi_273_0 : zIns := [(0, .aload_n 0, 1), (1, .iconst 0, 1), (2, .putfield 310, 3), (5, .iconst 0, 1), (6, .istore_n 3, 1), (7, .iconst 0, 1), (8, .istore 4, 2), (10, .iload 4, 2), (12, .sipush 1000, 3), (15, .if_icmp .ge 82, 3), (18, .aload_n 0, 1), (19, .iload_n 1, 1), (20, .iload_n 2, 1), (21, .iload 4, 2), (23, .invokestatic 301, 3), (26, .invokevirtual 152, 3), (29, .iconst 1, 1), (30, .if_icmp .ne 7, 3), (33, .iconst 1, 1), (34, .goto 4, 3), (37, .iconst 0, 1), (38, .istore 5, 2), (40, .iload 5, 2), (42, .ifCond .eq 28, 3), (45, .iload_n 3, 1), (46, .ifCond .ne 24, 3), (49, .aload_n 0, 1), (50, .getfield 81, 3), (53, .aload_n 0, 1), (54, .getfield 310, 3), (57, .iload 4, 2), (59, .iastore, 1), (60, .aload_n 0, 1), (61, .dup, 1), (62, .getfield 310, 3), (65, .iconst 1, 1), (66, .iadd, 1), (67, .putfield 310, 3), (70, .iload 5, 2), (72, .ifCond .eq 16, 3), (75, .aload_n 0, 1), (76, .getfield 84, 3), (79, .aload_n 0, 1), (80, .getfield 310, 3), (83, .iconst 1, 1), (84, .isub, 1), (85, .iload 4, 2), (87, .iastore, 1), (88, .iload 5, 2), (90, .istore_n 3, 1)]
def zi_273_1 : zIns := [(91, .iinc 4 1, 3), (94, .goto (-84), 3), (97, .return_, 1)]
def zi_273 : zIns := zi_273_0 ++ (zi_273_1)
def zi_274_0 : zIns := [(0, .iconst 0, 1), (1, .istore_n 1, 1), (2, .iconst 1, 1), (3, .istore_n 2, 1), (4, .iload_n 2, 1), (5, .iconst 1, 1), (6, .iadd, 1), (7, .aload_n 0, 1), (8, .getfield 310, 3), (11, .if_icmp .ge 48, 3), (14, .aload_n 0, 1), (15, .getfield 81, 3), (18, .iload_n 2, 1), (19, .iconst 1, 1), (20, .iadd, 1), (21, .iaload, 1), (22, .aload_n 0, 1), (23, .getfield 84, 3), (26, .iload_n 2, 1), (27, .iaload, 1), (28, .isub, 1), (29, .aload_n 0, 1), (30, .getfield 81, 3), (33, .iload_n 1, 1), (34, .iconst 1, 1), (35, .iadd, 1), (36, .iaload, 1), (37, .aload_n 0, 1), (38, .getfield 84, 3), (41, .iload_n 1, 1), (42, .iaload, 1), (43, .isub, 1), (44, .if_icmp .ge 7, 3), (47, .iload_n 2, 1), (48, .goto 4, 3), (51, .iload_n 1, 1), (52, .istore_n 1, 1), (53, .iinc 2 1, 3), (56, .goto (-52), 3), (59, .iload_n 1, 1), (60, .istore_n 2, 1), (61, .iload_n 2, 1), (62, .iconst 1, 1), (63, .iadd, 1), (64, .aload_n 0, 1), (65, .getfield 310, 3), (68, .if_icmp .ge 51, 3), (71, .aload_n 0, 1), (72, .getfield 84, 3), (75, .iload_n 2, 1)]
def zi_274_1 : zIns := [(76, .aload_n 0, 1), (77, .getfield 84, 3), (80, .iload_n 2, 1), (81, .iconst 1, 1), (82, .iadd, 1), (83, .iaload, 1), (84, .iastore, 1), (85, .aload_n 0, 1), (86, .getfield 81, 3), (89, .iload_n 2, 1), (90, .iload_n 2, 1), (91, .iload_n 1, 1), (92, .if_icmp .ne 12, 3), (95, .aload_n 0, 1), (96, .getfield 81, 3), (99, .iload_n 2, 1), (100, .iaload, 1), (101, .goto 11, 3), (104, .aload_n 0, 1), (105, .getfield 81, 3), (108, .iload_n 2, 1), (109, .iconst 1, 1), (110, .iadd, 1), (111, .iaload, 1), (112, .iastore, 1), (113, .iinc 2 1, 3), (116, .goto (-55), 3), (119, .aload_n 0, 1), (120, .dup, 1), (121, .getfield 310, 3), (124, .iconst 1, 1), (125, .isub, 1), (126, .putfield 310, 3), (129, .return_, 1)]
def zi_274 : zIns := zi_274_0 ++ (zi_274_1)
def zi_275 : zIns := [(0, .aload_n 0, 1), (1, .iload_n 1, 1), (2, .iload_n 2, 1), (3, .invokevirtual 313, 3), (6, .aload_n 0, 1), (7, .getfield 310, 3), (10, .iload_n 3, 1), (11, .if_icmp .le 10, 3), (14, .aload_n 0, 1), (15, .invokevirtual 317, 3), (18, .goto (-12), 3), (21, .return_, 1)]
def zi_276 : zIns := [(0, .sipush 1000, 3), (3, .aload_n 0, 1), (4, .getfield 81, 3), (7, .iload_n 1, 1), (8, .iaload, 1), (9, .imul, 1), (10, .aload_n 0, 1), (11, .getfield 84, 3), (14, .iload_n 1, 1), (15, .iaload, 1), (16, .iadd, 1), (17, .ireturn, 1)]
def zi_277 : zIns := [(0, .aload_n 0, 1), (1, .iload_n 1, 1), (2, .invokevirtual 120, 3), (5, .ifCond .eq 10, 3), (8, .iload_n 2, 1), (9, .invokestatic 296, 3), (12, .ifCond .ne 10, 3), (15, .aload_n 0, 1), (16, .bipush (-102), 2), (18, .invokevirtual 109, 3), (21, .ireturn, 1), (22, .aload_n 0, 1), (23, .iload_n 1, 1), (24, .iload_n 2, 1), (25, .invokevirtual 313, 3), (28, .aload_n 0, 1), (29, .getfield 310, 3), (32, .ireturn, 1)]
def zi_278 : zIns := [(0, .aload_n 0, 1), (1, .iload_n 1, 1), (2, .invokevirtual 120, 3), (5, .ifCond .eq 10, 3), (8, .iload_n 2, 1), (9, .invokestatic 296, 3), (12, .ifCond .ne 10, 3), (15, .aload_n 0, 1), (16, .bipush (-102), 2), (18, .invokevirtual 109, 3), (21, .ireturn, 1), (22, .aload_n 0, 1), (23, .iload_n 1, 1), (24, .iload_n 2, 1), (25, .invokevirtual 313, 3), (28, .iload_n 3, 1), (29, .i2l, 1), (30, .lconst 0, 1), (31, .aload_n 0, 1), (32, .getfield 310, 3), (35, .iconst 1, 1), (36, .isub, 1), (37, .i2l, 1), (38, .invokestatic 96, 3), (41, .ifCond .eq 11, 3), (44, .aload_n 0, 1), (45, .iload_n 3, 1), (46, .invokevirtual 320, 3), (49, .goto 9, 3), (52, .aload_n 0, 1), (53, .bipush (-102), 2), (55, .invokevirtual 109, 3), (58, .ireturn, 1)]
def zi_279 : zIns := [(0, .aload_n 0, 1), (1, .iload_n 1, 1), (2, .invokevirtual 120, 3), (5, .ifCond .eq 28, 3), (8, .iload_n 2, 1), (9, .invokestatic 296, 3), (12, .ifCond .eq 21, 3), (15, .iload_n 3, 1), (16, .i2l, 1), (17, .lconst 1, 1), (18, .ldc2_w 107, 3), (21, .invokestatic 96, 3), (24, .ifCond .eq 9, 3), (27, .iload 4, 2), (29, .iconst (-1), 1), (30, .if_icmp .ge 10, 3), (33, .aload_n 0, 1), (34, .bipush (-102), 2), (36, .invokevirtual 109, 3), (39, .ireturn, 1), (40, .aload_n 0, 1), (41, .iload_n 1, 1), (42, .iload_n 2, 1), (43, .iload_n 3, 1), (44, .invokevirtual 323, 3), (47, .iload 4, 2), (49, .iconst (-1), 1), (50, .if_icmp .ne 10, 3), (53, .aload_n 0, 1), (54, .getfield 310, 3), (57, .goto 27, 3), (60, .iload 4, 2), (62, .aload_n 0, 1), (63, .getfield 310, 3), (66, .if_icmp .ge 12, 3), (69, .aload_n 0, 1), (70, .iload 4, 2), (72, .invokevirtual 320, 3), (75, .goto 9, 3), (78, .aload_n 0, 1), (79, .bipush (-102), 2), (81, .invokevirtual 109, 3), (84, .ireturn, 1)]
def zi_280 : zIns := [(0, .iconst 0, 1), (1, .istore_n 2, 1), (2, .iload_n 2, 1), (3, .aload_n 0, 1), (4, .getfield 310, 3), (7, .if_icmp .ge 31, 3), (10, .aload_n 0, 1), (11, .getfield 81, 3), (14, .iload_n 2, 1), (15, .iaload, 1), (16, .iload_n 1, 1), (17, .if_icmp .gt 15, 3), (20, .iload_n 1, 1), (21, .aload_n 0, 1), (22, .getfield 84, 3), (25, .iload_n 2, 1), (26, .iaload, 1), (27, .if_icmp .gt 5, 3), (30, .iconst 1, 1), (31, .ireturn, 1), (32, .iinc 2 1, 3), (35, .goto (-33), 3), (38, .iconst 0, 1), (39, .ireturn, 1)]
def zi_281 : zIns := [(0, .iconst 0, 1), (1, .istore 4, 2), (3, .iconst 0, 1), (4, .istore 5, 2), (6, .iload 5, 2), (8, .aload_n 0, 1), (9, .getfield 100, 3), (12, .if_icmp .ge 48, 3), (15, .iload 4, 2), (17, .aload_n 0, 1), (18, .aload_n 0, 1), (19, .iload 5, 2), (21, .iload_n 2, 1), (22, .invokevirtual 149, 3), (25, .invokevirtual 327, 3), (28, .ifCond .eq 22, 3), (31, .iload_n 3, 1), (32, .ifCond .eq 14, 3), (35, .aload_n 0, 1), (36, .iload_n 1, 1), (37, .iload 5, 2), (39, .invokevirtual 304, 3), (42, .iconst 1, 1), (43, .if_icmp .eq 7, 3), (46, .iconst 1, 1), (47, .goto 4, 3), (50, .iconst 0, 1), (51, .iadd, 1), (52, .istore 4, 2), (54, .iinc 5 1, 3), (57, .goto (-51), 3), (60, .iload 4, 2), (62, .ireturn, 1)]
def zi_282 : zIns := [(0, .iconst 0, 1), (1, .istore_n 3, 1), (2, .iconst 0, 1), (3, .istore 4, 2), (5, .iload 4, 2), (7, .aload_n 0, 1), (8, .getfield 310, 3), (11, .if_icmp .ge 59, 3), (14, .aload_n 0, 1), (15, .getfield 81, 3), (18, .iload 4, 2), (20, .iaload, 1), (21, .istore 5, 2), (23, .iload 5, 2), (25, .aload_n 0, 1), (26, .getfield 84, 3), (29, .iload 4, 2), (31, .iaload, 1), (32, .if_icmp .gt 32, 3), (35, .iload_n 3, 1), (36, .aload_n 0, 1), (37, .iload_n 1, 1), (38, .iload_n 2, 1), (39, .iload 5, 2), (41, .invokestatic 301, 3), (44, .invokevirtual 152, 3), (47, .iconst 1, 1), (48, .if_icmp .ne 7, 3), (51, .iconst 0, 1), (52, .goto 4, 3), (55, .iconst 1, 1), (56, .iadd, 1), (57, .istore_n 3, 1), (58, .iinc 5 1, 3), (61, .goto (-38), 3), (64, .iinc 4 1, 3), (67, .goto (-62), 3), (70, .iload_n 3, 1), (71, .ireturn, 1)]
def zi_283 : zIns := [(0, .iconst 0, 1), (1, .istore_n 3, 1), (2, .iconst 0, 1), (3, .istore 4, 2), (5, .iload 4, 2), (7, .iload_n 1, 1), (8, .if_icmp .gt 41, 3), (11, .aload_n 0, 1), (12, .getfield 78, 3), (15, .iload_n 1, 1), (16, .iaload, 1), (17, .iload 4, 2), (19, .ishr, 1), (20, .iconst 1, 1), (21, .iand, 1), (22, .iconst 1, 1), (23, .if_icmp .ne 20, 3), (26, .aload_n 0, 1), (27, .iload 4, 2), (29, .iload_n 2, 1), (30, .invokevirtual 330, 3), (33, .ifCond .le 10, 3), (36, .iload_n 3, 1), (37, .iconst 1, 1), (38, .iload 4, 2), (40, .ishl, 1), (41, .ior, 1), (42, .istore_n 3, 1), (43, .iinc 4 1, 3), (46, .goto (-41), 3), (49, .iload_n 3, 1), (50, .ireturn, 1)]
def zi_284 : zIns := [(0, .aload_n 0, 1), (1, .getfield 37, 3), (4, .aload_n 0, 1), (5, .getfield 310, 3), (8, .imul, 1), (9, .aload_n 0, 1), (10, .iload_n 1, 1), (11, .iload_n 2, 1), (12, .iconst 0, 1), (13, .invokevirtual 333, 3), (16, .iadd, 1), (17, .ireturn, 1)]
def zi_285_0 : zIns := [(0, .aload_n 0, 1), (1, .iload_n 1, 1), (2, .invokevirtual 120, 3), (5, .ifCond .eq 35, 3), (8, .iload_n 2, 1), (9, .invokestatic 296, 3), (12, .ifCond .eq 28, 3), (15, .iload_n 3, 1), (16, .i2l, 1), (17, .lconst 1, 1), (18, .ldc2_w 107, 3), (21, .invokestatic 96, 3), (24, .ifCond .eq 16, 3), (27, .iload 4, 2), (29, .i2l, 1), (30, .lconst 0, 1), (31, .ldc2_w 105, 3), (34, .invokestatic 96, 3), (37, .ifCond .ne 10, 3), (40, .aload_n 0, 1), (41, .bipush (-102), 2), (43, .invokevirtual 109, 3), (46, .ireturn, 1), (47, .aload_n 0, 1), (48, .iload_n 1, 1), (49, .iload_n 2, 1), (50, .iload_n 3, 1), (51, .invokevirtual 323, 3), (54, .iload 4, 2), (56, .tableswitch 62 0 3 #[32, 39, 47, 55], 32), (88, .aload_n 0, 1), (89, .iload_n 1, 1), (90, .iload_n 2, 1), (91, .invokevirtual 330, 3), (94, .ireturn, 1), (95, .aload_n 0, 1), (96, .iload_n 1, 1), (97, .iload_n 2, 1), (98, .iconst 0, 1), (99, .invokevirtual 333, 3), (102, .ireturn, 1), (103, .aload_n 0, 1), (104, .iload_n 1, 1), (105, .iload_n 2, 1), (106, .iconst 1, 1), (107, .invokevirtual 333, 3), (110, .ireturn, 1), (111, .aload_n 0, 1), (112, .iload_n 1, 1), (113, .iload_n 2, 1)]
def zi_285_1 : zIns := [(114, .invokevirtual 337, 3), (117, .ireturn, 1), (118, .aload_n 0, 1), (119, .iload_n 1, 1), (120, .iload_n 2, 1), (121, .invokevirtual 340, 3), (124, .ireturn, 1)]
def zi_285 : zIns := zi_285_0 ++ (zi_285_1)
def zi_286 : zIns := [(0, .aload_n 0, 1), (1, .iload_n 1, 1), (2, .iload_n 2, 1), (3, .invokevirtual 313, 3), (6, .bipush 40, 2), (8, .istore_n 3, 1), (9, .aload_n 0, 1), (10, .iconst (-1), 1), (11, .putfield 343, 3), (14, .bipush 40, 2), (16, .istore 4, 2), (18, .iload 4, 2), (20, .iconst 1, 1), (21, .if_icmp .lt 59, 3), (24, .aload_n 0, 1), (25, .getfield 310, 3), (28, .iload 4, 2), (30, .if_icmp .le 10, 3), (33, .aload_n 0, 1), (34, .invokevirtual 317, 3), (37, .goto (-13), 3), (40, .aload_n 0, 1), (41, .iload_n 1, 1), (42, .iload_n 2, 1), (43, .invokevirtual 337, 3), (46, .istore 5, 2), (48, .aload_n 0, 1), (49, .getfield 343, 3), (52, .iconst (-1), 1), (53, .if_icmp .eq 12, 3), (56, .iload 5, 2), (58, .aload_n 0, 1), (59, .getfield 343, 3), (62, .if_icmp .gt 12, 3), (65, .aload_n 0, 1), (66, .iload 5, 2), (68, .putfield 343, 3), (71, .iload 4, 2), (73, .istore_n 3, 1), (74, .iinc 4 (-1), 3), (77, .goto (-59), 3), (80, .iload_n 3, 1), (81, .ireturn, 1)]
def zi_287 : zIns := [(0, .aload_n 0, 1), (1, .iload_n 1, 1), (2, .invokevirtual 120, 3), (5, .ifCond .eq 20, 3), (8, .iload_n 2, 1), (9, .invokestatic 296, 3), (12, .ifCond .eq 13, 3), (15, .iload_n 3, 1), (16, .i2l, 1), (17, .lconst 0, 1), (18, .lconst 1, 1), (19, .invokestatic 96, 3), (22, .ifCond .ne 10, 3), (25, .aload_n 0, 1), (26, .bipush (-102), 2), (28, .invokevirtual 109, 3), (31, .ireturn, 1), (32, .aload_n 0, 1), (33, .iload_n 1, 1), (34, .iload_n 2, 1), (35, .invokevirtual 346, 3), (38, .istore 4, 2), (40, .iload_n 3, 1), (41, .ifCond .ne 8, 3), (44, .iload 4, 2), (46, .goto 7, 3), (49, .aload_n 0, 1), (50, .getfield 343, 3), (53, .ireturn, 1)]
def zi_288 : zIns := [(0, .aload_n 0, 1), (1, .iload_n 1, 1), (2, .invokevirtual 120, 3), (5, .ifCond .eq 13, 3), (8, .iload_n 2, 1), (9, .i2l, 1), (10, .lconst 0, 1), (11, .lconst 1, 1), (12, .invokestatic 96, 3), (15, .ifCond .ne 10, 3), (18, .aload_n 0, 1), (19, .bipush (-102), 2), (21, .invokevirtual 109, 3), (24, .ireturn, 1), (25, .iconst (-1), 1), (26, .istore_n 3, 1), (27, .iconst (-1), 1), (28, .istore 4, 2), (30, .iconst 0, 1), (31, .istore 5, 2), (33, .iload 5, 2), (35, .bipush 6, 2), (37, .if_icmp .ge 40, 3), (40, .aload_n 0, 1), (41, .iload_n 1, 1), (42, .iload 5, 2), (44, .invokevirtual 346, 3), (47, .pop, 1), (48, .iload_n 3, 1), (49, .iconst (-1), 1), (50, .if_icmp .eq 12, 3), (53, .aload_n 0, 1), (54, .getfield 343, 3), (57, .iload 4, 2), (59, .if_icmp .ge 12, 3), (62, .iload 5, 2), (64, .istore_n 3, 1), (65, .aload_n 0, 1), (66, .getfield 343, 3), (69, .istore 4, 2), (71, .iinc 5 1, 3), (74, .goto (-41), 3), (77, .iload_n 2, 1), (78, .ifCond .ne 7, 3), (81, .iload_n 3, 1), (82, .goto 5, 3), (85, .iload 4, 2), (87, .ireturn, 1)]
def zi_289_0 : zIns := [(0, .aload_n 0, 1), (1, .iload_n 1, 1), (2, .invokevirtual 120, 3), (5, .ifCond .eq 21, 3), (8, .iload_n 2, 1), (9, .invokestatic 296, 3), (12, .ifCond .eq 14, 3), (15, .iload 4, 2), (17, .i2l, 1), (18, .lconst 0, 1), (19, .lconst 1, 1), (20, .invokestatic 96, 3), (23, .ifCond .ne 10, 3), (26, .aload_n 0, 1), (27, .bipush (-102), 2), (29, .invokevirtual 109, 3), (32, .ireturn, 1), (33, .iconst (-1), 1), (34, .istore 5, 2), (36, .iconst 0, 1), (37, .istore 6, 2), (39, .iload 6, 2), (41, .sipush 1000, 3), (44, .if_icmp .ge 74, 3), (47, .aload_n 0, 1), (48, .iload_n 1, 1), (49, .iload_n 2, 1), (50, .iload 6, 2), (52, .invokestatic 301, 3), (55, .invokevirtual 152, 3), (58, .iconst 1, 1), (59, .if_icmp .ne 7, 3), (62, .iconst 1, 1), (63, .goto 4, 3), (66, .iconst 0, 1), (67, .istore 7, 2), (69, .iload 4, 2), (71, .ifCond .ne 20, 3), (74, .iload 7, 2), (76, .ifCond .eq 15, 3), (79, .iload 6, 2), (81, .iload_n 3, 1), (82, .if_icmp .lt 9, 3), (85, .iload 5, 2), (87, .iconst (-1), 1), (88, .if_icmp .eq 20, 3), (91, .iload 4, 2), (93, .iconst 1, 1), (94, .if_icmp .ne 18, 3), (97, .iload 7, 2)]
def zi_289_1 : zIns := [(99, .ifCond .eq 13, 3), (102, .iload 6, 2), (104, .iload_n 3, 1), (105, .if_icmp .gt 7, 3), (108, .iload 6, 2), (110, .istore 5, 2), (112, .iinc 6 1, 3), (115, .goto (-76), 3), (118, .iload 5, 2), (120, .ireturn, 1)]
def zi_289 : zIns := zi_289_0 ++ (zi_289_1)
def zi_290_0 : zIns := [(0, .iload_n 3, 1), (1, .istore 6, 2), (3, .iload 5, 2), (5, .ifCond .ne 33, 3), (8, .iload 6, 2), (10, .iload 4, 2), (12, .if_icmp .ge 26, 3), (15, .aload_n 0, 1), (16, .iload_n 1, 1), (17, .iload_n 2, 1), (18, .iload 6, 2), (20, .invokestatic 301, 3), (23, .invokevirtual 152, 3), (26, .iconst 1, 1), (27, .if_icmp .ne 5, 3), (30, .iconst 1, 1), (31, .ireturn, 1), (32, .iinc 6 1, 3), (35, .goto (-32), 3), (38, .iconst 0, 1), (39, .istore 6, 2), (41, .iload 5, 2), (43, .ifCond .eq 52, 3), (46, .iload 6, 2), (48, .aload_n 0, 1), (49, .getfield 100, 3), (52, .if_icmp .ge 43, 3), (55, .aload_n 0, 1), (56, .iload 6, 2), (58, .iload_n 2, 1), (59, .invokevirtual 149, 3), (62, .i2l, 1), (63, .iload_n 3, 1), (64, .i2l, 1), (65, .iload 4, 2), (67, .iconst 1, 1), (68, .isub, 1), (69, .i2l, 1), (70, .invokestatic 96, 3), (73, .ifCond .eq 16, 3), (76, .aload_n 0, 1), (77, .iload_n 1, 1), (78, .iload 6, 2), (80, .invokevirtual 304, 3), (83, .iconst 1, 1), (84, .if_icmp .ne 5, 3), (87, .iconst 1, 1), (88, .ireturn, 1), (89, .iinc 6 1, 3), (92, .goto (-51), 3)]
def zi_290_1 : zIns := [(95, .iconst 0, 1), (96, .ireturn, 1)]
def zi_290 : zIns := zi_290_0 ++ (zi_290_1)
def zi_291_0 : zIns := [(0, .aload_n 0, 1), (1, .iload_n 1, 1), (2, .invokevirtual 120, 3), (5, .ifCond .eq 33, 3), (8, .iload_n 2, 1), (9, .invokestatic 296, 3), (12, .ifCond .eq 26, 3), (15, .iload_n 3, 1), (16, .i2l, 1), (17, .lconst 1, 1), (18, .ldc2_w 184, 3), (21, .invokestatic 96, 3), (24, .ifCond .eq 14, 3), (27, .iload 4, 2), (29, .i2l, 1), (30, .lconst 0, 1), (31, .lconst 1, 1), (32, .invokestatic 96, 3), (35, .ifCond .ne 10, 3), (38, .aload_n 0, 1), (39, .bipush (-102), 2), (41, .invokevirtual 109, 3), (44, .ireturn, 1), (45, .iload_n 3, 1), (46, .iconst 1, 1), (47, .if_icmp .ne 8, 3), (50, .bipush 100, 2), (52, .goto 5, 3), (55, .bipush 10, 2), (57, .istore 5, 2), (59, .iconst 0, 1), (60, .istore 6, 2), (62, .iconst 0, 1), (63, .istore 7, 2), (65, .iload 7, 2), (67, .sipush 1000, 3), (70, .if_icmp .ge 50, 3), (73, .iload 6, 2), (75, .aload_n 0, 1), (76, .iload_n 1, 1), (77, .iload_n 2, 1), (78, .iload 7, 2), (80, .iload 7, 2), (82, .iload 5, 2), (84, .iadd, 1), (85, .iload 4, 2), (87, .iconst 1, 1), (88, .if_icmp .ne 7, 3), (91, .iconst 1, 1), (92, .goto 4, 3)]
def zi_291_1 : zIns := [(95, .iconst 0, 1), (96, .invokevirtual 349, 3), (99, .ifCond .eq 7, 3), (102, .iconst 1, 1), (103, .goto 4, 3), (106, .iconst 0, 1), (107, .iadd, 1), (108, .istore 6, 2), (110, .iload 7, 2), (112, .iload 5, 2), (114, .iadd, 1), (115, .istore 7, 2), (117, .goto (-52), 3), (120, .iload 6, 2), (122, .ireturn, 1)]
def zi_291 : zIns := zi_291_0 ++ (zi_291_1)
def zi_292 : zIns := [(0, .iload_n 1, 1), (1, .ifCond .ne 7, 3), (4, .iload_n 0, 1), (5, .goto 19, 3), (8, .iload_n 1, 1), (9, .iconst 1, 1), (10, .if_icmp .ne 10, 3), (13, .iload_n 0, 1), (14, .bipush 100, 2), (16, .irem, 1), (17, .goto 7, 3), (20, .iload_n 0, 1), (21, .bipush 10, 2), (23, .irem, 1), (24, .ireturn, 1)]
def zi_293 : zIns := [(0, .aload_n 0, 1), (1, .iload_n 1, 1), (2, .iload_n 3, 1), (3, .invokevirtual 149, 3), (6, .istore 5, 2), (8, .aload_n 0, 1), (9, .iload_n 2, 1), (10, .iload_n 3, 1), (11, .invokevirtual 149, 3), (14, .istore 6, 2), (16, .iload 5, 2), (18, .iload 4, 2), (20, .invokestatic 353, 3), (23, .iload 6, 2), (25, .iload 4, 2), (27, .invokestatic 353, 3), (30, .if_icmp .eq 26, 3), (33, .iload 5, 2), (35, .iload 4, 2), (37, .invokestatic 353, 3), (40, .iload 6, 2), (42, .iload 4, 2), (44, .invokestatic 353, 3), (47, .if_icmp .ge 7, 3), (50, .iconst 1, 1), (51, .goto 4, 3), (54, .iconst 0, 1), (55, .ireturn, 1), (56, .iload 5, 2), (58, .iload 6, 2), (60, .if_icmp .eq 18, 3), (63, .iload 5, 2), (65, .iload 6, 2), (67, .if_icmp .ge 7, 3), (70, .iconst 1, 1), (71, .goto 17, 3), (74, .iconst 0, 1), (75, .goto 13, 3), (78, .iload_n 1, 1), (79, .iload_n 2, 1), (80, .if_icmp .ge 7, 3), (83, .iconst 1, 1), (84, .goto 4, 3), (87, .iconst 0, 1), (88, .ireturn, 1)]
def zi_294_0 : zIns := [(0, .aload_n 0, 1), (1, .aload_n 0, 1), (2, .iload_n 1, 1), (3, .iconst 1, 1), (4, .invokevirtual 307, 3), (7, .putfield 356, 3), (10, .iconst 0, 1), (11, .istore 4, 2), (13, .iload 4, 2), (15, .aload_n 0, 1), (16, .getfield 100, 3), (19, .if_icmp .ge 84, 3), (22, .iconst 0, 1), (23, .istore 5, 2), (25, .iconst 0, 1), (26, .istore 6, 2), (28, .iload 6, 2), (30, .aload_n 0, 1), (31, .getfield 100, 3), (34, .if_icmp .ge 43, 3), (37, .iload 5, 2), (39, .aload_n 0, 1), (40, .iload_n 1, 1), (41, .iload 6, 2), (43, .invokevirtual 304, 3), (46, .iconst 1, 1), (47, .if_icmp .ne 20, 3), (50, .aload_n 0, 1), (51, .iload 6, 2), (53, .iload 4, 2), (55, .iload_n 2, 1), (56, .iload_n 3, 1), (57, .invokevirtual 359, 3), (60, .ifCond .eq 7, 3), (63, .iconst 1, 1), (64, .goto 4, 3), (67, .iconst 0, 1), (68, .iadd, 1), (69, .istore 5, 2), (71, .iinc 6 1, 3), (74, .goto (-46), 3), (77, .aload_n 0, 1), (78, .iload_n 1, 1), (79, .iload 4, 2), (81, .invokevirtual 304, 3), (84, .iconst 1, 1), (85, .if_icmp .ne 12, 3), (88, .aload_n 0, 1), (89, .getfield 87, 3), (92, .iload 5, 2)]
def zi_294_1 : zIns := [(94, .iload 4, 2), (96, .iastore, 1), (97, .iinc 4 1, 3), (100, .goto (-87), 3), (103, .return_, 1)]
def zi_294 : zIns := zi_294_0 ++ (zi_294_1)
def zi_295 : zIns := [(0, .aload_n 0, 1), (1, .iload_n 1, 1), (2, .invokevirtual 120, 3), (5, .ifCond .eq 15, 3), (8, .iload_n 2, 1), (9, .invokestatic 296, 3), (12, .ifCond .eq 8, 3), (15, .iload_n 3, 1), (16, .iconst (-1), 1), (17, .if_icmp .ge 10, 3), (20, .aload_n 0, 1), (21, .bipush (-102), 2), (23, .invokevirtual 109, 3), (26, .ireturn, 1), (27, .aload_n 0, 1), (28, .iload_n 1, 1), (29, .iload_n 2, 1), (30, .iconst 0, 1), (31, .invokevirtual 363, 3), (34, .iload_n 3, 1), (35, .iconst (-1), 1), (36, .if_icmp .ne 10, 3), (39, .aload_n 0, 1), (40, .getfield 356, 3), (43, .goto 26, 3), (46, .iload_n 3, 1), (47, .aload_n 0, 1), (48, .getfield 356, 3), (51, .if_icmp .ge 12, 3), (54, .aload_n 0, 1), (55, .getfield 87, 3), (58, .iload_n 3, 1), (59, .iaload, 1), (60, .goto 9, 3), (63, .aload_n 0, 1), (64, .bipush (-102), 2), (66, .invokevirtual 109, 3), (69, .ireturn, 1)]
def zi_296 : zIns := [(0, .aload_n 0, 1), (1, .iload_n 1, 1), (2, .invokevirtual 120, 3), (5, .ifCond .eq 27, 3), (8, .iload_n 2, 1), (9, .invokestatic 296, 3), (12, .ifCond .eq 20, 3), (15, .iload_n 3, 1), (16, .i2l, 1), (17, .lconst 0, 1), (18, .ldc2_w 184, 3), (21, .invokestatic 96, 3), (24, .ifCond .eq 8, 3), (27, .iload 4, 2), (29, .ifCond .ge 10, 3), (32, .aload_n 0, 1), (33, .bipush (-102), 2), (35, .invokevirtual 109, 3), (38, .ireturn, 1), (39, .aload_n 0, 1), (40, .iload_n 1, 1), (41, .iload_n 2, 1), (42, .iload_n 3, 1), (43, .invokevirtual 363, 3), (46, .iload 4, 2), (48, .aload_n 0, 1), (49, .getfield 356, 3), (52, .if_icmp .ge 13, 3), (55, .aload_n 0, 1), (56, .getfield 87, 3), (59, .iload 4, 2), (61, .iaload, 1), (62, .goto 9, 3), (65, .aload_n 0, 1), (66, .bipush (-102), 2), (68, .invokevirtual 109, 3), (71, .ireturn, 1)]
def zi_297_0 : zIns := [(0, .aload_n 0, 1), (1, .iload_n 1, 1), (2, .invokevirtual 120, 3), (5, .ifCond .eq 18, 3), (8, .iload_n 2, 1), (9, .invokestatic 296, 3), (12, .ifCond .eq 11, 3), (15, .aload_n 0, 1), (16, .iload_n 3, 1), (17, .invokevirtual 181, 3), (20, .ifCond .ne 10, 3), (23, .aload_n 0, 1), (24, .bipush (-102), 2), (26, .invokevirtual 109, 3), (29, .ireturn, 1), (30, .iconst (-1), 1), (31, .istore 4, 2), (33, .iconst 0, 1), (34, .istore 5, 2), (36, .iload 5, 2), (38, .aload_n 0, 1), (39, .getfield 100, 3), (42, .if_icmp .ge 55, 3), (45, .aload_n 0, 1), (46, .iload_n 1, 1), (47, .iload 5, 2), (49, .invokevirtual 304, 3), (52, .iconst 1, 1), (53, .if_icmp .ne 38, 3), (56, .aload_n 0, 1), (57, .iload_n 3, 1), (58, .iload 5, 2), (60, .iload_n 2, 1), (61, .iconst 0, 1), (62, .invokevirtual 359, 3), (65, .ifCond .eq 26, 3), (68, .iload 4, 2), (70, .iconst (-1), 1), (71, .if_icmp .eq 16, 3), (74, .aload_n 0, 1), (75, .iload 5, 2), (77, .iload 4, 2), (79, .iload_n 2, 1), (80, .iconst 0, 1), (81, .invokevirtual 359, 3), (84, .ifCond .eq 7, 3), (87, .iload 5, 2), (89, .istore 4, 2), (91, .iinc 5 1, 3), (94, .goto (-58), 3)]
def zi_297_1 : zIns := [(97, .iload 4, 2), (99, .ireturn, 1)]
def zi_297 : zIns := zi_297_0 ++ (zi_297_1)
def zi_298 : zIns := [(0, .aload_n 0, 1), (1, .iload_n 1, 1), (2, .invokevirtual 120, 3), (5, .ifCond .eq 11, 3), (8, .aload_n 0, 1), (9, .iload_n 2, 1), (10, .invokevirtual 120, 3), (13, .ifCond .ne 10, 3), (16, .aload_n 0, 1), (17, .bipush (-102), 2), (19, .invokevirtual 109, 3), (22, .ireturn, 1), (23, .iconst 0, 1), (24, .istore_n 3, 1), (25, .iload_n 3, 1), (26, .sipush 1000, 3), (29, .if_icmp .ge 31, 3), (32, .aload_n 0, 1), (33, .iload_n 1, 1), (34, .iload_n 3, 1), (35, .invokevirtual 152, 3), (38, .iconst 1, 1), (39, .if_icmp .ne 15, 3), (42, .aload_n 0, 1), (43, .iload_n 2, 1), (44, .iload_n 3, 1), (45, .invokevirtual 152, 3), (48, .iconst 1, 1), (49, .if_icmp .eq 5, 3), (52, .iload_n 3, 1), (53, .ireturn, 1), (54, .iinc 3 1, 3), (57, .goto (-32), 3), (60, .iconst (-1), 1), (61, .ireturn, 1)]
def zi_299 : zIns := [(0, .iconst 0, 1), (1, .istore_n 3, 1), (2, .iload_n 3, 1), (3, .sipush 1000, 3), (6, .if_icmp .ge 26, 3), (9, .aload_n 0, 1), (10, .iload_n 1, 1), (11, .iload_n 3, 1), (12, .invokevirtual 152, 3), (15, .aload_n 0, 1), (16, .iload_n 2, 1), (17, .iload_n 3, 1), (18, .invokevirtual 152, 3), (21, .if_icmp .eq 5, 3), (24, .iload_n 3, 1), (25, .ireturn, 1), (26, .iinc 3 1, 3), (29, .goto (-27), 3), (32, .iconst (-1), 1), (33, .ireturn, 1)]
def zi_300 : zIns := [(0, .aload_n 0, 1), (1, .iload_n 1, 1), (2, .invokevirtual 120, 3), (5, .ifCond .eq 20, 3), (8, .aload_n 0, 1), (9, .iload_n 2, 1), (10, .invokevirtual 120, 3), (13, .ifCond .eq 12, 3), (16, .aload_n 0, 1), (17, .iload_n 1, 1), (18, .iload_n 2, 1), (19, .invokevirtual 366, 3), (22, .goto 9, 3), (25, .aload_n 0, 1), (26, .bipush (-102), 2), (28, .invokevirtual 109, 3), (31, .ireturn, 1)]
def zi_301 : zIns := [(0, .aload_n 0, 1), (1, .iload_n 1, 1), (2, .invokevirtual 120, 3), (5, .ifCond .ne 10, 3), (8, .aload_n 0, 1), (9, .bipush (-102), 2), (11, .invokevirtual 109, 3), (14, .ireturn, 1), (15, .iconst 0, 1), (16, .istore_n 2, 1), (17, .aload_n 0, 1), (18, .iload_n 2, 1), (19, .iload_n 1, 1), (20, .invokevirtual 366, 3), (23, .iconst (-1), 1), (24, .if_icmp .eq 9, 3), (27, .iinc 2 1, 3), (30, .goto (-13), 3), (33, .iload_n 2, 1), (34, .ireturn, 1)]
def zi_302_0 : zIns := [(0, .iconst 0, 1), (1, .istore 6, 2), (3, .iload 6, 2), (5, .iload 4, 2), (7, .if_icmp .ge 73, 3), (10, .aload_n 0, 1), (11, .getfield 44, 3), (14, .iconst 3, 1), (15, .aload_n 0, 1), (16, .getfield 21, 3), (19, .iload_n 3, 1), (20, .aaload, 1), (21, .iconst 2, 1), (22, .iload 6, 2), (24, .imul, 1), (25, .laload, 1), (26, .l2i, 1), (27, .imul, 1), (28, .iload_n 1, 1), (29, .iadd, 1), (30, .iaload, 1), (31, .istore 7, 2), (33, .iload 7, 2), (35, .ifCond .ne 7, 3), (38, .iconst 0, 1), (39, .goto 11, 3), (42, .iload 5, 2), (44, .iload 7, 2), (46, .iload_n 2, 1), (47, .invokestatic 155, 3), (50, .istore 8, 2), (52, .iload 8, 2), (54, .i2l, 1), (55, .aload_n 0, 1), (56, .getfield 21, 3), (59, .iload_n 3, 1), (60, .aaload, 1), (61, .iconst 2, 1), (62, .iload 6, 2), (64, .imul, 1), (65, .iconst 1, 1), (66, .iadd, 1), (67, .laload, 1), (68, .lcmp, 1), (69, .ifCond .eq 5, 3), (72, .iconst 0, 1), (73, .ireturn, 1), (74, .iinc 6 1, 3), (77, .goto (-74), 3), (80, .iconst 1, 1)]
def zi_302_1 : zIns := [(81, .ireturn, 1)]
def zi_302 : zIns := zi_302_0 ++ (zi_302_1)
def zi_303_0 : zIns := [(0, .iload_n 1, 1), (1, .invokestatic 280, 3), (4, .ifCond .eq 40, 3), (7, .iload_n 2, 1), (8, .i2l, 1), (9, .lconst 1, 1), (10, .ldc2_w 175, 3), (13, .invokestatic 96, 3), (16, .ifCond .eq 28, 3), (19, .iload_n 3, 1), (20, .i2l, 1), (21, .lconst 0, 1), (22, .ldc2_w 103, 3), (25, .invokestatic 96, 3), (28, .ifCond .eq 16, 3), (31, .iload 4, 2), (33, .i2l, 1), (34, .lconst 0, 1), (35, .ldc2_w 189, 3), (38, .invokestatic 96, 3), (41, .ifCond .ne 10, 3), (44, .aload_n 0, 1), (45, .bipush (-102), 2), (47, .invokevirtual 109, 3), (50, .ireturn, 1), (51, .aload_n 0, 1), (52, .iload_n 3, 1), (53, .iconst 2, 1), (54, .iload 4, 2), (56, .imul, 1), (57, .invokevirtual 289, 3), (60, .istore 5, 2), (62, .iload 5, 2), (64, .ifCond .eq 6, 3), (67, .iload 5, 2), (69, .ireturn, 1), (70, .iconst 0, 1), (71, .istore 6, 2), (73, .iload 6, 2), (75, .iload 4, 2), (77, .if_icmp .ge 62, 3), (80, .aload_n 0, 1), (81, .getfield 21, 3), (84, .iload_n 3, 1), (85, .aaload, 1), (86, .iconst 2, 1), (87, .iload 6, 2), (89, .imul, 1), (90, .laload, 1), (91, .lconst 0, 1)]
def zi_303_1 : zIns := [(92, .aload_n 0, 1), (93, .getfield 100, 3), (96, .iconst 1, 1), (97, .isub, 1), (98, .i2l, 1), (99, .invokestatic 96, 3), (102, .ifCond .eq 24, 3), (105, .aload_n 0, 1), (106, .getfield 21, 3), (109, .iload_n 3, 1), (110, .aaload, 1), (111, .iconst 2, 1), (112, .iload 6, 2), (114, .imul, 1), (115, .iconst 1, 1), (116, .iadd, 1), (117, .laload, 1), (118, .lconst 0, 1), (119, .lconst 1, 1), (120, .invokestatic 96, 3), (123, .ifCond .ne 10, 3), (126, .aload_n 0, 1), (127, .bipush (-105), 2), (129, .invokevirtual 109, 3), (132, .ireturn, 1), (133, .iinc 6 1, 3), (136, .goto (-63), 3), (139, .iconst 0, 1), (140, .istore 6, 2), (142, .iconst 0, 1), (143, .istore 7, 2), (145, .iload 7, 2), (147, .iconst 4, 1), (148, .if_icmp .ge 36, 3), (151, .iload 6, 2), (153, .aload_n 0, 1), (154, .iload_n 1, 1), (155, .iload_n 2, 1), (156, .iload_n 3, 1), (157, .iload 4, 2), (159, .iload 7, 2), (161, .invokevirtual 369, 3), (164, .ifCond .eq 10, 3), (167, .iconst 1, 1), (168, .iload 7, 2), (170, .ishl, 1), (171, .goto 4, 3), (174, .iconst 0, 1), (175, .ior, 1), (176, .istore 6, 2)]
def zi_303_2 : zIns := [(178, .iinc 7 1, 3), (181, .goto (-36), 3), (184, .iload 6, 2), (186, .ireturn, 1)]
def zi_303 : zIns := zi_303_0 ++ (zi_303_1 ++ (zi_303_2))
def zi_304_0 : zIns := [(0, .aload_n 0, 1), (1, .iload_n 1, 1), (2, .invokevirtual 120, 3), (5, .ifCond .eq 35, 3), (8, .iload_n 2, 1), (9, .invokestatic 296, 3), (12, .ifCond .eq 28, 3), (15, .iload_n 3, 1), (16, .i2l, 1), (17, .lconst 0, 1), (18, .ldc2_w 103, 3), (21, .invokestatic 96, 3), (24, .ifCond .eq 16, 3), (27, .iload 4, 2), (29, .i2l, 1), (30, .lconst 0, 1), (31, .ldc2_w 107, 3), (34, .invokestatic 96, 3), (37, .ifCond .ne 10, 3), (40, .aload_n 0, 1), (41, .bipush (-102), 2), (43, .invokevirtual 109, 3), (46, .ireturn, 1), (47, .aload_n 0, 1), (48, .iload_n 3, 1), (49, .iload 4, 2), (51, .invokevirtual 289, 3), (54, .istore 5, 2), (56, .iload 5, 2), (58, .ifCond .eq 6, 3), (61, .iload 5, 2), (63, .ireturn, 1), (64, .aload_n 0, 1), (65, .iload_n 1, 1), (66, .iload_n 2, 1), (67, .iconst 0, 1), (68, .invokevirtual 363, 3), (71, .iconst 0, 1), (72, .istore 6, 2), (74, .iload 6, 2), (76, .iload 4, 2), (78, .if_icmp .ge 42, 3), (81, .iload 6, 2), (83, .aload_n 0, 1), (84, .getfield 356, 3), (87, .if_icmp .ge 24, 3), (90, .aload_n 0, 1), (91, .getfield 21, 3), (94, .iload_n 3, 1), (95, .aaload, 1)]
def zi_304_1 : zIns := [(96, .iload 6, 2), (98, .laload, 1), (99, .aload_n 0, 1), (100, .getfield 87, 3), (103, .iload 6, 2), (105, .iaload, 1), (106, .i2l, 1), (107, .lcmp, 1), (108, .ifCond .eq 6, 3), (111, .iload 6, 2), (113, .ireturn, 1), (114, .iinc 6 1, 3), (117, .goto (-43), 3), (120, .aload_n 0, 1), (121, .getfield 356, 3), (124, .iload 4, 2), (126, .if_icmp .le 8, 3), (129, .iload 4, 2), (131, .goto 4, 3), (134, .iconst (-1), 1), (135, .ireturn, 1)]
def zi_304 : zIns := zi_304_0 ++ (zi_304_1)
def zi_305 : zIns := [(0, .iload_n 1, 1), (1, .invokestatic 280, 3), (4, .ifCond .eq 15, 3), (7, .iload_n 2, 1), (8, .i2l, 1), (9, .lconst 0, 1), (10, .ldc2_w 175, 3), (13, .invokestatic 96, 3), (16, .ifCond .ne 10, 3), (19, .aload_n 0, 1), (20, .bipush (-102), 2), (22, .invokevirtual 109, 3), (25, .ireturn, 1), (26, .iconst 0, 1), (27, .istore_n 3, 1), (28, .iconst 0, 1), (29, .istore 4, 2), (31, .iload 4, 2), (33, .aload_n 0, 1), (34, .getfield 100, 3), (37, .if_icmp .ge 32, 3), (40, .iload_n 3, 1), (41, .aload_n 0, 1), (42, .getfield 44, 3), (45, .iconst 3, 1), (46, .iload 4, 2), (48, .imul, 1), (49, .iload_n 1, 1), (50, .iadd, 1), (51, .iaload, 1), (52, .iload_n 2, 1), (53, .if_icmp .ne 7, 3), (56, .iconst 1, 1), (57, .goto 4, 3), (60, .iconst 0, 1), (61, .iadd, 1), (62, .istore_n 3, 1), (63, .iinc 4 1, 3), (66, .goto (-35), 3), (69, .iload_n 3, 1), (70, .ireturn, 1)]
def zi_306_0 : zIns := [(0, .aload_n 0, 1), (1, .iload_n 1, 1), (2, .invokevirtual 120, 3), (5, .ifCond .eq 31, 3), (8, .aload_n 0, 1), (9, .iload_n 2, 1), (10, .invokevirtual 181, 3), (13, .ifCond .eq 23, 3), (16, .iload_n 3, 1), (17, .invokestatic 280, 3), (20, .ifCond .eq 16, 3), (23, .iload 4, 2), (25, .i2l, 1), (26, .lconst 0, 1), (27, .ldc2_w 175, 3), (30, .invokestatic 96, 3), (33, .ifCond .ne 10, 3), (36, .aload_n 0, 1), (37, .bipush (-102), 2), (39, .invokevirtual 109, 3), (42, .ireturn, 1), (43, .aload_n 0, 1), (44, .getfield 44, 3), (47, .iconst 3, 1), (48, .iload_n 2, 1), (49, .imul, 1), (50, .iload_n 3, 1), (51, .iadd, 1), (52, .iaload, 1), (53, .istore 5, 2), (55, .aload_n 0, 1), (56, .getfield 44, 3), (59, .iconst 3, 1), (60, .iload_n 2, 1), (61, .imul, 1), (62, .iload_n 3, 1), (63, .iadd, 1), (64, .iload 4, 2), (66, .iastore, 1), (67, .aload_n 0, 1), (68, .iload_n 1, 1), (69, .iconst 1, 1), (70, .invokevirtual 307, 3), (73, .istore 6, 2), (75, .aload_n 0, 1), (76, .getfield 44, 3), (79, .iconst 3, 1), (80, .iload_n 2, 1), (81, .imul, 1), (82, .iload_n 3, 1)]
def zi_306_1 : zIns := [(83, .iadd, 1), (84, .iload 5, 2), (86, .iastore, 1), (87, .iload 6, 2), (89, .ireturn, 1)]
def zi_306 : zIns := zi_306_0 ++ (zi_306_1)
def zi_307 : zIns := [(0, .aload_n 0, 1), (1, .aload_n 0, 1), (2, .getfield 41, 3), (5, .ldc_w 373, 3), (8, .imul, 1), (9, .sipush 12345, 3), (12, .iadd, 1), (13, .putfield 41, 3), (16, .aload_n 0, 1), (17, .getfield 41, 3), (20, .bipush 16, 2), (22, .iushr, 1), (23, .iload_n 1, 1), (24, .irem, 1), (25, .ireturn, 1)]
def zi_308_0 : zIns := [(0, .iload_n 1, 1), (1, .i2l, 1), (2, .lconst 1, 1), (3, .ldc2_w 374, 3), (6, .invokestatic 96, 3), (9, .ifCond .ne 10, 3), (12, .aload_n 0, 1), (13, .bipush (-102), 2), (15, .invokevirtual 109, 3), (18, .ireturn, 1), (19, .iconst 0, 1), (20, .istore_n 2, 1), (21, .iload_n 2, 1), (22, .iload_n 1, 1), (23, .if_icmp .ge 95, 3), (26, .aload_n 0, 1), (27, .bipush 10, 2), (29, .invokevirtual 376, 3), (32, .istore_n 3, 1), (33, .aload_n 0, 1), (34, .bipush 10, 2), (36, .invokevirtual 376, 3), (39, .istore 4, 2), (41, .aload_n 0, 1), (42, .bipush 10, 2), (44, .invokevirtual 376, 3), (47, .istore 5, 2), (49, .aload_n 0, 1), (50, .getfield 100, 3), (53, .bipush 60, 2), (55, .if_icmp .ge 17, 3), (58, .aload_n 0, 1), (59, .dup, 1), (60, .getfield 100, 3), (63, .dup_x1, 1), (64, .iconst 1, 1), (65, .iadd, 1), (66, .putfield 100, 3), (69, .goto 9, 3), (72, .aload_n 0, 1), (73, .bipush 60, 2), (75, .invokevirtual 376, 3), (78, .istore 6, 2), (80, .aload_n 0, 1), (81, .iload 6, 2), (83, .iload_n 3, 1), (84, .iload 4, 2), (86, .iload 5, 2), (88, .invokevirtual 177, 3), (91, .aload_n 0, 1)]
def zi_308_1 : zIns := [(92, .bipush 8, 2), (94, .invokevirtual 376, 3), (97, .ifCond .ne 15, 3), (100, .aload_n 0, 1), (101, .aload_n 0, 1), (102, .aload_n 0, 1), (103, .getfield 100, 3), (106, .invokevirtual 376, 3), (109, .invokevirtual 186, 3), (112, .iinc 2 1, 3), (115, .goto (-94), 3), (118, .aload_n 0, 1), (119, .getfield 100, 3), (122, .ireturn, 1)]
def zi_308 : zIns := zi_308_0 ++ (zi_308_1)
def zi_309 : zIns := [(0, .aload_n 0, 1), (1, .getfield 41, 3), (4, .istore_n 2, 1), (5, .aload_n 0, 1), (6, .iload_n 1, 1), (7, .putfield 41, 3), (10, .iload_n 2, 1), (11, .ireturn, 1)]
def zi_310 : zIns := [(0, .iconst 0, 1), (1, .istore_n 2, 1), (2, .iload_n 2, 1), (3, .aload_n 1, 1), (4, .arraylength, 1), (5, .if_icmp .ge 15, 3), (8, .aload_n 1, 1), (9, .iload_n 2, 1), (10, .aload_n 0, 1), (11, .iload_n 2, 1), (12, .iaload, 1), (13, .iastore, 1), (14, .iinc 2 1, 3), (17, .goto (-15), 3), (20, .return_, 1)]
def zi_311 : zIns := [(0, .aload_n 0, 1), (1, .iconst 1, 1), (2, .putfield 379, 3), (5, .aload_n 0, 1), (6, .aload_n 0, 1), (7, .getfield 100, 3), (10, .putfield 383, 3), (13, .aload_n 0, 1), (14, .aload_n 0, 1), (15, .getfield 93, 3), (18, .putfield 386, 3), (21, .aload_n 0, 1), (22, .aload_n 0, 1), (23, .getfield 37, 3), (26, .putfield 389, 3), (29, .aload_n 0, 1), (30, .aload_n 0, 1), (31, .getfield 41, 3), (34, .putfield 392, 3), (37, .aload_n 0, 1), (38, .getfield 44, 3), (41, .aload_n 0, 1), (42, .getfield 56, 3), (45, .invokestatic 395, 3), (48, .aload_n 0, 1), (49, .getfield 47, 3), (52, .aload_n 0, 1), (53, .getfield 59, 3), (56, .invokestatic 395, 3), (59, .aload_n 0, 1), (60, .getfield 50, 3), (63, .aload_n 0, 1), (64, .getfield 62, 3), (67, .invokestatic 395, 3), (70, .aload_n 0, 1), (71, .getfield 53, 3), (74, .aload_n 0, 1), (75, .getfield 65, 3), (78, .invokestatic 395, 3), (81, .iconst 1, 1), (82, .ireturn, 1)]
def zi_312_0 : zIns := [(0, .aload_n 0, 1), (1, .getfield 379, 3), (4, .ifCond .ne 10, 3), (7, .aload_n 0, 1), (8, .bipush (-105), 2), (10, .invokevirtual 109, 3), (13, .ireturn, 1), (14, .aload_n 0, 1), (15, .aload_n 0, 1), (16, .getfield 383, 3), (19, .putfield 100, 3), (22, .aload_n 0, 1), (23, .aload_n 0, 1), (24, .getfield 386, 3), (27, .putfield 93, 3), (30, .aload_n 0, 1), (31, .aload_n 0, 1), (32, .getfield 389, 3), (35, .putfield 37, 3), (38, .aload_n 0, 1), (39, .aload_n 0, 1), (40, .getfield 392, 3), (43, .putfield 41, 3), (46, .aload_n 0, 1), (47, .getfield 56, 3), (50, .aload_n 0, 1), (51, .getfield 44, 3), (54, .invokestatic 395, 3), (57, .aload_n 0, 1), (58, .getfield 59, 3), (61, .aload_n 0, 1), (62, .getfield 47, 3), (65, .invokestatic 395, 3), (68, .aload_n 0, 1), (69, .getfield 62, 3), (72, .aload_n 0, 1), (73, .getfield 50, 3), (76, .invokestatic 395, 3), (79, .aload_n 0, 1), (80, .getfield 65, 3), (83, .aload_n 0, 1), (84, .getfield 53, 3), (87, .invokestatic 395, 3), (90, .aload_n 0, 1), (91, .iconst 0, 1), (92, .invokevirtual 274, 3), (95, .iconst 0, 1), (96, .istore_n 1, 1), (97, .iload_n 1, 1), (98, .bipush 8, 2)]
def zi_312_1 : zIns := [(100, .if_icmp .ge 48, 3), (103, .aload_n 0, 1), (104, .getfield 7, 3), (107, .iload_n 1, 1), (108, .aload_n 0, 1), (109, .getfield 7, 3), (112, .iload_n 1, 1), (113, .iaload, 1), (114, .iconst 2, 1), (115, .if_icmp .ne 20, 3), (118, .aload_n 0, 1), (119, .getfield 28, 3), (122, .iload_n 1, 1), (123, .iaload, 1), (124, .aload_n 0, 1), (125, .getfield 93, 3), (128, .if_icmp .lt 7, 3), (131, .iconst 0, 1), (132, .goto 9, 3), (135, .aload_n 0, 1), (136, .getfield 7, 3), (139, .iload_n 1, 1), (140, .iaload, 1), (141, .iastore, 1), (142, .iinc 1 1, 3), (145, .goto (-48), 3), (148, .iconst 1, 1), (149, .ireturn, 1)]
def zi_312 : zIns := zi_312_0 ++ (zi_312_1)
def zi_313 : zIns := [(0, .iconst 0, 1), (1, .istore_n 1, 1), (2, .iconst 0, 1), (3, .istore_n 2, 1), (4, .iload_n 2, 1), (5, .aload_n 0, 1), (6, .getfield 100, 3), (9, .if_icmp .ge 45, 3), (12, .iconst 0, 1), (13, .istore_n 3, 1), (14, .aload_n 0, 1), (15, .iload_n 3, 1), (16, .iconst 0, 1), (17, .invokevirtual 149, 3), (20, .aload_n 0, 1), (21, .iload_n 2, 1), (22, .iconst 0, 1), (23, .invokevirtual 149, 3), (26, .if_icmp .eq 9, 3), (29, .iinc 3 1, 3), (32, .goto (-18), 3), (35, .iload_n 1, 1), (36, .iload_n 3, 1), (37, .iload_n 2, 1), (38, .if_icmp .ne 7, 3), (41, .iconst 1, 1), (42, .goto 4, 3), (45, .iconst 0, 1), (46, .iadd, 1), (47, .istore_n 1, 1), (48, .iinc 2 1, 3), (51, .goto (-47), 3), (54, .iload_n 1, 1), (55, .ireturn, 1)]
def zi_314_0 : zIns := [(0, .iconst 0, 1), (1, .istore_n 2, 1), (2, .iload_n 1, 1), (3, .tableswitch 145 0 7 #[45, 50, 55, 60, 65, 102, 107, 112], 45), (48, .aload_n 0, 1), (49, .getfield 100, 3), (52, .ireturn, 1), (53, .aload_n 0, 1), (54, .getfield 93, 3), (57, .ireturn, 1), (58, .aload_n 0, 1), (59, .getfield 37, 3), (62, .ireturn, 1), (63, .aload_n 0, 1), (64, .invokevirtual 399, 3), (67, .ireturn, 1), (68, .iconst 0, 1), (69, .istore_n 3, 1), (70, .iload_n 3, 1), (71, .iconst 3, 1), (72, .aload_n 0, 1), (73, .getfield 100, 3), (76, .imul, 1), (77, .if_icmp .ge 26, 3), (80, .iload_n 2, 1), (81, .aload_n 0, 1), (82, .getfield 44, 3), (85, .iload_n 3, 1), (86, .iaload, 1), (87, .ifCond .ne 7, 3), (90, .iconst 1, 1), (91, .goto 4, 3), (94, .iconst 0, 1), (95, .iadd, 1), (96, .istore_n 2, 1), (97, .iinc 3 1, 3), (100, .goto (-30), 3), (103, .iload_n 2, 1), (104, .ireturn, 1), (105, .aload_n 0, 1), (106, .getfield 193, 3), (109, .ireturn, 1), (110, .aload_n 0, 1), (111, .getfield 41, 3), (114, .ireturn, 1), (115, .iconst 0, 1), (116, .istore_n 3, 1), (117, .iload_n 3, 1), (118, .bipush 8, 2), (120, .if_icmp .ge 26, 3)]
def zi_314_1 : zIns := [(123, .iload_n 2, 1), (124, .aload_n 0, 1), (125, .getfield 7, 3), (128, .iload_n 3, 1), (129, .iaload, 1), (130, .ifCond .eq 7, 3), (133, .iconst 1, 1), (134, .goto 4, 3), (137, .iconst 0, 1), (138, .iadd, 1), (139, .istore_n 2, 1), (140, .iinc 3 1, 3), (143, .goto (-26), 3), (146, .iload_n 2, 1), (147, .ireturn, 1), (148, .iload_n 1, 1), (149, .i2l, 1), (150, .ldc2_w 402, 3), (153, .ldc2_w 404, 3), (156, .invokestatic 96, 3), (159, .ifCond .eq 15, 3), (162, .aload_n 0, 1), (163, .getfield 34, 3), (166, .iload_n 1, 1), (167, .bipush 10, 2), (169, .isub, 1), (170, .iaload, 1), (171, .goto 4, 3), (174, .iconst (-1), 1), (175, .ireturn, 1)]
def zi_314 : zIns := zi_314_0 ++ (zi_314_1)
def zi_315 : zIns := [(0, .iload_n 0, 1), (1, .iload_n 0, 1), (2, .iconst 1, 1), (3, .iushr, 1), (4, .ldc_w 265, 3), (7, .iand, 1), (8, .isub, 1), (9, .istore_n 0, 1), (10, .iload_n 0, 1), (11, .ldc_w 266, 3), (14, .iand, 1), (15, .iload_n 0, 1), (16, .iconst 2, 1), (17, .iushr, 1), (18, .ldc_w 266, 3), (21, .iand, 1), (22, .iadd, 1), (23, .istore_n 0, 1), (24, .iload_n 0, 1), (25, .iload_n 0, 1), (26, .iconst 4, 1), (27, .iushr, 1), (28, .iadd, 1), (29, .ldc_w 267, 3), (32, .iand, 1), (33, .istore_n 0, 1), (34, .iload_n 0, 1), (35, .iload_n 0, 1), (36, .bipush 8, 2), (38, .iushr, 1), (39, .iadd, 1), (40, .istore_n 0, 1), (41, .iload_n 0, 1), (42, .iload_n 0, 1), (43, .bipush 16, 2), (45, .iushr, 1), (46, .iadd, 1), (47, .istore_n 0, 1), (48, .iload_n 0, 1), (49, .bipush 63, 2), (51, .iand, 1), (52, .ireturn, 1)]
def zi_316 : zIns := [(0, .iload_n 0, 1), (1, .iload_n 1, 1), (2, .if_icmp .lt 7, 3), (5, .iload_n 0, 1), (6, .goto 4, 3), (9, .iload_n 1, 1), (10, .ireturn, 1)]
def zi_317 : zIns := [(0, .iload_n 0, 1), (1, .iload_n 1, 1), (2, .if_icmp .gt 7, 3), (5, .iload_n 0, 1), (6, .goto 4, 3), (9, .iload_n 1, 1), (10, .ireturn, 1)]
def zi_318_0 : zIns := [(0, .new 7, 3), (3, .dup, 1), (4, .invokespecial 9, 3), (7, .astore_n 1, 1), (8, .new 10, 3), (11, .dup, 1), (12, .invokespecial 12, 3), (15, .astore_n 2, 1), (16, .iconst 0, 1), (17, .istore_n 3, 1), (18, .iload_n 3, 1), (19, .aload_n 0, 1), (20, .arraylength, 1), (21, .bipush 6, 2), (23, .isub, 1), (24, .if_icmp .gt 2179, 3), (27, .aload_n 0, 1), (28, .iload_n 3, 1), (29, .iaload, 1), (30, .bipush 63, 2), (32, .iand, 1), (33, .tableswitch 2164 0 53 #[231, 274, 347, 410, 444, 467, 500, 533, 576, 619, 642, 665, 688, 701, 714, 727, 770, 803, 826, 869, 912, 955, 998, 1031, 1044, 1077, 1110, 1143, 1186, 1219, 1252, 1285, 1318, 1361, 1414, 1467, 1510, 1543, 1596, 1649, 1692, 1745, 1788, 1821, 1854, 1877, 1930, 1983, 2016, 2069, 2092, 2115, 2128, 2141], 231), (264, .aload_n 1, 1), (265, .aload_n 0, 1), (266, .iload_n 3, 1), (267, .iconst 1, 1), (268, .iadd, 1), (269, .iaload, 1), (270, .aload_n 0, 1), (271, .iload_n 3, 1), (272, .iconst 2, 1), (273, .iadd, 1), (274, .iaload, 1), (275, .aload_n 0, 1), (276, .iload_n 3, 1), (277, .iconst 3, 1), (278, .iadd, 1), (279, .iaload, 1), (280, .invokevirtual 13, 3), (283, .aload_n 2, 1), (284, .aload_n 0, 1), (285, .iload_n 3, 1), (286, .iconst 1, 1), (287, .iadd, 1), (288, .iaload, 1), (289, .aload_n 0, 1), (290, .iload_n 3, 1), (291, .iconst 2, 1), (292, .iadd, 1), (293, .iaload, 1)]
def zi_318_1 : zIns := [(294, .aload_n 0, 1), (295, .iload_n 3, 1), (296, .iconst 3, 1), (297, .iadd, 1), (298, .iaload, 1), (299, .invokevirtual 17, 3), (302, .if_icmp .eq 1895, 3), (305, .iconst 0, 1), (306, .ireturn, 1), (307, .aload_n 1, 1), (308, .aload_n 0, 1), (309, .iload_n 3, 1), (310, .iconst 1, 1), (311, .iadd, 1), (312, .iaload, 1), (313, .aload_n 0, 1), (314, .iload_n 3, 1), (315, .iconst 2, 1), (316, .iadd, 1), (317, .iaload, 1), (318, .aload_n 0, 1), (319, .iload_n 3, 1), (320, .iconst 3, 1), (321, .iadd, 1), (322, .iaload, 1), (323, .i2l, 1), (324, .bipush 32, 2), (326, .lshl, 1), (327, .aload_n 0, 1), (328, .iload_n 3, 1), (329, .iconst 4, 1), (330, .iadd, 1), (331, .iaload, 1), (332, .i2l, 1), (333, .ldc2_w 18, 3), (336, .land, 1), (337, .lor, 1), (338, .invokevirtual 20, 3), (341, .aload_n 2, 1), (342, .aload_n 0, 1), (343, .iload_n 3, 1), (344, .iconst 1, 1), (345, .iadd, 1), (346, .iaload, 1), (347, .aload_n 0, 1), (348, .iload_n 3, 1), (349, .iconst 2, 1), (350, .iadd, 1), (351, .iaload, 1), (352, .aload_n 0, 1)]
def zi_318_2 : zIns := [(353, .iload_n 3, 1), (354, .iconst 3, 1), (355, .iadd, 1), (356, .iaload, 1), (357, .i2l, 1), (358, .bipush 32, 2), (360, .lshl, 1), (361, .aload_n 0, 1), (362, .iload_n 3, 1), (363, .iconst 4, 1), (364, .iadd, 1), (365, .iaload, 1), (366, .i2l, 1), (367, .ldc2_w 18, 3), (370, .land, 1), (371, .lor, 1), (372, .invokevirtual 24, 3), (375, .if_icmp .eq 1822, 3), (378, .iconst 0, 1), (379, .ireturn, 1), (380, .aload_n 1, 1), (381, .aload_n 0, 1), (382, .iload_n 3, 1), (383, .iconst 1, 1), (384, .iadd, 1), (385, .iaload, 1), (386, .aload_n 0, 1), (387, .iload_n 3, 1), (388, .iconst 2, 1), (389, .iadd, 1), (390, .iaload, 1), (391, .aload_n 0, 1), (392, .iload_n 3, 1), (393, .iconst 3, 1), (394, .iadd, 1), (395, .iaload, 1), (396, .aload_n 0, 1), (397, .iload_n 3, 1), (398, .iconst 4, 1), (399, .iadd, 1), (400, .iaload, 1), (401, .aload_n 0, 1), (402, .iload_n 3, 1), (403, .iconst 5, 1), (404, .iadd, 1), (405, .iaload, 1), (406, .invokevirtual 25, 3), (409, .aload_n 2, 1), (410, .aload_n 0, 1), (411, .iload_n 3, 1)]
def zi_318_3 : zIns := [(412, .iconst 1, 1), (413, .iadd, 1), (414, .iaload, 1), (415, .aload_n 0, 1), (416, .iload_n 3, 1), (417, .iconst 2, 1), (418, .iadd, 1), (419, .iaload, 1), (420, .aload_n 0, 1), (421, .iload_n 3, 1), (422, .iconst 3, 1), (423, .iadd, 1), (424, .iaload, 1), (425, .aload_n 0, 1), (426, .iload_n 3, 1), (427, .iconst 4, 1), (428, .iadd, 1), (429, .iaload, 1), (430, .aload_n 0, 1), (431, .iload_n 3, 1), (432, .iconst 5, 1), (433, .iadd, 1), (434, .iaload, 1), (435, .invokevirtual 29, 3), (438, .if_icmp .eq 1759, 3), (441, .iconst 0, 1), (442, .ireturn, 1), (443, .aload_n 1, 1), (444, .aload_n 0, 1), (445, .iload_n 3, 1), (446, .iconst 1, 1), (447, .iadd, 1), (448, .iaload, 1), (449, .aload_n 0, 1), (450, .iload_n 3, 1), (451, .iconst 2, 1), (452, .iadd, 1), (453, .iaload, 1), (454, .invokevirtual 30, 3), (457, .aload_n 2, 1), (458, .aload_n 0, 1), (459, .iload_n 3, 1), (460, .iconst 1, 1), (461, .iadd, 1), (462, .iaload, 1), (463, .aload_n 0, 1), (464, .iload_n 3, 1), (465, .iconst 2, 1), (466, .iadd, 1), (467, .iaload, 1)]
def zi_318_4 : zIns := [(468, .invokevirtual 34, 3), (471, .lcmp, 1), (472, .ifCond .eq 1725, 3), (475, .iconst 0, 1), (476, .ireturn, 1), (477, .aload_n 1, 1), (478, .aload_n 0, 1), (479, .iload_n 3, 1), (480, .iconst 1, 1), (481, .iadd, 1), (482, .iaload, 1), (483, .invokevirtual 35, 3), (486, .aload_n 2, 1), (487, .aload_n 0, 1), (488, .iload_n 3, 1), (489, .iconst 1, 1), (490, .iadd, 1), (491, .iaload, 1), (492, .invokevirtual 39, 3), (495, .if_icmp .eq 1702, 3), (498, .iconst 0, 1), (499, .ireturn, 1), (500, .aload_n 1, 1), (501, .aload_n 0, 1), (502, .iload_n 3, 1), (503, .iconst 1, 1), (504, .iadd, 1), (505, .iaload, 1), (506, .aload_n 0, 1), (507, .iload_n 3, 1), (508, .iconst 2, 1), (509, .iadd, 1), (510, .iaload, 1), (511, .invokevirtual 40, 3), (514, .aload_n 2, 1), (515, .aload_n 0, 1), (516, .iload_n 3, 1), (517, .iconst 1, 1), (518, .iadd, 1), (519, .iaload, 1), (520, .aload_n 0, 1), (521, .iload_n 3, 1), (522, .iconst 2, 1), (523, .iadd, 1), (524, .iaload, 1), (525, .invokevirtual 44, 3), (528, .if_icmp .eq 1669, 3), (531, .iconst 0, 1), (532, .ireturn, 1), (533, .aload_n 1, 1)]
def zi_318_5 : zIns := [(534, .aload_n 0, 1), (535, .iload_n 3, 1), (536, .iconst 1, 1), (537, .iadd, 1), (538, .iaload, 1), (539, .aload_n 0, 1), (540, .iload_n 3, 1), (541, .iconst 2, 1), (542, .iadd, 1), (543, .iaload, 1), (544, .invokevirtual 45, 3), (547, .aload_n 2, 1), (548, .aload_n 0, 1), (549, .iload_n 3, 1), (550, .iconst 1, 1), (551, .iadd, 1), (552, .iaload, 1), (553, .aload_n 0, 1), (554, .iload_n 3, 1), (555, .iconst 2, 1), (556, .iadd, 1), (557, .iaload, 1), (558, .invokevirtual 48, 3), (561, .if_icmp .eq 1636, 3), (564, .iconst 0, 1), (565, .ireturn, 1), (566, .aload_n 1, 1), (567, .aload_n 0, 1), (568, .iload_n 3, 1), (569, .iconst 1, 1), (570, .iadd, 1), (571, .iaload, 1), (572, .aload_n 0, 1), (573, .iload_n 3, 1), (574, .iconst 2, 1), (575, .iadd, 1), (576, .iaload, 1), (577, .aload_n 0, 1), (578, .iload_n 3, 1), (579, .iconst 3, 1), (580, .iadd, 1), (581, .iaload, 1), (582, .invokevirtual 49, 3), (585, .aload_n 2, 1), (586, .aload_n 0, 1), (587, .iload_n 3, 1), (588, .iconst 1, 1), (589, .iadd, 1), (590, .iaload, 1), (591, .aload_n 0, 1)]
def zi_318_6 : zIns := [(592, .iload_n 3, 1), (593, .iconst 2, 1), (594, .iadd, 1), (595, .iaload, 1), (596, .aload_n 0, 1), (597, .iload_n 3, 1), (598, .iconst 3, 1), (599, .iadd, 1), (600, .iaload, 1), (601, .invokevirtual 52, 3), (604, .if_icmp .eq 1593, 3), (607, .iconst 0, 1), (608, .ireturn, 1), (609, .aload_n 1, 1), (610, .aload_n 0, 1), (611, .iload_n 3, 1), (612, .iconst 1, 1), (613, .iadd, 1), (614, .iaload, 1), (615, .aload_n 0, 1), (616, .iload_n 3, 1), (617, .iconst 2, 1), (618, .iadd, 1), (619, .iaload, 1), (620, .aload_n 0, 1), (621, .iload_n 3, 1), (622, .iconst 3, 1), (623, .iadd, 1), (624, .iaload, 1), (625, .invokevirtual 53, 3), (628, .aload_n 2, 1), (629, .aload_n 0, 1), (630, .iload_n 3, 1), (631, .iconst 1, 1), (632, .iadd, 1), (633, .iaload, 1), (634, .aload_n 0, 1), (635, .iload_n 3, 1), (636, .iconst 2, 1), (637, .iadd, 1), (638, .iaload, 1), (639, .aload_n 0, 1), (640, .iload_n 3, 1), (641, .iconst 3, 1), (642, .iadd, 1), (643, .iaload, 1), (644, .invokevirtual 56, 3), (647, .if_icmp .eq 1550, 3), (650, .iconst 0, 1), (651, .ireturn, 1)]
def zi_318_7 : zIns := [(652, .aload_n 1, 1), (653, .aload_n 0, 1), (654, .iload_n 3, 1), (655, .iconst 1, 1), (656, .iadd, 1), (657, .iaload, 1), (658, .invokevirtual 57, 3), (661, .aload_n 2, 1), (662, .aload_n 0, 1), (663, .iload_n 3, 1), (664, .iconst 1, 1), (665, .iadd, 1), (666, .iaload, 1), (667, .invokevirtual 60, 3), (670, .if_icmp .eq 1527, 3), (673, .iconst 0, 1), (674, .ireturn, 1), (675, .aload_n 1, 1), (676, .aload_n 0, 1), (677, .iload_n 3, 1), (678, .iconst 1, 1), (679, .iadd, 1), (680, .iaload, 1), (681, .invokevirtual 61, 3), (684, .aload_n 2, 1), (685, .aload_n 0, 1), (686, .iload_n 3, 1), (687, .iconst 1, 1), (688, .iadd, 1), (689, .iaload, 1), (690, .invokevirtual 64, 3), (693, .if_icmp .eq 1504, 3), (696, .iconst 0, 1), (697, .ireturn, 1), (698, .aload_n 1, 1), (699, .aload_n 0, 1), (700, .iload_n 3, 1), (701, .iconst 1, 1), (702, .iadd, 1), (703, .iaload, 1), (704, .invokevirtual 65, 3), (707, .aload_n 2, 1), (708, .aload_n 0, 1), (709, .iload_n 3, 1), (710, .iconst 1, 1), (711, .iadd, 1), (712, .iaload, 1), (713, .invokevirtual 68, 3), (716, .if_icmp .eq 1481, 3), (719, .iconst 0, 1)]
def zi_318_8 : zIns := [(720, .ireturn, 1), (721, .aload_n 1, 1), (722, .invokevirtual 69, 3), (725, .aload_n 2, 1), (726, .invokevirtual 73, 3), (729, .if_icmp .eq 1468, 3), (732, .iconst 0, 1), (733, .ireturn, 1), (734, .aload_n 1, 1), (735, .invokevirtual 74, 3), (738, .aload_n 2, 1), (739, .invokevirtual 77, 3), (742, .if_icmp .eq 1455, 3), (745, .iconst 0, 1), (746, .ireturn, 1), (747, .aload_n 1, 1), (748, .invokevirtual 78, 3), (751, .aload_n 2, 1), (752, .invokevirtual 81, 3), (755, .if_icmp .eq 1442, 3), (758, .iconst 0, 1), (759, .ireturn, 1), (760, .aload_n 1, 1), (761, .aload_n 0, 1), (762, .iload_n 3, 1), (763, .iconst 1, 1), (764, .iadd, 1), (765, .iaload, 1), (766, .aload_n 0, 1), (767, .iload_n 3, 1), (768, .iconst 2, 1), (769, .iadd, 1), (770, .iaload, 1), (771, .aload_n 0, 1), (772, .iload_n 3, 1), (773, .iconst 3, 1), (774, .iadd, 1), (775, .iaload, 1), (776, .invokevirtual 82, 3), (779, .aload_n 2, 1), (780, .aload_n 0, 1), (781, .iload_n 3, 1), (782, .iconst 1, 1), (783, .iadd, 1), (784, .iaload, 1), (785, .aload_n 0, 1), (786, .iload_n 3, 1), (787, .iconst 2, 1), (788, .iadd, 1), (789, .iaload, 1)]
def zi_318_9 : zIns := [(790, .aload_n 0, 1), (791, .iload_n 3, 1), (792, .iconst 3, 1), (793, .iadd, 1), (794, .iaload, 1), (795, .invokevirtual 85, 3), (798, .if_icmp .eq 1399, 3), (801, .iconst 0, 1), (802, .ireturn, 1), (803, .aload_n 1, 1), (804, .aload_n 0, 1), (805, .iload_n 3, 1), (806, .iconst 1, 1), (807, .iadd, 1), (808, .iaload, 1), (809, .aload_n 0, 1), (810, .iload_n 3, 1), (811, .iconst 2, 1), (812, .iadd, 1), (813, .iaload, 1), (814, .invokevirtual 86, 3), (817, .aload_n 2, 1), (818, .aload_n 0, 1), (819, .iload_n 3, 1), (820, .iconst 1, 1), (821, .iadd, 1), (822, .iaload, 1), (823, .aload_n 0, 1), (824, .iload_n 3, 1), (825, .iconst 2, 1), (826, .iadd, 1), (827, .iaload, 1), (828, .invokevirtual 89, 3), (831, .if_icmp .eq 1366, 3), (834, .iconst 0, 1), (835, .ireturn, 1), (836, .aload_n 1, 1), (837, .aload_n 0, 1), (838, .iload_n 3, 1), (839, .iconst 1, 1), (840, .iadd, 1), (841, .iaload, 1), (842, .invokevirtual 90, 3), (845, .aload_n 2, 1), (846, .aload_n 0, 1), (847, .iload_n 3, 1), (848, .iconst 1, 1), (849, .iadd, 1), (850, .iaload, 1), (851, .invokevirtual 93, 3)]
def zi_318_10 : zIns := [(854, .if_icmp .eq 1343, 3), (857, .iconst 0, 1), (858, .ireturn, 1), (859, .aload_n 1, 1), (860, .aload_n 0, 1), (861, .iload_n 3, 1), (862, .iconst 1, 1), (863, .iadd, 1), (864, .iaload, 1), (865, .aload_n 0, 1), (866, .iload_n 3, 1), (867, .iconst 2, 1), (868, .iadd, 1), (869, .iaload, 1), (870, .aload_n 0, 1), (871, .iload_n 3, 1), (872, .iconst 3, 1), (873, .iadd, 1), (874, .iaload, 1), (875, .invokevirtual 94, 3), (878, .aload_n 2, 1), (879, .aload_n 0, 1), (880, .iload_n 3, 1), (881, .iconst 1, 1), (882, .iadd, 1), (883, .iaload, 1), (884, .aload_n 0, 1), (885, .iload_n 3, 1), (886, .iconst 2, 1), (887, .iadd, 1), (888, .iaload, 1), (889, .aload_n 0, 1), (890, .iload_n 3, 1), (891, .iconst 3, 1), (892, .iadd, 1), (893, .iaload, 1), (894, .invokevirtual 97, 3), (897, .if_icmp .eq 1300, 3), (900, .iconst 0, 1), (901, .ireturn, 1), (902, .aload_n 1, 1), (903, .aload_n 0, 1), (904, .iload_n 3, 1), (905, .iconst 1, 1), (906, .iadd, 1), (907, .iaload, 1), (908, .aload_n 0, 1), (909, .iload_n 3, 1), (910, .iconst 2, 1), (911, .iadd, 1)]
def zi_318_11 : zIns := [(912, .iaload, 1), (913, .aload_n 0, 1), (914, .iload_n 3, 1), (915, .iconst 3, 1), (916, .iadd, 1), (917, .iaload, 1), (918, .invokevirtual 98, 3), (921, .aload_n 2, 1), (922, .aload_n 0, 1), (923, .iload_n 3, 1), (924, .iconst 1, 1), (925, .iadd, 1), (926, .iaload, 1), (927, .aload_n 0, 1), (928, .iload_n 3, 1), (929, .iconst 2, 1), (930, .iadd, 1), (931, .iaload, 1), (932, .aload_n 0, 1), (933, .iload_n 3, 1), (934, .iconst 3, 1), (935, .iadd, 1), (936, .iaload, 1), (937, .invokevirtual 101, 3), (940, .if_icmp .eq 1257, 3), (943, .iconst 0, 1), (944, .ireturn, 1), (945, .aload_n 1, 1), (946, .aload_n 0, 1), (947, .iload_n 3, 1), (948, .iconst 1, 1), (949, .iadd, 1), (950, .iaload, 1), (951, .aload_n 0, 1), (952, .iload_n 3, 1), (953, .iconst 2, 1), (954, .iadd, 1), (955, .iaload, 1), (956, .aload_n 0, 1), (957, .iload_n 3, 1), (958, .iconst 3, 1), (959, .iadd, 1), (960, .iaload, 1), (961, .invokevirtual 102, 3), (964, .aload_n 2, 1), (965, .aload_n 0, 1), (966, .iload_n 3, 1), (967, .iconst 1, 1), (968, .iadd, 1), (969, .iaload, 1)]
def zi_318_12 : zIns := [(970, .aload_n 0, 1), (971, .iload_n 3, 1), (972, .iconst 2, 1), (973, .iadd, 1), (974, .iaload, 1), (975, .aload_n 0, 1), (976, .iload_n 3, 1), (977, .iconst 3, 1), (978, .iadd, 1), (979, .iaload, 1), (980, .invokevirtual 105, 3), (983, .if_icmp .eq 1214, 3), (986, .iconst 0, 1), (987, .ireturn, 1), (988, .aload_n 1, 1), (989, .aload_n 0, 1), (990, .iload_n 3, 1), (991, .iconst 1, 1), (992, .iadd, 1), (993, .iaload, 1), (994, .aload_n 0, 1), (995, .iload_n 3, 1), (996, .iconst 2, 1), (997, .iadd, 1), (998, .iaload, 1), (999, .aload_n 0, 1), (1000, .iload_n 3, 1), (1001, .iconst 3, 1), (1002, .iadd, 1), (1003, .iaload, 1), (1004, .invokevirtual 106, 3), (1007, .aload_n 2, 1), (1008, .aload_n 0, 1), (1009, .iload_n 3, 1), (1010, .iconst 1, 1), (1011, .iadd, 1), (1012, .iaload, 1), (1013, .aload_n 0, 1), (1014, .iload_n 3, 1), (1015, .iconst 2, 1), (1016, .iadd, 1), (1017, .iaload, 1), (1018, .aload_n 0, 1), (1019, .iload_n 3, 1), (1020, .iconst 3, 1), (1021, .iadd, 1), (1022, .iaload, 1), (1023, .invokevirtual 109, 3), (1026, .if_icmp .eq 1171, 3), (1029, .iconst 0, 1)]
def zi_318_13 : zIns := [(1030, .ireturn, 1), (1031, .aload_n 1, 1), (1032, .aload_n 0, 1), (1033, .iload_n 3, 1), (1034, .iconst 1, 1), (1035, .iadd, 1), (1036, .iaload, 1), (1037, .aload_n 0, 1), (1038, .iload_n 3, 1), (1039, .iconst 2, 1), (1040, .iadd, 1), (1041, .iaload, 1), (1042, .invokevirtual 110, 3), (1045, .aload_n 2, 1), (1046, .aload_n 0, 1), (1047, .iload_n 3, 1), (1048, .iconst 1, 1), (1049, .iadd, 1), (1050, .iaload, 1), (1051, .aload_n 0, 1), (1052, .iload_n 3, 1), (1053, .iconst 2, 1), (1054, .iadd, 1), (1055, .iaload, 1), (1056, .invokevirtual 113, 3), (1059, .if_icmp .eq 1138, 3), (1062, .iconst 0, 1), (1063, .ireturn, 1), (1064, .aload_n 1, 1), (1065, .invokevirtual 114, 3), (1068, .aload_n 2, 1), (1069, .invokevirtual 117, 3), (1072, .if_icmp .eq 1125, 3), (1075, .iconst 0, 1), (1076, .ireturn, 1), (1077, .aload_n 1, 1), (1078, .aload_n 0, 1), (1079, .iload_n 3, 1), (1080, .iconst 1, 1), (1081, .iadd, 1), (1082, .iaload, 1), (1083, .aload_n 0, 1), (1084, .iload_n 3, 1), (1085, .iconst 2, 1), (1086, .iadd, 1), (1087, .iaload, 1), (1088, .invokevirtual 118, 3), (1091, .aload_n 2, 1), (1092, .aload_n 0, 1), (1093, .iload_n 3, 1)]
def zi_318_14 : zIns := [(1094, .iconst 1, 1), (1095, .iadd, 1), (1096, .iaload, 1), (1097, .aload_n 0, 1), (1098, .iload_n 3, 1), (1099, .iconst 2, 1), (1100, .iadd, 1), (1101, .iaload, 1), (1102, .invokevirtual 121, 3), (1105, .if_icmp .eq 1092, 3), (1108, .iconst 0, 1), (1109, .ireturn, 1), (1110, .aload_n 1, 1), (1111, .aload_n 0, 1), (1112, .iload_n 3, 1), (1113, .iconst 1, 1), (1114, .iadd, 1), (1115, .iaload, 1), (1116, .aload_n 0, 1), (1117, .iload_n 3, 1), (1118, .iconst 2, 1), (1119, .iadd, 1), (1120, .iaload, 1), (1121, .invokevirtual 122, 3), (1124, .aload_n 2, 1), (1125, .aload_n 0, 1), (1126, .iload_n 3, 1), (1127, .iconst 1, 1), (1128, .iadd, 1), (1129, .iaload, 1), (1130, .aload_n 0, 1), (1131, .iload_n 3, 1), (1132, .iconst 2, 1), (1133, .iadd, 1), (1134, .iaload, 1), (1135, .invokevirtual 125, 3), (1138, .if_icmp .eq 1059, 3), (1141, .iconst 0, 1), (1142, .ireturn, 1), (1143, .aload_n 1, 1), (1144, .aload_n 0, 1), (1145, .iload_n 3, 1), (1146, .iconst 1, 1), (1147, .iadd, 1), (1148, .iaload, 1), (1149, .aload_n 0, 1), (1150, .iload_n 3, 1), (1151, .iconst 2, 1), (1152, .iadd, 1), (1153, .iaload, 1)]
def zi_318_15 : zIns := [(1154, .invokevirtual 126, 3), (1157, .aload_n 2, 1), (1158, .aload_n 0, 1), (1159, .iload_n 3, 1), (1160, .iconst 1, 1), (1161, .iadd, 1), (1162, .iaload, 1), (1163, .aload_n 0, 1), (1164, .iload_n 3, 1), (1165, .iconst 2, 1), (1166, .iadd, 1), (1167, .iaload, 1), (1168, .invokevirtual 129, 3), (1171, .if_icmp .eq 1026, 3), (1174, .iconst 0, 1), (1175, .ireturn, 1), (1176, .aload_n 1, 1), (1177, .aload_n 0, 1), (1178, .iload_n 3, 1), (1179, .iconst 1, 1), (1180, .iadd, 1), (1181, .iaload, 1), (1182, .aload_n 0, 1), (1183, .iload_n 3, 1), (1184, .iconst 2, 1), (1185, .iadd, 1), (1186, .iaload, 1), (1187, .aload_n 0, 1), (1188, .iload_n 3, 1), (1189, .iconst 3, 1), (1190, .iadd, 1), (1191, .iaload, 1), (1192, .invokevirtual 130, 3), (1195, .aload_n 2, 1), (1196, .aload_n 0, 1), (1197, .iload_n 3, 1), (1198, .iconst 1, 1), (1199, .iadd, 1), (1200, .iaload, 1), (1201, .aload_n 0, 1), (1202, .iload_n 3, 1), (1203, .iconst 2, 1), (1204, .iadd, 1), (1205, .iaload, 1), (1206, .aload_n 0, 1), (1207, .iload_n 3, 1), (1208, .iconst 3, 1), (1209, .iadd, 1), (1210, .iaload, 1), (1211, .invokevirtual 133, 3)]
def zi_318_16 : zIns := [(1214, .if_icmp .eq 983, 3), (1217, .iconst 0, 1), (1218, .ireturn, 1), (1219, .aload_n 1, 1), (1220, .aload_n 0, 1), (1221, .iload_n 3, 1), (1222, .iconst 1, 1), (1223, .iadd, 1), (1224, .iaload, 1), (1225, .aload_n 0, 1), (1226, .iload_n 3, 1), (1227, .iconst 2, 1), (1228, .iadd, 1), (1229, .iaload, 1), (1230, .invokevirtual 134, 3), (1233, .aload_n 2, 1), (1234, .aload_n 0, 1), (1235, .iload_n 3, 1), (1236, .iconst 1, 1), (1237, .iadd, 1), (1238, .iaload, 1), (1239, .aload_n 0, 1), (1240, .iload_n 3, 1), (1241, .iconst 2, 1), (1242, .iadd, 1), (1243, .iaload, 1), (1244, .invokevirtual 137, 3), (1247, .if_icmp .eq 950, 3), (1250, .iconst 0, 1), (1251, .ireturn, 1), (1252, .aload_n 1, 1), (1253, .aload_n 0, 1), (1254, .iload_n 3, 1), (1255, .iconst 1, 1), (1256, .iadd, 1), (1257, .iaload, 1), (1258, .aload_n 0, 1), (1259, .iload_n 3, 1), (1260, .iconst 2, 1), (1261, .iadd, 1), (1262, .iaload, 1), (1263, .invokevirtual 138, 3), (1266, .aload_n 2, 1), (1267, .aload_n 0, 1), (1268, .iload_n 3, 1), (1269, .iconst 1, 1), (1270, .iadd, 1), (1271, .iaload, 1), (1272, .aload_n 0, 1), (1273, .iload_n 3, 1)]
def zi_318_17 : zIns := [(1274, .iconst 2, 1), (1275, .iadd, 1), (1276, .iaload, 1), (1277, .invokevirtual 141, 3), (1280, .if_icmp .eq 917, 3), (1283, .iconst 0, 1), (1284, .ireturn, 1), (1285, .aload_n 1, 1), (1286, .aload_n 0, 1), (1287, .iload_n 3, 1), (1288, .iconst 1, 1), (1289, .iadd, 1), (1290, .iaload, 1), (1291, .aload_n 0, 1), (1292, .iload_n 3, 1), (1293, .iconst 2, 1), (1294, .iadd, 1), (1295, .iaload, 1), (1296, .invokevirtual 142, 3), (1299, .aload_n 2, 1), (1300, .aload_n 0, 1), (1301, .iload_n 3, 1), (1302, .iconst 1, 1), (1303, .iadd, 1), (1304, .iaload, 1), (1305, .aload_n 0, 1), (1306, .iload_n 3, 1), (1307, .iconst 2, 1), (1308, .iadd, 1), (1309, .iaload, 1), (1310, .invokevirtual 145, 3), (1313, .if_icmp .eq 884, 3), (1316, .iconst 0, 1), (1317, .ireturn, 1), (1318, .aload_n 1, 1), (1319, .aload_n 0, 1), (1320, .iload_n 3, 1), (1321, .iconst 1, 1), (1322, .iadd, 1), (1323, .iaload, 1), (1324, .aload_n 0, 1), (1325, .iload_n 3, 1), (1326, .iconst 2, 1), (1327, .iadd, 1), (1328, .iaload, 1), (1329, .invokevirtual 146, 3), (1332, .aload_n 2, 1), (1333, .aload_n 0, 1), (1334, .iload_n 3, 1), (1335, .iconst 1, 1)]
def zi_318_18 : zIns := [(1336, .iadd, 1), (1337, .iaload, 1), (1338, .aload_n 0, 1), (1339, .iload_n 3, 1), (1340, .iconst 2, 1), (1341, .iadd, 1), (1342, .iaload, 1), (1343, .invokevirtual 149, 3), (1346, .if_icmp .eq 851, 3), (1349, .iconst 0, 1), (1350, .ireturn, 1), (1351, .aload_n 1, 1), (1352, .aload_n 0, 1), (1353, .iload_n 3, 1), (1354, .iconst 1, 1), (1355, .iadd, 1), (1356, .iaload, 1), (1357, .aload_n 0, 1), (1358, .iload_n 3, 1), (1359, .iconst 2, 1), (1360, .iadd, 1), (1361, .iaload, 1), (1362, .aload_n 0, 1), (1363, .iload_n 3, 1), (1364, .iconst 3, 1), (1365, .iadd, 1), (1366, .iaload, 1), (1367, .invokevirtual 150, 3), (1370, .aload_n 2, 1), (1371, .aload_n 0, 1), (1372, .iload_n 3, 1), (1373, .iconst 1, 1), (1374, .iadd, 1), (1375, .iaload, 1), (1376, .aload_n 0, 1), (1377, .iload_n 3, 1), (1378, .iconst 2, 1), (1379, .iadd, 1), (1380, .iaload, 1), (1381, .aload_n 0, 1), (1382, .iload_n 3, 1), (1383, .iconst 3, 1), (1384, .iadd, 1), (1385, .iaload, 1), (1386, .invokevirtual 153, 3), (1389, .if_icmp .eq 808, 3), (1392, .iconst 0, 1), (1393, .ireturn, 1), (1394, .aload_n 1, 1), (1395, .aload_n 0, 1)]
def zi_318_19 : zIns := [(1396, .iload_n 3, 1), (1397, .iconst 1, 1), (1398, .iadd, 1), (1399, .iaload, 1), (1400, .aload_n 0, 1), (1401, .iload_n 3, 1), (1402, .iconst 2, 1), (1403, .iadd, 1), (1404, .iaload, 1), (1405, .aload_n 0, 1), (1406, .iload_n 3, 1), (1407, .iconst 3, 1), (1408, .iadd, 1), (1409, .iaload, 1), (1410, .aload_n 0, 1), (1411, .iload_n 3, 1), (1412, .iconst 4, 1), (1413, .iadd, 1), (1414, .iaload, 1), (1415, .invokevirtual 154, 3), (1418, .aload_n 2, 1), (1419, .aload_n 0, 1), (1420, .iload_n 3, 1), (1421, .iconst 1, 1), (1422, .iadd, 1), (1423, .iaload, 1), (1424, .aload_n 0, 1), (1425, .iload_n 3, 1), (1426, .iconst 2, 1), (1427, .iadd, 1), (1428, .iaload, 1), (1429, .aload_n 0, 1), (1430, .iload_n 3, 1), (1431, .iconst 3, 1), (1432, .iadd, 1), (1433, .iaload, 1), (1434, .aload_n 0, 1), (1435, .iload_n 3, 1), (1436, .iconst 4, 1), (1437, .iadd, 1), (1438, .iaload, 1), (1439, .invokevirtual 158, 3), (1442, .if_icmp .eq 755, 3), (1445, .iconst 0, 1), (1446, .ireturn, 1), (1447, .aload_n 1, 1), (1448, .aload_n 0, 1), (1449, .iload_n 3, 1), (1450, .iconst 1, 1), (1451, .iadd, 1)]
def zi_318_20 : zIns := [(1452, .iaload, 1), (1453, .aload_n 0, 1), (1454, .iload_n 3, 1), (1455, .iconst 2, 1), (1456, .iadd, 1), (1457, .iaload, 1), (1458, .aload_n 0, 1), (1459, .iload_n 3, 1), (1460, .iconst 3, 1), (1461, .iadd, 1), (1462, .iaload, 1), (1463, .aload_n 0, 1), (1464, .iload_n 3, 1), (1465, .iconst 4, 1), (1466, .iadd, 1), (1467, .iaload, 1), (1468, .invokevirtual 159, 3), (1471, .aload_n 2, 1), (1472, .aload_n 0, 1), (1473, .iload_n 3, 1), (1474, .iconst 1, 1), (1475, .iadd, 1), (1476, .iaload, 1), (1477, .aload_n 0, 1), (1478, .iload_n 3, 1), (1479, .iconst 2, 1), (1480, .iadd, 1), (1481, .iaload, 1), (1482, .aload_n 0, 1), (1483, .iload_n 3, 1), (1484, .iconst 3, 1), (1485, .iadd, 1), (1486, .iaload, 1), (1487, .aload_n 0, 1), (1488, .iload_n 3, 1), (1489, .iconst 4, 1), (1490, .iadd, 1), (1491, .iaload, 1), (1492, .invokevirtual 162, 3), (1495, .if_icmp .eq 702, 3), (1498, .iconst 0, 1), (1499, .ireturn, 1), (1500, .aload_n 1, 1), (1501, .aload_n 0, 1), (1502, .iload_n 3, 1), (1503, .iconst 1, 1), (1504, .iadd, 1), (1505, .iaload, 1), (1506, .aload_n 0, 1), (1507, .iload_n 3, 1)]
def zi_318_21 : zIns := [(1508, .iconst 2, 1), (1509, .iadd, 1), (1510, .iaload, 1), (1511, .aload_n 0, 1), (1512, .iload_n 3, 1), (1513, .iconst 3, 1), (1514, .iadd, 1), (1515, .iaload, 1), (1516, .invokevirtual 163, 3), (1519, .aload_n 2, 1), (1520, .aload_n 0, 1), (1521, .iload_n 3, 1), (1522, .iconst 1, 1), (1523, .iadd, 1), (1524, .iaload, 1), (1525, .aload_n 0, 1), (1526, .iload_n 3, 1), (1527, .iconst 2, 1), (1528, .iadd, 1), (1529, .iaload, 1), (1530, .aload_n 0, 1), (1531, .iload_n 3, 1), (1532, .iconst 3, 1), (1533, .iadd, 1), (1534, .iaload, 1), (1535, .invokevirtual 166, 3), (1538, .if_icmp .eq 659, 3), (1541, .iconst 0, 1), (1542, .ireturn, 1), (1543, .aload_n 1, 1), (1544, .aload_n 0, 1), (1545, .iload_n 3, 1), (1546, .iconst 1, 1), (1547, .iadd, 1), (1548, .iaload, 1), (1549, .aload_n 0, 1), (1550, .iload_n 3, 1), (1551, .iconst 2, 1), (1552, .iadd, 1), (1553, .iaload, 1), (1554, .invokevirtual 167, 3), (1557, .aload_n 2, 1), (1558, .aload_n 0, 1), (1559, .iload_n 3, 1), (1560, .iconst 1, 1), (1561, .iadd, 1), (1562, .iaload, 1), (1563, .aload_n 0, 1), (1564, .iload_n 3, 1), (1565, .iconst 2, 1)]
def zi_318_22 : zIns := [(1566, .iadd, 1), (1567, .iaload, 1), (1568, .invokevirtual 170, 3), (1571, .if_icmp .eq 626, 3), (1574, .iconst 0, 1), (1575, .ireturn, 1), (1576, .aload_n 1, 1), (1577, .aload_n 0, 1), (1578, .iload_n 3, 1), (1579, .iconst 1, 1), (1580, .iadd, 1), (1581, .iaload, 1), (1582, .aload_n 0, 1), (1583, .iload_n 3, 1), (1584, .iconst 2, 1), (1585, .iadd, 1), (1586, .iaload, 1), (1587, .aload_n 0, 1), (1588, .iload_n 3, 1), (1589, .iconst 3, 1), (1590, .iadd, 1), (1591, .iaload, 1), (1592, .aload_n 0, 1), (1593, .iload_n 3, 1), (1594, .iconst 4, 1), (1595, .iadd, 1), (1596, .iaload, 1), (1597, .invokevirtual 171, 3), (1600, .aload_n 2, 1), (1601, .aload_n 0, 1), (1602, .iload_n 3, 1), (1603, .iconst 1, 1), (1604, .iadd, 1), (1605, .iaload, 1), (1606, .aload_n 0, 1), (1607, .iload_n 3, 1), (1608, .iconst 2, 1), (1609, .iadd, 1), (1610, .iaload, 1), (1611, .aload_n 0, 1), (1612, .iload_n 3, 1), (1613, .iconst 3, 1), (1614, .iadd, 1), (1615, .iaload, 1), (1616, .aload_n 0, 1), (1617, .iload_n 3, 1), (1618, .iconst 4, 1), (1619, .iadd, 1), (1620, .iaload, 1), (1621, .invokevirtual 174, 3)]
def zi_318_23 : zIns := [(1624, .if_icmp .eq 573, 3), (1627, .iconst 0, 1), (1628, .ireturn, 1), (1629, .aload_n 1, 1), (1630, .aload_n 0, 1), (1631, .iload_n 3, 1), (1632, .iconst 1, 1), (1633, .iadd, 1), (1634, .iaload, 1), (1635, .aload_n 0, 1), (1636, .iload_n 3, 1), (1637, .iconst 2, 1), (1638, .iadd, 1), (1639, .iaload, 1), (1640, .aload_n 0, 1), (1641, .iload_n 3, 1), (1642, .iconst 3, 1), (1643, .iadd, 1), (1644, .iaload, 1), (1645, .aload_n 0, 1), (1646, .iload_n 3, 1), (1647, .iconst 4, 1), (1648, .iadd, 1), (1649, .iaload, 1), (1650, .invokevirtual 175, 3), (1653, .aload_n 2, 1), (1654, .aload_n 0, 1), (1655, .iload_n 3, 1), (1656, .iconst 1, 1), (1657, .iadd, 1), (1658, .iaload, 1), (1659, .aload_n 0, 1), (1660, .iload_n 3, 1), (1661, .iconst 2, 1), (1662, .iadd, 1), (1663, .iaload, 1), (1664, .aload_n 0, 1), (1665, .iload_n 3, 1), (1666, .iconst 3, 1), (1667, .iadd, 1), (1668, .iaload, 1), (1669, .aload_n 0, 1), (1670, .iload_n 3, 1), (1671, .iconst 4, 1), (1672, .iadd, 1), (1673, .iaload, 1), (1674, .invokevirtual 178, 3), (1677, .if_icmp .eq 520, 3), (1680, .iconst 0, 1), (1681, .ireturn, 1)]
def zi_318_24 : zIns := [(1682, .aload_n 1, 1), (1683, .aload_n 0, 1), (1684, .iload_n 3, 1), (1685, .iconst 1, 1), (1686, .iadd, 1), (1687, .iaload, 1), (1688, .aload_n 0, 1), (1689, .iload_n 3, 1), (1690, .iconst 2, 1), (1691, .iadd, 1), (1692, .iaload, 1), (1693, .aload_n 0, 1), (1694, .iload_n 3, 1), (1695, .iconst 3, 1), (1696, .iadd, 1), (1697, .iaload, 1), (1698, .invokevirtual 179, 3), (1701, .aload_n 2, 1), (1702, .aload_n 0, 1), (1703, .iload_n 3, 1), (1704, .iconst 1, 1), (1705, .iadd, 1), (1706, .iaload, 1), (1707, .aload_n 0, 1), (1708, .iload_n 3, 1), (1709, .iconst 2, 1), (1710, .iadd, 1), (1711, .iaload, 1), (1712, .aload_n 0, 1), (1713, .iload_n 3, 1), (1714, .iconst 3, 1), (1715, .iadd, 1), (1716, .iaload, 1), (1717, .invokevirtual 182, 3), (1720, .if_icmp .eq 477, 3), (1723, .iconst 0, 1), (1724, .ireturn, 1), (1725, .aload_n 1, 1), (1726, .aload_n 0, 1), (1727, .iload_n 3, 1), (1728, .iconst 1, 1), (1729, .iadd, 1), (1730, .iaload, 1), (1731, .aload_n 0, 1), (1732, .iload_n 3, 1), (1733, .iconst 2, 1), (1734, .iadd, 1), (1735, .iaload, 1), (1736, .aload_n 0, 1), (1737, .iload_n 3, 1)]
def zi_318_25 : zIns := [(1738, .iconst 3, 1), (1739, .iadd, 1), (1740, .iaload, 1), (1741, .aload_n 0, 1), (1742, .iload_n 3, 1), (1743, .iconst 4, 1), (1744, .iadd, 1), (1745, .iaload, 1), (1746, .invokevirtual 183, 3), (1749, .aload_n 2, 1), (1750, .aload_n 0, 1), (1751, .iload_n 3, 1), (1752, .iconst 1, 1), (1753, .iadd, 1), (1754, .iaload, 1), (1755, .aload_n 0, 1), (1756, .iload_n 3, 1), (1757, .iconst 2, 1), (1758, .iadd, 1), (1759, .iaload, 1), (1760, .aload_n 0, 1), (1761, .iload_n 3, 1), (1762, .iconst 3, 1), (1763, .iadd, 1), (1764, .iaload, 1), (1765, .aload_n 0, 1), (1766, .iload_n 3, 1), (1767, .iconst 4, 1), (1768, .iadd, 1), (1769, .iaload, 1), (1770, .invokevirtual 186, 3), (1773, .if_icmp .eq 424, 3), (1776, .iconst 0, 1), (1777, .ireturn, 1), (1778, .aload_n 1, 1), (1779, .aload_n 0, 1), (1780, .iload_n 3, 1), (1781, .iconst 1, 1), (1782, .iadd, 1), (1783, .iaload, 1), (1784, .aload_n 0, 1), (1785, .iload_n 3, 1), (1786, .iconst 2, 1), (1787, .iadd, 1), (1788, .iaload, 1), (1789, .aload_n 0, 1), (1790, .iload_n 3, 1), (1791, .iconst 3, 1), (1792, .iadd, 1), (1793, .iaload, 1)]
def zi_318_26 : zIns := [(1794, .invokevirtual 187, 3), (1797, .aload_n 2, 1), (1798, .aload_n 0, 1), (1799, .iload_n 3, 1), (1800, .iconst 1, 1), (1801, .iadd, 1), (1802, .iaload, 1), (1803, .aload_n 0, 1), (1804, .iload_n 3, 1), (1805, .iconst 2, 1), (1806, .iadd, 1), (1807, .iaload, 1), (1808, .aload_n 0, 1), (1809, .iload_n 3, 1), (1810, .iconst 3, 1), (1811, .iadd, 1), (1812, .iaload, 1), (1813, .invokevirtual 190, 3), (1816, .if_icmp .eq 381, 3), (1819, .iconst 0, 1), (1820, .ireturn, 1), (1821, .aload_n 1, 1), (1822, .aload_n 0, 1), (1823, .iload_n 3, 1), (1824, .iconst 1, 1), (1825, .iadd, 1), (1826, .iaload, 1), (1827, .aload_n 0, 1), (1828, .iload_n 3, 1), (1829, .iconst 2, 1), (1830, .iadd, 1), (1831, .iaload, 1), (1832, .invokevirtual 191, 3), (1835, .aload_n 2, 1), (1836, .aload_n 0, 1), (1837, .iload_n 3, 1), (1838, .iconst 1, 1), (1839, .iadd, 1), (1840, .iaload, 1), (1841, .aload_n 0, 1), (1842, .iload_n 3, 1), (1843, .iconst 2, 1), (1844, .iadd, 1), (1845, .iaload, 1), (1846, .invokevirtual 194, 3), (1849, .if_icmp .eq 348, 3), (1852, .iconst 0, 1), (1853, .ireturn, 1), (1854, .aload_n 1, 1), (1855, .aload_n 0, 1)]
def zi_318_27 : zIns := [(1856, .iload_n 3, 1), (1857, .iconst 1, 1), (1858, .iadd, 1), (1859, .iaload, 1), (1860, .aload_n 0, 1), (1861, .iload_n 3, 1), (1862, .iconst 2, 1), (1863, .iadd, 1), (1864, .iaload, 1), (1865, .invokevirtual 195, 3), (1868, .aload_n 2, 1), (1869, .aload_n 0, 1), (1870, .iload_n 3, 1), (1871, .iconst 1, 1), (1872, .iadd, 1), (1873, .iaload, 1), (1874, .aload_n 0, 1), (1875, .iload_n 3, 1), (1876, .iconst 2, 1), (1877, .iadd, 1), (1878, .iaload, 1), (1879, .invokevirtual 198, 3), (1882, .if_icmp .eq 315, 3), (1885, .iconst 0, 1), (1886, .ireturn, 1), (1887, .aload_n 1, 1), (1888, .aload_n 0, 1), (1889, .iload_n 3, 1), (1890, .iconst 1, 1), (1891, .iadd, 1), (1892, .iaload, 1), (1893, .invokevirtual 199, 3), (1896, .aload_n 2, 1), (1897, .aload_n 0, 1), (1898, .iload_n 3, 1), (1899, .iconst 1, 1), (1900, .iadd, 1), (1901, .iaload, 1), (1902, .invokevirtual 202, 3), (1905, .if_icmp .eq 292, 3), (1908, .iconst 0, 1), (1909, .ireturn, 1), (1910, .aload_n 1, 1), (1911, .aload_n 0, 1), (1912, .iload_n 3, 1), (1913, .iconst 1, 1), (1914, .iadd, 1), (1915, .iaload, 1), (1916, .aload_n 0, 1), (1917, .iload_n 3, 1)]
def zi_318_28 : zIns := [(1918, .iconst 2, 1), (1919, .iadd, 1), (1920, .iaload, 1), (1921, .aload_n 0, 1), (1922, .iload_n 3, 1), (1923, .iconst 3, 1), (1924, .iadd, 1), (1925, .iaload, 1), (1926, .aload_n 0, 1), (1927, .iload_n 3, 1), (1928, .iconst 4, 1), (1929, .iadd, 1), (1930, .iaload, 1), (1931, .invokevirtual 203, 3), (1934, .aload_n 2, 1), (1935, .aload_n 0, 1), (1936, .iload_n 3, 1), (1937, .iconst 1, 1), (1938, .iadd, 1), (1939, .iaload, 1), (1940, .aload_n 0, 1), (1941, .iload_n 3, 1), (1942, .iconst 2, 1), (1943, .iadd, 1), (1944, .iaload, 1), (1945, .aload_n 0, 1), (1946, .iload_n 3, 1), (1947, .iconst 3, 1), (1948, .iadd, 1), (1949, .iaload, 1), (1950, .aload_n 0, 1), (1951, .iload_n 3, 1), (1952, .iconst 4, 1), (1953, .iadd, 1), (1954, .iaload, 1), (1955, .invokevirtual 206, 3), (1958, .if_icmp .eq 239, 3), (1961, .iconst 0, 1), (1962, .ireturn, 1), (1963, .aload_n 1, 1), (1964, .aload_n 0, 1), (1965, .iload_n 3, 1), (1966, .iconst 1, 1), (1967, .iadd, 1), (1968, .iaload, 1), (1969, .aload_n 0, 1), (1970, .iload_n 3, 1), (1971, .iconst 2, 1), (1972, .iadd, 1), (1973, .iaload, 1)]
def zi_318_29 : zIns := [(1974, .aload_n 0, 1), (1975, .iload_n 3, 1), (1976, .iconst 3, 1), (1977, .iadd, 1), (1978, .iaload, 1), (1979, .aload_n 0, 1), (1980, .iload_n 3, 1), (1981, .iconst 4, 1), (1982, .iadd, 1), (1983, .iaload, 1), (1984, .invokevirtual 207, 3), (1987, .aload_n 2, 1), (1988, .aload_n 0, 1), (1989, .iload_n 3, 1), (1990, .iconst 1, 1), (1991, .iadd, 1), (1992, .iaload, 1), (1993, .aload_n 0, 1), (1994, .iload_n 3, 1), (1995, .iconst 2, 1), (1996, .iadd, 1), (1997, .iaload, 1), (1998, .aload_n 0, 1), (1999, .iload_n 3, 1), (2000, .iconst 3, 1), (2001, .iadd, 1), (2002, .iaload, 1), (2003, .aload_n 0, 1), (2004, .iload_n 3, 1), (2005, .iconst 4, 1), (2006, .iadd, 1), (2007, .iaload, 1), (2008, .invokevirtual 210, 3), (2011, .if_icmp .eq 186, 3), (2014, .iconst 0, 1), (2015, .ireturn, 1), (2016, .aload_n 1, 1), (2017, .aload_n 0, 1), (2018, .iload_n 3, 1), (2019, .iconst 1, 1), (2020, .iadd, 1), (2021, .iaload, 1), (2022, .aload_n 0, 1), (2023, .iload_n 3, 1), (2024, .iconst 2, 1), (2025, .iadd, 1), (2026, .iaload, 1), (2027, .invokevirtual 211, 3), (2030, .aload_n 2, 1), (2031, .aload_n 0, 1)]
def zi_318_30 : zIns := [(2032, .iload_n 3, 1), (2033, .iconst 1, 1), (2034, .iadd, 1), (2035, .iaload, 1), (2036, .aload_n 0, 1), (2037, .iload_n 3, 1), (2038, .iconst 2, 1), (2039, .iadd, 1), (2040, .iaload, 1), (2041, .invokevirtual 214, 3), (2044, .if_icmp .eq 153, 3), (2047, .iconst 0, 1), (2048, .ireturn, 1), (2049, .aload_n 1, 1), (2050, .aload_n 0, 1), (2051, .iload_n 3, 1), (2052, .iconst 1, 1), (2053, .iadd, 1), (2054, .iaload, 1), (2055, .aload_n 0, 1), (2056, .iload_n 3, 1), (2057, .iconst 2, 1), (2058, .iadd, 1), (2059, .iaload, 1), (2060, .aload_n 0, 1), (2061, .iload_n 3, 1), (2062, .iconst 3, 1), (2063, .iadd, 1), (2064, .iaload, 1), (2065, .aload_n 0, 1), (2066, .iload_n 3, 1), (2067, .iconst 4, 1), (2068, .iadd, 1), (2069, .iaload, 1), (2070, .invokevirtual 215, 3), (2073, .aload_n 2, 1), (2074, .aload_n 0, 1), (2075, .iload_n 3, 1), (2076, .iconst 1, 1), (2077, .iadd, 1), (2078, .iaload, 1), (2079, .aload_n 0, 1), (2080, .iload_n 3, 1), (2081, .iconst 2, 1), (2082, .iadd, 1), (2083, .iaload, 1), (2084, .aload_n 0, 1), (2085, .iload_n 3, 1), (2086, .iconst 3, 1), (2087, .iadd, 1)]
def zi_318_31 : zIns := [(2088, .iaload, 1), (2089, .aload_n 0, 1), (2090, .iload_n 3, 1), (2091, .iconst 4, 1), (2092, .iadd, 1), (2093, .iaload, 1), (2094, .invokevirtual 218, 3), (2097, .if_icmp .eq 100, 3), (2100, .iconst 0, 1), (2101, .ireturn, 1), (2102, .aload_n 1, 1), (2103, .aload_n 0, 1), (2104, .iload_n 3, 1), (2105, .iconst 1, 1), (2106, .iadd, 1), (2107, .iaload, 1), (2108, .invokevirtual 219, 3), (2111, .aload_n 2, 1), (2112, .aload_n 0, 1), (2113, .iload_n 3, 1), (2114, .iconst 1, 1), (2115, .iadd, 1), (2116, .iaload, 1), (2117, .invokevirtual 222, 3), (2120, .if_icmp .eq 77, 3), (2123, .iconst 0, 1), (2124, .ireturn, 1), (2125, .aload_n 1, 1), (2126, .aload_n 0, 1), (2127, .iload_n 3, 1), (2128, .iconst 1, 1), (2129, .iadd, 1), (2130, .iaload, 1), (2131, .invokevirtual 223, 3), (2134, .aload_n 2, 1), (2135, .aload_n 0, 1), (2136, .iload_n 3, 1), (2137, .iconst 1, 1), (2138, .iadd, 1), (2139, .iaload, 1), (2140, .invokevirtual 226, 3), (2143, .if_icmp .eq 54, 3), (2146, .iconst 0, 1), (2147, .ireturn, 1), (2148, .aload_n 1, 1), (2149, .invokevirtual 227, 3), (2152, .aload_n 2, 1), (2153, .invokevirtual 230, 3), (2156, .if_icmp .eq 41, 3), (2159, .iconst 0, 1)]
def zi_318_32 : zIns := [(2160, .ireturn, 1), (2161, .aload_n 1, 1), (2162, .invokevirtual 231, 3), (2165, .aload_n 2, 1), (2166, .invokevirtual 234, 3), (2169, .if_icmp .eq 28, 3), (2172, .iconst 0, 1), (2173, .ireturn, 1), (2174, .aload_n 1, 1), (2175, .aload_n 0, 1), (2176, .iload_n 3, 1), (2177, .iconst 1, 1), (2178, .iadd, 1), (2179, .iaload, 1), (2180, .invokevirtual 235, 3), (2183, .aload_n 2, 1), (2184, .aload_n 0, 1), (2185, .iload_n 3, 1), (2186, .iconst 1, 1), (2187, .iadd, 1), (2188, .iaload, 1), (2189, .invokevirtual 238, 3), (2192, .if_icmp .eq 5, 3), (2195, .iconst 0, 1), (2196, .ireturn, 1), (2197, .iinc 3 6, 3), (2200, .goto (-2182), 3), (2203, .iconst 1, 1), (2204, .ireturn, 1)]
def zi_318 : zIns := zi_318_0 ++ (zi_318_1 ++ (zi_318_2 ++ (zi_318_3 ++ (zi_318_4 ++ (zi_318_5 ++ (zi_318_6 ++ (zi_318_7 ++ (zi_318_8 ++ (zi_318_9 ++ (zi_318_10 ++ (zi_318_11 ++ (zi_318_12 ++ (zi_318_13 ++ (zi_318_14 ++ (zi_318_15 ++ (zi_318_16 ++ (zi_318_17 ++ (zi_318_18 ++ (zi_318_19 ++ (zi_318_20 ++ (zi_318_21 ++ (zi_318_22 ++ (zi_318_23 ++ (zi_318_24 ++ (zi_318_25 ++ (zi_318_26 ++ (zi_318_27 ++ (zi_318_28 ++ (zi_318_29 ++ (zi_318_30 ++ (zi_318_31 ++ (zi_318_32))))))))))))))))))))))))))))))))
def zI_0 : List zIns := [zi_0, zi_1, zi_2, zi_3, zi_4, zi_5, zi_6, zi_7, zi_8, zi_9, zi_10, zi_11, zi_12, zi_13, zi_14, zi_15, zi_16, zi_17, zi_18, zi_19, zi_20, zi_21, zi_22, zi_23, zi_24, zi_25, zi_26, zi_27, zi_28, zi_29, zi_30, zi_31, zi_32, zi_33, zi_34, zi_35, zi_36, zi_37, zi_38, zi_39]
def zI_1 : List zIns := [zi_40, zi_41, zi_42, zi_43, zi_44, zi_45, zi_46, zi_47, zi_48, zi_49, zi_50, zi_51, zi_52, zi_53, zi_54, zi_55, zi_56, zi_57, zi_58, zi_59, zi_60, zi_61, zi_62, zi_63, zi_64, zi_65, zi_66, zi_67, zi_68, zi_69, zi_70, zi_71, zi_72, zi_73, zi_74, zi_75, zi_76, zi_77, zi_78, zi_79]
def zI_2 : List zIns := [zi_80, zi_81, zi_82, zi_83, zi_84, zi_85, zi_86, zi_87, zi_88, zi_89, zi_90, zi_91, zi_92, zi_93, zi_94, zi_95, zi_96, zi_97, zi_98, zi_99, zi_100, zi_101, zi_102, zi_103, zi_104, zi_105, zi_106, zi_107, zi_108, zi_109, zi_110, zi_111, zi_112, zi_113, zi_114, zi_115, zi_116, zi_117, zi_118, zi_119]
def zI_3 : List zIns := [zi_120, zi_121, zi_122, zi_123, zi_124, zi_125, zi_126, zi_127, zi_128, zi_129, zi_130, zi_131, zi_132, zi_133, zi_134, zi_135, zi_136, zi_137, zi_138, zi_139, zi_140, zi_141, zi_142, zi_143, zi_144, zi_145, zi_146, zi_147, zi_148, zi_149, zi_150, zi_151, zi_152, zi_153, zi_154, zi_155, zi_156, zi_157, zi_158, zi_159]
def zI_4 : List zIns := [zi_160, zi_161, zi_162, zi_163, zi_164, zi_165, zi_166, zi_167, zi_168, zi_169, zi_170, zi_171, zi_172, zi_173, zi_174, zi_175, zi_176, zi_177, zi_178, zi_179, zi_180, zi_181, zi_182, zi_183, zi_184, zi_185, zi_186, zi_187, zi_188, zi_189, zi_190, zi_191, zi_192, zi_193, zi_194, zi_195, zi_196, zi_197, zi_198, zi_199]
def zI_5 : List zIns := [zi_200, zi_201, zi_202, zi_203, zi_204, zi_205, zi_206, zi_207, zi_208, zi_209, zi_210, zi_211, zi_212, zi_213, zi_214, zi_215, zi_216, zi_217, zi_218, zi_219, zi_220, zi_221, zi_222, zi_223, zi_224, zi_225, zi_226, zi_227, zi_228, zi_229, zi_230, zi_231, zi_232, zi_233, zi_234, zi_235, zi_236, zi_237, zi_238, zi_239]
def zI_6 : List zIns := [zi_240, zi_241, zi_242, zi_243, zi_244, zi_245, zi_246, zi_247, zi_248, zi_249, zi_250, zi_251, zi_252, zi_253, zi_254, zi_255, zi_256, zi_257, zi_258, zi_259, zi_260, zi_261, zi_262, zi_263, zi_264, zi_265, zi_266, zi_267, zi_268, zi_269, zi_270, zi_271, zi_272, zi_273, zi_274, zi_275, zi_276, zi_277, zi_278, zi_279]
def zI_7 : List zIns := [zi_280, zi_281, zi_282, zi_283, zi_284, zi_285, zi_286, zi_287, zi_288, zi_289, zi_290, zi_291, zi_292, zi_293, zi_294, zi_295, zi_296, zi_297, zi_298, zi_299, zi_300, zi_301, zi_302, zi_303, zi_304, zi_305, zi_306, zi_307, zi_308, zi_309, zi_310, zi_311, zi_312, zi_313, zi_314, zi_315, zi_316, zi_317, zi_318]
def zinsT (k : Nat) : zIns := match k / 40 with
  | 0 => (zI_0[k % 40]?).getD []
  | 1 => (zI_1[k % 40]?).getD []
  | 2 => (zI_2[k % 40]?).getD []
  | 3 => (zI_3[k % 40]?).getD []
  | 4 => (zI_4[k % 40]?).getD []
  | 5 => (zI_5[k % 40]?).getD []
  | 6 => (zI_6[k % 40]?).getD []
  | 7 => (zI_7[k % 40]?).getD []
  | _ => []
def zins (k pc : Nat) : Option (Instr × Nat) := zlk (zinsT k) pc
def zcode (k : Nat) : ByteArray := (zrow k).2.1
def zdok (b : ByteArray) (I : zIns) : Prop := ∀ q ∈ I, decode b q.1 = .ok q.2
theorem zdok_of {b : ByteArray} {I : zIns} (h : I.all (fun q => decide (decode b q.1 = .ok q.2)) = true) : zdok b I := fun q hq => of_decide_eq_true (List.all_eq_true.mp h q hq)
theorem zdok_app {b : ByteArray} {I J : zIns} (h : zdok b I) (k : zdok b J) : zdok b (I ++ J) := fun q hq => (List.mem_append.mp hq).elim (h q) (k q)
def zpair : List zRow → List zIns → Prop
  | t :: T, i :: I => zdok t.2.1 i ∧ zpair T I
  | _, [] => True
  | [], _ :: _ => False
theorem zpair_use : ∀ {T : List zRow} {I : List zIns}, zpair T I → ∀ (j : Nat) (df : zRow), ∀ q ∈ (I[j]?).getD [], decode ((T[j]?).getD df).2.1 q.1 = .ok q.2
  | t :: T, i :: I, h, 0, df, q, hq => h.1 q hq
  | t :: T, i :: I, h, j + 1, df, q, hq => by
    rw [List.getElem?_cons_succ] at hq ⊢
    exact zpair_use h.2 j df q hq
  | [], [], _, j, df, q, hq => by simp at hq
  | _ :: _, [], _, j, df, q, hq => by simp at hq
  | [], _ :: _, h, _, _, _, _ => h.elim
theorem zdok_0 : zdok cX0_init zi_0 := zdok_of (by decide +kernel)
theorem zdok_1 : zdok cX0_begin zi_1 := zdok_of (by decide +kernel)
theorem zdok_2 : zdok cX0_addColumn zi_2 := zdok_of (by decide +kernel)
theorem zdok_3 : zdok cX0_columnCount zi_3 := zdok_of (by decide +kernel)
theorem zdok_4 : zdok cX0_want zi_4 := zdok_of (by decide +kernel)
theorem zdok_5 : zdok cX0_names zi_5 := zdok_of (by decide +kernel)
theorem zdok_6_0 : zdok cX0_copyFrom zi_6_0 := zdok_of (by decide +kernel)
theorem zdok_6_1 : zdok cX0_copyFrom zi_6_1 := zdok_of (by decide +kernel)
theorem zdok_6 : zdok cX0_copyFrom zi_6 := zdok_app zdok_6_0 (zdok_6_1)
theorem zdok_7 : zdok cX0_settleLeaf zi_7 := zdok_of (by decide +kernel)
theorem zdok_8_0 : zdok cX0_settleOver zi_8_0 := zdok_of (by decide +kernel)
theorem zdok_8_1 : zdok cX0_settleOver zi_8_1 := zdok_of (by decide +kernel)
theorem zdok_8 : zdok cX0_settleOver zi_8 := zdok_app zdok_8_0 (zdok_8_1)
theorem zdok_9_0 : zdok cX0_leafTruth zi_9_0 := zdok_of (by decide +kernel)
theorem zdok_9_1 : zdok cX0_leafTruth zi_9_1 := zdok_of (by decide +kernel)
theorem zdok_9 : zdok cX0_leafTruth zi_9 := zdok_app zdok_9_0 (zdok_9_1)
theorem zdok_10 : zdok cX0_digitOf zi_10 := zdok_of (by decide +kernel)
theorem zdok_11 : zdok cX0_orDoubt zi_11 := zdok_of (by decide +kernel)
theorem zdok_12 : zdok cX0_orderTruth zi_12 := zdok_of (by decide +kernel)
theorem zdok_13 : zdok cX0_equalTruth zi_13 := zdok_of (by decide +kernel)
theorem zdok_14 : zdok cX0_joinedTruth zi_14 := zdok_of (by decide +kernel)
theorem zdok_15 : zdok cX0_opposite zi_15 := zdok_of (by decide +kernel)
theorem zdok_16_0 : zdok cX0_isOfSort zi_16_0 := zdok_of (by decide +kernel)
theorem zdok_16_1 : zdok cX0_isOfSort zi_16_1 := zdok_of (by decide +kernel)
theorem zdok_16 : zdok cX0_isOfSort zi_16 := zdok_app zdok_16_0 (zdok_16_1)
theorem zdok_17 : zdok cX0_toldAs zi_17 := zdok_of (by decide +kernel)
theorem zdok_18 : zdok cX0_countKeys zi_18 := zdok_of (by decide +kernel)
theorem zdok_19 : zdok cX0_valuesIn zi_19 := zdok_of (by decide +kernel)
theorem zdok_20 : zdok cX0_firstUnlike zi_20 := zdok_of (by decide +kernel)
theorem zdok_21 : zdok cX1_init zi_21 := zdok_of (by decide +kernel)
theorem zdok_22 : zdok cX1_copyFrom zi_22 := zdok_of (by decide +kernel)
theorem zdok_23 : zdok cX1_has zi_23 := zdok_of (by decide +kernel)
theorem zdok_24 : zdok cX1_at zi_24 := zdok_of (by decide +kernel)
theorem zdok_25 : zdok cX1_draft zi_25 := zdok_of (by decide +kernel)
theorem zdok_26 : zdok cX1_draftOver zi_26 := zdok_of (by decide +kernel)
theorem zdok_27 : zdok cX1_lastDraft zi_27 := zdok_of (by decide +kernel)
theorem zdok_28 : zdok cX1_fitsDrafts zi_28 := zdok_of (by decide +kernel)
theorem zdok_29 : zdok cX1_forgetDrafts zi_29 := zdok_of (by decide +kernel)
theorem zdok_30_0 : zdok cX1_settleDrafts zi_30_0 := zdok_of (by decide +kernel)
theorem zdok_30_1 : zdok cX1_settleDrafts zi_30_1 := zdok_of (by decide +kernel)
theorem zdok_30 : zdok cX1_settleDrafts zi_30 := zdok_app zdok_30_0 (zdok_30_1)
theorem zdok_31 : zdok cX2_init zi_31 := zdok_of (by decide +kernel)
theorem zdok_32 : zdok cX2_copyFrom zi_32 := zdok_of (by decide +kernel)
theorem zdok_33 : zdok cX2_has zi_33 := zdok_of (by decide +kernel)
theorem zdok_34 : zdok cX2_valueOf zi_34 := zdok_of (by decide +kernel)
theorem zdok_35 : zdok cX2_put zi_35 := zdok_of (by decide +kernel)
theorem zdok_36 : zdok cX2_putAll zi_36 := zdok_of (by decide +kernel)
theorem zdok_37 : zdok cX2_add zi_37 := zdok_of (by decide +kernel)
theorem zdok_38 : zdok cX2_remove zi_38 := zdok_of (by decide +kernel)
theorem zdok_39 : zdok cX2_keyIn zi_39 := zdok_of (by decide +kernel)
theorem zdok_40 : zdok cX2_truthOf zi_40 := zdok_of (by decide +kernel)
theorem zdok_41 : zdok cX2_countOf zi_41 := zdok_of (by decide +kernel)
theorem zdok_42 : zdok cX2_countValue zi_42 := zdok_of (by decide +kernel)
theorem zdok_43 : zdok cX2_liveDay zi_43 := zdok_of (by decide +kernel)
theorem zdok_44 : zdok cX2_draw zi_44 := zdok_of (by decide +kernel)
theorem zdok_45 : zdok cX3_init zi_45 := zdok_of (by decide +kernel)
theorem zdok_46 : zdok cX3_codeOf zi_46 := zdok_of (by decide +kernel)
theorem zdok_47 : zdok cX3_rank zi_47 := zdok_of (by decide +kernel)
theorem zdok_48 : zdok cX3_insert zi_48 := zdok_of (by decide +kernel)
theorem zdok_49 : zdok cX3_lineAt zi_49 := zdok_of (by decide +kernel)
theorem zdok_50 : zdok cX3_firstBehind zi_50 := zdok_of (by decide +kernel)
theorem zdok_51 : zdok cX4_init zi_51 := zdok_of (by decide +kernel)
theorem zdok_52 : zdok cX4_readTable zi_52 := zdok_of (by decide +kernel)
theorem zdok_53 : zdok cX4_readLine zi_53 := zdok_of (by decide +kernel)
theorem zdok_54 : zdok cX4_lineCount zi_54 := zdok_of (by decide +kernel)
theorem zdok_55 : zdok cX4_valueRead zi_55 := zdok_of (by decide +kernel)
theorem zdok_56_0 : zdok cX4_readCondition zi_56_0 := zdok_of (by decide +kernel)
theorem zdok_56_1 : zdok cX4_readCondition zi_56_1 := zdok_of (by decide +kernel)
theorem zdok_56 : zdok cX4_readCondition zi_56 := zdok_app zdok_56_0 (zdok_56_1)
theorem zdok_57 : zdok cX4_isTurnSign zi_57 := zdok_of (by decide +kernel)
theorem zdok_58 : zdok cX4_isClosed zi_58 := zdok_of (by decide +kernel)
theorem zdok_59 : zdok cX4_readBehindTurn zi_59 := zdok_of (by decide +kernel)
theorem zdok_60_0 : zdok cX4_turnIsWhole zi_60_0 := zdok_of (by decide +kernel)
theorem zdok_60_1 : zdok cX4_turnIsWhole zi_60_1 := zdok_of (by decide +kernel)
theorem zdok_60 : zdok cX4_turnIsWhole zi_60 := zdok_app zdok_60_0 (zdok_60_1)
theorem zdok_61 : zdok cX4_closeOr zi_61 := zdok_of (by decide +kernel)
theorem zdok_62 : zdok cX4_pushOpen zi_62 := zdok_of (by decide +kernel)
theorem zdok_63 : zdok cX4_topOpen zi_63 := zdok_of (by decide +kernel)
theorem zdok_64 : zdok cX4_popOpen zi_64 := zdok_of (by decide +kernel)
theorem zdok_65 : zdok cX4_pushWhole zi_65 := zdok_of (by decide +kernel)
theorem zdok_66 : zdok cX4_popWhole zi_66 := zdok_of (by decide +kernel)
theorem zdok_67 : zdok cX4_readLeaf zi_67 := zdok_of (by decide +kernel)
theorem zdok_68 : zdok cX4_readCompared zi_68 := zdok_of (by decide +kernel)
theorem zdok_69_0 : zdok cX4_readAmong zi_69_0 := zdok_of (by decide +kernel)
theorem zdok_69_1 : zdok cX4_readAmong zi_69_1 := zdok_of (by decide +kernel)
theorem zdok_69 : zdok cX4_readAmong zi_69 := zdok_app zdok_69_0 (zdok_69_1)
theorem zdok_70 : zdok cX4_readRest zi_70 := zdok_of (by decide +kernel)
theorem zdok_71_0 : zdok cX4_readSeveral zi_71_0 := zdok_of (by decide +kernel)
theorem zdok_71_1 : zdok cX4_readSeveral zi_71_1 := zdok_of (by decide +kernel)
theorem zdok_71 : zdok cX4_readSeveral zi_71 := zdok_app zdok_71_0 (zdok_71_1)
theorem zdok_72 : zdok cX5_init zi_72 := zdok_of (by decide +kernel)
theorem zdok_73 : zdok cX5_isShelf zi_73 := zdok_of (by decide +kernel)
theorem zdok_74 : zdok cX5_heldBy zi_74 := zdok_of (by decide +kernel)
theorem zdok_75 : zdok cX5_empty zi_75 := zdok_of (by decide +kernel)
theorem zdok_76 : zdok cX5_holdCondition zi_76 := zdok_of (by decide +kernel)
theorem zdok_77 : zdok cX5_conditionIn zi_77 := zdok_of (by decide +kernel)
theorem zdok_78 : zdok cX5_layRow zi_78 := zdok_of (by decide +kernel)
theorem zdok_79 : zdok cX5_whyNoRow zi_79 := zdok_of (by decide +kernel)
theorem zdok_80 : zdok cX5_whyNoRowOf zi_80 := zdok_of (by decide +kernel)
theorem zdok_81 : zdok cX5_whyNoTwoRows zi_81 := zdok_of (by decide +kernel)
theorem zdok_82 : zdok cX5_hasElement zi_82 := zdok_of (by decide +kernel)
theorem zdok_83 : zdok cX5_hasPart zi_83 := zdok_of (by decide +kernel)
theorem zdok_84 : zdok cX5_elementAt zi_84 := zdok_of (by decide +kernel)
theorem zdok_85 : zdok cX5_put zi_85 := zdok_of (by decide +kernel)
theorem zdok_86 : zdok cX5_carry zi_86 := zdok_of (by decide +kernel)
theorem zdok_87 : zdok cX5_kept zi_87 := zdok_of (by decide +kernel)
theorem zdok_88 : zdok cX5_forgetConditionsFrom zi_88 := zdok_of (by decide +kernel)
theorem zdok_89 : zdok cX5_countHolding zi_89 := zdok_of (by decide +kernel)
theorem zdok_90 : zdok cX6_init zi_90 := zdok_of (by decide +kernel)
theorem zdok_91_0 : zdok cX6_layOut zi_91_0 := zdok_of (by decide +kernel)
theorem zdok_91_1 : zdok cX6_layOut zi_91_1 := zdok_of (by decide +kernel)
theorem zdok_91 : zdok cX6_layOut zi_91 := zdok_app zdok_91_0 (zdok_91_1)
theorem zdok_92 : zdok cX6_runTold zi_92 := zdok_of (by decide +kernel)
theorem zdok_93 : zdok cX6_planSize zi_93 := zdok_of (by decide +kernel)
theorem zdok_94 : zdok cX6_widthOf zi_94 := zdok_of (by decide +kernel)
theorem zdok_95_0 : zdok cX6_orderGaps zi_95_0 := zdok_of (by decide +kernel)
theorem zdok_95_1 : zdok cX6_orderGaps zi_95_1 := zdok_of (by decide +kernel)
theorem zdok_95 : zdok cX6_orderGaps zi_95 := zdok_app zdok_95_0 (zdok_95_1)
theorem zdok_96 : zdok cX6_joinDownTo zi_96 := zdok_of (by decide +kernel)
theorem zdok_97 : zdok cX6_spanTold zi_97 := zdok_of (by decide +kernel)
theorem zdok_98 : zdok cX6_gapAt zi_98 := zdok_of (by decide +kernel)
theorem zdok_99 : zdok cX6_planHas zi_99 := zdok_of (by decide +kernel)
theorem zdok_100 : zdok cX6_countKeysBetween zi_100 := zdok_of (by decide +kernel)
theorem zdok_101 : zdok cX6_countRead zi_101 := zdok_of (by decide +kernel)
theorem zdok_102_0 : zdok cX6_findBest zi_102_0 := zdok_of (by decide +kernel)
theorem zdok_102_1 : zdok cX6_findBest zi_102_1 := zdok_of (by decide +kernel)
theorem zdok_102 : zdok cX6_findBest zi_102 := zdok_app zdok_102_0 (zdok_102_1)
theorem zdok_103_0 : zdok cX6_countLinesByGap zi_103_0 := zdok_of (by decide +kernel)
theorem zdok_103_1 : zdok cX6_countLinesByGap zi_103_1 := zdok_of (by decide +kernel)
theorem zdok_103 : zdok cX6_countLinesByGap zi_103 := zdok_app zdok_103_0 (zdok_103_1)
theorem zdok_104 : zdok cX7_init zi_104 := zdok_of (by decide +kernel)
theorem zdok_105 : zdok cX7_append zi_105 := zdok_of (by decide +kernel)
theorem zdok_106 : zdok cX7_wipeAll zi_106 := zdok_of (by decide +kernel)
theorem zdok_107 : zdok cX7_rewind zi_107 := zdok_of (by decide +kernel)
theorem zdok_108 : zdok cX7_ahead zi_108 := zdok_of (by decide +kernel)
theorem zdok_109 : zdok cX7_take zi_109 := zdok_of (by decide +kernel)
theorem zdok_110 : zdok cX7_columnAhead zi_110 := zdok_of (by decide +kernel)
theorem zdok_111 : zdok cX7_signAhead zi_111 := zdok_of (by decide +kernel)
theorem zdok_112 : zdok cX7_digitAhead zi_112 := zdok_of (by decide +kernel)
theorem zdok_113_0 : zdok cX8_init zi_113_0 := zdok_of (by decide +kernel)
theorem zdok_113_1 : zdok cX8_init zi_113_1 := zdok_of (by decide +kernel)
theorem zdok_113 : zdok cX8_init zi_113 := zdok_app zdok_113_0 (zdok_113_1)
theorem zdok_114 : zdok cX8_row zi_114 := zdok_of (by decide +kernel)
theorem zdok_115 : zdok cX8_set zi_115 := zdok_of (by decide +kernel)
theorem zdok_116 : zdok cX8_copy zi_116 := zdok_of (by decide +kernel)
theorem zdok_117 : zdok cX8_element zi_117 := zdok_of (by decide +kernel)
theorem zdok_118 : zdok cX8_holds zi_118 := zdok_of (by decide +kernel)
theorem zdok_119 : zdok cX8_show zi_119 := zdok_of (by decide +kernel)
theorem zdok_120 : zdok cX8_says zi_120 := zdok_of (by decide +kernel)
theorem zdok_121 : zdok cX8_line zi_121 := zdok_of (by decide +kernel)
theorem zdok_122 : zdok cX8_alter zi_122 := zdok_of (by decide +kernel)
theorem zdok_123 : zdok cX8_strike zi_123 := zdok_of (by decide +kernel)
theorem zdok_124 : zdok cX8_price zi_124 := zdok_of (by decide +kernel)
theorem zdok_125 : zdok cX8_feed zi_125 := zdok_of (by decide +kernel)
theorem zdok_126 : zdok cX8_wipe zi_126 := zdok_of (by decide +kernel)
theorem zdok_127_0 : zdok cX8_table zi_127_0 := zdok_of (by decide +kernel)
theorem zdok_127_1 : zdok cX8_table zi_127_1 := zdok_of (by decide +kernel)
theorem zdok_127 : zdok cX8_table zi_127 := zdok_app zdok_127_0 (zdok_127_1)
theorem zdok_128 : zdok cX8_cond zi_128 := zdok_of (by decide +kernel)
theorem zdok_129 : zdok cX8_test zi_129 := zdok_of (by decide +kernel)
theorem zdok_130 : zdok cX8_among zi_130 := zdok_of (by decide +kernel)
theorem zdok_131 : zdok cX8_gone zi_131 := zdok_of (by decide +kernel)
theorem zdok_132 : zdok cX8_columns zi_132 := zdok_of (by decide +kernel)
theorem zdok_133 : zdok cX8_rest zi_133 := zdok_of (by decide +kernel)
theorem zdok_134_0 : zdok cX8_several zi_134_0 := zdok_of (by decide +kernel)
theorem zdok_134_1 : zdok cX8_several zi_134_1 := zdok_of (by decide +kernel)
theorem zdok_134 : zdok cX8_several zi_134 := zdok_app zdok_134_0 (zdok_134_1)
theorem zdok_135 : zdok cX8_pair zi_135 := zdok_of (by decide +kernel)
theorem zdok_136 : zdok cX8_turn zi_136 := zdok_of (by decide +kernel)
theorem zdok_137 : zdok cX8_drop zi_137 := zdok_of (by decide +kernel)
theorem zdok_138 : zdok cX8_condOf zi_138 := zdok_of (by decide +kernel)
theorem zdok_139 : zdok cX8_lineOf zi_139 := zdok_of (by decide +kernel)
theorem zdok_140 : zdok cX8_keyOf zi_140 := zdok_of (by decide +kernel)
theorem zdok_141 : zdok cX8_truth zi_141 := zdok_of (by decide +kernel)
theorem zdok_142 : zdok cX8_keys zi_142 := zdok_of (by decide +kernel)
theorem zdok_143 : zdok cX8_lines zi_143 := zdok_of (by decide +kernel)
theorem zdok_144 : zdok cX8_values zi_144 := zdok_of (by decide +kernel)
theorem zdok_145 : zdok cX8_runs zi_145 := zdok_of (by decide +kernel)
theorem zdok_146 : zdok cX8_run zi_146 := zdok_of (by decide +kernel)
theorem zdok_147_0 : zdok cX8_plan zi_147_0 := zdok_of (by decide +kernel)
theorem zdok_147_1 : zdok cX8_plan zi_147_1 := zdok_of (by decide +kernel)
theorem zdok_147 : zdok cX8_plan zi_147 := zdok_app zdok_147_0 (zdok_147_1)
theorem zdok_148_0 : zdok cX8_of zi_148_0 := zdok_of (by decide +kernel)
theorem zdok_148_1 : zdok cX8_of zi_148_1 := zdok_of (by decide +kernel)
theorem zdok_148 : zdok cX8_of zi_148 := zdok_app zdok_148_0 (zdok_148_1)
theorem zdok_149 : zdok cX8_best zi_149 := zdok_of (by decide +kernel)
theorem zdok_150_0 : zdok cX8_bestIndex zi_150_0 := zdok_of (by decide +kernel)
theorem zdok_150_1 : zdok cX8_bestIndex zi_150_1 := zdok_of (by decide +kernel)
theorem zdok_150 : zdok cX8_bestIndex zi_150 := zdok_app zdok_150_0 (zdok_150_1)
theorem zdok_151 : zdok cX8_seek zi_151 := zdok_of (by decide +kernel)
theorem zdok_152_0 : zdok cX8_leaders zi_152_0 := zdok_of (by decide +kernel)
theorem zdok_152_1 : zdok cX8_leaders zi_152_1 := zdok_of (by decide +kernel)
theorem zdok_152 : zdok cX8_leaders zi_152 := zdok_app zdok_152_0 (zdok_152_1)
theorem zdok_153 : zdok cX8_found zi_153 := zdok_of (by decide +kernel)
theorem zdok_154 : zdok cX8_order zi_154 := zdok_of (by decide +kernel)
theorem zdok_155 : zdok cX8_behind zi_155 := zdok_of (by decide +kernel)
theorem zdok_156 : zdok cX8_implies zi_156 := zdok_of (by decide +kernel)
theorem zdok_157 : zdok cX8_alike zi_157 := zdok_of (by decide +kernel)
theorem zdok_158 : zdok cX8_same zi_158 := zdok_of (by decide +kernel)
theorem zdok_159_0 : zdok cX8_signs zi_159_0 := zdok_of (by decide +kernel)
theorem zdok_159_1 : zdok cX8_signs zi_159_1 := zdok_of (by decide +kernel)
theorem zdok_159 : zdok cX8_signs zi_159 := zdok_app zdok_159_0 (zdok_159_1)
theorem zdok_160_0 : zdok cX8_judge zi_160_0 := zdok_of (by decide +kernel)
theorem zdok_160_1 : zdok cX8_judge zi_160_1 := zdok_of (by decide +kernel)
theorem zdok_160 : zdok cX8_judge zi_160 := zdok_app zdok_160_0 (zdok_160_1)
theorem zdok_161 : zdok cX8_many zi_161 := zdok_of (by decide +kernel)
theorem zdok_162_0 : zdok cX8_whatIf zi_162_0 := zdok_of (by decide +kernel)
theorem zdok_162_1 : zdok cX8_whatIf zi_162_1 := zdok_of (by decide +kernel)
theorem zdok_162 : zdok cX8_whatIf zi_162 := zdok_app zdok_162_0 (zdok_162_1)
theorem zdok_163 : zdok cX8_days zi_163 := zdok_of (by decide +kernel)
theorem zdok_164 : zdok cX8_seed zi_164 := zdok_of (by decide +kernel)
theorem zdok_165 : zdok cX8_image zi_165 := zdok_of (by decide +kernel)
theorem zdok_166 : zdok cX8_back zi_166 := zdok_of (by decide +kernel)
theorem zdok_167_0 : zdok cX8_status zi_167_0 := zdok_of (by decide +kernel)
theorem zdok_167_1 : zdok cX8_status zi_167_1 := zdok_of (by decide +kernel)
theorem zdok_167 : zdok cX8_status zi_167 := zdok_app zdok_167_0 (zdok_167_1)
theorem zdok_168 : zdok cX8_refuse zi_168 := zdok_of (by decide +kernel)
theorem zdok_169 : zdok cX8_settled zi_169 := zdok_of (by decide +kernel)
theorem zdok_170 : zdok cX8_isCondAndIndex zi_170 := zdok_of (by decide +kernel)
theorem zdok_171_0 : zdok cX8_tellsSeveral zi_171_0 := zdok_of (by decide +kernel)
theorem zdok_171_1 : zdok cX8_tellsSeveral zi_171_1 := zdok_of (by decide +kernel)
theorem zdok_171 : zdok cX8_tellsSeveral zi_171 := zdok_app zdok_171_0 (zdok_171_1)
theorem zdok_172 : zdok cX8_tellsLines zi_172 := zdok_of (by decide +kernel)
theorem zdok_173_0 : zdok cX8_fitsTold zi_173_0 := zdok_of (by decide +kernel)
theorem zdok_173_1 : zdok cX8_fitsTold zi_173_1 := zdok_of (by decide +kernel)
theorem zdok_173 : zdok cX8_fitsTold zi_173 := zdok_app zdok_173_0 (zdok_173_1)
theorem zdok_174 : zdok cX8_stillToTest zi_174 := zdok_of (by decide +kernel)
theorem zdok_175 : zdok cX8_isTrueInPlan zi_175 := zdok_of (by decide +kernel)
theorem zdok_176 : zdok cX8_seekUp zi_176 := zdok_of (by decide +kernel)
theorem zdok_177 : zdok cX8_seekDown zi_177 := zdok_of (by decide +kernel)
theorem zdok_178 : zdok cX8_countDifferentKeys zi_178 := zdok_of (by decide +kernel)
theorem zdok_179 : zdok cX8_clearSeen zi_179 := zdok_of (by decide +kernel)
theorem zdok_180 : zdok cX8_countSeen zi_180 := zdok_of (by decide +kernel)
theorem zdok_181 : zdok cX8_isWithin zi_181 := zdok_of (by decide +kernel)
theorem zdok_182 : zdok cX8_isColumn zi_182 := zdok_of (by decide +kernel)
theorem zdok_183 : zdok cX8_isIndex zi_183 := zdok_of (by decide +kernel)
theorem zdok_184 : zdok cX8_isSign zi_184 := zdok_of (by decide +kernel)
theorem zdok_185 : zdok cX8_isTruth zi_185 := zdok_of (by decide +kernel)
theorem zdok_186 : zdok cX8_isDigit zi_186 := zdok_of (by decide +kernel)
theorem zdok_187 : zdok cX8_isValue zi_187 := zdok_of (by decide +kernel)
theorem zdok_188 : zdok cX8_placeOf zi_188 := zdok_of (by decide +kernel)
theorem zdok_189 : zdok cX8_compared zi_189 := zdok_of (by decide +kernel)
theorem zdok_190_0 : zdok cX9_init zi_190_0 := zdok_of (by decide +kernel)
theorem zdok_190_1 : zdok cX9_init zi_190_1 := zdok_of (by decide +kernel)
theorem zdok_190_2 : zdok cX9_init zi_190_2 := zdok_of (by decide +kernel)
theorem zdok_190 : zdok cX9_init zi_190 := zdok_app zdok_190_0 (zdok_app zdok_190_1 (zdok_190_2))
theorem zdok_191 : zdok cX9_refuse zi_191 := zdok_of (by decide +kernel)
theorem zdok_192 : zdok cX9_in zi_192 := zdok_of (by decide +kernel)
theorem zdok_193 : zdok cX9_isCond zi_193 := zdok_of (by decide +kernel)
theorem zdok_194 : zdok cX9_isLine zi_194 := zdok_of (by decide +kernel)
theorem zdok_195 : zdok cX9_bits zi_195 := zdok_of (by decide +kernel)
theorem zdok_196_0 : zdok cX9_row zi_196_0 := zdok_of (by decide +kernel)
theorem zdok_196_1 : zdok cX9_row zi_196_1 := zdok_of (by decide +kernel)
theorem zdok_196 : zdok cX9_row zi_196 := zdok_app zdok_196_0 (zdok_196_1)
theorem zdok_197 : zdok cX9_fit zi_197 := zdok_of (by decide +kernel)
theorem zdok_198 : zdok cX9_noRow zi_198 := zdok_of (by decide +kernel)
theorem zdok_199 : zdok cX9_set zi_199 := zdok_of (by decide +kernel)
theorem zdok_200_0 : zdok cX9_copy zi_200_0 := zdok_of (by decide +kernel)
theorem zdok_200_1 : zdok cX9_copy zi_200_1 := zdok_of (by decide +kernel)
theorem zdok_200_2 : zdok cX9_copy zi_200_2 := zdok_of (by decide +kernel)
theorem zdok_200 : zdok cX9_copy zi_200 := zdok_app zdok_200_0 (zdok_app zdok_200_1 (zdok_200_2))
theorem zdok_201 : zdok cX9_element zi_201 := zdok_of (by decide +kernel)
theorem zdok_202 : zdok cX9_holds zi_202 := zdok_of (by decide +kernel)
theorem zdok_203 : zdok cX9_show zi_203 := zdok_of (by decide +kernel)
theorem zdok_204_0 : zdok cX9_isOf zi_204_0 := zdok_of (by decide +kernel)
theorem zdok_204_1 : zdok cX9_isOf zi_204_1 := zdok_of (by decide +kernel)
theorem zdok_204 : zdok cX9_isOf zi_204 := zdok_app zdok_204_0 (zdok_204_1)
theorem zdok_205_0 : zdok cX9_says zi_205_0 := zdok_of (by decide +kernel)
theorem zdok_205_1 : zdok cX9_says zi_205_1 := zdok_of (by decide +kernel)
theorem zdok_205_2 : zdok cX9_says zi_205_2 := zdok_of (by decide +kernel)
theorem zdok_205 : zdok cX9_says zi_205 := zdok_app zdok_205_0 (zdok_app zdok_205_1 (zdok_205_2))
theorem zdok_206 : zdok cX9_columnAt zi_206 := zdok_of (by decide +kernel)
theorem zdok_207 : zdok cX9_digit zi_207 := zdok_of (by decide +kernel)
theorem zdok_208 : zdok cX9_weight zi_208 := zdok_of (by decide +kernel)
theorem zdok_209 : zdok cX9_plain zi_209 := zdok_of (by decide +kernel)
theorem zdok_210 : zdok cX9_keyIn zi_210 := zdok_of (by decide +kernel)
theorem zdok_211 : zdok cX9_isAt zi_211 := zdok_of (by decide +kernel)
theorem zdok_212 : zdok cX9_isFor zi_212 := zdok_of (by decide +kernel)
theorem zdok_213 : zdok cX9_holds_ zi_213 := zdok_of (by decide +kernel)
theorem zdok_214_0 : zdok cX9_severalFor zi_214_0 := zdok_of (by decide +kernel)
theorem zdok_214_1 : zdok cX9_severalFor zi_214_1 := zdok_of (by decide +kernel)
theorem zdok_214 : zdok cX9_severalFor zi_214 := zdok_app zdok_214_0 (zdok_214_1)
theorem zdok_215_0 : zdok cX9_leafFor zi_215_0 := zdok_of (by decide +kernel)
theorem zdok_215_1 : zdok cX9_leafFor zi_215_1 := zdok_of (by decide +kernel)
theorem zdok_215_2 : zdok cX9_leafFor zi_215_2 := zdok_of (by decide +kernel)
theorem zdok_215 : zdok cX9_leafFor zi_215 := zdok_app zdok_215_0 (zdok_app zdok_215_1 (zdok_215_2))
theorem zdok_216_0 : zdok cX9_worked zi_216_0 := zdok_of (by decide +kernel)
theorem zdok_216_1 : zdok cX9_worked zi_216_1 := zdok_of (by decide +kernel)
theorem zdok_216 : zdok cX9_worked zi_216 := zdok_app zdok_216_0 (zdok_216_1)
theorem zdok_217_0 : zdok cX9_leafIn zi_217_0 := zdok_of (by decide +kernel)
theorem zdok_217_1 : zdok cX9_leafIn zi_217_1 := zdok_of (by decide +kernel)
theorem zdok_217 : zdok cX9_leafIn zi_217 := zdok_app zdok_217_0 (zdok_217_1)
theorem zdok_218_0 : zdok cX9_overIn zi_218_0 := zdok_of (by decide +kernel)
theorem zdok_218_1 : zdok cX9_overIn zi_218_1 := zdok_of (by decide +kernel)
theorem zdok_218 : zdok cX9_overIn zi_218 := zdok_app zdok_218_0 (zdok_218_1)
theorem zdok_219 : zdok cX9_workFrom zi_219 := zdok_of (by decide +kernel)
theorem zdok_220 : zdok cX9_put zi_220 := zdok_of (by decide +kernel)
theorem zdok_221 : zdok cX9_line zi_221 := zdok_of (by decide +kernel)
theorem zdok_222 : zdok cX9_alter zi_222 := zdok_of (by decide +kernel)
theorem zdok_223 : zdok cX9_strikeOut zi_223 := zdok_of (by decide +kernel)
theorem zdok_224 : zdok cX9_strike zi_224 := zdok_of (by decide +kernel)
theorem zdok_225 : zdok cX9_price zi_225 := zdok_of (by decide +kernel)
theorem zdok_226 : zdok cX9_feed zi_226 := zdok_of (by decide +kernel)
theorem zdok_227 : zdok cX9_wipe zi_227 := zdok_of (by decide +kernel)
theorem zdok_228 : zdok cX9_isCell zi_228 := zdok_of (by decide +kernel)
theorem zdok_229 : zdok cX9_tableFault zi_229 := zdok_of (by decide +kernel)
theorem zdok_230_0 : zdok cX9_table zi_230_0 := zdok_of (by decide +kernel)
theorem zdok_230_1 : zdok cX9_table zi_230_1 := zdok_of (by decide +kernel)
theorem zdok_230_2 : zdok cX9_table zi_230_2 := zdok_of (by decide +kernel)
theorem zdok_230 : zdok cX9_table zi_230 := zdok_app zdok_230_0 (zdok_app zdok_230_1 (zdok_230_2))
theorem zdok_231 : zdok cX9_clearTold zi_231 := zdok_of (by decide +kernel)
theorem zdok_232 : zdok cX9_make zi_232 := zdok_of (by decide +kernel)
theorem zdok_233 : zdok cX9_makeOver zi_233 := zdok_of (by decide +kernel)
theorem zdok_234 : zdok cX9_here zi_234 := zdok_of (by decide +kernel)
theorem zdok_235 : zdok cX9_sees zi_235 := zdok_of (by decide +kernel)
theorem zdok_236 : zdok cX9_wrong zi_236 := zdok_of (by decide +kernel)
theorem zdok_237 : zdok cX9_must zi_237 := zdok_of (by decide +kernel)
theorem zdok_238 : zdok cX9_signOf zi_238 := zdok_of (by decide +kernel)
theorem zdok_239 : zdok cX9_number zi_239 := zdok_of (by decide +kernel)
theorem zdok_240 : zdok cX9_signHere zi_240 := zdok_of (by decide +kernel)
theorem zdok_241_0 : zdok cX9_severalHere zi_241_0 := zdok_of (by decide +kernel)
theorem zdok_241_1 : zdok cX9_severalHere zi_241_1 := zdok_of (by decide +kernel)
theorem zdok_241 : zdok cX9_severalHere zi_241 := zdok_app zdok_241_0 (zdok_241_1)
theorem zdok_242_0 : zdok cX9_amongHere zi_242_0 := zdok_of (by decide +kernel)
theorem zdok_242_1 : zdok cX9_amongHere zi_242_1 := zdok_of (by decide +kernel)
theorem zdok_242 : zdok cX9_amongHere zi_242 := zdok_app zdok_242_0 (zdok_242_1)
theorem zdok_243_0 : zdok cX9_columnHere zi_243_0 := zdok_of (by decide +kernel)
theorem zdok_243_1 : zdok cX9_columnHere zi_243_1 := zdok_of (by decide +kernel)
theorem zdok_243_2 : zdok cX9_columnHere zi_243_2 := zdok_of (by decide +kernel)
theorem zdok_243 : zdok cX9_columnHere zi_243 := zdok_app zdok_243_0 (zdok_app zdok_243_1 (zdok_243_2))
theorem zdok_244_0 : zdok cX9_turnHere zi_244_0 := zdok_of (by decide +kernel)
theorem zdok_244_1 : zdok cX9_turnHere zi_244_1 := zdok_of (by decide +kernel)
theorem zdok_244 : zdok cX9_turnHere zi_244 := zdok_app zdok_244_0 (zdok_244_1)
theorem zdok_245 : zdok cX9_eachHere zi_245 := zdok_of (by decide +kernel)
theorem zdok_246 : zdok cX9_condHere zi_246 := zdok_of (by decide +kernel)
theorem zdok_247_0 : zdok cX9_cond zi_247_0 := zdok_of (by decide +kernel)
theorem zdok_247_1 : zdok cX9_cond zi_247_1 := zdok_of (by decide +kernel)
theorem zdok_247 : zdok cX9_cond zi_247 := zdok_app zdok_247_0 (zdok_247_1)
theorem zdok_248 : zdok cX9_added zi_248 := zdok_of (by decide +kernel)
theorem zdok_249 : zdok cX9_add zi_249 := zdok_of (by decide +kernel)
theorem zdok_250 : zdok cX9_tell zi_250 := zdok_of (by decide +kernel)
theorem zdok_251 : zdok cX9_isColumn zi_251 := zdok_of (by decide +kernel)
theorem zdok_252 : zdok cX9_test zi_252 := zdok_of (by decide +kernel)
theorem zdok_253 : zdok cX9_among zi_253 := zdok_of (by decide +kernel)
theorem zdok_254 : zdok cX9_gone zi_254 := zdok_of (by decide +kernel)
theorem zdok_255 : zdok cX9_columns zi_255 := zdok_of (by decide +kernel)
theorem zdok_256 : zdok cX9_rest zi_256 := zdok_of (by decide +kernel)
theorem zdok_257 : zdok cX9_noRowOf zi_257 := zdok_of (by decide +kernel)
theorem zdok_258_0 : zdok cX9_several zi_258_0 := zdok_of (by decide +kernel)
theorem zdok_258_1 : zdok cX9_several zi_258_1 := zdok_of (by decide +kernel)
theorem zdok_258_2 : zdok cX9_several zi_258_2 := zdok_of (by decide +kernel)
theorem zdok_258 : zdok cX9_several zi_258 := zdok_app zdok_258_0 (zdok_app zdok_258_1 (zdok_258_2))
theorem zdok_259 : zdok cX9_pair zi_259 := zdok_of (by decide +kernel)
theorem zdok_260 : zdok cX9_turn zi_260 := zdok_of (by decide +kernel)
theorem zdok_261 : zdok cX9_drop zi_261 := zdok_of (by decide +kernel)
theorem zdok_262_0 : zdok cX9_condOf zi_262_0 := zdok_of (by decide +kernel)
theorem zdok_262_1 : zdok cX9_condOf zi_262_1 := zdok_of (by decide +kernel)
theorem zdok_262 : zdok cX9_condOf zi_262 := zdok_app zdok_262_0 (zdok_262_1)
theorem zdok_263 : zdok cX9_lineOf zi_263 := zdok_of (by decide +kernel)
theorem zdok_264 : zdok cX9_isIndex zi_264 := zdok_of (by decide +kernel)
theorem zdok_265 : zdok cX9_keyOf zi_265 := zdok_of (by decide +kernel)
theorem zdok_266 : zdok cX9_truth zi_266 := zdok_of (by decide +kernel)
theorem zdok_267 : zdok cX9_keysOf zi_267 := zdok_of (by decide +kernel)
theorem zdok_268 : zdok cX9_keys zi_268 := zdok_of (by decide +kernel)
theorem zdok_269 : zdok cX9_linesOf zi_269 := zdok_of (by decide +kernel)
theorem zdok_270 : zdok cX9_lines zi_270 := zdok_of (by decide +kernel)
theorem zdok_271 : zdok cX9_valuesOf zi_271 := zdok_of (by decide +kernel)
theorem zdok_272 : zdok cX9_values zi_272 := zdok_of (by decide +kernel)
theorem zdok_273_0 : zdok cX9_runsIn zi_273_0 := zdok_of (by decide +kernel)
theorem zdok_273_1 : zdok cX9_runsIn zi_273_1 := zdok_of (by decide +kernel)
theorem zdok_273 : zdok cX9_runsIn zi_273 := zdok_app zdok_273_0 (zdok_273_1)
theorem zdok_274_0 : zdok cX9_mergeOnce zi_274_0 := zdok_of (by decide +kernel)
theorem zdok_274_1 : zdok cX9_mergeOnce zi_274_1 := zdok_of (by decide +kernel)
theorem zdok_274 : zdok cX9_mergeOnce zi_274 := zdok_app zdok_274_0 (zdok_274_1)
theorem zdok_275 : zdok cX9_planIn zi_275 := zdok_of (by decide +kernel)
theorem zdok_276 : zdok cX9_spanAt zi_276 := zdok_of (by decide +kernel)
theorem zdok_277 : zdok cX9_runs zi_277 := zdok_of (by decide +kernel)
theorem zdok_278 : zdok cX9_run zi_278 := zdok_of (by decide +kernel)
theorem zdok_279 : zdok cX9_plan zi_279 := zdok_of (by decide +kernel)
theorem zdok_280 : zdok cX9_isRead zi_280 := zdok_of (by decide +kernel)
theorem zdok_281 : zdok cX9_readIn zi_281 := zdok_of (by decide +kernel)
theorem zdok_282 : zdok cX9_otherKeys zi_282 := zdok_of (by decide +kernel)
theorem zdok_283 : zdok cX9_still zi_283 := zdok_of (by decide +kernel)
theorem zdok_284 : zdok cX9_costIn zi_284 := zdok_of (by decide +kernel)
theorem zdok_285_0 : zdok cX9_of zi_285_0 := zdok_of (by decide +kernel)
theorem zdok_285_1 : zdok cX9_of zi_285_1 := zdok_of (by decide +kernel)
theorem zdok_285 : zdok cX9_of zi_285 := zdok_app zdok_285_0 (zdok_285_1)
theorem zdok_286 : zdok cX9_bestIn zi_286 := zdok_of (by decide +kernel)
theorem zdok_287 : zdok cX9_best zi_287 := zdok_of (by decide +kernel)
theorem zdok_288 : zdok cX9_bestIndex zi_288 := zdok_of (by decide +kernel)
theorem zdok_289_0 : zdok cX9_seek zi_289_0 := zdok_of (by decide +kernel)
theorem zdok_289_1 : zdok cX9_seek zi_289_1 := zdok_of (by decide +kernel)
theorem zdok_289 : zdok cX9_seek zi_289 := zdok_app zdok_289_0 (zdok_289_1)
theorem zdok_290_0 : zdok cX9_leads zi_290_0 := zdok_of (by decide +kernel)
theorem zdok_290_1 : zdok cX9_leads zi_290_1 := zdok_of (by decide +kernel)
theorem zdok_290 : zdok cX9_leads zi_290 := zdok_app zdok_290_0 (zdok_290_1)
theorem zdok_291_0 : zdok cX9_leaders zi_291_0 := zdok_of (by decide +kernel)
theorem zdok_291_1 : zdok cX9_leaders zi_291_1 := zdok_of (by decide +kernel)
theorem zdok_291 : zdok cX9_leaders zi_291 := zdok_app zdok_291_0 (zdok_291_1)
theorem zdok_292 : zdok cX9_without zi_292 := zdok_of (by decide +kernel)
theorem zdok_293 : zdok cX9_isAhead zi_293 := zdok_of (by decide +kernel)
theorem zdok_294_0 : zdok cX9_findIn zi_294_0 := zdok_of (by decide +kernel)
theorem zdok_294_1 : zdok cX9_findIn zi_294_1 := zdok_of (by decide +kernel)
theorem zdok_294 : zdok cX9_findIn zi_294 := zdok_app zdok_294_0 (zdok_294_1)
theorem zdok_295 : zdok cX9_found zi_295 := zdok_of (by decide +kernel)
theorem zdok_296 : zdok cX9_order zi_296 := zdok_of (by decide +kernel)
theorem zdok_297_0 : zdok cX9_behind zi_297_0 := zdok_of (by decide +kernel)
theorem zdok_297_1 : zdok cX9_behind zi_297_1 := zdok_of (by decide +kernel)
theorem zdok_297 : zdok cX9_behind zi_297 := zdok_app zdok_297_0 (zdok_297_1)
theorem zdok_298 : zdok cX9_implies zi_298 := zdok_of (by decide +kernel)
theorem zdok_299 : zdok cX9_differ zi_299 := zdok_of (by decide +kernel)
theorem zdok_300 : zdok cX9_alike zi_300 := zdok_of (by decide +kernel)
theorem zdok_301 : zdok cX9_same zi_301 := zdok_of (by decide +kernel)
theorem zdok_302_0 : zdok cX9_isTold zi_302_0 := zdok_of (by decide +kernel)
theorem zdok_302_1 : zdok cX9_isTold zi_302_1 := zdok_of (by decide +kernel)
theorem zdok_302 : zdok cX9_isTold zi_302 := zdok_app zdok_302_0 (zdok_302_1)
theorem zdok_303_0 : zdok cX9_signs zi_303_0 := zdok_of (by decide +kernel)
theorem zdok_303_1 : zdok cX9_signs zi_303_1 := zdok_of (by decide +kernel)
theorem zdok_303_2 : zdok cX9_signs zi_303_2 := zdok_of (by decide +kernel)
theorem zdok_303 : zdok cX9_signs zi_303 := zdok_app zdok_303_0 (zdok_app zdok_303_1 (zdok_303_2))
theorem zdok_304_0 : zdok cX9_judge zi_304_0 := zdok_of (by decide +kernel)
theorem zdok_304_1 : zdok cX9_judge zi_304_1 := zdok_of (by decide +kernel)
theorem zdok_304 : zdok cX9_judge zi_304 := zdok_app zdok_304_0 (zdok_304_1)
theorem zdok_305 : zdok cX9_many zi_305 := zdok_of (by decide +kernel)
theorem zdok_306_0 : zdok cX9_whatIf zi_306_0 := zdok_of (by decide +kernel)
theorem zdok_306_1 : zdok cX9_whatIf zi_306_1 := zdok_of (by decide +kernel)
theorem zdok_306 : zdok cX9_whatIf zi_306 := zdok_app zdok_306_0 (zdok_306_1)
theorem zdok_307 : zdok cX9_draw zi_307 := zdok_of (by decide +kernel)
theorem zdok_308_0 : zdok cX9_days zi_308_0 := zdok_of (by decide +kernel)
theorem zdok_308_1 : zdok cX9_days zi_308_1 := zdok_of (by decide +kernel)
theorem zdok_308 : zdok cX9_days zi_308 := zdok_app zdok_308_0 (zdok_308_1)
theorem zdok_309 : zdok cX9_seed zi_309 := zdok_of (by decide +kernel)
theorem zdok_310 : zdok cX9_take zi_310 := zdok_of (by decide +kernel)
theorem zdok_311 : zdok cX9_image zi_311 := zdok_of (by decide +kernel)
theorem zdok_312_0 : zdok cX9_back zi_312_0 := zdok_of (by decide +kernel)
theorem zdok_312_1 : zdok cX9_back zi_312_1 := zdok_of (by decide +kernel)
theorem zdok_312 : zdok cX9_back zi_312 := zdok_app zdok_312_0 (zdok_312_1)
theorem zdok_313 : zdok cX9_differentKeys zi_313 := zdok_of (by decide +kernel)
theorem zdok_314_0 : zdok cX9_status zi_314_0 := zdok_of (by decide +kernel)
theorem zdok_314_1 : zdok cX9_status zi_314_1 := zdok_of (by decide +kernel)
theorem zdok_314 : zdok cX9_status zi_314 := zdok_app zdok_314_0 (zdok_314_1)
theorem zdok_315 : zdok cJ6_bitCount_0f7a4 zi_315 := zdok_of (by decide +kernel)
theorem zdok_316 : zdok cJ9_max_7cf53 zi_316 := zdok_of (by decide +kernel)
theorem zdok_317 : zdok cJ9_min_7cf53 zi_317 := zdok_of (by decide +kernel)
theorem zdok_318_0 : zdok code zi_318_0 := zdok_of (by decide +kernel)
theorem zdok_318_1 : zdok code zi_318_1 := zdok_of (by decide +kernel)
theorem zdok_318_2 : zdok code zi_318_2 := zdok_of (by decide +kernel)
theorem zdok_318_3 : zdok code zi_318_3 := zdok_of (by decide +kernel)
theorem zdok_318_4 : zdok code zi_318_4 := zdok_of (by decide +kernel)
theorem zdok_318_5 : zdok code zi_318_5 := zdok_of (by decide +kernel)
theorem zdok_318_6 : zdok code zi_318_6 := zdok_of (by decide +kernel)
theorem zdok_318_7 : zdok code zi_318_7 := zdok_of (by decide +kernel)
theorem zdok_318_8 : zdok code zi_318_8 := zdok_of (by decide +kernel)
theorem zdok_318_9 : zdok code zi_318_9 := zdok_of (by decide +kernel)
theorem zdok_318_10 : zdok code zi_318_10 := zdok_of (by decide +kernel)
theorem zdok_318_11 : zdok code zi_318_11 := zdok_of (by decide +kernel)
theorem zdok_318_12 : zdok code zi_318_12 := zdok_of (by decide +kernel)
theorem zdok_318_13 : zdok code zi_318_13 := zdok_of (by decide +kernel)
theorem zdok_318_14 : zdok code zi_318_14 := zdok_of (by decide +kernel)
theorem zdok_318_15 : zdok code zi_318_15 := zdok_of (by decide +kernel)
theorem zdok_318_16 : zdok code zi_318_16 := zdok_of (by decide +kernel)
theorem zdok_318_17 : zdok code zi_318_17 := zdok_of (by decide +kernel)
theorem zdok_318_18 : zdok code zi_318_18 := zdok_of (by decide +kernel)
theorem zdok_318_19 : zdok code zi_318_19 := zdok_of (by decide +kernel)
theorem zdok_318_20 : zdok code zi_318_20 := zdok_of (by decide +kernel)
theorem zdok_318_21 : zdok code zi_318_21 := zdok_of (by decide +kernel)
theorem zdok_318_22 : zdok code zi_318_22 := zdok_of (by decide +kernel)
theorem zdok_318_23 : zdok code zi_318_23 := zdok_of (by decide +kernel)
theorem zdok_318_24 : zdok code zi_318_24 := zdok_of (by decide +kernel)
theorem zdok_318_25 : zdok code zi_318_25 := zdok_of (by decide +kernel)
theorem zdok_318_26 : zdok code zi_318_26 := zdok_of (by decide +kernel)
theorem zdok_318_27 : zdok code zi_318_27 := zdok_of (by decide +kernel)
theorem zdok_318_28 : zdok code zi_318_28 := zdok_of (by decide +kernel)
theorem zdok_318_29 : zdok code zi_318_29 := zdok_of (by decide +kernel)
theorem zdok_318_30 : zdok code zi_318_30 := zdok_of (by decide +kernel)
theorem zdok_318_31 : zdok code zi_318_31 := zdok_of (by decide +kernel)
theorem zdok_318_32 : zdok code zi_318_32 := zdok_of (by decide +kernel)
theorem zdok_318 : zdok code zi_318 := zdok_app zdok_318_0 (zdok_app zdok_318_1 (zdok_app zdok_318_2 (zdok_app zdok_318_3 (zdok_app zdok_318_4 (zdok_app zdok_318_5 (zdok_app zdok_318_6 (zdok_app zdok_318_7 (zdok_app zdok_318_8 (zdok_app zdok_318_9 (zdok_app zdok_318_10 (zdok_app zdok_318_11 (zdok_app zdok_318_12 (zdok_app zdok_318_13 (zdok_app zdok_318_14 (zdok_app zdok_318_15 (zdok_app zdok_318_16 (zdok_app zdok_318_17 (zdok_app zdok_318_18 (zdok_app zdok_318_19 (zdok_app zdok_318_20 (zdok_app zdok_318_21 (zdok_app zdok_318_22 (zdok_app zdok_318_23 (zdok_app zdok_318_24 (zdok_app zdok_318_25 (zdok_app zdok_318_26 (zdok_app zdok_318_27 (zdok_app zdok_318_28 (zdok_app zdok_318_29 (zdok_app zdok_318_30 (zdok_app zdok_318_31 (zdok_318_32))))))))))))))))))))))))))))))))
theorem zchk_0 : zpair zT_0 zI_0 := ⟨zdok_0, zdok_1, zdok_2, zdok_3, zdok_4, zdok_5, zdok_6, zdok_7, zdok_8, zdok_9, zdok_10, zdok_11, zdok_12, zdok_13, zdok_14, zdok_15, zdok_16, zdok_17, zdok_18, zdok_19, zdok_20, zdok_21, zdok_22, zdok_23, zdok_24, zdok_25, zdok_26, zdok_27, zdok_28, zdok_29, zdok_30, zdok_31, zdok_32, zdok_33, zdok_34, zdok_35, zdok_36, zdok_37, zdok_38, zdok_39, trivial⟩
theorem zchk_1 : zpair zT_1 zI_1 := ⟨zdok_40, zdok_41, zdok_42, zdok_43, zdok_44, zdok_45, zdok_46, zdok_47, zdok_48, zdok_49, zdok_50, zdok_51, zdok_52, zdok_53, zdok_54, zdok_55, zdok_56, zdok_57, zdok_58, zdok_59, zdok_60, zdok_61, zdok_62, zdok_63, zdok_64, zdok_65, zdok_66, zdok_67, zdok_68, zdok_69, zdok_70, zdok_71, zdok_72, zdok_73, zdok_74, zdok_75, zdok_76, zdok_77, zdok_78, zdok_79, trivial⟩
theorem zchk_2 : zpair zT_2 zI_2 := ⟨zdok_80, zdok_81, zdok_82, zdok_83, zdok_84, zdok_85, zdok_86, zdok_87, zdok_88, zdok_89, zdok_90, zdok_91, zdok_92, zdok_93, zdok_94, zdok_95, zdok_96, zdok_97, zdok_98, zdok_99, zdok_100, zdok_101, zdok_102, zdok_103, zdok_104, zdok_105, zdok_106, zdok_107, zdok_108, zdok_109, zdok_110, zdok_111, zdok_112, zdok_113, zdok_114, zdok_115, zdok_116, zdok_117, zdok_118, zdok_119, trivial⟩
theorem zchk_3 : zpair zT_3 zI_3 := ⟨zdok_120, zdok_121, zdok_122, zdok_123, zdok_124, zdok_125, zdok_126, zdok_127, zdok_128, zdok_129, zdok_130, zdok_131, zdok_132, zdok_133, zdok_134, zdok_135, zdok_136, zdok_137, zdok_138, zdok_139, zdok_140, zdok_141, zdok_142, zdok_143, zdok_144, zdok_145, zdok_146, zdok_147, zdok_148, zdok_149, zdok_150, zdok_151, zdok_152, zdok_153, zdok_154, zdok_155, zdok_156, zdok_157, zdok_158, zdok_159, trivial⟩
theorem zchk_4 : zpair zT_4 zI_4 := ⟨zdok_160, zdok_161, zdok_162, zdok_163, zdok_164, zdok_165, zdok_166, zdok_167, zdok_168, zdok_169, zdok_170, zdok_171, zdok_172, zdok_173, zdok_174, zdok_175, zdok_176, zdok_177, zdok_178, zdok_179, zdok_180, zdok_181, zdok_182, zdok_183, zdok_184, zdok_185, zdok_186, zdok_187, zdok_188, zdok_189, zdok_190, zdok_191, zdok_192, zdok_193, zdok_194, zdok_195, zdok_196, zdok_197, zdok_198, zdok_199, trivial⟩
theorem zchk_5 : zpair zT_5 zI_5 := ⟨zdok_200, zdok_201, zdok_202, zdok_203, zdok_204, zdok_205, zdok_206, zdok_207, zdok_208, zdok_209, zdok_210, zdok_211, zdok_212, zdok_213, zdok_214, zdok_215, zdok_216, zdok_217, zdok_218, zdok_219, zdok_220, zdok_221, zdok_222, zdok_223, zdok_224, zdok_225, zdok_226, zdok_227, zdok_228, zdok_229, zdok_230, zdok_231, zdok_232, zdok_233, zdok_234, zdok_235, zdok_236, zdok_237, zdok_238, zdok_239, trivial⟩
theorem zchk_6 : zpair zT_6 zI_6 := ⟨zdok_240, zdok_241, zdok_242, zdok_243, zdok_244, zdok_245, zdok_246, zdok_247, zdok_248, zdok_249, zdok_250, zdok_251, zdok_252, zdok_253, zdok_254, zdok_255, zdok_256, zdok_257, zdok_258, zdok_259, zdok_260, zdok_261, zdok_262, zdok_263, zdok_264, zdok_265, zdok_266, zdok_267, zdok_268, zdok_269, zdok_270, zdok_271, zdok_272, zdok_273, zdok_274, zdok_275, zdok_276, zdok_277, zdok_278, zdok_279, trivial⟩
theorem zchk_7 : zpair zT_7 zI_7 := ⟨zdok_280, zdok_281, zdok_282, zdok_283, zdok_284, zdok_285, zdok_286, zdok_287, zdok_288, zdok_289, zdok_290, zdok_291, zdok_292, zdok_293, zdok_294, zdok_295, zdok_296, zdok_297, zdok_298, zdok_299, zdok_300, zdok_301, zdok_302, zdok_303, zdok_304, zdok_305, zdok_306, zdok_307, zdok_308, zdok_309, zdok_310, zdok_311, zdok_312, zdok_313, zdok_314, zdok_315, zdok_316, zdok_317, zdok_318, trivial⟩
end
section
theorem zrow_0 {k : Nat} (h : k / 40 = 0) : zrow k = (zT_0[k % 40]?).getD zNone := by
  unfold zrow
  simp only [h]
theorem zinsT_0 {k : Nat} (h : k / 40 = 0) : zinsT k = (zI_0[k % 40]?).getD [] := by
  unfold zinsT
  simp only [h]
theorem zrow_1 {k : Nat} (h : k / 40 = 1) : zrow k = (zT_1[k % 40]?).getD zNone := by
  unfold zrow
  simp only [h]
theorem zinsT_1 {k : Nat} (h : k / 40 = 1) : zinsT k = (zI_1[k % 40]?).getD [] := by
  unfold zinsT
  simp only [h]
theorem zrow_2 {k : Nat} (h : k / 40 = 2) : zrow k = (zT_2[k % 40]?).getD zNone := by
  unfold zrow
  simp only [h]
theorem zinsT_2 {k : Nat} (h : k / 40 = 2) : zinsT k = (zI_2[k % 40]?).getD [] := by
  unfold zinsT
  simp only [h]
theorem zrow_3 {k : Nat} (h : k / 40 = 3) : zrow k = (zT_3[k % 40]?).getD zNone := by
  unfold zrow
  simp only [h]
theorem zinsT_3 {k : Nat} (h : k / 40 = 3) : zinsT k = (zI_3[k % 40]?).getD [] := by
  unfold zinsT
  simp only [h]
theorem zrow_4 {k : Nat} (h : k / 40 = 4) : zrow k = (zT_4[k % 40]?).getD zNone := by
  unfold zrow
  simp only [h]
theorem zinsT_4 {k : Nat} (h : k / 40 = 4) : zinsT k = (zI_4[k % 40]?).getD [] := by
  unfold zinsT
  simp only [h]
theorem zrow_5 {k : Nat} (h : k / 40 = 5) : zrow k = (zT_5[k % 40]?).getD zNone := by
  unfold zrow
  simp only [h]
theorem zinsT_5 {k : Nat} (h : k / 40 = 5) : zinsT k = (zI_5[k % 40]?).getD [] := by
  unfold zinsT
  simp only [h]
theorem zrow_6 {k : Nat} (h : k / 40 = 6) : zrow k = (zT_6[k % 40]?).getD zNone := by
  unfold zrow
  simp only [h]
theorem zinsT_6 {k : Nat} (h : k / 40 = 6) : zinsT k = (zI_6[k % 40]?).getD [] := by
  unfold zinsT
  simp only [h]
theorem zrow_7 {k : Nat} (h : k / 40 = 7) : zrow k = (zT_7[k % 40]?).getD zNone := by
  unfold zrow
  simp only [h]
theorem zinsT_7 {k : Nat} (h : k / 40 = 7) : zinsT k = (zI_7[k % 40]?).getD [] := by
  unfold zinsT
  simp only [h]
theorem zinsT_out {k : Nat} (h : 8 ≤ k / 40) : zinsT k = [] := by
  unfold zinsT
  split
  · omega
  · omega
  · omega
  · omega
  · omega
  · omega
  · omega
  · omega
  · rfl
theorem zins_ok {k pc : Nat} {q : Instr × Nat} (h : zins k pc = some q) : decode (zcode k) pc = .ok q := by
  have h1 : (pc, q) ∈ zinsT k := zlk_mem _ _ _ h
  have hc : zcode k = (zrow k).2.1 := rfl
  by_cases e0 : k / 40 = 0
  · rw [zinsT_0 e0] at h1
    rw [hc, zrow_0 e0]
    have h2 := zpair_use (T := zT_0) (I := zI_0) zchk_0 (k % 40) zNone (pc, q) h1
    exact h2
  by_cases e1 : k / 40 = 1
  · rw [zinsT_1 e1] at h1
    rw [hc, zrow_1 e1]
    have h2 := zpair_use (T := zT_1) (I := zI_1) zchk_1 (k % 40) zNone (pc, q) h1
    exact h2
  by_cases e2 : k / 40 = 2
  · rw [zinsT_2 e2] at h1
    rw [hc, zrow_2 e2]
    have h2 := zpair_use (T := zT_2) (I := zI_2) zchk_2 (k % 40) zNone (pc, q) h1
    exact h2
  by_cases e3 : k / 40 = 3
  · rw [zinsT_3 e3] at h1
    rw [hc, zrow_3 e3]
    have h2 := zpair_use (T := zT_3) (I := zI_3) zchk_3 (k % 40) zNone (pc, q) h1
    exact h2
  by_cases e4 : k / 40 = 4
  · rw [zinsT_4 e4] at h1
    rw [hc, zrow_4 e4]
    have h2 := zpair_use (T := zT_4) (I := zI_4) zchk_4 (k % 40) zNone (pc, q) h1
    exact h2
  by_cases e5 : k / 40 = 5
  · rw [zinsT_5 e5] at h1
    rw [hc, zrow_5 e5]
    have h2 := zpair_use (T := zT_5) (I := zI_5) zchk_5 (k % 40) zNone (pc, q) h1
    exact h2
  by_cases e6 : k / 40 = 6
  · rw [zinsT_6 e6] at h1
    rw [hc, zrow_6 e6]
    have h2 := zpair_use (T := zT_6) (I := zI_6) zchk_6 (k % 40) zNone (pc, q) h1
    exact h2
  by_cases e7 : k / 40 = 7
  · rw [zinsT_7 e7] at h1
    rw [hc, zrow_7 e7]
    have h2 := zpair_use (T := zT_7) (I := zI_7) zchk_7 (k % 40) zNone (pc, q) h1
    exact h2
  rw [zinsT_out (by omega)] at h1
  cases h1
def zhas (q : zPos) (w : Cond) : Bool := decide ((zpart q.1)[q.2]? = some w) && goodWord w
theorem zpart_in {i : Nat} {w : Cond} (h : w ∈ zpart i) : w ∈ lw_tbl := by
  unfold zpart at h
  unfold lw_tbl tables_1
  simp only [List.mem_append]
  split at h
  · simp only [h, true_or, or_true]
  · simp only [h, true_or, or_true]
  · simp only [h, true_or, or_true]
  · simp only [h, true_or, or_true]
  · simp only [h, true_or, or_true]
  · simp only [h, true_or, or_true]
  · simp only [h, true_or, or_true]
  · simp only [h, true_or, or_true]
  · simp only [h, true_or, or_true]
  · cases h
def zTs : List Cond := lw_tbl.filter goodWord
theorem zhas_in {q : zPos} {w : Cond} (h : zhas q w = true) : w ∈ zTs := by
  unfold zhas at h
  rw [Bool.and_eq_true] at h
  exact List.mem_filter.mpr ⟨zpart_in (List.mem_of_getElem? (of_decide_eq_true h.1)), h.2⟩
theorem zTs_good : ∀ w ∈ zTs, (w.onTables && w.keeps) = true ∨ ∃ ty, w = .arrayClass ty := fun _ h => good_of_word (List.mem_filter.mp h).2
def zmOk (t : zRow) : Bool := Nat.ble 3 t.2.2.2.2.1 || (zhas t.2.2.2.2.2.2.2.1 (.code t.1 t.2.1 t.2.2.1 t.2.2.2.1) && (bif Nat.beq t.2.2.2.2.1 0 then zhas t.2.2.2.2.2.2.2.2.1 (.static t.1) else zhas t.2.2.2.2.2.2.2.2.1 (.instanceMethod t.1)) && zhas t.2.2.2.2.2.2.2.2.2.1 (.initialized t.1.cls) && (!(Nat.beq t.2.2.2.2.1 1) || zhas t.2.2.2.2.2.2.2.2.2.2 (.selects t.1.cls t.1 t.1)) && (!(Nat.beq t.2.2.2.2.1 2) || decide (t.1.name = "<init>")) && decide (t.1.cls ≠ "java/lang/invoke/MethodHandle" ∧ t.1.cls ≠ "java/lang/invoke/VarHandle" ∧ (parseMethodDescriptor t.1.desc).map (fun d => d.parameters.length) = some t.2.2.2.2.2.1) && plainName t.1.cls && Nat.ble t.2.2.1 40 && decide (t.1.cls = zcn t.2.2.2.2.2.2.1))
theorem zm_0 : zT_0.all zmOk = true := by decide +kernel
theorem zm_1 : zT_1.all zmOk = true := by decide +kernel
theorem zm_2 : zT_2.all zmOk = true := by decide +kernel
theorem zm_3 : zT_3.all zmOk = true := by decide +kernel
theorem zm_4 : zT_4.all zmOk = true := by decide +kernel
theorem zm_5 : zT_5.all zmOk = true := by decide +kernel
theorem zm_6 : zT_6.all zmOk = true := by decide +kernel
theorem zm_7 : zT_7.all zmOk = true := by decide +kernel
theorem zm_ok (k : Nat) : zmOk (zrow k) = true := by
  have hd : ∀ (T : List zRow) (j : Nat), T.all zmOk = true → zmOk ((T[j]?).getD zNone) = true := by
    intro T j h
    cases e : T[j]? with
    | none => rfl
    | some t => exact List.all_eq_true.mp h t (List.mem_of_getElem? e)
  unfold zrow
  split
  · exact hd _ _ zm_0
  · exact hd _ _ zm_1
  · exact hd _ _ zm_2
  · exact hd _ _ zm_3
  · exact hd _ _ zm_4
  · exact hd _ _ zm_5
  · exact hd _ _ zm_6
  · exact hd _ _ zm_7
  · rfl
def zMlOk (c : Nat) (e : Nat × Nat × Nat × zPos) : Bool := bif Nat.beq e.2.1 1000 then zhas e.2.2.2 (.methodLink (zcn c) e.1 Lib.objectInit) && Nat.beq e.2.2.1 0 else bif Nat.beq e.2.1 1001 then zhas e.2.2.2 (.methodLink (zcn c) e.1 arraycopyName) && Nat.beq e.2.2.1 0 else bif Nat.beq e.2.2.1 0 then zhas e.2.2.2 (.methodLink (zcn c) e.1 (zrow e.2.1).1) else zhas e.2.2.2 (.methodLinkNest (zcn c) e.1 (zrow e.2.1).1 "SkippingKeys")
theorem zMl_ok_0 : (zMl_0).all (zMlOk 0) = true := by decide +kernel
theorem zMl_ok_1 : (zMl_1).all (zMlOk 1) = true := by decide +kernel
theorem zMl_ok_2 : (zMl_2).all (zMlOk 2) = true := by decide +kernel
theorem zMl_ok_3 : (zMl_3).all (zMlOk 3) = true := by decide +kernel
theorem zMl_ok_4 : (zMl_4).all (zMlOk 4) = true := by decide +kernel
theorem zMl_ok_5 : (zMl_5).all (zMlOk 5) = true := by decide +kernel
theorem zMl_ok_6 : (zMl_6).all (zMlOk 6) = true := by decide +kernel
theorem zMl_ok_7 : (zMl_7).all (zMlOk 7) = true := by decide +kernel
theorem zMl_ok_8 : (zMl_8).all (zMlOk 8) = true := by decide +kernel
theorem zMl_ok_9 : (zMl_9).all (zMlOk 9) = true := by decide +kernel
theorem zMl_ok_10 : (zMl_10).all (zMlOk 10) = true := by decide +kernel
theorem zMl_ok (c : Nat) : ∀ e ∈ zMl c, zMlOk c e = true := by
  intro e he
  unfold zMl at he
  split at he
  · exact List.all_eq_true.mp zMl_ok_0 e he
  · exact List.all_eq_true.mp zMl_ok_1 e he
  · exact List.all_eq_true.mp zMl_ok_2 e he
  · exact List.all_eq_true.mp zMl_ok_3 e he
  · exact List.all_eq_true.mp zMl_ok_4 e he
  · exact List.all_eq_true.mp zMl_ok_5 e he
  · exact List.all_eq_true.mp zMl_ok_6 e he
  · exact List.all_eq_true.mp zMl_ok_7 e he
  · exact List.all_eq_true.mp zMl_ok_8 e he
  · exact List.all_eq_true.mp zMl_ok_9 e he
  · exact List.all_eq_true.mp zMl_ok_10 e he
  · cases he
def zTX (c : Nat) : u_T := match c with
  | 0 => TX0
  | 1 => TX1
  | 2 => TX2
  | 3 => TX3
  | 4 => TX4
  | 5 => TX5
  | 6 => TX6
  | 7 => TX7
  | 8 => TX8
  | 9 => TX9
  | _ => TX0
def ztyX (c : Nat) : Nat → FieldType := match c with
  | 0 => tyX0
  | 1 => tyX1
  | 2 => tyX2
  | 3 => tyX3
  | 4 => tyX4
  | 5 => tyX5
  | 6 => tyX6
  | 7 => tyX7
  | 8 => tyX8
  | 9 => tyX9
  | _ => tyX0
def zNf (c : Nat) : Nat := match c with
  | 0 => 12
  | 1 => 3
  | 2 => 4
  | 3 => 2
  | 4 => 6
  | 5 => 3
  | 6 => 12
  | 7 => 3
  | 8 => 12
  | 9 => 41
  | _ => 0
def zFlOk (c : Nat) (e : Nat × Nat × Nat × zPos) : Bool := zhas e.2.2.2 (.fieldLink (zcn c) e.1 (zTX e.2.1 e.2.2.1).1 (zTX e.2.1 e.2.2.1).2.1 (zTX e.2.1 e.2.2.1).2.2.1) && Nat.blt e.2.2.1 (zNf e.2.1) && Nat.blt e.2.1 10
theorem zFl_ok_0 : (zFl_0).all (zFlOk 0) = true := by decide +kernel
theorem zFl_ok_1 : (zFl_1).all (zFlOk 1) = true := by decide +kernel
theorem zFl_ok_2 : (zFl_2).all (zFlOk 2) = true := by decide +kernel
theorem zFl_ok_3 : (zFl_3).all (zFlOk 3) = true := by decide +kernel
theorem zFl_ok_4 : (zFl_4).all (zFlOk 4) = true := by decide +kernel
theorem zFl_ok_5 : (zFl_5).all (zFlOk 5) = true := by decide +kernel
theorem zFl_ok_6 : (zFl_6).all (zFlOk 6) = true := by decide +kernel
theorem zFl_ok_7 : (zFl_7).all (zFlOk 7) = true := by decide +kernel
theorem zFl_ok_8 : (zFl_8).all (zFlOk 8) = true := by decide +kernel
theorem zFl_ok_9 : (zFl_9).all (zFlOk 9) = true := by decide +kernel
theorem zFl_ok (c : Nat) : ∀ e ∈ zFl c, zFlOk c e = true := by
  intro e he
  unfold zFl at he
  split at he
  · exact List.all_eq_true.mp zFl_ok_0 e he
  · exact List.all_eq_true.mp zFl_ok_1 e he
  · exact List.all_eq_true.mp zFl_ok_2 e he
  · exact List.all_eq_true.mp zFl_ok_3 e he
  · exact List.all_eq_true.mp zFl_ok_4 e he
  · exact List.all_eq_true.mp zFl_ok_5 e he
  · exact List.all_eq_true.mp zFl_ok_6 e he
  · exact List.all_eq_true.mp zFl_ok_7 e he
  · exact List.all_eq_true.mp zFl_ok_8 e he
  · exact List.all_eq_true.mp zFl_ok_9 e he
  · cases he
def zSn (i : Nat) : String := match i with
  | 1 => "COLUMN_AT"
  | _ => "WEIGHT"
def zSlOk (c : Nat) (e : Nat × Nat × Nat × zPos) : Bool := (bif Nat.beq e.2.2.1 0 then zhas e.2.2.2 (.fieldLink (zcn c) e.1 "SkippingKeys" (zSn e.2.1) "[I") else zhas e.2.2.2 (.fieldLinkNest (zcn c) e.1 "SkippingKeys" (zSn e.2.1) "[I" "SkippingKeys")) && (Nat.beq e.2.1 1 || Nat.beq e.2.1 2)
theorem zSl_ok_0 : (zSl_0).all (zSlOk 0) = true := by decide +kernel
theorem zSl_ok_2 : (zSl_2).all (zSlOk 2) = true := by decide +kernel
theorem zSl_ok_8 : (zSl_8).all (zSlOk 8) = true := by decide +kernel
theorem zSl_ok (c : Nat) : ∀ e ∈ zSl c, zSlOk c e = true := by
  intro e he
  unfold zSl at he
  split at he
  · exact List.all_eq_true.mp zSl_ok_0 e he
  · exact List.all_eq_true.mp zSl_ok_2 e he
  · exact List.all_eq_true.mp zSl_ok_8 e he
  · cases he
def zKlOk (c : Nat) (e : Nat × Nat × Int × zPos) : Bool := bif Nat.beq e.2.1 0 then zhas e.2.2.2 (.constant (zcn c) e.1 (Int32.ofInt e.2.2.1)) && decide (-2147483648 ≤ e.2.2.1 ∧ e.2.2.1 < 2147483648) else zhas e.2.2.2 (.constantLong (zcn c) e.1 (Int64.ofInt e.2.2.1)) && decide (-9223372036854775808 ≤ e.2.2.1 ∧ e.2.2.1 < 9223372036854775808)
theorem zKl_ok_2 : (zKl_2).all (zKlOk 2) = true := by decide +kernel
theorem zKl_ok_8 : (zKl_8).all (zKlOk 8) = true := by decide +kernel
theorem zKl_ok_9 : (zKl_9).all (zKlOk 9) = true := by decide +kernel
theorem zKl_ok_10 : (zKl_10).all (zKlOk 10) = true := by decide +kernel
theorem zKl_ok_11 : (zKl_11).all (zKlOk 11) = true := by decide +kernel
theorem zKl_ok (c : Nat) : ∀ e ∈ zKl c, zKlOk c e = true := by
  intro e he
  unfold zKl at he
  split at he
  · exact List.all_eq_true.mp zKl_ok_2 e he
  · exact List.all_eq_true.mp zKl_ok_8 e he
  · exact List.all_eq_true.mp zKl_ok_9 e he
  · exact List.all_eq_true.mp zKl_ok_10 e he
  · exact List.all_eq_true.mp zKl_ok_11 e he
  · cases he
def zClOk (c : Nat) (e : Nat × Nat × zPos) : Bool := zhas e.2.2 (.classLink (zcn c) e.1 (bif Nat.beq e.2.1 100 then "[[J" else zcn e.2.1)) && (Nat.beq e.2.1 100 || Nat.blt e.2.1 10)
theorem zCl_ok_1 : (zCl_1).all (zClOk 1) = true := by decide +kernel
theorem zCl_ok_8 : (zCl_8).all (zClOk 8) = true := by decide +kernel
theorem zCl_ok_9 : (zCl_9).all (zClOk 9) = true := by decide +kernel
theorem zCl_ok_10 : (zCl_10).all (zClOk 10) = true := by decide +kernel
theorem zCl_ok (c : Nat) : ∀ e ∈ zCl c, zClOk c e = true := by
  intro e he
  unfold zCl at he
  split at he
  · exact List.all_eq_true.mp zCl_ok_1 e he
  · exact List.all_eq_true.mp zCl_ok_8 e he
  · exact List.all_eq_true.mp zCl_ok_9 e he
  · exact List.all_eq_true.mp zCl_ok_10 e he
  · cases he
def zwAll : Nat → List Cond → List zPos → Bool
  | _, [], _ => true
  | n, w :: l, q :: m => zhas q w && zwAll n l m
  | _, _ :: _, [] => false
theorem zwAll_in : ∀ (n : Nat) (l : List Cond) (m : List zPos), zwAll n l m = true → ∀ w ∈ l, w ∈ zTs
  | _, [], _, _, w, h => by cases h
  | n, w :: l, q :: m, h, v, hv => by
    unfold zwAll at h
    rw [Bool.and_eq_true] at h
    rcases List.mem_cons.mp hv with rfl | h2
    · exact zhas_in h.1
    · exact zwAll_in n l m h.2 v h2
  | _, _ :: _, [], h, _, _ => by cases h
theorem zCw_in_0 : ∀ w ∈ u_ws RX0 TX0 12, w ∈ zTs := zwAll_in 0 _ zCw_0 (by decide +kernel)
theorem zCi_in_0 : Cond.instantiable RX0 12 ∈ zTs := zhas_in (q := zCi_0) (by decide +kernel)
theorem zCw_in_1 : ∀ w ∈ u_ws RX1 TX1 3, w ∈ zTs := zwAll_in 0 _ zCw_1 (by decide +kernel)
theorem zCi_in_1 : Cond.instantiable RX1 3 ∈ zTs := zhas_in (q := zCi_1) (by decide +kernel)
theorem zCw_in_2 : ∀ w ∈ u_ws RX2 TX2 4, w ∈ zTs := zwAll_in 0 _ zCw_2 (by decide +kernel)
theorem zCi_in_2 : Cond.instantiable RX2 4 ∈ zTs := zhas_in (q := zCi_2) (by decide +kernel)
theorem zCw_in_3 : ∀ w ∈ u_ws RX3 TX3 2, w ∈ zTs := zwAll_in 0 _ zCw_3 (by decide +kernel)
theorem zCi_in_3 : Cond.instantiable RX3 2 ∈ zTs := zhas_in (q := zCi_3) (by decide +kernel)
theorem zCw_in_4 : ∀ w ∈ u_ws RX4 TX4 6, w ∈ zTs := zwAll_in 0 _ zCw_4 (by decide +kernel)
theorem zCi_in_4 : Cond.instantiable RX4 6 ∈ zTs := zhas_in (q := zCi_4) (by decide +kernel)
theorem zCw_in_5 : ∀ w ∈ u_ws RX5 TX5 3, w ∈ zTs := zwAll_in 0 _ zCw_5 (by decide +kernel)
theorem zCi_in_5 : Cond.instantiable RX5 3 ∈ zTs := zhas_in (q := zCi_5) (by decide +kernel)
theorem zCw_in_6 : ∀ w ∈ u_ws RX6 TX6 12, w ∈ zTs := zwAll_in 0 _ zCw_6 (by decide +kernel)
theorem zCi_in_6 : Cond.instantiable RX6 12 ∈ zTs := zhas_in (q := zCi_6) (by decide +kernel)
theorem zCw_in_7 : ∀ w ∈ u_ws RX7 TX7 3, w ∈ zTs := zwAll_in 0 _ zCw_7 (by decide +kernel)
theorem zCi_in_7 : Cond.instantiable RX7 3 ∈ zTs := zhas_in (q := zCi_7) (by decide +kernel)
theorem zCw_in_8 : ∀ w ∈ u_ws RX8 TX8 12, w ∈ zTs := zwAll_in 0 _ zCw_8 (by decide +kernel)
theorem zCi_in_8 : Cond.instantiable RX8 12 ∈ zTs := zhas_in (q := zCi_8) (by decide +kernel)
theorem zCw_in_9 : ∀ w ∈ u_ws RX9 TX9 41, w ∈ zTs := zwAll_in 0 _ zCw_9 (by decide +kernel)
theorem zCi_in_9 : Cond.instantiable RX9 41 ∈ zTs := zhas_in (q := zCi_9) (by decide +kernel)
end
