-- ===== PART A: goes FIRST, ahead of the names: the tables' words, and 'selects' of the private methods out of them =====
/-- a private method of a class that the tables say can be made, by its rows of tables_1 -/
def lw_okq (q : MethodName × Nat) : Prop := (q.1.cls ≠ "java/lang/invoke/MethodHandle" ∧ q.1.cls ≠ "java/lang/invoke/VarHandle") ∧ Cond.instantiable q.1.cls q.2 ∈ tables_1 ∧ Cond.privateMethod q.1 ∈ tables_1 ∧ Cond.instanceMethod q.1 ∈ tables_1
theorem lw_p0 : lw_okq (⟨"SkippingKeys", "refuse", "(I)I"⟩, 12) := ⟨⟨by decide +kernel, by decide +kernel⟩, List.mem_of_getElem? (i := 15) (by decide +kernel), List.mem_of_getElem? (i := 297) (by decide +kernel), List.mem_of_getElem? (i := 298) (by decide +kernel)⟩
theorem lw_p1 : lw_okq (⟨"SkippingKeys$Lines", "putAll", "(IIII)V"⟩, 4) := ⟨⟨by decide +kernel, by decide +kernel⟩, List.mem_of_getElem? (i := 23) (by decide +kernel), List.mem_of_getElem? (i := 424) (by decide +kernel), List.mem_of_getElem? (i := 425) (by decide +kernel)⟩
theorem lw_p2 : lw_okq (⟨"SkippingKeys$Reader", "readLine", "(LSkippingKeys$Tape;)Z"⟩, 6) := ⟨⟨by decide +kernel, by decide +kernel⟩, List.mem_of_getElem? (i := 163) (by decide +kernel), List.mem_of_getElem? (i := 491) (by decide +kernel), List.mem_of_getElem? (i := 492) (by decide +kernel)⟩
theorem lw_p3 : lw_okq (⟨"SkippingKeys$Reader", "isClosed", "(LSkippingKeys$Conditions;)Z"⟩, 6) := ⟨⟨by decide +kernel, by decide +kernel⟩, List.mem_of_getElem? (i := 163) (by decide +kernel), List.mem_of_getElem? (i := 526) (by decide +kernel), List.mem_of_getElem? (i := 527) (by decide +kernel)⟩
theorem lw_p4 : lw_okq (⟨"SkippingKeys$Reader", "closeOr", "(LSkippingKeys$Conditions;)V"⟩, 6) := ⟨⟨by decide +kernel, by decide +kernel⟩, List.mem_of_getElem? (i := 163) (by decide +kernel), List.mem_of_getElem? (i := 530) (by decide +kernel), List.mem_of_getElem? (i := 531) (by decide +kernel)⟩
theorem lw_p5 : lw_okq (⟨"SkippingKeys$Reader", "topOpen", "()I"⟩, 6) := ⟨⟨by decide +kernel, by decide +kernel⟩, List.mem_of_getElem? (i := 163) (by decide +kernel), List.mem_of_getElem? (i := 534) (by decide +kernel), List.mem_of_getElem? (i := 535) (by decide +kernel)⟩
theorem lw_p6 : lw_okq (⟨"SkippingKeys$Reader", "popOpen", "()V"⟩, 6) := ⟨⟨by decide +kernel, by decide +kernel⟩, List.mem_of_getElem? (i := 163) (by decide +kernel), List.mem_of_getElem? (i := 538) (by decide +kernel), List.mem_of_getElem? (i := 539) (by decide +kernel)⟩
theorem lw_p7 : lw_okq (⟨"SkippingKeys$Reader", "popWhole", "()I"⟩, 6) := ⟨⟨by decide +kernel, by decide +kernel⟩, List.mem_of_getElem? (i := 163) (by decide +kernel), List.mem_of_getElem? (i := 542) (by decide +kernel), List.mem_of_getElem? (i := 543) (by decide +kernel)⟩
theorem lw_p8 : lw_okq (⟨"SkippingKeys$Reader", "pushWhole", "(I)V"⟩, 6) := ⟨⟨by decide +kernel, by decide +kernel⟩, List.mem_of_getElem? (i := 163) (by decide +kernel), List.mem_of_getElem? (i := 559) (by decide +kernel), List.mem_of_getElem? (i := 560) (by decide +kernel)⟩
theorem lw_p9 : lw_okq (⟨"SkippingKeys$Reader", "pushOpen", "(I)V"⟩, 6) := ⟨⟨by decide +kernel, by decide +kernel⟩, List.mem_of_getElem? (i := 163) (by decide +kernel), List.mem_of_getElem? (i := 566) (by decide +kernel), List.mem_of_getElem? (i := 567) (by decide +kernel)⟩
theorem lw_p10 : lw_okq (⟨"SkippingKeys$Reader", "turnIsWhole", "(LSkippingKeys$Conditions;I)V"⟩, 6) := ⟨⟨by decide +kernel, by decide +kernel⟩, List.mem_of_getElem? (i := 163) (by decide +kernel), List.mem_of_getElem? (i := 614) (by decide +kernel), List.mem_of_getElem? (i := 615) (by decide +kernel)⟩
theorem lw_p11 : lw_okq (⟨"SkippingKeys$Reader", "readBehindTurn", "(LSkippingKeys$Tape;LSkippingKeys$Conditions;I)Z"⟩, 6) := ⟨⟨by decide +kernel, by decide +kernel⟩, List.mem_of_getElem? (i := 163) (by decide +kernel), List.mem_of_getElem? (i := 618) (by decide +kernel), List.mem_of_getElem? (i := 619) (by decide +kernel)⟩
theorem lw_p12 : lw_okq (⟨"SkippingKeys", "settled", "()I"⟩, 12) := ⟨⟨by decide +kernel, by decide +kernel⟩, List.mem_of_getElem? (i := 15) (by decide +kernel), List.mem_of_getElem? (i := 626) (by decide +kernel), List.mem_of_getElem? (i := 627) (by decide +kernel)⟩
theorem lw_p13 : lw_okq (⟨"SkippingKeys$Condition", "leafTruth", "(I)I"⟩, 12) := ⟨⟨by decide +kernel, by decide +kernel⟩, List.mem_of_getElem? (i := 56) (by decide +kernel), List.mem_of_getElem? (i := 645) (by decide +kernel), List.mem_of_getElem? (i := 646) (by decide +kernel)⟩
theorem lw_p14 : lw_okq (⟨"SkippingKeys$Condition", "digitOf", "(II)I"⟩, 12) := ⟨⟨by decide +kernel, by decide +kernel⟩, List.mem_of_getElem? (i := 56) (by decide +kernel), List.mem_of_getElem? (i := 649) (by decide +kernel), List.mem_of_getElem? (i := 650) (by decide +kernel)⟩
theorem lw_p15 : lw_okq (⟨"SkippingKeys$Condition", "orderTruth", "(I)I"⟩, 12) := ⟨⟨by decide +kernel, by decide +kernel⟩, List.mem_of_getElem? (i := 56) (by decide +kernel), List.mem_of_getElem? (i := 659) (by decide +kernel), List.mem_of_getElem? (i := 660) (by decide +kernel)⟩
def lw_privs_1 : List (MethodName × Nat) := [(⟨"SkippingKeys", "refuse", "(I)I"⟩, 12), (⟨"SkippingKeys$Lines", "putAll", "(IIII)V"⟩, 4), (⟨"SkippingKeys$Reader", "readLine", "(LSkippingKeys$Tape;)Z"⟩, 6), (⟨"SkippingKeys$Reader", "isClosed", "(LSkippingKeys$Conditions;)Z"⟩, 6), (⟨"SkippingKeys$Reader", "closeOr", "(LSkippingKeys$Conditions;)V"⟩, 6), (⟨"SkippingKeys$Reader", "topOpen", "()I"⟩, 6), (⟨"SkippingKeys$Reader", "popOpen", "()V"⟩, 6), (⟨"SkippingKeys$Reader", "popWhole", "()I"⟩, 6), (⟨"SkippingKeys$Reader", "pushWhole", "(I)V"⟩, 6), (⟨"SkippingKeys$Reader", "pushOpen", "(I)V"⟩, 6), (⟨"SkippingKeys$Reader", "turnIsWhole", "(LSkippingKeys$Conditions;I)V"⟩, 6), (⟨"SkippingKeys$Reader", "readBehindTurn", "(LSkippingKeys$Tape;LSkippingKeys$Conditions;I)Z"⟩, 6), (⟨"SkippingKeys", "settled", "()I"⟩, 12), (⟨"SkippingKeys$Condition", "leafTruth", "(I)I"⟩, 12), (⟨"SkippingKeys$Condition", "digitOf", "(II)I"⟩, 12), (⟨"SkippingKeys$Condition", "orderTruth", "(I)I"⟩, 12)]
theorem lw_r1 : ∀ q ∈ lw_privs_1, lw_okq q := List.forall_mem_cons.mpr ⟨lw_p0, List.forall_mem_cons.mpr ⟨lw_p1, List.forall_mem_cons.mpr ⟨lw_p2, List.forall_mem_cons.mpr ⟨lw_p3, List.forall_mem_cons.mpr ⟨lw_p4, List.forall_mem_cons.mpr ⟨lw_p5, List.forall_mem_cons.mpr ⟨lw_p6, List.forall_mem_cons.mpr ⟨lw_p7, List.forall_mem_cons.mpr ⟨lw_p8, List.forall_mem_cons.mpr ⟨lw_p9, List.forall_mem_cons.mpr ⟨lw_p10, List.forall_mem_cons.mpr ⟨lw_p11, List.forall_mem_cons.mpr ⟨lw_p12, List.forall_mem_cons.mpr ⟨lw_p13, List.forall_mem_cons.mpr ⟨lw_p14, List.forall_mem_cons.mpr ⟨lw_p15, fun _ h => absurd h List.not_mem_nil⟩⟩⟩⟩⟩⟩⟩⟩⟩⟩⟩⟩⟩⟩⟩⟩
theorem lw_p16 : lw_okq (⟨"SkippingKeys$Condition", "equalTruth", "(I)I"⟩, 12) := ⟨⟨by decide +kernel, by decide +kernel⟩, List.mem_of_getElem? (i := 56) (by decide +kernel), List.mem_of_getElem? (i := 663) (by decide +kernel), List.mem_of_getElem? (i := 664) (by decide +kernel)⟩
theorem lw_p17 : lw_okq (⟨"SkippingKeys$Condition", "joinedTruth", "(II)I"⟩, 12) := ⟨⟨by decide +kernel, by decide +kernel⟩, List.mem_of_getElem? (i := 56) (by decide +kernel), List.mem_of_getElem? (i := 677) (by decide +kernel), List.mem_of_getElem? (i := 678) (by decide +kernel)⟩
theorem lw_p18 : lw_okq (⟨"SkippingKeys", "tellsSeveral", "(II)Z"⟩, 12) := ⟨⟨by decide +kernel, by decide +kernel⟩, List.mem_of_getElem? (i := 15) (by decide +kernel), List.mem_of_getElem? (i := 717) (by decide +kernel), List.mem_of_getElem? (i := 718) (by decide +kernel)⟩
theorem lw_p19 : lw_okq (⟨"SkippingKeys", "isCondAndIndex", "(II)Z"⟩, 12) := ⟨⟨by decide +kernel, by decide +kernel⟩, List.mem_of_getElem? (i := 15) (by decide +kernel), List.mem_of_getElem? (i := 767) (by decide +kernel), List.mem_of_getElem? (i := 768) (by decide +kernel)⟩
theorem lw_p20 : lw_okq (⟨"SkippingKeys$Spans", "orderGaps", "()V"⟩, 12) := ⟨⟨by decide +kernel, by decide +kernel⟩, List.mem_of_getElem? (i := 188) (by decide +kernel), List.mem_of_getElem? (i := 832) (by decide +kernel), List.mem_of_getElem? (i := 833) (by decide +kernel)⟩
theorem lw_p21 : lw_okq (⟨"SkippingKeys$Spans", "widthOf", "(I)I"⟩, 12) := ⟨⟨by decide +kernel, by decide +kernel⟩, List.mem_of_getElem? (i := 188) (by decide +kernel), List.mem_of_getElem? (i := 836) (by decide +kernel), List.mem_of_getElem? (i := 837) (by decide +kernel)⟩
theorem lw_p22 : lw_okq (⟨"SkippingKeys$Spans", "gapAt", "(I)I"⟩, 12) := ⟨⟨by decide +kernel, by decide +kernel⟩, List.mem_of_getElem? (i := 188) (by decide +kernel), List.mem_of_getElem? (i := 862) (by decide +kernel), List.mem_of_getElem? (i := 863) (by decide +kernel)⟩
theorem lw_p23 : lw_okq (⟨"SkippingKeys", "stillToTest", "(II)I"⟩, 12) := ⟨⟨by decide +kernel, by decide +kernel⟩, List.mem_of_getElem? (i := 15) (by decide +kernel), List.mem_of_getElem? (i := 867) (by decide +kernel), List.mem_of_getElem? (i := 868) (by decide +kernel)⟩
theorem lw_p24 : lw_okq (⟨"SkippingKeys", "isTrueInPlan", "(LSkippingKeys$Condition;I)Z"⟩, 12) := ⟨⟨by decide +kernel, by decide +kernel⟩, List.mem_of_getElem? (i := 15) (by decide +kernel), List.mem_of_getElem? (i := 871) (by decide +kernel), List.mem_of_getElem? (i := 872) (by decide +kernel)⟩
theorem lw_p25 : lw_okq (⟨"SkippingKeys$Spans", "countLinesByGap", "(LSkippingKeys$Lines;I)I"⟩, 12) := ⟨⟨by decide +kernel, by decide +kernel⟩, List.mem_of_getElem? (i := 188) (by decide +kernel), List.mem_of_getElem? (i := 884) (by decide +kernel), List.mem_of_getElem? (i := 885) (by decide +kernel)⟩
theorem lw_p26 : lw_okq (⟨"SkippingKeys", "clearSeen", "()V"⟩, 12) := ⟨⟨by decide +kernel, by decide +kernel⟩, List.mem_of_getElem? (i := 15) (by decide +kernel), List.mem_of_getElem? (i := 908) (by decide +kernel), List.mem_of_getElem? (i := 909) (by decide +kernel)⟩
theorem lw_p27 : lw_okq (⟨"SkippingKeys", "countSeen", "()I"⟩, 12) := ⟨⟨by decide +kernel, by decide +kernel⟩, List.mem_of_getElem? (i := 15) (by decide +kernel), List.mem_of_getElem? (i := 913) (by decide +kernel), List.mem_of_getElem? (i := 914) (by decide +kernel)⟩
theorem lw_p28 : lw_okq (⟨"SkippingKeys$Ranking", "insert", "(I)V"⟩, 2) := ⟨⟨by decide +kernel, by decide +kernel⟩, List.mem_of_getElem? (i := 235) (by decide +kernel), List.mem_of_getElem? (i := 930) (by decide +kernel), List.mem_of_getElem? (i := 931) (by decide +kernel)⟩
theorem lw_p29 : lw_okq (⟨"SkippingKeys", "tellsLines", "(II)Z"⟩, 12) := ⟨⟨by decide +kernel, by decide +kernel⟩, List.mem_of_getElem? (i := 15) (by decide +kernel), List.mem_of_getElem? (i := 972) (by decide +kernel), List.mem_of_getElem? (i := 973) (by decide +kernel)⟩
theorem lw_p30 : lw_okq (⟨"SkippingKeys", "fitsTold", "(IIIII)Z"⟩, 12) := ⟨⟨by decide +kernel, by decide +kernel⟩, List.mem_of_getElem? (i := 15) (by decide +kernel), List.mem_of_getElem? (i := 976) (by decide +kernel), List.mem_of_getElem? (i := 977) (by decide +kernel)⟩
theorem lw_p31 : lw_okq (⟨"SkippingKeys$Lines", "draw", "(I)I"⟩, 4) := ⟨⟨by decide +kernel, by decide +kernel⟩, List.mem_of_getElem? (i := 23) (by decide +kernel), List.mem_of_getElem? (i := 1005) (by decide +kernel), List.mem_of_getElem? (i := 1006) (by decide +kernel)⟩
def lw_privs_2 : List (MethodName × Nat) := [(⟨"SkippingKeys$Condition", "equalTruth", "(I)I"⟩, 12), (⟨"SkippingKeys$Condition", "joinedTruth", "(II)I"⟩, 12), (⟨"SkippingKeys", "tellsSeveral", "(II)Z"⟩, 12), (⟨"SkippingKeys", "isCondAndIndex", "(II)Z"⟩, 12), (⟨"SkippingKeys$Spans", "orderGaps", "()V"⟩, 12), (⟨"SkippingKeys$Spans", "widthOf", "(I)I"⟩, 12), (⟨"SkippingKeys$Spans", "gapAt", "(I)I"⟩, 12), (⟨"SkippingKeys", "stillToTest", "(II)I"⟩, 12), (⟨"SkippingKeys", "isTrueInPlan", "(LSkippingKeys$Condition;I)Z"⟩, 12), (⟨"SkippingKeys$Spans", "countLinesByGap", "(LSkippingKeys$Lines;I)I"⟩, 12), (⟨"SkippingKeys", "clearSeen", "()V"⟩, 12), (⟨"SkippingKeys", "countSeen", "()I"⟩, 12), (⟨"SkippingKeys$Ranking", "insert", "(I)V"⟩, 2), (⟨"SkippingKeys", "tellsLines", "(II)Z"⟩, 12), (⟨"SkippingKeys", "fitsTold", "(IIIII)Z"⟩, 12), (⟨"SkippingKeys$Lines", "draw", "(I)I"⟩, 4)]
theorem lw_r2 : ∀ q ∈ lw_privs_2, lw_okq q := List.forall_mem_cons.mpr ⟨lw_p16, List.forall_mem_cons.mpr ⟨lw_p17, List.forall_mem_cons.mpr ⟨lw_p18, List.forall_mem_cons.mpr ⟨lw_p19, List.forall_mem_cons.mpr ⟨lw_p20, List.forall_mem_cons.mpr ⟨lw_p21, List.forall_mem_cons.mpr ⟨lw_p22, List.forall_mem_cons.mpr ⟨lw_p23, List.forall_mem_cons.mpr ⟨lw_p24, List.forall_mem_cons.mpr ⟨lw_p25, List.forall_mem_cons.mpr ⟨lw_p26, List.forall_mem_cons.mpr ⟨lw_p27, List.forall_mem_cons.mpr ⟨lw_p28, List.forall_mem_cons.mpr ⟨lw_p29, List.forall_mem_cons.mpr ⟨lw_p30, List.forall_mem_cons.mpr ⟨lw_p31, fun _ h => absurd h List.not_mem_nil⟩⟩⟩⟩⟩⟩⟩⟩⟩⟩⟩⟩⟩⟩⟩⟩
theorem lw_p32 : lw_okq (⟨"SkippingKeys", "countDifferentKeys", "()I"⟩, 12) := ⟨⟨by decide +kernel, by decide +kernel⟩, List.mem_of_getElem? (i := 15) (by decide +kernel), List.mem_of_getElem? (i := 1043) (by decide +kernel), List.mem_of_getElem? (i := 1044) (by decide +kernel)⟩
theorem lw_p33 : lw_okq (⟨"SkippingKeysModel", "refuse", "(I)I"⟩, 41) := ⟨⟨by decide +kernel, by decide +kernel⟩, List.mem_of_getElem? (i := 1051) (by decide +kernel), List.mem_of_getElem? (i := 1193) (by decide +kernel), List.mem_of_getElem? (i := 1194) (by decide +kernel)⟩
theorem lw_p34 : lw_okq (⟨"SkippingKeysModel", "noRow", "(I)I"⟩, 41) := ⟨⟨by decide +kernel, by decide +kernel⟩, List.mem_of_getElem? (i := 1051) (by decide +kernel), List.mem_of_getElem? (i := 1201) (by decide +kernel), List.mem_of_getElem? (i := 1202) (by decide +kernel)⟩
theorem lw_p35 : lw_okq (⟨"SkippingKeysModel", "isCond", "(I)Z"⟩, 41) := ⟨⟨by decide +kernel, by decide +kernel⟩, List.mem_of_getElem? (i := 1051) (by decide +kernel), List.mem_of_getElem? (i := 1224) (by decide +kernel), List.mem_of_getElem? (i := 1225) (by decide +kernel)⟩
theorem lw_p36 : lw_okq (⟨"SkippingKeysModel", "keysOf", "(II)I"⟩, 41) := ⟨⟨by decide +kernel, by decide +kernel⟩, List.mem_of_getElem? (i := 1051) (by decide +kernel), List.mem_of_getElem? (i := 1236) (by decide +kernel), List.mem_of_getElem? (i := 1237) (by decide +kernel)⟩
theorem lw_p37 : lw_okq (⟨"SkippingKeysModel", "isAt", "(II)I"⟩, 41) := ⟨⟨by decide +kernel, by decide +kernel⟩, List.mem_of_getElem? (i := 1051) (by decide +kernel), List.mem_of_getElem? (i := 1240) (by decide +kernel), List.mem_of_getElem? (i := 1241) (by decide +kernel)⟩
theorem lw_p38 : lw_okq (⟨"SkippingKeysModel", "valuesOf", "(II)I"⟩, 41) := ⟨⟨by decide +kernel, by decide +kernel⟩, List.mem_of_getElem? (i := 1051) (by decide +kernel), List.mem_of_getElem? (i := 1244) (by decide +kernel), List.mem_of_getElem? (i := 1245) (by decide +kernel)⟩
theorem lw_p39 : lw_okq (⟨"SkippingKeysModel", "put", "(IIII)V"⟩, 41) := ⟨⟨by decide +kernel, by decide +kernel⟩, List.mem_of_getElem? (i := 1051) (by decide +kernel), List.mem_of_getElem? (i := 1259) (by decide +kernel), List.mem_of_getElem? (i := 1260) (by decide +kernel)⟩
theorem lw_p40 : lw_okq (⟨"SkippingKeysModel", "isLine", "(I)Z"⟩, 41) := ⟨⟨by decide +kernel, by decide +kernel⟩, List.mem_of_getElem? (i := 1051) (by decide +kernel), List.mem_of_getElem? (i := 1267) (by decide +kernel), List.mem_of_getElem? (i := 1268) (by decide +kernel)⟩
theorem lw_p41 : lw_okq (⟨"SkippingKeysModel", "strikeOut", "(I)V"⟩, 41) := ⟨⟨by decide +kernel, by decide +kernel⟩, List.mem_of_getElem? (i := 1051) (by decide +kernel), List.mem_of_getElem? (i := 1276) (by decide +kernel), List.mem_of_getElem? (i := 1277) (by decide +kernel)⟩
theorem lw_p42 : lw_okq (⟨"SkippingKeysModel", "tableFault", "()I"⟩, 41) := ⟨⟨by decide +kernel, by decide +kernel⟩, List.mem_of_getElem? (i := 1051) (by decide +kernel), List.mem_of_getElem? (i := 1298) (by decide +kernel), List.mem_of_getElem? (i := 1299) (by decide +kernel)⟩
theorem lw_p43 : lw_okq (⟨"SkippingKeysModel", "condHere", "()I"⟩, 41) := ⟨⟨by decide +kernel, by decide +kernel⟩, List.mem_of_getElem? (i := 1051) (by decide +kernel), List.mem_of_getElem? (i := 1311) (by decide +kernel), List.mem_of_getElem? (i := 1312) (by decide +kernel)⟩
theorem lw_p44 : lw_okq (⟨"SkippingKeysModel", "eachHere", "()I"⟩, 41) := ⟨⟨by decide +kernel, by decide +kernel⟩, List.mem_of_getElem? (i := 1051) (by decide +kernel), List.mem_of_getElem? (i := 1315) (by decide +kernel), List.mem_of_getElem? (i := 1316) (by decide +kernel)⟩
theorem lw_p45 : lw_okq (⟨"SkippingKeysModel", "turnHere", "()I"⟩, 41) := ⟨⟨by decide +kernel, by decide +kernel⟩, List.mem_of_getElem? (i := 1051) (by decide +kernel), List.mem_of_getElem? (i := 1319) (by decide +kernel), List.mem_of_getElem? (i := 1320) (by decide +kernel)⟩
theorem lw_p46 : lw_okq (⟨"SkippingKeysModel", "sees", "(I)Z"⟩, 41) := ⟨⟨by decide +kernel, by decide +kernel⟩, List.mem_of_getElem? (i := 1051) (by decide +kernel), List.mem_of_getElem? (i := 1323) (by decide +kernel), List.mem_of_getElem? (i := 1324) (by decide +kernel)⟩
theorem lw_p47 : lw_okq (⟨"SkippingKeysModel", "here", "()I"⟩, 41) := ⟨⟨by decide +kernel, by decide +kernel⟩, List.mem_of_getElem? (i := 1051) (by decide +kernel), List.mem_of_getElem? (i := 1327) (by decide +kernel), List.mem_of_getElem? (i := 1328) (by decide +kernel)⟩
def lw_privs_3 : List (MethodName × Nat) := [(⟨"SkippingKeys", "countDifferentKeys", "()I"⟩, 12), (⟨"SkippingKeysModel", "refuse", "(I)I"⟩, 41), (⟨"SkippingKeysModel", "noRow", "(I)I"⟩, 41), (⟨"SkippingKeysModel", "isCond", "(I)Z"⟩, 41), (⟨"SkippingKeysModel", "keysOf", "(II)I"⟩, 41), (⟨"SkippingKeysModel", "isAt", "(II)I"⟩, 41), (⟨"SkippingKeysModel", "valuesOf", "(II)I"⟩, 41), (⟨"SkippingKeysModel", "put", "(IIII)V"⟩, 41), (⟨"SkippingKeysModel", "isLine", "(I)Z"⟩, 41), (⟨"SkippingKeysModel", "strikeOut", "(I)V"⟩, 41), (⟨"SkippingKeysModel", "tableFault", "()I"⟩, 41), (⟨"SkippingKeysModel", "condHere", "()I"⟩, 41), (⟨"SkippingKeysModel", "eachHere", "()I"⟩, 41), (⟨"SkippingKeysModel", "turnHere", "()I"⟩, 41), (⟨"SkippingKeysModel", "sees", "(I)Z"⟩, 41), (⟨"SkippingKeysModel", "here", "()I"⟩, 41)]
theorem lw_r3 : ∀ q ∈ lw_privs_3, lw_okq q := List.forall_mem_cons.mpr ⟨lw_p32, List.forall_mem_cons.mpr ⟨lw_p33, List.forall_mem_cons.mpr ⟨lw_p34, List.forall_mem_cons.mpr ⟨lw_p35, List.forall_mem_cons.mpr ⟨lw_p36, List.forall_mem_cons.mpr ⟨lw_p37, List.forall_mem_cons.mpr ⟨lw_p38, List.forall_mem_cons.mpr ⟨lw_p39, List.forall_mem_cons.mpr ⟨lw_p40, List.forall_mem_cons.mpr ⟨lw_p41, List.forall_mem_cons.mpr ⟨lw_p42, List.forall_mem_cons.mpr ⟨lw_p43, List.forall_mem_cons.mpr ⟨lw_p44, List.forall_mem_cons.mpr ⟨lw_p45, List.forall_mem_cons.mpr ⟨lw_p46, List.forall_mem_cons.mpr ⟨lw_p47, fun _ h => absurd h List.not_mem_nil⟩⟩⟩⟩⟩⟩⟩⟩⟩⟩⟩⟩⟩⟩⟩⟩
theorem lw_p48 : lw_okq (⟨"SkippingKeysModel", "makeOver", "(III)I"⟩, 41) := ⟨⟨by decide +kernel, by decide +kernel⟩, List.mem_of_getElem? (i := 1051) (by decide +kernel), List.mem_of_getElem? (i := 1331) (by decide +kernel), List.mem_of_getElem? (i := 1332) (by decide +kernel)⟩
theorem lw_p49 : lw_okq (⟨"SkippingKeysModel", "clearTold", "()V"⟩, 41) := ⟨⟨by decide +kernel, by decide +kernel⟩, List.mem_of_getElem? (i := 1051) (by decide +kernel), List.mem_of_getElem? (i := 1335) (by decide +kernel), List.mem_of_getElem? (i := 1336) (by decide +kernel)⟩
theorem lw_p50 : lw_okq (⟨"SkippingKeysModel", "make", "(I)I"⟩, 41) := ⟨⟨by decide +kernel, by decide +kernel⟩, List.mem_of_getElem? (i := 1051) (by decide +kernel), List.mem_of_getElem? (i := 1339) (by decide +kernel), List.mem_of_getElem? (i := 1340) (by decide +kernel)⟩
theorem lw_p51 : lw_okq (⟨"SkippingKeysModel", "must", "(I)V"⟩, 41) := ⟨⟨by decide +kernel, by decide +kernel⟩, List.mem_of_getElem? (i := 1051) (by decide +kernel), List.mem_of_getElem? (i := 1343) (by decide +kernel), List.mem_of_getElem? (i := 1344) (by decide +kernel)⟩
theorem lw_p52 : lw_okq (⟨"SkippingKeysModel", "wrong", "()I"⟩, 41) := ⟨⟨by decide +kernel, by decide +kernel⟩, List.mem_of_getElem? (i := 1051) (by decide +kernel), List.mem_of_getElem? (i := 1347) (by decide +kernel), List.mem_of_getElem? (i := 1348) (by decide +kernel)⟩
theorem lw_p53 : lw_okq (⟨"SkippingKeysModel", "columnHere", "(I)I"⟩, 41) := ⟨⟨by decide +kernel, by decide +kernel⟩, List.mem_of_getElem? (i := 1051) (by decide +kernel), List.mem_of_getElem? (i := 1353) (by decide +kernel), List.mem_of_getElem? (i := 1354) (by decide +kernel)⟩
theorem lw_p54 : lw_okq (⟨"SkippingKeysModel", "severalHere", "(I)I"⟩, 41) := ⟨⟨by decide +kernel, by decide +kernel⟩, List.mem_of_getElem? (i := 1051) (by decide +kernel), List.mem_of_getElem? (i := 1357) (by decide +kernel), List.mem_of_getElem? (i := 1358) (by decide +kernel)⟩
theorem lw_p55 : lw_okq (⟨"SkippingKeysModel", "signHere", "()V"⟩, 41) := ⟨⟨by decide +kernel, by decide +kernel⟩, List.mem_of_getElem? (i := 1051) (by decide +kernel), List.mem_of_getElem? (i := 1361) (by decide +kernel), List.mem_of_getElem? (i := 1362) (by decide +kernel)⟩
theorem lw_p56 : lw_okq (⟨"SkippingKeysModel", "number", "(II)I"⟩, 41) := ⟨⟨by decide +kernel, by decide +kernel⟩, List.mem_of_getElem? (i := 1051) (by decide +kernel), List.mem_of_getElem? (i := 1368) (by decide +kernel), List.mem_of_getElem? (i := 1369) (by decide +kernel)⟩
theorem lw_p57 : lw_okq (⟨"SkippingKeysModel", "amongHere", "(I)I"⟩, 41) := ⟨⟨by decide +kernel, by decide +kernel⟩, List.mem_of_getElem? (i := 1051) (by decide +kernel), List.mem_of_getElem? (i := 1372) (by decide +kernel), List.mem_of_getElem? (i := 1373) (by decide +kernel)⟩
theorem lw_p58 : lw_okq (⟨"SkippingKeysModel", "added", "()I"⟩, 41) := ⟨⟨by decide +kernel, by decide +kernel⟩, List.mem_of_getElem? (i := 1051) (by decide +kernel), List.mem_of_getElem? (i := 1376) (by decide +kernel), List.mem_of_getElem? (i := 1377) (by decide +kernel)⟩
theorem lw_p59 : lw_okq (⟨"SkippingKeysModel", "workFrom", "(I)V"⟩, 41) := ⟨⟨by decide +kernel, by decide +kernel⟩, List.mem_of_getElem? (i := 1051) (by decide +kernel), List.mem_of_getElem? (i := 1380) (by decide +kernel), List.mem_of_getElem? (i := 1381) (by decide +kernel)⟩
theorem lw_p60 : lw_okq (⟨"SkippingKeysModel", "leafIn", "(I)V"⟩, 41) := ⟨⟨by decide +kernel, by decide +kernel⟩, List.mem_of_getElem? (i := 1051) (by decide +kernel), List.mem_of_getElem? (i := 1384) (by decide +kernel), List.mem_of_getElem? (i := 1385) (by decide +kernel)⟩
theorem lw_p61 : lw_okq (⟨"SkippingKeysModel", "overIn", "(I)V"⟩, 41) := ⟨⟨by decide +kernel, by decide +kernel⟩, List.mem_of_getElem? (i := 1051) (by decide +kernel), List.mem_of_getElem? (i := 1388) (by decide +kernel), List.mem_of_getElem? (i := 1389) (by decide +kernel)⟩
theorem lw_p62 : lw_okq (⟨"SkippingKeysModel", "worked", "(II)I"⟩, 41) := ⟨⟨by decide +kernel, by decide +kernel⟩, List.mem_of_getElem? (i := 1051) (by decide +kernel), List.mem_of_getElem? (i := 1392) (by decide +kernel), List.mem_of_getElem? (i := 1393) (by decide +kernel)⟩
theorem lw_p63 : lw_okq (⟨"SkippingKeysModel", "leafFor", "(II)I"⟩, 41) := ⟨⟨by decide +kernel, by decide +kernel⟩, List.mem_of_getElem? (i := 1051) (by decide +kernel), List.mem_of_getElem? (i := 1396) (by decide +kernel), List.mem_of_getElem? (i := 1397) (by decide +kernel)⟩
def lw_privs_4 : List (MethodName × Nat) := [(⟨"SkippingKeysModel", "makeOver", "(III)I"⟩, 41), (⟨"SkippingKeysModel", "clearTold", "()V"⟩, 41), (⟨"SkippingKeysModel", "make", "(I)I"⟩, 41), (⟨"SkippingKeysModel", "must", "(I)V"⟩, 41), (⟨"SkippingKeysModel", "wrong", "()I"⟩, 41), (⟨"SkippingKeysModel", "columnHere", "(I)I"⟩, 41), (⟨"SkippingKeysModel", "severalHere", "(I)I"⟩, 41), (⟨"SkippingKeysModel", "signHere", "()V"⟩, 41), (⟨"SkippingKeysModel", "number", "(II)I"⟩, 41), (⟨"SkippingKeysModel", "amongHere", "(I)I"⟩, 41), (⟨"SkippingKeysModel", "added", "()I"⟩, 41), (⟨"SkippingKeysModel", "workFrom", "(I)V"⟩, 41), (⟨"SkippingKeysModel", "leafIn", "(I)V"⟩, 41), (⟨"SkippingKeysModel", "overIn", "(I)V"⟩, 41), (⟨"SkippingKeysModel", "worked", "(II)I"⟩, 41), (⟨"SkippingKeysModel", "leafFor", "(II)I"⟩, 41)]
theorem lw_r4 : ∀ q ∈ lw_privs_4, lw_okq q := List.forall_mem_cons.mpr ⟨lw_p48, List.forall_mem_cons.mpr ⟨lw_p49, List.forall_mem_cons.mpr ⟨lw_p50, List.forall_mem_cons.mpr ⟨lw_p51, List.forall_mem_cons.mpr ⟨lw_p52, List.forall_mem_cons.mpr ⟨lw_p53, List.forall_mem_cons.mpr ⟨lw_p54, List.forall_mem_cons.mpr ⟨lw_p55, List.forall_mem_cons.mpr ⟨lw_p56, List.forall_mem_cons.mpr ⟨lw_p57, List.forall_mem_cons.mpr ⟨lw_p58, List.forall_mem_cons.mpr ⟨lw_p59, List.forall_mem_cons.mpr ⟨lw_p60, List.forall_mem_cons.mpr ⟨lw_p61, List.forall_mem_cons.mpr ⟨lw_p62, List.forall_mem_cons.mpr ⟨lw_p63, fun _ h => absurd h List.not_mem_nil⟩⟩⟩⟩⟩⟩⟩⟩⟩⟩⟩⟩⟩⟩⟩⟩
theorem lw_p64 : lw_okq (⟨"SkippingKeysModel", "severalFor", "(II)I"⟩, 41) := ⟨⟨by decide +kernel, by decide +kernel⟩, List.mem_of_getElem? (i := 1051) (by decide +kernel), List.mem_of_getElem? (i := 1400) (by decide +kernel), List.mem_of_getElem? (i := 1401) (by decide +kernel)⟩
theorem lw_p65 : lw_okq (⟨"SkippingKeysModel", "tell", "(IIIII)I"⟩, 41) := ⟨⟨by decide +kernel, by decide +kernel⟩, List.mem_of_getElem? (i := 1051) (by decide +kernel), List.mem_of_getElem? (i := 1415) (by decide +kernel), List.mem_of_getElem? (i := 1416) (by decide +kernel)⟩
theorem lw_p66 : lw_okq (⟨"SkippingKeysModel", "add", "(I)I"⟩, 41) := ⟨⟨by decide +kernel, by decide +kernel⟩, List.mem_of_getElem? (i := 1051) (by decide +kernel), List.mem_of_getElem? (i := 1419) (by decide +kernel), List.mem_of_getElem? (i := 1420) (by decide +kernel)⟩
theorem lw_p67 : lw_okq (⟨"SkippingKeysModel", "noRowOf", "(II)I"⟩, 41) := ⟨⟨by decide +kernel, by decide +kernel⟩, List.mem_of_getElem? (i := 1051) (by decide +kernel), List.mem_of_getElem? (i := 1443) (by decide +kernel), List.mem_of_getElem? (i := 1444) (by decide +kernel)⟩
theorem lw_p68 : lw_okq (⟨"SkippingKeysModel", "keyIn", "(II)I"⟩, 41) := ⟨⟨by decide +kernel, by decide +kernel⟩, List.mem_of_getElem? (i := 1051) (by decide +kernel), List.mem_of_getElem? (i := 1476) (by decide +kernel), List.mem_of_getElem? (i := 1477) (by decide +kernel)⟩
theorem lw_p69 : lw_okq (⟨"SkippingKeysModel", "linesOf", "(II)I"⟩, 41) := ⟨⟨by decide +kernel, by decide +kernel⟩, List.mem_of_getElem? (i := 1051) (by decide +kernel), List.mem_of_getElem? (i := 1502) (by decide +kernel), List.mem_of_getElem? (i := 1503) (by decide +kernel)⟩
theorem lw_p70 : lw_okq (⟨"SkippingKeysModel", "isFor", "(II)I"⟩, 41) := ⟨⟨by decide +kernel, by decide +kernel⟩, List.mem_of_getElem? (i := 1051) (by decide +kernel), List.mem_of_getElem? (i := 1506) (by decide +kernel), List.mem_of_getElem? (i := 1507) (by decide +kernel)⟩
theorem lw_p71 : lw_okq (⟨"SkippingKeysModel", "runsIn", "(II)V"⟩, 41) := ⟨⟨by decide +kernel, by decide +kernel⟩, List.mem_of_getElem? (i := 1051) (by decide +kernel), List.mem_of_getElem? (i := 1518) (by decide +kernel), List.mem_of_getElem? (i := 1519) (by decide +kernel)⟩
theorem lw_p72 : lw_okq (⟨"SkippingKeysModel", "spanAt", "(I)I"⟩, 41) := ⟨⟨by decide +kernel, by decide +kernel⟩, List.mem_of_getElem? (i := 1051) (by decide +kernel), List.mem_of_getElem? (i := 1526) (by decide +kernel), List.mem_of_getElem? (i := 1527) (by decide +kernel)⟩
theorem lw_p73 : lw_okq (⟨"SkippingKeysModel", "planIn", "(III)V"⟩, 41) := ⟨⟨by decide +kernel, by decide +kernel⟩, List.mem_of_getElem? (i := 1051) (by decide +kernel), List.mem_of_getElem? (i := 1534) (by decide +kernel), List.mem_of_getElem? (i := 1535) (by decide +kernel)⟩
theorem lw_p74 : lw_okq (⟨"SkippingKeysModel", "mergeOnce", "()V"⟩, 41) := ⟨⟨by decide +kernel, by decide +kernel⟩, List.mem_of_getElem? (i := 1051) (by decide +kernel), List.mem_of_getElem? (i := 1538) (by decide +kernel), List.mem_of_getElem? (i := 1539) (by decide +kernel)⟩
theorem lw_p75 : lw_okq (⟨"SkippingKeysModel", "otherKeys", "(II)I"⟩, 41) := ⟨⟨by decide +kernel, by decide +kernel⟩, List.mem_of_getElem? (i := 1051) (by decide +kernel), List.mem_of_getElem? (i := 1546) (by decide +kernel), List.mem_of_getElem? (i := 1547) (by decide +kernel)⟩
theorem lw_p76 : lw_okq (⟨"SkippingKeysModel", "readIn", "(IIZ)I"⟩, 41) := ⟨⟨by decide +kernel, by decide +kernel⟩, List.mem_of_getElem? (i := 1051) (by decide +kernel), List.mem_of_getElem? (i := 1550) (by decide +kernel), List.mem_of_getElem? (i := 1551) (by decide +kernel)⟩
theorem lw_p77 : lw_okq (⟨"SkippingKeysModel", "isRead", "(I)Z"⟩, 41) := ⟨⟨by decide +kernel, by decide +kernel⟩, List.mem_of_getElem? (i := 1051) (by decide +kernel), List.mem_of_getElem? (i := 1554) (by decide +kernel), List.mem_of_getElem? (i := 1555) (by decide +kernel)⟩
theorem lw_p78 : lw_okq (⟨"SkippingKeysModel", "costIn", "(II)I"⟩, 41) := ⟨⟨by decide +kernel, by decide +kernel⟩, List.mem_of_getElem? (i := 1051) (by decide +kernel), List.mem_of_getElem? (i := 1558) (by decide +kernel), List.mem_of_getElem? (i := 1559) (by decide +kernel)⟩
theorem lw_p79 : lw_okq (⟨"SkippingKeysModel", "still", "(II)I"⟩, 41) := ⟨⟨by decide +kernel, by decide +kernel⟩, List.mem_of_getElem? (i := 1051) (by decide +kernel), List.mem_of_getElem? (i := 1562) (by decide +kernel), List.mem_of_getElem? (i := 1563) (by decide +kernel)⟩
def lw_privs_5 : List (MethodName × Nat) := [(⟨"SkippingKeysModel", "severalFor", "(II)I"⟩, 41), (⟨"SkippingKeysModel", "tell", "(IIIII)I"⟩, 41), (⟨"SkippingKeysModel", "add", "(I)I"⟩, 41), (⟨"SkippingKeysModel", "noRowOf", "(II)I"⟩, 41), (⟨"SkippingKeysModel", "keyIn", "(II)I"⟩, 41), (⟨"SkippingKeysModel", "linesOf", "(II)I"⟩, 41), (⟨"SkippingKeysModel", "isFor", "(II)I"⟩, 41), (⟨"SkippingKeysModel", "runsIn", "(II)V"⟩, 41), (⟨"SkippingKeysModel", "spanAt", "(I)I"⟩, 41), (⟨"SkippingKeysModel", "planIn", "(III)V"⟩, 41), (⟨"SkippingKeysModel", "mergeOnce", "()V"⟩, 41), (⟨"SkippingKeysModel", "otherKeys", "(II)I"⟩, 41), (⟨"SkippingKeysModel", "readIn", "(IIZ)I"⟩, 41), (⟨"SkippingKeysModel", "isRead", "(I)Z"⟩, 41), (⟨"SkippingKeysModel", "costIn", "(II)I"⟩, 41), (⟨"SkippingKeysModel", "still", "(II)I"⟩, 41)]
theorem lw_r5 : ∀ q ∈ lw_privs_5, lw_okq q := List.forall_mem_cons.mpr ⟨lw_p64, List.forall_mem_cons.mpr ⟨lw_p65, List.forall_mem_cons.mpr ⟨lw_p66, List.forall_mem_cons.mpr ⟨lw_p67, List.forall_mem_cons.mpr ⟨lw_p68, List.forall_mem_cons.mpr ⟨lw_p69, List.forall_mem_cons.mpr ⟨lw_p70, List.forall_mem_cons.mpr ⟨lw_p71, List.forall_mem_cons.mpr ⟨lw_p72, List.forall_mem_cons.mpr ⟨lw_p73, List.forall_mem_cons.mpr ⟨lw_p74, List.forall_mem_cons.mpr ⟨lw_p75, List.forall_mem_cons.mpr ⟨lw_p76, List.forall_mem_cons.mpr ⟨lw_p77, List.forall_mem_cons.mpr ⟨lw_p78, List.forall_mem_cons.mpr ⟨lw_p79, fun _ h => absurd h List.not_mem_nil⟩⟩⟩⟩⟩⟩⟩⟩⟩⟩⟩⟩⟩⟩⟩⟩
theorem lw_p80 : lw_okq (⟨"SkippingKeysModel", "bestIn", "(II)I"⟩, 41) := ⟨⟨by decide +kernel, by decide +kernel⟩, List.mem_of_getElem? (i := 1051) (by decide +kernel), List.mem_of_getElem? (i := 1570) (by decide +kernel), List.mem_of_getElem? (i := 1571) (by decide +kernel)⟩
theorem lw_p81 : lw_okq (⟨"SkippingKeysModel", "leads", "(IIIIZ)Z"⟩, 41) := ⟨⟨by decide +kernel, by decide +kernel⟩, List.mem_of_getElem? (i := 1051) (by decide +kernel), List.mem_of_getElem? (i := 1586) (by decide +kernel), List.mem_of_getElem? (i := 1587) (by decide +kernel)⟩
theorem lw_p82 : lw_okq (⟨"SkippingKeysModel", "findIn", "(III)V"⟩, 41) := ⟨⟨by decide +kernel, by decide +kernel⟩, List.mem_of_getElem? (i := 1051) (by decide +kernel), List.mem_of_getElem? (i := 1594) (by decide +kernel), List.mem_of_getElem? (i := 1595) (by decide +kernel)⟩
theorem lw_p83 : lw_okq (⟨"SkippingKeysModel", "isAhead", "(IIII)Z"⟩, 41) := ⟨⟨by decide +kernel, by decide +kernel⟩, List.mem_of_getElem? (i := 1051) (by decide +kernel), List.mem_of_getElem? (i := 1598) (by decide +kernel), List.mem_of_getElem? (i := 1599) (by decide +kernel)⟩
theorem lw_p84 : lw_okq (⟨"SkippingKeysModel", "differ", "(II)I"⟩, 41) := ⟨⟨by decide +kernel, by decide +kernel⟩, List.mem_of_getElem? (i := 1051) (by decide +kernel), List.mem_of_getElem? (i := 1621) (by decide +kernel), List.mem_of_getElem? (i := 1622) (by decide +kernel)⟩
theorem lw_p85 : lw_okq (⟨"SkippingKeysModel", "isTold", "(IIIII)Z"⟩, 41) := ⟨⟨by decide +kernel, by decide +kernel⟩, List.mem_of_getElem? (i := 1051) (by decide +kernel), List.mem_of_getElem? (i := 1633) (by decide +kernel), List.mem_of_getElem? (i := 1634) (by decide +kernel)⟩
theorem lw_p86 : lw_okq (⟨"SkippingKeysModel", "draw", "(I)I"⟩, 41) := ⟨⟨by decide +kernel, by decide +kernel⟩, List.mem_of_getElem? (i := 1051) (by decide +kernel), List.mem_of_getElem? (i := 1654) (by decide +kernel), List.mem_of_getElem? (i := 1655) (by decide +kernel)⟩
theorem lw_p87 : lw_okq (⟨"SkippingKeysModel", "differentKeys", "()I"⟩, 41) := ⟨⟨by decide +kernel, by decide +kernel⟩, List.mem_of_getElem? (i := 1051) (by decide +kernel), List.mem_of_getElem? (i := 1678) (by decide +kernel), List.mem_of_getElem? (i := 1679) (by decide +kernel)⟩
def lw_privs_6 : List (MethodName × Nat) := [(⟨"SkippingKeysModel", "bestIn", "(II)I"⟩, 41), (⟨"SkippingKeysModel", "leads", "(IIIIZ)Z"⟩, 41), (⟨"SkippingKeysModel", "findIn", "(III)V"⟩, 41), (⟨"SkippingKeysModel", "isAhead", "(IIII)Z"⟩, 41), (⟨"SkippingKeysModel", "differ", "(II)I"⟩, 41), (⟨"SkippingKeysModel", "isTold", "(IIIII)Z"⟩, 41), (⟨"SkippingKeysModel", "draw", "(I)I"⟩, 41), (⟨"SkippingKeysModel", "differentKeys", "()I"⟩, 41)]
theorem lw_r6 : ∀ q ∈ lw_privs_6, lw_okq q := List.forall_mem_cons.mpr ⟨lw_p80, List.forall_mem_cons.mpr ⟨lw_p81, List.forall_mem_cons.mpr ⟨lw_p82, List.forall_mem_cons.mpr ⟨lw_p83, List.forall_mem_cons.mpr ⟨lw_p84, List.forall_mem_cons.mpr ⟨lw_p85, List.forall_mem_cons.mpr ⟨lw_p86, List.forall_mem_cons.mpr ⟨lw_p87, fun _ h => absurd h List.not_mem_nil⟩⟩⟩⟩⟩⟩⟩⟩
def lw_privs : List (MethodName × Nat) := lw_privs_1 ++ (lw_privs_2 ++ (lw_privs_3 ++ (lw_privs_4 ++ (lw_privs_5 ++ (lw_privs_6)))))
def lw_tbl : List Cond := k2_sels lw_privs ++ tables_1
theorem lw_privs_ok : ∀ q ∈ lw_privs, lw_okq q := by
  show ∀ q ∈ lw_privs_1 ++ (lw_privs_2 ++ (lw_privs_3 ++ (lw_privs_4 ++ (lw_privs_5 ++ (lw_privs_6))))), lw_okq q
  exact List.forall_mem_append.mpr ⟨lw_r1, List.forall_mem_append.mpr ⟨lw_r2, List.forall_mem_append.mpr ⟨lw_r3, List.forall_mem_append.mpr ⟨lw_r4, List.forall_mem_append.mpr ⟨lw_r5, lw_r6⟩⟩⟩⟩⟩

def RX0 : String := "SkippingKeys$Condition"
def RX1 : String := "SkippingKeys$Conditions"
def RX2 : String := "SkippingKeys$Lines"
def RX3 : String := "SkippingKeys$Ranking"
def RX4 : String := "SkippingKeys$Reader"
def RX5 : String := "SkippingKeys$Shelves"
def RX6 : String := "SkippingKeys$Spans"
def RX7 : String := "SkippingKeys$Tape"
def RX8 : String := "SkippingKeys"
def RX9 : String := "SkippingKeysModel"
def RJ6 : String := "java/lang/Integer"
def RJ9 : String := "java/lang/Math"
def RJ10 : String := "java/lang/System"
def RL : String := "SkippingKeysLaw"
def TX0 : u_T := fun k => match k with
  | 0 => ("SkippingKeys$Condition", "kind", "I", false)
  | 1 => ("SkippingKeys$Condition", "sign", "I", false)
  | 2 => ("SkippingKeys$Condition", "x", "I", false)
  | 3 => ("SkippingKeys$Condition", "y", "I", false)
  | 4 => ("SkippingKeys$Condition", "remainder", "I", false)
  | 5 => ("SkippingKeys$Condition", "columnBits", "I", false)
  | 6 => ("SkippingKeys$Condition", "deep", "I", false)
  | 7 => ("SkippingKeys$Condition", "parts", "I", false)
  | 8 => ("SkippingKeys$Condition", "truths", "[B", true)
  | 9 => ("SkippingKeys$Condition", "size", "I", false)
  | 10 => ("SkippingKeys$Condition", "columns", "[I", true)
  | _ => ("SkippingKeys$Condition", "wanted", "[I", true)
def tyX0 : Nat → FieldType := fun k => match k with
  | 0 => .int
  | 1 => .int
  | 2 => .int
  | 3 => .int
  | 4 => .int
  | 5 => .int
  | 6 => .int
  | 7 => .int
  | 8 => .array .byte
  | 9 => .int
  | 10 => .array .int
  | _ => .array .int
theorem nmX0 : ∀ a, a < 12 → ∀ b, b < 12 → a ≠ b → (TX0 a).2.1 ≠ (TX0 b).2.1 := by decide +kernel
theorem tyX0_ok : ∀ k, k < 12 → parseFieldDescriptor (TX0 k).2.2.1 = some (tyX0 k) := by decide +kernel
def TX1 : u_T := fun k => match k with
  | 0 => ("SkippingKeys$Conditions", "list", "[LSkippingKeys$Condition;", true)
  | 1 => ("SkippingKeys$Conditions", "count", "I", false)
  | _ => ("SkippingKeys$Conditions", "drafts", "I", false)
def tyX1 : Nat → FieldType := fun k => match k with
  | 0 => .array (.object "SkippingKeys$Condition")
  | 1 => .int
  | _ => .int
theorem nmX1 : ∀ a, a < 3 → ∀ b, b < 3 → a ≠ b → (TX1 a).2.1 ≠ (TX1 b).2.1 := by decide +kernel
theorem tyX1_ok : ∀ k, k < 3 → parseFieldDescriptor (TX1 k).2.2.1 = some (tyX1 k) := by decide +kernel
def TX2 : u_T := fun k => match k with
  | 0 => ("SkippingKeys$Lines", "places", "[I", true)
  | 1 => ("SkippingKeys$Lines", "count", "I", false)
  | 2 => ("SkippingKeys$Lines", "price", "I", false)
  | _ => ("SkippingKeys$Lines", "seed", "I", false)
def tyX2 : Nat → FieldType := fun k => match k with
  | 0 => .array .int
  | 1 => .int
  | 2 => .int
  | _ => .int
theorem nmX2 : ∀ a, a < 4 → ∀ b, b < 4 → a ≠ b → (TX2 a).2.1 ≠ (TX2 b).2.1 := by decide +kernel
theorem tyX2_ok : ∀ k, k < 4 → parseFieldDescriptor (TX2 k).2.2.1 = some (tyX2 k) := by decide +kernel
def TX3 : u_T := fun k => match k with
  | 0 => ("SkippingKeys$Ranking", "codes", "[I", true)
  | _ => ("SkippingKeys$Ranking", "count", "I", false)
def tyX3 : Nat → FieldType := fun k => match k with
  | 0 => .array .int
  | _ => .int
theorem nmX3 : ∀ a, a < 2 → ∀ b, b < 2 → a ≠ b → (TX3 a).2.1 ≠ (TX3 b).2.1 := by decide +kernel
theorem tyX3_ok : ∀ k, k < 2 → parseFieldDescriptor (TX3 k).2.2.1 = some (tyX3 k) := by decide +kernel
def TX4 : u_T := fun k => match k with
  | 0 => ("SkippingKeys$Reader", "values", "[I", true)
  | 1 => ("SkippingKeys$Reader", "valueCount", "I", false)
  | 2 => ("SkippingKeys$Reader", "open", "[I", true)
  | 3 => ("SkippingKeys$Reader", "openCount", "I", false)
  | 4 => ("SkippingKeys$Reader", "whole", "[I", true)
  | _ => ("SkippingKeys$Reader", "wholeCount", "I", false)
def tyX4 : Nat → FieldType := fun k => match k with
  | 0 => .array .int
  | 1 => .int
  | 2 => .array .int
  | 3 => .int
  | 4 => .array .int
  | _ => .int
theorem nmX4 : ∀ a, a < 6 → ∀ b, b < 6 → a ≠ b → (TX4 a).2.1 ≠ (TX4 b).2.1 := by decide +kernel
theorem tyX4_ok : ∀ k, k < 6 → parseFieldDescriptor (TX4 k).2.2.1 = some (tyX4 k) := by decide +kernel
def TX5 : u_T := fun k => match k with
  | 0 => ("SkippingKeys$Shelves", "held", "[I", true)
  | 1 => ("SkippingKeys$Shelves", "sizes", "[I", true)
  | _ => ("SkippingKeys$Shelves", "elements", "[J", true)
def tyX5 : Nat → FieldType := fun k => match k with
  | 0 => .array .int
  | 1 => .array .int
  | _ => .array .long
theorem nmX5 : ∀ a, a < 3 → ∀ b, b < 3 → a ≠ b → (TX5 a).2.1 ≠ (TX5 b).2.1 := by decide +kernel
theorem tyX5_ok : ∀ k, k < 3 → parseFieldDescriptor (TX5 k).2.2.1 = some (tyX5 k) := by decide +kernel
def TX6 : u_T := fun k => match k with
  | 0 => ("SkippingKeys$Spans", "truths", "[B", true)
  | 1 => ("SkippingKeys$Spans", "first", "[I", true)
  | 2 => ("SkippingKeys$Spans", "last", "[I", true)
  | 3 => ("SkippingKeys$Spans", "begun", "[I", true)
  | 4 => ("SkippingKeys$Spans", "gapOrder", "[I", true)
  | 5 => ("SkippingKeys$Spans", "firstOfWidth", "[I", true)
  | 6 => ("SkippingKeys$Spans", "nextOfWidth", "[I", true)
  | 7 => ("SkippingKeys$Spans", "joined", "[Z", true)
  | 8 => ("SkippingKeys$Spans", "linesInGap", "[I", true)
  | 9 => ("SkippingKeys$Spans", "count", "I", false)
  | 10 => ("SkippingKeys$Spans", "bestSize", "I", false)
  | _ => ("SkippingKeys$Spans", "bestCost", "I", false)
def tyX6 : Nat → FieldType := fun k => match k with
  | 0 => .array .byte
  | 1 => .array .int
  | 2 => .array .int
  | 3 => .array .int
  | 4 => .array .int
  | 5 => .array .int
  | 6 => .array .int
  | 7 => .array .boolean
  | 8 => .array .int
  | 9 => .int
  | 10 => .int
  | _ => .int
theorem nmX6 : ∀ a, a < 12 → ∀ b, b < 12 → a ≠ b → (TX6 a).2.1 ≠ (TX6 b).2.1 := by decide +kernel
theorem tyX6_ok : ∀ k, k < 12 → parseFieldDescriptor (TX6 k).2.2.1 = some (tyX6 k) := by decide +kernel
def TX7 : u_T := fun k => match k with
  | 0 => ("SkippingKeys$Tape", "bytes", "[I", true)
  | 1 => ("SkippingKeys$Tape", "size", "I", false)
  | _ => ("SkippingKeys$Tape", "place", "I", false)
def tyX7 : Nat → FieldType := fun k => match k with
  | 0 => .array .int
  | 1 => .int
  | _ => .int
theorem nmX7 : ∀ a, a < 3 → ∀ b, b < 3 → a ≠ b → (TX7 a).2.1 ≠ (TX7 b).2.1 := by decide +kernel
theorem tyX7_ok : ∀ k, k < 3 → parseFieldDescriptor (TX7 k).2.2.1 = some (tyX7 k) := by decide +kernel
def TX8 : u_T := fun k => match k with
  | 0 => ("SkippingKeys", "lines", "LSkippingKeys$Lines;", true)
  | 1 => ("SkippingKeys", "keptLines", "LSkippingKeys$Lines;", true)
  | 2 => ("SkippingKeys", "conditions", "LSkippingKeys$Conditions;", true)
  | 3 => ("SkippingKeys", "keptConditions", "LSkippingKeys$Conditions;", true)
  | 4 => ("SkippingKeys", "shelves", "LSkippingKeys$Shelves;", true)
  | 5 => ("SkippingKeys", "tape", "LSkippingKeys$Tape;", true)
  | 6 => ("SkippingKeys", "reader", "LSkippingKeys$Reader;", true)
  | 7 => ("SkippingKeys", "spans", "LSkippingKeys$Spans;", true)
  | 8 => ("SkippingKeys", "ranking", "LSkippingKeys$Ranking;", true)
  | 9 => ("SkippingKeys", "refusals", "[I", true)
  | 10 => ("SkippingKeys", "seen", "[Z", true)
  | _ => ("SkippingKeys", "hasImage", "Z", false)
def tyX8 : Nat → FieldType := fun k => match k with
  | 0 => .object "SkippingKeys$Lines"
  | 1 => .object "SkippingKeys$Lines"
  | 2 => .object "SkippingKeys$Conditions"
  | 3 => .object "SkippingKeys$Conditions"
  | 4 => .object "SkippingKeys$Shelves"
  | 5 => .object "SkippingKeys$Tape"
  | 6 => .object "SkippingKeys$Reader"
  | 7 => .object "SkippingKeys$Spans"
  | 8 => .object "SkippingKeys$Ranking"
  | 9 => .array .int
  | 10 => .array .boolean
  | _ => .boolean
theorem nmX8 : ∀ a, a < 12 → ∀ b, b < 12 → a ≠ b → (TX8 a).2.1 ≠ (TX8 b).2.1 := by decide +kernel
theorem tyX8_ok : ∀ k, k < 12 → parseFieldDescriptor (TX8 k).2.2.1 = some (tyX8 k) := by decide +kernel
def TX9 : u_T := fun k => match k with
  | 0 => ("SkippingKeysModel", "shelf", "[I", true)
  | 1 => ("SkippingKeysModel", "rowSort", "[I", true)
  | 2 => ("SkippingKeysModel", "rowSize", "[I", true)
  | 3 => ("SkippingKeysModel", "rows", "[[J", true)
  | 4 => ("SkippingKeysModel", "moved", "[J", true)
  | 5 => ("SkippingKeysModel", "shown", "[I", true)
  | 6 => ("SkippingKeysModel", "tape", "[I", true)
  | 7 => ("SkippingKeysModel", "tapeSize", "I", false)
  | 8 => ("SkippingKeysModel", "refused", "[I", true)
  | 9 => ("SkippingKeysModel", "lines", "I", false)
  | 10 => ("SkippingKeysModel", "conds", "I", false)
  | 11 => ("SkippingKeysModel", "price", "I", false)
  | 12 => ("SkippingKeysModel", "seed", "I", false)
  | 13 => ("SkippingKeysModel", "cells", "[I", true)
  | 14 => ("SkippingKeysModel", "kind", "[I", true)
  | 15 => ("SkippingKeysModel", "sign", "[I", true)
  | 16 => ("SkippingKeysModel", "said", "[I", true)
  | 17 => ("SkippingKeysModel", "isKept", "Z", false)
  | 18 => ("SkippingKeysModel", "keptLines", "I", false)
  | 19 => ("SkippingKeysModel", "keptConds", "I", false)
  | 20 => ("SkippingKeysModel", "keptPrice", "I", false)
  | 21 => ("SkippingKeysModel", "keptSeed", "I", false)
  | 22 => ("SkippingKeysModel", "keptCells", "[I", true)
  | 23 => ("SkippingKeysModel", "keptKind", "[I", true)
  | 24 => ("SkippingKeysModel", "keptSign", "[I", true)
  | 25 => ("SkippingKeysModel", "keptSaid", "[I", true)
  | 26 => ("SkippingKeysModel", "is", "[B", true)
  | 27 => ("SkippingKeysModel", "columnsIn", "[I", true)
  | 28 => ("SkippingKeysModel", "deep", "[I", true)
  | 29 => ("SkippingKeysModel", "parts", "[I", true)
  | 30 => ("SkippingKeysModel", "firsts", "[I", true)
  | 31 => ("SkippingKeysModel", "lasts", "[I", true)
  | 32 => ("SkippingKeysModel", "spans", "I", false)
  | 33 => ("SkippingKeysModel", "found", "[I", true)
  | 34 => ("SkippingKeysModel", "foundMany", "I", false)
  | 35 => ("SkippingKeysModel", "spot", "I", false)
  | 36 => ("SkippingKeysModel", "fault", "I", false)
  | 37 => ("SkippingKeysModel", "made", "I", false)
  | 38 => ("SkippingKeysModel", "told", "[I", true)
  | 39 => ("SkippingKeysModel", "toldSign", "I", false)
  | _ => ("SkippingKeysModel", "leastCost", "I", false)
def tyX9 : Nat → FieldType := fun k => match k with
  | 0 => .array .int
  | 1 => .array .int
  | 2 => .array .int
  | 3 => .array (.array .long)
  | 4 => .array .long
  | 5 => .array .int
  | 6 => .array .int
  | 7 => .int
  | 8 => .array .int
  | 9 => .int
  | 10 => .int
  | 11 => .int
  | 12 => .int
  | 13 => .array .int
  | 14 => .array .int
  | 15 => .array .int
  | 16 => .array .int
  | 17 => .boolean
  | 18 => .int
  | 19 => .int
  | 20 => .int
  | 21 => .int
  | 22 => .array .int
  | 23 => .array .int
  | 24 => .array .int
  | 25 => .array .int
  | 26 => .array .byte
  | 27 => .array .int
  | 28 => .array .int
  | 29 => .array .int
  | 30 => .array .int
  | 31 => .array .int
  | 32 => .int
  | 33 => .array .int
  | 34 => .int
  | 35 => .int
  | 36 => .int
  | 37 => .int
  | 38 => .array .int
  | 39 => .int
  | _ => .int
theorem nmX9 : ∀ a, a < 41 → ∀ b, b < 41 → a ≠ b → (TX9 a).2.1 ≠ (TX9 b).2.1 := by decide +kernel
theorem tyX9_ok : ∀ k, k < 41 → parseFieldDescriptor (TX9 k).2.2.1 = some (tyX9 k) := by decide +kernel
abbrev vwCl : List vw_C := [(RX0, TX0, 12), (RX1, TX1, 3), (RX2, TX2, 4), (RX3, TX3, 2), (RX4, TX4, 6), (RX5, TX5, 3), (RX6, TX6, 12), (RX7, TX7, 3), (RX8, TX8, 12), (RX9, TX9, 41)]
abbrev cX0_init : ByteArray := prog_2_method_1_code
def yX0_init : MethodName := ⟨RX0, "<init>", "()V"⟩
abbrev cX0_begin : ByteArray := prog_2_method_2_code
def yX0_begin : MethodName := ⟨RX0, "begin", "(IIII)V"⟩
abbrev cX0_addColumn : ByteArray := prog_2_method_3_code
def yX0_addColumn : MethodName := ⟨RX0, "addColumn", "(II)V"⟩
abbrev cX0_columnCount : ByteArray := prog_2_method_4_code
def yX0_columnCount : MethodName := ⟨RX0, "columnCount", "()I"⟩
abbrev cX0_want : ByteArray := prog_2_method_5_code
def yX0_want : MethodName := ⟨RX0, "want", "(II)V"⟩
abbrev cX0_names : ByteArray := prog_2_method_6_code
def yX0_names : MethodName := ⟨RX0, "names", "(I)Z"⟩
abbrev cX0_copyFrom : ByteArray := prog_2_method_7_code
def yX0_copyFrom : MethodName := ⟨RX0, "copyFrom", "(LSkippingKeys$Condition;)V"⟩
abbrev cX0_settleLeaf : ByteArray := prog_2_method_8_code
def yX0_settleLeaf : MethodName := ⟨RX0, "settleLeaf", "(I)V"⟩
abbrev cX0_settleOver : ByteArray := prog_2_method_9_code
def yX0_settleOver : MethodName := ⟨RX0, "settleOver", "(ILSkippingKeys$Condition;LSkippingKeys$Condition;)V"⟩
abbrev cX0_leafTruth : ByteArray := prog_2_method_10_code
def yX0_leafTruth : MethodName := ⟨RX0, "leafTruth", "(I)I"⟩
abbrev cX0_digitOf : ByteArray := prog_2_method_11_code
def yX0_digitOf : MethodName := ⟨RX0, "digitOf", "(II)I"⟩
abbrev cX0_orDoubt : ByteArray := prog_2_method_12_code
def yX0_orDoubt : MethodName := ⟨RX0, "orDoubt", "(IZ)I"⟩
abbrev cX0_orderTruth : ByteArray := prog_2_method_13_code
def yX0_orderTruth : MethodName := ⟨RX0, "orderTruth", "(I)I"⟩
abbrev cX0_equalTruth : ByteArray := prog_2_method_14_code
def yX0_equalTruth : MethodName := ⟨RX0, "equalTruth", "(I)I"⟩
abbrev cX0_joinedTruth : ByteArray := prog_2_method_15_code
def yX0_joinedTruth : MethodName := ⟨RX0, "joinedTruth", "(II)I"⟩
abbrev cX0_opposite : ByteArray := prog_2_method_16_code
def yX0_opposite : MethodName := ⟨RX0, "opposite", "(I)I"⟩
abbrev cX0_isOfSort : ByteArray := prog_2_method_17_code
def yX0_isOfSort : MethodName := ⟨RX0, "isOfSort", "(I)Z"⟩
abbrev cX0_toldAs : ByteArray := prog_2_method_18_code
def yX0_toldAs : MethodName := ⟨RX0, "toldAs", "(I)I"⟩
abbrev cX0_countKeys : ByteArray := prog_2_method_19_code
def yX0_countKeys : MethodName := ⟨RX0, "countKeys", "(I)I"⟩
abbrev cX0_valuesIn : ByteArray := prog_2_method_20_code
def yX0_valuesIn : MethodName := ⟨RX0, "valuesIn", "(I)I"⟩
abbrev cX0_firstUnlike : ByteArray := prog_2_method_21_code
def yX0_firstUnlike : MethodName := ⟨RX0, "firstUnlike", "(LSkippingKeys$Condition;)I"⟩
abbrev cX1_init : ByteArray := prog_3_method_1_code
def yX1_init : MethodName := ⟨RX1, "<init>", "()V"⟩
abbrev cX1_copyFrom : ByteArray := prog_3_method_2_code
def yX1_copyFrom : MethodName := ⟨RX1, "copyFrom", "(LSkippingKeys$Conditions;)V"⟩
abbrev cX1_has : ByteArray := prog_3_method_3_code
def yX1_has : MethodName := ⟨RX1, "has", "(I)Z"⟩
abbrev cX1_at : ByteArray := prog_3_method_4_code
def yX1_at : MethodName := ⟨RX1, "at", "(I)LSkippingKeys$Condition;"⟩
abbrev cX1_draft : ByteArray := prog_3_method_5_code
def yX1_draft : MethodName := ⟨RX1, "draft", "(II)LSkippingKeys$Condition;"⟩
abbrev cX1_draftOver : ByteArray := prog_3_method_6_code
def yX1_draftOver : MethodName := ⟨RX1, "draftOver", "(III)V"⟩
abbrev cX1_lastDraft : ByteArray := prog_3_method_7_code
def yX1_lastDraft : MethodName := ⟨RX1, "lastDraft", "()I"⟩
abbrev cX1_fitsDrafts : ByteArray := prog_3_method_8_code
def yX1_fitsDrafts : MethodName := ⟨RX1, "fitsDrafts", "()Z"⟩
abbrev cX1_forgetDrafts : ByteArray := prog_3_method_9_code
def yX1_forgetDrafts : MethodName := ⟨RX1, "forgetDrafts", "()V"⟩
abbrev cX1_settleDrafts : ByteArray := prog_3_method_10_code
def yX1_settleDrafts : MethodName := ⟨RX1, "settleDrafts", "()V"⟩
abbrev cX2_init : ByteArray := prog_4_method_1_code
def yX2_init : MethodName := ⟨RX2, "<init>", "()V"⟩
abbrev cX2_copyFrom : ByteArray := prog_4_method_2_code
def yX2_copyFrom : MethodName := ⟨RX2, "copyFrom", "(LSkippingKeys$Lines;)V"⟩
abbrev cX2_has : ByteArray := prog_4_method_3_code
def yX2_has : MethodName := ⟨RX2, "has", "(I)Z"⟩
abbrev cX2_valueOf : ByteArray := prog_4_method_4_code
def yX2_valueOf : MethodName := ⟨RX2, "valueOf", "(II)I"⟩
abbrev cX2_put : ByteArray := prog_4_method_5_code
def yX2_put : MethodName := ⟨RX2, "put", "(III)V"⟩
abbrev cX2_putAll : ByteArray := prog_4_method_6_code
def yX2_putAll : MethodName := ⟨RX2, "putAll", "(IIII)V"⟩
abbrev cX2_add : ByteArray := prog_4_method_7_code
def yX2_add : MethodName := ⟨RX2, "add", "(III)V"⟩
abbrev cX2_remove : ByteArray := prog_4_method_8_code
def yX2_remove : MethodName := ⟨RX2, "remove", "(I)V"⟩
abbrev cX2_keyIn : ByteArray := prog_4_method_9_code
def yX2_keyIn : MethodName := ⟨RX2, "keyIn", "(II)I"⟩
abbrev cX2_truthOf : ByteArray := prog_4_method_10_code
def yX2_truthOf : MethodName := ⟨RX2, "truthOf", "(LSkippingKeys$Condition;I)I"⟩
abbrev cX2_countOf : ByteArray := prog_4_method_11_code
def yX2_countOf : MethodName := ⟨RX2, "countOf", "(LSkippingKeys$Condition;I)I"⟩
abbrev cX2_countValue : ByteArray := prog_4_method_12_code
def yX2_countValue : MethodName := ⟨RX2, "countValue", "(II)I"⟩
abbrev cX2_liveDay : ByteArray := prog_4_method_13_code
def yX2_liveDay : MethodName := ⟨RX2, "liveDay", "()V"⟩
abbrev cX2_draw : ByteArray := prog_4_method_14_code
def yX2_draw : MethodName := ⟨RX2, "draw", "(I)I"⟩
abbrev cX3_init : ByteArray := prog_5_method_1_code
def yX3_init : MethodName := ⟨RX3, "<init>", "()V"⟩
abbrev cX3_codeOf : ByteArray := prog_5_method_2_code
def yX3_codeOf : MethodName := ⟨RX3, "codeOf", "(III)I"⟩
abbrev cX3_rank : ByteArray := prog_5_method_3_code
def yX3_rank : MethodName := ⟨RX3, "rank", "(LSkippingKeys$Lines;LSkippingKeys$Condition;II)V"⟩
abbrev cX3_insert : ByteArray := prog_5_method_4_code
def yX3_insert : MethodName := ⟨RX3, "insert", "(I)V"⟩
abbrev cX3_lineAt : ByteArray := prog_5_method_5_code
def yX3_lineAt : MethodName := ⟨RX3, "lineAt", "(I)I"⟩
abbrev cX3_firstBehind : ByteArray := prog_5_method_6_code
def yX3_firstBehind : MethodName := ⟨RX3, "firstBehind", "(I)I"⟩
abbrev cX4_init : ByteArray := prog_6_method_1_code
def yX4_init : MethodName := ⟨RX4, "<init>", "()V"⟩
abbrev cX4_readTable : ByteArray := prog_6_method_2_code
def yX4_readTable : MethodName := ⟨RX4, "readTable", "(LSkippingKeys$Tape;)Z"⟩
abbrev cX4_readLine : ByteArray := prog_6_method_3_code
def yX4_readLine : MethodName := ⟨RX4, "readLine", "(LSkippingKeys$Tape;)Z"⟩
abbrev cX4_lineCount : ByteArray := prog_6_method_4_code
def yX4_lineCount : MethodName := ⟨RX4, "lineCount", "()I"⟩
abbrev cX4_valueRead : ByteArray := prog_6_method_5_code
def yX4_valueRead : MethodName := ⟨RX4, "valueRead", "(II)I"⟩
abbrev cX4_readCondition : ByteArray := prog_6_method_6_code
def yX4_readCondition : MethodName := ⟨RX4, "readCondition", "(LSkippingKeys$Tape;LSkippingKeys$Conditions;)Z"⟩
abbrev cX4_isTurnSign : ByteArray := prog_6_method_7_code
def yX4_isTurnSign : MethodName := ⟨RX4, "isTurnSign", "(I)Z"⟩
abbrev cX4_isClosed : ByteArray := prog_6_method_8_code
def yX4_isClosed : MethodName := ⟨RX4, "isClosed", "(LSkippingKeys$Conditions;)Z"⟩
abbrev cX4_readBehindTurn : ByteArray := prog_6_method_9_code
def yX4_readBehindTurn : MethodName := ⟨RX4, "readBehindTurn", "(LSkippingKeys$Tape;LSkippingKeys$Conditions;I)Z"⟩
abbrev cX4_turnIsWhole : ByteArray := prog_6_method_10_code
def yX4_turnIsWhole : MethodName := ⟨RX4, "turnIsWhole", "(LSkippingKeys$Conditions;I)V"⟩
abbrev cX4_closeOr : ByteArray := prog_6_method_11_code
def yX4_closeOr : MethodName := ⟨RX4, "closeOr", "(LSkippingKeys$Conditions;)V"⟩
abbrev cX4_pushOpen : ByteArray := prog_6_method_12_code
def yX4_pushOpen : MethodName := ⟨RX4, "pushOpen", "(I)V"⟩
abbrev cX4_topOpen : ByteArray := prog_6_method_13_code
def yX4_topOpen : MethodName := ⟨RX4, "topOpen", "()I"⟩
abbrev cX4_popOpen : ByteArray := prog_6_method_14_code
def yX4_popOpen : MethodName := ⟨RX4, "popOpen", "()V"⟩
abbrev cX4_pushWhole : ByteArray := prog_6_method_15_code
def yX4_pushWhole : MethodName := ⟨RX4, "pushWhole", "(I)V"⟩
abbrev cX4_popWhole : ByteArray := prog_6_method_16_code
def yX4_popWhole : MethodName := ⟨RX4, "popWhole", "()I"⟩
abbrev cX4_readLeaf : ByteArray := prog_6_method_17_code
def yX4_readLeaf : MethodName := ⟨RX4, "readLeaf", "(LSkippingKeys$Tape;LSkippingKeys$Condition;)Z"⟩
abbrev cX4_readCompared : ByteArray := prog_6_method_18_code
def yX4_readCompared : MethodName := ⟨RX4, "readCompared", "(LSkippingKeys$Tape;LSkippingKeys$Condition;)Z"⟩
abbrev cX4_readAmong : ByteArray := prog_6_method_19_code
def yX4_readAmong : MethodName := ⟨RX4, "readAmong", "(LSkippingKeys$Tape;LSkippingKeys$Condition;)Z"⟩
abbrev cX4_readRest : ByteArray := prog_6_method_20_code
def yX4_readRest : MethodName := ⟨RX4, "readRest", "(LSkippingKeys$Tape;LSkippingKeys$Condition;)Z"⟩
abbrev cX4_readSeveral : ByteArray := prog_6_method_21_code
def yX4_readSeveral : MethodName := ⟨RX4, "readSeveral", "(LSkippingKeys$Tape;LSkippingKeys$Condition;)Z"⟩
abbrev cX5_init : ByteArray := prog_7_method_1_code
def yX5_init : MethodName := ⟨RX5, "<init>", "()V"⟩
abbrev cX5_isShelf : ByteArray := prog_7_method_2_code
def yX5_isShelf : MethodName := ⟨RX5, "isShelf", "(I)Z"⟩
abbrev cX5_heldBy : ByteArray := prog_7_method_3_code
def yX5_heldBy : MethodName := ⟨RX5, "heldBy", "(I)I"⟩
abbrev cX5_empty : ByteArray := prog_7_method_4_code
def yX5_empty : MethodName := ⟨RX5, "empty", "(I)V"⟩
abbrev cX5_holdCondition : ByteArray := prog_7_method_5_code
def yX5_holdCondition : MethodName := ⟨RX5, "holdCondition", "(II)V"⟩
abbrev cX5_conditionIn : ByteArray := prog_7_method_6_code
def yX5_conditionIn : MethodName := ⟨RX5, "conditionIn", "(I)I"⟩
abbrev cX5_layRow : ByteArray := prog_7_method_7_code
def yX5_layRow : MethodName := ⟨RX5, "layRow", "(III)V"⟩
abbrev cX5_whyNoRow : ByteArray := prog_7_method_8_code
def yX5_whyNoRow : MethodName := ⟨RX5, "whyNoRow", "(I)I"⟩
abbrev cX5_whyNoRowOf : ByteArray := prog_7_method_9_code
def yX5_whyNoRowOf : MethodName := ⟨RX5, "whyNoRowOf", "(II)I"⟩
abbrev cX5_whyNoTwoRows : ByteArray := prog_7_method_10_code
def yX5_whyNoTwoRows : MethodName := ⟨RX5, "whyNoTwoRows", "(II)I"⟩
abbrev cX5_hasElement : ByteArray := prog_7_method_11_code
def yX5_hasElement : MethodName := ⟨RX5, "hasElement", "(II)Z"⟩
abbrev cX5_hasPart : ByteArray := prog_7_method_12_code
def yX5_hasPart : MethodName := ⟨RX5, "hasPart", "(III)Z"⟩
abbrev cX5_elementAt : ByteArray := prog_7_method_13_code
def yX5_elementAt : MethodName := ⟨RX5, "elementAt", "(II)J"⟩
abbrev cX5_put : ByteArray := prog_7_method_14_code
def yX5_put : MethodName := ⟨RX5, "put", "(IIJ)V"⟩
abbrev cX5_carry : ByteArray := prog_7_method_15_code
def yX5_carry : MethodName := ⟨RX5, "carry", "(IIIII)V"⟩
abbrev cX5_kept : ByteArray := prog_7_method_16_code
def yX5_kept : MethodName := ⟨RX5, "kept", "(IJ)J"⟩
abbrev cX5_forgetConditionsFrom : ByteArray := prog_7_method_17_code
def yX5_forgetConditionsFrom : MethodName := ⟨RX5, "forgetConditionsFrom", "(I)V"⟩
abbrev cX5_countHolding : ByteArray := prog_7_method_18_code
def yX5_countHolding : MethodName := ⟨RX5, "countHolding", "()I"⟩
abbrev cX6_init : ByteArray := prog_8_method_1_code
def yX6_init : MethodName := ⟨RX6, "<init>", "()V"⟩
abbrev cX6_layOut : ByteArray := prog_8_method_2_code
def yX6_layOut : MethodName := ⟨RX6, "layOut", "(LSkippingKeys$Condition;I)V"⟩
abbrev cX6_runTold : ByteArray := prog_8_method_3_code
def yX6_runTold : MethodName := ⟨RX6, "runTold", "(I)I"⟩
abbrev cX6_planSize : ByteArray := prog_8_method_4_code
def yX6_planSize : MethodName := ⟨RX6, "planSize", "(I)I"⟩
abbrev cX6_widthOf : ByteArray := prog_8_method_5_code
def yX6_widthOf : MethodName := ⟨RX6, "widthOf", "(I)I"⟩
abbrev cX6_orderGaps : ByteArray := prog_8_method_6_code
def yX6_orderGaps : MethodName := ⟨RX6, "orderGaps", "()V"⟩
abbrev cX6_joinDownTo : ByteArray := prog_8_method_7_code
def yX6_joinDownTo : MethodName := ⟨RX6, "joinDownTo", "(I)V"⟩
abbrev cX6_spanTold : ByteArray := prog_8_method_8_code
def yX6_spanTold : MethodName := ⟨RX6, "spanTold", "(I)I"⟩
abbrev cX6_gapAt : ByteArray := prog_8_method_9_code
def yX6_gapAt : MethodName := ⟨RX6, "gapAt", "(I)I"⟩
abbrev cX6_planHas : ByteArray := prog_8_method_10_code
def yX6_planHas : MethodName := ⟨RX6, "planHas", "(I)Z"⟩
abbrev cX6_countKeysBetween : ByteArray := prog_8_method_11_code
def yX6_countKeysBetween : MethodName := ⟨RX6, "countKeysBetween", "()I"⟩
abbrev cX6_countRead : ByteArray := prog_8_method_12_code
def yX6_countRead : MethodName := ⟨RX6, "countRead", "(LSkippingKeys$Lines;I)I"⟩
abbrev cX6_findBest : ByteArray := prog_8_method_13_code
def yX6_findBest : MethodName := ⟨RX6, "findBest", "(LSkippingKeys$Lines;I)V"⟩
abbrev cX6_countLinesByGap : ByteArray := prog_8_method_14_code
def yX6_countLinesByGap : MethodName := ⟨RX6, "countLinesByGap", "(LSkippingKeys$Lines;I)I"⟩
abbrev cX7_init : ByteArray := prog_9_method_1_code
def yX7_init : MethodName := ⟨RX7, "<init>", "()V"⟩
abbrev cX7_append : ByteArray := prog_9_method_2_code
def yX7_append : MethodName := ⟨RX7, "append", "(I)V"⟩
abbrev cX7_wipeAll : ByteArray := prog_9_method_3_code
def yX7_wipeAll : MethodName := ⟨RX7, "wipeAll", "()V"⟩
abbrev cX7_rewind : ByteArray := prog_9_method_4_code
def yX7_rewind : MethodName := ⟨RX7, "rewind", "()V"⟩
abbrev cX7_ahead : ByteArray := prog_9_method_5_code
def yX7_ahead : MethodName := ⟨RX7, "ahead", "()I"⟩
abbrev cX7_take : ByteArray := prog_9_method_6_code
def yX7_take : MethodName := ⟨RX7, "take", "()V"⟩
abbrev cX7_columnAhead : ByteArray := prog_9_method_7_code
def yX7_columnAhead : MethodName := ⟨RX7, "columnAhead", "()I"⟩
abbrev cX7_signAhead : ByteArray := prog_9_method_8_code
def yX7_signAhead : MethodName := ⟨RX7, "signAhead", "()I"⟩
abbrev cX7_digitAhead : ByteArray := prog_9_method_9_code
def yX7_digitAhead : MethodName := ⟨RX7, "digitAhead", "(II)I"⟩
abbrev cX8_init : ByteArray := prog_1_method_1_code
def yX8_init : MethodName := ⟨RX8, "<init>", "()V"⟩
abbrev cX8_row : ByteArray := prog_1_method_2_code
def yX8_row : MethodName := ⟨RX8, "row", "(III)I"⟩
abbrev cX8_set : ByteArray := prog_1_method_3_code
def yX8_set : MethodName := ⟨RX8, "set", "(IIJ)I"⟩
abbrev cX8_copy : ByteArray := prog_1_method_4_code
def yX8_copy : MethodName := ⟨RX8, "copy", "(IIIII)I"⟩
abbrev cX8_element : ByteArray := prog_1_method_5_code
def yX8_element : MethodName := ⟨RX8, "element", "(II)J"⟩
abbrev cX8_holds : ByteArray := prog_1_method_6_code
def yX8_holds : MethodName := ⟨RX8, "holds", "(I)I"⟩
abbrev cX8_show : ByteArray := prog_1_method_7_code
def yX8_show : MethodName := ⟨RX8, "show", "(II)I"⟩
abbrev cX8_says : ByteArray := prog_1_method_8_code
def yX8_says : MethodName := ⟨RX8, "says", "(II)I"⟩
abbrev cX8_line : ByteArray := prog_1_method_9_code
def yX8_line : MethodName := ⟨RX8, "line", "(III)I"⟩
abbrev cX8_alter : ByteArray := prog_1_method_10_code
def yX8_alter : MethodName := ⟨RX8, "alter", "(III)I"⟩
abbrev cX8_strike : ByteArray := prog_1_method_11_code
def yX8_strike : MethodName := ⟨RX8, "strike", "(I)I"⟩
abbrev cX8_price : ByteArray := prog_1_method_12_code
def yX8_price : MethodName := ⟨RX8, "price", "(I)I"⟩
abbrev cX8_feed : ByteArray := prog_1_method_13_code
def yX8_feed : MethodName := ⟨RX8, "feed", "(I)I"⟩
abbrev cX8_wipe : ByteArray := prog_1_method_14_code
def yX8_wipe : MethodName := ⟨RX8, "wipe", "()I"⟩
abbrev cX8_table : ByteArray := prog_1_method_15_code
def yX8_table : MethodName := ⟨RX8, "table", "()I"⟩
abbrev cX8_cond : ByteArray := prog_1_method_16_code
def yX8_cond : MethodName := ⟨RX8, "cond", "()I"⟩
abbrev cX8_test : ByteArray := prog_1_method_17_code
def yX8_test : MethodName := ⟨RX8, "test", "(III)I"⟩
abbrev cX8_among : ByteArray := prog_1_method_18_code
def yX8_among : MethodName := ⟨RX8, "among", "(II)I"⟩
abbrev cX8_gone : ByteArray := prog_1_method_19_code
def yX8_gone : MethodName := ⟨RX8, "gone", "(I)I"⟩
abbrev cX8_columns : ByteArray := prog_1_method_20_code
def yX8_columns : MethodName := ⟨RX8, "columns", "(III)I"⟩
abbrev cX8_rest : ByteArray := prog_1_method_21_code
def yX8_rest : MethodName := ⟨RX8, "rest", "(III)I"⟩
abbrev cX8_several : ByteArray := prog_1_method_22_code
def yX8_several : MethodName := ⟨RX8, "several", "(III)I"⟩
abbrev cX8_pair : ByteArray := prog_1_method_23_code
def yX8_pair : MethodName := ⟨RX8, "pair", "(III)I"⟩
abbrev cX8_turn : ByteArray := prog_1_method_24_code
def yX8_turn : MethodName := ⟨RX8, "turn", "(II)I"⟩
abbrev cX8_drop : ByteArray := prog_1_method_25_code
def yX8_drop : MethodName := ⟨RX8, "drop", "()I"⟩
abbrev cX8_condOf : ByteArray := prog_1_method_26_code
def yX8_condOf : MethodName := ⟨RX8, "condOf", "(II)I"⟩
abbrev cX8_lineOf : ByteArray := prog_1_method_27_code
def yX8_lineOf : MethodName := ⟨RX8, "lineOf", "(II)I"⟩
abbrev cX8_keyOf : ByteArray := prog_1_method_28_code
def yX8_keyOf : MethodName := ⟨RX8, "keyOf", "(II)I"⟩
abbrev cX8_truth : ByteArray := prog_1_method_29_code
def yX8_truth : MethodName := ⟨RX8, "truth", "(III)I"⟩
abbrev cX8_keys : ByteArray := prog_1_method_30_code
def yX8_keys : MethodName := ⟨RX8, "keys", "(II)I"⟩
abbrev cX8_lines : ByteArray := prog_1_method_31_code
def yX8_lines : MethodName := ⟨RX8, "lines", "(II)I"⟩
abbrev cX8_values : ByteArray := prog_1_method_32_code
def yX8_values : MethodName := ⟨RX8, "values", "(II)I"⟩
abbrev cX8_runs : ByteArray := prog_1_method_33_code
def yX8_runs : MethodName := ⟨RX8, "runs", "(II)I"⟩
abbrev cX8_run : ByteArray := prog_1_method_34_code
def yX8_run : MethodName := ⟨RX8, "run", "(III)I"⟩
abbrev cX8_plan : ByteArray := prog_1_method_35_code
def yX8_plan : MethodName := ⟨RX8, "plan", "(IIII)I"⟩
abbrev cX8_of : ByteArray := prog_1_method_36_code
def yX8_of : MethodName := ⟨RX8, "of", "(IIII)I"⟩
abbrev cX8_best : ByteArray := prog_1_method_37_code
def yX8_best : MethodName := ⟨RX8, "best", "(III)I"⟩
abbrev cX8_bestIndex : ByteArray := prog_1_method_38_code
def yX8_bestIndex : MethodName := ⟨RX8, "bestIndex", "(II)I"⟩
abbrev cX8_seek : ByteArray := prog_1_method_39_code
def yX8_seek : MethodName := ⟨RX8, "seek", "(IIII)I"⟩
abbrev cX8_leaders : ByteArray := prog_1_method_40_code
def yX8_leaders : MethodName := ⟨RX8, "leaders", "(IIII)I"⟩
abbrev cX8_found : ByteArray := prog_1_method_41_code
def yX8_found : MethodName := ⟨RX8, "found", "(III)I"⟩
abbrev cX8_order : ByteArray := prog_1_method_42_code
def yX8_order : MethodName := ⟨RX8, "order", "(IIII)I"⟩
abbrev cX8_behind : ByteArray := prog_1_method_43_code
def yX8_behind : MethodName := ⟨RX8, "behind", "(III)I"⟩
abbrev cX8_implies : ByteArray := prog_1_method_44_code
def yX8_implies : MethodName := ⟨RX8, "implies", "(II)I"⟩
abbrev cX8_alike : ByteArray := prog_1_method_45_code
def yX8_alike : MethodName := ⟨RX8, "alike", "(II)I"⟩
abbrev cX8_same : ByteArray := prog_1_method_46_code
def yX8_same : MethodName := ⟨RX8, "same", "(I)I"⟩
abbrev cX8_signs : ByteArray := prog_1_method_47_code
def yX8_signs : MethodName := ⟨RX8, "signs", "(IIII)I"⟩
abbrev cX8_judge : ByteArray := prog_1_method_48_code
def yX8_judge : MethodName := ⟨RX8, "judge", "(IIII)I"⟩
abbrev cX8_many : ByteArray := prog_1_method_49_code
def yX8_many : MethodName := ⟨RX8, "many", "(II)I"⟩
abbrev cX8_whatIf : ByteArray := prog_1_method_50_code
def yX8_whatIf : MethodName := ⟨RX8, "whatIf", "(IIII)I"⟩
abbrev cX8_days : ByteArray := prog_1_method_51_code
def yX8_days : MethodName := ⟨RX8, "days", "(I)I"⟩
abbrev cX8_seed : ByteArray := prog_1_method_52_code
def yX8_seed : MethodName := ⟨RX8, "seed", "(I)I"⟩
abbrev cX8_image : ByteArray := prog_1_method_53_code
def yX8_image : MethodName := ⟨RX8, "image", "()I"⟩
abbrev cX8_back : ByteArray := prog_1_method_54_code
def yX8_back : MethodName := ⟨RX8, "back", "()I"⟩
abbrev cX8_status : ByteArray := prog_1_method_55_code
def yX8_status : MethodName := ⟨RX8, "status", "(I)I"⟩
abbrev cX8_refuse : ByteArray := prog_1_method_56_code
def yX8_refuse : MethodName := ⟨RX8, "refuse", "(I)I"⟩
abbrev cX8_settled : ByteArray := prog_1_method_57_code
def yX8_settled : MethodName := ⟨RX8, "settled", "()I"⟩
abbrev cX8_isCondAndIndex : ByteArray := prog_1_method_58_code
def yX8_isCondAndIndex : MethodName := ⟨RX8, "isCondAndIndex", "(II)Z"⟩
abbrev cX8_tellsSeveral : ByteArray := prog_1_method_59_code
def yX8_tellsSeveral : MethodName := ⟨RX8, "tellsSeveral", "(II)Z"⟩
abbrev cX8_tellsLines : ByteArray := prog_1_method_60_code
def yX8_tellsLines : MethodName := ⟨RX8, "tellsLines", "(II)Z"⟩
abbrev cX8_fitsTold : ByteArray := prog_1_method_61_code
def yX8_fitsTold : MethodName := ⟨RX8, "fitsTold", "(IIIII)Z"⟩
abbrev cX8_stillToTest : ByteArray := prog_1_method_62_code
def yX8_stillToTest : MethodName := ⟨RX8, "stillToTest", "(II)I"⟩
abbrev cX8_isTrueInPlan : ByteArray := prog_1_method_63_code
def yX8_isTrueInPlan : MethodName := ⟨RX8, "isTrueInPlan", "(LSkippingKeys$Condition;I)Z"⟩
abbrev cX8_seekUp : ByteArray := prog_1_method_64_code
def yX8_seekUp : MethodName := ⟨RX8, "seekUp", "(LSkippingKeys$Condition;II)I"⟩
abbrev cX8_seekDown : ByteArray := prog_1_method_65_code
def yX8_seekDown : MethodName := ⟨RX8, "seekDown", "(LSkippingKeys$Condition;II)I"⟩
abbrev cX8_countDifferentKeys : ByteArray := prog_1_method_66_code
def yX8_countDifferentKeys : MethodName := ⟨RX8, "countDifferentKeys", "()I"⟩
abbrev cX8_clearSeen : ByteArray := prog_1_method_67_code
def yX8_clearSeen : MethodName := ⟨RX8, "clearSeen", "()V"⟩
abbrev cX8_countSeen : ByteArray := prog_1_method_68_code
def yX8_countSeen : MethodName := ⟨RX8, "countSeen", "()I"⟩
abbrev cX8_isWithin : ByteArray := prog_1_method_69_code
def yX8_isWithin : MethodName := ⟨RX8, "isWithin", "(III)Z"⟩
abbrev cX8_isColumn : ByteArray := prog_1_method_70_code
def yX8_isColumn : MethodName := ⟨RX8, "isColumn", "(I)Z"⟩
abbrev cX8_isIndex : ByteArray := prog_1_method_71_code
def yX8_isIndex : MethodName := ⟨RX8, "isIndex", "(I)Z"⟩
abbrev cX8_isSign : ByteArray := prog_1_method_72_code
def yX8_isSign : MethodName := ⟨RX8, "isSign", "(I)Z"⟩
abbrev cX8_isTruth : ByteArray := prog_1_method_73_code
def yX8_isTruth : MethodName := ⟨RX8, "isTruth", "(I)Z"⟩
abbrev cX8_isDigit : ByteArray := prog_1_method_74_code
def yX8_isDigit : MethodName := ⟨RX8, "isDigit", "(I)Z"⟩
abbrev cX8_isValue : ByteArray := prog_1_method_75_code
def yX8_isValue : MethodName := ⟨RX8, "isValue", "(I)Z"⟩
abbrev cX8_placeOf : ByteArray := prog_1_method_76_code
def yX8_placeOf : MethodName := ⟨RX8, "placeOf", "(II)I"⟩
abbrev cX8_compared : ByteArray := prog_1_method_77_code
def yX8_compared : MethodName := ⟨RX8, "compared", "(III)I"⟩
abbrev cX9_init : ByteArray := prog_11_method_1_code
def yX9_init : MethodName := ⟨RX9, "<init>", "()V"⟩
abbrev cX9_refuse : ByteArray := prog_11_method_2_code
def yX9_refuse : MethodName := ⟨RX9, "refuse", "(I)I"⟩
abbrev cX9_in : ByteArray := prog_11_method_3_code
def yX9_in : MethodName := ⟨RX9, "in", "(JJJ)Z"⟩
abbrev cX9_isCond : ByteArray := prog_11_method_4_code
def yX9_isCond : MethodName := ⟨RX9, "isCond", "(I)Z"⟩
abbrev cX9_isLine : ByteArray := prog_11_method_5_code
def yX9_isLine : MethodName := ⟨RX9, "isLine", "(I)Z"⟩
abbrev cX9_bits : ByteArray := prog_11_method_6_code
def yX9_bits : MethodName := ⟨RX9, "bits", "(I)I"⟩
abbrev cX9_row : ByteArray := prog_11_method_7_code
def yX9_row : MethodName := ⟨RX9, "row", "(III)I"⟩
abbrev cX9_fit : ByteArray := prog_11_method_8_code
def yX9_fit : MethodName := ⟨RX9, "fit", "(IJ)J"⟩
abbrev cX9_noRow : ByteArray := prog_11_method_9_code
def yX9_noRow : MethodName := ⟨RX9, "noRow", "(I)I"⟩
abbrev cX9_set : ByteArray := prog_11_method_10_code
def yX9_set : MethodName := ⟨RX9, "set", "(IIJ)I"⟩
abbrev cX9_copy : ByteArray := prog_11_method_11_code
def yX9_copy : MethodName := ⟨RX9, "copy", "(IIIII)I"⟩
abbrev cX9_element : ByteArray := prog_11_method_12_code
def yX9_element : MethodName := ⟨RX9, "element", "(II)J"⟩
abbrev cX9_holds : ByteArray := prog_11_method_13_code
def yX9_holds : MethodName := ⟨RX9, "holds", "(I)I"⟩
abbrev cX9_show : ByteArray := prog_11_method_14_code
def yX9_show : MethodName := ⟨RX9, "show", "(II)I"⟩
abbrev cX9_isOf : ByteArray := prog_11_method_15_code
def yX9_isOf : MethodName := ⟨RX9, "isOf", "(II)Z"⟩
abbrev cX9_says : ByteArray := prog_11_method_16_code
def yX9_says : MethodName := ⟨RX9, "says", "(II)I"⟩
abbrev cX9_columnAt : ByteArray := prog_11_method_17_code
def yX9_columnAt : MethodName := ⟨RX9, "columnAt", "(II)I"⟩
abbrev cX9_digit : ByteArray := prog_11_method_18_code
def yX9_digit : MethodName := ⟨RX9, "digit", "(II)I"⟩
abbrev cX9_weight : ByteArray := prog_11_method_19_code
def yX9_weight : MethodName := ⟨RX9, "weight", "(I)I"⟩
abbrev cX9_plain : ByteArray := prog_11_method_20_code
def yX9_plain : MethodName := ⟨RX9, "plain", "(II)I"⟩
abbrev cX9_keyIn : ByteArray := prog_11_method_21_code
def yX9_keyIn : MethodName := ⟨RX9, "keyIn", "(II)I"⟩
abbrev cX9_isAt : ByteArray := prog_11_method_22_code
def yX9_isAt : MethodName := ⟨RX9, "isAt", "(II)I"⟩
abbrev cX9_isFor : ByteArray := prog_11_method_23_code
def yX9_isFor : MethodName := ⟨RX9, "isFor", "(II)I"⟩
abbrev cX9_holds_ : ByteArray := prog_11_method_24_code
def yX9_holds_ : MethodName := ⟨RX9, "holds", "(III)I"⟩
abbrev cX9_severalFor : ByteArray := prog_11_method_25_code
def yX9_severalFor : MethodName := ⟨RX9, "severalFor", "(II)I"⟩
abbrev cX9_leafFor : ByteArray := prog_11_method_26_code
def yX9_leafFor : MethodName := ⟨RX9, "leafFor", "(II)I"⟩
abbrev cX9_worked : ByteArray := prog_11_method_27_code
def yX9_worked : MethodName := ⟨RX9, "worked", "(II)I"⟩
abbrev cX9_leafIn : ByteArray := prog_11_method_28_code
def yX9_leafIn : MethodName := ⟨RX9, "leafIn", "(I)V"⟩
abbrev cX9_overIn : ByteArray := prog_11_method_29_code
def yX9_overIn : MethodName := ⟨RX9, "overIn", "(I)V"⟩
abbrev cX9_workFrom : ByteArray := prog_11_method_30_code
def yX9_workFrom : MethodName := ⟨RX9, "workFrom", "(I)V"⟩
abbrev cX9_put : ByteArray := prog_11_method_31_code
def yX9_put : MethodName := ⟨RX9, "put", "(IIII)V"⟩
abbrev cX9_line : ByteArray := prog_11_method_32_code
def yX9_line : MethodName := ⟨RX9, "line", "(III)I"⟩
abbrev cX9_alter : ByteArray := prog_11_method_33_code
def yX9_alter : MethodName := ⟨RX9, "alter", "(III)I"⟩
abbrev cX9_strikeOut : ByteArray := prog_11_method_34_code
def yX9_strikeOut : MethodName := ⟨RX9, "strikeOut", "(I)V"⟩
abbrev cX9_strike : ByteArray := prog_11_method_35_code
def yX9_strike : MethodName := ⟨RX9, "strike", "(I)I"⟩
abbrev cX9_price : ByteArray := prog_11_method_36_code
def yX9_price : MethodName := ⟨RX9, "price", "(I)I"⟩
abbrev cX9_feed : ByteArray := prog_11_method_37_code
def yX9_feed : MethodName := ⟨RX9, "feed", "(I)I"⟩
abbrev cX9_wipe : ByteArray := prog_11_method_38_code
def yX9_wipe : MethodName := ⟨RX9, "wipe", "()I"⟩
abbrev cX9_isCell : ByteArray := prog_11_method_39_code
def yX9_isCell : MethodName := ⟨RX9, "isCell", "(I)Z"⟩
abbrev cX9_tableFault : ByteArray := prog_11_method_40_code
def yX9_tableFault : MethodName := ⟨RX9, "tableFault", "()I"⟩
abbrev cX9_table : ByteArray := prog_11_method_41_code
def yX9_table : MethodName := ⟨RX9, "table", "()I"⟩
abbrev cX9_clearTold : ByteArray := prog_11_method_42_code
def yX9_clearTold : MethodName := ⟨RX9, "clearTold", "()V"⟩
abbrev cX9_make : ByteArray := prog_11_method_43_code
def yX9_make : MethodName := ⟨RX9, "make", "(I)I"⟩
abbrev cX9_makeOver : ByteArray := prog_11_method_44_code
def yX9_makeOver : MethodName := ⟨RX9, "makeOver", "(III)I"⟩
abbrev cX9_here : ByteArray := prog_11_method_45_code
def yX9_here : MethodName := ⟨RX9, "here", "()I"⟩
abbrev cX9_sees : ByteArray := prog_11_method_46_code
def yX9_sees : MethodName := ⟨RX9, "sees", "(I)Z"⟩
abbrev cX9_wrong : ByteArray := prog_11_method_47_code
def yX9_wrong : MethodName := ⟨RX9, "wrong", "()I"⟩
abbrev cX9_must : ByteArray := prog_11_method_48_code
def yX9_must : MethodName := ⟨RX9, "must", "(I)V"⟩
abbrev cX9_signOf : ByteArray := prog_11_method_49_code
def yX9_signOf : MethodName := ⟨RX9, "signOf", "(I)I"⟩
abbrev cX9_number : ByteArray := prog_11_method_50_code
def yX9_number : MethodName := ⟨RX9, "number", "(II)I"⟩
abbrev cX9_signHere : ByteArray := prog_11_method_51_code
def yX9_signHere : MethodName := ⟨RX9, "signHere", "()V"⟩
abbrev cX9_severalHere : ByteArray := prog_11_method_52_code
def yX9_severalHere : MethodName := ⟨RX9, "severalHere", "(I)I"⟩
abbrev cX9_amongHere : ByteArray := prog_11_method_53_code
def yX9_amongHere : MethodName := ⟨RX9, "amongHere", "(I)I"⟩
abbrev cX9_columnHere : ByteArray := prog_11_method_54_code
def yX9_columnHere : MethodName := ⟨RX9, "columnHere", "(I)I"⟩
abbrev cX9_turnHere : ByteArray := prog_11_method_55_code
def yX9_turnHere : MethodName := ⟨RX9, "turnHere", "()I"⟩
abbrev cX9_eachHere : ByteArray := prog_11_method_56_code
def yX9_eachHere : MethodName := ⟨RX9, "eachHere", "()I"⟩
abbrev cX9_condHere : ByteArray := prog_11_method_57_code
def yX9_condHere : MethodName := ⟨RX9, "condHere", "()I"⟩
abbrev cX9_cond : ByteArray := prog_11_method_58_code
def yX9_cond : MethodName := ⟨RX9, "cond", "()I"⟩
abbrev cX9_added : ByteArray := prog_11_method_59_code
def yX9_added : MethodName := ⟨RX9, "added", "()I"⟩
abbrev cX9_add : ByteArray := prog_11_method_60_code
def yX9_add : MethodName := ⟨RX9, "add", "(I)I"⟩
abbrev cX9_tell : ByteArray := prog_11_method_61_code
def yX9_tell : MethodName := ⟨RX9, "tell", "(IIIII)I"⟩
abbrev cX9_isColumn : ByteArray := prog_11_method_62_code
def yX9_isColumn : MethodName := ⟨RX9, "isColumn", "(I)Z"⟩
abbrev cX9_test : ByteArray := prog_11_method_63_code
def yX9_test : MethodName := ⟨RX9, "test", "(III)I"⟩
abbrev cX9_among : ByteArray := prog_11_method_64_code
def yX9_among : MethodName := ⟨RX9, "among", "(II)I"⟩
abbrev cX9_gone : ByteArray := prog_11_method_65_code
def yX9_gone : MethodName := ⟨RX9, "gone", "(I)I"⟩
abbrev cX9_columns : ByteArray := prog_11_method_66_code
def yX9_columns : MethodName := ⟨RX9, "columns", "(III)I"⟩
abbrev cX9_rest : ByteArray := prog_11_method_67_code
def yX9_rest : MethodName := ⟨RX9, "rest", "(III)I"⟩
abbrev cX9_noRowOf : ByteArray := prog_11_method_68_code
def yX9_noRowOf : MethodName := ⟨RX9, "noRowOf", "(II)I"⟩
abbrev cX9_several : ByteArray := prog_11_method_69_code
def yX9_several : MethodName := ⟨RX9, "several", "(III)I"⟩
abbrev cX9_pair : ByteArray := prog_11_method_70_code
def yX9_pair : MethodName := ⟨RX9, "pair", "(III)I"⟩
abbrev cX9_turn : ByteArray := prog_11_method_71_code
def yX9_turn : MethodName := ⟨RX9, "turn", "(II)I"⟩
abbrev cX9_drop : ByteArray := prog_11_method_72_code
def yX9_drop : MethodName := ⟨RX9, "drop", "()I"⟩
abbrev cX9_condOf : ByteArray := prog_11_method_73_code
def yX9_condOf : MethodName := ⟨RX9, "condOf", "(II)I"⟩
abbrev cX9_lineOf : ByteArray := prog_11_method_74_code
def yX9_lineOf : MethodName := ⟨RX9, "lineOf", "(II)I"⟩
abbrev cX9_isIndex : ByteArray := prog_11_method_75_code
def yX9_isIndex : MethodName := ⟨RX9, "isIndex", "(I)Z"⟩
abbrev cX9_keyOf : ByteArray := prog_11_method_76_code
def yX9_keyOf : MethodName := ⟨RX9, "keyOf", "(II)I"⟩
abbrev cX9_truth : ByteArray := prog_11_method_77_code
def yX9_truth : MethodName := ⟨RX9, "truth", "(III)I"⟩
abbrev cX9_keysOf : ByteArray := prog_11_method_78_code
def yX9_keysOf : MethodName := ⟨RX9, "keysOf", "(II)I"⟩
abbrev cX9_keys : ByteArray := prog_11_method_79_code
def yX9_keys : MethodName := ⟨RX9, "keys", "(II)I"⟩
abbrev cX9_linesOf : ByteArray := prog_11_method_80_code
def yX9_linesOf : MethodName := ⟨RX9, "linesOf", "(II)I"⟩
abbrev cX9_lines : ByteArray := prog_11_method_81_code
def yX9_lines : MethodName := ⟨RX9, "lines", "(II)I"⟩
abbrev cX9_valuesOf : ByteArray := prog_11_method_82_code
def yX9_valuesOf : MethodName := ⟨RX9, "valuesOf", "(II)I"⟩
abbrev cX9_values : ByteArray := prog_11_method_83_code
def yX9_values : MethodName := ⟨RX9, "values", "(II)I"⟩
abbrev cX9_runsIn : ByteArray := prog_11_method_84_code
def yX9_runsIn : MethodName := ⟨RX9, "runsIn", "(II)V"⟩
abbrev cX9_mergeOnce : ByteArray := prog_11_method_85_code
def yX9_mergeOnce : MethodName := ⟨RX9, "mergeOnce", "()V"⟩
abbrev cX9_planIn : ByteArray := prog_11_method_86_code
def yX9_planIn : MethodName := ⟨RX9, "planIn", "(III)V"⟩
abbrev cX9_spanAt : ByteArray := prog_11_method_87_code
def yX9_spanAt : MethodName := ⟨RX9, "spanAt", "(I)I"⟩
abbrev cX9_runs : ByteArray := prog_11_method_88_code
def yX9_runs : MethodName := ⟨RX9, "runs", "(II)I"⟩
abbrev cX9_run : ByteArray := prog_11_method_89_code
def yX9_run : MethodName := ⟨RX9, "run", "(III)I"⟩
abbrev cX9_plan : ByteArray := prog_11_method_90_code
def yX9_plan : MethodName := ⟨RX9, "plan", "(IIII)I"⟩
abbrev cX9_isRead : ByteArray := prog_11_method_91_code
def yX9_isRead : MethodName := ⟨RX9, "isRead", "(I)Z"⟩
abbrev cX9_readIn : ByteArray := prog_11_method_92_code
def yX9_readIn : MethodName := ⟨RX9, "readIn", "(IIZ)I"⟩
abbrev cX9_otherKeys : ByteArray := prog_11_method_93_code
def yX9_otherKeys : MethodName := ⟨RX9, "otherKeys", "(II)I"⟩
abbrev cX9_still : ByteArray := prog_11_method_94_code
def yX9_still : MethodName := ⟨RX9, "still", "(II)I"⟩
abbrev cX9_costIn : ByteArray := prog_11_method_95_code
def yX9_costIn : MethodName := ⟨RX9, "costIn", "(II)I"⟩
abbrev cX9_of : ByteArray := prog_11_method_96_code
def yX9_of : MethodName := ⟨RX9, "of", "(IIII)I"⟩
abbrev cX9_bestIn : ByteArray := prog_11_method_97_code
def yX9_bestIn : MethodName := ⟨RX9, "bestIn", "(II)I"⟩
abbrev cX9_best : ByteArray := prog_11_method_98_code
def yX9_best : MethodName := ⟨RX9, "best", "(III)I"⟩
abbrev cX9_bestIndex : ByteArray := prog_11_method_99_code
def yX9_bestIndex : MethodName := ⟨RX9, "bestIndex", "(II)I"⟩
abbrev cX9_seek : ByteArray := prog_11_method_100_code
def yX9_seek : MethodName := ⟨RX9, "seek", "(IIII)I"⟩
abbrev cX9_leads : ByteArray := prog_11_method_101_code
def yX9_leads : MethodName := ⟨RX9, "leads", "(IIIIZ)Z"⟩
abbrev cX9_leaders : ByteArray := prog_11_method_102_code
def yX9_leaders : MethodName := ⟨RX9, "leaders", "(IIII)I"⟩
abbrev cX9_without : ByteArray := prog_11_method_103_code
def yX9_without : MethodName := ⟨RX9, "without", "(II)I"⟩
abbrev cX9_isAhead : ByteArray := prog_11_method_104_code
def yX9_isAhead : MethodName := ⟨RX9, "isAhead", "(IIII)Z"⟩
abbrev cX9_findIn : ByteArray := prog_11_method_105_code
def yX9_findIn : MethodName := ⟨RX9, "findIn", "(III)V"⟩
abbrev cX9_found : ByteArray := prog_11_method_106_code
def yX9_found : MethodName := ⟨RX9, "found", "(III)I"⟩
abbrev cX9_order : ByteArray := prog_11_method_107_code
def yX9_order : MethodName := ⟨RX9, "order", "(IIII)I"⟩
abbrev cX9_behind : ByteArray := prog_11_method_108_code
def yX9_behind : MethodName := ⟨RX9, "behind", "(III)I"⟩
abbrev cX9_implies : ByteArray := prog_11_method_109_code
def yX9_implies : MethodName := ⟨RX9, "implies", "(II)I"⟩
abbrev cX9_differ : ByteArray := prog_11_method_110_code
def yX9_differ : MethodName := ⟨RX9, "differ", "(II)I"⟩
abbrev cX9_alike : ByteArray := prog_11_method_111_code
def yX9_alike : MethodName := ⟨RX9, "alike", "(II)I"⟩
abbrev cX9_same : ByteArray := prog_11_method_112_code
def yX9_same : MethodName := ⟨RX9, "same", "(I)I"⟩
abbrev cX9_isTold : ByteArray := prog_11_method_113_code
def yX9_isTold : MethodName := ⟨RX9, "isTold", "(IIIII)Z"⟩
abbrev cX9_signs : ByteArray := prog_11_method_114_code
def yX9_signs : MethodName := ⟨RX9, "signs", "(IIII)I"⟩
abbrev cX9_judge : ByteArray := prog_11_method_115_code
def yX9_judge : MethodName := ⟨RX9, "judge", "(IIII)I"⟩
abbrev cX9_many : ByteArray := prog_11_method_116_code
def yX9_many : MethodName := ⟨RX9, "many", "(II)I"⟩
abbrev cX9_whatIf : ByteArray := prog_11_method_117_code
def yX9_whatIf : MethodName := ⟨RX9, "whatIf", "(IIII)I"⟩
abbrev cX9_draw : ByteArray := prog_11_method_118_code
def yX9_draw : MethodName := ⟨RX9, "draw", "(I)I"⟩
abbrev cX9_days : ByteArray := prog_11_method_119_code
def yX9_days : MethodName := ⟨RX9, "days", "(I)I"⟩
abbrev cX9_seed : ByteArray := prog_11_method_120_code
def yX9_seed : MethodName := ⟨RX9, "seed", "(I)I"⟩
abbrev cX9_take : ByteArray := prog_11_method_121_code
def yX9_take : MethodName := ⟨RX9, "take", "([I[I)V"⟩
abbrev cX9_image : ByteArray := prog_11_method_122_code
def yX9_image : MethodName := ⟨RX9, "image", "()I"⟩
abbrev cX9_back : ByteArray := prog_11_method_123_code
def yX9_back : MethodName := ⟨RX9, "back", "()I"⟩
abbrev cX9_differentKeys : ByteArray := prog_11_method_124_code
def yX9_differentKeys : MethodName := ⟨RX9, "differentKeys", "()I"⟩
abbrev cX9_status : ByteArray := prog_11_method_125_code
def yX9_status : MethodName := ⟨RX9, "status", "(I)I"⟩
abbrev cJ6_bitCount_0f7a4 : ByteArray := prog_12_method_49_code
def yJ6_bitCount_0f7a4 : MethodName := ⟨RJ6, "bitCount", "(I)I"⟩
abbrev cJ9_max_7cf53 : ByteArray := prog_13_method_65_code
def yJ9_max_7cf53 : MethodName := ⟨RJ9, "max", "(II)I"⟩
abbrev cJ9_min_7cf53 : ByteArray := prog_13_method_69_code
def yJ9_min_7cf53 : MethodName := ⟨RJ9, "min", "(II)I"⟩
def yL_law : MethodName := ⟨RL, "law", "([I)Z"⟩
/-! ===== own tables: methods, links, by program out of the tables of the claim ===== -/
abbrev zPos : Type := Nat × Nat
abbrev zRow : Type := MethodName × ByteArray × Nat × Option FieldType × Nat × Nat × Nat × zPos × zPos × zPos × zPos
def zT_0 : List zRow := [
  (yX0_init, cX0_init, 1, none, 2, 0, 0, (1, 59), (1, 58), (1, 4), (99, 0)),
  (yX0_begin, cX0_begin, 5, none, 1, 4, 0, (3, 73), (3, 71), (1, 4), (3, 72)),
  (yX0_addColumn, cX0_addColumn, 3, none, 1, 2, 0, (3, 103), (3, 101), (1, 4), (3, 102)),
  (yX0_columnCount, cX0_columnCount, 1, (some FieldType.int), 1, 0, 0, (3, 132), (3, 130), (1, 4), (3, 131)),
  (yX0_want, cX0_want, 3, none, 1, 2, 0, (3, 114), (3, 112), (1, 4), (3, 113)),
  (yX0_names, cX0_names, 2, (some FieldType.boolean), 1, 1, 0, (3, 119), (3, 117), (1, 4), (3, 118)),
  (yX0_copyFrom, cX0_copyFrom, 3, none, 1, 1, 0, (5, 70), (5, 68), (1, 4), (5, 69)),
  (yX0_settleLeaf, cX0_settleLeaf, 3, none, 1, 1, 0, (3, 163), (3, 161), (1, 4), (3, 162)),
  (yX0_settleOver, cX0_settleOver, 5, none, 1, 3, 0, (3, 192), (3, 190), (1, 4), (3, 191)),
  (yX0_leafTruth, cX0_leafTruth, 3, (some FieldType.int), 1, 1, 0, (3, 167), (3, 166), (1, 4), (0, 13)),
  (yX0_digitOf, cX0_digitOf, 3, (some FieldType.int), 1, 2, 0, (3, 171), (3, 170), (1, 4), (0, 14)),
  (yX0_orDoubt, cX0_orDoubt, 2, (some FieldType.int), 0, 2, 0, (3, 177), (3, 176), (1, 4), (99, 0)),
  (yX0_orderTruth, cX0_orderTruth, 5, (some FieldType.int), 1, 1, 0, (3, 181), (3, 180), (1, 4), (0, 15)),
  (yX0_equalTruth, cX0_equalTruth, 5, (some FieldType.int), 1, 1, 0, (3, 185), (3, 184), (1, 4), (0, 16)),
  (yX0_joinedTruth, cX0_joinedTruth, 3, (some FieldType.int), 1, 2, 0, (3, 199), (3, 198), (1, 4), (0, 17)),
  (yX0_opposite, cX0_opposite, 1, (some FieldType.int), 0, 1, 0, (3, 188), (3, 187), (1, 4), (99, 0)),
  (yX0_isOfSort, cX0_isOfSort, 2, (some FieldType.boolean), 1, 1, 0, (2, 151), (2, 149), (1, 4), (2, 150)),
  (yX0_toldAs, cX0_toldAs, 2, (some FieldType.int), 1, 1, 0, (2, 155), (2, 153), (1, 4), (2, 154)),
  (yX0_countKeys, cX0_countKeys, 4, (some FieldType.int), 1, 1, 0, (2, 159), (2, 157), (1, 4), (2, 158)),
  (yX0_valuesIn, cX0_valuesIn, 4, (some FieldType.int), 1, 1, 0, (2, 163), (2, 161), (1, 4), (2, 162)),
  (yX0_firstUnlike, cX0_firstUnlike, 3, (some FieldType.int), 1, 1, 0, (5, 2), (5, 0), (1, 4), (5, 1)),
  (yX1_init, cX1_init, 2, none, 2, 0, 1, (1, 52), (1, 51), (1, 3), (99, 0)),
  (yX1_copyFrom, cX1_copyFrom, 3, none, 1, 1, 1, (5, 66), (5, 64), (1, 3), (5, 65)),
  (yX1_has, cX1_has, 2, (some FieldType.boolean), 1, 1, 1, (2, 126), (2, 124), (1, 3), (2, 125)),
  (yX1_at, cX1_at, 2, (some (FieldType.object "SkippingKeys$Condition")), 1, 1, 1, (2, 147), (2, 145), (1, 3), (2, 146)),
  (yX1_draft, cX1_draft, 4, (some (FieldType.object "SkippingKeys$Condition")), 1, 2, 1, (3, 92), (3, 90), (1, 3), (3, 91)),
  (yX1_draftOver, cX1_draftOver, 5, none, 1, 3, 1, (3, 68), (3, 66), (1, 3), (3, 67)),
  (yX1_lastDraft, cX1_lastDraft, 1, (some FieldType.int), 1, 0, 1, (3, 77), (3, 75), (1, 3), (3, 76)),
  (yX1_fitsDrafts, cX1_fitsDrafts, 1, (some FieldType.boolean), 1, 0, 1, (3, 152), (3, 150), (1, 3), (3, 151)),
  (yX1_forgetDrafts, cX1_forgetDrafts, 1, none, 1, 0, 1, (3, 144), (3, 142), (1, 3), (3, 143)),
  (yX1_settleDrafts, cX1_settleDrafts, 4, none, 1, 0, 1, (3, 156), (3, 154), (1, 3), (3, 155)),
  (yX2_init, cX2_init, 1, none, 2, 0, 2, (1, 26), (1, 25), (1, 2), (99, 0)),
  (yX2_copyFrom, cX2_copyFrom, 2, none, 1, 1, 2, (5, 62), (5, 60), (1, 2), (5, 61)),
  (yX2_has, cX2_has, 2, (some FieldType.boolean), 1, 1, 2, (2, 198), (2, 196), (1, 2), (2, 197)),
  (yX2_valueOf, cX2_valueOf, 3, (some FieldType.int), 1, 2, 2, (2, 206), (2, 204), (1, 2), (2, 205)),
  (yX2_put, cX2_put, 4, none, 1, 3, 2, (2, 190), (2, 188), (1, 2), (2, 189)),
  (yX2_putAll, cX2_putAll, 5, none, 1, 4, 2, (2, 186), (2, 185), (1, 2), (0, 1)),
  (yX2_add, cX2_add, 4, none, 1, 3, 2, (2, 182), (2, 180), (1, 2), (2, 181)),
  (yX2_remove, cX2_remove, 4, none, 1, 1, 2, (2, 215), (2, 213), (1, 2), (2, 214)),
  (yX2_keyIn, cX2_keyIn, 4, (some FieldType.int), 1, 2, 2, (4, 38), (4, 36), (1, 2), (4, 37))]
def zT_1 : List zRow := [
  (yX2_truthOf, cX2_truthOf, 3, (some FieldType.int), 1, 2, 2, (4, 74), (4, 72), (1, 2), (4, 73)),
  (yX2_countOf, cX2_countOf, 5, (some FieldType.int), 1, 2, 2, (4, 70), (4, 68), (1, 2), (4, 69)),
  (yX2_countValue, cX2_countValue, 5, (some FieldType.int), 1, 2, 2, (5, 31), (5, 29), (1, 2), (5, 30)),
  (yX2_liveDay, cX2_liveDay, 4, none, 1, 0, 2, (5, 43), (5, 41), (1, 2), (5, 42)),
  (yX2_draw, cX2_draw, 2, (some FieldType.int), 1, 1, 2, (5, 47), (5, 46), (1, 2), (0, 31)),
  (yX3_init, cX3_init, 1, none, 2, 0, 3, (1, 238), (1, 237), (1, 9), (99, 0)),
  (yX3_codeOf, cX3_codeOf, 4, (some FieldType.int), 0, 3, 3, (4, 208), (4, 207), (1, 9), (99, 0)),
  (yX3_rank, cX3_rank, 6, none, 1, 4, 3, (4, 203), (4, 201), (1, 9), (4, 202)),
  (yX3_insert, cX3_insert, 3, none, 1, 1, 3, (4, 212), (4, 211), (1, 9), (0, 28)),
  (yX3_lineAt, cX3_lineAt, 2, (some FieldType.int), 1, 1, 3, (4, 216), (4, 214), (1, 9), (4, 215)),
  (yX3_firstBehind, cX3_firstBehind, 3, (some FieldType.int), 1, 1, 3, (4, 229), (4, 227), (1, 9), (4, 228)),
  (yX4_init, cX4_init, 1, none, 2, 0, 4, (1, 166), (1, 165), (1, 7), (99, 0)),
  (yX4_readTable, cX4_readTable, 4, (some FieldType.boolean), 1, 1, 4, (3, 5), (3, 3), (1, 7), (3, 4)),
  (yX4_readLine, cX4_readLine, 4, (some FieldType.boolean), 1, 1, 4, (3, 13), (3, 12), (1, 7), (0, 2)),
  (yX4_lineCount, cX4_lineCount, 1, (some FieldType.int), 1, 0, 4, (3, 31), (3, 29), (1, 7), (3, 30)),
  (yX4_valueRead, cX4_valueRead, 4, (some FieldType.int), 1, 2, 4, (3, 35), (3, 33), (1, 7), (3, 34)),
  (yX4_readCondition, cX4_readCondition, 6, (some FieldType.boolean), 1, 2, 4, (3, 44), (3, 42), (1, 7), (3, 43)),
  (yX4_isTurnSign, cX4_isTurnSign, 1, (some FieldType.boolean), 0, 1, 4, (3, 84), (3, 83), (1, 7), (99, 0)),
  (yX4_isClosed, cX4_isClosed, 2, (some FieldType.boolean), 1, 1, 4, (3, 48), (3, 47), (1, 7), (0, 3)),
  (yX4_readBehindTurn, cX4_readBehindTurn, 4, (some FieldType.boolean), 1, 3, 4, (3, 140), (3, 139), (1, 7), (0, 11)),
  (yX4_turnIsWhole, cX4_turnIsWhole, 4, none, 1, 2, 4, (3, 136), (3, 135), (1, 7), (0, 10)),
  (yX4_closeOr, cX4_closeOr, 4, none, 1, 1, 4, (3, 52), (3, 51), (1, 7), (0, 4)),
  (yX4_pushOpen, cX4_pushOpen, 2, none, 1, 1, 4, (3, 88), (3, 87), (1, 7), (0, 9)),
  (yX4_topOpen, cX4_topOpen, 1, (some FieldType.int), 1, 0, 4, (3, 56), (3, 55), (1, 7), (0, 5)),
  (yX4_popOpen, cX4_popOpen, 1, none, 1, 0, 4, (3, 60), (3, 59), (1, 7), (0, 6)),
  (yX4_pushWhole, cX4_pushWhole, 2, none, 1, 1, 4, (3, 81), (3, 80), (1, 7), (0, 8)),
  (yX4_popWhole, cX4_popWhole, 1, (some FieldType.int), 1, 0, 4, (3, 64), (3, 63), (1, 7), (0, 7)),
  (yX4_readLeaf, cX4_readLeaf, 3, (some FieldType.boolean), 0, 2, 4, (3, 95), (3, 94), (1, 7), (99, 0)),
  (yX4_readCompared, cX4_readCompared, 4, (some FieldType.boolean), 0, 2, 4, (3, 110), (3, 109), (1, 7), (99, 0)),
  (yX4_readAmong, cX4_readAmong, 5, (some FieldType.boolean), 0, 2, 4, (3, 122), (3, 121), (1, 7), (99, 0)),
  (yX4_readRest, cX4_readRest, 4, (some FieldType.boolean), 0, 2, 4, (3, 125), (3, 124), (1, 7), (99, 0)),
  (yX4_readSeveral, cX4_readSeveral, 5, (some FieldType.boolean), 0, 2, 4, (3, 128), (3, 127), (1, 7), (99, 0)),
  (yX5_init, cX5_init, 2, none, 2, 0, 5, (1, 131), (1, 130), (1, 5), (99, 0)),
  (yX5_isShelf, cX5_isShelf, 1, (some FieldType.boolean), 0, 1, 5, (2, 51), (2, 50), (1, 5), (99, 0)),
  (yX5_heldBy, cX5_heldBy, 2, (some FieldType.int), 1, 1, 5, (2, 118), (2, 116), (1, 5), (2, 117)),
  (yX5_empty, cX5_empty, 2, none, 1, 1, 5, (2, 131), (2, 129), (1, 5), (2, 130)),
  (yX5_holdCondition, cX5_holdCondition, 3, none, 1, 2, 5, (2, 135), (2, 133), (1, 5), (2, 134)),
  (yX5_conditionIn, cX5_conditionIn, 2, (some FieldType.int), 1, 1, 5, (2, 143), (2, 141), (1, 5), (2, 142)),
  (yX5_layRow, cX5_layRow, 5, none, 1, 3, 5, (2, 63), (2, 61), (1, 5), (2, 62)),
  (yX5_whyNoRow, cX5_whyNoRow, 2, (some FieldType.int), 1, 1, 5, (2, 71), (2, 69), (1, 5), (2, 70))]
def zT_2 : List zRow := [
  (yX5_whyNoRowOf, cX5_whyNoRowOf, 4, (some FieldType.int), 1, 2, 5, (3, 235), (3, 233), (1, 5), (3, 234)),
  (yX5_whyNoTwoRows, cX5_whyNoTwoRows, 5, (some FieldType.int), 1, 2, 5, (2, 90), (2, 88), (1, 5), (2, 89)),
  (yX5_hasElement, cX5_hasElement, 3, (some FieldType.boolean), 1, 2, 5, (2, 75), (2, 73), (1, 5), (2, 74)),
  (yX5_hasPart, cX5_hasPart, 4, (some FieldType.boolean), 1, 3, 5, (2, 95), (2, 93), (1, 5), (2, 94)),
  (yX5_elementAt, cX5_elementAt, 3, (some FieldType.long), 1, 2, 5, (2, 110), (2, 108), (1, 5), (2, 109)),
  (yX5_put, cX5_put, 5, none, 1, 3, 5, (2, 79), (2, 77), (1, 5), (2, 78)),
  (yX5_carry, cX5_carry, 6, none, 1, 5, 5, (2, 99), (2, 97), (1, 5), (2, 98)),
  (yX5_kept, cX5_kept, 3, (some FieldType.long), 0, 2, 5, (2, 82), (2, 81), (1, 5), (99, 0)),
  (yX5_forgetConditionsFrom, cX5_forgetConditionsFrom, 3, none, 1, 1, 5, (4, 18), (4, 16), (1, 5), (4, 17)),
  (yX5_countHolding, cX5_countHolding, 3, (some FieldType.int), 1, 0, 5, (5, 89), (5, 87), (1, 5), (5, 88)),
  (yX6_init, cX6_init, 1, none, 2, 0, 6, (1, 191), (1, 190), (1, 8), (99, 0)),
  (yX6_layOut, cX6_layOut, 6, none, 1, 2, 6, (4, 88), (4, 86), (1, 8), (4, 87)),
  (yX6_runTold, cX6_runTold, 2, (some FieldType.int), 1, 1, 6, (4, 97), (4, 95), (1, 8), (4, 96)),
  (yX6_planSize, cX6_planSize, 2, (some FieldType.int), 1, 1, 6, (4, 105), (4, 103), (1, 8), (4, 104)),
  (yX6_widthOf, cX6_widthOf, 2, (some FieldType.int), 1, 1, 6, (4, 118), (4, 117), (1, 8), (0, 21)),
  (yX6_orderGaps, cX6_orderGaps, 4, none, 1, 0, 6, (4, 114), (4, 113), (1, 8), (0, 20)),
  (yX6_joinDownTo, cX6_joinDownTo, 3, none, 1, 1, 6, (4, 110), (4, 108), (1, 8), (4, 109)),
  (yX6_spanTold, cX6_spanTold, 5, (some FieldType.int), 1, 1, 6, (4, 123), (4, 121), (1, 8), (4, 122)),
  (yX6_gapAt, cX6_gapAt, 3, (some FieldType.int), 1, 1, 6, (4, 144), (4, 143), (1, 8), (0, 22)),
  (yX6_planHas, cX6_planHas, 3, (some FieldType.boolean), 1, 1, 6, (4, 140), (4, 138), (1, 8), (4, 139)),
  (yX6_countKeysBetween, cX6_countKeysBetween, 3, (some FieldType.int), 1, 0, 6, (4, 131), (4, 129), (1, 8), (4, 130)),
  (yX6_countRead, cX6_countRead, 5, (some FieldType.int), 1, 2, 6, (4, 135), (4, 133), (1, 8), (4, 134)),
  (yX6_findBest, cX6_findBest, 6, none, 1, 2, 6, (4, 162), (4, 160), (1, 8), (4, 161)),
  (yX6_countLinesByGap, cX6_countLinesByGap, 7, (some FieldType.int), 1, 2, 6, (4, 166), (4, 165), (1, 8), (0, 25)),
  (yX7_init, cX7_init, 1, none, 2, 0, 7, (1, 148), (1, 147), (1, 6), (99, 0)),
  (yX7_append, cX7_append, 2, none, 1, 1, 7, (2, 229), (2, 227), (1, 6), (2, 228)),
  (yX7_wipeAll, cX7_wipeAll, 1, none, 1, 0, 7, (2, 237), (2, 235), (1, 6), (2, 236)),
  (yX7_rewind, cX7_rewind, 1, none, 1, 0, 7, (3, 9), (3, 7), (1, 6), (3, 8)),
  (yX7_ahead, cX7_ahead, 1, (some FieldType.int), 1, 0, 7, (3, 17), (3, 15), (1, 6), (3, 16)),
  (yX7_take, cX7_take, 1, none, 1, 0, 7, (3, 27), (3, 25), (1, 6), (3, 26)),
  (yX7_columnAhead, cX7_columnAhead, 2, (some FieldType.int), 1, 0, 7, (3, 99), (3, 97), (1, 6), (3, 98)),
  (yX7_signAhead, cX7_signAhead, 1, (some FieldType.int), 1, 0, 7, (3, 107), (3, 105), (1, 6), (3, 106)),
  (yX7_digitAhead, cX7_digitAhead, 4, (some FieldType.int), 1, 2, 7, (3, 21), (3, 19), (1, 6), (3, 20)),
  (yX8_init, cX8_init, 1, none, 2, 0, 8, (1, 18), (1, 17), (1, 1), (99, 0)),
  (yX8_row, cX8_row, 4, (some FieldType.int), 1, 3, 8, (2, 48), (2, 46), (1, 1), (2, 47)),
  (yX8_set, cX8_set, 6, (some FieldType.int), 1, 3, 8, (2, 67), (2, 65), (1, 1), (2, 66)),
  (yX8_copy, cX8_copy, 7, (some FieldType.int), 1, 5, 8, (2, 86), (2, 84), (1, 1), (2, 85)),
  (yX8_element, cX8_element, 3, (some FieldType.long), 1, 2, 8, (2, 106), (2, 104), (1, 1), (2, 105)),
  (yX8_holds, cX8_holds, 2, (some FieldType.int), 1, 1, 8, (2, 114), (2, 112), (1, 1), (2, 113)),
  (yX8_show, cX8_show, 3, (some FieldType.int), 1, 2, 8, (2, 122), (2, 120), (1, 1), (2, 121))]
def zT_3 : List zRow := [
  (yX8_says, cX8_says, 4, (some FieldType.int), 1, 2, 8, (2, 139), (2, 137), (1, 1), (2, 138)),
  (yX8_line, cX8_line, 4, (some FieldType.int), 1, 3, 8, (2, 175), (2, 173), (1, 1), (2, 174)),
  (yX8_alter, cX8_alter, 5, (some FieldType.int), 1, 3, 8, (2, 194), (2, 192), (1, 1), (2, 193)),
  (yX8_strike, cX8_strike, 2, (some FieldType.int), 1, 1, 8, (2, 211), (2, 209), (1, 1), (2, 210)),
  (yX8_price, cX8_price, 3, (some FieldType.int), 1, 1, 8, (2, 221), (2, 219), (1, 1), (2, 220)),
  (yX8_feed, cX8_feed, 2, (some FieldType.int), 1, 1, 8, (2, 225), (2, 223), (1, 1), (2, 224)),
  (yX8_wipe, cX8_wipe, 2, (some FieldType.int), 1, 0, 8, (2, 233), (2, 231), (1, 1), (2, 232)),
  (yX8_table, cX8_table, 5, (some FieldType.int), 1, 0, 8, (3, 1), (2, 239), (1, 1), (3, 0)),
  (yX8_cond, cX8_cond, 3, (some FieldType.int), 1, 0, 8, (3, 40), (3, 38), (1, 1), (3, 39)),
  (yX8_test, cX8_test, 4, (some FieldType.int), 1, 3, 8, (3, 203), (3, 201), (1, 1), (3, 202)),
  (yX8_among, cX8_among, 3, (some FieldType.int), 1, 2, 8, (3, 215), (3, 213), (1, 1), (3, 214)),
  (yX8_gone, cX8_gone, 2, (some FieldType.int), 1, 1, 8, (3, 219), (3, 217), (1, 1), (3, 218)),
  (yX8_columns, cX8_columns, 5, (some FieldType.int), 1, 3, 8, (3, 223), (3, 221), (1, 1), (3, 222)),
  (yX8_rest, cX8_rest, 5, (some FieldType.int), 1, 3, 8, (3, 227), (3, 225), (1, 1), (3, 226)),
  (yX8_several, cX8_several, 7, (some FieldType.int), 1, 3, 8, (3, 231), (3, 229), (1, 1), (3, 230)),
  (yX8_pair, cX8_pair, 4, (some FieldType.int), 1, 3, 8, (4, 5), (4, 3), (1, 1), (4, 4)),
  (yX8_turn, cX8_turn, 3, (some FieldType.int), 1, 2, 8, (4, 10), (4, 8), (1, 1), (4, 9)),
  (yX8_drop, cX8_drop, 1, (some FieldType.int), 1, 0, 8, (4, 14), (4, 12), (1, 1), (4, 13)),
  (yX8_condOf, cX8_condOf, 4, (some FieldType.int), 1, 2, 8, (4, 23), (4, 21), (1, 1), (4, 22)),
  (yX8_lineOf, cX8_lineOf, 3, (some FieldType.int), 1, 2, 8, (4, 27), (4, 25), (1, 1), (4, 26)),
  (yX8_keyOf, cX8_keyOf, 3, (some FieldType.int), 1, 2, 8, (4, 31), (4, 29), (1, 1), (4, 30)),
  (yX8_truth, cX8_truth, 4, (some FieldType.int), 1, 3, 8, (4, 45), (4, 43), (1, 1), (4, 44)),
  (yX8_keys, cX8_keys, 3, (some FieldType.int), 1, 2, 8, (4, 58), (4, 56), (1, 1), (4, 57)),
  (yX8_lines, cX8_lines, 3, (some FieldType.int), 1, 2, 8, (4, 66), (4, 64), (1, 1), (4, 65)),
  (yX8_values, cX8_values, 3, (some FieldType.int), 1, 2, 8, (4, 79), (4, 77), (1, 1), (4, 78)),
  (yX8_runs, cX8_runs, 3, (some FieldType.int), 1, 2, 8, (4, 84), (4, 82), (1, 1), (4, 83)),
  (yX8_run, cX8_run, 4, (some FieldType.int), 1, 3, 8, (4, 93), (4, 91), (1, 1), (4, 92)),
  (yX8_plan, cX8_plan, 6, (some FieldType.int), 1, 4, 8, (4, 101), (4, 99), (1, 1), (4, 100)),
  (yX8_of, cX8_of, 6, (some FieldType.int), 1, 4, 8, (4, 127), (4, 125), (1, 1), (4, 126)),
  (yX8_best, cX8_best, 4, (some FieldType.int), 1, 3, 8, (4, 158), (4, 156), (1, 1), (4, 157)),
  (yX8_bestIndex, cX8_bestIndex, 6, (some FieldType.int), 1, 2, 8, (4, 170), (4, 168), (1, 1), (4, 169)),
  (yX8_seek, cX8_seek, 6, (some FieldType.int), 1, 4, 8, (4, 174), (4, 172), (1, 1), (4, 173)),
  (yX8_leaders, cX8_leaders, 8, (some FieldType.int), 1, 4, 8, (4, 186), (4, 184), (1, 1), (4, 185)),
  (yX8_found, cX8_found, 4, (some FieldType.int), 1, 3, 8, (4, 199), (4, 197), (1, 1), (4, 198)),
  (yX8_order, cX8_order, 5, (some FieldType.int), 1, 4, 8, (4, 220), (4, 218), (1, 1), (4, 219)),
  (yX8_behind, cX8_behind, 4, (some FieldType.int), 1, 3, 8, (4, 224), (4, 222), (1, 1), (4, 223)),
  (yX8_implies, cX8_implies, 6, (some FieldType.int), 1, 2, 8, (4, 234), (4, 232), (1, 1), (4, 233)),
  (yX8_alike, cX8_alike, 3, (some FieldType.int), 1, 2, 8, (4, 238), (4, 236), (1, 1), (4, 237)),
  (yX8_same, cX8_same, 3, (some FieldType.int), 1, 1, 8, (5, 6), (5, 4), (1, 1), (5, 5)),
  (yX8_signs, cX8_signs, 8, (some FieldType.int), 1, 4, 8, (5, 10), (5, 8), (1, 1), (5, 9))]
def zT_4 : List zRow := [
  (yX8_judge, cX8_judge, 7, (some FieldType.int), 1, 4, 8, (5, 23), (5, 21), (1, 1), (5, 22)),
  (yX8_many, cX8_many, 3, (some FieldType.int), 1, 2, 8, (5, 27), (5, 25), (1, 1), (5, 26)),
  (yX8_whatIf, cX8_whatIf, 8, (some FieldType.int), 1, 4, 8, (5, 35), (5, 33), (1, 1), (5, 34)),
  (yX8_days, cX8_days, 3, (some FieldType.int), 1, 1, 8, (5, 39), (5, 37), (1, 1), (5, 38)),
  (yX8_seed, cX8_seed, 3, (some FieldType.int), 1, 1, 8, (5, 54), (5, 52), (1, 1), (5, 53)),
  (yX8_image, cX8_image, 1, (some FieldType.int), 1, 0, 8, (5, 58), (5, 56), (1, 1), (5, 57)),
  (yX8_back, cX8_back, 1, (some FieldType.int), 1, 0, 8, (5, 77), (5, 75), (1, 1), (5, 76)),
  (yX8_status, cX8_status, 2, (some FieldType.int), 1, 1, 8, (5, 81), (5, 79), (1, 1), (5, 80)),
  (yX8_refuse, cX8_refuse, 3, (some FieldType.int), 1, 1, 8, (2, 59), (2, 58), (1, 1), (0, 0)),
  (yX8_settled, cX8_settled, 1, (some FieldType.int), 1, 0, 8, (3, 148), (3, 147), (1, 1), (0, 12)),
  (yX8_isCondAndIndex, cX8_isCondAndIndex, 3, (some FieldType.boolean), 1, 2, 8, (4, 49), (4, 48), (1, 1), (0, 19)),
  (yX8_tellsSeveral, cX8_tellsSeveral, 10, (some FieldType.boolean), 1, 2, 8, (3, 239), (3, 238), (1, 1), (0, 18)),
  (yX8_tellsLines, cX8_tellsLines, 8, (some FieldType.boolean), 1, 2, 8, (5, 14), (5, 13), (1, 1), (0, 29)),
  (yX8_fitsTold, cX8_fitsTold, 9, (some FieldType.boolean), 1, 5, 8, (5, 18), (5, 17), (1, 1), (0, 30)),
  (yX8_stillToTest, cX8_stillToTest, 5, (some FieldType.int), 1, 2, 8, (4, 149), (4, 148), (1, 1), (0, 23)),
  (yX8_isTrueInPlan, cX8_isTrueInPlan, 4, (some FieldType.boolean), 1, 2, 8, (4, 153), (4, 152), (1, 1), (0, 24)),
  (yX8_seekUp, cX8_seekUp, 4, (some FieldType.int), 0, 3, 8, (4, 177), (4, 176), (1, 1), (99, 0)),
  (yX8_seekDown, cX8_seekDown, 4, (some FieldType.int), 0, 3, 8, (4, 181), (4, 180), (1, 1), (99, 0)),
  (yX8_countDifferentKeys, cX8_countDifferentKeys, 2, (some FieldType.int), 1, 0, 8, (5, 85), (5, 84), (1, 1), (0, 32)),
  (yX8_clearSeen, cX8_clearSeen, 2, none, 1, 0, 8, (4, 190), (4, 189), (1, 1), (0, 26)),
  (yX8_countSeen, cX8_countSeen, 3, (some FieldType.int), 1, 0, 8, (4, 195), (4, 194), (1, 1), (0, 27)),
  (yX8_isWithin, cX8_isWithin, 3, (some FieldType.boolean), 0, 3, 8, (2, 54), (2, 53), (1, 1), (99, 0)),
  (yX8_isColumn, cX8_isColumn, 1, (some FieldType.boolean), 0, 1, 8, (2, 202), (2, 201), (1, 1), (99, 0)),
  (yX8_isIndex, cX8_isIndex, 1, (some FieldType.boolean), 0, 1, 8, (4, 34), (4, 33), (1, 1), (99, 0)),
  (yX8_isSign, cX8_isSign, 1, (some FieldType.boolean), 0, 1, 8, (3, 206), (3, 205), (1, 1), (99, 0)),
  (yX8_isTruth, cX8_isTruth, 1, (some FieldType.boolean), 0, 1, 8, (4, 61), (4, 60), (1, 1), (99, 0)),
  (yX8_isDigit, cX8_isDigit, 1, (some FieldType.boolean), 0, 1, 8, (2, 178), (2, 177), (1, 1), (99, 0)),
  (yX8_isValue, cX8_isValue, 1, (some FieldType.boolean), 0, 1, 8, (3, 209), (3, 208), (1, 1), (99, 0)),
  (yX8_placeOf, cX8_placeOf, 3, (some FieldType.int), 0, 2, 8, (4, 52), (4, 51), (1, 1), (99, 0)),
  (yX8_compared, cX8_compared, 4, (some FieldType.int), 0, 3, 8, (3, 174), (3, 173), (1, 1), (99, 0)),
  (yX9_init, cX9_init, 1, none, 2, 0, 9, (5, 94), (5, 93), (1, 10), (99, 0)),
  (yX9_refuse, cX9_refuse, 2, (some FieldType.int), 1, 1, 9, (5, 235), (5, 234), (1, 10), (0, 33)),
  (yX9_in, cX9_in, 6, (some FieldType.boolean), 0, 3, 9, (5, 229), (5, 228), (1, 10), (99, 0)),
  (yX9_isCond, cX9_isCond, 2, (some FieldType.boolean), 1, 1, 9, (6, 26), (6, 25), (1, 10), (0, 35)),
  (yX9_isLine, cX9_isLine, 2, (some FieldType.boolean), 1, 1, 9, (6, 69), (6, 68), (1, 10), (0, 40)),
  (yX9_bits, cX9_bits, 3, (some FieldType.int), 0, 1, 9, (6, 52), (6, 51), (1, 10), (99, 0)),
  (yX9_row, cX9_row, 5, (some FieldType.int), 1, 3, 9, (5, 225), (5, 223), (1, 10), (5, 224)),
  (yX9_fit, cX9_fit, 3, (some FieldType.long), 0, 2, 9, (6, 6), (6, 5), (1, 10), (99, 0)),
  (yX9_noRow, cX9_noRow, 2, (some FieldType.int), 1, 1, 9, (6, 3), (6, 2), (1, 10), (0, 34)),
  (yX9_set, cX9_set, 6, (some FieldType.int), 1, 3, 9, (5, 239), (5, 237), (1, 10), (5, 238))]
def zT_5 : List zRow := [
  (yX9_copy, cX9_copy, 7, (some FieldType.int), 1, 5, 9, (6, 10), (6, 8), (1, 10), (6, 9)),
  (yX9_element, cX9_element, 3, (some FieldType.long), 1, 2, 9, (6, 14), (6, 12), (1, 10), (6, 13)),
  (yX9_holds, cX9_holds, 2, (some FieldType.int), 1, 1, 9, (6, 18), (6, 16), (1, 10), (6, 17)),
  (yX9_show, cX9_show, 3, (some FieldType.int), 1, 2, 9, (6, 22), (6, 20), (1, 10), (6, 21)),
  (yX9_isOf, cX9_isOf, 2, (some FieldType.boolean), 0, 2, 9, (6, 34), (6, 33), (1, 10), (99, 0)),
  (yX9_says, cX9_says, 4, (some FieldType.int), 1, 2, 9, (6, 30), (6, 28), (1, 10), (6, 29)),
  (yX9_columnAt, cX9_columnAt, 5, (some FieldType.int), 0, 2, 9, (7, 44), (7, 43), (1, 10), (99, 0)),
  (yX9_digit, cX9_digit, 2, (some FieldType.int), 0, 2, 9, (6, 49), (6, 48), (1, 10), (99, 0)),
  (yX9_weight, cX9_weight, 1, (some FieldType.int), 0, 1, 9, (7, 41), (7, 40), (1, 10), (99, 0)),
  (yX9_plain, cX9_plain, 4, (some FieldType.int), 0, 2, 9, (7, 52), (7, 51), (1, 10), (99, 0)),
  (yX9_keyIn, cX9_keyIn, 5, (some FieldType.int), 1, 2, 9, (7, 38), (7, 37), (1, 10), (0, 68)),
  (yX9_isAt, cX9_isAt, 3, (some FieldType.int), 1, 2, 9, (6, 42), (6, 41), (1, 10), (0, 37)),
  (yX9_isFor, cX9_isFor, 3, (some FieldType.int), 1, 2, 9, (7, 68), (7, 67), (1, 10), (0, 70)),
  (yX9_holds_, cX9_holds_, 4, (some FieldType.int), 0, 3, 9, (6, 205), (6, 204), (1, 10), (99, 0)),
  (yX9_severalFor, cX9_severalFor, 9, (some FieldType.int), 1, 2, 9, (6, 202), (6, 201), (1, 10), (0, 64)),
  (yX9_leafFor, cX9_leafFor, 6, (some FieldType.int), 1, 2, 9, (6, 198), (6, 197), (1, 10), (0, 63)),
  (yX9_worked, cX9_worked, 5, (some FieldType.int), 1, 2, 9, (6, 194), (6, 193), (1, 10), (0, 62)),
  (yX9_leafIn, cX9_leafIn, 4, none, 1, 1, 9, (6, 186), (6, 185), (1, 10), (0, 60)),
  (yX9_overIn, cX9_overIn, 4, none, 1, 1, 9, (6, 190), (6, 189), (1, 10), (0, 61)),
  (yX9_workFrom, cX9_workFrom, 4, none, 1, 1, 9, (6, 182), (6, 181), (1, 10), (0, 59)),
  (yX9_put, cX9_put, 5, none, 1, 4, 9, (6, 61), (6, 60), (1, 10), (0, 39)),
  (yX9_line, cX9_line, 4, (some FieldType.int), 1, 3, 9, (6, 56), (6, 54), (1, 10), (6, 55)),
  (yX9_alter, cX9_alter, 5, (some FieldType.int), 1, 3, 9, (6, 65), (6, 63), (1, 10), (6, 64)),
  (yX9_strikeOut, cX9_strikeOut, 3, none, 1, 1, 9, (6, 78), (6, 77), (1, 10), (0, 41)),
  (yX9_strike, cX9_strike, 2, (some FieldType.int), 1, 1, 9, (6, 74), (6, 72), (1, 10), (6, 73)),
  (yX9_price, cX9_price, 3, (some FieldType.int), 1, 1, 9, (6, 82), (6, 80), (1, 10), (6, 81)),
  (yX9_feed, cX9_feed, 2, (some FieldType.int), 1, 1, 9, (6, 87), (6, 85), (1, 10), (6, 86)),
  (yX9_wipe, cX9_wipe, 2, (some FieldType.int), 1, 0, 9, (6, 92), (6, 90), (1, 10), (6, 91)),
  (yX9_isCell, cX9_isCell, 1, (some FieldType.boolean), 0, 1, 9, (6, 103), (6, 102), (1, 10), (99, 0)),
  (yX9_tableFault, cX9_tableFault, 4, (some FieldType.int), 1, 0, 9, (6, 100), (6, 99), (1, 10), (0, 42)),
  (yX9_table, cX9_table, 6, (some FieldType.int), 1, 0, 9, (6, 96), (6, 94), (1, 10), (6, 95)),
  (yX9_clearTold, cX9_clearTold, 2, none, 1, 0, 9, (6, 137), (6, 136), (1, 10), (0, 49)),
  (yX9_make, cX9_make, 3, (some FieldType.int), 1, 1, 9, (6, 141), (6, 140), (1, 10), (0, 50)),
  (yX9_makeOver, cX9_makeOver, 4, (some FieldType.int), 1, 3, 9, (6, 133), (6, 132), (1, 10), (0, 48)),
  (yX9_here, cX9_here, 1, (some FieldType.int), 1, 0, 9, (6, 129), (6, 128), (1, 10), (0, 47)),
  (yX9_sees, cX9_sees, 3, (some FieldType.boolean), 1, 1, 9, (6, 125), (6, 124), (1, 10), (0, 46)),
  (yX9_wrong, cX9_wrong, 1, (some FieldType.int), 1, 0, 9, (6, 149), (6, 148), (1, 10), (0, 52)),
  (yX9_must, cX9_must, 2, none, 1, 1, 9, (6, 145), (6, 144), (1, 10), (0, 51)),
  (yX9_signOf, cX9_signOf, 1, (some FieldType.int), 0, 1, 9, (6, 166), (6, 165), (1, 10), (99, 0)),
  (yX9_number, cX9_number, 3, (some FieldType.int), 1, 2, 9, (6, 170), (6, 169), (1, 10), (0, 56))]
def zT_6 : List zRow := [
  (yX9_signHere, cX9_signHere, 1, none, 1, 0, 9, (6, 163), (6, 162), (1, 10), (0, 55)),
  (yX9_severalHere, cX9_severalHere, 4, (some FieldType.int), 1, 1, 9, (6, 159), (6, 158), (1, 10), (0, 54)),
  (yX9_amongHere, cX9_amongHere, 2, (some FieldType.int), 1, 1, 9, (6, 174), (6, 173), (1, 10), (0, 57)),
  (yX9_columnHere, cX9_columnHere, 3, (some FieldType.int), 1, 1, 9, (6, 155), (6, 154), (1, 10), (0, 53)),
  (yX9_turnHere, cX9_turnHere, 3, (some FieldType.int), 1, 0, 9, (6, 121), (6, 120), (1, 10), (0, 45)),
  (yX9_eachHere, cX9_eachHere, 3, (some FieldType.int), 1, 0, 9, (6, 117), (6, 116), (1, 10), (0, 44)),
  (yX9_condHere, cX9_condHere, 3, (some FieldType.int), 1, 0, 9, (6, 113), (6, 112), (1, 10), (0, 43)),
  (yX9_cond, cX9_cond, 1, (some FieldType.int), 1, 0, 9, (6, 109), (6, 107), (1, 10), (6, 108)),
  (yX9_added, cX9_added, 2, (some FieldType.int), 1, 0, 9, (6, 178), (6, 177), (1, 10), (0, 58)),
  (yX9_add, cX9_add, 2, (some FieldType.int), 1, 1, 9, (6, 221), (6, 220), (1, 10), (0, 66)),
  (yX9_tell, cX9_tell, 6, (some FieldType.int), 1, 5, 9, (6, 217), (6, 216), (1, 10), (0, 65)),
  (yX9_isColumn, cX9_isColumn, 1, (some FieldType.boolean), 0, 1, 9, (6, 212), (6, 211), (1, 10), (99, 0)),
  (yX9_test, cX9_test, 4, (some FieldType.int), 1, 3, 9, (6, 209), (6, 207), (1, 10), (6, 208)),
  (yX9_among, cX9_among, 3, (some FieldType.int), 1, 2, 9, (6, 225), (6, 223), (1, 10), (6, 224)),
  (yX9_gone, cX9_gone, 2, (some FieldType.int), 1, 1, 9, (6, 229), (6, 227), (1, 10), (6, 228)),
  (yX9_columns, cX9_columns, 4, (some FieldType.int), 1, 3, 9, (6, 233), (6, 231), (1, 10), (6, 232)),
  (yX9_rest, cX9_rest, 4, (some FieldType.int), 1, 3, 9, (6, 237), (6, 235), (1, 10), (6, 236)),
  (yX9_noRowOf, cX9_noRowOf, 4, (some FieldType.int), 1, 2, 9, (7, 5), (7, 4), (1, 10), (0, 67)),
  (yX9_several, cX9_several, 11, (some FieldType.int), 1, 3, 9, (7, 1), (6, 239), (1, 10), (7, 0)),
  (yX9_pair, cX9_pair, 4, (some FieldType.int), 1, 3, 9, (7, 9), (7, 7), (1, 10), (7, 8)),
  (yX9_turn, cX9_turn, 3, (some FieldType.int), 1, 2, 9, (7, 13), (7, 11), (1, 10), (7, 12)),
  (yX9_drop, cX9_drop, 2, (some FieldType.int), 1, 0, 9, (7, 18), (7, 16), (1, 10), (7, 17)),
  (yX9_condOf, cX9_condOf, 3, (some FieldType.int), 1, 2, 9, (7, 22), (7, 20), (1, 10), (7, 21)),
  (yX9_lineOf, cX9_lineOf, 3, (some FieldType.int), 1, 2, 9, (7, 26), (7, 24), (1, 10), (7, 25)),
  (yX9_isIndex, cX9_isIndex, 1, (some FieldType.boolean), 0, 1, 9, (7, 33), (7, 32), (1, 10), (99, 0)),
  (yX9_keyOf, cX9_keyOf, 3, (some FieldType.int), 1, 2, 9, (7, 30), (7, 28), (1, 10), (7, 29)),
  (yX9_truth, cX9_truth, 4, (some FieldType.int), 1, 3, 9, (7, 48), (7, 46), (1, 10), (7, 47)),
  (yX9_keysOf, cX9_keysOf, 5, (some FieldType.int), 1, 2, 9, (6, 38), (6, 37), (1, 10), (0, 36)),
  (yX9_keys, cX9_keys, 3, (some FieldType.int), 1, 2, 9, (7, 56), (7, 54), (1, 10), (7, 55)),
  (yX9_linesOf, cX9_linesOf, 5, (some FieldType.int), 1, 2, 9, (7, 64), (7, 63), (1, 10), (0, 69)),
  (yX9_lines, cX9_lines, 3, (some FieldType.int), 1, 2, 9, (7, 60), (7, 58), (1, 10), (7, 59)),
  (yX9_valuesOf, cX9_valuesOf, 5, (some FieldType.int), 1, 2, 9, (6, 46), (6, 45), (1, 10), (0, 38)),
  (yX9_values, cX9_values, 3, (some FieldType.int), 1, 2, 9, (7, 72), (7, 70), (1, 10), (7, 71)),
  (yX9_runsIn, cX9_runsIn, 6, none, 1, 2, 9, (7, 80), (7, 79), (1, 10), (0, 71)),
  (yX9_mergeOnce, cX9_mergeOnce, 3, none, 1, 0, 9, (7, 100), (7, 99), (1, 10), (0, 74)),
  (yX9_planIn, cX9_planIn, 4, none, 1, 3, 9, (7, 96), (7, 95), (1, 10), (0, 73)),
  (yX9_spanAt, cX9_spanAt, 2, (some FieldType.int), 1, 1, 9, (7, 88), (7, 87), (1, 10), (0, 72)),
  (yX9_runs, cX9_runs, 3, (some FieldType.int), 1, 2, 9, (7, 76), (7, 74), (1, 10), (7, 75)),
  (yX9_run, cX9_run, 4, (some FieldType.int), 1, 3, 9, (7, 84), (7, 82), (1, 10), (7, 83)),
  (yX9_plan, cX9_plan, 5, (some FieldType.int), 1, 4, 9, (7, 92), (7, 90), (1, 10), (7, 91))]
def zT_7 : List zRow := [
  (yX9_isRead, cX9_isRead, 3, (some FieldType.boolean), 1, 1, 9, (7, 116), (7, 115), (1, 10), (0, 77)),
  (yX9_readIn, cX9_readIn, 6, (some FieldType.int), 1, 3, 9, (7, 112), (7, 111), (1, 10), (0, 76)),
  (yX9_otherKeys, cX9_otherKeys, 6, (some FieldType.int), 1, 2, 9, (7, 108), (7, 107), (1, 10), (0, 75)),
  (yX9_still, cX9_still, 5, (some FieldType.int), 1, 2, 9, (7, 124), (7, 123), (1, 10), (0, 79)),
  (yX9_costIn, cX9_costIn, 3, (some FieldType.int), 1, 2, 9, (7, 120), (7, 119), (1, 10), (0, 78)),
  (yX9_of, cX9_of, 5, (some FieldType.int), 1, 4, 9, (7, 104), (7, 102), (1, 10), (7, 103)),
  (yX9_bestIn, cX9_bestIn, 6, (some FieldType.int), 1, 2, 9, (7, 132), (7, 131), (1, 10), (0, 80)),
  (yX9_best, cX9_best, 5, (some FieldType.int), 1, 3, 9, (7, 128), (7, 126), (1, 10), (7, 127)),
  (yX9_bestIndex, cX9_bestIndex, 6, (some FieldType.int), 1, 2, 9, (7, 136), (7, 134), (1, 10), (7, 135)),
  (yX9_seek, cX9_seek, 8, (some FieldType.int), 1, 4, 9, (7, 140), (7, 138), (1, 10), (7, 139)),
  (yX9_leads, cX9_leads, 7, (some FieldType.boolean), 1, 5, 9, (7, 148), (7, 147), (1, 10), (0, 81)),
  (yX9_leaders, cX9_leaders, 8, (some FieldType.int), 1, 4, 9, (7, 144), (7, 142), (1, 10), (7, 143)),
  (yX9_without, cX9_without, 2, (some FieldType.int), 0, 2, 9, (7, 163), (7, 162), (1, 10), (99, 0)),
  (yX9_isAhead, cX9_isAhead, 7, (some FieldType.boolean), 1, 4, 9, (7, 160), (7, 159), (1, 10), (0, 83)),
  (yX9_findIn, cX9_findIn, 7, none, 1, 3, 9, (7, 156), (7, 155), (1, 10), (0, 82)),
  (yX9_found, cX9_found, 4, (some FieldType.int), 1, 3, 9, (7, 152), (7, 150), (1, 10), (7, 151)),
  (yX9_order, cX9_order, 5, (some FieldType.int), 1, 4, 9, (7, 167), (7, 165), (1, 10), (7, 166)),
  (yX9_behind, cX9_behind, 6, (some FieldType.int), 1, 3, 9, (7, 171), (7, 169), (1, 10), (7, 170)),
  (yX9_implies, cX9_implies, 4, (some FieldType.int), 1, 2, 9, (7, 175), (7, 173), (1, 10), (7, 174)),
  (yX9_differ, cX9_differ, 4, (some FieldType.int), 1, 2, 9, (7, 183), (7, 182), (1, 10), (0, 84)),
  (yX9_alike, cX9_alike, 3, (some FieldType.int), 1, 2, 9, (7, 179), (7, 177), (1, 10), (7, 178)),
  (yX9_same, cX9_same, 3, (some FieldType.int), 1, 1, 9, (7, 187), (7, 185), (1, 10), (7, 186)),
  (yX9_isTold, cX9_isTold, 9, (some FieldType.boolean), 1, 5, 9, (7, 195), (7, 194), (1, 10), (0, 85)),
  (yX9_signs, cX9_signs, 8, (some FieldType.int), 1, 4, 9, (7, 191), (7, 189), (1, 10), (7, 190)),
  (yX9_judge, cX9_judge, 7, (some FieldType.int), 1, 4, 9, (7, 199), (7, 197), (1, 10), (7, 198)),
  (yX9_many, cX9_many, 5, (some FieldType.int), 1, 2, 9, (7, 203), (7, 201), (1, 10), (7, 202)),
  (yX9_whatIf, cX9_whatIf, 7, (some FieldType.int), 1, 4, 9, (7, 207), (7, 205), (1, 10), (7, 206)),
  (yX9_draw, cX9_draw, 2, (some FieldType.int), 1, 1, 9, (7, 216), (7, 215), (1, 10), (0, 86)),
  (yX9_days, cX9_days, 7, (some FieldType.int), 1, 1, 9, (7, 211), (7, 209), (1, 10), (7, 210)),
  (yX9_seed, cX9_seed, 3, (some FieldType.int), 1, 1, 9, (7, 221), (7, 219), (1, 10), (7, 220)),
  (yX9_take, cX9_take, 3, none, 0, 2, 9, (7, 228), (7, 227), (1, 10), (99, 0)),
  (yX9_image, cX9_image, 1, (some FieldType.int), 1, 0, 9, (7, 225), (7, 223), (1, 10), (7, 224)),
  (yX9_back, cX9_back, 2, (some FieldType.int), 1, 0, 9, (7, 232), (7, 230), (1, 10), (7, 231)),
  (yX9_differentKeys, cX9_differentKeys, 4, (some FieldType.int), 1, 0, 9, (8, 0), (7, 239), (1, 10), (0, 87)),
  (yX9_status, cX9_status, 4, (some FieldType.int), 1, 1, 9, (7, 236), (7, 234), (1, 10), (7, 235)),
  (yJ6_bitCount_0f7a4, cJ6_bitCount_0f7a4, 1, (some FieldType.int), 0, 1, 11, (2, 168), (2, 167), (1, 12), (99, 0)),
  (yJ9_max_7cf53, cJ9_max_7cf53, 2, (some FieldType.int), 0, 2, 12, (3, 195), (3, 194), (1, 13), (99, 0)),
  (yJ9_min_7cf53, cJ9_min_7cf53, 2, (some FieldType.int), 0, 2, 12, (3, 159), (3, 158), (1, 13), (99, 0)),
  (yL_law, code, maxLocals, ret, 3, 1, 10, (99, 0), (99, 0), (99, 0), (99, 0))]
def zTn : Nat := 318
def zNone : zRow := (yL_law, code, maxLocals, ret, 9, 1, 99, (99, 0), (99, 0), (99, 0), (99, 0))
def zrow (k : Nat) : zRow := match k / 40 with
  | 0 => (zT_0[k % 40]?).getD zNone
  | 1 => (zT_1[k % 40]?).getD zNone
  | 2 => (zT_2[k % 40]?).getD zNone
  | 3 => (zT_3[k % 40]?).getD zNone
  | 4 => (zT_4[k % 40]?).getD zNone
  | 5 => (zT_5[k % 40]?).getD zNone
  | 6 => (zT_6[k % 40]?).getD zNone
  | 7 => (zT_7[k % 40]?).getD zNone
  | _ => zNone
def zcn (c : Nat) : String := match c with
  | 0 => RX0
  | 1 => RX1
  | 2 => RX2
  | 3 => RX3
  | 4 => RX4
  | 5 => RX5
  | 6 => RX6
  | 7 => RX7
  | 8 => RX8
  | 9 => RX9
  | 10 => RL
  | 11 => RJ6
  | 12 => RJ9
  | 13 => RJ10
  | _ => "-"
def zpart (i : Nat) : List Cond := match i with
  | 0 => k2_sels lw_privs
  | 1 => tables_1_1
  | 2 => tables_1_2
  | 3 => tables_1_3
  | 4 => tables_1_4
  | 5 => tables_1_5
  | 6 => tables_1_6
  | 7 => tables_1_7
  | 8 => tables_1_8
  | _ => []
def zMl_0 : List (Nat × (Nat × Nat × zPos)) := [(3, (1000, 0, (1, 60))), (44, (181, 1, (3, 115))), (48, (1, 0, (5, 71))), (52, (2, 0, (5, 72))), (62, (1001, 0, (5, 73))), (68, (9, 0, (3, 164))), (72, (316, 0, (3, 193))), (78, (14, 0, (3, 196))), (81, (10, 0, (3, 168))), (84, (189, 1, (3, 172))), (88, (11, 0, (3, 175))), (92, (12, 0, (3, 178))), (95, (13, 0, (3, 182))), (101, (15, 0, (3, 186))), (104, (18, 0, (2, 156))), (107, (19, 0, (2, 160))), (110, (315, 0, (2, 166)))]
def zMl_1 : List (Nat × (Nat × Nat × zPos)) := [(3, (1000, 0, (1, 53))), (17, (0, 0, (1, 57))), (25, (6, 0, (5, 67))), (29, (181, 1, (2, 127))), (33, (24, 0, (3, 69))), (37, (1, 0, (3, 70))), (41, (317, 0, (3, 157))), (50, (7, 0, (3, 160))), (60, (8, 0, (3, 189)))]
def zMl_2 : List (Nat × (Nat × Nat × zPos)) := [(3, (1000, 0, (1, 27))), (25, (1001, 0, (2, 217))), (31, (181, 1, (2, 199))), (35, (35, 0, (2, 187))), (39, (36, 0, (2, 183))), (43, (33, 0, (2, 216))), (50, (34, 0, (4, 41))), (60, (39, 0, (4, 75))), (63, (40, 0, (4, 71))), (67, (44, 0, (5, 44))), (71, (37, 0, (5, 49))), (74, (38, 0, (5, 50)))]
def zMl_3 : List (Nat × (Nat × Nat × zPos)) := [(3, (1000, 0, (1, 239))), (22, (40, 0, (4, 204))), (26, (39, 0, (4, 205))), (30, (46, 0, (4, 206))), (34, (48, 0, (4, 209))), (38, (49, 0, (4, 230)))]
def zMl_4 : List (Nat × (Nat × Nat × zPos)) := [(3, (1000, 0, (1, 167))), (23, (107, 0, (3, 6))), (30, (53, 0, (3, 10))), (34, (108, 0, (3, 14))), (38, (109, 0, (3, 24))), (41, (112, 0, (3, 18))), (45, (181, 1, (3, 36))), (55, (58, 0, (3, 45))), (59, (57, 0, (3, 82))), (63, (62, 0, (3, 85))), (67, (25, 0, (3, 89))), (73, (67, 0, (3, 93))), (77, (27, 0, (3, 74))), (80, (60, 0, (3, 133))), (84, (59, 0, (3, 137))), (88, (61, 0, (3, 49))), (92, (63, 0, (3, 53))), (95, (64, 0, (3, 57))), (98, (66, 0, (3, 61))), (101, (26, 0, (3, 65))), (105, (65, 0, (3, 78))), (108, (110, 0, (3, 96))), (111, (2, 0, (3, 100))), (117, (111, 0, (3, 104))), (120, (68, 0, (3, 108))), (123, (69, 0, (3, 120))), (129, (70, 0, (3, 123))), (132, (71, 0, (3, 126))), (138, (4, 0, (3, 111))), (141, (5, 0, (3, 116))), (147, (3, 0, (3, 129)))]
def zMl_5 : List (Nat × (Nat × Nat × zPos)) := [(3, (1000, 0, (1, 132))), (22, (181, 1, (2, 52))), (26, (79, 0, (2, 91))), (30, (87, 0, (2, 80))), (34, (1001, 0, (2, 100))), (40, (77, 0, (4, 19)))]
def zMl_6 : List (Nat × (Nat × Nat × zPos)) := [(3, (1000, 0, (1, 192))), (48, (188, 1, (4, 89))), (52, (317, 0, (4, 106))), (57, (94, 0, (4, 115))), (61, (95, 0, (4, 111))), (64, (316, 0, (4, 119))), (67, (181, 1, (4, 145))), (71, (98, 0, (4, 141))), (77, (39, 0, (4, 136))), (80, (99, 0, (4, 137))), (87, (103, 0, (4, 163)))]
def zMl_7 : List (Nat × (Nat × Nat × zPos)) := [(3, (1000, 0, (1, 149))), (22, (108, 0, (3, 22))), (26, (181, 1, (3, 23)))]
def zMl_8 : List (Nat × (Nat × Nat × zPos)) := [(1, (1000, 0, (1, 19))), (9, (31, 0, (1, 24))), (21, (21, 0, (1, 50))), (31, (72, 0, (1, 129))), (38, (104, 0, (1, 146))), (45, (51, 0, (1, 164))), (52, (90, 0, (1, 189))), (59, (45, 0, (1, 236))), (76, (73, 0, (2, 49))), (80, (181, 0, (2, 55))), (84, (168, 0, (2, 56))), (88, (78, 0, (2, 60))), (92, (79, 0, (2, 68))), (95, (82, 0, (2, 72))), (99, (85, 0, (2, 76))), (103, (81, 0, (2, 87))), (107, (83, 0, (2, 92))), (110, (86, 0, (2, 96))), (114, (84, 0, (2, 107))), (118, (74, 0, (2, 115))), (121, (23, 0, (2, 123))), (124, (75, 0, (2, 128))), (128, (76, 0, (2, 132))), (132, (77, 0, (2, 140))), (135, (24, 0, (2, 144))), (139, (16, 0, (2, 148))), (144, (17, 0, (2, 152))), (147, (186, 0, (2, 176))), (154, (37, 0, (2, 179))), (157, (33, 0, (2, 195))), (158, (182, 0, (2, 200))), (161, (34, 0, (2, 203))), (164, (35, 0, (2, 207))), (166, (38, 0, (2, 212))), (175, (105, 0, (2, 226))), (178, (106, 0, (2, 234))), (181, (52, 0, (3, 2))), (188, (54, 0, (3, 28))), (192, (55, 0, (3, 32))), (195, (56, 0, (3, 41))), (199, (29, 0, (3, 141))), (202, (169, 0, (3, 145))), (205, (184, 0, (3, 204))), (208, (187, 0, (3, 207))), (211, (25, 0, (3, 210))), (215, (2, 0, (3, 211))), (221, (80, 0, (3, 232))), (224, (171, 0, (3, 236))), (227, (26, 0, (4, 6))), (231, (88, 0, (4, 15))), (255, (183, 0, (4, 32))), (258, (39, 0, (4, 35))), (261, (170, 0, (4, 46))), (268, (188, 0, (4, 50))), (271, (185, 0, (4, 59))), (274, (18, 0, (4, 62))), (277, (41, 0, (4, 67))), (281, (19, 0, (4, 80))), (284, (91, 0, (4, 85))), (289, (92, 0, (4, 94))), (292, (93, 0, (4, 102))), (295, (96, 0, (4, 107))), (298, (97, 0, (4, 120))), (301, (100, 0, (4, 128))), (304, (101, 0, (4, 132))), (308, (174, 0, (4, 146))), (311, (102, 0, (4, 159))), (321, (176, 0, (4, 175))), (325, (177, 0, (4, 179))), (328, (179, 0, (4, 187))), (331, (40, 0, (4, 191))), (334, (180, 0, (4, 192))), (337, (47, 0, (4, 200))), (342, (49, 0, (4, 213))), (345, (46, 0, (4, 225))), (349, (50, 0, (4, 226))), (352, (20, 0, (4, 239))), (356, (172, 0, (5, 11))), (359, (173, 0, (5, 15))), (363, (42, 0, (5, 28))), (366, (43, 0, (5, 40))), (372, (32, 0, (5, 59))), (376, (22, 0, (5, 63))), (379, (178, 0, (5, 82))), (382, (89, 0, (5, 86))), (385, (28, 0, (3, 149))), (389, (30, 0, (3, 153))), (396, (189, 0, (5, 19))), (399, (175, 0, (4, 150))), (403, (99, 0, (4, 154))), (406, (316, 0, (4, 178))), (411, (317, 0, (4, 182)))]
def zMl_9 : List (Nat × (Nat × Nat × zPos)) := [(1, (1000, 0, (5, 95))), (96, (192, 0, (5, 227))), (109, (191, 0, (5, 232))), (113, (198, 0, (6, 0))), (116, (197, 0, (6, 4))), (120, (193, 0, (6, 23))), (126, (204, 0, (6, 32))), (130, (267, 0, (6, 35))), (134, (271, 0, (6, 43))), (137, (195, 0, (6, 50))), (140, (206, 0, (7, 42))), (143, (208, 0, (7, 39))), (146, (207, 0, (6, 47))), (149, (210, 0, (7, 35))), (152, (211, 0, (6, 39))), (155, (213, 0, (6, 203))), (159, (214, 0, (6, 199))), (162, (215, 0, (6, 195))), (165, (217, 0, (6, 183))), (169, (218, 0, (6, 187))), (172, (216, 0, (6, 191))), (177, (220, 0, (6, 58))), (181, (194, 0, (6, 66))), (186, (223, 0, (6, 75))), (200, (228, 0, (6, 101))), (203, (229, 0, (6, 97))), (213, (231, 0, (6, 134))), (216, (232, 0, (6, 138))), (225, (234, 0, (6, 126))), (228, (235, 0, (6, 122))), (231, (236, 0, (6, 146))), (234, (238, 0, (6, 164))), (241, (240, 0, (6, 160))), (244, (239, 0, (6, 167))), (247, (237, 0, (6, 142))), (250, (241, 0, (6, 156))), (253, (242, 0, (6, 171))), (256, (244, 0, (6, 118))), (259, (233, 0, (6, 130))), (262, (246, 0, (6, 110))), (265, (243, 0, (6, 152))), (268, (245, 0, (6, 114))), (271, (248, 0, (6, 175))), (274, (219, 0, (6, 179))), (277, (249, 0, (6, 218))), (280, (251, 0, (6, 210))), (285, (250, 0, (6, 214))), (289, (257, 0, (7, 2))), (296, (264, 0, (7, 31))), (301, (209, 0, (7, 50))), (304, (212, 0, (7, 65))), (307, (269, 0, (7, 61))), (313, (273, 0, (7, 77))), (317, (274, 0, (7, 97))), (320, (276, 0, (7, 85))), (323, (275, 0, (7, 93))), (327, (280, 0, (7, 113))), (330, (282, 0, (7, 105))), (333, (281, 0, (7, 109))), (337, (284, 0, (7, 117))), (340, (283, 0, (7, 121))), (346, (286, 0, (7, 129))), (349, (290, 0, (7, 145))), (353, (292, 0, (7, 161))), (359, (293, 0, (7, 157))), (363, (294, 0, (7, 153))), (366, (299, 0, (7, 180))), (369, (302, 0, (7, 192))), (376, (307, 0, (7, 213))), (395, (310, 0, (7, 226))), (399, (313, 0, (7, 237)))]
def zMl_10 : List (Nat × (Nat × Nat × zPos)) := [(9, (113, 0, (1, 16))), (12, (190, 0, (5, 92))), (13, (114, 0, (2, 45))), (17, (196, 0, (5, 222))), (20, (115, 0, (2, 64))), (24, (199, 0, (5, 236))), (25, (116, 0, (2, 83))), (29, (200, 0, (6, 7))), (30, (117, 0, (2, 103))), (34, (201, 0, (6, 11))), (35, (118, 0, (2, 111))), (39, (202, 0, (6, 15))), (40, (119, 0, (2, 119))), (44, (203, 0, (6, 19))), (45, (120, 0, (2, 136))), (48, (205, 0, (6, 27))), (49, (121, 0, (2, 172))), (52, (221, 0, (6, 53))), (53, (122, 0, (2, 191))), (56, (222, 0, (6, 62))), (57, (123, 0, (2, 208))), (60, (224, 0, (6, 71))), (61, (124, 0, (2, 218))), (64, (225, 0, (6, 79))), (65, (125, 0, (2, 222))), (68, (226, 0, (6, 84))), (69, (126, 0, (2, 230))), (73, (227, 0, (6, 89))), (74, (127, 0, (2, 238))), (77, (230, 0, (6, 93))), (78, (128, 0, (3, 37))), (81, (247, 0, (6, 106))), (82, (129, 0, (3, 200))), (85, (252, 0, (6, 206))), (86, (130, 0, (3, 212))), (89, (253, 0, (6, 222))), (90, (131, 0, (3, 216))), (93, (254, 0, (6, 226))), (94, (132, 0, (3, 220))), (97, (255, 0, (6, 230))), (98, (133, 0, (3, 224))), (101, (256, 0, (6, 234))), (102, (134, 0, (3, 228))), (105, (258, 0, (6, 238))), (106, (135, 0, (4, 2))), (109, (259, 0, (7, 6))), (110, (136, 0, (4, 7))), (113, (260, 0, (7, 10))), (114, (137, 0, (4, 11))), (117, (261, 0, (7, 15))), (118, (138, 0, (4, 20))), (121, (262, 0, (7, 19))), (122, (139, 0, (4, 24))), (125, (263, 0, (7, 23))), (126, (140, 0, (4, 28))), (129, (265, 0, (7, 27))), (130, (141, 0, (4, 42))), (133, (266, 0, (7, 45))), (134, (142, 0, (4, 55))), (137, (268, 0, (7, 53))), (138, (143, 0, (4, 63))), (141, (270, 0, (7, 57))), (142, (144, 0, (4, 76))), (145, (272, 0, (7, 69))), (146, (145, 0, (4, 81))), (149, (277, 0, (7, 73))), (150, (146, 0, (4, 90))), (153, (278, 0, (7, 81))), (154, (147, 0, (4, 98))), (158, (279, 0, (7, 89))), (159, (148, 0, (4, 124))), (162, (285, 0, (7, 101))), (163, (149, 0, (4, 155))), (166, (287, 0, (7, 125))), (167, (150, 0, (4, 167))), (170, (288, 0, (7, 133))), (171, (151, 0, (4, 171))), (174, (289, 0, (7, 137))), (175, (152, 0, (4, 183))), (178, (291, 0, (7, 141))), (179, (153, 0, (4, 196))), (182, (295, 0, (7, 149))), (183, (154, 0, (4, 217))), (186, (296, 0, (7, 164))), (187, (155, 0, (4, 221))), (190, (297, 0, (7, 168))), (191, (156, 0, (4, 231))), (194, (298, 0, (7, 172))), (195, (157, 0, (4, 235))), (198, (300, 0, (7, 176))), (199, (158, 0, (5, 3))), (202, (301, 0, (7, 184))), (203, (159, 0, (5, 7))), (206, (303, 0, (7, 188))), (207, (160, 0, (5, 20))), (210, (304, 0, (7, 196))), (211, (161, 0, (5, 24))), (214, (305, 0, (7, 200))), (215, (162, 0, (5, 32))), (218, (306, 0, (7, 204))), (219, (163, 0, (5, 36))), (222, (308, 0, (7, 208))), (223, (164, 0, (5, 51))), (226, (309, 0, (7, 218))), (227, (165, 0, (5, 55))), (230, (311, 0, (7, 222))), (231, (166, 0, (5, 74))), (234, (312, 0, (7, 229))), (235, (167, 0, (5, 78))), (238, (314, 0, (7, 233)))]
def zMl (c : Nat) : List (Nat × (Nat × Nat × zPos)) := match c with
  | 0 => zMl_0
  | 1 => zMl_1
  | 2 => zMl_2
  | 3 => zMl_3
  | 4 => zMl_4
  | 5 => zMl_5
  | 6 => zMl_6
  | 7 => zMl_7
  | 8 => zMl_8
  | 9 => zMl_9
  | 10 => zMl_10
  | _ => []
def zFl_0 : List (Nat × (Nat × Nat × zPos)) := [(9, (0, 8, (1, 83))), (15, (0, 10, (1, 88))), (19, (0, 11, (1, 89))), (22, (0, 0, (1, 61))), (26, (0, 1, (1, 65))), (29, (0, 2, (1, 68))), (32, (0, 3, (1, 71))), (35, (0, 4, (1, 74))), (38, (0, 5, (1, 77))), (41, (0, 9, (1, 87))), (56, (0, 6, (1, 79))), (59, (0, 7, (1, 81)))]
def zFl_1 : List (Nat × (Nat × Nat × zPos)) := [(13, (1, 0, (1, 116))), (18, (1, 1, (1, 117))), (22, (1, 2, (1, 119))), (47, (0, 0, (1, 62))), (54, (0, 2, (1, 69))), (57, (0, 3, (1, 72)))]
def zFl_2 : List (Nat × (Nat × Nat × zPos)) := [(11, (2, 0, (1, 28))), (15, (2, 1, (1, 29))), (19, (2, 2, (1, 33))), (22, (2, 3, (1, 36))), (54, (0, 8, (1, 85)))]
def zFl_3 : List (Nat × (Nat × Nat × zPos)) := [(11, (3, 0, (2, 0))), (17, (3, 1, (2, 1))), (21, (2, 1, (1, 30)))]
def zFl_4 : List (Nat × (Nat × Nat × zPos)) := [(11, (4, 0, (1, 168))), (17, (4, 2, (1, 170))), (20, (4, 4, (1, 172))), (26, (4, 1, (1, 169))), (49, (4, 3, (1, 171))), (52, (4, 5, (1, 173))), (126, (0, 0, (1, 63))), (135, (0, 1, (1, 66))), (144, (0, 4, (1, 75)))]
def zFl_5 : List (Nat × (Nat × Nat × zPos)) := [(11, (5, 0, (1, 133))), (15, (5, 1, (1, 134))), (18, (5, 2, (1, 135)))]
def zFl_6 : List (Nat × (Nat × Nat × zPos)) := [(9, (6, 0, (1, 193))), (15, (6, 1, (1, 194))), (19, (6, 2, (1, 195))), (22, (6, 3, (1, 196))), (25, (6, 4, (1, 197))), (28, (6, 5, (1, 198))), (31, (6, 6, (1, 199))), (34, (6, 7, (1, 200))), (38, (6, 8, (1, 201))), (41, (6, 9, (1, 202))), (45, (0, 8, (1, 84))), (74, (2, 1, (1, 32))), (84, (2, 2, (1, 35))), (91, (6, 10, (1, 204))), (94, (6, 11, (1, 206)))]
def zFl_7 : List (Nat × (Nat × Nat × zPos)) := [(11, (7, 0, (1, 150))), (15, (7, 1, (1, 151))), (19, (7, 2, (1, 153)))]
def zFl_8 : List (Nat × (Nat × Nat × zPos)) := [(10, (8, 0, (2, 8))), (16, (8, 1, (2, 9))), (22, (8, 2, (2, 10))), (26, (8, 3, (2, 11))), (32, (8, 4, (2, 12))), (39, (8, 5, (2, 13))), (46, (8, 6, (2, 14))), (53, (8, 7, (2, 15))), (60, (8, 8, (2, 16))), (64, (8, 9, (2, 17))), (68, (8, 10, (2, 18))), (72, (8, 11, (2, 19))), (150, (2, 1, (1, 31))), (169, (2, 2, (1, 34))), (172, (7, 1, (1, 152))), (185, (7, 2, (1, 154))), (218, (0, 4, (1, 76))), (230, (1, 1, (1, 118))), (234, (0, 0, (1, 64))), (237, (0, 2, (1, 70))), (240, (0, 3, (1, 73))), (243, (0, 5, (1, 78))), (246, (0, 1, (1, 67))), (249, (0, 6, (1, 80))), (252, (0, 7, (1, 82))), (264, (0, 8, (1, 86))), (288, (6, 9, (1, 203))), (315, (6, 10, (1, 205))), (318, (6, 11, (1, 207))), (341, (3, 1, (2, 2))), (369, (2, 3, (1, 37)))]
def zFl_9 : List (Nat × (Nat × Nat × zPos)) := [(7, (9, 0, (5, 98))), (13, (9, 1, (5, 99))), (16, (9, 2, (5, 100))), (21, (9, 3, (5, 101))), (24, (9, 4, (5, 102))), (28, (9, 5, (5, 103))), (31, (9, 6, (5, 104))), (34, (9, 8, (5, 106))), (37, (9, 11, (5, 109))), (41, (9, 12, (5, 110))), (44, (9, 13, (5, 111))), (47, (9, 14, (5, 112))), (50, (9, 15, (5, 113))), (53, (9, 16, (5, 114))), (56, (9, 22, (5, 120))), (59, (9, 23, (5, 121))), (62, (9, 24, (5, 122))), (65, (9, 25, (5, 123))), (68, (9, 26, (5, 124))), (72, (9, 27, (5, 125))), (75, (9, 28, (5, 126))), (78, (9, 29, (5, 127))), (81, (9, 30, (5, 128))), (84, (9, 31, (5, 129))), (87, (9, 33, (5, 131))), (90, (9, 38, (5, 136))), (93, (9, 10, (5, 108))), (100, (9, 9, (5, 107))), (193, (9, 7, (5, 105))), (207, (9, 39, (5, 137))), (210, (9, 37, (5, 135))), (219, (9, 35, (5, 133))), (222, (9, 36, (5, 134))), (310, (9, 32, (5, 130))), (343, (9, 40, (5, 138))), (356, (9, 34, (5, 132))), (379, (9, 17, (5, 115))), (383, (9, 18, (5, 116))), (386, (9, 19, (5, 117))), (389, (9, 20, (5, 118))), (392, (9, 21, (5, 119)))]
def zFl (c : Nat) : List (Nat × (Nat × Nat × zPos)) := match c with
  | 0 => zFl_0
  | 1 => zFl_1
  | 2 => zFl_2
  | 3 => zFl_3
  | 4 => zFl_4
  | 5 => zFl_5
  | 6 => zFl_6
  | 7 => zFl_7
  | 8 => zFl_8
  | 9 => zFl_9
  | _ => []
def zSl_0 : List (Nat × (Nat × Nat × zPos)) := [(98, (2, 1, (2, 164)))]
def zSl_2 : List (Nat × (Nat × Nat × zPos)) := [(47, (1, 1, (4, 39)))]
def zSl_8 : List (Nat × (Nat × Nat × zPos)) := [(414, (2, 0, (4, 53))), (417, (1, 0, (4, 54)))]
def zSl (c : Nat) : List (Nat × (Nat × Nat × zPos)) := match c with
  | 0 => zSl_0
  | 2 => zSl_2
  | 8 => zSl_8
  | _ => []
def zKl_2 : List (Nat × (Nat × Int × zPos)) := [(78, (0, 1103515245, (5, 48)))]
def zKl_8 : List (Nat × (Nat × Int × zPos)) := [(392, (1, 3, (4, 0))), (394, (1, 9, (4, 1)))]
def zKl_9 : List (Nat × (Nat × Int × zPos)) := [(103, (1, 7, (5, 226))), (105, (1, 4, (5, 230))), (107, (1, 40, (5, 231))), (124, (1, 6, (6, 31))), (175, (1, 9, (6, 57))), (184, (1, 2, (6, 70))), (189, (1, 20, (6, 83))), (191, (1, 255, (6, 88))), (196, (1, 49, (6, 104))), (198, (1, 57, (6, 105))), (237, (1, 97, (6, 150))), (239, (1, 99, (6, 151))), (283, (1, 3, (6, 213))), (292, (1, 8, (7, 14))), (294, (1, 5, (7, 34))), (299, (1, 999, (7, 49))), (373, (0, 1103515245, (7, 217))), (374, (1, 60, (7, 212))), (402, (1, 12, (8, 1))), (404, (1, 16, (8, 2)))]
def zKl_10 : List (Nat × (Nat × Int × zPos)) := [(18, (1, 4294967295, (8, 3)))]
def zKl_11 : List (Nat × (Nat × Int × zPos)) := [(265, (0, 1431655765, (2, 169))), (266, (0, 858993459, (2, 170))), (267, (0, 252645135, (2, 171)))]
def zKl (c : Nat) : List (Nat × (Nat × Int × zPos)) := match c with
  | 2 => zKl_2
  | 8 => zKl_8
  | 9 => zKl_9
  | 10 => zKl_10
  | 11 => zKl_11
  | _ => []
def zCl_1 : List (Nat × (Nat × zPos)) := [(11, (0, (1, 54)))]
def zCl_8 : List (Nat × (Nat × zPos)) := [(7, (2, (1, 22))), (19, (1, (1, 48))), (29, (5, (1, 127))), (36, (7, (1, 144))), (43, (4, (1, 162))), (50, (6, (1, 187))), (57, (3, (1, 234)))]
def zCl_9 : List (Nat × (Nat × zPos)) := [(19, (100, (5, 96)))]
def zCl_10 : List (Nat × (Nat × zPos)) := [(7, (8, (1, 14))), (10, (9, (5, 90)))]
def zCl (c : Nat) : List (Nat × (Nat × zPos)) := match c with
  | 1 => zCl_1
  | 8 => zCl_8
  | 9 => zCl_9
  | 10 => zCl_10
  | _ => []
def zCw_0 : List zPos := [(1, 90), (1, 92), (1, 94), (1, 96), (1, 98), (1, 100), (1, 102), (1, 104), (1, 106), (1, 108), (1, 110), (1, 112)]
def zCi_0 : zPos := (1, 56)
def zCw_1 : List zPos := [(1, 120), (1, 122), (1, 124)]
def zCi_1 : zPos := (1, 49)
def zCw_2 : List zPos := [(1, 38), (1, 40), (1, 42), (1, 44)]
def zCi_2 : zPos := (1, 23)
def zCw_3 : List zPos := [(2, 3), (2, 5)]
def zCi_3 : zPos := (1, 235)
def zCw_4 : List zPos := [(1, 174), (1, 176), (1, 178), (1, 180), (1, 182), (1, 184)]
def zCi_4 : zPos := (1, 163)
def zCw_5 : List zPos := [(1, 136), (1, 138), (1, 140)]
def zCi_5 : zPos := (1, 128)
def zCw_6 : List zPos := [(1, 208), (1, 210), (1, 212), (1, 214), (1, 216), (1, 218), (1, 220), (1, 222), (1, 224), (1, 226), (1, 228), (1, 230)]
def zCi_6 : zPos := (1, 188)
def zCw_7 : List zPos := [(1, 155), (1, 157), (1, 159)]
def zCi_7 : zPos := (1, 145)
def zCw_8 : List zPos := [(2, 20), (2, 22), (2, 24), (2, 26), (2, 28), (2, 30), (2, 32), (2, 34), (2, 36), (2, 38), (2, 40), (2, 42)]
def zCi_8 : zPos := (1, 15)
def zCw_9 : List zPos := [(5, 139), (5, 141), (5, 143), (5, 145), (5, 147), (5, 149), (5, 151), (5, 153), (5, 155), (5, 157), (5, 159), (5, 161), (5, 163), (5, 165), (5, 167), (5, 169), (5, 171), (5, 173), (5, 175), (5, 177), (5, 179), (5, 181), (5, 183), (5, 185), (5, 187), (5, 189), (5, 191), (5, 193), (5, 195), (5, 197), (5, 199), (5, 201), (5, 203), (5, 205), (5, 207), (5, 209), (5, 211), (5, 213), (5, 215), (5, 217), (5, 219)]
def zCi_9 : zPos := (5, 91)
