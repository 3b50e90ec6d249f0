section
/-! ===== the decoded code, and the checks of the tables, by program ===== -/
def zlk {α : Type} : List (Nat × α) → Nat → Option α
  | [], _ => none
  | q :: l, n => bif Nat.beq q.1 n then some q.2 else zlk l n
theorem zlk_mem {α : Type} : ∀ (l : List (Nat × α)) (n : Nat) (x : α), zlk l n = some x → (n, x) ∈ l
  | [], _, _, h => by cases h
  | q :: l, n, x, h => by
    unfold zlk at h
    cases hb : Nat.beq q.1 n with
    | true =>
      rw [hb] at h
      have e : q.1 = n := Nat.eq_of_beq_eq_true hb
      cases h
      rw [← e]
      exact List.mem_cons_self
    | false =>
      rw [hb] at h
      exact List.mem_cons_of_mem _ (zlk_mem l n x h)
abbrev zIns : Type := List (Nat × Instr × Nat)
def zi_0 : zIns := [(0, .aload_n 0, 1), (1, .invokespecial 3, 3), (4, .aload_n 0, 1), (5, .bipush 63, 2), (7, .newarray .int, 2), (9, .putfield 11, 3), (12, .aload_n 0, 1), (13, .iconst 3, 1), (14, .newarray .int, 2), (16, .putfield 15, 3), (19, .aload_n 0, 1), (20, .iconst 3, 1), (21, .newarray .int, 2), (23, .putfield 18, 3), (26, .return_, 1)]
def zi_1 : zIns := [(0, .aload_n 0, 1), (1, .iload_n 1, 1), (2, .putfield 21, 3), (5, .aload_n 0, 1), (6, .iload_n 2, 1), (7, .putfield 25, 3), (10, .aload_n 0, 1), (11, .iload_n 3, 1), (12, .putfield 28, 3), (15, .aload_n 0, 1), (16, .iload 4, 2), (18, .putfield 31, 3), (21, .aload_n 0, 1), (22, .iconst 0, 1), (23, .putfield 34, 3), (26, .aload_n 0, 1), (27, .iconst 0, 1), (28, .putfield 37, 3), (31, .aload_n 0, 1), (32, .iconst 0, 1), (33, .putfield 40, 3), (36, .return_, 1)]
def zi_2 : zIns := [(0, .aload_n 0, 1), (1, .getfield 40, 3), (4, .iconst 3, 1), (5, .if_icmp .ge 45, 3), (8, .aload_n 0, 1), (9, .getfield 15, 3), (12, .aload_n 0, 1), (13, .getfield 40, 3), (16, .iload_n 1, 1), (17, .iastore, 1), (18, .aload_n 0, 1), (19, .getfield 18, 3), (22, .aload_n 0, 1), (23, .getfield 40, 3), (26, .iload_n 2, 1), (27, .iastore, 1), (28, .aload_n 0, 1), (29, .dup, 1), (30, .getfield 37, 3), (33, .iconst 1, 1), (34, .iload_n 1, 1), (35, .ishl, 1), (36, .ior, 1), (37, .putfield 37, 3), (40, .aload_n 0, 1), (41, .dup, 1), (42, .getfield 40, 3), (45, .iconst 1, 1), (46, .iadd, 1), (47, .putfield 40, 3), (50, .return_, 1)]
def zi_3 : zIns := [(0, .aload_n 0, 1), (1, .getfield 40, 3), (4, .ireturn, 1)]
def zi_4 : zIns := [(0, .iload_n 1, 1), (1, .iconst 0, 1), (2, .aload_n 0, 1), (3, .getfield 40, 3), (6, .iconst 1, 1), (7, .isub, 1), (8, .invokestatic 43, 3), (11, .ifCond .eq 10, 3), (14, .aload_n 0, 1), (15, .getfield 18, 3), (18, .iload_n 1, 1), (19, .iload_n 2, 1), (20, .iastore, 1), (21, .return_, 1)]
def zi_5 : zIns := [(0, .aload_n 0, 1), (1, .getfield 37, 3), (4, .iconst 1, 1), (5, .iload_n 1, 1), (6, .ishl, 1), (7, .iand, 1), (8, .ifCond .eq 7, 3), (11, .iconst 1, 1), (12, .goto 4, 3), (15, .iconst 0, 1), (16, .ireturn, 1)]
def zi_6_0 : zIns := [(0, .aload_n 0, 1), (1, .aload_n 1, 1), (2, .getfield 21, 3), (5, .aload_n 1, 1), (6, .getfield 25, 3), (9, .aload_n 1, 1), (10, .getfield 28, 3), (13, .aload_n 1, 1), (14, .getfield 31, 3), (17, .invokevirtual 47, 3), (20, .iconst 0, 1), (21, .istore_n 2, 1), (22, .iload_n 2, 1), (23, .aload_n 1, 1), (24, .getfield 40, 3), (27, .if_icmp .ge 25, 3), (30, .aload_n 0, 1), (31, .aload_n 1, 1), (32, .getfield 15, 3), (35, .iload_n 2, 1), (36, .iaload, 1), (37, .aload_n 1, 1), (38, .getfield 18, 3), (41, .iload_n 2, 1), (42, .iaload, 1), (43, .invokevirtual 51, 3), (46, .iinc 2 1, 3), (49, .goto (-27), 3), (52, .aload_n 0, 1), (53, .aload_n 1, 1), (54, .getfield 34, 3), (57, .putfield 34, 3), (60, .aload_n 0, 1), (61, .aload_n 1, 1), (62, .getfield 37, 3), (65, .putfield 37, 3), (68, .aload_n 0, 1), (69, .aload_n 1, 1), (70, .getfield 55, 3), (73, .putfield 55, 3), (76, .aload_n 0, 1), (77, .aload_n 1, 1), (78, .getfield 58, 3), (81, .putfield 58, 3), (84, .aload_n 1, 1), (85, .getfield 11, 3), (88, .iconst 0, 1), (89, .aload_n 0, 1), (90, .getfield 11, 3), (93, .iconst 0, 1)]
def zi_6_1 : zIns := [(94, .aload_n 0, 1), (95, .getfield 11, 3), (98, .arraylength, 1), (99, .invokestatic 61, 3), (102, .return_, 1)]
def zi_6 : zIns := zi_6_0 ++ (zi_6_1)
def zi_7 : zIns := [(0, .aload_n 0, 1), (1, .iconst 0, 1), (2, .putfield 55, 3), (5, .aload_n 0, 1), (6, .iconst 1, 1), (7, .iload_n 1, 1), (8, .ishl, 1), (9, .putfield 58, 3), (12, .iconst 0, 1), (13, .istore_n 2, 1), (14, .iload_n 2, 1), (15, .sipush 1000, 3), (18, .if_icmp .ge 19, 3), (21, .aload_n 0, 1), (22, .iload_n 2, 1), (23, .aload_n 0, 1), (24, .iload_n 2, 1), (25, .invokevirtual 71, 3), (28, .invokevirtual 74, 3), (31, .iinc 2 1, 3), (34, .goto (-20), 3), (37, .return_, 1)]
def zi_8 : zIns := [(0, .aload_n 0, 1), (1, .iconst 1, 1), (2, .aload_n 2, 1), (3, .getfield 55, 3), (6, .aload_n 3, 1), (7, .getfield 55, 3), (10, .invokestatic 77, 3), (13, .iadd, 1), (14, .putfield 55, 3), (17, .aload_n 0, 1), (18, .aload_n 2, 1), (19, .getfield 37, 3), (22, .aload_n 3, 1), (23, .getfield 37, 3), (26, .ior, 1), (27, .putfield 37, 3), (30, .aload_n 0, 1), (31, .aload_n 0, 1), (32, .getfield 21, 3), (35, .bipush 6, 2), (37, .if_icmp .ne 15, 3), (40, .aload_n 2, 1), (41, .getfield 58, 3), (44, .aload_n 3, 1), (45, .getfield 58, 3), (48, .ior, 1), (49, .goto 6, 3), (52, .iconst 1, 1), (53, .iload_n 1, 1), (54, .ishl, 1), (55, .putfield 58, 3), (58, .iconst 0, 1), (59, .istore 4, 2), (61, .iload 4, 2), (63, .sipush 1000, 3), (66, .if_icmp .ge 31, 3), (69, .aload_n 0, 1), (70, .iload 4, 2), (72, .aload_n 0, 1), (73, .aload_n 2, 1), (74, .iload 4, 2), (76, .invokevirtual 83, 3), (79, .aload_n 3, 1), (80, .iload 4, 2), (82, .invokevirtual 83, 3), (85, .invokevirtual 86, 3), (88, .invokevirtual 74, 3), (91, .iinc 4 1, 3), (94, .goto (-33), 3), (97, .return_, 1)]
def zi_9_0 : zIns := [(0, .aload_n 0, 1), (1, .iload_n 1, 1), (2, .iconst 0, 1), (3, .invokevirtual 89, 3), (6, .istore_n 2, 1), (7, .aload_n 0, 1), (8, .getfield 21, 3), (11, .tableswitch 130 0 4 #[33, 48, 71, 81, 96], 33), (44, .iload_n 2, 1), (45, .aload_n 0, 1), (46, .getfield 25, 3), (49, .aload_n 0, 1), (50, .getfield 18, 3), (53, .iconst 0, 1), (54, .iaload, 1), (55, .invokestatic 92, 3), (58, .ireturn, 1), (59, .iload_n 2, 1), (60, .aload_n 0, 1), (61, .getfield 18, 3), (64, .iconst 0, 1), (65, .iaload, 1), (66, .iconst 1, 1), (67, .iload_n 2, 1), (68, .ishl, 1), (69, .iand, 1), (70, .ifCond .eq 7, 3), (73, .iconst 1, 1), (74, .goto 4, 3), (77, .iconst 0, 1), (78, .invokestatic 96, 3), (81, .ireturn, 1), (82, .iload_n 2, 1), (83, .ifCond .ne 7, 3), (86, .iconst 1, 1), (87, .goto 4, 3), (90, .iconst 0, 1), (91, .ireturn, 1), (92, .iload_n 2, 1), (93, .aload_n 0, 1), (94, .getfield 25, 3), (97, .aload_n 0, 1), (98, .iload_n 1, 1), (99, .iconst 1, 1), (100, .invokevirtual 89, 3), (103, .invokestatic 92, 3), (106, .ireturn, 1), (107, .iload_n 2, 1), (108, .aload_n 0, 1), (109, .getfield 18, 3)]
def zi_9_1 : zIns := [(112, .iconst 0, 1), (113, .iaload, 1), (114, .ifCond .le 22, 3), (117, .iload_n 2, 1), (118, .aload_n 0, 1), (119, .getfield 18, 3), (122, .iconst 0, 1), (123, .iaload, 1), (124, .irem, 1), (125, .aload_n 0, 1), (126, .getfield 34, 3), (129, .if_icmp .ne 7, 3), (132, .iconst 1, 1), (133, .goto 4, 3), (136, .iconst 0, 1), (137, .invokestatic 96, 3), (140, .ireturn, 1), (141, .aload_n 0, 1), (142, .getfield 25, 3), (145, .ifCond .eq 11, 3), (148, .aload_n 0, 1), (149, .getfield 25, 3), (152, .iconst 2, 1), (153, .if_icmp .ne 11, 3), (156, .aload_n 0, 1), (157, .iload_n 1, 1), (158, .invokevirtual 100, 3), (161, .goto 8, 3), (164, .aload_n 0, 1), (165, .iload_n 1, 1), (166, .invokevirtual 103, 3), (169, .ireturn, 1)]
def zi_9 : zIns := zi_9_0 ++ (zi_9_1)
def zi_10 : zIns := [(0, .iload_n 1, 1), (1, .getstatic 106, 3), (4, .aload_n 0, 1), (5, .getfield 15, 3), (8, .iload_n 2, 1), (9, .iaload, 1), (10, .iaload, 1), (11, .idiv, 1), (12, .bipush 10, 2), (14, .irem, 1), (15, .ireturn, 1)]
def zi_11 : zIns := [(0, .iload_n 0, 1), (1, .ifCond .ne 5, 3), (4, .iconst 2, 1), (5, .ireturn, 1), (6, .iload_n 1, 1), (7, .ifCond .eq 7, 3), (10, .iconst 1, 1), (11, .goto 4, 3), (14, .iconst 0, 1), (15, .ireturn, 1)]
def zi_12 : zIns := [(0, .iconst 0, 1), (1, .istore_n 2, 1), (2, .iload_n 2, 1), (3, .aload_n 0, 1), (4, .getfield 40, 3), (7, .if_icmp .ge 52, 3), (10, .aload_n 0, 1), (11, .iload_n 1, 1), (12, .iload_n 2, 1), (13, .invokevirtual 89, 3), (16, .istore_n 3, 1), (17, .iload_n 3, 1), (18, .aload_n 0, 1), (19, .getfield 25, 3), (22, .aload_n 0, 1), (23, .getfield 18, 3), (26, .iload_n 2, 1), (27, .iaload, 1), (28, .invokestatic 92, 3), (31, .istore 4, 2), (33, .iload 4, 2), (35, .ifCond .eq 6, 3), (38, .iload 4, 2), (40, .ireturn, 1), (41, .iload_n 3, 1), (42, .aload_n 0, 1), (43, .getfield 18, 3), (46, .iload_n 2, 1), (47, .iaload, 1), (48, .if_icmp .eq 5, 3), (51, .iconst 0, 1), (52, .ireturn, 1), (53, .iinc 2 1, 3), (56, .goto (-54), 3), (59, .iconst 0, 1), (60, .ireturn, 1)]
def zi_13 : zIns := [(0, .iconst 1, 1), (1, .istore_n 2, 1), (2, .iconst 0, 1), (3, .istore_n 3, 1), (4, .iload_n 3, 1), (5, .aload_n 0, 1), (6, .getfield 40, 3), (9, .if_icmp .ge 50, 3), (12, .aload_n 0, 1), (13, .iload_n 1, 1), (14, .iload_n 3, 1), (15, .invokevirtual 89, 3), (18, .istore 4, 2), (20, .iload 4, 2), (22, .ifCond .eq 19, 3), (25, .iload 4, 2), (27, .aload_n 0, 1), (28, .getfield 18, 3), (31, .iload_n 3, 1), (32, .iaload, 1), (33, .if_icmp .eq 8, 3), (36, .iconst 0, 1), (37, .istore_n 2, 1), (38, .goto 15, 3), (41, .iload 4, 2), (43, .ifCond .ne 10, 3), (46, .iload_n 2, 1), (47, .iconst 1, 1), (48, .if_icmp .ne 5, 3), (51, .iconst 2, 1), (52, .istore_n 2, 1), (53, .iinc 3 1, 3), (56, .goto (-52), 3), (59, .aload_n 0, 1), (60, .getfield 25, 3), (63, .iconst 1, 1), (64, .if_icmp .ne 7, 3), (67, .iload_n 2, 1), (68, .goto 7, 3), (71, .iload_n 2, 1), (72, .invokestatic 109, 3), (75, .ireturn, 1)]
def zi_14 : zIns := [(0, .aload_n 0, 1), (1, .getfield 21, 3), (4, .tableswitch 87 6 8 #[28, 54, 82], 28), (32, .iload_n 1, 1), (33, .ifCond .eq 7, 3), (36, .iload_n 2, 1), (37, .ifCond .ne 5, 3), (40, .iconst 0, 1), (41, .ireturn, 1), (42, .iload_n 1, 1), (43, .iconst 2, 1), (44, .if_icmp .eq 8, 3), (47, .iload_n 2, 1), (48, .iconst 2, 1), (49, .if_icmp .ne 7, 3), (52, .iconst 2, 1), (53, .goto 4, 3), (56, .iconst 1, 1), (57, .ireturn, 1), (58, .iload_n 1, 1), (59, .iconst 1, 1), (60, .if_icmp .eq 8, 3), (63, .iload_n 2, 1), (64, .iconst 1, 1), (65, .if_icmp .ne 5, 3), (68, .iconst 1, 1), (69, .ireturn, 1), (70, .iload_n 1, 1), (71, .iconst 2, 1), (72, .if_icmp .eq 8, 3), (75, .iload_n 2, 1), (76, .iconst 2, 1), (77, .if_icmp .ne 7, 3), (80, .iconst 2, 1), (81, .goto 4, 3), (84, .iconst 0, 1), (85, .ireturn, 1), (86, .iload_n 1, 1), (87, .invokestatic 109, 3), (90, .ireturn, 1), (91, .iload_n 1, 1), (92, .iconst 1, 1), (93, .if_icmp .ne 7, 3), (96, .iconst 1, 1), (97, .goto 4, 3), (100, .iconst 0, 1), (101, .ireturn, 1)]
def zi_15 : zIns := [(0, .iload_n 0, 1), (1, .iconst 2, 1), (2, .if_icmp .ne 5, 3), (5, .iconst 2, 1), (6, .ireturn, 1), (7, .iload_n 0, 1), (8, .iconst 1, 1), (9, .if_icmp .ne 7, 3), (12, .iconst 0, 1), (13, .goto 4, 3), (16, .iconst 1, 1), (17, .ireturn, 1)]
def zi_16 : zIns := []
def zi_17 : zIns := []
def zi_18 : zIns := [(0, .iconst 0, 1), (1, .istore_n 2, 1), (2, .iconst 0, 1), (3, .istore_n 3, 1), (4, .iload_n 3, 1), (5, .sipush 1000, 3), (8, .if_icmp .ge 21, 3), (11, .aload_n 0, 1), (12, .iload_n 3, 1), (13, .invokevirtual 83, 3), (16, .iload_n 1, 1), (17, .if_icmp .ne 6, 3), (20, .iinc 2 1, 3), (23, .iinc 3 1, 3), (26, .goto (-22), 3), (29, .iload_n 2, 1), (30, .ireturn, 1)]
def zi_19 : zIns := []
def zi_20 : zIns := [(0, .iconst 0, 1), (1, .istore_n 2, 1), (2, .iload_n 2, 1), (3, .sipush 1000, 3), (6, .if_icmp .ge 24, 3), (9, .aload_n 0, 1), (10, .iload_n 2, 1), (11, .invokevirtual 83, 3), (14, .aload_n 1, 1), (15, .iload_n 2, 1), (16, .invokevirtual 83, 3), (19, .if_icmp .eq 5, 3), (22, .iload_n 2, 1), (23, .ireturn, 1), (24, .iinc 2 1, 3), (27, .goto (-25), 3), (30, .iconst (-1), 1), (31, .ireturn, 1)]
def zi_21 : zIns := [(0, .aload_n 0, 1), (1, .invokespecial 3, 3), (4, .aload_n 0, 1), (5, .bipush 25, 2), (7, .anewarray 11, 3), (10, .putfield 13, 3), (13, .iconst 0, 1), (14, .istore_n 1, 1), (15, .iload_n 1, 1), (16, .bipush 24, 2), (18, .if_icmp .gt 22, 3), (21, .aload_n 0, 1), (22, .getfield 13, 3), (25, .iload_n 1, 1), (26, .new 11, 3), (29, .dup, 1), (30, .invokespecial 17, 3), (33, .aastore, 1), (34, .iinc 1 1, 3), (37, .goto (-22), 3), (40, .aload_n 0, 1), (41, .iconst 0, 1), (42, .putfield 18, 3), (45, .aload_n 0, 1), (46, .iconst 0, 1), (47, .putfield 22, 3), (50, .return_, 1)]
def zi_22 : zIns := [(0, .iconst 0, 1), (1, .istore_n 2, 1), (2, .iload_n 2, 1), (3, .aload_n 1, 1), (4, .getfield 18, 3), (7, .if_icmp .ge 24, 3), (10, .aload_n 0, 1), (11, .getfield 13, 3), (14, .iload_n 2, 1), (15, .aaload, 1), (16, .aload_n 1, 1), (17, .getfield 13, 3), (20, .iload_n 2, 1), (21, .aaload, 1), (22, .invokevirtual 25, 3), (25, .iinc 2 1, 3), (28, .goto (-26), 3), (31, .aload_n 0, 1), (32, .aload_n 1, 1), (33, .getfield 18, 3), (36, .putfield 18, 3), (39, .return_, 1)]
def zi_23 : zIns := [(0, .iload_n 1, 1), (1, .iconst 0, 1), (2, .aload_n 0, 1), (3, .getfield 18, 3), (6, .iconst 1, 1), (7, .isub, 1), (8, .invokestatic 29, 3), (11, .ireturn, 1)]
def zi_24 : zIns := [(0, .aload_n 0, 1), (1, .getfield 13, 3), (4, .iload_n 1, 1), (5, .iconst 0, 1), (6, .bipush 24, 2), (8, .invokestatic 29, 3), (11, .ifCond .eq 7, 3), (14, .iload_n 1, 1), (15, .goto 5, 3), (18, .bipush 24, 2), (20, .aaload, 1), (21, .areturn, 1)]
def zi_25 : zIns := [(0, .aload_n 0, 1), (1, .aload_n 0, 1), (2, .getfield 18, 3), (5, .aload_n 0, 1), (6, .getfield 22, 3), (9, .iadd, 1), (10, .invokevirtual 33, 3), (13, .astore_n 3, 1), (14, .aload_n 3, 1), (15, .iload_n 1, 1), (16, .iload_n 2, 1), (17, .iconst (-1), 1), (18, .iconst (-1), 1), (19, .invokevirtual 37, 3), (22, .aload_n 0, 1), (23, .dup, 1), (24, .getfield 22, 3), (27, .iconst 1, 1), (28, .iadd, 1), (29, .putfield 22, 3), (32, .aload_n 3, 1), (33, .areturn, 1)]
def zi_26 : zIns := [(0, .aload_n 0, 1), (1, .aload_n 0, 1), (2, .getfield 18, 3), (5, .aload_n 0, 1), (6, .getfield 22, 3), (9, .iadd, 1), (10, .invokevirtual 33, 3), (13, .astore 4, 2), (15, .aload 4, 2), (17, .iload_n 1, 1), (18, .iconst (-1), 1), (19, .iload_n 2, 1), (20, .iload_n 3, 1), (21, .invokevirtual 37, 3), (24, .aload_n 0, 1), (25, .dup, 1), (26, .getfield 22, 3), (29, .iconst 1, 1), (30, .iadd, 1), (31, .putfield 22, 3), (34, .return_, 1)]
def zi_27 : zIns := [(0, .aload_n 0, 1), (1, .getfield 18, 3), (4, .aload_n 0, 1), (5, .getfield 22, 3), (8, .iadd, 1), (9, .iconst 1, 1), (10, .isub, 1), (11, .ireturn, 1)]
def zi_28 : zIns := [(0, .aload_n 0, 1), (1, .getfield 18, 3), (4, .aload_n 0, 1), (5, .getfield 22, 3), (8, .iadd, 1), (9, .bipush 24, 2), (11, .if_icmp .gt 7, 3), (14, .iconst 1, 1), (15, .goto 4, 3), (18, .iconst 0, 1), (19, .ireturn, 1)]
def zi_29 : zIns := [(0, .aload_n 0, 1), (1, .iconst 0, 1), (2, .putfield 22, 3), (5, .return_, 1)]
def zi_30_0 : zIns := [(0, .aload_n 0, 1), (1, .getfield 18, 3), (4, .aload_n 0, 1), (5, .getfield 22, 3), (8, .iadd, 1), (9, .bipush 24, 2), (11, .invokestatic 41, 3), (14, .istore_n 1, 1), (15, .aload_n 0, 1), (16, .getfield 18, 3), (19, .istore_n 2, 1), (20, .iload_n 2, 1), (21, .iload_n 1, 1), (22, .if_icmp .ge 68, 3), (25, .aload_n 0, 1), (26, .getfield 13, 3), (29, .iload_n 2, 1), (30, .aaload, 1), (31, .astore_n 3, 1), (32, .aload_n 3, 1), (33, .getfield 47, 3), (36, .iconst 5, 1), (37, .if_icmp .gt 11, 3), (40, .aload_n 3, 1), (41, .iload_n 2, 1), (42, .invokevirtual 50, 3), (45, .goto 39, 3), (48, .aload_n 3, 1), (49, .iload_n 2, 1), (50, .aload_n 0, 1), (51, .aload_n 3, 1), (52, .getfield 54, 3), (55, .invokevirtual 33, 3), (58, .aload_n 0, 1), (59, .aload_n 3, 1), (60, .getfield 57, 3), (63, .iconst (-1), 1), (64, .if_icmp .ne 10, 3), (67, .aload_n 3, 1), (68, .getfield 54, 3), (71, .goto 7, 3), (74, .aload_n 3, 1), (75, .getfield 57, 3), (78, .invokevirtual 33, 3), (81, .invokevirtual 60, 3), (84, .iinc 2 1, 3), (87, .goto (-67), 3), (90, .aload_n 0, 1), (91, .iload_n 1, 1), (92, .putfield 18, 3)]
def zi_30_1 : zIns := [(95, .aload_n 0, 1), (96, .iconst 0, 1), (97, .putfield 22, 3), (100, .return_, 1)]
def zi_30 : zIns := zi_30_0 ++ (zi_30_1)
def zi_31 : zIns := [(0, .aload_n 0, 1), (1, .invokespecial 3, 3), (4, .aload_n 0, 1), (5, .sipush 180, 3), (8, .newarray .int, 2), (10, .putfield 11, 3), (13, .aload_n 0, 1), (14, .iconst 0, 1), (15, .putfield 15, 3), (18, .aload_n 0, 1), (19, .iconst 4, 1), (20, .putfield 19, 3), (23, .aload_n 0, 1), (24, .iconst 1, 1), (25, .putfield 22, 3), (28, .return_, 1)]
def zi_32 : zIns := [(0, .aload_n 1, 1), (1, .getfield 11, 3), (4, .iconst 0, 1), (5, .aload_n 0, 1), (6, .getfield 11, 3), (9, .iconst 0, 1), (10, .aload_n 0, 1), (11, .getfield 11, 3), (14, .arraylength, 1), (15, .invokestatic 25, 3), (18, .aload_n 0, 1), (19, .aload_n 1, 1), (20, .getfield 15, 3), (23, .putfield 15, 3), (26, .aload_n 0, 1), (27, .aload_n 1, 1), (28, .getfield 19, 3), (31, .putfield 19, 3), (34, .aload_n 0, 1), (35, .aload_n 1, 1), (36, .getfield 22, 3), (39, .putfield 22, 3), (42, .return_, 1)]
def zi_33 : zIns := [(0, .iload_n 1, 1), (1, .iconst 0, 1), (2, .aload_n 0, 1), (3, .getfield 15, 3), (6, .iconst 1, 1), (7, .isub, 1), (8, .invokestatic 31, 3), (11, .ireturn, 1)]
def zi_34 : zIns := [(0, .aload_n 0, 1), (1, .getfield 11, 3), (4, .iload_n 1, 1), (5, .iconst 3, 1), (6, .imul, 1), (7, .iload_n 2, 1), (8, .iadd, 1), (9, .iaload, 1), (10, .ireturn, 1)]
def zi_35 : zIns := [(0, .aload_n 0, 1), (1, .getfield 11, 3), (4, .iload_n 1, 1), (5, .iconst 3, 1), (6, .imul, 1), (7, .iload_n 2, 1), (8, .iadd, 1), (9, .iload_n 3, 1), (10, .iastore, 1), (11, .return_, 1)]
def zi_36 : zIns := [(0, .aload_n 0, 1), (1, .iload_n 1, 1), (2, .iconst 0, 1), (3, .iload_n 2, 1), (4, .invokevirtual 35, 3), (7, .aload_n 0, 1), (8, .iload_n 1, 1), (9, .iconst 1, 1), (10, .iload_n 3, 1), (11, .invokevirtual 35, 3), (14, .aload_n 0, 1), (15, .iload_n 1, 1), (16, .iconst 2, 1), (17, .iload 4, 2), (19, .invokevirtual 35, 3), (22, .return_, 1)]
def zi_37 : zIns := [(0, .aload_n 0, 1), (1, .getfield 15, 3), (4, .bipush 60, 2), (6, .if_icmp .ge 24, 3), (9, .aload_n 0, 1), (10, .aload_n 0, 1), (11, .getfield 15, 3), (14, .iload_n 1, 1), (15, .iload_n 2, 1), (16, .iload_n 3, 1), (17, .invokevirtual 39, 3), (20, .aload_n 0, 1), (21, .dup, 1), (22, .getfield 15, 3), (25, .iconst 1, 1), (26, .iadd, 1), (27, .putfield 15, 3), (30, .return_, 1)]
def zi_38 : zIns := [(0, .aload_n 0, 1), (1, .iload_n 1, 1), (2, .invokevirtual 43, 3), (5, .ifCond .eq 44, 3), (8, .iload_n 1, 1), (9, .iconst 1, 1), (10, .iadd, 1), (11, .iconst 3, 1), (12, .imul, 1), (13, .istore_n 2, 1), (14, .aload_n 0, 1), (15, .getfield 15, 3), (18, .iconst 3, 1), (19, .imul, 1), (20, .iload_n 2, 1), (21, .isub, 1), (22, .istore_n 3, 1), (23, .aload_n 0, 1), (24, .getfield 11, 3), (27, .iload_n 2, 1), (28, .aload_n 0, 1), (29, .getfield 11, 3), (32, .iload_n 2, 1), (33, .iconst 3, 1), (34, .isub, 1), (35, .iload_n 3, 1), (36, .invokestatic 25, 3), (39, .aload_n 0, 1), (40, .dup, 1), (41, .getfield 15, 3), (44, .iconst 1, 1), (45, .isub, 1), (46, .putfield 15, 3), (49, .return_, 1)]
def zi_39 : zIns := [(0, .iconst 3, 1), (1, .iload_n 2, 1), (2, .imul, 1), (3, .istore_n 3, 1), (4, .bipush 100, 2), (6, .aload_n 0, 1), (7, .iload_n 1, 1), (8, .getstatic 47, 3), (11, .iload_n 3, 1), (12, .iaload, 1), (13, .invokevirtual 50, 3), (16, .imul, 1), (17, .bipush 10, 2), (19, .aload_n 0, 1), (20, .iload_n 1, 1), (21, .getstatic 47, 3), (24, .iload_n 3, 1), (25, .iconst 1, 1), (26, .iadd, 1), (27, .iaload, 1), (28, .invokevirtual 50, 3), (31, .imul, 1), (32, .iadd, 1), (33, .aload_n 0, 1), (34, .iload_n 1, 1), (35, .getstatic 47, 3), (38, .iload_n 3, 1), (39, .iconst 2, 1), (40, .iadd, 1), (41, .iaload, 1), (42, .invokevirtual 50, 3), (45, .iadd, 1), (46, .ireturn, 1)]
def zi_40 : zIns := [(0, .aload_n 1, 1), (1, .aload_n 0, 1), (2, .iload_n 2, 1), (3, .iconst 0, 1), (4, .invokevirtual 54, 3), (7, .invokevirtual 57, 3), (10, .ireturn, 1)]
def zi_41 : zIns := [(0, .iconst 0, 1), (1, .istore_n 3, 1), (2, .iconst 0, 1), (3, .istore 4, 2), (5, .iload 4, 2), (7, .aload_n 0, 1), (8, .getfield 15, 3), (11, .if_icmp .ge 23, 3), (14, .aload_n 0, 1), (15, .aload_n 1, 1), (16, .iload 4, 2), (18, .invokevirtual 63, 3), (21, .iload_n 2, 1), (22, .if_icmp .ne 6, 3), (25, .iinc 3 1, 3), (28, .iinc 4 1, 3), (31, .goto (-26), 3), (34, .iload_n 3, 1), (35, .ireturn, 1)]
def zi_42 : zIns := [(0, .iconst 0, 1), (1, .istore_n 3, 1), (2, .iconst 0, 1), (3, .istore 4, 2), (5, .iload 4, 2), (7, .aload_n 0, 1), (8, .getfield 15, 3), (11, .if_icmp .ge 23, 3), (14, .aload_n 0, 1), (15, .iload 4, 2), (17, .iload_n 1, 1), (18, .invokevirtual 50, 3), (21, .iload_n 2, 1), (22, .if_icmp .ne 6, 3), (25, .iinc 3 1, 3), (28, .iinc 4 1, 3), (31, .goto (-26), 3), (34, .iload_n 3, 1), (35, .ireturn, 1)]
def zi_43 : zIns := [(0, .aload_n 0, 1), (1, .bipush 10, 2), (3, .invokevirtual 67, 3), (6, .istore_n 1, 1), (7, .aload_n 0, 1), (8, .bipush 10, 2), (10, .invokevirtual 67, 3), (13, .istore_n 2, 1), (14, .aload_n 0, 1), (15, .bipush 10, 2), (17, .invokevirtual 67, 3), (20, .istore_n 3, 1), (21, .aload_n 0, 1), (22, .getfield 15, 3), (25, .bipush 60, 2), (27, .if_icmp .ge 13, 3), (30, .aload_n 0, 1), (31, .iload_n 1, 1), (32, .iload_n 2, 1), (33, .iload_n 3, 1), (34, .invokevirtual 70, 3), (37, .goto 16, 3), (40, .aload_n 0, 1), (41, .aload_n 0, 1), (42, .bipush 60, 2), (44, .invokevirtual 67, 3), (47, .iload_n 1, 1), (48, .iload_n 2, 1), (49, .iload_n 3, 1), (50, .invokevirtual 39, 3), (53, .aload_n 0, 1), (54, .bipush 8, 2), (56, .invokevirtual 67, 3), (59, .ifCond .ne 15, 3), (62, .aload_n 0, 1), (63, .aload_n 0, 1), (64, .aload_n 0, 1), (65, .getfield 15, 3), (68, .invokevirtual 67, 3), (71, .invokevirtual 73, 3), (74, .return_, 1)]
def zi_44 : zIns := [(0, .aload_n 0, 1), (1, .aload_n 0, 1), (2, .getfield 22, 3), (5, .ldc 77, 2), (7, .imul, 1), (8, .sipush 12345, 3), (11, .iadd, 1), (12, .putfield 22, 3), (15, .iload_n 1, 1), (16, .ifCond .le 15, 3), (19, .aload_n 0, 1), (20, .getfield 22, 3), (23, .bipush 16, 2), (25, .iushr, 1), (26, .iload_n 1, 1), (27, .irem, 1), (28, .goto 4, 3), (31, .iconst 0, 1), (32, .ireturn, 1)]
def zi_45 : zIns := [(0, .aload_n 0, 1), (1, .invokespecial 3, 3), (4, .aload_n 0, 1), (5, .bipush 60, 2), (7, .newarray .int, 2), (9, .putfield 11, 3), (12, .return_, 1)]
def zi_46 : zIns := [(0, .iload_n 1, 1), (1, .ifCond .ne 7, 3), (4, .iload_n 0, 1), (5, .goto 19, 3), (8, .iload_n 1, 1), (9, .iconst 1, 1), (10, .if_icmp .ne 10, 3), (13, .iload_n 0, 1), (14, .bipush 100, 2), (16, .irem, 1), (17, .goto 7, 3), (20, .iload_n 0, 1), (21, .bipush 10, 2), (23, .irem, 1), (24, .istore_n 3, 1), (25, .iload_n 3, 1), (26, .sipush 1000, 3), (29, .imul, 1), (30, .iload_n 0, 1), (31, .iadd, 1), (32, .bipush 100, 2), (34, .imul, 1), (35, .iload_n 2, 1), (36, .iadd, 1), (37, .ireturn, 1)]
def zi_47 : zIns := [(0, .aload_n 0, 1), (1, .iconst 0, 1), (2, .putfield 17, 3), (5, .iconst 0, 1), (6, .istore 5, 2), (8, .iload 5, 2), (10, .aload_n 1, 1), (11, .getfield 21, 3), (14, .if_icmp .ge 38, 3), (17, .aload_n 1, 1), (18, .aload_n 2, 1), (19, .iload 5, 2), (21, .invokevirtual 22, 3), (24, .iconst 1, 1), (25, .if_icmp .ne 21, 3), (28, .aload_n 0, 1), (29, .aload_n 1, 1), (30, .iload 5, 2), (32, .iload_n 3, 1), (33, .invokevirtual 26, 3), (36, .iload 4, 2), (38, .iload 5, 2), (40, .invokestatic 30, 3), (43, .invokevirtual 34, 3), (46, .iinc 5 1, 3), (49, .goto (-41), 3), (52, .return_, 1)]
def zi_48 : zIns := [(0, .aload_n 0, 1), (1, .getfield 17, 3), (4, .aload_n 0, 1), (5, .getfield 11, 3), (8, .arraylength, 1), (9, .if_icmp .lt 4, 3), (12, .return_, 1), (13, .aload_n 0, 1), (14, .getfield 17, 3), (17, .istore_n 2, 1), (18, .iload_n 2, 1), (19, .ifCond .le 35, 3), (22, .aload_n 0, 1), (23, .getfield 11, 3), (26, .iload_n 2, 1), (27, .iconst 1, 1), (28, .isub, 1), (29, .iaload, 1), (30, .iload_n 1, 1), (31, .if_icmp .le 23, 3), (34, .aload_n 0, 1), (35, .getfield 11, 3), (38, .iload_n 2, 1), (39, .aload_n 0, 1), (40, .getfield 11, 3), (43, .iload_n 2, 1), (44, .iconst 1, 1), (45, .isub, 1), (46, .iaload, 1), (47, .iastore, 1), (48, .iinc 2 (-1), 3), (51, .goto (-33), 3), (54, .aload_n 0, 1), (55, .getfield 11, 3), (58, .iload_n 2, 1), (59, .iload_n 1, 1), (60, .iastore, 1), (61, .aload_n 0, 1), (62, .dup, 1), (63, .getfield 17, 3), (66, .iconst 1, 1), (67, .iadd, 1), (68, .putfield 17, 3), (71, .return_, 1)]
def zi_49 : zIns := [(0, .aload_n 0, 1), (1, .getfield 11, 3), (4, .iload_n 1, 1), (5, .iaload, 1), (6, .bipush 100, 2), (8, .irem, 1), (9, .ireturn, 1)]
def zi_50 : zIns := [(0, .iconst 0, 1), (1, .istore_n 2, 1), (2, .iload_n 2, 1), (3, .aload_n 0, 1), (4, .getfield 17, 3), (7, .if_icmp .ge 25, 3), (10, .aload_n 0, 1), (11, .getfield 11, 3), (14, .iload_n 2, 1), (15, .iaload, 1), (16, .iload_n 1, 1), (17, .if_icmp .le 9, 3), (20, .aload_n 0, 1), (21, .iload_n 2, 1), (22, .invokevirtual 38, 3), (25, .ireturn, 1), (26, .iinc 2 1, 3), (29, .goto (-27), 3), (32, .iconst (-1), 1), (33, .ireturn, 1)]
def zi_51 : zIns := [(0, .aload_n 0, 1), (1, .invokespecial 3, 3), (4, .aload_n 0, 1), (5, .sipush 250, 3), (8, .newarray .int, 2), (10, .putfield 11, 3), (13, .aload_n 0, 1), (14, .sipush 250, 3), (17, .newarray .int, 2), (19, .putfield 17, 3), (22, .aload_n 0, 1), (23, .sipush 250, 3), (26, .newarray .int, 2), (28, .putfield 20, 3), (31, .return_, 1)]
def zi_52 : zIns := []
def zi_53 : zIns := []
def zi_54 : zIns := []
def zi_55 : zIns := []
def zi_56_0 : zIns := [(0, .aload_n 1, 1), (1, .invokevirtual 23, 3), (4, .aload_n 0, 1), (5, .iconst 0, 1), (6, .putfield 49, 3), (9, .aload_n 0, 1), (10, .iconst 0, 1), (11, .putfield 52, 3), (14, .iconst 1, 1), (15, .istore_n 3, 1), (16, .iconst 0, 1), (17, .istore 4, 2), (19, .iload 4, 2), (21, .sipush 250, 3), (24, .if_icmp .gt 123, 3), (27, .aload_n 1, 1), (28, .invokevirtual 34, 3), (31, .istore 5, 2), (33, .iload 5, 2), (35, .iconst (-1), 1), (36, .if_icmp .ne 21, 3), (39, .iload_n 3, 1), (40, .ifCond .ne 15, 3), (43, .aload_n 0, 1), (44, .aload_n 2, 1), (45, .invokevirtual 55, 3), (48, .ifCond .eq 7, 3), (51, .iconst 1, 1), (52, .goto 4, 3), (55, .iconst 0, 1), (56, .ireturn, 1), (57, .iload_n 3, 1), (58, .ifCond .eq 24, 3), (61, .iload 5, 2), (63, .invokestatic 59, 3), (66, .ifCond .eq 16, 3), (69, .aload_n 0, 1), (70, .iload 5, 2), (72, .invokevirtual 63, 3), (75, .aload_n 1, 1), (76, .invokevirtual 38, 3), (79, .goto 62, 3), (82, .iload_n 3, 1), (83, .ifCond .eq 32, 3), (86, .aload_n 1, 1), (87, .aload_n 2, 1), (88, .iconst 0, 1), (89, .iconst (-1), 1), (90, .invokevirtual 67, 3), (93, .invokestatic 73, 3)]
def zi_56_1 : zIns := [(96, .ifCond .ne 5, 3), (99, .iconst 0, 1), (100, .ireturn, 1), (101, .aload_n 0, 1), (102, .aload_n 2, 1), (103, .aload_n 2, 1), (104, .invokevirtual 77, 3), (107, .invokevirtual 80, 3), (110, .iconst 0, 1), (111, .istore_n 3, 1), (112, .goto 29, 3), (115, .aload_n 0, 1), (116, .aload_n 1, 1), (117, .aload_n 2, 1), (118, .iload 5, 2), (120, .invokevirtual 84, 3), (123, .ifCond .ne 5, 3), (126, .iconst 0, 1), (127, .ireturn, 1), (128, .iload 5, 2), (130, .bipush 41, 2), (132, .if_icmp .eq 7, 3), (135, .iconst 1, 1), (136, .goto 4, 3), (139, .iconst 0, 1), (140, .istore_n 3, 1), (141, .iinc 4 1, 3), (144, .goto (-125), 3), (147, .iconst 0, 1), (148, .ireturn, 1)]
def zi_56 : zIns := zi_56_0 ++ (zi_56_1)
def zi_57 : zIns := [(0, .iload_n 0, 1), (1, .bipush 45, 2), (3, .if_icmp .eq 15, 3), (6, .iload_n 0, 1), (7, .bipush 43, 2), (9, .if_icmp .eq 9, 3), (12, .iload_n 0, 1), (13, .bipush 40, 2), (15, .if_icmp .ne 7, 3), (18, .iconst 1, 1), (19, .goto 4, 3), (22, .iconst 0, 1), (23, .ireturn, 1)]
def zi_58 : zIns := [(0, .aload_n 0, 1), (1, .aload_n 1, 1), (2, .invokevirtual 88, 3), (5, .aload_n 0, 1), (6, .getfield 49, 3), (9, .ifCond .ne 7, 3), (12, .iconst 1, 1), (13, .goto 4, 3), (16, .iconst 0, 1), (17, .ireturn, 1)]
def zi_59 : zIns := [(0, .iload_n 3, 1), (1, .bipush 38, 2), (3, .if_icmp .ne 11, 3), (6, .aload_n 0, 1), (7, .iload_n 3, 1), (8, .invokevirtual 63, 3), (11, .goto 62, 3), (14, .iload_n 3, 1), (15, .bipush 124, 2), (17, .if_icmp .ne 16, 3), (20, .aload_n 0, 1), (21, .aload_n 2, 1), (22, .invokevirtual 88, 3), (25, .aload_n 0, 1), (26, .iload_n 3, 1), (27, .invokevirtual 63, 3), (30, .goto 43, 3), (33, .iload_n 3, 1), (34, .bipush 41, 2), (36, .if_icmp .ne 35, 3), (39, .aload_n 0, 1), (40, .aload_n 2, 1), (41, .invokevirtual 88, 3), (44, .aload_n 0, 1), (45, .invokevirtual 92, 3), (48, .bipush 40, 2), (50, .if_icmp .eq 5, 3), (53, .iconst 0, 1), (54, .ireturn, 1), (55, .aload_n 0, 1), (56, .invokevirtual 95, 3), (59, .aload_n 0, 1), (60, .aload_n 2, 1), (61, .aload_n 0, 1), (62, .invokevirtual 98, 3), (65, .invokevirtual 80, 3), (68, .goto 5, 3), (71, .iconst 0, 1), (72, .ireturn, 1), (73, .aload_n 1, 1), (74, .invokevirtual 38, 3), (77, .iconst 1, 1), (78, .ireturn, 1)]
def zi_60_0 : zIns := [(0, .iload_n 2, 1), (1, .istore_n 3, 1), (2, .aload_n 0, 1), (3, .getfield 49, 3), (6, .ifCond .le 61, 3), (9, .aload_n 0, 1), (10, .invokevirtual 92, 3), (13, .bipush 45, 2), (15, .if_icmp .eq 12, 3), (18, .aload_n 0, 1), (19, .invokevirtual 92, 3), (22, .bipush 43, 2), (24, .if_icmp .ne 43, 3), (27, .aload_n 1, 1), (28, .aload_n 0, 1), (29, .invokevirtual 92, 3), (32, .bipush 45, 2), (34, .if_icmp .ne 8, 3), (37, .bipush 8, 2), (39, .goto 5, 3), (42, .bipush 9, 2), (44, .iload_n 3, 1), (45, .iconst (-1), 1), (46, .invokevirtual 101, 3), (49, .aload_n 1, 1), (50, .invokevirtual 77, 3), (53, .istore_n 3, 1), (54, .aload_n 0, 1), (55, .dup, 1), (56, .getfield 49, 3), (59, .iconst 1, 1), (60, .isub, 1), (61, .putfield 49, 3), (64, .goto (-62), 3), (67, .aload_n 0, 1), (68, .invokevirtual 92, 3), (71, .bipush 38, 2), (73, .if_icmp .ne 23, 3), (76, .aload_n 0, 1), (77, .invokevirtual 95, 3), (80, .aload_n 1, 1), (81, .bipush 6, 2), (83, .aload_n 0, 1), (84, .invokevirtual 98, 3), (87, .iload_n 3, 1), (88, .invokevirtual 101, 3), (91, .aload_n 1, 1), (92, .invokevirtual 77, 3), (95, .istore_n 3, 1), (96, .aload_n 0, 1)]
def zi_60_1 : zIns := [(97, .iload_n 3, 1), (98, .invokevirtual 105, 3), (101, .return_, 1)]
def zi_60 : zIns := zi_60_0 ++ (zi_60_1)
def zi_61 : zIns := [(0, .aload_n 0, 1), (1, .invokevirtual 92, 3), (4, .bipush 124, 2), (6, .if_icmp .ne 41, 3), (9, .aload_n 0, 1), (10, .getfield 52, 3), (13, .iconst 2, 1), (14, .if_icmp .lt 33, 3), (17, .aload_n 0, 1), (18, .invokevirtual 95, 3), (21, .aload_n 0, 1), (22, .invokevirtual 98, 3), (25, .istore_n 2, 1), (26, .aload_n 0, 1), (27, .invokevirtual 98, 3), (30, .istore_n 3, 1), (31, .aload_n 1, 1), (32, .bipush 7, 2), (34, .iload_n 3, 1), (35, .iload_n 2, 1), (36, .invokevirtual 101, 3), (39, .aload_n 0, 1), (40, .aload_n 1, 1), (41, .invokevirtual 77, 3), (44, .invokevirtual 105, 3), (47, .return_, 1)]
def zi_62 : zIns := [(0, .aload_n 0, 1), (1, .getfield 49, 3), (4, .aload_n 0, 1), (5, .getfield 17, 3), (8, .arraylength, 1), (9, .if_icmp .ge 23, 3), (12, .aload_n 0, 1), (13, .getfield 17, 3), (16, .aload_n 0, 1), (17, .getfield 49, 3), (20, .iload_n 1, 1), (21, .iastore, 1), (22, .aload_n 0, 1), (23, .dup, 1), (24, .getfield 49, 3), (27, .iconst 1, 1), (28, .iadd, 1), (29, .putfield 49, 3), (32, .return_, 1)]
def zi_63 : zIns := [(0, .aload_n 0, 1), (1, .getfield 49, 3), (4, .ifCond .le 17, 3), (7, .aload_n 0, 1), (8, .getfield 17, 3), (11, .aload_n 0, 1), (12, .getfield 49, 3), (15, .iconst 1, 1), (16, .isub, 1), (17, .iaload, 1), (18, .goto 4, 3), (21, .iconst (-1), 1), (22, .ireturn, 1)]
def zi_64 : zIns := [(0, .aload_n 0, 1), (1, .getfield 49, 3), (4, .ifCond .le 13, 3), (7, .aload_n 0, 1), (8, .dup, 1), (9, .getfield 49, 3), (12, .iconst 1, 1), (13, .isub, 1), (14, .putfield 49, 3), (17, .return_, 1)]
def zi_65 : zIns := [(0, .aload_n 0, 1), (1, .getfield 52, 3), (4, .aload_n 0, 1), (5, .getfield 20, 3), (8, .arraylength, 1), (9, .if_icmp .ge 23, 3), (12, .aload_n 0, 1), (13, .getfield 20, 3), (16, .aload_n 0, 1), (17, .getfield 52, 3), (20, .iload_n 1, 1), (21, .iastore, 1), (22, .aload_n 0, 1), (23, .dup, 1), (24, .getfield 52, 3), (27, .iconst 1, 1), (28, .iadd, 1), (29, .putfield 52, 3), (32, .return_, 1)]
def zi_66 : zIns := [(0, .aload_n 0, 1), (1, .getfield 52, 3), (4, .ifCond .gt 5, 3), (7, .iconst (-1), 1), (8, .ireturn, 1), (9, .aload_n 0, 1), (10, .dup, 1), (11, .getfield 52, 3), (14, .iconst 1, 1), (15, .isub, 1), (16, .putfield 52, 3), (19, .aload_n 0, 1), (20, .getfield 20, 3), (23, .aload_n 0, 1), (24, .getfield 52, 3), (27, .iaload, 1), (28, .ireturn, 1)]
def zi_67 : zIns := [(0, .aload_n 0, 1), (1, .invokevirtual 108, 3), (4, .istore_n 2, 1), (5, .iload_n 2, 1), (6, .iconst (-1), 1), (7, .if_icmp .ne 5, 3), (10, .iconst 0, 1), (11, .ireturn, 1), (12, .aload_n 0, 1), (13, .invokevirtual 38, 3), (16, .aload_n 1, 1), (17, .iload_n 2, 1), (18, .iconst 0, 1), (19, .invokevirtual 111, 3), (22, .aload_n 0, 1), (23, .invokevirtual 117, 3), (26, .iconst (-1), 1), (27, .if_icmp .eq 9, 3), (30, .aload_n 0, 1), (31, .aload_n 1, 1), (32, .invokestatic 120, 3), (35, .ireturn, 1), (36, .aload_n 0, 1), (37, .invokevirtual 34, 3), (40, .lookupswitch 59 #[(37, 53), (63, 42), (91, 36)], 36), (76, .aload_n 0, 1), (77, .aload_n 1, 1), (78, .invokestatic 123, 3), (81, .ireturn, 1), (82, .aload_n 1, 1), (83, .iconst 2, 1), (84, .putfield 126, 3), (87, .aload_n 0, 1), (88, .invokevirtual 38, 3), (91, .iconst 1, 1), (92, .ireturn, 1), (93, .aload_n 0, 1), (94, .aload_n 1, 1), (95, .invokestatic 129, 3), (98, .ireturn, 1), (99, .aload_n 0, 1), (100, .aload_n 1, 1), (101, .invokestatic 132, 3), (104, .ireturn, 1)]
def zi_68 : zIns := [(0, .aload_n 1, 1), (1, .aload_n 0, 1), (2, .invokevirtual 117, 3), (5, .putfield 135, 3), (8, .aload_n 0, 1), (9, .invokevirtual 38, 3), (12, .aload_n 0, 1), (13, .iconst 1, 1), (14, .bipush 9, 2), (16, .invokevirtual 41, 3), (19, .istore_n 2, 1), (20, .aload_n 0, 1), (21, .invokevirtual 108, 3), (24, .istore_n 3, 1), (25, .iload_n 2, 1), (26, .iconst (-1), 1), (27, .if_icmp .eq 17, 3), (30, .aload_n 1, 1), (31, .iconst 0, 1), (32, .putfield 126, 3), (35, .aload_n 1, 1), (36, .iconst 0, 1), (37, .iload_n 2, 1), (38, .invokevirtual 138, 3), (41, .goto 32, 3), (44, .iload_n 3, 1), (45, .iconst (-1), 1), (46, .if_icmp .eq 25, 3), (49, .aload_n 1, 1), (50, .iload_n 3, 1), (51, .invokevirtual 141, 3), (54, .ifCond .ne 17, 3), (57, .aload_n 1, 1), (58, .iconst 3, 1), (59, .putfield 126, 3), (62, .aload_n 1, 1), (63, .iload_n 3, 1), (64, .iconst 0, 1), (65, .invokevirtual 111, 3), (68, .goto 5, 3), (71, .iconst 0, 1), (72, .ireturn, 1), (73, .aload_n 0, 1), (74, .invokevirtual 38, 3), (77, .iconst 1, 1), (78, .ireturn, 1)]
def zi_69_0 : zIns := [(0, .aload_n 1, 1), (1, .iconst 1, 1), (2, .putfield 126, 3), (5, .aload_n 0, 1), (6, .invokevirtual 38, 3), (9, .iconst 0, 1), (10, .istore_n 2, 1), (11, .aload_n 0, 1), (12, .iconst 1, 1), (13, .bipush 9, 2), (15, .invokevirtual 41, 3), (18, .istore_n 3, 1), (19, .iconst 0, 1), (20, .istore 4, 2), (22, .iload 4, 2), (24, .sipush 250, 3), (27, .if_icmp .ge 32, 3), (30, .iload_n 3, 1), (31, .iconst (-1), 1), (32, .if_icmp .eq 27, 3), (35, .iload_n 2, 1), (36, .iconst 1, 1), (37, .iload_n 3, 1), (38, .ishl, 1), (39, .ior, 1), (40, .istore_n 2, 1), (41, .aload_n 0, 1), (42, .invokevirtual 38, 3), (45, .aload_n 0, 1), (46, .iconst 1, 1), (47, .bipush 9, 2), (49, .invokevirtual 41, 3), (52, .istore_n 3, 1), (53, .iinc 4 1, 3), (56, .goto (-34), 3), (59, .iload_n 2, 1), (60, .ifCond .eq 12, 3), (63, .aload_n 0, 1), (64, .invokevirtual 34, 3), (67, .bipush 93, 2), (69, .if_icmp .eq 5, 3), (72, .iconst 0, 1), (73, .ireturn, 1), (74, .aload_n 1, 1), (75, .iconst 0, 1), (76, .iload_n 2, 1), (77, .invokevirtual 138, 3), (80, .aload_n 0, 1), (81, .invokevirtual 38, 3), (84, .iconst 1, 1)]
def zi_69_1 : zIns := [(85, .ireturn, 1)]
def zi_69 : zIns := zi_69_0 ++ (zi_69_1)
def zi_70 : zIns := [(0, .aload_n 1, 1), (1, .iconst 4, 1), (2, .putfield 126, 3), (5, .aload_n 0, 1), (6, .invokevirtual 38, 3), (9, .aload_n 0, 1), (10, .iconst 2, 1), (11, .bipush 9, 2), (13, .invokevirtual 41, 3), (16, .istore_n 2, 1), (17, .iload_n 2, 1), (18, .iconst (-1), 1), (19, .if_icmp .ne 5, 3), (22, .iconst 0, 1), (23, .ireturn, 1), (24, .aload_n 0, 1), (25, .invokevirtual 38, 3), (28, .aload_n 0, 1), (29, .iconst 0, 1), (30, .iload_n 2, 1), (31, .iconst 1, 1), (32, .isub, 1), (33, .invokevirtual 41, 3), (36, .istore_n 3, 1), (37, .iload_n 3, 1), (38, .iconst (-1), 1), (39, .if_icmp .ne 5, 3), (42, .iconst 0, 1), (43, .ireturn, 1), (44, .aload_n 0, 1), (45, .invokevirtual 38, 3), (48, .aload_n 1, 1), (49, .iconst 0, 1), (50, .iload_n 2, 1), (51, .invokevirtual 138, 3), (54, .aload_n 1, 1), (55, .iload_n 3, 1), (56, .putfield 144, 3), (59, .iconst 1, 1), (60, .ireturn, 1)]
def zi_71_0 : zIns := [(0, .aload_n 1, 1), (1, .iconst 5, 1), (2, .putfield 126, 3), (5, .aload_n 0, 1), (6, .invokevirtual 108, 3), (9, .istore_n 2, 1), (10, .iconst 1, 1), (11, .istore_n 3, 1), (12, .iload_n 3, 1), (13, .iconst 3, 1), (14, .if_icmp .ge 39, 3), (17, .iload_n 2, 1), (18, .iconst (-1), 1), (19, .if_icmp .eq 34, 3), (22, .aload_n 1, 1), (23, .iload_n 2, 1), (24, .invokevirtual 141, 3), (27, .ifCond .eq 5, 3), (30, .iconst 0, 1), (31, .ireturn, 1), (32, .aload_n 1, 1), (33, .iload_n 2, 1), (34, .iconst 0, 1), (35, .invokevirtual 111, 3), (38, .aload_n 0, 1), (39, .invokevirtual 38, 3), (42, .aload_n 0, 1), (43, .invokevirtual 108, 3), (46, .istore_n 2, 1), (47, .iinc 3 1, 3), (50, .goto (-38), 3), (53, .aload_n 1, 1), (54, .aload_n 0, 1), (55, .invokevirtual 117, 3), (58, .putfield 135, 3), (61, .aload_n 1, 1), (62, .invokevirtual 147, 3), (65, .iconst 2, 1), (66, .if_icmp .lt 11, 3), (69, .aload_n 1, 1), (70, .getfield 135, 3), (73, .iconst (-1), 1), (74, .if_icmp .ne 5, 3), (77, .iconst 0, 1), (78, .ireturn, 1), (79, .aload_n 0, 1), (80, .invokevirtual 38, 3), (83, .iconst 0, 1), (84, .istore_n 3, 1), (85, .iload_n 3, 1)]
def zi_71_1 : zIns := [(86, .aload_n 1, 1), (87, .invokevirtual 147, 3), (90, .if_icmp .ge 37, 3), (93, .aload_n 0, 1), (94, .iconst 1, 1), (95, .bipush 9, 2), (97, .invokevirtual 41, 3), (100, .istore 4, 2), (102, .iload 4, 2), (104, .iconst (-1), 1), (105, .if_icmp .ne 5, 3), (108, .iconst 0, 1), (109, .ireturn, 1), (110, .aload_n 1, 1), (111, .iload_n 3, 1), (112, .iload 4, 2), (114, .invokevirtual 138, 3), (117, .aload_n 0, 1), (118, .invokevirtual 38, 3), (121, .iinc 3 1, 3), (124, .goto (-39), 3), (127, .iconst 1, 1), (128, .ireturn, 1)]
def zi_71 : zIns := zi_71_0 ++ (zi_71_1)
def zi_72 : zIns := [(0, .aload_n 0, 1), (1, .invokespecial 3, 3), (4, .aload_n 0, 1), (5, .bipush 8, 2), (7, .newarray .int, 2), (9, .putfield 11, 3), (12, .aload_n 0, 1), (13, .bipush 8, 2), (15, .newarray .int, 2), (17, .putfield 15, 3), (20, .aload_n 0, 1), (21, .sipush 320, 3), (24, .newarray .long, 2), (26, .putfield 18, 3), (29, .iconst 0, 1), (30, .istore_n 1, 1), (31, .iload_n 1, 1), (32, .bipush 8, 2), (34, .if_icmp .ge 16, 3), (37, .aload_n 0, 1), (38, .getfield 11, 3), (41, .iload_n 1, 1), (42, .iconst (-1), 1), (43, .iastore, 1), (44, .iinc 1 1, 3), (47, .goto (-16), 3), (50, .return_, 1)]
def zi_73 : zIns := [(0, .iload_n 0, 1), (1, .iconst 0, 1), (2, .bipush 7, 2), (4, .invokestatic 22, 3), (7, .ireturn, 1)]
def zi_74 : zIns := []
def zi_75 : zIns := []
def zi_76 : zIns := []
def zi_77 : zIns := [(0, .aload_n 0, 1), (1, .getfield 11, 3), (4, .iload_n 1, 1), (5, .iaload, 1), (6, .bipush 10, 2), (8, .if_icmp .lt 15, 3), (11, .aload_n 0, 1), (12, .getfield 11, 3), (15, .iload_n 1, 1), (16, .iaload, 1), (17, .bipush 10, 2), (19, .isub, 1), (20, .goto 4, 3), (23, .iconst (-1), 1), (24, .ireturn, 1)]
def zi_78 : zIns := [(0, .aload_n 0, 1), (1, .getfield 11, 3), (4, .iload_n 1, 1), (5, .iload_n 2, 1), (6, .iastore, 1), (7, .aload_n 0, 1), (8, .getfield 15, 3), (11, .iload_n 1, 1), (12, .iload_n 3, 1), (13, .iastore, 1), (14, .iconst 0, 1), (15, .istore 4, 2), (17, .iload 4, 2), (19, .iload_n 3, 1), (20, .if_icmp .ge 22, 3), (23, .aload_n 0, 1), (24, .getfield 18, 3), (27, .iload_n 1, 1), (28, .bipush 40, 2), (30, .imul, 1), (31, .iload 4, 2), (33, .iadd, 1), (34, .lconst 0, 1), (35, .lastore, 1), (36, .iinc 4 1, 3), (39, .goto (-22), 3), (42, .return_, 1)]
def zi_79 : zIns := [(0, .aload_n 0, 1), (1, .getfield 11, 3), (4, .iload_n 1, 1), (5, .iaload, 1), (6, .bipush 10, 2), (8, .if_icmp .lt 6, 3), (11, .bipush (-103), 2), (13, .ireturn, 1), (14, .aload_n 0, 1), (15, .getfield 11, 3), (18, .iload_n 1, 1), (19, .iaload, 1), (20, .iconst (-1), 1), (21, .if_icmp .ne 8, 3), (24, .bipush (-104), 2), (26, .goto 4, 3), (29, .iconst 0, 1), (30, .ireturn, 1)]
def zi_80 : zIns := [(0, .aload_n 0, 1), (1, .iload_n 1, 1), (2, .invokevirtual 26, 3), (5, .istore_n 3, 1), (6, .iload_n 3, 1), (7, .ifCond .ne 16, 3), (10, .aload_n 0, 1), (11, .getfield 15, 3), (14, .iload_n 1, 1), (15, .iaload, 1), (16, .iload_n 2, 1), (17, .if_icmp .ge 6, 3), (20, .bipush (-102), 2), (22, .ireturn, 1), (23, .iload_n 3, 1), (24, .ireturn, 1)]
def zi_81 : zIns := []
def zi_82 : zIns := [(0, .iload_n 2, 1), (1, .iconst 0, 1), (2, .aload_n 0, 1), (3, .getfield 15, 3), (6, .iload_n 1, 1), (7, .iaload, 1), (8, .iconst 1, 1), (9, .isub, 1), (10, .invokestatic 22, 3), (13, .ireturn, 1)]
def zi_83 : zIns := []
def zi_84 : zIns := [(0, .aload_n 0, 1), (1, .getfield 18, 3), (4, .iload_n 1, 1), (5, .bipush 40, 2), (7, .imul, 1), (8, .iload_n 2, 1), (9, .iadd, 1), (10, .laload, 1), (11, .lreturn, 1)]
def zi_85 : zIns := [(0, .aload_n 0, 1), (1, .getfield 18, 3), (4, .iload_n 1, 1), (5, .bipush 40, 2), (7, .imul, 1), (8, .iload_n 2, 1), (9, .iadd, 1), (10, .aload_n 0, 1), (11, .getfield 11, 3), (14, .iload_n 1, 1), (15, .iaload, 1), (16, .lload_n 3, 1), (17, .invokestatic 30, 3), (20, .lastore, 1), (21, .return_, 1)]
def zi_86 : zIns := []
def zi_87 : zIns := [(0, .iload_n 0, 1), (1, .tableswitch 47 0 3 #[31, 36, 41, 45], 31), (32, .lload_n 1, 1), (33, .l2i, 1), (34, .i2b, 1), (35, .i2l, 1), (36, .lreturn, 1), (37, .lload_n 1, 1), (38, .l2i, 1), (39, .i2s, 1), (40, .i2l, 1), (41, .lreturn, 1), (42, .lload_n 1, 1), (43, .l2i, 1), (44, .i2l, 1), (45, .lreturn, 1), (46, .lload_n 1, 1), (47, .lreturn, 1), (48, .lload_n 1, 1), (49, .lconst 0, 1), (50, .lcmp, 1), (51, .ifCond .eq 7, 3), (54, .lconst 1, 1), (55, .goto 4, 3), (58, .lconst 0, 1), (59, .lreturn, 1)]
def zi_88 : zIns := [(0, .iconst 0, 1), (1, .istore_n 2, 1), (2, .iload_n 2, 1), (3, .bipush 8, 2), (5, .if_icmp .ge 25, 3), (8, .aload_n 0, 1), (9, .iload_n 2, 1), (10, .invokevirtual 40, 3), (13, .iload_n 1, 1), (14, .if_icmp .lt 10, 3), (17, .aload_n 0, 1), (18, .getfield 11, 3), (21, .iload_n 2, 1), (22, .iconst (-1), 1), (23, .iastore, 1), (24, .iinc 2 1, 3), (27, .goto (-25), 3), (30, .return_, 1)]
def zi_89 : zIns := [(0, .iconst 0, 1), (1, .istore_n 1, 1), (2, .iconst 0, 1), (3, .istore_n 2, 1), (4, .iload_n 2, 1), (5, .bipush 8, 2), (7, .if_icmp .ge 22, 3), (10, .aload_n 0, 1), (11, .getfield 11, 3), (14, .iload_n 2, 1), (15, .iaload, 1), (16, .iconst (-1), 1), (17, .if_icmp .eq 6, 3), (20, .iinc 1 1, 3), (23, .iinc 2 1, 3), (26, .goto (-22), 3), (29, .iload_n 1, 1), (30, .ireturn, 1)]
def zi_90 : zIns := [(0, .aload_n 0, 1), (1, .invokespecial 3, 3), (4, .aload_n 0, 1), (5, .sipush 500, 3), (8, .newarray .int, 2), (10, .putfield 11, 3), (13, .aload_n 0, 1), (14, .sipush 500, 3), (17, .newarray .int, 2), (19, .putfield 15, 3), (22, .aload_n 0, 1), (23, .sipush 1000, 3), (26, .newarray .int, 2), (28, .putfield 18, 3), (31, .aload_n 0, 1), (32, .sipush 500, 3), (35, .newarray .int, 2), (37, .putfield 21, 3), (40, .aload_n 0, 1), (41, .sipush 1000, 3), (44, .newarray .int, 2), (46, .putfield 24, 3), (49, .aload_n 0, 1), (50, .sipush 500, 3), (53, .newarray .int, 2), (55, .putfield 27, 3), (58, .aload_n 0, 1), (59, .sipush 500, 3), (62, .newarray .boolean, 2), (64, .putfield 30, 3), (67, .aload_n 0, 1), (68, .sipush 500, 3), (71, .newarray .int, 2), (73, .putfield 34, 3), (76, .return_, 1)]
def zi_91_0 : zIns := [(0, .aload_n 0, 1), (1, .iconst 0, 1), (2, .putfield 37, 3), (5, .iconst 0, 1), (6, .istore_n 3, 1), (7, .iconst 0, 1), (8, .istore 4, 2), (10, .iload 4, 2), (12, .sipush 1000, 3), (15, .if_icmp .ge 109, 3), (18, .aload_n 1, 1), (19, .iload_n 2, 1), (20, .iload 4, 2), (22, .invokestatic 41, 3), (25, .invokevirtual 45, 3), (28, .iconst 1, 1), (29, .if_icmp .ne 7, 3), (32, .iconst 1, 1), (33, .goto 4, 3), (36, .iconst 0, 1), (37, .istore 5, 2), (39, .iload 5, 2), (41, .ifCond .eq 38, 3), (44, .iload_n 3, 1), (45, .ifCond .ne 34, 3), (48, .aload_n 0, 1), (49, .getfield 37, 3), (52, .sipush 500, 3), (55, .if_icmp .ge 24, 3), (58, .aload_n 0, 1), (59, .getfield 11, 3), (62, .aload_n 0, 1), (63, .getfield 37, 3), (66, .iload 4, 2), (68, .iastore, 1), (69, .aload_n 0, 1), (70, .dup, 1), (71, .getfield 37, 3), (74, .iconst 1, 1), (75, .iadd, 1), (76, .putfield 37, 3), (79, .iload 5, 2), (81, .ifCond .eq 23, 3), (84, .aload_n 0, 1), (85, .getfield 37, 3), (88, .ifCond .le 16, 3), (91, .aload_n 0, 1), (92, .getfield 15, 3), (95, .aload_n 0, 1), (96, .getfield 37, 3)]
def zi_91_1 : zIns := [(99, .iconst 1, 1), (100, .isub, 1), (101, .iload 4, 2), (103, .iastore, 1), (104, .aload_n 0, 1), (105, .getfield 18, 3), (108, .iload 4, 2), (110, .aload_n 0, 1), (111, .getfield 37, 3), (114, .iastore, 1), (115, .iload 5, 2), (117, .istore_n 3, 1), (118, .iinc 4 1, 3), (121, .goto (-111), 3), (124, .return_, 1)]
def zi_91 : zIns := zi_91_0 ++ (zi_91_1)
def zi_92 : zIns := [(0, .sipush 1000, 3), (3, .aload_n 0, 1), (4, .getfield 11, 3), (7, .iload_n 1, 1), (8, .iaload, 1), (9, .imul, 1), (10, .aload_n 0, 1), (11, .getfield 15, 3), (14, .iload_n 1, 1), (15, .iaload, 1), (16, .iadd, 1), (17, .ireturn, 1)]
def zi_93 : zIns := [(0, .aload_n 0, 1), (1, .getfield 37, 3), (4, .iload_n 1, 1), (5, .invokestatic 51, 3), (8, .ireturn, 1)]
def zi_94 : zIns := [(0, .aload_n 0, 1), (1, .getfield 11, 3), (4, .iload_n 1, 1), (5, .iconst 1, 1), (6, .iadd, 1), (7, .iaload, 1), (8, .aload_n 0, 1), (9, .getfield 15, 3), (12, .iload_n 1, 1), (13, .iaload, 1), (14, .isub, 1), (15, .iconst 1, 1), (16, .isub, 1), (17, .ireturn, 1)]
def zi_95_0 : zIns := [(0, .iconst 0, 1), (1, .istore_n 1, 1), (2, .iload_n 1, 1), (3, .sipush 1000, 3), (6, .if_icmp .ge 16, 3), (9, .aload_n 0, 1), (10, .getfield 24, 3), (13, .iload_n 1, 1), (14, .iconst (-1), 1), (15, .iastore, 1), (16, .iinc 1 1, 3), (19, .goto (-17), 3), (22, .aload_n 0, 1), (23, .getfield 37, 3), (26, .iconst 2, 1), (27, .isub, 1), (28, .istore_n 1, 1), (29, .iload_n 1, 1), (30, .ifCond .lt 34, 3), (33, .aload_n 0, 1), (34, .iload_n 1, 1), (35, .invokevirtual 56, 3), (38, .istore_n 2, 1), (39, .aload_n 0, 1), (40, .getfield 27, 3), (43, .iload_n 1, 1), (44, .aload_n 0, 1), (45, .getfield 24, 3), (48, .iload_n 2, 1), (49, .iaload, 1), (50, .iastore, 1), (51, .aload_n 0, 1), (52, .getfield 24, 3), (55, .iload_n 2, 1), (56, .iload_n 1, 1), (57, .iastore, 1), (58, .iinc 1 (-1), 3), (61, .goto (-32), 3), (64, .iconst 0, 1), (65, .istore_n 1, 1), (66, .iconst 0, 1), (67, .istore_n 2, 1), (68, .iload_n 2, 1), (69, .sipush 1000, 3), (72, .if_icmp .ge 51, 3), (75, .aload_n 0, 1), (76, .getfield 24, 3), (79, .iload_n 2, 1), (80, .iaload, 1), (81, .istore_n 3, 1)]
def zi_95_1 : zIns := [(82, .iload_n 3, 1), (83, .iconst (-1), 1), (84, .if_icmp .eq 33, 3), (87, .iload_n 1, 1), (88, .aload_n 0, 1), (89, .getfield 37, 3), (92, .iconst 1, 1), (93, .isub, 1), (94, .if_icmp .ge 23, 3), (97, .aload_n 0, 1), (98, .getfield 21, 3), (101, .iload_n 1, 1), (102, .iload_n 3, 1), (103, .iastore, 1), (104, .iinc 1 1, 3), (107, .aload_n 0, 1), (108, .getfield 27, 3), (111, .iload_n 3, 1), (112, .iaload, 1), (113, .istore_n 3, 1), (114, .goto (-32), 3), (117, .iinc 2 1, 3), (120, .goto (-52), 3), (123, .return_, 1)]
def zi_95 : zIns := zi_95_0 ++ (zi_95_1)
def zi_96 : zIns := [(0, .aload_n 0, 1), (1, .invokevirtual 59, 3), (4, .iconst 0, 1), (5, .istore_n 2, 1), (6, .iload_n 2, 1), (7, .aload_n 0, 1), (8, .getfield 37, 3), (11, .iconst 1, 1), (12, .isub, 1), (13, .if_icmp .ge 16, 3), (16, .aload_n 0, 1), (17, .getfield 30, 3), (20, .iload_n 2, 1), (21, .iconst 0, 1), (22, .bastore, 1), (23, .iinc 2 1, 3), (26, .goto (-20), 3), (29, .iconst 0, 1), (30, .istore_n 2, 1), (31, .iload_n 2, 1), (32, .aload_n 0, 1), (33, .getfield 37, 3), (36, .iload_n 1, 1), (37, .iconst 1, 1), (38, .invokestatic 62, 3), (41, .isub, 1), (42, .if_icmp .ge 21, 3), (45, .aload_n 0, 1), (46, .getfield 30, 3), (49, .aload_n 0, 1), (50, .getfield 21, 3), (53, .iload_n 2, 1), (54, .iaload, 1), (55, .iconst 1, 1), (56, .bastore, 1), (57, .iinc 2 1, 3), (60, .goto (-29), 3), (63, .return_, 1)]
def zi_97 : zIns := [(0, .iconst 0, 1), (1, .istore_n 2, 1), (2, .iconst 0, 1), (3, .istore_n 3, 1), (4, .iconst 0, 1), (5, .istore 4, 2), (7, .iload 4, 2), (9, .aload_n 0, 1), (10, .getfield 37, 3), (13, .if_icmp .ge 62, 3), (16, .iload 4, 2), (18, .aload_n 0, 1), (19, .getfield 37, 3), (22, .iconst 1, 1), (23, .isub, 1), (24, .if_icmp .eq 13, 3), (27, .aload_n 0, 1), (28, .getfield 30, 3), (31, .iload 4, 2), (33, .baload, 1), (34, .ifCond .ne 35, 3), (37, .iload_n 2, 1), (38, .iload_n 1, 1), (39, .if_icmp .ne 22, 3), (42, .sipush 1000, 3), (45, .aload_n 0, 1), (46, .getfield 11, 3), (49, .iload_n 3, 1), (50, .iaload, 1), (51, .imul, 1), (52, .aload_n 0, 1), (53, .getfield 15, 3), (56, .iload 4, 2), (58, .iaload, 1), (59, .iadd, 1), (60, .ireturn, 1), (61, .iinc 2 1, 3), (64, .iload 4, 2), (66, .iconst 1, 1), (67, .iadd, 1), (68, .istore_n 3, 1), (69, .iinc 4 1, 3), (72, .goto (-65), 3), (75, .iconst (-1), 1), (76, .ireturn, 1)]
def zi_98 : zIns := [(0, .aload_n 0, 1), (1, .getfield 18, 3), (4, .iload_n 1, 1), (5, .iaload, 1), (6, .iconst 1, 1), (7, .isub, 1), (8, .istore_n 2, 1), (9, .iload_n 2, 1), (10, .iconst 0, 1), (11, .aload_n 0, 1), (12, .getfield 37, 3), (15, .iconst 2, 1), (16, .isub, 1), (17, .invokestatic 65, 3), (20, .ifCond .eq 7, 3), (23, .iload_n 2, 1), (24, .goto 4, 3), (27, .iconst (-1), 1), (28, .ireturn, 1)]
def zi_99 : zIns := [(0, .aload_n 0, 1), (1, .iload_n 1, 1), (2, .invokevirtual 69, 3), (5, .istore_n 2, 1), (6, .aload_n 0, 1), (7, .iload_n 1, 1), (8, .invokevirtual 72, 3), (11, .ifCond .ne 17, 3), (14, .iload_n 2, 1), (15, .iconst (-1), 1), (16, .if_icmp .eq 16, 3), (19, .aload_n 0, 1), (20, .getfield 30, 3), (23, .iload_n 2, 1), (24, .baload, 1), (25, .ifCond .eq 7, 3), (28, .iconst 1, 1), (29, .goto 4, 3), (32, .iconst 0, 1), (33, .ireturn, 1)]
def zi_100 : zIns := [(0, .iconst 0, 1), (1, .istore_n 1, 1), (2, .iconst 0, 1), (3, .istore_n 2, 1), (4, .iload_n 2, 1), (5, .aload_n 0, 1), (6, .getfield 37, 3), (9, .iconst 1, 1), (10, .isub, 1), (11, .if_icmp .ge 26, 3), (14, .aload_n 0, 1), (15, .getfield 30, 3), (18, .iload_n 2, 1), (19, .baload, 1), (20, .ifCond .eq 11, 3), (23, .iload_n 1, 1), (24, .aload_n 0, 1), (25, .iload_n 2, 1), (26, .invokevirtual 56, 3), (29, .iadd, 1), (30, .istore_n 1, 1), (31, .iinc 2 1, 3), (34, .goto (-30), 3), (37, .iload_n 1, 1), (38, .ireturn, 1)]
def zi_101 : zIns := [(0, .iconst 0, 1), (1, .istore_n 3, 1), (2, .iconst 0, 1), (3, .istore 4, 2), (5, .iload 4, 2), (7, .aload_n 1, 1), (8, .getfield 76, 3), (11, .if_icmp .ge 26, 3), (14, .aload_n 0, 1), (15, .aload_n 1, 1), (16, .iload 4, 2), (18, .iload_n 2, 1), (19, .invokevirtual 79, 3), (22, .invokevirtual 82, 3), (25, .ifCond .eq 6, 3), (28, .iinc 3 1, 3), (31, .iinc 4 1, 3), (34, .goto (-29), 3), (37, .iload_n 3, 1), (38, .ireturn, 1)]
def zi_102_0 : zIns := [(0, .aload_n 0, 1), (1, .invokevirtual 59, 3), (4, .aload_n 1, 1), (5, .getfield 85, 3), (8, .aload_n 0, 1), (9, .getfield 37, 3), (12, .imul, 1), (13, .aload_n 0, 1), (14, .aload_n 1, 1), (15, .iload_n 2, 1), (16, .invokevirtual 88, 3), (19, .iadd, 1), (20, .istore_n 3, 1), (21, .aload_n 0, 1), (22, .iconst 1, 1), (23, .putfield 92, 3), (26, .aload_n 0, 1), (27, .iload_n 3, 1), (28, .putfield 95, 3), (31, .iconst 0, 1), (32, .istore 4, 2), (34, .aload_n 0, 1), (35, .getfield 37, 3), (38, .istore 5, 2), (40, .iload 5, 2), (42, .iconst 1, 1), (43, .if_icmp .lt 74, 3), (46, .iload 5, 2), (48, .bipush 40, 2), (50, .if_icmp .gt 30, 3), (53, .iload 4, 2), (55, .ifCond .eq 11, 3), (58, .iload_n 3, 1), (59, .aload_n 0, 1), (60, .getfield 95, 3), (63, .if_icmp .gt 17, 3), (66, .iconst 1, 1), (67, .istore 4, 2), (69, .aload_n 0, 1), (70, .iload 5, 2), (72, .putfield 92, 3), (75, .aload_n 0, 1), (76, .iload_n 3, 1), (77, .putfield 95, 3), (80, .iload 5, 2), (82, .iconst 1, 1), (83, .if_icmp .le 28, 3), (86, .iload_n 3, 1), (87, .aload_n 0, 1), (88, .getfield 34, 3)]
def zi_102_1 : zIns := [(91, .aload_n 0, 1), (92, .getfield 21, 3), (95, .aload_n 0, 1), (96, .getfield 37, 3), (99, .iload 5, 2), (101, .isub, 1), (102, .iaload, 1), (103, .iaload, 1), (104, .aload_n 1, 1), (105, .getfield 85, 3), (108, .isub, 1), (109, .iadd, 1), (110, .istore_n 3, 1), (111, .iinc 5 (-1), 3), (114, .goto (-74), 3), (117, .return_, 1)]
def zi_102 : zIns := zi_102_0 ++ (zi_102_1)
def zi_103_0 : zIns := [(0, .iconst 0, 1), (1, .istore_n 3, 1), (2, .iload_n 3, 1), (3, .aload_n 0, 1), (4, .getfield 37, 3), (7, .iconst 1, 1), (8, .isub, 1), (9, .if_icmp .ge 16, 3), (12, .aload_n 0, 1), (13, .getfield 34, 3), (16, .iload_n 3, 1), (17, .iconst 0, 1), (18, .iastore, 1), (19, .iinc 3 1, 3), (22, .goto (-20), 3), (25, .iconst 0, 1), (26, .istore_n 3, 1), (27, .iconst 0, 1), (28, .istore 4, 2), (30, .iload 4, 2), (32, .aload_n 1, 1), (33, .getfield 76, 3), (36, .if_icmp .ge 58, 3), (39, .aload_n 1, 1), (40, .iload 4, 2), (42, .iload_n 2, 1), (43, .invokevirtual 79, 3), (46, .istore 5, 2), (48, .aload_n 0, 1), (49, .iload 5, 2), (51, .invokevirtual 69, 3), (54, .istore 6, 2), (56, .aload_n 0, 1), (57, .iload 5, 2), (59, .invokevirtual 72, 3), (62, .ifCond .eq 9, 3), (65, .iinc 3 1, 3), (68, .goto 20, 3), (71, .iload 6, 2), (73, .iconst (-1), 1), (74, .if_icmp .eq 14, 3), (77, .aload_n 0, 1), (78, .getfield 34, 3), (81, .iload 6, 2), (83, .dup2, 1), (84, .iaload, 1), (85, .iconst 1, 1), (86, .iadd, 1), (87, .iastore, 1), (88, .iinc 4 1, 3)]
def zi_103_1 : zIns := [(91, .goto (-61), 3), (94, .iload_n 3, 1), (95, .ireturn, 1)]
def zi_103 : zIns := zi_103_0 ++ (zi_103_1)
def zi_104 : zIns := [(0, .aload_n 0, 1), (1, .invokespecial 3, 3), (4, .aload_n 0, 1), (5, .sipush 250, 3), (8, .newarray .int, 2), (10, .putfield 11, 3), (13, .aload_n 0, 1), (14, .iconst 0, 1), (15, .putfield 15, 3), (18, .aload_n 0, 1), (19, .iconst 0, 1), (20, .putfield 19, 3), (23, .return_, 1)]
def zi_105 : zIns := [(0, .aload_n 0, 1), (1, .getfield 15, 3), (4, .sipush 250, 3), (7, .if_icmp .ge 23, 3), (10, .aload_n 0, 1), (11, .getfield 11, 3), (14, .aload_n 0, 1), (15, .getfield 15, 3), (18, .iload_n 1, 1), (19, .iastore, 1), (20, .aload_n 0, 1), (21, .dup, 1), (22, .getfield 15, 3), (25, .iconst 1, 1), (26, .iadd, 1), (27, .putfield 15, 3), (30, .return_, 1)]
def zi_106 : zIns := [(0, .aload_n 0, 1), (1, .iconst 0, 1), (2, .putfield 15, 3), (5, .return_, 1)]
def zi_107 : zIns := [(0, .aload_n 0, 1), (1, .iconst 0, 1), (2, .putfield 19, 3), (5, .return_, 1)]
def zi_108 : zIns := [(0, .aload_n 0, 1), (1, .getfield 19, 3), (4, .aload_n 0, 1), (5, .getfield 15, 3), (8, .if_icmp .ge 30, 3), (11, .aload_n 0, 1), (12, .getfield 11, 3), (15, .aload_n 0, 1), (16, .getfield 19, 3), (19, .iaload, 1), (20, .bipush 32, 2), (22, .if_icmp .ne 16, 3), (25, .aload_n 0, 1), (26, .dup, 1), (27, .getfield 19, 3), (30, .iconst 1, 1), (31, .iadd, 1), (32, .putfield 19, 3), (35, .goto (-35), 3), (38, .aload_n 0, 1), (39, .getfield 19, 3), (42, .aload_n 0, 1), (43, .getfield 15, 3), (46, .if_icmp .ge 15, 3), (49, .aload_n 0, 1), (50, .getfield 11, 3), (53, .aload_n 0, 1), (54, .getfield 19, 3), (57, .iaload, 1), (58, .goto 4, 3), (61, .iconst (-1), 1), (62, .ireturn, 1)]
def zi_109 : zIns := [(0, .aload_n 0, 1), (1, .getfield 19, 3), (4, .aload_n 0, 1), (5, .getfield 15, 3), (8, .if_icmp .ge 13, 3), (11, .aload_n 0, 1), (12, .dup, 1), (13, .getfield 19, 3), (16, .iconst 1, 1), (17, .iadd, 1), (18, .putfield 19, 3), (21, .return_, 1)]
def zi_110 : zIns := [(0, .aload_n 0, 1), (1, .invokevirtual 22, 3), (4, .istore_n 1, 1), (5, .iload_n 1, 1), (6, .bipush 97, 2), (8, .bipush 99, 2), (10, .invokestatic 26, 3), (13, .ifCond .eq 10, 3), (16, .iload_n 1, 1), (17, .bipush 97, 2), (19, .isub, 1), (20, .goto 4, 3), (23, .iconst (-1), 1), (24, .ireturn, 1)]
def zi_111 : zIns := [(0, .aload_n 0, 1), (1, .invokevirtual 22, 3), (4, .lookupswitch 52 #[(60, 44), (61, 46), (62, 48), (126, 50)], 44), (48, .iconst 0, 1), (49, .ireturn, 1), (50, .iconst 1, 1), (51, .ireturn, 1), (52, .iconst 2, 1), (53, .ireturn, 1), (54, .iconst 3, 1), (55, .ireturn, 1), (56, .iconst (-1), 1), (57, .ireturn, 1)]
def zi_112 : zIns := [(0, .aload_n 0, 1), (1, .invokevirtual 22, 3), (4, .istore_n 3, 1), (5, .iload_n 3, 1), (6, .bipush 48, 2), (8, .iload_n 1, 1), (9, .iadd, 1), (10, .bipush 48, 2), (12, .iload_n 2, 1), (13, .iadd, 1), (14, .invokestatic 26, 3), (17, .ifCond .eq 10, 3), (20, .iload_n 3, 1), (21, .bipush 48, 2), (23, .isub, 1), (24, .goto 4, 3), (27, .iconst (-1), 1), (28, .ireturn, 1)]
def zi_113_0 : zIns := [(0, .aload_n 0, 1), (1, .invokespecial 1, 3), (4, .aload_n 0, 1), (5, .new 7, 3), (8, .dup, 1), (9, .invokespecial 9, 3), (12, .putfield 10, 3), (15, .aload_n 0, 1), (16, .new 7, 3), (19, .dup, 1), (20, .invokespecial 9, 3), (23, .putfield 16, 3), (26, .aload_n 0, 1), (27, .new 19, 3), (30, .dup, 1), (31, .invokespecial 21, 3), (34, .putfield 22, 3), (37, .aload_n 0, 1), (38, .new 19, 3), (41, .dup, 1), (42, .invokespecial 21, 3), (45, .putfield 26, 3), (48, .aload_n 0, 1), (49, .new 29, 3), (52, .dup, 1), (53, .invokespecial 31, 3), (56, .putfield 32, 3), (59, .aload_n 0, 1), (60, .new 36, 3), (63, .dup, 1), (64, .invokespecial 38, 3), (67, .putfield 39, 3), (70, .aload_n 0, 1), (71, .new 43, 3), (74, .dup, 1), (75, .invokespecial 45, 3), (78, .putfield 46, 3), (81, .aload_n 0, 1), (82, .new 50, 3), (85, .dup, 1), (86, .invokespecial 52, 3), (89, .putfield 53, 3), (92, .aload_n 0, 1), (93, .new 57, 3), (96, .dup, 1), (97, .invokespecial 59, 3), (100, .putfield 60, 3), (103, .aload_n 0, 1), (104, .iconst 5, 1), (105, .newarray .int, 2)]
def zi_113_1 : zIns := [(107, .putfield 64, 3), (110, .aload_n 0, 1), (111, .sipush 1000, 3), (114, .newarray .boolean, 2), (116, .putfield 68, 3), (119, .aload_n 0, 1), (120, .iconst 0, 1), (121, .putfield 72, 3), (124, .return_, 1)]
def zi_113 : zIns := zi_113_0 ++ (zi_113_1)
def zi_114 : zIns := [(0, .iload_n 1, 1), (1, .invokestatic 76, 3), (4, .ifCond .eq 22, 3), (7, .iload_n 2, 1), (8, .iconst 0, 1), (9, .iconst 4, 1), (10, .invokestatic 80, 3), (13, .ifCond .eq 13, 3), (16, .iload_n 3, 1), (17, .iconst 0, 1), (18, .bipush 40, 2), (20, .invokestatic 80, 3), (23, .ifCond .ne 10, 3), (26, .aload_n 0, 1), (27, .bipush (-102), 2), (29, .invokevirtual 84, 3), (32, .ireturn, 1), (33, .aload_n 0, 1), (34, .getfield 32, 3), (37, .iload_n 1, 1), (38, .iload_n 2, 1), (39, .iload_n 3, 1), (40, .invokevirtual 88, 3), (43, .iconst 1, 1), (44, .ireturn, 1)]
def zi_115 : zIns := [(0, .iload_n 1, 1), (1, .invokestatic 76, 3), (4, .ifCond .ne 10, 3), (7, .aload_n 0, 1), (8, .bipush (-102), 2), (10, .invokevirtual 84, 3), (13, .ireturn, 1), (14, .aload_n 0, 1), (15, .getfield 32, 3), (18, .iload_n 1, 1), (19, .invokevirtual 92, 3), (22, .istore 5, 2), (24, .iload 5, 2), (26, .ifCond .eq 10, 3), (29, .aload_n 0, 1), (30, .iload 5, 2), (32, .invokevirtual 84, 3), (35, .ireturn, 1), (36, .aload_n 0, 1), (37, .getfield 32, 3), (40, .iload_n 1, 1), (41, .iload_n 2, 1), (42, .invokevirtual 95, 3), (45, .ifCond .ne 10, 3), (48, .aload_n 0, 1), (49, .bipush (-102), 2), (51, .invokevirtual 84, 3), (54, .ireturn, 1), (55, .aload_n 0, 1), (56, .getfield 32, 3), (59, .iload_n 1, 1), (60, .iload_n 2, 1), (61, .lload_n 3, 1), (62, .invokevirtual 99, 3), (65, .iconst 1, 1), (66, .ireturn, 1)]
def zi_116 : zIns := []
def zi_117 : zIns := []
def zi_118 : zIns := []
def zi_119 : zIns := []
def zi_120 : zIns := []
def zi_121 : zIns := [(0, .iload_n 1, 1), (1, .invokestatic 147, 3), (4, .ifCond .eq 17, 3), (7, .iload_n 2, 1), (8, .invokestatic 147, 3), (11, .ifCond .eq 10, 3), (14, .iload_n 3, 1), (15, .invokestatic 147, 3), (18, .ifCond .ne 10, 3), (21, .aload_n 0, 1), (22, .bipush (-102), 2), (24, .invokevirtual 84, 3), (27, .ireturn, 1), (28, .aload_n 0, 1), (29, .getfield 10, 3), (32, .getfield 150, 3), (35, .bipush 60, 2), (37, .if_icmp .lt 10, 3), (40, .aload_n 0, 1), (41, .bipush (-106), 2), (43, .invokevirtual 84, 3), (46, .ireturn, 1), (47, .aload_n 0, 1), (48, .getfield 10, 3), (51, .iload_n 1, 1), (52, .iload_n 2, 1), (53, .iload_n 3, 1), (54, .invokevirtual 154, 3), (57, .aload_n 0, 1), (58, .getfield 10, 3), (61, .getfield 150, 3), (64, .iconst 1, 1), (65, .isub, 1), (66, .ireturn, 1)]
def zi_122 : zIns := [(0, .aload_n 0, 1), (1, .getfield 10, 3), (4, .iload_n 1, 1), (5, .invokevirtual 157, 3), (8, .ifCond .eq 17, 3), (11, .iload_n 2, 1), (12, .invokestatic 158, 3), (15, .ifCond .eq 10, 3), (18, .iload_n 3, 1), (19, .invokestatic 147, 3), (22, .ifCond .ne 10, 3), (25, .aload_n 0, 1), (26, .bipush (-102), 2), (28, .invokevirtual 84, 3), (31, .ireturn, 1), (32, .aload_n 0, 1), (33, .getfield 10, 3), (36, .iload_n 1, 1), (37, .iload_n 2, 1), (38, .invokevirtual 161, 3), (41, .istore 4, 2), (43, .aload_n 0, 1), (44, .getfield 10, 3), (47, .iload_n 1, 1), (48, .iload_n 2, 1), (49, .iload_n 3, 1), (50, .invokevirtual 164, 3), (53, .iload 4, 2), (55, .ireturn, 1)]
def zi_123 : zIns := [(0, .aload_n 0, 1), (1, .getfield 10, 3), (4, .iload_n 1, 1), (5, .invokevirtual 157, 3), (8, .ifCond .ne 10, 3), (11, .aload_n 0, 1), (12, .bipush (-102), 2), (14, .invokevirtual 84, 3), (17, .ireturn, 1), (18, .aload_n 0, 1), (19, .getfield 10, 3), (22, .iload_n 1, 1), (23, .invokevirtual 166, 3), (26, .aload_n 0, 1), (27, .getfield 10, 3), (30, .getfield 150, 3), (33, .ireturn, 1)]
def zi_124 : zIns := [(0, .iload_n 1, 1), (1, .iconst 0, 1), (2, .bipush 20, 2), (4, .invokestatic 80, 3), (7, .ifCond .ne 10, 3), (10, .aload_n 0, 1), (11, .bipush (-102), 2), (13, .invokevirtual 84, 3), (16, .ireturn, 1), (17, .aload_n 0, 1), (18, .getfield 10, 3), (21, .getfield 169, 3), (24, .istore_n 2, 1), (25, .aload_n 0, 1), (26, .getfield 10, 3), (29, .iload_n 1, 1), (30, .putfield 169, 3), (33, .iload_n 2, 1), (34, .ireturn, 1)]
def zi_125 : zIns := [(0, .iload_n 1, 1), (1, .iconst 0, 1), (2, .sipush 255, 3), (5, .invokestatic 80, 3), (8, .ifCond .ne 10, 3), (11, .aload_n 0, 1), (12, .bipush (-102), 2), (14, .invokevirtual 84, 3), (17, .ireturn, 1), (18, .aload_n 0, 1), (19, .getfield 39, 3), (22, .getfield 172, 3), (25, .sipush 250, 3), (28, .if_icmp .lt 10, 3), (31, .aload_n 0, 1), (32, .bipush (-106), 2), (34, .invokevirtual 84, 3), (37, .ireturn, 1), (38, .aload_n 0, 1), (39, .getfield 39, 3), (42, .iload_n 1, 1), (43, .invokevirtual 175, 3), (46, .aload_n 0, 1), (47, .getfield 39, 3), (50, .getfield 172, 3), (53, .ireturn, 1)]
def zi_126 : zIns := []
def zi_127 : zIns := []
def zi_128 : zIns := [(0, .aload_n 0, 1), (1, .getfield 46, 3), (4, .aload_n 0, 1), (5, .getfield 39, 3), (8, .aload_n 0, 1), (9, .getfield 22, 3), (12, .invokevirtual 195, 3), (15, .istore_n 1, 1), (16, .aload_n 0, 1), (17, .getfield 39, 3), (20, .getfield 185, 3), (23, .istore_n 2, 1), (24, .aload_n 0, 1), (25, .getfield 39, 3), (28, .invokevirtual 178, 3), (31, .iload_n 1, 1), (32, .ifCond .ne 23, 3), (35, .aload_n 0, 1), (36, .getfield 22, 3), (39, .invokevirtual 199, 3), (42, .aload_n 0, 1), (43, .bipush (-102), 2), (45, .invokevirtual 84, 3), (48, .pop, 1), (49, .sipush (-200), 3), (52, .iload_n 2, 1), (53, .isub, 1), (54, .ireturn, 1), (55, .aload_n 0, 1), (56, .invokevirtual 202, 3), (59, .ireturn, 1)]
def zi_129 : zIns := [(0, .iload_n 1, 1), (1, .invokestatic 158, 3), (4, .ifCond .eq 17, 3), (7, .iload_n 2, 1), (8, .invokestatic 205, 3), (11, .ifCond .eq 10, 3), (14, .iload_n 3, 1), (15, .invokestatic 208, 3), (18, .ifCond .ne 10, 3), (21, .aload_n 0, 1), (22, .bipush (-102), 2), (24, .invokevirtual 84, 3), (27, .ireturn, 1), (28, .aload_n 0, 1), (29, .getfield 22, 3), (32, .iconst 0, 1), (33, .iload_n 2, 1), (34, .invokevirtual 211, 3), (37, .iload_n 1, 1), (38, .iload_n 3, 1), (39, .invokevirtual 215, 3), (42, .aload_n 0, 1), (43, .invokevirtual 202, 3), (46, .ireturn, 1)]
def zi_130 : zIns := [(0, .iload_n 1, 1), (1, .invokestatic 158, 3), (4, .ifCond .eq 15, 3), (7, .iload_n 2, 1), (8, .ifCond .eq 11, 3), (11, .iload_n 2, 1), (12, .sipush (-1023), 3), (15, .iand, 1), (16, .ifCond .eq 10, 3), (19, .aload_n 0, 1), (20, .bipush (-102), 2), (22, .invokevirtual 84, 3), (25, .ireturn, 1), (26, .aload_n 0, 1), (27, .getfield 22, 3), (30, .iconst 1, 1), (31, .iconst (-1), 1), (32, .invokevirtual 211, 3), (35, .iload_n 1, 1), (36, .iload_n 2, 1), (37, .invokevirtual 215, 3), (40, .aload_n 0, 1), (41, .invokevirtual 202, 3), (44, .ireturn, 1)]
def zi_131 : zIns := [(0, .iload_n 1, 1), (1, .invokestatic 158, 3), (4, .ifCond .ne 10, 3), (7, .aload_n 0, 1), (8, .bipush (-102), 2), (10, .invokevirtual 84, 3), (13, .ireturn, 1), (14, .aload_n 0, 1), (15, .getfield 22, 3), (18, .iconst 2, 1), (19, .iconst (-1), 1), (20, .invokevirtual 211, 3), (23, .iload_n 1, 1), (24, .iconst 0, 1), (25, .invokevirtual 215, 3), (28, .aload_n 0, 1), (29, .invokevirtual 202, 3), (32, .ireturn, 1)]
def zi_132 : zIns := [(0, .iload_n 1, 1), (1, .invokestatic 158, 3), (4, .ifCond .eq 22, 3), (7, .iload_n 2, 1), (8, .invokestatic 205, 3), (11, .ifCond .eq 15, 3), (14, .iload_n 3, 1), (15, .invokestatic 158, 3), (18, .ifCond .eq 8, 3), (21, .iload_n 1, 1), (22, .iload_n 3, 1), (23, .if_icmp .ne 10, 3), (26, .aload_n 0, 1), (27, .bipush (-102), 2), (29, .invokevirtual 84, 3), (32, .ireturn, 1), (33, .aload_n 0, 1), (34, .getfield 22, 3), (37, .iconst 3, 1), (38, .iload_n 2, 1), (39, .invokevirtual 211, 3), (42, .astore 4, 2), (44, .aload 4, 2), (46, .iload_n 1, 1), (47, .iconst 0, 1), (48, .invokevirtual 215, 3), (51, .aload 4, 2), (53, .iload_n 3, 1), (54, .iconst 0, 1), (55, .invokevirtual 215, 3), (58, .aload_n 0, 1), (59, .invokevirtual 202, 3), (62, .ireturn, 1)]
def zi_133 : zIns := [(0, .iload_n 1, 1), (1, .invokestatic 158, 3), (4, .ifCond .eq 24, 3), (7, .iload_n 2, 1), (8, .iconst 2, 1), (9, .bipush 9, 2), (11, .invokestatic 80, 3), (14, .ifCond .eq 14, 3), (17, .iload_n 3, 1), (18, .iconst 0, 1), (19, .iload_n 2, 1), (20, .iconst 1, 1), (21, .isub, 1), (22, .invokestatic 80, 3), (25, .ifCond .ne 10, 3), (28, .aload_n 0, 1), (29, .bipush (-102), 2), (31, .invokevirtual 84, 3), (34, .ireturn, 1), (35, .aload_n 0, 1), (36, .getfield 22, 3), (39, .iconst 4, 1), (40, .iconst (-1), 1), (41, .invokevirtual 211, 3), (44, .astore 4, 2), (46, .aload 4, 2), (48, .iload_n 1, 1), (49, .iload_n 2, 1), (50, .invokevirtual 215, 3), (53, .aload 4, 2), (55, .iload_n 3, 1), (56, .putfield 218, 3), (59, .aload_n 0, 1), (60, .invokevirtual 202, 3), (63, .ireturn, 1)]
def zi_134 : zIns := []
def zi_135 : zIns := [(0, .iload_n 1, 1), (1, .bipush 6, 2), (3, .if_icmp .eq 9, 3), (6, .iload_n 1, 1), (7, .bipush 7, 2), (9, .if_icmp .ne 25, 3), (12, .aload_n 0, 1), (13, .getfield 22, 3), (16, .iload_n 2, 1), (17, .invokevirtual 121, 3), (20, .ifCond .eq 14, 3), (23, .aload_n 0, 1), (24, .getfield 22, 3), (27, .iload_n 3, 1), (28, .invokevirtual 121, 3), (31, .ifCond .ne 10, 3), (34, .aload_n 0, 1), (35, .bipush (-102), 2), (37, .invokevirtual 84, 3), (40, .ireturn, 1), (41, .aload_n 0, 1), (42, .getfield 22, 3), (45, .iload_n 1, 1), (46, .iload_n 2, 1), (47, .iload_n 3, 1), (48, .invokevirtual 227, 3), (51, .aload_n 0, 1), (52, .invokevirtual 202, 3), (55, .ireturn, 1)]
def zi_136 : zIns := [(0, .iload_n 1, 1), (1, .bipush 8, 2), (3, .if_icmp .eq 9, 3), (6, .iload_n 1, 1), (7, .bipush 9, 2), (9, .if_icmp .ne 14, 3), (12, .aload_n 0, 1), (13, .getfield 22, 3), (16, .iload_n 2, 1), (17, .invokevirtual 121, 3), (20, .ifCond .ne 10, 3), (23, .aload_n 0, 1), (24, .bipush (-102), 2), (26, .invokevirtual 84, 3), (29, .ireturn, 1), (30, .aload_n 0, 1), (31, .getfield 22, 3), (34, .iload_n 1, 1), (35, .iload_n 2, 1), (36, .iconst (-1), 1), (37, .invokevirtual 227, 3), (40, .aload_n 0, 1), (41, .invokevirtual 202, 3), (44, .ireturn, 1)]
def zi_137 : zIns := [(0, .aload_n 0, 1), (1, .getfield 22, 3), (4, .getfield 230, 3), (7, .ifCond .ne 10, 3), (10, .aload_n 0, 1), (11, .bipush (-105), 2), (13, .invokevirtual 84, 3), (16, .ireturn, 1), (17, .aload_n 0, 1), (18, .getfield 22, 3), (21, .dup, 1), (22, .getfield 230, 3), (25, .iconst 1, 1), (26, .isub, 1), (27, .putfield 230, 3), (30, .aload_n 0, 1), (31, .getfield 32, 3), (34, .aload_n 0, 1), (35, .getfield 22, 3), (38, .getfield 230, 3), (41, .invokevirtual 231, 3), (44, .aload_n 0, 1), (45, .getfield 22, 3), (48, .getfield 230, 3), (51, .ireturn, 1)]
def zi_138 : zIns := [(0, .aload_n 0, 1), (1, .getfield 22, 3), (4, .iload_n 1, 1), (5, .invokevirtual 121, 3), (8, .ifCond .ne 10, 3), (11, .aload_n 0, 1), (12, .bipush (-102), 2), (14, .invokevirtual 84, 3), (17, .ireturn, 1), (18, .aload_n 0, 1), (19, .getfield 22, 3), (22, .iload_n 1, 1), (23, .invokevirtual 135, 3), (26, .astore_n 3, 1), (27, .iload_n 2, 1), (28, .tableswitch 79 0 6 #[44, 49, 54, 59, 64, 69, 74], 44), (72, .aload_n 3, 1), (73, .getfield 234, 3), (76, .ireturn, 1), (77, .aload_n 3, 1), (78, .getfield 237, 3), (81, .ireturn, 1), (82, .aload_n 3, 1), (83, .getfield 240, 3), (86, .ireturn, 1), (87, .aload_n 3, 1), (88, .getfield 243, 3), (91, .ireturn, 1), (92, .aload_n 3, 1), (93, .getfield 246, 3), (96, .ireturn, 1), (97, .aload_n 3, 1), (98, .getfield 249, 3), (101, .ireturn, 1), (102, .aload_n 3, 1), (103, .getfield 252, 3), (106, .ireturn, 1), (107, .aload_n 0, 1), (108, .bipush (-102), 2), (110, .invokevirtual 84, 3), (113, .ireturn, 1)]
def zi_139 : zIns := [(0, .aload_n 0, 1), (1, .getfield 10, 3), (4, .iload_n 1, 1), (5, .invokevirtual 157, 3), (8, .ifCond .eq 10, 3), (11, .iload_n 2, 1), (12, .invokestatic 158, 3), (15, .ifCond .ne 10, 3), (18, .aload_n 0, 1), (19, .bipush (-102), 2), (21, .invokevirtual 84, 3), (24, .ireturn, 1), (25, .aload_n 0, 1), (26, .getfield 10, 3), (29, .iload_n 1, 1), (30, .iload_n 2, 1), (31, .invokevirtual 161, 3), (34, .ireturn, 1)]
def zi_140 : zIns := []
def zi_141 : zIns := [(0, .aload_n 0, 1), (1, .iload_n 1, 1), (2, .iload_n 2, 1), (3, .invokevirtual 261, 3), (6, .ifCond .eq 14, 3), (9, .iload_n 3, 1), (10, .iconst 0, 1), (11, .sipush 999, 3), (14, .invokestatic 80, 3), (17, .ifCond .ne 10, 3), (20, .aload_n 0, 1), (21, .bipush (-102), 2), (23, .invokevirtual 84, 3), (26, .ireturn, 1), (27, .aload_n 0, 1), (28, .getfield 22, 3), (31, .iload_n 1, 1), (32, .invokevirtual 135, 3), (35, .iload_n 2, 1), (36, .iload_n 3, 1), (37, .invokestatic 264, 3), (40, .invokevirtual 267, 3), (43, .ireturn, 1)]
def zi_142 : zIns := [(0, .aload_n 0, 1), (1, .getfield 22, 3), (4, .iload_n 1, 1), (5, .invokevirtual 121, 3), (8, .ifCond .eq 10, 3), (11, .iload_n 2, 1), (12, .invokestatic 270, 3), (15, .ifCond .ne 10, 3), (18, .aload_n 0, 1), (19, .bipush (-102), 2), (21, .invokevirtual 84, 3), (24, .ireturn, 1), (25, .aload_n 0, 1), (26, .getfield 22, 3), (29, .iload_n 1, 1), (30, .invokevirtual 135, 3), (33, .iload_n 2, 1), (34, .invokevirtual 273, 3), (37, .ireturn, 1)]
def zi_143 : zIns := [(0, .aload_n 0, 1), (1, .getfield 22, 3), (4, .iload_n 1, 1), (5, .invokevirtual 121, 3), (8, .ifCond .eq 10, 3), (11, .iload_n 2, 1), (12, .invokestatic 270, 3), (15, .ifCond .ne 10, 3), (18, .aload_n 0, 1), (19, .bipush (-102), 2), (21, .invokevirtual 84, 3), (24, .ireturn, 1), (25, .aload_n 0, 1), (26, .getfield 10, 3), (29, .aload_n 0, 1), (30, .getfield 22, 3), (33, .iload_n 1, 1), (34, .invokevirtual 135, 3), (37, .iload_n 2, 1), (38, .invokevirtual 276, 3), (41, .ireturn, 1)]
def zi_144 : zIns := []
def zi_145 : zIns := [(0, .aload_n 0, 1), (1, .iload_n 1, 1), (2, .iload_n 2, 1), (3, .invokevirtual 261, 3), (6, .ifCond .ne 10, 3), (9, .aload_n 0, 1), (10, .bipush (-102), 2), (12, .invokevirtual 84, 3), (15, .ireturn, 1), (16, .aload_n 0, 1), (17, .getfield 53, 3), (20, .aload_n 0, 1), (21, .getfield 22, 3), (24, .iload_n 1, 1), (25, .invokevirtual 135, 3), (28, .iload_n 2, 1), (29, .invokevirtual 283, 3), (32, .aload_n 0, 1), (33, .getfield 53, 3), (36, .getfield 287, 3), (39, .ireturn, 1)]
def zi_146 : zIns := [(0, .aload_n 0, 1), (1, .iload_n 1, 1), (2, .iload_n 2, 1), (3, .invokevirtual 261, 3), (6, .ifCond .ne 10, 3), (9, .aload_n 0, 1), (10, .bipush (-102), 2), (12, .invokevirtual 84, 3), (15, .ireturn, 1), (16, .aload_n 0, 1), (17, .getfield 53, 3), (20, .aload_n 0, 1), (21, .getfield 22, 3), (24, .iload_n 1, 1), (25, .invokevirtual 135, 3), (28, .iload_n 2, 1), (29, .invokevirtual 283, 3), (32, .iload_n 3, 1), (33, .iconst 0, 1), (34, .aload_n 0, 1), (35, .getfield 53, 3), (38, .getfield 287, 3), (41, .iconst 1, 1), (42, .isub, 1), (43, .invokestatic 80, 3), (46, .ifCond .ne 10, 3), (49, .aload_n 0, 1), (50, .bipush (-102), 2), (52, .invokevirtual 84, 3), (55, .ireturn, 1), (56, .aload_n 0, 1), (57, .getfield 53, 3), (60, .iload_n 3, 1), (61, .invokevirtual 288, 3), (64, .ireturn, 1)]
def zi_147_0 : zIns := [(0, .aload_n 0, 1), (1, .iload_n 1, 1), (2, .iload_n 2, 1), (3, .invokevirtual 261, 3), (6, .ifCond .eq 13, 3), (9, .iload_n 3, 1), (10, .iconst 1, 1), (11, .bipush 40, 2), (13, .invokestatic 80, 3), (16, .ifCond .ne 10, 3), (19, .aload_n 0, 1), (20, .bipush (-102), 2), (22, .invokevirtual 84, 3), (25, .ireturn, 1), (26, .aload_n 0, 1), (27, .getfield 53, 3), (30, .aload_n 0, 1), (31, .getfield 22, 3), (34, .iload_n 1, 1), (35, .invokevirtual 135, 3), (38, .iload_n 2, 1), (39, .invokevirtual 283, 3), (42, .aload_n 0, 1), (43, .getfield 53, 3), (46, .iload_n 3, 1), (47, .invokevirtual 291, 3), (50, .istore 5, 2), (52, .iload 4, 2), (54, .iconst (-1), 1), (55, .if_icmp .ne 6, 3), (58, .iload 5, 2), (60, .ireturn, 1), (61, .iload 4, 2), (63, .iconst 0, 1), (64, .iload 5, 2), (66, .iconst 1, 1), (67, .isub, 1), (68, .invokestatic 80, 3), (71, .ifCond .ne 10, 3), (74, .aload_n 0, 1), (75, .bipush (-102), 2), (77, .invokevirtual 84, 3), (80, .ireturn, 1), (81, .aload_n 0, 1), (82, .getfield 53, 3), (85, .iload_n 3, 1), (86, .invokevirtual 294, 3), (89, .aload_n 0, 1), (90, .getfield 53, 3), (93, .iload 4, 2)]
def zi_147_1 : zIns := [(95, .invokevirtual 297, 3), (98, .ireturn, 1)]
def zi_147 : zIns := zi_147_0 ++ (zi_147_1)
def zi_148_0 : zIns := [(0, .aload_n 0, 1), (1, .iload_n 1, 1), (2, .iload_n 2, 1), (3, .invokevirtual 261, 3), (6, .ifCond .eq 23, 3), (9, .iload_n 3, 1), (10, .iconst 1, 1), (11, .bipush 40, 2), (13, .invokestatic 80, 3), (16, .ifCond .eq 13, 3), (19, .iload 4, 2), (21, .iconst 0, 1), (22, .iconst 4, 1), (23, .invokestatic 80, 3), (26, .ifCond .ne 10, 3), (29, .aload_n 0, 1), (30, .bipush (-102), 2), (32, .invokevirtual 84, 3), (35, .ireturn, 1), (36, .aload_n 0, 1), (37, .getfield 22, 3), (40, .iload_n 1, 1), (41, .invokevirtual 135, 3), (44, .astore 5, 2), (46, .aload_n 0, 1), (47, .getfield 53, 3), (50, .aload 5, 2), (52, .iload_n 2, 1), (53, .invokevirtual 283, 3), (56, .aload_n 0, 1), (57, .getfield 53, 3), (60, .iload_n 3, 1), (61, .invokevirtual 294, 3), (64, .iload 4, 2), (66, .tableswitch 105 0 3 #[30, 38, 51, 75], 30), (96, .aload_n 0, 1), (97, .getfield 53, 3), (100, .invokevirtual 300, 3), (103, .ireturn, 1), (104, .aload_n 0, 1), (105, .getfield 53, 3), (108, .aload_n 0, 1), (109, .getfield 10, 3), (112, .iload_n 2, 1), (113, .invokevirtual 303, 3), (116, .ireturn, 1), (117, .aload_n 0, 1), (118, .getfield 53, 3), (121, .aload_n 0, 1), (122, .getfield 10, 3)]
def zi_148_1 : zIns := [(125, .iload_n 2, 1), (126, .invokevirtual 303, 3), (129, .aload_n 0, 1), (130, .getfield 10, 3), (133, .aload 5, 2), (135, .iconst 1, 1), (136, .invokevirtual 276, 3), (139, .isub, 1), (140, .ireturn, 1), (141, .aload_n 0, 1), (142, .getfield 10, 3), (145, .getfield 169, 3), (148, .aload_n 0, 1), (149, .getfield 53, 3), (152, .iload_n 3, 1), (153, .invokevirtual 291, 3), (156, .imul, 1), (157, .aload_n 0, 1), (158, .getfield 53, 3), (161, .aload_n 0, 1), (162, .getfield 10, 3), (165, .iload_n 2, 1), (166, .invokevirtual 303, 3), (169, .iadd, 1), (170, .ireturn, 1), (171, .aload_n 0, 1), (172, .aload 5, 2), (174, .getfield 252, 3), (177, .iload_n 2, 1), (178, .invokevirtual 307, 3), (181, .ireturn, 1)]
def zi_148 : zIns := zi_148_0 ++ (zi_148_1)
def zi_149 : zIns := [(0, .aload_n 0, 1), (1, .iload_n 1, 1), (2, .iload_n 2, 1), (3, .invokevirtual 261, 3), (6, .ifCond .eq 12, 3), (9, .iload_n 3, 1), (10, .iconst 0, 1), (11, .iconst 1, 1), (12, .invokestatic 80, 3), (15, .ifCond .ne 10, 3), (18, .aload_n 0, 1), (19, .bipush (-102), 2), (21, .invokevirtual 84, 3), (24, .ireturn, 1), (25, .aload_n 0, 1), (26, .getfield 53, 3), (29, .aload_n 0, 1), (30, .getfield 22, 3), (33, .iload_n 1, 1), (34, .invokevirtual 135, 3), (37, .iload_n 2, 1), (38, .invokevirtual 283, 3), (41, .aload_n 0, 1), (42, .getfield 53, 3), (45, .aload_n 0, 1), (46, .getfield 10, 3), (49, .iload_n 2, 1), (50, .invokevirtual 310, 3), (53, .iload_n 3, 1), (54, .ifCond .ne 13, 3), (57, .aload_n 0, 1), (58, .getfield 53, 3), (61, .getfield 314, 3), (64, .goto 10, 3), (67, .aload_n 0, 1), (68, .getfield 53, 3), (71, .getfield 317, 3), (74, .ireturn, 1)]
def zi_150 : zIns := []
def zi_151 : zIns := [(0, .aload_n 0, 1), (1, .iload_n 1, 1), (2, .iload_n 2, 1), (3, .invokevirtual 261, 3), (6, .ifCond .eq 13, 3), (9, .iload 4, 2), (11, .iconst 0, 1), (12, .iconst 1, 1), (13, .invokestatic 80, 3), (16, .ifCond .ne 10, 3), (19, .aload_n 0, 1), (20, .bipush (-102), 2), (22, .invokevirtual 84, 3), (25, .ireturn, 1), (26, .aload_n 0, 1), (27, .getfield 22, 3), (30, .iload_n 1, 1), (31, .invokevirtual 135, 3), (34, .astore 5, 2), (36, .iload 4, 2), (38, .ifCond .ne 13, 3), (41, .aload 5, 2), (43, .iload_n 2, 1), (44, .iload_n 3, 1), (45, .invokestatic 320, 3), (48, .goto 10, 3), (51, .aload 5, 2), (53, .iload_n 2, 1), (54, .iload_n 3, 1), (55, .invokestatic 324, 3), (58, .ireturn, 1)]
def zi_152 : zIns := []
def zi_153 : zIns := [(0, .aload_n 0, 1), (1, .iload_n 1, 1), (2, .iload_n 2, 1), (3, .invokevirtual 261, 3), (6, .ifCond .ne 10, 3), (9, .aload_n 0, 1), (10, .bipush (-102), 2), (12, .invokevirtual 84, 3), (15, .ireturn, 1), (16, .aload_n 0, 1), (17, .getfield 60, 3), (20, .aload_n 0, 1), (21, .getfield 10, 3), (24, .aload_n 0, 1), (25, .getfield 22, 3), (28, .iload_n 1, 1), (29, .invokevirtual 135, 3), (32, .iload_n 2, 1), (33, .iconst 0, 1), (34, .invokevirtual 336, 3), (37, .iload_n 3, 1), (38, .iconst (-1), 1), (39, .if_icmp .ne 11, 3), (42, .aload_n 0, 1), (43, .getfield 60, 3), (46, .getfield 340, 3), (49, .ireturn, 1), (50, .iload_n 3, 1), (51, .iconst 0, 1), (52, .aload_n 0, 1), (53, .getfield 60, 3), (56, .getfield 340, 3), (59, .iconst 1, 1), (60, .isub, 1), (61, .invokestatic 80, 3), (64, .ifCond .eq 14, 3), (67, .aload_n 0, 1), (68, .getfield 60, 3), (71, .iload_n 3, 1), (72, .invokevirtual 341, 3), (75, .goto 9, 3), (78, .aload_n 0, 1), (79, .bipush (-102), 2), (81, .invokevirtual 84, 3), (84, .ireturn, 1)]
def zi_154 : zIns := []
def zi_155 : zIns := [(0, .aload_n 0, 1), (1, .iload_n 1, 1), (2, .iload_n 2, 1), (3, .invokevirtual 261, 3), (6, .ifCond .eq 14, 3), (9, .aload_n 0, 1), (10, .getfield 10, 3), (13, .iload_n 3, 1), (14, .invokevirtual 157, 3), (17, .ifCond .ne 10, 3), (20, .aload_n 0, 1), (21, .bipush (-102), 2), (23, .invokevirtual 84, 3), (26, .ireturn, 1), (27, .aload_n 0, 1), (28, .getfield 60, 3), (31, .aload_n 0, 1), (32, .getfield 10, 3), (35, .aload_n 0, 1), (36, .getfield 22, 3), (39, .iload_n 1, 1), (40, .invokevirtual 135, 3), (43, .iload_n 2, 1), (44, .iconst 0, 1), (45, .invokevirtual 336, 3), (48, .aload_n 0, 1), (49, .getfield 60, 3), (52, .aload_n 0, 1), (53, .getfield 10, 3), (56, .iload_n 3, 1), (57, .iload_n 2, 1), (58, .invokevirtual 258, 3), (61, .iconst 0, 1), (62, .iload_n 3, 1), (63, .invokestatic 344, 3), (66, .invokevirtual 348, 3), (69, .ireturn, 1)]
def zi_156 : zIns := [(0, .aload_n 0, 1), (1, .getfield 22, 3), (4, .iload_n 1, 1), (5, .invokevirtual 121, 3), (8, .ifCond .eq 14, 3), (11, .aload_n 0, 1), (12, .getfield 22, 3), (15, .iload_n 2, 1), (16, .invokevirtual 121, 3), (19, .ifCond .ne 10, 3), (22, .aload_n 0, 1), (23, .bipush (-102), 2), (25, .invokevirtual 84, 3), (28, .ireturn, 1), (29, .aload_n 0, 1), (30, .getfield 22, 3), (33, .iload_n 1, 1), (34, .invokevirtual 135, 3), (37, .astore_n 3, 1), (38, .aload_n 0, 1), (39, .getfield 22, 3), (42, .iload_n 2, 1), (43, .invokevirtual 135, 3), (46, .astore 4, 2), (48, .iconst 0, 1), (49, .istore 5, 2), (51, .iload 5, 2), (53, .sipush 1000, 3), (56, .if_icmp .ge 33, 3), (59, .aload_n 3, 1), (60, .iload 5, 2), (62, .invokevirtual 267, 3), (65, .iconst 1, 1), (66, .if_icmp .ne 17, 3), (69, .aload 4, 2), (71, .iload 5, 2), (73, .invokevirtual 267, 3), (76, .iconst 1, 1), (77, .if_icmp .eq 6, 3), (80, .iload 5, 2), (82, .ireturn, 1), (83, .iinc 5 1, 3), (86, .goto (-35), 3), (89, .iconst (-1), 1), (90, .ireturn, 1)]
def zi_157 : zIns := [(0, .aload_n 0, 1), (1, .getfield 22, 3), (4, .iload_n 1, 1), (5, .invokevirtual 121, 3), (8, .ifCond .eq 14, 3), (11, .aload_n 0, 1), (12, .getfield 22, 3), (15, .iload_n 2, 1), (16, .invokevirtual 121, 3), (19, .ifCond .ne 10, 3), (22, .aload_n 0, 1), (23, .bipush (-102), 2), (25, .invokevirtual 84, 3), (28, .ireturn, 1), (29, .aload_n 0, 1), (30, .getfield 22, 3), (33, .iload_n 1, 1), (34, .invokevirtual 135, 3), (37, .aload_n 0, 1), (38, .getfield 22, 3), (41, .iload_n 2, 1), (42, .invokevirtual 135, 3), (45, .invokevirtual 351, 3), (48, .ireturn, 1)]
def zi_158 : zIns := [(0, .aload_n 0, 1), (1, .getfield 22, 3), (4, .iload_n 1, 1), (5, .invokevirtual 121, 3), (8, .ifCond .ne 10, 3), (11, .aload_n 0, 1), (12, .bipush (-102), 2), (14, .invokevirtual 84, 3), (17, .ireturn, 1), (18, .iconst 0, 1), (19, .istore_n 2, 1), (20, .iload_n 2, 1), (21, .iload_n 1, 1), (22, .if_icmp .ge 34, 3), (25, .aload_n 0, 1), (26, .getfield 22, 3), (29, .iload_n 2, 1), (30, .invokevirtual 135, 3), (33, .aload_n 0, 1), (34, .getfield 22, 3), (37, .iload_n 1, 1), (38, .invokevirtual 135, 3), (41, .invokevirtual 351, 3), (44, .iconst (-1), 1), (45, .if_icmp .ne 5, 3), (48, .iload_n 2, 1), (49, .ireturn, 1), (50, .iinc 2 1, 3), (53, .goto (-33), 3), (56, .iload_n 1, 1), (57, .ireturn, 1)]
def zi_159 : zIns := []
def zi_160_0 : zIns := [(0, .aload_n 0, 1), (1, .iload_n 1, 1), (2, .iload_n 2, 1), (3, .invokevirtual 261, 3), (6, .ifCond .eq 21, 3), (9, .iload_n 3, 1), (10, .invokestatic 76, 3), (13, .ifCond .eq 14, 3), (16, .iload 4, 2), (18, .iconst 0, 1), (19, .bipush 40, 2), (21, .invokestatic 80, 3), (24, .ifCond .ne 10, 3), (27, .aload_n 0, 1), (28, .bipush (-102), 2), (30, .invokevirtual 84, 3), (33, .ireturn, 1), (34, .aload_n 0, 1), (35, .getfield 32, 3), (38, .iload_n 3, 1), (39, .iload 4, 2), (41, .invokevirtual 221, 3), (44, .istore 5, 2), (46, .iload 5, 2), (48, .ifCond .eq 10, 3), (51, .aload_n 0, 1), (52, .iload 5, 2), (54, .invokevirtual 84, 3), (57, .ireturn, 1), (58, .aload_n 0, 1), (59, .getfield 60, 3), (62, .aload_n 0, 1), (63, .getfield 10, 3), (66, .aload_n 0, 1), (67, .getfield 22, 3), (70, .iload_n 1, 1), (71, .invokevirtual 135, 3), (74, .iload_n 2, 1), (75, .iconst 0, 1), (76, .invokevirtual 336, 3), (79, .iconst 0, 1), (80, .istore 6, 2), (82, .iload 6, 2), (84, .iload 4, 2), (86, .if_icmp .ge 48, 3), (89, .iload 6, 2), (91, .aload_n 0, 1), (92, .getfield 60, 3), (95, .getfield 340, 3), (98, .if_icmp .ge 27, 3)]
def zi_160_1 : zIns := [(101, .aload_n 0, 1), (102, .getfield 60, 3), (105, .iload 6, 2), (107, .invokevirtual 341, 3), (110, .i2l, 1), (111, .aload_n 0, 1), (112, .getfield 32, 3), (115, .iload_n 3, 1), (116, .iload 6, 2), (118, .invokevirtual 114, 3), (121, .lcmp, 1), (122, .ifCond .eq 6, 3), (125, .iload 6, 2), (127, .ireturn, 1), (128, .iinc 6 1, 3), (131, .goto (-49), 3), (134, .aload_n 0, 1), (135, .getfield 60, 3), (138, .getfield 340, 3), (141, .iload 4, 2), (143, .if_icmp .le 8, 3), (146, .iload 4, 2), (148, .goto 4, 3), (151, .iconst (-1), 1), (152, .ireturn, 1)]
def zi_160 : zIns := zi_160_0 ++ (zi_160_1)
def zi_161 : zIns := []
def zi_162 : zIns := []
def zi_163 : zIns := [(0, .iload_n 1, 1), (1, .iconst 1, 1), (2, .bipush 60, 2), (4, .invokestatic 80, 3), (7, .ifCond .ne 10, 3), (10, .aload_n 0, 1), (11, .bipush (-102), 2), (13, .invokevirtual 84, 3), (16, .ireturn, 1), (17, .iconst 0, 1), (18, .istore_n 2, 1), (19, .iload_n 2, 1), (20, .iload_n 1, 1), (21, .if_icmp .ge 16, 3), (24, .aload_n 0, 1), (25, .getfield 10, 3), (28, .invokevirtual 365, 3), (31, .iinc 2 1, 3), (34, .goto (-15), 3), (37, .aload_n 0, 1), (38, .getfield 10, 3), (41, .getfield 150, 3), (44, .ireturn, 1)]
def zi_164 : zIns := []
def zi_165 : zIns := [(0, .aload_n 0, 1), (1, .getfield 16, 3), (4, .aload_n 0, 1), (5, .getfield 10, 3), (8, .invokevirtual 371, 3), (11, .aload_n 0, 1), (12, .getfield 26, 3), (15, .aload_n 0, 1), (16, .getfield 22, 3), (19, .invokevirtual 375, 3), (22, .aload_n 0, 1), (23, .iconst 1, 1), (24, .putfield 72, 3), (27, .iconst 1, 1), (28, .ireturn, 1)]
def zi_166 : zIns := [(0, .aload_n 0, 1), (1, .getfield 72, 3), (4, .ifCond .ne 10, 3), (7, .aload_n 0, 1), (8, .bipush (-105), 2), (10, .invokevirtual 84, 3), (13, .ireturn, 1), (14, .aload_n 0, 1), (15, .getfield 10, 3), (18, .aload_n 0, 1), (19, .getfield 16, 3), (22, .invokevirtual 371, 3), (25, .aload_n 0, 1), (26, .getfield 22, 3), (29, .aload_n 0, 1), (30, .getfield 26, 3), (33, .invokevirtual 375, 3), (36, .aload_n 0, 1), (37, .getfield 32, 3), (40, .aload_n 0, 1), (41, .getfield 22, 3), (44, .getfield 230, 3), (47, .invokevirtual 231, 3), (50, .iconst 1, 1), (51, .ireturn, 1)]
def zi_167_0 : zIns := [(0, .iload_n 1, 1), (1, .tableswitch 130 0 7 #[47, 55, 63, 71, 76, 106, 114, 122], 47), (48, .aload_n 0, 1), (49, .getfield 10, 3), (52, .getfield 150, 3), (55, .ireturn, 1), (56, .aload_n 0, 1), (57, .getfield 22, 3), (60, .getfield 230, 3), (63, .ireturn, 1), (64, .aload_n 0, 1), (65, .getfield 10, 3), (68, .getfield 169, 3), (71, .ireturn, 1), (72, .aload_n 0, 1), (73, .invokevirtual 378, 3), (76, .ireturn, 1), (77, .aload_n 0, 1), (78, .getfield 10, 3), (81, .iconst 0, 1), (82, .iconst 0, 1), (83, .invokevirtual 362, 3), (86, .aload_n 0, 1), (87, .getfield 10, 3), (90, .iconst 1, 1), (91, .iconst 0, 1), (92, .invokevirtual 362, 3), (95, .iadd, 1), (96, .aload_n 0, 1), (97, .getfield 10, 3), (100, .iconst 2, 1), (101, .iconst 0, 1), (102, .invokevirtual 362, 3), (105, .iadd, 1), (106, .ireturn, 1), (107, .aload_n 0, 1), (108, .getfield 39, 3), (111, .getfield 172, 3), (114, .ireturn, 1), (115, .aload_n 0, 1), (116, .getfield 10, 3), (119, .getfield 368, 3), (122, .ireturn, 1), (123, .aload_n 0, 1), (124, .getfield 32, 3), (127, .invokevirtual 381, 3), (130, .ireturn, 1), (131, .iload_n 1, 1), (132, .bipush 12, 2), (134, .bipush 16, 2)]
def zi_167_1 : zIns := [(136, .invokestatic 80, 3), (139, .ifCond .eq 15, 3), (142, .aload_n 0, 1), (143, .getfield 64, 3), (146, .iload_n 1, 1), (147, .bipush 12, 2), (149, .isub, 1), (150, .iaload, 1), (151, .goto 4, 3), (154, .iconst (-1), 1), (155, .ireturn, 1)]
def zi_167 : zIns := zi_167_0 ++ (zi_167_1)
def zi_168 : zIns := [(0, .bipush (-102), 2), (2, .iload_n 1, 1), (3, .isub, 1), (4, .istore_n 2, 1), (5, .iload_n 2, 1), (6, .ifCond .lt 18, 3), (9, .iload_n 2, 1), (10, .iconst 5, 1), (11, .if_icmp .ge 13, 3), (14, .aload_n 0, 1), (15, .getfield 64, 3), (18, .iload_n 2, 1), (19, .dup2, 1), (20, .iaload, 1), (21, .iconst 1, 1), (22, .iadd, 1), (23, .iastore, 1), (24, .iload_n 1, 1), (25, .ireturn, 1)]
def zi_169 : zIns := [(0, .aload_n 0, 1), (1, .getfield 22, 3), (4, .invokevirtual 384, 3), (7, .ifCond .ne 17, 3), (10, .aload_n 0, 1), (11, .getfield 22, 3), (14, .invokevirtual 199, 3), (17, .aload_n 0, 1), (18, .bipush (-106), 2), (20, .invokevirtual 84, 3), (23, .ireturn, 1), (24, .aload_n 0, 1), (25, .getfield 22, 3), (28, .invokevirtual 388, 3), (31, .aload_n 0, 1), (32, .getfield 22, 3), (35, .getfield 230, 3), (38, .iconst 1, 1), (39, .isub, 1), (40, .ireturn, 1)]
def zi_170 : zIns := [(0, .aload_n 0, 1), (1, .getfield 22, 3), (4, .iload_n 1, 1), (5, .invokevirtual 121, 3), (8, .ifCond .eq 14, 3), (11, .iload_n 2, 1), (12, .invokestatic 255, 3), (15, .ifCond .eq 7, 3), (18, .iconst 1, 1), (19, .goto 4, 3), (22, .iconst 0, 1), (23, .ireturn, 1)]
def zi_171 : zIns := []
def zi_172 : zIns := []
def zi_173 : zIns := []
def zi_174 : zIns := [(0, .iconst 0, 1), (1, .istore_n 3, 1), (2, .iconst 0, 1), (3, .istore 4, 2), (5, .iload 4, 2), (7, .aload_n 0, 1), (8, .getfield 22, 3), (11, .getfield 230, 3), (14, .if_icmp .ge 42, 3), (17, .iload_n 1, 1), (18, .iconst 1, 1), (19, .iload 4, 2), (21, .ishl, 1), (22, .iand, 1), (23, .ifCond .eq 27, 3), (26, .aload_n 0, 1), (27, .aload_n 0, 1), (28, .getfield 22, 3), (31, .iload 4, 2), (33, .invokevirtual 135, 3), (36, .iload_n 2, 1), (37, .invokevirtual 398, 3), (40, .ifCond .ne 10, 3), (43, .iload_n 3, 1), (44, .iconst 1, 1), (45, .iload 4, 2), (47, .ishl, 1), (48, .ior, 1), (49, .istore_n 3, 1), (50, .iinc 4 1, 3), (53, .goto (-48), 3), (56, .iload_n 3, 1), (57, .ireturn, 1)]
def zi_175 : zIns := [(0, .iconst 0, 1), (1, .istore_n 3, 1), (2, .iload_n 3, 1), (3, .sipush 1000, 3), (6, .if_icmp .ge 35, 3), (9, .aload_n 0, 1), (10, .getfield 53, 3), (13, .iload_n 3, 1), (14, .invokevirtual 402, 3), (17, .ifCond .eq 18, 3), (20, .aload_n 1, 1), (21, .iload_n 2, 1), (22, .iload_n 3, 1), (23, .invokestatic 264, 3), (26, .invokevirtual 267, 3), (29, .iconst 1, 1), (30, .if_icmp .eq 5, 3), (33, .iconst 0, 1), (34, .ireturn, 1), (35, .iinc 3 1, 3), (38, .goto (-36), 3), (41, .iconst 1, 1), (42, .ireturn, 1)]
def zi_176 : zIns := [(0, .iload_n 2, 1), (1, .iconst 0, 1), (2, .invokestatic 405, 3), (5, .istore_n 3, 1), (6, .iload_n 3, 1), (7, .sipush 1000, 3), (10, .if_icmp .ge 24, 3), (13, .aload_n 0, 1), (14, .iload_n 1, 1), (15, .iload_n 3, 1), (16, .invokestatic 264, 3), (19, .invokevirtual 267, 3), (22, .iconst 1, 1), (23, .if_icmp .ne 5, 3), (26, .iload_n 3, 1), (27, .ireturn, 1), (28, .iinc 3 1, 3), (31, .goto (-25), 3), (34, .iconst (-1), 1), (35, .ireturn, 1)]
def zi_177 : zIns := [(0, .iload_n 2, 1), (1, .sipush 999, 3), (4, .invokestatic 410, 3), (7, .istore_n 3, 1), (8, .iload_n 3, 1), (9, .ifCond .lt 24, 3), (12, .aload_n 0, 1), (13, .iload_n 1, 1), (14, .iload_n 3, 1), (15, .invokestatic 264, 3), (18, .invokevirtual 267, 3), (21, .iconst 1, 1), (22, .if_icmp .ne 5, 3), (25, .iload_n 3, 1), (26, .ireturn, 1), (27, .iinc 3 (-1), 3), (30, .goto (-22), 3), (33, .iconst (-1), 1), (34, .ireturn, 1)]
def zi_178 : zIns := [(0, .aload_n 0, 1), (1, .invokevirtual 327, 3), (4, .iconst 0, 1), (5, .istore_n 1, 1), (6, .iload_n 1, 1), (7, .aload_n 0, 1), (8, .getfield 10, 3), (11, .getfield 150, 3), (14, .if_icmp .ge 24, 3), (17, .aload_n 0, 1), (18, .getfield 68, 3), (21, .aload_n 0, 1), (22, .getfield 10, 3), (25, .iload_n 1, 1), (26, .iconst 0, 1), (27, .invokevirtual 258, 3), (30, .iconst 1, 1), (31, .bastore, 1), (32, .iinc 1 1, 3), (35, .goto (-29), 3), (38, .aload_n 0, 1), (39, .invokevirtual 333, 3), (42, .ireturn, 1)]
def zi_179 : zIns := [(0, .iconst 0, 1), (1, .istore_n 1, 1), (2, .iload_n 1, 1), (3, .aload_n 0, 1), (4, .getfield 68, 3), (7, .arraylength, 1), (8, .if_icmp .ge 16, 3), (11, .aload_n 0, 1), (12, .getfield 68, 3), (15, .iload_n 1, 1), (16, .iconst 0, 1), (17, .bastore, 1), (18, .iinc 1 1, 3), (21, .goto (-19), 3), (24, .return_, 1)]
def zi_180 : zIns := [(0, .iconst 0, 1), (1, .istore_n 1, 1), (2, .iconst 0, 1), (3, .istore_n 2, 1), (4, .iload_n 2, 1), (5, .aload_n 0, 1), (6, .getfield 68, 3), (9, .arraylength, 1), (10, .if_icmp .ge 21, 3), (13, .aload_n 0, 1), (14, .getfield 68, 3), (17, .iload_n 2, 1), (18, .baload, 1), (19, .ifCond .eq 6, 3), (22, .iinc 1 1, 3), (25, .iinc 2 1, 3), (28, .goto (-24), 3), (31, .iload_n 1, 1), (32, .ireturn, 1)]
def zi_181 : zIns := [(0, .iload_n 0, 1), (1, .iload_n 1, 1), (2, .if_icmp .lt 12, 3), (5, .iload_n 0, 1), (6, .iload_n 2, 1), (7, .if_icmp .gt 7, 3), (10, .iconst 1, 1), (11, .goto 4, 3), (14, .iconst 0, 1), (15, .ireturn, 1)]
def zi_182 : zIns := [(0, .iload_n 0, 1), (1, .iconst 0, 1), (2, .iconst 2, 1), (3, .invokestatic 80, 3), (6, .ireturn, 1)]
def zi_183 : zIns := [(0, .iload_n 0, 1), (1, .iconst 0, 1), (2, .iconst 5, 1), (3, .invokestatic 80, 3), (6, .ireturn, 1)]
def zi_184 : zIns := [(0, .iload_n 0, 1), (1, .iconst 0, 1), (2, .iconst 3, 1), (3, .invokestatic 80, 3), (6, .ireturn, 1)]
def zi_185 : zIns := [(0, .iload_n 0, 1), (1, .iconst 0, 1), (2, .iconst 2, 1), (3, .invokestatic 80, 3), (6, .ireturn, 1)]
def zi_186 : zIns := [(0, .iload_n 0, 1), (1, .iconst 0, 1), (2, .bipush 9, 2), (4, .invokestatic 80, 3), (7, .ireturn, 1)]
def zi_187 : zIns := [(0, .iload_n 0, 1), (1, .iconst 1, 1), (2, .bipush 9, 2), (4, .invokestatic 80, 3), (7, .ireturn, 1)]
def zi_188 : zIns := [(0, .iconst 3, 1), (1, .iload_n 0, 1), (2, .imul, 1), (3, .istore_n 2, 1), (4, .iload_n 1, 1), (5, .bipush 100, 2), (7, .idiv, 1), (8, .getstatic 413, 3), (11, .getstatic 416, 3), (14, .iload_n 2, 1), (15, .iaload, 1), (16, .iaload, 1), (17, .imul, 1), (18, .iload_n 1, 1), (19, .bipush 10, 2), (21, .idiv, 1), (22, .bipush 10, 2), (24, .irem, 1), (25, .getstatic 413, 3), (28, .getstatic 416, 3), (31, .iload_n 2, 1), (32, .iconst 1, 1), (33, .iadd, 1), (34, .iaload, 1), (35, .iaload, 1), (36, .imul, 1), (37, .iadd, 1), (38, .iload_n 1, 1), (39, .bipush 10, 2), (41, .irem, 1), (42, .getstatic 413, 3), (45, .getstatic 416, 3), (48, .iload_n 2, 1), (49, .iconst 2, 1), (50, .iadd, 1), (51, .iaload, 1), (52, .iaload, 1), (53, .imul, 1), (54, .iadd, 1), (55, .ireturn, 1)]
def zi_189 : zIns := [(0, .iload_n 0, 1), (1, .ifCond .eq 7, 3), (4, .iload_n 2, 1), (5, .ifCond .ne 5, 3), (8, .iconst 2, 1), (9, .ireturn, 1), (10, .iload_n 1, 1), (11, .tableswitch 67 0 2 #[25, 39, 53], 25), (36, .iload_n 0, 1), (37, .iload_n 2, 1), (38, .if_icmp .ge 7, 3), (41, .iconst 1, 1), (42, .goto 4, 3), (45, .iconst 0, 1), (46, .istore_n 3, 1), (47, .goto 42, 3), (50, .iload_n 0, 1), (51, .iload_n 2, 1), (52, .if_icmp .ne 7, 3), (55, .iconst 1, 1), (56, .goto 4, 3), (59, .iconst 0, 1), (60, .istore_n 3, 1), (61, .goto 28, 3), (64, .iload_n 0, 1), (65, .iload_n 2, 1), (66, .if_icmp .le 7, 3), (69, .iconst 1, 1), (70, .goto 4, 3), (73, .iconst 0, 1), (74, .istore_n 3, 1), (75, .goto 14, 3), (78, .iload_n 0, 1), (79, .iload_n 2, 1), (80, .if_icmp .eq 7, 3), (83, .iconst 1, 1), (84, .goto 4, 3), (87, .iconst 0, 1), (88, .istore_n 3, 1), (89, .iload_n 3, 1), (90, .ifCond .eq 7, 3), (93, .iconst 1, 1), (94, .goto 4, 3), (97, .iconst 0, 1), (98, .ireturn, 1)]
def zi_190_0 : zIns := [(0, .aload_n 0, 1), (1, .invokespecial 1, 3), (4, .aload_n 0, 1), (5, .bipush 8, 2), (7, .newarray .int, 2), (9, .putfield 7, 3), (12, .aload_n 0, 1), (13, .bipush 8, 2), (15, .newarray .int, 2), (17, .putfield 13, 3), (20, .aload_n 0, 1), (21, .bipush 8, 2), (23, .newarray .int, 2), (25, .putfield 16, 3), (28, .aload_n 0, 1), (29, .bipush 8, 2), (31, .bipush 40, 2), (33, .multianewarray 19 2, 4), (37, .putfield 21, 3), (40, .aload_n 0, 1), (41, .bipush 40, 2), (43, .newarray .long, 2), (45, .putfield 24, 3), (48, .aload_n 0, 1), (49, .bipush 8, 2), (51, .newarray .int, 2), (53, .putfield 28, 3), (56, .aload_n 0, 1), (57, .sipush 250, 3), (60, .newarray .int, 2), (62, .putfield 31, 3), (65, .aload_n 0, 1), (66, .bipush 8, 2), (68, .newarray .int, 2), (70, .putfield 34, 3), (73, .aload_n 0, 1), (74, .iconst 4, 1), (75, .putfield 37, 3), (78, .aload_n 0, 1), (79, .iconst 1, 1), (80, .putfield 41, 3), (83, .aload_n 0, 1), (84, .sipush 180, 3), (87, .newarray .int, 2), (89, .putfield 44, 3), (92, .aload_n 0, 1), (93, .bipush 24, 2), (95, .newarray .int, 2), (97, .putfield 47, 3), (100, .aload_n 0, 1)]
def zi_190_1 : zIns := [(101, .bipush 24, 2), (103, .newarray .int, 2), (105, .putfield 50, 3), (108, .aload_n 0, 1), (109, .sipush 192, 3), (112, .newarray .int, 2), (114, .putfield 53, 3), (117, .aload_n 0, 1), (118, .sipush 180, 3), (121, .newarray .int, 2), (123, .putfield 56, 3), (126, .aload_n 0, 1), (127, .bipush 24, 2), (129, .newarray .int, 2), (131, .putfield 59, 3), (134, .aload_n 0, 1), (135, .bipush 24, 2), (137, .newarray .int, 2), (139, .putfield 62, 3), (142, .aload_n 0, 1), (143, .sipush 192, 3), (146, .newarray .int, 2), (148, .putfield 65, 3), (151, .aload_n 0, 1), (152, .sipush 24000, 3), (155, .newarray .byte, 2), (157, .putfield 68, 3), (160, .aload_n 0, 1), (161, .bipush 24, 2), (163, .newarray .int, 2), (165, .putfield 72, 3), (168, .aload_n 0, 1), (169, .bipush 24, 2), (171, .newarray .int, 2), (173, .putfield 75, 3), (176, .aload_n 0, 1), (177, .bipush 24, 2), (179, .newarray .int, 2), (181, .putfield 78, 3), (184, .aload_n 0, 1), (185, .sipush 1000, 3), (188, .newarray .int, 2), (190, .putfield 81, 3), (193, .aload_n 0, 1), (194, .sipush 1000, 3), (197, .newarray .int, 2), (199, .putfield 84, 3), (202, .aload_n 0, 1), (203, .bipush 60, 2), (205, .newarray .int, 2)]
def zi_190_2 : zIns := [(207, .putfield 87, 3), (210, .aload_n 0, 1), (211, .bipush 8, 2), (213, .newarray .int, 2), (215, .putfield 90, 3), (218, .return_, 1)]
def zi_190 : zIns := zi_190_0 ++ (zi_190_1 ++ (zi_190_2))
def zi_191 : zIns := [(0, .aload_n 0, 1), (1, .getfield 34, 3), (4, .iload_n 1, 1), (5, .ineg, 1), (6, .bipush 100, 2), (8, .isub, 1), (9, .dup2, 1), (10, .iaload, 1), (11, .iconst 1, 1), (12, .iadd, 1), (13, .iastore, 1), (14, .iload_n 1, 1), (15, .ireturn, 1)]
def zi_192 : zIns := [(0, .lload_n 0, 1), (1, .lload_n 2, 1), (2, .lcmp, 1), (3, .ifCond .lt 14, 3), (6, .lload_n 0, 1), (7, .lload 4, 2), (9, .lcmp, 1), (10, .ifCond .gt 7, 3), (13, .iconst 1, 1), (14, .goto 4, 3), (17, .iconst 0, 1), (18, .ireturn, 1)]
def zi_193 : zIns := [(0, .iload_n 1, 1), (1, .i2l, 1), (2, .lconst 0, 1), (3, .aload_n 0, 1), (4, .getfield 93, 3), (7, .iconst 1, 1), (8, .isub, 1), (9, .i2l, 1), (10, .invokestatic 96, 3), (13, .ireturn, 1)]
def zi_194 : zIns := [(0, .iload_n 1, 1), (1, .i2l, 1), (2, .lconst 0, 1), (3, .aload_n 0, 1), (4, .getfield 100, 3), (7, .iconst 1, 1), (8, .isub, 1), (9, .i2l, 1), (10, .invokestatic 96, 3), (13, .ireturn, 1)]
def zi_195 : zIns := [(0, .iconst 0, 1), (1, .istore_n 1, 1), (2, .iload_n 0, 1), (3, .istore_n 2, 1), (4, .iload_n 2, 1), (5, .ifCond .eq 15, 3), (8, .iinc 1 1, 3), (11, .iload_n 2, 1), (12, .iload_n 2, 1), (13, .iconst 1, 1), (14, .isub, 1), (15, .iand, 1), (16, .istore_n 2, 1), (17, .goto (-13), 3), (20, .iload_n 1, 1), (21, .ireturn, 1)]
def zi_196_0 : zIns := [(0, .iload_n 1, 1), (1, .i2l, 1), (2, .lconst 0, 1), (3, .ldc2_w 103, 3), (6, .invokestatic 96, 3), (9, .ifCond .eq 27, 3), (12, .iload_n 2, 1), (13, .i2l, 1), (14, .lconst 0, 1), (15, .ldc2_w 105, 3), (18, .invokestatic 96, 3), (21, .ifCond .eq 15, 3), (24, .iload_n 3, 1), (25, .i2l, 1), (26, .lconst 0, 1), (27, .ldc2_w 107, 3), (30, .invokestatic 96, 3), (33, .ifCond .ne 10, 3), (36, .aload_n 0, 1), (37, .bipush (-102), 2), (39, .invokevirtual 109, 3), (42, .ireturn, 1), (43, .aload_n 0, 1), (44, .getfield 7, 3), (47, .iload_n 1, 1), (48, .iconst 1, 1), (49, .iastore, 1), (50, .aload_n 0, 1), (51, .getfield 13, 3), (54, .iload_n 1, 1), (55, .iload_n 2, 1), (56, .iastore, 1), (57, .aload_n 0, 1), (58, .getfield 16, 3), (61, .iload_n 1, 1), (62, .iload_n 3, 1), (63, .iastore, 1), (64, .iconst 0, 1), (65, .istore 4, 2), (67, .iload 4, 2), (69, .bipush 40, 2), (71, .if_icmp .ge 19, 3), (74, .aload_n 0, 1), (75, .getfield 21, 3), (78, .iload_n 1, 1), (79, .aaload, 1), (80, .iload 4, 2), (82, .lconst 0, 1), (83, .lastore, 1), (84, .iinc 4 1, 3)]
def zi_196_1 : zIns := [(87, .goto (-20), 3), (90, .iconst 1, 1), (91, .ireturn, 1)]
def zi_196 : zIns := zi_196_0 ++ (zi_196_1)
def zi_197 : zIns := [(0, .iload_n 0, 1), (1, .tableswitch 47 0 3 #[31, 36, 41, 45], 31), (32, .lload_n 1, 1), (33, .l2i, 1), (34, .i2b, 1), (35, .i2l, 1), (36, .lreturn, 1), (37, .lload_n 1, 1), (38, .l2i, 1), (39, .i2s, 1), (40, .i2l, 1), (41, .lreturn, 1), (42, .lload_n 1, 1), (43, .l2i, 1), (44, .i2l, 1), (45, .lreturn, 1), (46, .lload_n 1, 1), (47, .lreturn, 1), (48, .lload_n 1, 1), (49, .lconst 0, 1), (50, .lcmp, 1), (51, .ifCond .eq 7, 3), (54, .lconst 1, 1), (55, .goto 4, 3), (58, .lconst 0, 1), (59, .lreturn, 1)]
def zi_198 : zIns := [(0, .iload_n 1, 1), (1, .i2l, 1), (2, .lconst 0, 1), (3, .ldc2_w 103, 3), (6, .invokestatic 96, 3), (9, .ifCond .ne 10, 3), (12, .aload_n 0, 1), (13, .bipush (-102), 2), (15, .invokevirtual 109, 3), (18, .ireturn, 1), (19, .aload_n 0, 1), (20, .getfield 7, 3), (23, .iload_n 1, 1), (24, .iaload, 1), (25, .iconst 2, 1), (26, .if_icmp .ne 10, 3), (29, .aload_n 0, 1), (30, .bipush (-103), 2), (32, .invokevirtual 109, 3), (35, .ireturn, 1), (36, .aload_n 0, 1), (37, .getfield 7, 3), (40, .iload_n 1, 1), (41, .iaload, 1), (42, .ifCond .ne 12, 3), (45, .aload_n 0, 1), (46, .bipush (-104), 2), (48, .invokevirtual 109, 3), (51, .goto 4, 3), (54, .iconst 0, 1), (55, .ireturn, 1)]
def zi_199 : zIns := [(0, .aload_n 0, 1), (1, .iload_n 1, 1), (2, .invokevirtual 113, 3), (5, .istore 5, 2), (7, .iload 5, 2), (9, .ifCond .eq 6, 3), (12, .iload 5, 2), (14, .ireturn, 1), (15, .iload_n 2, 1), (16, .i2l, 1), (17, .lconst 0, 1), (18, .aload_n 0, 1), (19, .getfield 16, 3), (22, .iload_n 1, 1), (23, .iaload, 1), (24, .iconst 1, 1), (25, .isub, 1), (26, .i2l, 1), (27, .invokestatic 96, 3), (30, .ifCond .ne 10, 3), (33, .aload_n 0, 1), (34, .bipush (-102), 2), (36, .invokevirtual 109, 3), (39, .ireturn, 1), (40, .aload_n 0, 1), (41, .getfield 21, 3), (44, .iload_n 1, 1), (45, .aaload, 1), (46, .iload_n 2, 1), (47, .aload_n 0, 1), (48, .getfield 13, 3), (51, .iload_n 1, 1), (52, .iaload, 1), (53, .lload_n 3, 1), (54, .invokestatic 116, 3), (57, .lastore, 1), (58, .iconst 1, 1), (59, .ireturn, 1)]
def zi_200_0 : zIns := [(0, .iload_n 1, 1), (1, .i2l, 1), (2, .lconst 0, 1), (3, .ldc2_w 103, 3), (6, .invokestatic 96, 3), (9, .ifCond .eq 15, 3), (12, .iload_n 2, 1), (13, .i2l, 1), (14, .lconst 0, 1), (15, .ldc2_w 103, 3), (18, .invokestatic 96, 3), (21, .ifCond .ne 10, 3), (24, .aload_n 0, 1), (25, .bipush (-102), 2), (27, .invokevirtual 109, 3), (30, .ireturn, 1), (31, .aload_n 0, 1), (32, .getfield 7, 3), (35, .iload_n 1, 1), (36, .iaload, 1), (37, .iconst 2, 1), (38, .if_icmp .eq 48, 3), (41, .aload_n 0, 1), (42, .getfield 7, 3), (45, .iload_n 2, 1), (46, .iaload, 1), (47, .iconst 2, 1), (48, .if_icmp .eq 38, 3), (51, .aload_n 0, 1), (52, .getfield 7, 3), (55, .iload_n 1, 1), (56, .iaload, 1), (57, .iconst 1, 1), (58, .if_icmp .ne 35, 3), (61, .aload_n 0, 1), (62, .getfield 7, 3), (65, .iload_n 2, 1), (66, .iaload, 1), (67, .iconst 1, 1), (68, .if_icmp .ne 25, 3), (71, .aload_n 0, 1), (72, .getfield 13, 3), (75, .iload_n 1, 1), (76, .iaload, 1), (77, .aload_n 0, 1), (78, .getfield 13, 3), (81, .iload_n 2, 1), (82, .iaload, 1), (83, .if_icmp .eq 10, 3), (86, .aload_n 0, 1)]
def zi_200_1 : zIns := [(87, .bipush (-103), 2), (89, .invokevirtual 109, 3), (92, .ireturn, 1), (93, .aload_n 0, 1), (94, .getfield 7, 3), (97, .iload_n 1, 1), (98, .iaload, 1), (99, .ifCond .eq 12, 3), (102, .aload_n 0, 1), (103, .getfield 7, 3), (106, .iload_n 2, 1), (107, .iaload, 1), (108, .ifCond .ne 10, 3), (111, .aload_n 0, 1), (112, .bipush (-104), 2), (114, .invokevirtual 109, 3), (117, .ireturn, 1), (118, .iload 5, 2), (120, .ifCond .lt 61, 3), (123, .iload_n 3, 1), (124, .ifCond .lt 57, 3), (127, .iload 4, 2), (129, .ifCond .lt 52, 3), (132, .iload 5, 2), (134, .aload_n 0, 1), (135, .getfield 16, 3), (138, .iload_n 1, 1), (139, .iaload, 1), (140, .if_icmp .gt 41, 3), (143, .iload 5, 2), (145, .aload_n 0, 1), (146, .getfield 16, 3), (149, .iload_n 2, 1), (150, .iaload, 1), (151, .if_icmp .gt 30, 3), (154, .iload_n 3, 1), (155, .aload_n 0, 1), (156, .getfield 16, 3), (159, .iload_n 1, 1), (160, .iaload, 1), (161, .iload 5, 2), (163, .isub, 1), (164, .if_icmp .gt 17, 3), (167, .iload 4, 2), (169, .aload_n 0, 1), (170, .getfield 16, 3), (173, .iload_n 2, 1), (174, .iaload, 1), (175, .iload 5, 2), (177, .isub, 1)]
def zi_200_2 : zIns := [(178, .if_icmp .le 10, 3), (181, .aload_n 0, 1), (182, .bipush (-102), 2), (184, .invokevirtual 109, 3), (187, .ireturn, 1), (188, .iconst 0, 1), (189, .istore 6, 2), (191, .iload 6, 2), (193, .iload 5, 2), (195, .if_icmp .ge 27, 3), (198, .aload_n 0, 1), (199, .getfield 24, 3), (202, .iload 6, 2), (204, .aload_n 0, 1), (205, .getfield 21, 3), (208, .iload_n 1, 1), (209, .aaload, 1), (210, .iload_n 3, 1), (211, .iload 6, 2), (213, .iadd, 1), (214, .laload, 1), (215, .lastore, 1), (216, .iinc 6 1, 3), (219, .goto (-28), 3), (222, .iconst 0, 1), (223, .istore 6, 2), (225, .iload 6, 2), (227, .iload 5, 2), (229, .if_icmp .ge 28, 3), (232, .aload_n 0, 1), (233, .getfield 21, 3), (236, .iload_n 2, 1), (237, .aaload, 1), (238, .iload 4, 2), (240, .iload 6, 2), (242, .iadd, 1), (243, .aload_n 0, 1), (244, .getfield 24, 3), (247, .iload 6, 2), (249, .laload, 1), (250, .lastore, 1), (251, .iinc 6 1, 3), (254, .goto (-29), 3), (257, .iload 5, 2), (259, .ireturn, 1)]
def zi_200 : zIns := zi_200_0 ++ (zi_200_1 ++ (zi_200_2))
def zi_201 : zIns := [(0, .iload_n 1, 1), (1, .i2l, 1), (2, .lconst 0, 1), (3, .ldc2_w 103, 3), (6, .invokestatic 96, 3), (9, .ifCond .eq 42, 3), (12, .aload_n 0, 1), (13, .getfield 7, 3), (16, .iload_n 1, 1), (17, .iaload, 1), (18, .iconst 1, 1), (19, .if_icmp .ne 32, 3), (22, .iload_n 2, 1), (23, .i2l, 1), (24, .lconst 0, 1), (25, .aload_n 0, 1), (26, .getfield 16, 3), (29, .iload_n 1, 1), (30, .iaload, 1), (31, .iconst 1, 1), (32, .isub, 1), (33, .i2l, 1), (34, .invokestatic 96, 3), (37, .ifCond .eq 14, 3), (40, .aload_n 0, 1), (41, .getfield 21, 3), (44, .iload_n 1, 1), (45, .aaload, 1), (46, .iload_n 2, 1), (47, .laload, 1), (48, .goto 4, 3), (51, .lconst 0, 1), (52, .lreturn, 1)]
def zi_202 : zIns := [(0, .iload_n 1, 1), (1, .i2l, 1), (2, .lconst 0, 1), (3, .ldc2_w 103, 3), (6, .invokestatic 96, 3), (9, .ifCond .eq 12, 3), (12, .aload_n 0, 1), (13, .getfield 7, 3), (16, .iload_n 1, 1), (17, .iaload, 1), (18, .ifCond .ne 5, 3), (21, .iconst (-1), 1), (22, .ireturn, 1), (23, .aload_n 0, 1), (24, .getfield 7, 3), (27, .iload_n 1, 1), (28, .iaload, 1), (29, .iconst 1, 1), (30, .if_icmp .ne 12, 3), (33, .aload_n 0, 1), (34, .getfield 13, 3), (37, .iload_n 1, 1), (38, .iaload, 1), (39, .goto 12, 3), (42, .bipush 10, 2), (44, .aload_n 0, 1), (45, .getfield 28, 3), (48, .iload_n 1, 1), (49, .iaload, 1), (50, .iadd, 1), (51, .ireturn, 1)]
def zi_203 : zIns := [(0, .iload_n 1, 1), (1, .i2l, 1), (2, .lconst 0, 1), (3, .ldc2_w 103, 3), (6, .invokestatic 96, 3), (9, .ifCond .eq 16, 3), (12, .iload_n 2, 1), (13, .iconst (-1), 1), (14, .if_icmp .eq 18, 3), (17, .aload_n 0, 1), (18, .iload_n 2, 1), (19, .invokevirtual 120, 3), (22, .ifCond .ne 10, 3), (25, .aload_n 0, 1), (26, .bipush (-102), 2), (28, .invokevirtual 109, 3), (31, .ireturn, 1), (32, .aload_n 0, 1), (33, .getfield 7, 3), (36, .iload_n 1, 1), (37, .iload_n 2, 1), (38, .iconst (-1), 1), (39, .if_icmp .ne 7, 3), (42, .iconst 0, 1), (43, .goto 4, 3), (46, .iconst 2, 1), (47, .iastore, 1), (48, .aload_n 0, 1), (49, .getfield 28, 3), (52, .iload_n 1, 1), (53, .iload_n 2, 1), (54, .iastore, 1), (55, .iconst 1, 1), (56, .ireturn, 1)]
def zi_204_0 : zIns := [(0, .iload_n 1, 1), (1, .tableswitch 110 0 5 #[39, 41, 52, 68, 86, 98], 39), (40, .iconst 1, 1), (41, .ireturn, 1), (42, .iload_n 0, 1), (43, .iconst 5, 1), (44, .if_icmp .gt 7, 3), (47, .iconst 1, 1), (48, .goto 4, 3), (51, .iconst 0, 1), (52, .ireturn, 1), (53, .iload_n 0, 1), (54, .iconst 2, 1), (55, .if_icmp .le 8, 3), (58, .iload_n 0, 1), (59, .iconst 4, 1), (60, .if_icmp .ne 7, 3), (63, .iconst 1, 1), (64, .goto 4, 3), (67, .iconst 0, 1), (68, .ireturn, 1), (69, .iload_n 0, 1), (70, .bipush 6, 2), (72, .if_icmp .eq 9, 3), (75, .iload_n 0, 1), (76, .bipush 7, 2), (78, .if_icmp .ne 7, 3), (81, .iconst 1, 1), (82, .goto 4, 3), (85, .iconst 0, 1), (86, .ireturn, 1), (87, .iload_n 0, 1), (88, .bipush 8, 2), (90, .if_icmp .lt 7, 3), (93, .iconst 1, 1), (94, .goto 4, 3), (97, .iconst 0, 1), (98, .ireturn, 1), (99, .iload_n 0, 1), (100, .bipush 6, 2), (102, .if_icmp .ne 7, 3), (105, .iconst 1, 1), (106, .goto 4, 3), (109, .iconst 0, 1), (110, .ireturn, 1), (111, .iload_n 0, 1), (112, .iconst 5, 1), (113, .if_icmp .ne 7, 3), (116, .iconst 1, 1), (117, .goto 4, 3)]
def zi_204_1 : zIns := [(120, .iconst 0, 1), (121, .ireturn, 1)]
def zi_204 : zIns := zi_204_0 ++ (zi_204_1)
def zi_205_0 : zIns := [(0, .iload_n 1, 1), (1, .i2l, 1), (2, .lconst 0, 1), (3, .ldc2_w 103, 3), (6, .invokestatic 96, 3), (9, .ifCond .eq 15, 3), (12, .iload_n 2, 1), (13, .i2l, 1), (14, .lconst 0, 1), (15, .ldc2_w 124, 3), (18, .invokestatic 96, 3), (21, .ifCond .ne 10, 3), (24, .aload_n 0, 1), (25, .bipush (-102), 2), (27, .invokevirtual 109, 3), (30, .ireturn, 1), (31, .aload_n 0, 1), (32, .getfield 28, 3), (35, .iload_n 1, 1), (36, .iaload, 1), (37, .istore_n 3, 1), (38, .aload_n 0, 1), (39, .getfield 7, 3), (42, .iload_n 1, 1), (43, .iaload, 1), (44, .iconst 1, 1), (45, .if_icmp .eq 26, 3), (48, .aload_n 0, 1), (49, .getfield 7, 3), (52, .iload_n 1, 1), (53, .iaload, 1), (54, .iconst 2, 1), (55, .if_icmp .ne 23, 3), (58, .aload_n 0, 1), (59, .getfield 47, 3), (62, .iload_n 3, 1), (63, .iaload, 1), (64, .iload_n 2, 1), (65, .invokestatic 126, 3), (68, .ifCond .ne 10, 3), (71, .aload_n 0, 1), (72, .bipush (-103), 2), (74, .invokevirtual 109, 3), (77, .ireturn, 1), (78, .aload_n 0, 1), (79, .getfield 7, 3), (82, .iload_n 1, 1), (83, .iaload, 1), (84, .ifCond .ne 10, 3), (87, .aload_n 0, 1)]
def zi_205_1 : zIns := [(88, .bipush (-104), 2), (90, .invokevirtual 109, 3), (93, .ireturn, 1), (94, .iload_n 2, 1), (95, .tableswitch 138 0 5 #[37, 44, 78, 93, 118, 128], 37), (132, .aload_n 0, 1), (133, .iload_n 3, 1), (134, .iconst 1, 1), (135, .invokevirtual 130, 3), (138, .ireturn, 1), (139, .aload_n 0, 1), (140, .getfield 47, 3), (143, .iload_n 3, 1), (144, .iaload, 1), (145, .iconst 5, 1), (146, .if_icmp .ne 17, 3), (149, .aload_n 0, 1), (150, .getfield 53, 3), (153, .bipush 8, 2), (155, .iload_n 3, 1), (156, .imul, 1), (157, .iconst 1, 1), (158, .iadd, 1), (159, .iaload, 1), (160, .goto 12, 3), (163, .aload_n 0, 1), (164, .getfield 53, 3), (167, .bipush 8, 2), (169, .iload_n 3, 1), (170, .imul, 1), (171, .iaload, 1), (172, .ireturn, 1), (173, .aload_n 0, 1), (174, .iload_n 3, 1), (175, .aload_n 0, 1), (176, .getfield 53, 3), (179, .bipush 8, 2), (181, .iload_n 3, 1), (182, .imul, 1), (183, .iaload, 1), (184, .invokevirtual 134, 3), (187, .ireturn, 1), (188, .bipush 100, 2), (190, .aload_n 0, 1), (191, .getfield 53, 3), (194, .bipush 8, 2), (196, .iload_n 3, 1), (197, .imul, 1), (198, .iaload, 1), (199, .imul, 1)]
def zi_205_2 : zIns := [(200, .aload_n 0, 1), (201, .getfield 53, 3), (204, .bipush 8, 2), (206, .iload_n 3, 1), (207, .imul, 1), (208, .iconst 1, 1), (209, .iadd, 1), (210, .iaload, 1), (211, .iadd, 1), (212, .ireturn, 1), (213, .aload_n 0, 1), (214, .getfield 53, 3), (217, .bipush 8, 2), (219, .iload_n 3, 1), (220, .imul, 1), (221, .iaload, 1), (222, .ireturn, 1), (223, .aload_n 0, 1), (224, .getfield 78, 3), (227, .iload_n 3, 1), (228, .iaload, 1), (229, .invokestatic 137, 3), (232, .ireturn, 1), (233, .aload_n 0, 1), (234, .getfield 53, 3), (237, .bipush 8, 2), (239, .iload_n 3, 1), (240, .imul, 1), (241, .iaload, 1), (242, .ireturn, 1)]
def zi_205 : zIns := zi_205_0 ++ (zi_205_1 ++ (zi_205_2))
def zi_206 : zIns := [(0, .iload_n 0, 1), (1, .iconst 2, 1), (2, .idiv, 1), (3, .istore_n 2, 1), (4, .iload_n 2, 1), (5, .ifCond .ne 7, 3), (8, .iconst 1, 1), (9, .goto 4, 3), (12, .iconst 0, 1), (13, .istore_n 3, 1), (14, .iload_n 2, 1), (15, .iconst 2, 1), (16, .if_icmp .ne 7, 3), (19, .iconst 1, 1), (20, .goto 4, 3), (23, .iconst 2, 1), (24, .istore 4, 2), (26, .iload_n 1, 1), (27, .ifCond .ne 5, 3), (30, .iload_n 2, 1), (31, .ireturn, 1), (32, .iload_n 1, 1), (33, .iconst 1, 1), (34, .if_icmp .ne 7, 3), (37, .iconst 1, 1), (38, .goto 4, 3), (41, .iconst 0, 1), (42, .iload_n 0, 1), (43, .iconst 2, 1), (44, .irem, 1), (45, .ifCond .ne 7, 3), (48, .iconst 1, 1), (49, .goto 4, 3), (52, .iconst 0, 1), (53, .if_icmp .ne 7, 3), (56, .iload_n 3, 1), (57, .goto 5, 3), (60, .iload 4, 2), (62, .ireturn, 1)]
def zi_207 : zIns := [(0, .iload_n 1, 1), (1, .ifCond .ne 10, 3), (4, .iload_n 0, 1), (5, .bipush 100, 2), (7, .idiv, 1), (8, .goto 22, 3), (11, .iload_n 1, 1), (12, .iconst 1, 1), (13, .if_icmp .ne 13, 3), (16, .iload_n 0, 1), (17, .bipush 10, 2), (19, .idiv, 1), (20, .bipush 10, 2), (22, .irem, 1), (23, .goto 7, 3), (26, .iload_n 0, 1), (27, .bipush 10, 2), (29, .irem, 1), (30, .ireturn, 1)]
def zi_208 : zIns := [(0, .iload_n 0, 1), (1, .ifCond .ne 8, 3), (4, .bipush 100, 2), (6, .goto 14, 3), (9, .iload_n 0, 1), (10, .iconst 1, 1), (11, .if_icmp .ne 8, 3), (14, .bipush 10, 2), (16, .goto 4, 3), (19, .iconst 1, 1), (20, .ireturn, 1)]
def zi_209 : zIns := [(0, .iconst 0, 1), (1, .istore_n 2, 1), (2, .iconst 0, 1), (3, .istore_n 3, 1), (4, .iload_n 3, 1), (5, .iconst 3, 1), (6, .if_icmp .ge 26, 3), (9, .iload_n 2, 1), (10, .iload_n 0, 1), (11, .iload_n 3, 1), (12, .invokestatic 140, 3), (15, .invokestatic 143, 3), (18, .iload_n 1, 1), (19, .iload_n 3, 1), (20, .invokestatic 146, 3), (23, .imul, 1), (24, .iadd, 1), (25, .istore_n 2, 1), (26, .iinc 3 1, 3), (29, .goto (-25), 3), (32, .iload_n 2, 1), (33, .ireturn, 1)]
def zi_210 : zIns := [(0, .iconst 0, 1), (1, .istore_n 3, 1), (2, .iconst 0, 1), (3, .istore 4, 2), (5, .iload 4, 2), (7, .iconst 3, 1), (8, .if_icmp .ge 33, 3), (11, .iload_n 3, 1), (12, .iload 4, 2), (14, .invokestatic 143, 3), (17, .aload_n 0, 1), (18, .getfield 44, 3), (21, .iconst 3, 1), (22, .iload_n 1, 1), (23, .imul, 1), (24, .iload_n 2, 1), (25, .iload 4, 2), (27, .invokestatic 140, 3), (30, .iadd, 1), (31, .iaload, 1), (32, .imul, 1), (33, .iadd, 1), (34, .istore_n 3, 1), (35, .iinc 4 1, 3), (38, .goto (-33), 3), (41, .iload_n 3, 1), (42, .ireturn, 1)]
def zi_211 : zIns := [(0, .aload_n 0, 1), (1, .getfield 68, 3), (4, .iload_n 1, 1), (5, .sipush 1000, 3), (8, .imul, 1), (9, .iload_n 2, 1), (10, .iadd, 1), (11, .baload, 1), (12, .ireturn, 1)]
def zi_212 : zIns := [(0, .aload_n 0, 1), (1, .iload_n 1, 1), (2, .aload_n 0, 1), (3, .iload_n 2, 1), (4, .iconst 0, 1), (5, .invokevirtual 149, 3), (8, .invokevirtual 152, 3), (11, .ireturn, 1)]
def zi_213 : zIns := [(0, .iload_n 0, 1), (1, .ifCond .ne 16, 3), (4, .iload_n 1, 1), (5, .iload_n 2, 1), (6, .if_icmp .ge 7, 3), (9, .iconst 1, 1), (10, .goto 53, 3), (13, .iconst 0, 1), (14, .goto 49, 3), (17, .iload_n 0, 1), (18, .iconst 1, 1), (19, .if_icmp .ne 16, 3), (22, .iload_n 1, 1), (23, .iload_n 2, 1), (24, .if_icmp .ne 7, 3), (27, .iconst 1, 1), (28, .goto 35, 3), (31, .iconst 0, 1), (32, .goto 31, 3), (35, .iload_n 0, 1), (36, .iconst 2, 1), (37, .if_icmp .ne 16, 3), (40, .iload_n 1, 1), (41, .iload_n 2, 1), (42, .if_icmp .le 7, 3), (45, .iconst 1, 1), (46, .goto 17, 3), (49, .iconst 0, 1), (50, .goto 13, 3), (53, .iload_n 1, 1), (54, .iload_n 2, 1), (55, .if_icmp .eq 7, 3), (58, .iconst 1, 1), (59, .goto 4, 3), (62, .iconst 0, 1), (63, .istore_n 3, 1), (64, .iload_n 3, 1), (65, .ifCond .eq 7, 3), (68, .iconst 1, 1), (69, .goto 4, 3), (72, .iconst 0, 1), (73, .ireturn, 1)]
def zi_214_0 : zIns := [(0, .aload_n 0, 1), (1, .getfield 53, 3), (4, .bipush 8, 2), (6, .iload_n 1, 1), (7, .imul, 1), (8, .iaload, 1), (9, .istore_n 3, 1), (10, .aload_n 0, 1), (11, .getfield 50, 3), (14, .iload_n 1, 1), (15, .iaload, 1), (16, .istore 4, 2), (18, .iconst 1, 1), (19, .istore 5, 2), (21, .iconst 0, 1), (22, .istore 6, 2), (24, .iload 6, 2), (26, .iload_n 3, 1), (27, .if_icmp .ge 114, 3), (30, .iload_n 2, 1), (31, .aload_n 0, 1), (32, .getfield 53, 3), (35, .bipush 8, 2), (37, .iload_n 1, 1), (38, .imul, 1), (39, .iconst 1, 1), (40, .iadd, 1), (41, .iconst 2, 1), (42, .iload 6, 2), (44, .imul, 1), (45, .iadd, 1), (46, .iaload, 1), (47, .invokestatic 146, 3), (50, .istore 7, 2), (52, .aload_n 0, 1), (53, .getfield 53, 3), (56, .bipush 8, 2), (58, .iload_n 1, 1), (59, .imul, 1), (60, .iconst 2, 1), (61, .iadd, 1), (62, .iconst 2, 1), (63, .iload 6, 2), (65, .imul, 1), (66, .iadd, 1), (67, .iaload, 1), (68, .istore 8, 2), (70, .iload 4, 2), (72, .ifCond .eq 9, 3), (75, .iload 4, 2)]
def zi_214_1 : zIns := [(77, .iconst 2, 1), (78, .if_icmp .ne 27, 3), (81, .iload 7, 2), (83, .ifCond .ne 5, 3), (86, .iconst 2, 1), (87, .ireturn, 1), (88, .iload 7, 2), (90, .iload 8, 2), (92, .if_icmp .eq 43, 3), (95, .iload 4, 2), (97, .iload 7, 2), (99, .iload 8, 2), (101, .invokestatic 155, 3), (104, .ireturn, 1), (105, .iload 7, 2), (107, .ifCond .ne 9, 3), (110, .iconst 2, 1), (111, .istore 5, 2), (113, .goto 22, 3), (116, .iload 7, 2), (118, .iload 8, 2), (120, .if_icmp .eq 15, 3), (123, .iload 4, 2), (125, .iconst 1, 1), (126, .if_icmp .ne 7, 3), (129, .iconst 0, 1), (130, .goto 4, 3), (133, .iconst 1, 1), (134, .ireturn, 1), (135, .iinc 6 1, 3), (138, .goto (-114), 3), (141, .iload 4, 2), (143, .ifCond .eq 9, 3), (146, .iload 4, 2), (148, .iconst 2, 1), (149, .if_icmp .ne 7, 3), (152, .iconst 0, 1), (153, .goto 24, 3), (156, .iload 5, 2), (158, .iconst 2, 1), (159, .if_icmp .ne 7, 3), (162, .iconst 2, 1), (163, .goto 14, 3), (166, .iload 4, 2), (168, .iconst 1, 1), (169, .if_icmp .ne 7, 3), (172, .iconst 1, 1), (173, .goto 4, 3), (176, .iconst 0, 1), (177, .ireturn, 1)]
def zi_214 : zIns := zi_214_0 ++ (zi_214_1)
def zi_215_0 : zIns := [(0, .bipush 8, 2), (2, .iload_n 1, 1), (3, .imul, 1), (4, .istore_n 3, 1), (5, .aload_n 0, 1), (6, .getfield 47, 3), (9, .iload_n 1, 1), (10, .iaload, 1), (11, .iconst 5, 1), (12, .if_icmp .ne 7, 3), (15, .iconst 1, 1), (16, .goto 13, 3), (19, .iload_n 2, 1), (20, .aload_n 0, 1), (21, .getfield 53, 3), (24, .iload_n 3, 1), (25, .iaload, 1), (26, .invokestatic 146, 3), (29, .istore 4, 2), (31, .aload_n 0, 1), (32, .getfield 47, 3), (35, .iload_n 1, 1), (36, .iaload, 1), (37, .iconst 2, 1), (38, .if_icmp .ne 14, 3), (41, .iload 4, 2), (43, .ifCond .ne 7, 3), (46, .iconst 1, 1), (47, .goto 4, 3), (50, .iconst 0, 1), (51, .ireturn, 1), (52, .aload_n 0, 1), (53, .getfield 47, 3), (56, .iload_n 1, 1), (57, .iaload, 1), (58, .iconst 5, 1), (59, .if_icmp .ne 10, 3), (62, .aload_n 0, 1), (63, .iload_n 1, 1), (64, .iload_n 2, 1), (65, .invokevirtual 159, 3), (68, .ireturn, 1), (69, .iload 4, 2), (71, .ifCond .ne 5, 3), (74, .iconst 2, 1), (75, .ireturn, 1), (76, .aload_n 0, 1), (77, .getfield 47, 3), (80, .iload_n 1, 1), (81, .iaload, 1)]
def zi_215_1 : zIns := [(82, .tableswitch 101 0 3 #[30, 50, 101, 64], 30), (112, .aload_n 0, 1), (113, .getfield 50, 3), (116, .iload_n 1, 1), (117, .iaload, 1), (118, .iload 4, 2), (120, .aload_n 0, 1), (121, .getfield 53, 3), (124, .iload_n 3, 1), (125, .iconst 1, 1), (126, .iadd, 1), (127, .iaload, 1), (128, .invokestatic 155, 3), (131, .ireturn, 1), (132, .aload_n 0, 1), (133, .getfield 53, 3), (136, .iload_n 3, 1), (137, .iconst 1, 1), (138, .iadd, 1), (139, .iaload, 1), (140, .iload 4, 2), (142, .ishr, 1), (143, .iconst 1, 1), (144, .iand, 1), (145, .ireturn, 1), (146, .iload_n 2, 1), (147, .aload_n 0, 1), (148, .getfield 53, 3), (151, .iload_n 3, 1), (152, .iconst 1, 1), (153, .iadd, 1), (154, .iaload, 1), (155, .invokestatic 146, 3), (158, .istore 5, 2), (160, .iload 5, 2), (162, .ifCond .ne 7, 3), (165, .iconst 2, 1), (166, .goto 16, 3), (169, .aload_n 0, 1), (170, .getfield 50, 3), (173, .iload_n 1, 1), (174, .iaload, 1), (175, .iload 4, 2), (177, .iload 5, 2), (179, .invokestatic 155, 3), (182, .ireturn, 1), (183, .iload 4, 2), (185, .aload_n 0, 1), (186, .getfield 53, 3), (189, .iload_n 3, 1)]
def zi_215_2 : zIns := [(190, .iconst 1, 1), (191, .iadd, 1), (192, .iaload, 1), (193, .irem, 1), (194, .aload_n 0, 1), (195, .getfield 53, 3), (198, .iload_n 3, 1), (199, .iconst 2, 1), (200, .iadd, 1), (201, .iaload, 1), (202, .if_icmp .ne 7, 3), (205, .iconst 1, 1), (206, .goto 4, 3), (209, .iconst 0, 1), (210, .ireturn, 1)]
def zi_215 : zIns := zi_215_0 ++ (zi_215_1 ++ (zi_215_2))
def zi_216_0 : zIns := [(0, .aload_n 0, 1), (1, .getfield 47, 3), (4, .iload_n 1, 1), (5, .iaload, 1), (6, .iconst 5, 1), (7, .if_icmp .gt 10, 3), (10, .aload_n 0, 1), (11, .iload_n 1, 1), (12, .iload_n 2, 1), (13, .invokevirtual 162, 3), (16, .ireturn, 1), (17, .aload_n 0, 1), (18, .aload_n 0, 1), (19, .getfield 53, 3), (22, .bipush 8, 2), (24, .iload_n 1, 1), (25, .imul, 1), (26, .iaload, 1), (27, .iload_n 2, 1), (28, .invokevirtual 152, 3), (31, .istore_n 3, 1), (32, .aload_n 0, 1), (33, .getfield 47, 3), (36, .iload_n 1, 1), (37, .iaload, 1), (38, .bipush 7, 2), (40, .if_icmp .gt 22, 3), (43, .aload_n 0, 1), (44, .aload_n 0, 1), (45, .getfield 53, 3), (48, .bipush 8, 2), (50, .iload_n 1, 1), (51, .imul, 1), (52, .iconst 1, 1), (53, .iadd, 1), (54, .iaload, 1), (55, .iload_n 2, 1), (56, .invokevirtual 152, 3), (59, .goto 4, 3), (62, .iconst 0, 1), (63, .istore 4, 2), (65, .aload_n 0, 1), (66, .getfield 47, 3), (69, .iload_n 1, 1), (70, .iaload, 1), (71, .tableswitch 100 6 8 #[25, 55, 87], 25), (96, .iload_n 3, 1), (97, .ifCond .eq 8, 3), (100, .iload 4, 2), (102, .ifCond .ne 7, 3)]
def zi_216_1 : zIns := [(105, .iconst 0, 1), (106, .goto 19, 3), (109, .iload_n 3, 1), (110, .iconst 2, 1), (111, .if_icmp .eq 9, 3), (114, .iload 4, 2), (116, .iconst 2, 1), (117, .if_icmp .ne 7, 3), (120, .iconst 2, 1), (121, .goto 4, 3), (124, .iconst 1, 1), (125, .ireturn, 1), (126, .iload_n 3, 1), (127, .iconst 1, 1), (128, .if_icmp .eq 9, 3), (131, .iload 4, 2), (133, .iconst 1, 1), (134, .if_icmp .ne 7, 3), (137, .iconst 1, 1), (138, .goto 19, 3), (141, .iload_n 3, 1), (142, .iconst 2, 1), (143, .if_icmp .eq 9, 3), (146, .iload 4, 2), (148, .iconst 2, 1), (149, .if_icmp .ne 7, 3), (152, .iconst 2, 1), (153, .goto 4, 3), (156, .iconst 0, 1), (157, .ireturn, 1), (158, .iload_n 3, 1), (159, .iconst 2, 1), (160, .if_icmp .ne 7, 3), (163, .iconst 2, 1), (164, .goto 6, 3), (167, .iconst 1, 1), (168, .iload_n 3, 1), (169, .isub, 1), (170, .ireturn, 1), (171, .iload_n 3, 1), (172, .iconst 1, 1), (173, .if_icmp .ne 7, 3), (176, .iconst 1, 1), (177, .goto 4, 3), (180, .iconst 0, 1), (181, .ireturn, 1)]
def zi_216 : zIns := zi_216_0 ++ (zi_216_1)
def zi_217_0 : zIns := [(0, .bipush 8, 2), (2, .iload_n 1, 1), (3, .imul, 1), (4, .istore_n 2, 1), (5, .aload_n 0, 1), (6, .getfield 78, 3), (9, .iload_n 1, 1), (10, .iconst 1, 1), (11, .iload_n 1, 1), (12, .ishl, 1), (13, .iastore, 1), (14, .aload_n 0, 1), (15, .getfield 75, 3), (18, .iload_n 1, 1), (19, .iconst 0, 1), (20, .iastore, 1), (21, .aload_n 0, 1), (22, .getfield 72, 3), (25, .iload_n 1, 1), (26, .aload_n 0, 1), (27, .getfield 47, 3), (30, .iload_n 1, 1), (31, .iaload, 1), (32, .iconst 5, 1), (33, .if_icmp .ne 7, 3), (36, .iconst 0, 1), (37, .goto 11, 3), (40, .iconst 1, 1), (41, .aload_n 0, 1), (42, .getfield 53, 3), (45, .iload_n 2, 1), (46, .iaload, 1), (47, .ishl, 1), (48, .iastore, 1), (49, .aload_n 0, 1), (50, .getfield 47, 3), (53, .iload_n 1, 1), (54, .iaload, 1), (55, .iconst 3, 1), (56, .if_icmp .ne 22, 3), (59, .aload_n 0, 1), (60, .getfield 72, 3), (63, .iload_n 1, 1), (64, .dup2, 1), (65, .iaload, 1), (66, .iconst 1, 1), (67, .aload_n 0, 1), (68, .getfield 53, 3), (71, .iload_n 2, 1), (72, .iconst 1, 1)]
def zi_217_1 : zIns := [(73, .iadd, 1), (74, .iaload, 1), (75, .ishl, 1), (76, .ior, 1), (77, .iastore, 1), (78, .iconst 0, 1), (79, .istore_n 3, 1), (80, .aload_n 0, 1), (81, .getfield 47, 3), (84, .iload_n 1, 1), (85, .iaload, 1), (86, .iconst 5, 1), (87, .if_icmp .ne 42, 3), (90, .iload_n 3, 1), (91, .aload_n 0, 1), (92, .getfield 53, 3), (95, .iload_n 2, 1), (96, .iaload, 1), (97, .if_icmp .ge 32, 3), (100, .aload_n 0, 1), (101, .getfield 72, 3), (104, .iload_n 1, 1), (105, .dup2, 1), (106, .iaload, 1), (107, .iconst 1, 1), (108, .aload_n 0, 1), (109, .getfield 53, 3), (112, .iload_n 2, 1), (113, .iconst 1, 1), (114, .iadd, 1), (115, .iconst 2, 1), (116, .iload_n 3, 1), (117, .imul, 1), (118, .iadd, 1), (119, .iaload, 1), (120, .ishl, 1), (121, .ior, 1), (122, .iastore, 1), (123, .iinc 3 1, 3), (126, .goto (-46), 3), (129, .return_, 1)]
def zi_217 : zIns := zi_217_0 ++ (zi_217_1)
def zi_218_0 : zIns := [(0, .aload_n 0, 1), (1, .getfield 53, 3), (4, .bipush 8, 2), (6, .iload_n 1, 1), (7, .imul, 1), (8, .iaload, 1), (9, .istore_n 2, 1), (10, .aload_n 0, 1), (11, .getfield 47, 3), (14, .iload_n 1, 1), (15, .iaload, 1), (16, .bipush 7, 2), (18, .if_icmp .gt 17, 3), (21, .aload_n 0, 1), (22, .getfield 53, 3), (25, .bipush 8, 2), (27, .iload_n 1, 1), (28, .imul, 1), (29, .iconst 1, 1), (30, .iadd, 1), (31, .iaload, 1), (32, .goto 4, 3), (35, .iload_n 2, 1), (36, .istore_n 3, 1), (37, .aload_n 0, 1), (38, .getfield 78, 3), (41, .iload_n 1, 1), (42, .aload_n 0, 1), (43, .getfield 47, 3), (46, .iload_n 1, 1), (47, .iaload, 1), (48, .bipush 6, 2), (50, .if_icmp .ne 19, 3), (53, .aload_n 0, 1), (54, .getfield 78, 3), (57, .iload_n 2, 1), (58, .iaload, 1), (59, .aload_n 0, 1), (60, .getfield 78, 3), (63, .iload_n 3, 1), (64, .iaload, 1), (65, .ior, 1), (66, .goto 6, 3), (69, .iconst 1, 1), (70, .iload_n 1, 1), (71, .ishl, 1), (72, .iastore, 1), (73, .aload_n 0, 1), (74, .getfield 75, 3), (77, .iload_n 1, 1)]
def zi_218_1 : zIns := [(78, .iconst 1, 1), (79, .aload_n 0, 1), (80, .getfield 75, 3), (83, .iload_n 2, 1), (84, .iaload, 1), (85, .aload_n 0, 1), (86, .getfield 75, 3), (89, .iload_n 3, 1), (90, .iaload, 1), (91, .if_icmp .le 12, 3), (94, .aload_n 0, 1), (95, .getfield 75, 3), (98, .iload_n 2, 1), (99, .iaload, 1), (100, .goto 9, 3), (103, .aload_n 0, 1), (104, .getfield 75, 3), (107, .iload_n 3, 1), (108, .iaload, 1), (109, .iadd, 1), (110, .iastore, 1), (111, .aload_n 0, 1), (112, .getfield 72, 3), (115, .iload_n 1, 1), (116, .aload_n 0, 1), (117, .getfield 72, 3), (120, .iload_n 2, 1), (121, .iaload, 1), (122, .aload_n 0, 1), (123, .getfield 72, 3), (126, .iload_n 3, 1), (127, .iaload, 1), (128, .ior, 1), (129, .iastore, 1), (130, .return_, 1)]
def zi_218 : zIns := zi_218_0 ++ (zi_218_1)
def zi_219 : zIns := [(0, .iload_n 1, 1), (1, .istore_n 2, 1), (2, .iload_n 2, 1), (3, .aload_n 0, 1), (4, .getfield 93, 3), (7, .if_icmp .ge 66, 3), (10, .aload_n 0, 1), (11, .getfield 47, 3), (14, .iload_n 2, 1), (15, .iaload, 1), (16, .iconst 5, 1), (17, .if_icmp .gt 11, 3), (20, .aload_n 0, 1), (21, .iload_n 2, 1), (22, .invokevirtual 165, 3), (25, .goto 8, 3), (28, .aload_n 0, 1), (29, .iload_n 2, 1), (30, .invokevirtual 169, 3), (33, .iconst 0, 1), (34, .istore_n 3, 1), (35, .iload_n 3, 1), (36, .sipush 1000, 3), (39, .if_icmp .ge 28, 3), (42, .aload_n 0, 1), (43, .getfield 68, 3), (46, .iload_n 2, 1), (47, .sipush 1000, 3), (50, .imul, 1), (51, .iload_n 3, 1), (52, .iadd, 1), (53, .aload_n 0, 1), (54, .iload_n 2, 1), (55, .iload_n 3, 1), (56, .invokevirtual 172, 3), (59, .i2b, 1), (60, .bastore, 1), (61, .iinc 3 1, 3), (64, .goto (-29), 3), (67, .iinc 2 1, 3), (70, .goto (-68), 3), (73, .return_, 1)]
def zi_220 : zIns := [(0, .aload_n 0, 1), (1, .getfield 44, 3), (4, .iconst 3, 1), (5, .iload_n 1, 1), (6, .imul, 1), (7, .iload_n 2, 1), (8, .iastore, 1), (9, .aload_n 0, 1), (10, .getfield 44, 3), (13, .iconst 3, 1), (14, .iload_n 1, 1), (15, .imul, 1), (16, .iconst 1, 1), (17, .iadd, 1), (18, .iload_n 3, 1), (19, .iastore, 1), (20, .aload_n 0, 1), (21, .getfield 44, 3), (24, .iconst 3, 1), (25, .iload_n 1, 1), (26, .imul, 1), (27, .iconst 2, 1), (28, .iadd, 1), (29, .iload 4, 2), (31, .iastore, 1), (32, .return_, 1)]
def zi_221 : zIns := [(0, .iload_n 1, 1), (1, .i2l, 1), (2, .lconst 0, 1), (3, .ldc2_w 175, 3), (6, .invokestatic 96, 3), (9, .ifCond .eq 27, 3), (12, .iload_n 2, 1), (13, .i2l, 1), (14, .lconst 0, 1), (15, .ldc2_w 175, 3), (18, .invokestatic 96, 3), (21, .ifCond .eq 15, 3), (24, .iload_n 3, 1), (25, .i2l, 1), (26, .lconst 0, 1), (27, .ldc2_w 175, 3), (30, .invokestatic 96, 3), (33, .ifCond .ne 10, 3), (36, .aload_n 0, 1), (37, .bipush (-102), 2), (39, .invokevirtual 109, 3), (42, .ireturn, 1), (43, .aload_n 0, 1), (44, .getfield 100, 3), (47, .bipush 60, 2), (49, .if_icmp .ne 10, 3), (52, .aload_n 0, 1), (53, .bipush (-106), 2), (55, .invokevirtual 109, 3), (58, .ireturn, 1), (59, .aload_n 0, 1), (60, .aload_n 0, 1), (61, .getfield 100, 3), (64, .iload_n 1, 1), (65, .iload_n 2, 1), (66, .iload_n 3, 1), (67, .invokevirtual 177, 3), (70, .aload_n 0, 1), (71, .dup, 1), (72, .getfield 100, 3), (75, .dup_x1, 1), (76, .iconst 1, 1), (77, .iadd, 1), (78, .putfield 100, 3), (81, .ireturn, 1)]
def zi_222 : zIns := [(0, .aload_n 0, 1), (1, .iload_n 1, 1), (2, .invokevirtual 181, 3), (5, .ifCond .eq 27, 3), (8, .iload_n 2, 1), (9, .i2l, 1), (10, .lconst 0, 1), (11, .ldc2_w 184, 3), (14, .invokestatic 96, 3), (17, .ifCond .eq 15, 3), (20, .iload_n 3, 1), (21, .i2l, 1), (22, .lconst 0, 1), (23, .ldc2_w 175, 3), (26, .invokestatic 96, 3), (29, .ifCond .ne 10, 3), (32, .aload_n 0, 1), (33, .bipush (-102), 2), (35, .invokevirtual 109, 3), (38, .ireturn, 1), (39, .aload_n 0, 1), (40, .getfield 44, 3), (43, .iconst 3, 1), (44, .iload_n 1, 1), (45, .imul, 1), (46, .iload_n 2, 1), (47, .iadd, 1), (48, .iaload, 1), (49, .istore 4, 2), (51, .aload_n 0, 1), (52, .getfield 44, 3), (55, .iconst 3, 1), (56, .iload_n 1, 1), (57, .imul, 1), (58, .iload_n 2, 1), (59, .iadd, 1), (60, .iload_n 3, 1), (61, .iastore, 1), (62, .iload 4, 2), (64, .ireturn, 1)]
def zi_223 : zIns := [(0, .aload_n 0, 1), (1, .dup, 1), (2, .getfield 100, 3), (5, .iconst 1, 1), (6, .isub, 1), (7, .putfield 100, 3), (10, .iconst 3, 1), (11, .iload_n 1, 1), (12, .imul, 1), (13, .istore_n 2, 1), (14, .iload_n 2, 1), (15, .iconst 3, 1), (16, .aload_n 0, 1), (17, .getfield 100, 3), (20, .imul, 1), (21, .if_icmp .ge 23, 3), (24, .aload_n 0, 1), (25, .getfield 44, 3), (28, .iload_n 2, 1), (29, .aload_n 0, 1), (30, .getfield 44, 3), (33, .iload_n 2, 1), (34, .iconst 3, 1), (35, .iadd, 1), (36, .iaload, 1), (37, .iastore, 1), (38, .iinc 2 1, 3), (41, .goto (-27), 3), (44, .return_, 1)]
def zi_224 : zIns := [(0, .aload_n 0, 1), (1, .iload_n 1, 1), (2, .invokevirtual 181, 3), (5, .ifCond .ne 10, 3), (8, .aload_n 0, 1), (9, .bipush (-102), 2), (11, .invokevirtual 109, 3), (14, .ireturn, 1), (15, .aload_n 0, 1), (16, .iload_n 1, 1), (17, .invokevirtual 186, 3), (20, .aload_n 0, 1), (21, .getfield 100, 3), (24, .ireturn, 1)]
def zi_225 : zIns := [(0, .iload_n 1, 1), (1, .i2l, 1), (2, .lconst 0, 1), (3, .ldc2_w 189, 3), (6, .invokestatic 96, 3), (9, .ifCond .ne 10, 3), (12, .aload_n 0, 1), (13, .bipush (-102), 2), (15, .invokevirtual 109, 3), (18, .ireturn, 1), (19, .aload_n 0, 1), (20, .getfield 37, 3), (23, .istore_n 2, 1), (24, .aload_n 0, 1), (25, .iload_n 1, 1), (26, .putfield 37, 3), (29, .iload_n 2, 1), (30, .ireturn, 1)]
def zi_226 : zIns := [(0, .iload_n 1, 1), (1, .i2l, 1), (2, .lconst 0, 1), (3, .ldc2_w 191, 3), (6, .invokestatic 96, 3), (9, .ifCond .ne 10, 3), (12, .aload_n 0, 1), (13, .bipush (-102), 2), (15, .invokevirtual 109, 3), (18, .ireturn, 1), (19, .aload_n 0, 1), (20, .getfield 193, 3), (23, .sipush 250, 3), (26, .if_icmp .ne 10, 3), (29, .aload_n 0, 1), (30, .bipush (-106), 2), (32, .invokevirtual 109, 3), (35, .ireturn, 1), (36, .aload_n 0, 1), (37, .getfield 31, 3), (40, .aload_n 0, 1), (41, .dup, 1), (42, .getfield 193, 3), (45, .dup_x1, 1), (46, .iconst 1, 1), (47, .iadd, 1), (48, .putfield 193, 3), (51, .iload_n 1, 1), (52, .iastore, 1), (53, .aload_n 0, 1), (54, .getfield 193, 3), (57, .ireturn, 1)]
def zi_227 : zIns := [(0, .aload_n 0, 1), (1, .getfield 193, 3), (4, .istore_n 1, 1), (5, .aload_n 0, 1), (6, .iconst 0, 1), (7, .putfield 193, 3), (10, .iload_n 1, 1), (11, .ireturn, 1)]
def zi_228 : zIns := [(0, .iload_n 0, 1), (1, .bipush 46, 2), (3, .if_icmp .eq 17, 3), (6, .iload_n 0, 1), (7, .i2l, 1), (8, .ldc2_w 196, 3), (11, .ldc2_w 198, 3), (14, .invokestatic 96, 3), (17, .ifCond .eq 7, 3), (20, .iconst 1, 1), (21, .goto 4, 3), (24, .iconst 0, 1), (25, .ireturn, 1)]
def zi_229 : zIns := [(0, .iconst 0, 1), (1, .istore_n 1, 1), (2, .iconst 0, 1), (3, .istore_n 2, 1), (4, .iload_n 2, 1), (5, .aload_n 0, 1), (6, .getfield 193, 3), (9, .if_icmp .ge 61, 3), (12, .aload_n 0, 1), (13, .getfield 31, 3), (16, .iload_n 2, 1), (17, .iaload, 1), (18, .istore_n 3, 1), (19, .iload_n 3, 1), (20, .bipush 32, 2), (22, .if_icmp .ne 6, 3), (25, .goto 39, 3), (28, .iload_n 1, 1), (29, .iconst 3, 1), (30, .if_icmp .ne 12, 3), (33, .iload_n 3, 1), (34, .bipush 59, 2), (36, .if_icmp .eq 15, 3), (39, .goto 10, 3), (42, .iload_n 3, 1), (43, .invokestatic 200, 3), (46, .ifCond .ne 5, 3), (49, .iload_n 2, 1), (50, .ireturn, 1), (51, .iload_n 1, 1), (52, .iconst 3, 1), (53, .if_icmp .ne 7, 3), (56, .iconst 0, 1), (57, .goto 6, 3), (60, .iload_n 1, 1), (61, .iconst 1, 1), (62, .iadd, 1), (63, .istore_n 1, 1), (64, .iinc 2 1, 3), (67, .goto (-63), 3), (70, .iload_n 1, 1), (71, .iconst 3, 1), (72, .if_icmp .ne 7, 3), (75, .iconst (-1), 1), (76, .goto 7, 3), (79, .aload_n 0, 1), (80, .getfield 193, 3), (83, .ireturn, 1)]
def zi_230_0 : zIns := [(0, .aload_n 0, 1), (1, .invokevirtual 203, 3), (4, .istore_n 1, 1), (5, .aload_n 0, 1), (6, .getfield 193, 3), (9, .istore_n 2, 1), (10, .aload_n 0, 1), (11, .iconst 0, 1), (12, .putfield 193, 3), (15, .iload_n 1, 1), (16, .iconst (-1), 1), (17, .if_icmp .eq 16, 3), (20, .aload_n 0, 1), (21, .bipush (-102), 2), (23, .invokevirtual 109, 3), (26, .pop, 1), (27, .sipush (-200), 3), (30, .iload_n 1, 1), (31, .isub, 1), (32, .ireturn, 1), (33, .iconst 0, 1), (34, .istore_n 3, 1), (35, .iconst 0, 1), (36, .istore 4, 2), (38, .iload 4, 2), (40, .iload_n 2, 1), (41, .if_icmp .ge 30, 3), (44, .iload_n 3, 1), (45, .aload_n 0, 1), (46, .getfield 31, 3), (49, .iload 4, 2), (51, .iaload, 1), (52, .invokestatic 200, 3), (55, .ifCond .eq 7, 3), (58, .iconst 1, 1), (59, .goto 4, 3), (62, .iconst 0, 1), (63, .iadd, 1), (64, .istore_n 3, 1), (65, .iinc 4 1, 3), (68, .goto (-30), 3), (71, .aload_n 0, 1), (72, .getfield 100, 3), (75, .iload_n 3, 1), (76, .iconst 3, 1), (77, .idiv, 1), (78, .iadd, 1), (79, .bipush 60, 2), (81, .if_icmp .le 10, 3), (84, .aload_n 0, 1)]
def zi_230_1 : zIns := [(85, .bipush (-106), 2), (87, .invokevirtual 109, 3), (90, .ireturn, 1), (91, .iconst 3, 1), (92, .aload_n 0, 1), (93, .getfield 100, 3), (96, .imul, 1), (97, .istore 4, 2), (99, .iconst 0, 1), (100, .istore 5, 2), (102, .iload 5, 2), (104, .iload_n 2, 1), (105, .if_icmp .ge 58, 3), (108, .aload_n 0, 1), (109, .getfield 31, 3), (112, .iload 5, 2), (114, .iaload, 1), (115, .invokestatic 200, 3), (118, .ifCond .eq 39, 3), (121, .aload_n 0, 1), (122, .getfield 44, 3), (125, .iload 4, 2), (127, .iinc 4 1, 3), (130, .aload_n 0, 1), (131, .getfield 31, 3), (134, .iload 5, 2), (136, .iaload, 1), (137, .bipush 46, 2), (139, .if_icmp .ne 7, 3), (142, .iconst 0, 1), (143, .goto 13, 3), (146, .aload_n 0, 1), (147, .getfield 31, 3), (150, .iload 5, 2), (152, .iaload, 1), (153, .bipush 48, 2), (155, .isub, 1), (156, .iastore, 1), (157, .iinc 5 1, 3), (160, .goto (-58), 3), (163, .aload_n 0, 1), (164, .dup, 1), (165, .getfield 100, 3), (168, .iload_n 3, 1), (169, .iconst 3, 1), (170, .idiv, 1), (171, .iadd, 1), (172, .putfield 100, 3), (175, .iload_n 3, 1), (176, .iconst 3, 1)]
def zi_230_2 : zIns := [(177, .idiv, 1), (178, .ireturn, 1)]
def zi_230 : zIns := zi_230_0 ++ (zi_230_1 ++ (zi_230_2))
def zi_231 : zIns := [(0, .aload_n 0, 1), (1, .iconst (-1), 1), (2, .putfield 207, 3), (5, .iconst 0, 1), (6, .istore_n 1, 1), (7, .iload_n 1, 1), (8, .bipush 8, 2), (10, .if_icmp .ge 16, 3), (13, .aload_n 0, 1), (14, .getfield 90, 3), (17, .iload_n 1, 1), (18, .iconst (-1), 1), (19, .iastore, 1), (20, .iinc 1 1, 3), (23, .goto (-16), 3), (26, .return_, 1)]
def zi_232 : zIns := [(0, .aload_n 0, 1), (1, .getfield 210, 3), (4, .bipush 24, 2), (6, .if_icmp .ge 60, 3), (9, .aload_n 0, 1), (10, .getfield 47, 3), (13, .aload_n 0, 1), (14, .getfield 210, 3), (17, .iload_n 1, 1), (18, .iastore, 1), (19, .aload_n 0, 1), (20, .getfield 50, 3), (23, .aload_n 0, 1), (24, .getfield 210, 3), (27, .aload_n 0, 1), (28, .getfield 207, 3), (31, .iastore, 1), (32, .iconst 0, 1), (33, .istore_n 2, 1), (34, .iload_n 2, 1), (35, .bipush 8, 2), (37, .if_icmp .ge 29, 3), (40, .aload_n 0, 1), (41, .getfield 53, 3), (44, .bipush 8, 2), (46, .aload_n 0, 1), (47, .getfield 210, 3), (50, .imul, 1), (51, .iload_n 2, 1), (52, .iadd, 1), (53, .aload_n 0, 1), (54, .getfield 90, 3), (57, .iload_n 2, 1), (58, .iaload, 1), (59, .iastore, 1), (60, .iinc 2 1, 3), (63, .goto (-29), 3), (66, .aload_n 0, 1), (67, .dup, 1), (68, .getfield 210, 3), (71, .iconst 1, 1), (72, .iadd, 1), (73, .putfield 210, 3), (76, .aload_n 0, 1), (77, .getfield 210, 3), (80, .iconst 1, 1), (81, .isub, 1), (82, .ireturn, 1)]
def zi_233 : zIns := [(0, .aload_n 0, 1), (1, .invokevirtual 213, 3), (4, .aload_n 0, 1), (5, .getfield 90, 3), (8, .iconst 0, 1), (9, .iload_n 2, 1), (10, .iastore, 1), (11, .aload_n 0, 1), (12, .getfield 90, 3), (15, .iconst 1, 1), (16, .iload_n 3, 1), (17, .iastore, 1), (18, .aload_n 0, 1), (19, .iload_n 1, 1), (20, .invokevirtual 216, 3), (23, .ireturn, 1)]
def zi_234 : zIns := [(0, .aload_n 0, 1), (1, .getfield 219, 3), (4, .aload_n 0, 1), (5, .getfield 193, 3), (8, .if_icmp .ge 30, 3), (11, .aload_n 0, 1), (12, .getfield 31, 3), (15, .aload_n 0, 1), (16, .getfield 219, 3), (19, .iaload, 1), (20, .bipush 32, 2), (22, .if_icmp .ne 16, 3), (25, .aload_n 0, 1), (26, .dup, 1), (27, .getfield 219, 3), (30, .iconst 1, 1), (31, .iadd, 1), (32, .putfield 219, 3), (35, .goto (-35), 3), (38, .aload_n 0, 1), (39, .getfield 219, 3), (42, .aload_n 0, 1), (43, .getfield 193, 3), (46, .if_icmp .ge 15, 3), (49, .aload_n 0, 1), (50, .getfield 31, 3), (53, .aload_n 0, 1), (54, .getfield 219, 3), (57, .iaload, 1), (58, .goto 4, 3), (61, .iconst (-1), 1), (62, .ireturn, 1)]
def zi_235 : zIns := [(0, .aload_n 0, 1), (1, .getfield 222, 3), (4, .iconst (-1), 1), (5, .if_icmp .ne 15, 3), (8, .aload_n 0, 1), (9, .invokevirtual 225, 3), (12, .iload_n 1, 1), (13, .if_icmp .ne 7, 3), (16, .iconst 1, 1), (17, .goto 4, 3), (20, .iconst 0, 1), (21, .istore_n 2, 1), (22, .aload_n 0, 1), (23, .dup, 1), (24, .getfield 219, 3), (27, .iload_n 2, 1), (28, .ifCond .eq 7, 3), (31, .iconst 1, 1), (32, .goto 4, 3), (35, .iconst 0, 1), (36, .iadd, 1), (37, .putfield 219, 3), (40, .iload_n 2, 1), (41, .ireturn, 1)]
def zi_236 : zIns := [(0, .aload_n 0, 1), (1, .aload_n 0, 1), (2, .getfield 222, 3), (5, .iconst (-1), 1), (6, .if_icmp .ne 10, 3), (9, .aload_n 0, 1), (10, .getfield 219, 3), (13, .goto 7, 3), (16, .aload_n 0, 1), (17, .getfield 222, 3), (20, .putfield 222, 3), (23, .iconst 0, 1), (24, .ireturn, 1)]
def zi_237 : zIns := [(0, .aload_n 0, 1), (1, .getfield 222, 3), (4, .iconst (-1), 1), (5, .if_icmp .ne 16, 3), (8, .aload_n 0, 1), (9, .iload_n 1, 1), (10, .invokevirtual 228, 3), (13, .ifCond .ne 8, 3), (16, .aload_n 0, 1), (17, .invokevirtual 231, 3), (20, .pop, 1), (21, .return_, 1)]
def zi_238 : zIns := [(0, .iload_n 0, 1), (1, .bipush 60, 2), (3, .if_icmp .ne 7, 3), (6, .iconst 0, 1), (7, .goto 34, 3), (10, .iload_n 0, 1), (11, .bipush 61, 2), (13, .if_icmp .ne 7, 3), (16, .iconst 1, 1), (17, .goto 24, 3), (20, .iload_n 0, 1), (21, .bipush 62, 2), (23, .if_icmp .ne 7, 3), (26, .iconst 2, 1), (27, .goto 14, 3), (30, .iload_n 0, 1), (31, .bipush 126, 2), (33, .if_icmp .ne 7, 3), (36, .iconst 3, 1), (37, .goto 4, 3), (40, .iconst (-1), 1), (41, .ireturn, 1)]
def zi_239 : zIns := [(0, .aload_n 0, 1), (1, .getfield 222, 3), (4, .iconst (-1), 1), (5, .if_icmp .ne 24, 3), (8, .aload_n 0, 1), (9, .invokevirtual 225, 3), (12, .i2l, 1), (13, .bipush 48, 2), (15, .iload_n 1, 1), (16, .iadd, 1), (17, .i2l, 1), (18, .bipush 48, 2), (20, .iload_n 2, 1), (21, .iadd, 1), (22, .i2l, 1), (23, .invokestatic 96, 3), (26, .ifCond .ne 8, 3), (29, .aload_n 0, 1), (30, .invokevirtual 231, 3), (33, .ireturn, 1), (34, .aload_n 0, 1), (35, .getfield 31, 3), (38, .aload_n 0, 1), (39, .dup, 1), (40, .getfield 219, 3), (43, .dup_x1, 1), (44, .iconst 1, 1), (45, .iadd, 1), (46, .putfield 219, 3), (49, .iaload, 1), (50, .bipush 48, 2), (52, .isub, 1), (53, .ireturn, 1)]
def zi_240 : zIns := [(0, .aload_n 0, 1), (1, .aload_n 0, 1), (2, .getfield 222, 3), (5, .iconst (-1), 1), (6, .if_icmp .ne 13, 3), (9, .aload_n 0, 1), (10, .invokevirtual 225, 3), (13, .invokestatic 234, 3), (16, .goto 4, 3), (19, .iconst (-1), 1), (20, .putfield 207, 3), (23, .aload_n 0, 1), (24, .getfield 207, 3), (27, .iconst (-1), 1), (28, .if_icmp .ne 11, 3), (31, .aload_n 0, 1), (32, .invokevirtual 231, 3), (35, .pop, 1), (36, .goto 13, 3), (39, .aload_n 0, 1), (40, .dup, 1), (41, .getfield 219, 3), (44, .iconst 1, 1), (45, .iadd, 1), (46, .putfield 219, 3), (49, .return_, 1)]
def zi_241_0 : zIns := [(0, .aload_n 0, 1), (1, .getfield 90, 3), (4, .iconst 1, 1), (5, .iload_n 1, 1), (6, .iastore, 1), (7, .iconst 1, 1), (8, .istore_n 2, 1), (9, .iload_n 2, 1), (10, .iconst 3, 1), (11, .if_icmp .ge 85, 3), (14, .aload_n 0, 1), (15, .invokevirtual 225, 3), (18, .i2l, 1), (19, .ldc2_w 237, 3), (22, .ldc2_w 239, 3), (25, .invokestatic 96, 3), (28, .ifCond .eq 68, 3), (31, .aload_n 0, 1), (32, .getfield 31, 3), (35, .aload_n 0, 1), (36, .getfield 219, 3), (39, .iaload, 1), (40, .bipush 97, 2), (42, .isub, 1), (43, .istore_n 3, 1), (44, .iload_n 3, 1), (45, .iload_n 1, 1), (46, .if_icmp .eq 18, 3), (49, .iload_n 2, 1), (50, .iconst 2, 1), (51, .if_icmp .ne 18, 3), (54, .iload_n 3, 1), (55, .aload_n 0, 1), (56, .getfield 90, 3), (59, .iconst 3, 1), (60, .iaload, 1), (61, .if_icmp .ne 8, 3), (64, .aload_n 0, 1), (65, .invokevirtual 231, 3), (68, .ireturn, 1), (69, .aload_n 0, 1), (70, .getfield 90, 3), (73, .iconst 1, 1), (74, .iconst 2, 1), (75, .iload_n 2, 1), (76, .imul, 1), (77, .iadd, 1), (78, .iload_n 3, 1), (79, .iastore, 1), (80, .iinc 2 1, 3)]
def zi_241_1 : zIns := [(83, .aload_n 0, 1), (84, .dup, 1), (85, .getfield 219, 3), (88, .iconst 1, 1), (89, .iadd, 1), (90, .putfield 219, 3), (93, .goto (-84), 3), (96, .aload_n 0, 1), (97, .getfield 90, 3), (100, .iconst 0, 1), (101, .iload_n 2, 1), (102, .iastore, 1), (103, .aload_n 0, 1), (104, .invokevirtual 241, 3), (107, .iconst 0, 1), (108, .istore_n 3, 1), (109, .iload_n 3, 1), (110, .iload_n 2, 1), (111, .if_icmp .ge 26, 3), (114, .aload_n 0, 1), (115, .getfield 90, 3), (118, .iconst 2, 1), (119, .iconst 2, 1), (120, .iload_n 3, 1), (121, .imul, 1), (122, .iadd, 1), (123, .aload_n 0, 1), (124, .iconst 1, 1), (125, .bipush 9, 2), (127, .invokevirtual 244, 3), (130, .iastore, 1), (131, .iinc 3 1, 3), (134, .goto (-25), 3), (137, .aload_n 0, 1), (138, .getfield 222, 3), (141, .iconst (-1), 1), (142, .if_icmp .eq 7, 3), (145, .iconst 0, 1), (146, .goto 8, 3), (149, .aload_n 0, 1), (150, .iconst 5, 1), (151, .invokevirtual 216, 3), (154, .ireturn, 1)]
def zi_241 : zIns := zi_241_0 ++ (zi_241_1)
def zi_242_0 : zIns := [(0, .aload_n 0, 1), (1, .getfield 90, 3), (4, .iconst 0, 1), (5, .iload_n 1, 1), (6, .iastore, 1), (7, .aload_n 0, 1), (8, .getfield 90, 3), (11, .iconst 1, 1), (12, .iconst 1, 1), (13, .aload_n 0, 1), (14, .iconst 1, 1), (15, .bipush 9, 2), (17, .invokevirtual 244, 3), (20, .ishl, 1), (21, .iastore, 1), (22, .aload_n 0, 1), (23, .getfield 222, 3), (26, .iconst (-1), 1), (27, .if_icmp .ne 53, 3), (30, .aload_n 0, 1), (31, .invokevirtual 225, 3), (34, .i2l, 1), (35, .ldc2_w 196, 3), (38, .ldc2_w 198, 3), (41, .invokestatic 96, 3), (44, .ifCond .eq 36, 3), (47, .aload_n 0, 1), (48, .getfield 90, 3), (51, .iconst 1, 1), (52, .dup2, 1), (53, .iaload, 1), (54, .iconst 1, 1), (55, .aload_n 0, 1), (56, .getfield 31, 3), (59, .aload_n 0, 1), (60, .dup, 1), (61, .getfield 219, 3), (64, .dup_x1, 1), (65, .iconst 1, 1), (66, .iadd, 1), (67, .putfield 219, 3), (70, .iaload, 1), (71, .bipush 48, 2), (73, .isub, 1), (74, .ishl, 1), (75, .ior, 1), (76, .iastore, 1), (77, .goto (-55), 3), (80, .aload_n 0, 1), (81, .bipush 93, 2)]
def zi_242_1 : zIns := [(83, .invokevirtual 247, 3), (86, .aload_n 0, 1), (87, .getfield 222, 3), (90, .iconst (-1), 1), (91, .if_icmp .eq 7, 3), (94, .iconst 0, 1), (95, .goto 8, 3), (98, .aload_n 0, 1), (99, .iconst 1, 1), (100, .invokevirtual 216, 3), (103, .ireturn, 1)]
def zi_242 : zIns := zi_242_0 ++ (zi_242_1)
def zi_243_0 : zIns := [(0, .aload_n 0, 1), (1, .invokevirtual 213, 3), (4, .aload_n 0, 1), (5, .invokevirtual 225, 3), (8, .istore_n 2, 1), (9, .iload_n 2, 1), (10, .i2l, 1), (11, .ldc2_w 237, 3), (14, .ldc2_w 239, 3), (17, .invokestatic 96, 3), (20, .ifCond .eq 9, 3), (23, .aload_n 0, 1), (24, .iload_n 1, 1), (25, .invokevirtual 250, 3), (28, .ireturn, 1), (29, .aload_n 0, 1), (30, .getfield 90, 3), (33, .iconst 0, 1), (34, .iload_n 1, 1), (35, .iastore, 1), (36, .iload_n 2, 1), (37, .bipush 91, 2), (39, .if_icmp .ne 19, 3), (42, .aload_n 0, 1), (43, .dup, 1), (44, .getfield 219, 3), (47, .iconst 1, 1), (48, .iadd, 1), (49, .putfield 219, 3), (52, .aload_n 0, 1), (53, .iload_n 1, 1), (54, .invokevirtual 253, 3), (57, .ireturn, 1), (58, .iload_n 2, 1), (59, .bipush 63, 2), (61, .if_icmp .ne 19, 3), (64, .aload_n 0, 1), (65, .dup, 1), (66, .getfield 219, 3), (69, .iconst 1, 1), (70, .iadd, 1), (71, .putfield 219, 3), (74, .aload_n 0, 1), (75, .iconst 2, 1), (76, .invokevirtual 216, 3), (79, .ireturn, 1), (80, .iload_n 2, 1), (81, .bipush 37, 2), (83, .if_icmp .ne 63, 3), (86, .aload_n 0, 1)]
def zi_243_1 : zIns := [(87, .dup, 1), (88, .getfield 219, 3), (91, .iconst 1, 1), (92, .iadd, 1), (93, .putfield 219, 3), (96, .aload_n 0, 1), (97, .getfield 90, 3), (100, .iconst 1, 1), (101, .aload_n 0, 1), (102, .iconst 2, 1), (103, .bipush 9, 2), (105, .invokevirtual 244, 3), (108, .iastore, 1), (109, .aload_n 0, 1), (110, .getfield 90, 3), (113, .iconst 2, 1), (114, .aload_n 0, 1), (115, .iconst 0, 1), (116, .aload_n 0, 1), (117, .getfield 90, 3), (120, .iconst 1, 1), (121, .iaload, 1), (122, .iconst 1, 1), (123, .isub, 1), (124, .invokevirtual 244, 3), (127, .iastore, 1), (128, .aload_n 0, 1), (129, .getfield 222, 3), (132, .iconst (-1), 1), (133, .if_icmp .eq 7, 3), (136, .iconst 0, 1), (137, .goto 8, 3), (140, .aload_n 0, 1), (141, .iconst 4, 1), (142, .invokevirtual 216, 3), (145, .ireturn, 1), (146, .aload_n 0, 1), (147, .invokevirtual 241, 3), (150, .aload_n 0, 1), (151, .getfield 222, 3), (154, .iconst (-1), 1), (155, .if_icmp .ne 62, 3), (158, .aload_n 0, 1), (159, .invokevirtual 225, 3), (162, .i2l, 1), (163, .ldc2_w 237, 3), (166, .ldc2_w 239, 3), (169, .invokestatic 96, 3), (172, .ifCond .eq 45, 3), (175, .aload_n 0, 1)]
def zi_243_2 : zIns := [(176, .invokevirtual 225, 3), (179, .bipush 97, 2), (181, .iload_n 1, 1), (182, .iadd, 1), (183, .if_icmp .eq 34, 3), (186, .aload_n 0, 1), (187, .getfield 90, 3), (190, .iconst 1, 1), (191, .aload_n 0, 1), (192, .getfield 31, 3), (195, .aload_n 0, 1), (196, .dup, 1), (197, .getfield 219, 3), (200, .dup_x1, 1), (201, .iconst 1, 1), (202, .iadd, 1), (203, .putfield 219, 3), (206, .iaload, 1), (207, .bipush 97, 2), (209, .isub, 1), (210, .iastore, 1), (211, .aload_n 0, 1), (212, .iconst 3, 1), (213, .invokevirtual 216, 3), (216, .ireturn, 1), (217, .aload_n 0, 1), (218, .getfield 90, 3), (221, .iconst 1, 1), (222, .aload_n 0, 1), (223, .iconst 1, 1), (224, .bipush 9, 2), (226, .invokevirtual 244, 3), (229, .iastore, 1), (230, .aload_n 0, 1), (231, .getfield 222, 3), (234, .iconst (-1), 1), (235, .if_icmp .eq 7, 3), (238, .iconst 0, 1), (239, .goto 8, 3), (242, .aload_n 0, 1), (243, .iconst 0, 1), (244, .invokevirtual 216, 3), (247, .ireturn, 1)]
def zi_243 : zIns := zi_243_0 ++ (zi_243_1 ++ (zi_243_2))
def zi_244_0 : zIns := [(0, .aload_n 0, 1), (1, .bipush 45, 2), (3, .invokevirtual 228, 3), (6, .ifCond .ne 12, 3), (9, .aload_n 0, 1), (10, .bipush 43, 2), (12, .invokevirtual 228, 3), (15, .ifCond .eq 52, 3), (18, .aload_n 0, 1), (19, .getfield 31, 3), (22, .aload_n 0, 1), (23, .getfield 219, 3), (26, .iconst 1, 1), (27, .isub, 1), (28, .iaload, 1), (29, .bipush 45, 2), (31, .if_icmp .ne 8, 3), (34, .bipush 8, 2), (36, .goto 5, 3), (39, .bipush 9, 2), (41, .istore_n 1, 1), (42, .aload_n 0, 1), (43, .invokevirtual 256, 3), (46, .istore_n 2, 1), (47, .aload_n 0, 1), (48, .getfield 222, 3), (51, .iconst (-1), 1), (52, .if_icmp .eq 7, 3), (55, .iconst 0, 1), (56, .goto 10, 3), (59, .aload_n 0, 1), (60, .iload_n 1, 1), (61, .iload_n 2, 1), (62, .iconst (-1), 1), (63, .invokevirtual 259, 3), (66, .ireturn, 1), (67, .aload_n 0, 1), (68, .bipush 40, 2), (70, .invokevirtual 228, 3), (73, .ifCond .eq 16, 3), (76, .aload_n 0, 1), (77, .invokevirtual 262, 3), (80, .istore_n 1, 1), (81, .aload_n 0, 1), (82, .bipush 41, 2), (84, .invokevirtual 247, 3), (87, .iload_n 1, 1), (88, .ireturn, 1), (89, .aload_n 0, 1), (90, .getfield 222, 3)]
def zi_244_1 : zIns := [(93, .iconst (-1), 1), (94, .if_icmp .ne 20, 3), (97, .aload_n 0, 1), (98, .invokevirtual 225, 3), (101, .i2l, 1), (102, .ldc2_w 237, 3), (105, .ldc2_w 239, 3), (108, .invokestatic 96, 3), (111, .ifCond .ne 8, 3), (114, .aload_n 0, 1), (115, .invokevirtual 231, 3), (118, .ireturn, 1), (119, .aload_n 0, 1), (120, .dup, 1), (121, .getfield 219, 3), (124, .iconst 1, 1), (125, .iadd, 1), (126, .putfield 219, 3), (129, .aload_n 0, 1), (130, .aload_n 0, 1), (131, .getfield 31, 3), (134, .aload_n 0, 1), (135, .getfield 219, 3), (138, .iconst 1, 1), (139, .isub, 1), (140, .iaload, 1), (141, .bipush 97, 2), (143, .isub, 1), (144, .invokevirtual 265, 3), (147, .ireturn, 1)]
def zi_244 : zIns := zi_244_0 ++ (zi_244_1)
def zi_245 : zIns := [(0, .aload_n 0, 1), (1, .invokevirtual 256, 3), (4, .istore_n 1, 1), (5, .aload_n 0, 1), (6, .bipush 38, 2), (8, .invokevirtual 228, 3), (11, .ifCond .eq 32, 3), (14, .aload_n 0, 1), (15, .invokevirtual 256, 3), (18, .istore_n 2, 1), (19, .aload_n 0, 1), (20, .getfield 222, 3), (23, .iconst (-1), 1), (24, .if_icmp .eq 7, 3), (27, .iconst 0, 1), (28, .goto 11, 3), (31, .aload_n 0, 1), (32, .bipush 6, 2), (34, .iload_n 1, 1), (35, .iload_n 2, 1), (36, .invokevirtual 259, 3), (39, .istore_n 1, 1), (40, .goto (-35), 3), (43, .iload_n 1, 1), (44, .ireturn, 1)]
def zi_246 : zIns := [(0, .aload_n 0, 1), (1, .invokevirtual 268, 3), (4, .istore_n 1, 1), (5, .aload_n 0, 1), (6, .bipush 124, 2), (8, .invokevirtual 228, 3), (11, .ifCond .eq 32, 3), (14, .aload_n 0, 1), (15, .invokevirtual 268, 3), (18, .istore_n 2, 1), (19, .aload_n 0, 1), (20, .getfield 222, 3), (23, .iconst (-1), 1), (24, .if_icmp .eq 7, 3), (27, .iconst 0, 1), (28, .goto 11, 3), (31, .aload_n 0, 1), (32, .bipush 7, 2), (34, .iload_n 1, 1), (35, .iload_n 2, 1), (36, .invokevirtual 259, 3), (39, .istore_n 1, 1), (40, .goto (-35), 3), (43, .iload_n 1, 1), (44, .ireturn, 1)]
def zi_247_0 : zIns := [(0, .aload_n 0, 1), (1, .iconst 0, 1), (2, .putfield 219, 3), (5, .aload_n 0, 1), (6, .iconst (-1), 1), (7, .putfield 222, 3), (10, .aload_n 0, 1), (11, .aload_n 0, 1), (12, .getfield 93, 3), (15, .putfield 210, 3), (18, .aload_n 0, 1), (19, .invokevirtual 262, 3), (22, .pop, 1), (23, .aload_n 0, 1), (24, .getfield 222, 3), (27, .iconst (-1), 1), (28, .if_icmp .ne 16, 3), (31, .aload_n 0, 1), (32, .invokevirtual 225, 3), (35, .iconst (-1), 1), (36, .if_icmp .eq 8, 3), (39, .aload_n 0, 1), (40, .invokevirtual 231, 3), (43, .pop, 1), (44, .aload_n 0, 1), (45, .iconst 0, 1), (46, .putfield 193, 3), (49, .aload_n 0, 1), (50, .getfield 222, 3), (53, .iconst (-1), 1), (54, .if_icmp .eq 19, 3), (57, .aload_n 0, 1), (58, .bipush (-102), 2), (60, .invokevirtual 109, 3), (63, .pop, 1), (64, .sipush (-200), 3), (67, .aload_n 0, 1), (68, .getfield 222, 3), (71, .isub, 1), (72, .ireturn, 1), (73, .aload_n 0, 1), (74, .getfield 210, 3), (77, .bipush 24, 2), (79, .if_icmp .le 10, 3), (82, .aload_n 0, 1), (83, .bipush (-106), 2), (85, .invokevirtual 109, 3), (88, .ireturn, 1), (89, .aload_n 0, 1), (90, .invokevirtual 271, 3)]
def zi_247_1 : zIns := [(93, .ireturn, 1)]
def zi_247 : zIns := zi_247_0 ++ (zi_247_1)
def zi_248 : zIns := [(0, .aload_n 0, 1), (1, .getfield 93, 3), (4, .istore_n 1, 1), (5, .aload_n 0, 1), (6, .aload_n 0, 1), (7, .getfield 210, 3), (10, .putfield 93, 3), (13, .aload_n 0, 1), (14, .iload_n 1, 1), (15, .invokevirtual 274, 3), (18, .aload_n 0, 1), (19, .getfield 93, 3), (22, .iconst 1, 1), (23, .isub, 1), (24, .ireturn, 1)]
def zi_249 : zIns := [(0, .aload_n 0, 1), (1, .getfield 93, 3), (4, .bipush 24, 2), (6, .if_icmp .ne 10, 3), (9, .aload_n 0, 1), (10, .bipush (-106), 2), (12, .invokevirtual 109, 3), (15, .ireturn, 1), (16, .aload_n 0, 1), (17, .aload_n 0, 1), (18, .getfield 93, 3), (21, .putfield 210, 3), (24, .aload_n 0, 1), (25, .iload_n 1, 1), (26, .invokevirtual 216, 3), (29, .pop, 1), (30, .aload_n 0, 1), (31, .invokevirtual 271, 3), (34, .ireturn, 1)]
def zi_250 : zIns := [(0, .aload_n 0, 1), (1, .invokevirtual 213, 3), (4, .aload_n 0, 1), (5, .iload_n 2, 1), (6, .putfield 207, 3), (9, .aload_n 0, 1), (10, .getfield 90, 3), (13, .iconst 0, 1), (14, .iload_n 3, 1), (15, .iastore, 1), (16, .aload_n 0, 1), (17, .getfield 90, 3), (20, .iconst 1, 1), (21, .iload 4, 2), (23, .iastore, 1), (24, .aload_n 0, 1), (25, .getfield 90, 3), (28, .iconst 2, 1), (29, .iload 5, 2), (31, .iastore, 1), (32, .aload_n 0, 1), (33, .iload_n 1, 1), (34, .invokevirtual 277, 3), (37, .ireturn, 1)]
def zi_251 : zIns := [(0, .iload_n 0, 1), (1, .i2l, 1), (2, .lconst 0, 1), (3, .ldc2_w 184, 3), (6, .invokestatic 96, 3), (9, .ireturn, 1)]
def zi_252 : zIns := [(0, .iload_n 1, 1), (1, .invokestatic 280, 3), (4, .ifCond .eq 39, 3), (7, .iload_n 2, 1), (8, .i2l, 1), (9, .lconst 0, 1), (10, .ldc2_w 283, 3), (13, .invokestatic 96, 3), (16, .ifCond .eq 27, 3), (19, .iload_n 3, 1), (20, .i2l, 1), (21, .lconst 1, 1), (22, .ldc2_w 175, 3), (25, .invokestatic 96, 3), (28, .ifCond .eq 15, 3), (31, .aload_n 0, 1), (32, .iconst 0, 1), (33, .iload_n 2, 1), (34, .iload_n 1, 1), (35, .iload_n 3, 1), (36, .iconst (-1), 1), (37, .invokevirtual 285, 3), (40, .goto 9, 3), (43, .aload_n 0, 1), (44, .bipush (-102), 2), (46, .invokevirtual 109, 3), (49, .ireturn, 1)]
def zi_253 : zIns := [(0, .iload_n 1, 1), (1, .invokestatic 280, 3), (4, .ifCond .eq 27, 3), (7, .iload_n 2, 1), (8, .ifCond .eq 23, 3), (11, .iload_n 2, 1), (12, .sipush (-1023), 3), (15, .iand, 1), (16, .ifCond .ne 15, 3), (19, .aload_n 0, 1), (20, .iconst 1, 1), (21, .iconst (-1), 1), (22, .iload_n 1, 1), (23, .iload_n 2, 1), (24, .iconst (-1), 1), (25, .invokevirtual 285, 3), (28, .goto 9, 3), (31, .aload_n 0, 1), (32, .bipush (-102), 2), (34, .invokevirtual 109, 3), (37, .ireturn, 1)]
def zi_254 : zIns := [(0, .iload_n 1, 1), (1, .invokestatic 280, 3), (4, .ifCond .eq 15, 3), (7, .aload_n 0, 1), (8, .iconst 2, 1), (9, .iconst (-1), 1), (10, .iload_n 1, 1), (11, .iconst (-1), 1), (12, .iconst (-1), 1), (13, .invokevirtual 285, 3), (16, .goto 9, 3), (19, .aload_n 0, 1), (20, .bipush (-102), 2), (22, .invokevirtual 109, 3), (25, .ireturn, 1)]
def zi_255 : zIns := [(0, .iload_n 1, 1), (1, .invokestatic 280, 3), (4, .ifCond .eq 39, 3), (7, .iload_n 2, 1), (8, .i2l, 1), (9, .lconst 0, 1), (10, .ldc2_w 283, 3), (13, .invokestatic 96, 3), (16, .ifCond .eq 27, 3), (19, .iload_n 3, 1), (20, .invokestatic 280, 3), (23, .ifCond .eq 20, 3), (26, .iload_n 1, 1), (27, .iload_n 3, 1), (28, .if_icmp .eq 15, 3), (31, .aload_n 0, 1), (32, .iconst 3, 1), (33, .iload_n 2, 1), (34, .iload_n 1, 1), (35, .iload_n 3, 1), (36, .iconst (-1), 1), (37, .invokevirtual 285, 3), (40, .goto 9, 3), (43, .aload_n 0, 1), (44, .bipush (-102), 2), (46, .invokevirtual 109, 3), (49, .ireturn, 1)]
def zi_256 : zIns := [(0, .iload_n 1, 1), (1, .invokestatic 280, 3), (4, .ifCond .eq 42, 3), (7, .iload_n 2, 1), (8, .i2l, 1), (9, .ldc2_w 184, 3), (12, .ldc2_w 175, 3), (15, .invokestatic 96, 3), (18, .ifCond .eq 28, 3), (21, .iload_n 3, 1), (22, .i2l, 1), (23, .lconst 0, 1), (24, .iload_n 2, 1), (25, .iconst 1, 1), (26, .isub, 1), (27, .i2l, 1), (28, .invokestatic 96, 3), (31, .ifCond .eq 15, 3), (34, .aload_n 0, 1), (35, .iconst 4, 1), (36, .iconst (-1), 1), (37, .iload_n 1, 1), (38, .iload_n 2, 1), (39, .iload_n 3, 1), (40, .invokevirtual 285, 3), (43, .goto 9, 3), (46, .aload_n 0, 1), (47, .bipush (-102), 2), (49, .invokevirtual 109, 3), (52, .ireturn, 1)]
def zi_257 : zIns := [(0, .aload_n 0, 1), (1, .iload_n 1, 1), (2, .invokevirtual 113, 3), (5, .istore_n 3, 1), (6, .iload_n 3, 1), (7, .ifCond .eq 7, 3), (10, .iload_n 3, 1), (11, .goto 23, 3), (14, .iload_n 2, 1), (15, .aload_n 0, 1), (16, .getfield 16, 3), (19, .iload_n 1, 1), (20, .iaload, 1), (21, .if_icmp .le 12, 3), (24, .aload_n 0, 1), (25, .bipush (-102), 2), (27, .invokevirtual 109, 3), (30, .goto 4, 3), (33, .iconst 0, 1), (34, .ireturn, 1)]
def zi_258_0 : zIns := [(0, .iload_n 1, 1), (1, .i2l, 1), (2, .lconst 0, 1), (3, .ldc2_w 103, 3), (6, .invokestatic 96, 3), (9, .ifCond .eq 29, 3), (12, .iload_n 3, 1), (13, .i2l, 1), (14, .lconst 0, 1), (15, .ldc2_w 283, 3), (18, .invokestatic 96, 3), (21, .ifCond .eq 17, 3), (24, .iload_n 2, 1), (25, .i2l, 1), (26, .ldc2_w 184, 3), (29, .ldc2_w 283, 3), (32, .invokestatic 96, 3), (35, .ifCond .ne 10, 3), (38, .aload_n 0, 1), (39, .bipush (-102), 2), (41, .invokevirtual 109, 3), (44, .ireturn, 1), (45, .aload_n 0, 1), (46, .iload_n 1, 1), (47, .iconst 2, 1), (48, .iload_n 2, 1), (49, .imul, 1), (50, .invokevirtual 289, 3), (53, .istore 4, 2), (55, .iload 4, 2), (57, .ifCond .eq 6, 3), (60, .iload 4, 2), (62, .ireturn, 1), (63, .aload_n 0, 1), (64, .invokevirtual 213, 3), (67, .iconst 0, 1), (68, .istore 5, 2), (70, .iconst 0, 1), (71, .istore 6, 2), (73, .iload 6, 2), (75, .iload_n 2, 1), (76, .if_icmp .ge 118, 3), (79, .aload_n 0, 1), (80, .getfield 21, 3), (83, .iload_n 1, 1), (84, .aaload, 1), (85, .iconst 2, 1), (86, .iload 6, 2), (88, .imul, 1), (89, .laload, 1)]
def zi_258_1 : zIns := [(90, .lstore 7, 2), (92, .aload_n 0, 1), (93, .getfield 21, 3), (96, .iload_n 1, 1), (97, .aaload, 1), (98, .iconst 2, 1), (99, .iload 6, 2), (101, .imul, 1), (102, .iconst 1, 1), (103, .iadd, 1), (104, .laload, 1), (105, .lstore 9, 2), (107, .lload 7, 2), (109, .lconst 0, 1), (110, .ldc2_w 184, 3), (113, .invokestatic 96, 3), (116, .ifCond .eq 27, 3), (119, .iload 5, 2), (121, .lload 7, 2), (123, .l2i, 1), (124, .ishr, 1), (125, .iconst 1, 1), (126, .iand, 1), (127, .iconst 1, 1), (128, .if_icmp .eq 15, 3), (131, .lload 9, 2), (133, .lconst 1, 1), (134, .ldc2_w 175, 3), (137, .invokestatic 96, 3), (140, .ifCond .ne 10, 3), (143, .aload_n 0, 1), (144, .bipush (-105), 2), (146, .invokevirtual 109, 3), (149, .ireturn, 1), (150, .iload 5, 2), (152, .iconst 1, 1), (153, .lload 7, 2), (155, .l2i, 1), (156, .ishl, 1), (157, .ior, 1), (158, .istore 5, 2), (160, .aload_n 0, 1), (161, .getfield 90, 3), (164, .iconst 1, 1), (165, .iconst 2, 1), (166, .iload 6, 2), (168, .imul, 1), (169, .iadd, 1), (170, .lload 7, 2), (172, .l2i, 1)]
def zi_258_2 : zIns := [(173, .iastore, 1), (174, .aload_n 0, 1), (175, .getfield 90, 3), (178, .iconst 2, 1), (179, .iconst 2, 1), (180, .iload 6, 2), (182, .imul, 1), (183, .iadd, 1), (184, .lload 9, 2), (186, .l2i, 1), (187, .iastore, 1), (188, .iinc 6 1, 3), (191, .goto (-118), 3), (194, .aload_n 0, 1), (195, .getfield 90, 3), (198, .iconst 0, 1), (199, .iload_n 2, 1), (200, .iastore, 1), (201, .aload_n 0, 1), (202, .iload_n 3, 1), (203, .putfield 207, 3), (206, .aload_n 0, 1), (207, .iconst 5, 1), (208, .invokevirtual 277, 3), (211, .ireturn, 1)]
def zi_258 : zIns := zi_258_0 ++ (zi_258_1 ++ (zi_258_2))
def zi_259 : zIns := [(0, .iload_n 1, 1), (1, .i2l, 1), (2, .ldc2_w 124, 3), (5, .ldc2_w 103, 3), (8, .invokestatic 96, 3), (11, .ifCond .eq 31, 3), (14, .aload_n 0, 1), (15, .iload_n 2, 1), (16, .invokevirtual 120, 3), (19, .ifCond .eq 23, 3), (22, .aload_n 0, 1), (23, .iload_n 3, 1), (24, .invokevirtual 120, 3), (27, .ifCond .eq 15, 3), (30, .aload_n 0, 1), (31, .iload_n 1, 1), (32, .iconst (-1), 1), (33, .iload_n 2, 1), (34, .iload_n 3, 1), (35, .iconst (-1), 1), (36, .invokevirtual 285, 3), (39, .goto 9, 3), (42, .aload_n 0, 1), (43, .bipush (-102), 2), (45, .invokevirtual 109, 3), (48, .ireturn, 1)]
def zi_260 : zIns := [(0, .iload_n 1, 1), (1, .i2l, 1), (2, .ldc2_w 292, 3), (5, .ldc2_w 175, 3), (8, .invokestatic 96, 3), (11, .ifCond .eq 23, 3), (14, .aload_n 0, 1), (15, .iload_n 2, 1), (16, .invokevirtual 120, 3), (19, .ifCond .eq 15, 3), (22, .aload_n 0, 1), (23, .iload_n 1, 1), (24, .iconst (-1), 1), (25, .iload_n 2, 1), (26, .iconst (-1), 1), (27, .iconst (-1), 1), (28, .invokevirtual 285, 3), (31, .goto 9, 3), (34, .aload_n 0, 1), (35, .bipush (-102), 2), (37, .invokevirtual 109, 3), (40, .ireturn, 1)]
def zi_261 : zIns := [(0, .aload_n 0, 1), (1, .getfield 93, 3), (4, .ifCond .ne 10, 3), (7, .aload_n 0, 1), (8, .bipush (-105), 2), (10, .invokevirtual 109, 3), (13, .ireturn, 1), (14, .aload_n 0, 1), (15, .dup, 1), (16, .getfield 93, 3), (19, .iconst 1, 1), (20, .isub, 1), (21, .putfield 93, 3), (24, .iconst 0, 1), (25, .istore_n 1, 1), (26, .iload_n 1, 1), (27, .bipush 8, 2), (29, .if_icmp .ge 48, 3), (32, .aload_n 0, 1), (33, .getfield 7, 3), (36, .iload_n 1, 1), (37, .aload_n 0, 1), (38, .getfield 7, 3), (41, .iload_n 1, 1), (42, .iaload, 1), (43, .iconst 2, 1), (44, .if_icmp .ne 20, 3), (47, .aload_n 0, 1), (48, .getfield 28, 3), (51, .iload_n 1, 1), (52, .iaload, 1), (53, .aload_n 0, 1), (54, .getfield 93, 3), (57, .if_icmp .ne 7, 3), (60, .iconst 0, 1), (61, .goto 9, 3), (64, .aload_n 0, 1), (65, .getfield 7, 3), (68, .iload_n 1, 1), (69, .iaload, 1), (70, .iastore, 1), (71, .iinc 1 1, 3), (74, .goto (-48), 3), (77, .aload_n 0, 1), (78, .getfield 93, 3), (81, .ireturn, 1)]
def zi_262_0 : zIns := [(0, .aload_n 0, 1), (1, .iload_n 1, 1), (2, .invokevirtual 120, 3), (5, .ifCond .eq 15, 3), (8, .iload_n 2, 1), (9, .i2l, 1), (10, .lconst 0, 1), (11, .ldc2_w 124, 3), (14, .invokestatic 96, 3), (17, .ifCond .ne 10, 3), (20, .aload_n 0, 1), (21, .bipush (-102), 2), (23, .invokevirtual 109, 3), (26, .ireturn, 1), (27, .iload_n 2, 1), (28, .tableswitch 131 0 5 #[40, 47, 72, 110, 117, 124], 40), (68, .aload_n 0, 1), (69, .getfield 47, 3), (72, .iload_n 1, 1), (73, .iaload, 1), (74, .ireturn, 1), (75, .aload_n 0, 1), (76, .getfield 47, 3), (79, .iload_n 1, 1), (80, .iaload, 1), (81, .bipush 6, 2), (83, .if_icmp .lt 15, 3), (86, .aload_n 0, 1), (87, .getfield 53, 3), (90, .bipush 8, 2), (92, .iload_n 1, 1), (93, .imul, 1), (94, .iaload, 1), (95, .goto 4, 3), (98, .iconst (-1), 1), (99, .ireturn, 1), (100, .aload_n 0, 1), (101, .getfield 47, 3), (104, .iload_n 1, 1), (105, .iaload, 1), (106, .bipush 6, 2), (108, .if_icmp .eq 14, 3), (111, .aload_n 0, 1), (112, .getfield 47, 3), (115, .iload_n 1, 1), (116, .iaload, 1), (117, .bipush 7, 2), (119, .if_icmp .ne 17, 3), (122, .aload_n 0, 1), (123, .getfield 53, 3)]
def zi_262_1 : zIns := [(126, .bipush 8, 2), (128, .iload_n 1, 1), (129, .imul, 1), (130, .iconst 1, 1), (131, .iadd, 1), (132, .iaload, 1), (133, .goto 4, 3), (136, .iconst (-1), 1), (137, .ireturn, 1), (138, .aload_n 0, 1), (139, .getfield 72, 3), (142, .iload_n 1, 1), (143, .iaload, 1), (144, .ireturn, 1), (145, .aload_n 0, 1), (146, .getfield 50, 3), (149, .iload_n 1, 1), (150, .iaload, 1), (151, .ireturn, 1), (152, .aload_n 0, 1), (153, .getfield 75, 3), (156, .iload_n 1, 1), (157, .iaload, 1), (158, .ireturn, 1), (159, .aload_n 0, 1), (160, .getfield 78, 3), (163, .iload_n 1, 1), (164, .iaload, 1), (165, .ireturn, 1)]
def zi_262 : zIns := zi_262_0 ++ (zi_262_1)
def zi_263 : zIns := [(0, .aload_n 0, 1), (1, .iload_n 1, 1), (2, .invokevirtual 181, 3), (5, .ifCond .eq 23, 3), (8, .iload_n 2, 1), (9, .invokestatic 280, 3), (12, .ifCond .eq 16, 3), (15, .aload_n 0, 1), (16, .getfield 44, 3), (19, .iconst 3, 1), (20, .iload_n 1, 1), (21, .imul, 1), (22, .iload_n 2, 1), (23, .iadd, 1), (24, .iaload, 1), (25, .goto 9, 3), (28, .aload_n 0, 1), (29, .bipush (-102), 2), (31, .invokevirtual 109, 3), (34, .ireturn, 1)]
def zi_264 : zIns := [(0, .iload_n 0, 1), (1, .i2l, 1), (2, .lconst 0, 1), (3, .ldc2_w 294, 3), (6, .invokestatic 96, 3), (9, .ireturn, 1)]
def zi_265 : zIns := [(0, .aload_n 0, 1), (1, .iload_n 1, 1), (2, .invokevirtual 181, 3), (5, .ifCond .eq 19, 3), (8, .iload_n 2, 1), (9, .invokestatic 296, 3), (12, .ifCond .eq 12, 3), (15, .aload_n 0, 1), (16, .iload_n 1, 1), (17, .iload_n 2, 1), (18, .invokevirtual 149, 3), (21, .goto 9, 3), (24, .aload_n 0, 1), (25, .bipush (-102), 2), (27, .invokevirtual 109, 3), (30, .ireturn, 1)]
def zi_266 : zIns := [(0, .aload_n 0, 1), (1, .iload_n 1, 1), (2, .invokevirtual 120, 3), (5, .ifCond .eq 35, 3), (8, .iload_n 2, 1), (9, .invokestatic 296, 3), (12, .ifCond .eq 28, 3), (15, .iload_n 3, 1), (16, .i2l, 1), (17, .lconst 0, 1), (18, .ldc2_w 299, 3), (21, .invokestatic 96, 3), (24, .ifCond .eq 16, 3), (27, .aload_n 0, 1), (28, .iload_n 1, 1), (29, .iload_n 2, 1), (30, .iload_n 3, 1), (31, .invokestatic 301, 3), (34, .invokevirtual 152, 3), (37, .goto 9, 3), (40, .aload_n 0, 1), (41, .bipush (-102), 2), (43, .invokevirtual 109, 3), (46, .ireturn, 1)]
def zi_267 : zIns := [(0, .iconst 0, 1), (1, .istore_n 3, 1), (2, .iconst 0, 1), (3, .istore 4, 2), (5, .iload 4, 2), (7, .sipush 1000, 3), (10, .if_icmp .ge 28, 3), (13, .iload_n 3, 1), (14, .aload_n 0, 1), (15, .iload_n 1, 1), (16, .iload 4, 2), (18, .invokevirtual 152, 3), (21, .iload_n 2, 1), (22, .if_icmp .ne 7, 3), (25, .iconst 1, 1), (26, .goto 4, 3), (29, .iconst 0, 1), (30, .iadd, 1), (31, .istore_n 3, 1), (32, .iinc 4 1, 3), (35, .goto (-30), 3), (38, .iload_n 3, 1), (39, .ireturn, 1)]
def zi_268 : zIns := [(0, .aload_n 0, 1), (1, .iload_n 1, 1), (2, .invokevirtual 120, 3), (5, .ifCond .eq 24, 3), (8, .iload_n 2, 1), (9, .i2l, 1), (10, .lconst 0, 1), (11, .ldc2_w 184, 3), (14, .invokestatic 96, 3), (17, .ifCond .eq 12, 3), (20, .aload_n 0, 1), (21, .iload_n 1, 1), (22, .iload_n 2, 1), (23, .invokevirtual 130, 3), (26, .goto 9, 3), (29, .aload_n 0, 1), (30, .bipush (-102), 2), (32, .invokevirtual 109, 3), (35, .ireturn, 1)]
def zi_269 : zIns := [(0, .iconst 0, 1), (1, .istore_n 3, 1), (2, .iconst 0, 1), (3, .istore 4, 2), (5, .iload 4, 2), (7, .aload_n 0, 1), (8, .getfield 100, 3), (11, .if_icmp .ge 28, 3), (14, .iload_n 3, 1), (15, .aload_n 0, 1), (16, .iload_n 1, 1), (17, .iload 4, 2), (19, .invokevirtual 304, 3), (22, .iload_n 2, 1), (23, .if_icmp .ne 7, 3), (26, .iconst 1, 1), (27, .goto 4, 3), (30, .iconst 0, 1), (31, .iadd, 1), (32, .istore_n 3, 1), (33, .iinc 4 1, 3), (36, .goto (-31), 3), (39, .iload_n 3, 1), (40, .ireturn, 1)]
def zi_270 : zIns := [(0, .aload_n 0, 1), (1, .iload_n 1, 1), (2, .invokevirtual 120, 3), (5, .ifCond .eq 24, 3), (8, .iload_n 2, 1), (9, .i2l, 1), (10, .lconst 0, 1), (11, .ldc2_w 184, 3), (14, .invokestatic 96, 3), (17, .ifCond .eq 12, 3), (20, .aload_n 0, 1), (21, .iload_n 1, 1), (22, .iload_n 2, 1), (23, .invokevirtual 307, 3), (26, .goto 9, 3), (29, .aload_n 0, 1), (30, .bipush (-102), 2), (32, .invokevirtual 109, 3), (35, .ireturn, 1)]
def zi_271 : zIns := [(0, .iconst 0, 1), (1, .istore_n 3, 1), (2, .iconst 0, 1), (3, .istore 4, 2), (5, .iload 4, 2), (7, .sipush 1000, 3), (10, .if_icmp .ge 35, 3), (13, .iload_n 3, 1), (14, .aload_n 0, 1), (15, .iload_n 1, 1), (16, .iload 4, 2), (18, .invokevirtual 152, 3), (21, .iconst 1, 1), (22, .if_icmp .ne 14, 3), (25, .iconst 1, 1), (26, .iload 4, 2), (28, .iload_n 2, 1), (29, .invokestatic 146, 3), (32, .ishl, 1), (33, .goto 4, 3), (36, .iconst 0, 1), (37, .ior, 1), (38, .istore_n 3, 1), (39, .iinc 4 1, 3), (42, .goto (-37), 3), (45, .iload_n 3, 1), (46, .ireturn, 1)]
def zi_272 : zIns := [(0, .aload_n 0, 1), (1, .iload_n 1, 1), (2, .invokevirtual 120, 3), (5, .ifCond .eq 19, 3), (8, .iload_n 2, 1), (9, .invokestatic 280, 3), (12, .ifCond .eq 12, 3), (15, .aload_n 0, 1), (16, .iload_n 1, 1), (17, .iload_n 2, 1), (18, .invokevirtual 134, 3), (21, .goto 9, 3), (24, .aload_n 0, 1), (25, .bipush (-102), 2), (27, .invokevirtual 109, 3), (30, .ireturn, 1)]
def zi_273_0 : zIns := [(0, .aload_n 0, 1), (1, .iconst 0, 1), (2, .putfield 310, 3), (5, .iconst 0, 1), (6, .istore_n 3, 1), (7, .iconst 0, 1), (8, .istore 4, 2), (10, .iload 4, 2), (12, .sipush 1000, 3), (15, .if_icmp .ge 82, 3), (18, .aload_n 0, 1), (19, .iload_n 1, 1), (20, .iload_n 2, 1), (21, .iload 4, 2), (23, .invokestatic 301, 3), (26, .invokevirtual 152, 3), (29, .iconst 1, 1), (30, .if_icmp .ne 7, 3), (33, .iconst 1, 1), (34, .goto 4, 3), (37, .iconst 0, 1), (38, .istore 5, 2), (40, .iload 5, 2), (42, .ifCond .eq 28, 3), (45, .iload_n 3, 1), (46, .ifCond .ne 24, 3), (49, .aload_n 0, 1), (50, .getfield 81, 3), (53, .aload_n 0, 1), (54, .getfield 310, 3), (57, .iload 4, 2), (59, .iastore, 1), (60, .aload_n 0, 1), (61, .dup, 1), (62, .getfield 310, 3), (65, .iconst 1, 1), (66, .iadd, 1), (67, .putfield 310, 3), (70, .iload 5, 2), (72, .ifCond .eq 16, 3), (75, .aload_n 0, 1), (76, .getfield 84, 3), (79, .aload_n 0, 1), (80, .getfield 310, 3), (83, .iconst 1, 1), (84, .isub, 1), (85, .iload 4, 2), (87, .iastore, 1), (88, .iload 5, 2), (90, .istore_n 3, 1)]
def zi_273_1 : zIns := [(91, .iinc 4 1, 3), (94, .goto (-84), 3), (97, .return_, 1)]
def zi_273 : zIns := zi_273_0 ++ (zi_273_1)
def zi_274_0 : zIns := [(0, .iconst 0, 1), (1, .istore_n 1, 1), (2, .iconst 1, 1), (3, .istore_n 2, 1), (4, .iload_n 2, 1), (5, .iconst 1, 1), (6, .iadd, 1), (7, .aload_n 0, 1), (8, .getfield 310, 3), (11, .if_icmp .ge 48, 3), (14, .aload_n 0, 1), (15, .getfield 81, 3), (18, .iload_n 2, 1), (19, .iconst 1, 1), (20, .iadd, 1), (21, .iaload, 1), (22, .aload_n 0, 1), (23, .getfield 84, 3), (26, .iload_n 2, 1), (27, .iaload, 1), (28, .isub, 1), (29, .aload_n 0, 1), (30, .getfield 81, 3), (33, .iload_n 1, 1), (34, .iconst 1, 1), (35, .iadd, 1), (36, .iaload, 1), (37, .aload_n 0, 1), (38, .getfield 84, 3), (41, .iload_n 1, 1), (42, .iaload, 1), (43, .isub, 1), (44, .if_icmp .ge 7, 3), (47, .iload_n 2, 1), (48, .goto 4, 3), (51, .iload_n 1, 1), (52, .istore_n 1, 1), (53, .iinc 2 1, 3), (56, .goto (-52), 3), (59, .iload_n 1, 1), (60, .istore_n 2, 1), (61, .iload_n 2, 1), (62, .iconst 1, 1), (63, .iadd, 1), (64, .aload_n 0, 1), (65, .getfield 310, 3), (68, .if_icmp .ge 51, 3), (71, .aload_n 0, 1), (72, .getfield 84, 3), (75, .iload_n 2, 1)]
def zi_274_1 : zIns := [(76, .aload_n 0, 1), (77, .getfield 84, 3), (80, .iload_n 2, 1), (81, .iconst 1, 1), (82, .iadd, 1), (83, .iaload, 1), (84, .iastore, 1), (85, .aload_n 0, 1), (86, .getfield 81, 3), (89, .iload_n 2, 1), (90, .iload_n 2, 1), (91, .iload_n 1, 1), (92, .if_icmp .ne 12, 3), (95, .aload_n 0, 1), (96, .getfield 81, 3), (99, .iload_n 2, 1), (100, .iaload, 1), (101, .goto 11, 3), (104, .aload_n 0, 1), (105, .getfield 81, 3), (108, .iload_n 2, 1), (109, .iconst 1, 1), (110, .iadd, 1), (111, .iaload, 1), (112, .iastore, 1), (113, .iinc 2 1, 3), (116, .goto (-55), 3), (119, .aload_n 0, 1), (120, .dup, 1), (121, .getfield 310, 3), (124, .iconst 1, 1), (125, .isub, 1), (126, .putfield 310, 3), (129, .return_, 1)]
def zi_274 : zIns := zi_274_0 ++ (zi_274_1)
def zi_275 : zIns := [(0, .aload_n 0, 1), (1, .iload_n 1, 1), (2, .iload_n 2, 1), (3, .invokevirtual 313, 3), (6, .aload_n 0, 1), (7, .getfield 310, 3), (10, .iload_n 3, 1), (11, .if_icmp .le 10, 3), (14, .aload_n 0, 1), (15, .invokevirtual 317, 3), (18, .goto (-12), 3), (21, .return_, 1)]
def zi_276 : zIns := [(0, .sipush 1000, 3), (3, .aload_n 0, 1), (4, .getfield 81, 3), (7, .iload_n 1, 1), (8, .iaload, 1), (9, .imul, 1), (10, .aload_n 0, 1), (11, .getfield 84, 3), (14, .iload_n 1, 1), (15, .iaload, 1), (16, .iadd, 1), (17, .ireturn, 1)]
def zi_277 : zIns := [(0, .aload_n 0, 1), (1, .iload_n 1, 1), (2, .invokevirtual 120, 3), (5, .ifCond .eq 10, 3), (8, .iload_n 2, 1), (9, .invokestatic 296, 3), (12, .ifCond .ne 10, 3), (15, .aload_n 0, 1), (16, .bipush (-102), 2), (18, .invokevirtual 109, 3), (21, .ireturn, 1), (22, .aload_n 0, 1), (23, .iload_n 1, 1), (24, .iload_n 2, 1), (25, .invokevirtual 313, 3), (28, .aload_n 0, 1), (29, .getfield 310, 3), (32, .ireturn, 1)]
def zi_278 : zIns := [(0, .aload_n 0, 1), (1, .iload_n 1, 1), (2, .invokevirtual 120, 3), (5, .ifCond .eq 10, 3), (8, .iload_n 2, 1), (9, .invokestatic 296, 3), (12, .ifCond .ne 10, 3), (15, .aload_n 0, 1), (16, .bipush (-102), 2), (18, .invokevirtual 109, 3), (21, .ireturn, 1), (22, .aload_n 0, 1), (23, .iload_n 1, 1), (24, .iload_n 2, 1), (25, .invokevirtual 313, 3), (28, .iload_n 3, 1), (29, .i2l, 1), (30, .lconst 0, 1), (31, .aload_n 0, 1), (32, .getfield 310, 3), (35, .iconst 1, 1), (36, .isub, 1), (37, .i2l, 1), (38, .invokestatic 96, 3), (41, .ifCond .eq 11, 3), (44, .aload_n 0, 1), (45, .iload_n 3, 1), (46, .invokevirtual 320, 3), (49, .goto 9, 3), (52, .aload_n 0, 1), (53, .bipush (-102), 2), (55, .invokevirtual 109, 3), (58, .ireturn, 1)]
def zi_279 : zIns := [(0, .aload_n 0, 1), (1, .iload_n 1, 1), (2, .invokevirtual 120, 3), (5, .ifCond .eq 28, 3), (8, .iload_n 2, 1), (9, .invokestatic 296, 3), (12, .ifCond .eq 21, 3), (15, .iload_n 3, 1), (16, .i2l, 1), (17, .lconst 1, 1), (18, .ldc2_w 107, 3), (21, .invokestatic 96, 3), (24, .ifCond .eq 9, 3), (27, .iload 4, 2), (29, .iconst (-1), 1), (30, .if_icmp .ge 10, 3), (33, .aload_n 0, 1), (34, .bipush (-102), 2), (36, .invokevirtual 109, 3), (39, .ireturn, 1), (40, .aload_n 0, 1), (41, .iload_n 1, 1), (42, .iload_n 2, 1), (43, .iload_n 3, 1), (44, .invokevirtual 323, 3), (47, .iload 4, 2), (49, .iconst (-1), 1), (50, .if_icmp .ne 10, 3), (53, .aload_n 0, 1), (54, .getfield 310, 3), (57, .goto 27, 3), (60, .iload 4, 2), (62, .aload_n 0, 1), (63, .getfield 310, 3), (66, .if_icmp .ge 12, 3), (69, .aload_n 0, 1), (70, .iload 4, 2), (72, .invokevirtual 320, 3), (75, .goto 9, 3), (78, .aload_n 0, 1), (79, .bipush (-102), 2), (81, .invokevirtual 109, 3), (84, .ireturn, 1)]
def zi_280 : zIns := [(0, .iconst 0, 1), (1, .istore_n 2, 1), (2, .iload_n 2, 1), (3, .aload_n 0, 1), (4, .getfield 310, 3), (7, .if_icmp .ge 31, 3), (10, .aload_n 0, 1), (11, .getfield 81, 3), (14, .iload_n 2, 1), (15, .iaload, 1), (16, .iload_n 1, 1), (17, .if_icmp .gt 15, 3), (20, .iload_n 1, 1), (21, .aload_n 0, 1), (22, .getfield 84, 3), (25, .iload_n 2, 1), (26, .iaload, 1), (27, .if_icmp .gt 5, 3), (30, .iconst 1, 1), (31, .ireturn, 1), (32, .iinc 2 1, 3), (35, .goto (-33), 3), (38, .iconst 0, 1), (39, .ireturn, 1)]
def zi_281 : zIns := [(0, .iconst 0, 1), (1, .istore 4, 2), (3, .iconst 0, 1), (4, .istore 5, 2), (6, .iload 5, 2), (8, .aload_n 0, 1), (9, .getfield 100, 3), (12, .if_icmp .ge 48, 3), (15, .iload 4, 2), (17, .aload_n 0, 1), (18, .aload_n 0, 1), (19, .iload 5, 2), (21, .iload_n 2, 1), (22, .invokevirtual 149, 3), (25, .invokevirtual 327, 3), (28, .ifCond .eq 22, 3), (31, .iload_n 3, 1), (32, .ifCond .eq 14, 3), (35, .aload_n 0, 1), (36, .iload_n 1, 1), (37, .iload 5, 2), (39, .invokevirtual 304, 3), (42, .iconst 1, 1), (43, .if_icmp .eq 7, 3), (46, .iconst 1, 1), (47, .goto 4, 3), (50, .iconst 0, 1), (51, .iadd, 1), (52, .istore 4, 2), (54, .iinc 5 1, 3), (57, .goto (-51), 3), (60, .iload 4, 2), (62, .ireturn, 1)]
def zi_282 : zIns := [(0, .iconst 0, 1), (1, .istore_n 3, 1), (2, .iconst 0, 1), (3, .istore 4, 2), (5, .iload 4, 2), (7, .aload_n 0, 1), (8, .getfield 310, 3), (11, .if_icmp .ge 59, 3), (14, .aload_n 0, 1), (15, .getfield 81, 3), (18, .iload 4, 2), (20, .iaload, 1), (21, .istore 5, 2), (23, .iload 5, 2), (25, .aload_n 0, 1), (26, .getfield 84, 3), (29, .iload 4, 2), (31, .iaload, 1), (32, .if_icmp .gt 32, 3), (35, .iload_n 3, 1), (36, .aload_n 0, 1), (37, .iload_n 1, 1), (38, .iload_n 2, 1), (39, .iload 5, 2), (41, .invokestatic 301, 3), (44, .invokevirtual 152, 3), (47, .iconst 1, 1), (48, .if_icmp .ne 7, 3), (51, .iconst 0, 1), (52, .goto 4, 3), (55, .iconst 1, 1), (56, .iadd, 1), (57, .istore_n 3, 1), (58, .iinc 5 1, 3), (61, .goto (-38), 3), (64, .iinc 4 1, 3), (67, .goto (-62), 3), (70, .iload_n 3, 1), (71, .ireturn, 1)]
def zi_283 : zIns := [(0, .iconst 0, 1), (1, .istore_n 3, 1), (2, .iconst 0, 1), (3, .istore 4, 2), (5, .iload 4, 2), (7, .iload_n 1, 1), (8, .if_icmp .gt 41, 3), (11, .aload_n 0, 1), (12, .getfield 78, 3), (15, .iload_n 1, 1), (16, .iaload, 1), (17, .iload 4, 2), (19, .ishr, 1), (20, .iconst 1, 1), (21, .iand, 1), (22, .iconst 1, 1), (23, .if_icmp .ne 20, 3), (26, .aload_n 0, 1), (27, .iload 4, 2), (29, .iload_n 2, 1), (30, .invokevirtual 330, 3), (33, .ifCond .le 10, 3), (36, .iload_n 3, 1), (37, .iconst 1, 1), (38, .iload 4, 2), (40, .ishl, 1), (41, .ior, 1), (42, .istore_n 3, 1), (43, .iinc 4 1, 3), (46, .goto (-41), 3), (49, .iload_n 3, 1), (50, .ireturn, 1)]
def zi_284 : zIns := [(0, .aload_n 0, 1), (1, .getfield 37, 3), (4, .aload_n 0, 1), (5, .getfield 310, 3), (8, .imul, 1), (9, .aload_n 0, 1), (10, .iload_n 1, 1), (11, .iload_n 2, 1), (12, .iconst 0, 1), (13, .invokevirtual 333, 3), (16, .iadd, 1), (17, .ireturn, 1)]
def zi_285_0 : zIns := [(0, .aload_n 0, 1), (1, .iload_n 1, 1), (2, .invokevirtual 120, 3), (5, .ifCond .eq 35, 3), (8, .iload_n 2, 1), (9, .invokestatic 296, 3), (12, .ifCond .eq 28, 3), (15, .iload_n 3, 1), (16, .i2l, 1), (17, .lconst 1, 1), (18, .ldc2_w 107, 3), (21, .invokestatic 96, 3), (24, .ifCond .eq 16, 3), (27, .iload 4, 2), (29, .i2l, 1), (30, .lconst 0, 1), (31, .ldc2_w 105, 3), (34, .invokestatic 96, 3), (37, .ifCond .ne 10, 3), (40, .aload_n 0, 1), (41, .bipush (-102), 2), (43, .invokevirtual 109, 3), (46, .ireturn, 1), (47, .aload_n 0, 1), (48, .iload_n 1, 1), (49, .iload_n 2, 1), (50, .iload_n 3, 1), (51, .invokevirtual 323, 3), (54, .iload 4, 2), (56, .tableswitch 62 0 3 #[32, 39, 47, 55], 32), (88, .aload_n 0, 1), (89, .iload_n 1, 1), (90, .iload_n 2, 1), (91, .invokevirtual 330, 3), (94, .ireturn, 1), (95, .aload_n 0, 1), (96, .iload_n 1, 1), (97, .iload_n 2, 1), (98, .iconst 0, 1), (99, .invokevirtual 333, 3), (102, .ireturn, 1), (103, .aload_n 0, 1), (104, .iload_n 1, 1), (105, .iload_n 2, 1), (106, .iconst 1, 1), (107, .invokevirtual 333, 3), (110, .ireturn, 1), (111, .aload_n 0, 1), (112, .iload_n 1, 1), (113, .iload_n 2, 1)]
def zi_285_1 : zIns := [(114, .invokevirtual 337, 3), (117, .ireturn, 1), (118, .aload_n 0, 1), (119, .iload_n 1, 1), (120, .iload_n 2, 1), (121, .invokevirtual 340, 3), (124, .ireturn, 1)]
def zi_285 : zIns := zi_285_0 ++ (zi_285_1)
def zi_286 : zIns := [(0, .aload_n 0, 1), (1, .iload_n 1, 1), (2, .iload_n 2, 1), (3, .invokevirtual 313, 3), (6, .bipush 40, 2), (8, .istore_n 3, 1), (9, .aload_n 0, 1), (10, .iconst (-1), 1), (11, .putfield 343, 3), (14, .bipush 40, 2), (16, .istore 4, 2), (18, .iload 4, 2), (20, .iconst 1, 1), (21, .if_icmp .lt 59, 3), (24, .aload_n 0, 1), (25, .getfield 310, 3), (28, .iload 4, 2), (30, .if_icmp .le 10, 3), (33, .aload_n 0, 1), (34, .invokevirtual 317, 3), (37, .goto (-13), 3), (40, .aload_n 0, 1), (41, .iload_n 1, 1), (42, .iload_n 2, 1), (43, .invokevirtual 337, 3), (46, .istore 5, 2), (48, .aload_n 0, 1), (49, .getfield 343, 3), (52, .iconst (-1), 1), (53, .if_icmp .eq 12, 3), (56, .iload 5, 2), (58, .aload_n 0, 1), (59, .getfield 343, 3), (62, .if_icmp .gt 12, 3), (65, .aload_n 0, 1), (66, .iload 5, 2), (68, .putfield 343, 3), (71, .iload 4, 2), (73, .istore_n 3, 1), (74, .iinc 4 (-1), 3), (77, .goto (-59), 3), (80, .iload_n 3, 1), (81, .ireturn, 1)]
def zi_287 : zIns := [(0, .aload_n 0, 1), (1, .iload_n 1, 1), (2, .invokevirtual 120, 3), (5, .ifCond .eq 20, 3), (8, .iload_n 2, 1), (9, .invokestatic 296, 3), (12, .ifCond .eq 13, 3), (15, .iload_n 3, 1), (16, .i2l, 1), (17, .lconst 0, 1), (18, .lconst 1, 1), (19, .invokestatic 96, 3), (22, .ifCond .ne 10, 3), (25, .aload_n 0, 1), (26, .bipush (-102), 2), (28, .invokevirtual 109, 3), (31, .ireturn, 1), (32, .aload_n 0, 1), (33, .iload_n 1, 1), (34, .iload_n 2, 1), (35, .invokevirtual 346, 3), (38, .istore 4, 2), (40, .iload_n 3, 1), (41, .ifCond .ne 8, 3), (44, .iload 4, 2), (46, .goto 7, 3), (49, .aload_n 0, 1), (50, .getfield 343, 3), (53, .ireturn, 1)]
def zi_288 : zIns := [(0, .aload_n 0, 1), (1, .iload_n 1, 1), (2, .invokevirtual 120, 3), (5, .ifCond .eq 13, 3), (8, .iload_n 2, 1), (9, .i2l, 1), (10, .lconst 0, 1), (11, .lconst 1, 1), (12, .invokestatic 96, 3), (15, .ifCond .ne 10, 3), (18, .aload_n 0, 1), (19, .bipush (-102), 2), (21, .invokevirtual 109, 3), (24, .ireturn, 1), (25, .iconst (-1), 1), (26, .istore_n 3, 1), (27, .iconst (-1), 1), (28, .istore 4, 2), (30, .iconst 0, 1), (31, .istore 5, 2), (33, .iload 5, 2), (35, .bipush 6, 2), (37, .if_icmp .ge 40, 3), (40, .aload_n 0, 1), (41, .iload_n 1, 1), (42, .iload 5, 2), (44, .invokevirtual 346, 3), (47, .pop, 1), (48, .iload_n 3, 1), (49, .iconst (-1), 1), (50, .if_icmp .eq 12, 3), (53, .aload_n 0, 1), (54, .getfield 343, 3), (57, .iload 4, 2), (59, .if_icmp .ge 12, 3), (62, .iload 5, 2), (64, .istore_n 3, 1), (65, .aload_n 0, 1), (66, .getfield 343, 3), (69, .istore 4, 2), (71, .iinc 5 1, 3), (74, .goto (-41), 3), (77, .iload_n 2, 1), (78, .ifCond .ne 7, 3), (81, .iload_n 3, 1), (82, .goto 5, 3), (85, .iload 4, 2), (87, .ireturn, 1)]
def zi_289_0 : zIns := [(0, .aload_n 0, 1), (1, .iload_n 1, 1), (2, .invokevirtual 120, 3), (5, .ifCond .eq 21, 3), (8, .iload_n 2, 1), (9, .invokestatic 296, 3), (12, .ifCond .eq 14, 3), (15, .iload 4, 2), (17, .i2l, 1), (18, .lconst 0, 1), (19, .lconst 1, 1), (20, .invokestatic 96, 3), (23, .ifCond .ne 10, 3), (26, .aload_n 0, 1), (27, .bipush (-102), 2), (29, .invokevirtual 109, 3), (32, .ireturn, 1), (33, .iconst (-1), 1), (34, .istore 5, 2), (36, .iconst 0, 1), (37, .istore 6, 2), (39, .iload 6, 2), (41, .sipush 1000, 3), (44, .if_icmp .ge 74, 3), (47, .aload_n 0, 1), (48, .iload_n 1, 1), (49, .iload_n 2, 1), (50, .iload 6, 2), (52, .invokestatic 301, 3), (55, .invokevirtual 152, 3), (58, .iconst 1, 1), (59, .if_icmp .ne 7, 3), (62, .iconst 1, 1), (63, .goto 4, 3), (66, .iconst 0, 1), (67, .istore 7, 2), (69, .iload 4, 2), (71, .ifCond .ne 20, 3), (74, .iload 7, 2), (76, .ifCond .eq 15, 3), (79, .iload 6, 2), (81, .iload_n 3, 1), (82, .if_icmp .lt 9, 3), (85, .iload 5, 2), (87, .iconst (-1), 1), (88, .if_icmp .eq 20, 3), (91, .iload 4, 2), (93, .iconst 1, 1), (94, .if_icmp .ne 18, 3), (97, .iload 7, 2)]
def zi_289_1 : zIns := [(99, .ifCond .eq 13, 3), (102, .iload 6, 2), (104, .iload_n 3, 1), (105, .if_icmp .gt 7, 3), (108, .iload 6, 2), (110, .istore 5, 2), (112, .iinc 6 1, 3), (115, .goto (-76), 3), (118, .iload 5, 2), (120, .ireturn, 1)]
def zi_289 : zIns := zi_289_0 ++ (zi_289_1)
def zi_290_0 : zIns := [(0, .iload_n 3, 1), (1, .istore 6, 2), (3, .iload 5, 2), (5, .ifCond .ne 33, 3), (8, .iload 6, 2), (10, .iload 4, 2), (12, .if_icmp .ge 26, 3), (15, .aload_n 0, 1), (16, .iload_n 1, 1), (17, .iload_n 2, 1), (18, .iload 6, 2), (20, .invokestatic 301, 3), (23, .invokevirtual 152, 3), (26, .iconst 1, 1), (27, .if_icmp .ne 5, 3), (30, .iconst 1, 1), (31, .ireturn, 1), (32, .iinc 6 1, 3), (35, .goto (-32), 3), (38, .iconst 0, 1), (39, .istore 6, 2), (41, .iload 5, 2), (43, .ifCond .eq 52, 3), (46, .iload 6, 2), (48, .aload_n 0, 1), (49, .getfield 100, 3), (52, .if_icmp .ge 43, 3), (55, .aload_n 0, 1), (56, .iload 6, 2), (58, .iload_n 2, 1), (59, .invokevirtual 149, 3), (62, .i2l, 1), (63, .iload_n 3, 1), (64, .i2l, 1), (65, .iload 4, 2), (67, .iconst 1, 1), (68, .isub, 1), (69, .i2l, 1), (70, .invokestatic 96, 3), (73, .ifCond .eq 16, 3), (76, .aload_n 0, 1), (77, .iload_n 1, 1), (78, .iload 6, 2), (80, .invokevirtual 304, 3), (83, .iconst 1, 1), (84, .if_icmp .ne 5, 3), (87, .iconst 1, 1), (88, .ireturn, 1), (89, .iinc 6 1, 3), (92, .goto (-51), 3)]
def zi_290_1 : zIns := [(95, .iconst 0, 1), (96, .ireturn, 1)]
def zi_290 : zIns := zi_290_0 ++ (zi_290_1)
def zi_291_0 : zIns := [(0, .aload_n 0, 1), (1, .iload_n 1, 1), (2, .invokevirtual 120, 3), (5, .ifCond .eq 33, 3), (8, .iload_n 2, 1), (9, .invokestatic 296, 3), (12, .ifCond .eq 26, 3), (15, .iload_n 3, 1), (16, .i2l, 1), (17, .lconst 1, 1), (18, .ldc2_w 184, 3), (21, .invokestatic 96, 3), (24, .ifCond .eq 14, 3), (27, .iload 4, 2), (29, .i2l, 1), (30, .lconst 0, 1), (31, .lconst 1, 1), (32, .invokestatic 96, 3), (35, .ifCond .ne 10, 3), (38, .aload_n 0, 1), (39, .bipush (-102), 2), (41, .invokevirtual 109, 3), (44, .ireturn, 1), (45, .iload_n 3, 1), (46, .iconst 1, 1), (47, .if_icmp .ne 8, 3), (50, .bipush 100, 2), (52, .goto 5, 3), (55, .bipush 10, 2), (57, .istore 5, 2), (59, .iconst 0, 1), (60, .istore 6, 2), (62, .iconst 0, 1), (63, .istore 7, 2), (65, .iload 7, 2), (67, .sipush 1000, 3), (70, .if_icmp .ge 50, 3), (73, .iload 6, 2), (75, .aload_n 0, 1), (76, .iload_n 1, 1), (77, .iload_n 2, 1), (78, .iload 7, 2), (80, .iload 7, 2), (82, .iload 5, 2), (84, .iadd, 1), (85, .iload 4, 2), (87, .iconst 1, 1), (88, .if_icmp .ne 7, 3), (91, .iconst 1, 1), (92, .goto 4, 3)]
def zi_291_1 : zIns := [(95, .iconst 0, 1), (96, .invokevirtual 349, 3), (99, .ifCond .eq 7, 3), (102, .iconst 1, 1), (103, .goto 4, 3), (106, .iconst 0, 1), (107, .iadd, 1), (108, .istore 6, 2), (110, .iload 7, 2), (112, .iload 5, 2), (114, .iadd, 1), (115, .istore 7, 2), (117, .goto (-52), 3), (120, .iload 6, 2), (122, .ireturn, 1)]
def zi_291 : zIns := zi_291_0 ++ (zi_291_1)
def zi_292 : zIns := [(0, .iload_n 1, 1), (1, .ifCond .ne 7, 3), (4, .iload_n 0, 1), (5, .goto 19, 3), (8, .iload_n 1, 1), (9, .iconst 1, 1), (10, .if_icmp .ne 10, 3), (13, .iload_n 0, 1), (14, .bipush 100, 2), (16, .irem, 1), (17, .goto 7, 3), (20, .iload_n 0, 1), (21, .bipush 10, 2), (23, .irem, 1), (24, .ireturn, 1)]
def zi_293 : zIns := [(0, .aload_n 0, 1), (1, .iload_n 1, 1), (2, .iload_n 3, 1), (3, .invokevirtual 149, 3), (6, .istore 5, 2), (8, .aload_n 0, 1), (9, .iload_n 2, 1), (10, .iload_n 3, 1), (11, .invokevirtual 149, 3), (14, .istore 6, 2), (16, .iload 5, 2), (18, .iload 4, 2), (20, .invokestatic 353, 3), (23, .iload 6, 2), (25, .iload 4, 2), (27, .invokestatic 353, 3), (30, .if_icmp .eq 26, 3), (33, .iload 5, 2), (35, .iload 4, 2), (37, .invokestatic 353, 3), (40, .iload 6, 2), (42, .iload 4, 2), (44, .invokestatic 353, 3), (47, .if_icmp .ge 7, 3), (50, .iconst 1, 1), (51, .goto 4, 3), (54, .iconst 0, 1), (55, .ireturn, 1), (56, .iload 5, 2), (58, .iload 6, 2), (60, .if_icmp .eq 18, 3), (63, .iload 5, 2), (65, .iload 6, 2), (67, .if_icmp .ge 7, 3), (70, .iconst 1, 1), (71, .goto 17, 3), (74, .iconst 0, 1), (75, .goto 13, 3), (78, .iload_n 1, 1), (79, .iload_n 2, 1), (80, .if_icmp .ge 7, 3), (83, .iconst 1, 1), (84, .goto 4, 3), (87, .iconst 0, 1), (88, .ireturn, 1)]
def zi_294_0 : zIns := [(0, .aload_n 0, 1), (1, .aload_n 0, 1), (2, .iload_n 1, 1), (3, .iconst 1, 1), (4, .invokevirtual 307, 3), (7, .putfield 356, 3), (10, .iconst 0, 1), (11, .istore 4, 2), (13, .iload 4, 2), (15, .aload_n 0, 1), (16, .getfield 100, 3), (19, .if_icmp .ge 84, 3), (22, .iconst 0, 1), (23, .istore 5, 2), (25, .iconst 0, 1), (26, .istore 6, 2), (28, .iload 6, 2), (30, .aload_n 0, 1), (31, .getfield 100, 3), (34, .if_icmp .ge 43, 3), (37, .iload 5, 2), (39, .aload_n 0, 1), (40, .iload_n 1, 1), (41, .iload 6, 2), (43, .invokevirtual 304, 3), (46, .iconst 1, 1), (47, .if_icmp .ne 20, 3), (50, .aload_n 0, 1), (51, .iload 6, 2), (53, .iload 4, 2), (55, .iload_n 2, 1), (56, .iload_n 3, 1), (57, .invokevirtual 359, 3), (60, .ifCond .eq 7, 3), (63, .iconst 1, 1), (64, .goto 4, 3), (67, .iconst 0, 1), (68, .iadd, 1), (69, .istore 5, 2), (71, .iinc 6 1, 3), (74, .goto (-46), 3), (77, .aload_n 0, 1), (78, .iload_n 1, 1), (79, .iload 4, 2), (81, .invokevirtual 304, 3), (84, .iconst 1, 1), (85, .if_icmp .ne 12, 3), (88, .aload_n 0, 1), (89, .getfield 87, 3), (92, .iload 5, 2)]
def zi_294_1 : zIns := [(94, .iload 4, 2), (96, .iastore, 1), (97, .iinc 4 1, 3), (100, .goto (-87), 3), (103, .return_, 1)]
def zi_294 : zIns := zi_294_0 ++ (zi_294_1)
def zi_295 : zIns := [(0, .aload_n 0, 1), (1, .iload_n 1, 1), (2, .invokevirtual 120, 3), (5, .ifCond .eq 15, 3), (8, .iload_n 2, 1), (9, .invokestatic 296, 3), (12, .ifCond .eq 8, 3), (15, .iload_n 3, 1), (16, .iconst (-1), 1), (17, .if_icmp .ge 10, 3), (20, .aload_n 0, 1), (21, .bipush (-102), 2), (23, .invokevirtual 109, 3), (26, .ireturn, 1), (27, .aload_n 0, 1), (28, .iload_n 1, 1), (29, .iload_n 2, 1), (30, .iconst 0, 1), (31, .invokevirtual 363, 3), (34, .iload_n 3, 1), (35, .iconst (-1), 1), (36, .if_icmp .ne 10, 3), (39, .aload_n 0, 1), (40, .getfield 356, 3), (43, .goto 26, 3), (46, .iload_n 3, 1), (47, .aload_n 0, 1), (48, .getfield 356, 3), (51, .if_icmp .ge 12, 3), (54, .aload_n 0, 1), (55, .getfield 87, 3), (58, .iload_n 3, 1), (59, .iaload, 1), (60, .goto 9, 3), (63, .aload_n 0, 1), (64, .bipush (-102), 2), (66, .invokevirtual 109, 3), (69, .ireturn, 1)]
def zi_296 : zIns := [(0, .aload_n 0, 1), (1, .iload_n 1, 1), (2, .invokevirtual 120, 3), (5, .ifCond .eq 27, 3), (8, .iload_n 2, 1), (9, .invokestatic 296, 3), (12, .ifCond .eq 20, 3), (15, .iload_n 3, 1), (16, .i2l, 1), (17, .lconst 0, 1), (18, .ldc2_w 184, 3), (21, .invokestatic 96, 3), (24, .ifCond .eq 8, 3), (27, .iload 4, 2), (29, .ifCond .ge 10, 3), (32, .aload_n 0, 1), (33, .bipush (-102), 2), (35, .invokevirtual 109, 3), (38, .ireturn, 1), (39, .aload_n 0, 1), (40, .iload_n 1, 1), (41, .iload_n 2, 1), (42, .iload_n 3, 1), (43, .invokevirtual 363, 3), (46, .iload 4, 2), (48, .aload_n 0, 1), (49, .getfield 356, 3), (52, .if_icmp .ge 13, 3), (55, .aload_n 0, 1), (56, .getfield 87, 3), (59, .iload 4, 2), (61, .iaload, 1), (62, .goto 9, 3), (65, .aload_n 0, 1), (66, .bipush (-102), 2), (68, .invokevirtual 109, 3), (71, .ireturn, 1)]
def zi_297_0 : zIns := [(0, .aload_n 0, 1), (1, .iload_n 1, 1), (2, .invokevirtual 120, 3), (5, .ifCond .eq 18, 3), (8, .iload_n 2, 1), (9, .invokestatic 296, 3), (12, .ifCond .eq 11, 3), (15, .aload_n 0, 1), (16, .iload_n 3, 1), (17, .invokevirtual 181, 3), (20, .ifCond .ne 10, 3), (23, .aload_n 0, 1), (24, .bipush (-102), 2), (26, .invokevirtual 109, 3), (29, .ireturn, 1), (30, .iconst (-1), 1), (31, .istore 4, 2), (33, .iconst 0, 1), (34, .istore 5, 2), (36, .iload 5, 2), (38, .aload_n 0, 1), (39, .getfield 100, 3), (42, .if_icmp .ge 55, 3), (45, .aload_n 0, 1), (46, .iload_n 1, 1), (47, .iload 5, 2), (49, .invokevirtual 304, 3), (52, .iconst 1, 1), (53, .if_icmp .ne 38, 3), (56, .aload_n 0, 1), (57, .iload_n 3, 1), (58, .iload 5, 2), (60, .iload_n 2, 1), (61, .iconst 0, 1), (62, .invokevirtual 359, 3), (65, .ifCond .eq 26, 3), (68, .iload 4, 2), (70, .iconst (-1), 1), (71, .if_icmp .eq 16, 3), (74, .aload_n 0, 1), (75, .iload 5, 2), (77, .iload 4, 2), (79, .iload_n 2, 1), (80, .iconst 0, 1), (81, .invokevirtual 359, 3), (84, .ifCond .eq 7, 3), (87, .iload 5, 2), (89, .istore 4, 2), (91, .iinc 5 1, 3), (94, .goto (-58), 3)]
def zi_297_1 : zIns := [(97, .iload 4, 2), (99, .ireturn, 1)]
def zi_297 : zIns := zi_297_0 ++ (zi_297_1)
def zi_298 : zIns := [(0, .aload_n 0, 1), (1, .iload_n 1, 1), (2, .invokevirtual 120, 3), (5, .ifCond .eq 11, 3), (8, .aload_n 0, 1), (9, .iload_n 2, 1), (10, .invokevirtual 120, 3), (13, .ifCond .ne 10, 3), (16, .aload_n 0, 1), (17, .bipush (-102), 2), (19, .invokevirtual 109, 3), (22, .ireturn, 1), (23, .iconst 0, 1), (24, .istore_n 3, 1), (25, .iload_n 3, 1), (26, .sipush 1000, 3), (29, .if_icmp .ge 31, 3), (32, .aload_n 0, 1), (33, .iload_n 1, 1), (34, .iload_n 3, 1), (35, .invokevirtual 152, 3), (38, .iconst 1, 1), (39, .if_icmp .ne 15, 3), (42, .aload_n 0, 1), (43, .iload_n 2, 1), (44, .iload_n 3, 1), (45, .invokevirtual 152, 3), (48, .iconst 1, 1), (49, .if_icmp .eq 5, 3), (52, .iload_n 3, 1), (53, .ireturn, 1), (54, .iinc 3 1, 3), (57, .goto (-32), 3), (60, .iconst (-1), 1), (61, .ireturn, 1)]
def zi_299 : zIns := [(0, .iconst 0, 1), (1, .istore_n 3, 1), (2, .iload_n 3, 1), (3, .sipush 1000, 3), (6, .if_icmp .ge 26, 3), (9, .aload_n 0, 1), (10, .iload_n 1, 1), (11, .iload_n 3, 1), (12, .invokevirtual 152, 3), (15, .aload_n 0, 1), (16, .iload_n 2, 1), (17, .iload_n 3, 1), (18, .invokevirtual 152, 3), (21, .if_icmp .eq 5, 3), (24, .iload_n 3, 1), (25, .ireturn, 1), (26, .iinc 3 1, 3), (29, .goto (-27), 3), (32, .iconst (-1), 1), (33, .ireturn, 1)]
def zi_300 : zIns := [(0, .aload_n 0, 1), (1, .iload_n 1, 1), (2, .invokevirtual 120, 3), (5, .ifCond .eq 20, 3), (8, .aload_n 0, 1), (9, .iload_n 2, 1), (10, .invokevirtual 120, 3), (13, .ifCond .eq 12, 3), (16, .aload_n 0, 1), (17, .iload_n 1, 1), (18, .iload_n 2, 1), (19, .invokevirtual 366, 3), (22, .goto 9, 3), (25, .aload_n 0, 1), (26, .bipush (-102), 2), (28, .invokevirtual 109, 3), (31, .ireturn, 1)]
def zi_301 : zIns := [(0, .aload_n 0, 1), (1, .iload_n 1, 1), (2, .invokevirtual 120, 3), (5, .ifCond .ne 10, 3), (8, .aload_n 0, 1), (9, .bipush (-102), 2), (11, .invokevirtual 109, 3), (14, .ireturn, 1), (15, .iconst 0, 1), (16, .istore_n 2, 1), (17, .aload_n 0, 1), (18, .iload_n 2, 1), (19, .iload_n 1, 1), (20, .invokevirtual 366, 3), (23, .iconst (-1), 1), (24, .if_icmp .eq 9, 3), (27, .iinc 2 1, 3), (30, .goto (-13), 3), (33, .iload_n 2, 1), (34, .ireturn, 1)]
def zi_302_0 : zIns := [(0, .iconst 0, 1), (1, .istore 6, 2), (3, .iload 6, 2), (5, .iload 4, 2), (7, .if_icmp .ge 73, 3), (10, .aload_n 0, 1), (11, .getfield 44, 3), (14, .iconst 3, 1), (15, .aload_n 0, 1), (16, .getfield 21, 3), (19, .iload_n 3, 1), (20, .aaload, 1), (21, .iconst 2, 1), (22, .iload 6, 2), (24, .imul, 1), (25, .laload, 1), (26, .l2i, 1), (27, .imul, 1), (28, .iload_n 1, 1), (29, .iadd, 1), (30, .iaload, 1), (31, .istore 7, 2), (33, .iload 7, 2), (35, .ifCond .ne 7, 3), (38, .iconst 0, 1), (39, .goto 11, 3), (42, .iload 5, 2), (44, .iload 7, 2), (46, .iload_n 2, 1), (47, .invokestatic 155, 3), (50, .istore 8, 2), (52, .iload 8, 2), (54, .i2l, 1), (55, .aload_n 0, 1), (56, .getfield 21, 3), (59, .iload_n 3, 1), (60, .aaload, 1), (61, .iconst 2, 1), (62, .iload 6, 2), (64, .imul, 1), (65, .iconst 1, 1), (66, .iadd, 1), (67, .laload, 1), (68, .lcmp, 1), (69, .ifCond .eq 5, 3), (72, .iconst 0, 1), (73, .ireturn, 1), (74, .iinc 6 1, 3), (77, .goto (-74), 3), (80, .iconst 1, 1)]
def zi_302_1 : zIns := [(81, .ireturn, 1)]
def zi_302 : zIns := zi_302_0 ++ (zi_302_1)
def zi_303_0 : zIns := [(0, .iload_n 1, 1), (1, .invokestatic 280, 3), (4, .ifCond .eq 40, 3), (7, .iload_n 2, 1), (8, .i2l, 1), (9, .lconst 1, 1), (10, .ldc2_w 175, 3), (13, .invokestatic 96, 3), (16, .ifCond .eq 28, 3), (19, .iload_n 3, 1), (20, .i2l, 1), (21, .lconst 0, 1), (22, .ldc2_w 103, 3), (25, .invokestatic 96, 3), (28, .ifCond .eq 16, 3), (31, .iload 4, 2), (33, .i2l, 1), (34, .lconst 0, 1), (35, .ldc2_w 189, 3), (38, .invokestatic 96, 3), (41, .ifCond .ne 10, 3), (44, .aload_n 0, 1), (45, .bipush (-102), 2), (47, .invokevirtual 109, 3), (50, .ireturn, 1), (51, .aload_n 0, 1), (52, .iload_n 3, 1), (53, .iconst 2, 1), (54, .iload 4, 2), (56, .imul, 1), (57, .invokevirtual 289, 3), (60, .istore 5, 2), (62, .iload 5, 2), (64, .ifCond .eq 6, 3), (67, .iload 5, 2), (69, .ireturn, 1), (70, .iconst 0, 1), (71, .istore 6, 2), (73, .iload 6, 2), (75, .iload 4, 2), (77, .if_icmp .ge 62, 3), (80, .aload_n 0, 1), (81, .getfield 21, 3), (84, .iload_n 3, 1), (85, .aaload, 1), (86, .iconst 2, 1), (87, .iload 6, 2), (89, .imul, 1), (90, .laload, 1), (91, .lconst 0, 1)]
def zi_303_1 : zIns := [(92, .aload_n 0, 1), (93, .getfield 100, 3), (96, .iconst 1, 1), (97, .isub, 1), (98, .i2l, 1), (99, .invokestatic 96, 3), (102, .ifCond .eq 24, 3), (105, .aload_n 0, 1), (106, .getfield 21, 3), (109, .iload_n 3, 1), (110, .aaload, 1), (111, .iconst 2, 1), (112, .iload 6, 2), (114, .imul, 1), (115, .iconst 1, 1), (116, .iadd, 1), (117, .laload, 1), (118, .lconst 0, 1), (119, .lconst 1, 1), (120, .invokestatic 96, 3), (123, .ifCond .ne 10, 3), (126, .aload_n 0, 1), (127, .bipush (-105), 2), (129, .invokevirtual 109, 3), (132, .ireturn, 1), (133, .iinc 6 1, 3), (136, .goto (-63), 3), (139, .iconst 0, 1), (140, .istore 6, 2), (142, .iconst 0, 1), (143, .istore 7, 2), (145, .iload 7, 2), (147, .iconst 4, 1), (148, .if_icmp .ge 36, 3), (151, .iload 6, 2), (153, .aload_n 0, 1), (154, .iload_n 1, 1), (155, .iload_n 2, 1), (156, .iload_n 3, 1), (157, .iload 4, 2), (159, .iload 7, 2), (161, .invokevirtual 369, 3), (164, .ifCond .eq 10, 3), (167, .iconst 1, 1), (168, .iload 7, 2), (170, .ishl, 1), (171, .goto 4, 3), (174, .iconst 0, 1), (175, .ior, 1), (176, .istore 6, 2)]
def zi_303_2 : zIns := [(178, .iinc 7 1, 3), (181, .goto (-36), 3), (184, .iload 6, 2), (186, .ireturn, 1)]
def zi_303 : zIns := zi_303_0 ++ (zi_303_1 ++ (zi_303_2))
def zi_304_0 : zIns := [(0, .aload_n 0, 1), (1, .iload_n 1, 1), (2, .invokevirtual 120, 3), (5, .ifCond .eq 35, 3), (8, .iload_n 2, 1), (9, .invokestatic 296, 3), (12, .ifCond .eq 28, 3), (15, .iload_n 3, 1), (16, .i2l, 1), (17, .lconst 0, 1), (18, .ldc2_w 103, 3), (21, .invokestatic 96, 3), (24, .ifCond .eq 16, 3), (27, .iload 4, 2), (29, .i2l, 1), (30, .lconst 0, 1), (31, .ldc2_w 107, 3), (34, .invokestatic 96, 3), (37, .ifCond .ne 10, 3), (40, .aload_n 0, 1), (41, .bipush (-102), 2), (43, .invokevirtual 109, 3), (46, .ireturn, 1), (47, .aload_n 0, 1), (48, .iload_n 3, 1), (49, .iload 4, 2), (51, .invokevirtual 289, 3), (54, .istore 5, 2), (56, .iload 5, 2), (58, .ifCond .eq 6, 3), (61, .iload 5, 2), (63, .ireturn, 1), (64, .aload_n 0, 1), (65, .iload_n 1, 1), (66, .iload_n 2, 1), (67, .iconst 0, 1), (68, .invokevirtual 363, 3), (71, .iconst 0, 1), (72, .istore 6, 2), (74, .iload 6, 2), (76, .iload 4, 2), (78, .if_icmp .ge 42, 3), (81, .iload 6, 2), (83, .aload_n 0, 1), (84, .getfield 356, 3), (87, .if_icmp .ge 24, 3), (90, .aload_n 0, 1), (91, .getfield 21, 3), (94, .iload_n 3, 1), (95, .aaload, 1)]
def zi_304_1 : zIns := [(96, .iload 6, 2), (98, .laload, 1), (99, .aload_n 0, 1), (100, .getfield 87, 3), (103, .iload 6, 2), (105, .iaload, 1), (106, .i2l, 1), (107, .lcmp, 1), (108, .ifCond .eq 6, 3), (111, .iload 6, 2), (113, .ireturn, 1), (114, .iinc 6 1, 3), (117, .goto (-43), 3), (120, .aload_n 0, 1), (121, .getfield 356, 3), (124, .iload 4, 2), (126, .if_icmp .le 8, 3), (129, .iload 4, 2), (131, .goto 4, 3), (134, .iconst (-1), 1), (135, .ireturn, 1)]
def zi_304 : zIns := zi_304_0 ++ (zi_304_1)
def zi_305 : zIns := [(0, .iload_n 1, 1), (1, .invokestatic 280, 3), (4, .ifCond .eq 15, 3), (7, .iload_n 2, 1), (8, .i2l, 1), (9, .lconst 0, 1), (10, .ldc2_w 175, 3), (13, .invokestatic 96, 3), (16, .ifCond .ne 10, 3), (19, .aload_n 0, 1), (20, .bipush (-102), 2), (22, .invokevirtual 109, 3), (25, .ireturn, 1), (26, .iconst 0, 1), (27, .istore_n 3, 1), (28, .iconst 0, 1), (29, .istore 4, 2), (31, .iload 4, 2), (33, .aload_n 0, 1), (34, .getfield 100, 3), (37, .if_icmp .ge 32, 3), (40, .iload_n 3, 1), (41, .aload_n 0, 1), (42, .getfield 44, 3), (45, .iconst 3, 1), (46, .iload 4, 2), (48, .imul, 1), (49, .iload_n 1, 1), (50, .iadd, 1), (51, .iaload, 1), (52, .iload_n 2, 1), (53, .if_icmp .ne 7, 3), (56, .iconst 1, 1), (57, .goto 4, 3), (60, .iconst 0, 1), (61, .iadd, 1), (62, .istore_n 3, 1), (63, .iinc 4 1, 3), (66, .goto (-35), 3), (69, .iload_n 3, 1), (70, .ireturn, 1)]
def zi_306_0 : zIns := [(0, .aload_n 0, 1), (1, .iload_n 1, 1), (2, .invokevirtual 120, 3), (5, .ifCond .eq 31, 3), (8, .aload_n 0, 1), (9, .iload_n 2, 1), (10, .invokevirtual 181, 3), (13, .ifCond .eq 23, 3), (16, .iload_n 3, 1), (17, .invokestatic 280, 3), (20, .ifCond .eq 16, 3), (23, .iload 4, 2), (25, .i2l, 1), (26, .lconst 0, 1), (27, .ldc2_w 175, 3), (30, .invokestatic 96, 3), (33, .ifCond .ne 10, 3), (36, .aload_n 0, 1), (37, .bipush (-102), 2), (39, .invokevirtual 109, 3), (42, .ireturn, 1), (43, .aload_n 0, 1), (44, .getfield 44, 3), (47, .iconst 3, 1), (48, .iload_n 2, 1), (49, .imul, 1), (50, .iload_n 3, 1), (51, .iadd, 1), (52, .iaload, 1), (53, .istore 5, 2), (55, .aload_n 0, 1), (56, .getfield 44, 3), (59, .iconst 3, 1), (60, .iload_n 2, 1), (61, .imul, 1), (62, .iload_n 3, 1), (63, .iadd, 1), (64, .iload 4, 2), (66, .iastore, 1), (67, .aload_n 0, 1), (68, .iload_n 1, 1), (69, .iconst 1, 1), (70, .invokevirtual 307, 3), (73, .istore 6, 2), (75, .aload_n 0, 1), (76, .getfield 44, 3), (79, .iconst 3, 1), (80, .iload_n 2, 1), (81, .imul, 1), (82, .iload_n 3, 1)]
def zi_306_1 : zIns := [(83, .iadd, 1), (84, .iload 5, 2), (86, .iastore, 1), (87, .iload 6, 2), (89, .ireturn, 1)]
def zi_306 : zIns := zi_306_0 ++ (zi_306_1)
def zi_307 : zIns := [(0, .aload_n 0, 1), (1, .aload_n 0, 1), (2, .getfield 41, 3), (5, .ldc_w 373, 3), (8, .imul, 1), (9, .sipush 12345, 3), (12, .iadd, 1), (13, .putfield 41, 3), (16, .aload_n 0, 1), (17, .getfield 41, 3), (20, .bipush 16, 2), (22, .iushr, 1), (23, .iload_n 1, 1), (24, .irem, 1), (25, .ireturn, 1)]
def zi_308_0 : zIns := [(0, .iload_n 1, 1), (1, .i2l, 1), (2, .lconst 1, 1), (3, .ldc2_w 374, 3), (6, .invokestatic 96, 3), (9, .ifCond .ne 10, 3), (12, .aload_n 0, 1), (13, .bipush (-102), 2), (15, .invokevirtual 109, 3), (18, .ireturn, 1), (19, .iconst 0, 1), (20, .istore_n 2, 1), (21, .iload_n 2, 1), (22, .iload_n 1, 1), (23, .if_icmp .ge 95, 3), (26, .aload_n 0, 1), (27, .bipush 10, 2), (29, .invokevirtual 376, 3), (32, .istore_n 3, 1), (33, .aload_n 0, 1), (34, .bipush 10, 2), (36, .invokevirtual 376, 3), (39, .istore 4, 2), (41, .aload_n 0, 1), (42, .bipush 10, 2), (44, .invokevirtual 376, 3), (47, .istore 5, 2), (49, .aload_n 0, 1), (50, .getfield 100, 3), (53, .bipush 60, 2), (55, .if_icmp .ge 17, 3), (58, .aload_n 0, 1), (59, .dup, 1), (60, .getfield 100, 3), (63, .dup_x1, 1), (64, .iconst 1, 1), (65, .iadd, 1), (66, .putfield 100, 3), (69, .goto 9, 3), (72, .aload_n 0, 1), (73, .bipush 60, 2), (75, .invokevirtual 376, 3), (78, .istore 6, 2), (80, .aload_n 0, 1), (81, .iload 6, 2), (83, .iload_n 3, 1), (84, .iload 4, 2), (86, .iload 5, 2), (88, .invokevirtual 177, 3), (91, .aload_n 0, 1)]
def zi_308_1 : zIns := [(92, .bipush 8, 2), (94, .invokevirtual 376, 3), (97, .ifCond .ne 15, 3), (100, .aload_n 0, 1), (101, .aload_n 0, 1), (102, .aload_n 0, 1), (103, .getfield 100, 3), (106, .invokevirtual 376, 3), (109, .invokevirtual 186, 3), (112, .iinc 2 1, 3), (115, .goto (-94), 3), (118, .aload_n 0, 1), (119, .getfield 100, 3), (122, .ireturn, 1)]
def zi_308 : zIns := zi_308_0 ++ (zi_308_1)
def zi_309 : zIns := [(0, .aload_n 0, 1), (1, .getfield 41, 3), (4, .istore_n 2, 1), (5, .aload_n 0, 1), (6, .iload_n 1, 1), (7, .putfield 41, 3), (10, .iload_n 2, 1), (11, .ireturn, 1)]
def zi_310 : zIns := [(0, .iconst 0, 1), (1, .istore_n 2, 1), (2, .iload_n 2, 1), (3, .aload_n 1, 1), (4, .arraylength, 1), (5, .if_icmp .ge 15, 3), (8, .aload_n 1, 1), (9, .iload_n 2, 1), (10, .aload_n 0, 1), (11, .iload_n 2, 1), (12, .iaload, 1), (13, .iastore, 1), (14, .iinc 2 1, 3), (17, .goto (-15), 3), (20, .return_, 1)]
def zi_311 : zIns := [(0, .aload_n 0, 1), (1, .iconst 1, 1), (2, .putfield 379, 3), (5, .aload_n 0, 1), (6, .aload_n 0, 1), (7, .getfield 100, 3), (10, .putfield 383, 3), (13, .aload_n 0, 1), (14, .aload_n 0, 1), (15, .getfield 93, 3), (18, .putfield 386, 3), (21, .aload_n 0, 1), (22, .aload_n 0, 1), (23, .getfield 37, 3), (26, .putfield 389, 3), (29, .aload_n 0, 1), (30, .aload_n 0, 1), (31, .getfield 41, 3), (34, .putfield 392, 3), (37, .aload_n 0, 1), (38, .getfield 44, 3), (41, .aload_n 0, 1), (42, .getfield 56, 3), (45, .invokestatic 395, 3), (48, .aload_n 0, 1), (49, .getfield 47, 3), (52, .aload_n 0, 1), (53, .getfield 59, 3), (56, .invokestatic 395, 3), (59, .aload_n 0, 1), (60, .getfield 50, 3), (63, .aload_n 0, 1), (64, .getfield 62, 3), (67, .invokestatic 395, 3), (70, .aload_n 0, 1), (71, .getfield 53, 3), (74, .aload_n 0, 1), (75, .getfield 65, 3), (78, .invokestatic 395, 3), (81, .iconst 1, 1), (82, .ireturn, 1)]
def zi_312_0 : zIns := [(0, .aload_n 0, 1), (1, .getfield 379, 3), (4, .ifCond .ne 10, 3), (7, .aload_n 0, 1), (8, .bipush (-105), 2), (10, .invokevirtual 109, 3), (13, .ireturn, 1), (14, .aload_n 0, 1), (15, .aload_n 0, 1), (16, .getfield 383, 3), (19, .putfield 100, 3), (22, .aload_n 0, 1), (23, .aload_n 0, 1), (24, .getfield 386, 3), (27, .putfield 93, 3), (30, .aload_n 0, 1), (31, .aload_n 0, 1), (32, .getfield 389, 3), (35, .putfield 37, 3), (38, .aload_n 0, 1), (39, .aload_n 0, 1), (40, .getfield 392, 3), (43, .putfield 41, 3), (46, .aload_n 0, 1), (47, .getfield 56, 3), (50, .aload_n 0, 1), (51, .getfield 44, 3), (54, .invokestatic 395, 3), (57, .aload_n 0, 1), (58, .getfield 59, 3), (61, .aload_n 0, 1), (62, .getfield 47, 3), (65, .invokestatic 395, 3), (68, .aload_n 0, 1), (69, .getfield 62, 3), (72, .aload_n 0, 1), (73, .getfield 50, 3), (76, .invokestatic 395, 3), (79, .aload_n 0, 1), (80, .getfield 65, 3), (83, .aload_n 0, 1), (84, .getfield 53, 3), (87, .invokestatic 395, 3), (90, .aload_n 0, 1), (91, .iconst 0, 1), (92, .invokevirtual 274, 3), (95, .iconst 0, 1), (96, .istore_n 1, 1), (97, .iload_n 1, 1), (98, .bipush 8, 2)]
def zi_312_1 : zIns := [(100, .if_icmp .ge 48, 3), (103, .aload_n 0, 1), (104, .getfield 7, 3), (107, .iload_n 1, 1), (108, .aload_n 0, 1), (109, .getfield 7, 3), (112, .iload_n 1, 1), (113, .iaload, 1), (114, .iconst 2, 1), (115, .if_icmp .ne 20, 3), (118, .aload_n 0, 1), (119, .getfield 28, 3), (122, .iload_n 1, 1), (123, .iaload, 1), (124, .aload_n 0, 1), (125, .getfield 93, 3), (128, .if_icmp .lt 7, 3), (131, .iconst 0, 1), (132, .goto 9, 3), (135, .aload_n 0, 1), (136, .getfield 7, 3), (139, .iload_n 1, 1), (140, .iaload, 1), (141, .iastore, 1), (142, .iinc 1 1, 3), (145, .goto (-48), 3), (148, .iconst 1, 1), (149, .ireturn, 1)]
def zi_312 : zIns := zi_312_0 ++ (zi_312_1)
def zi_313 : zIns := [(0, .iconst 0, 1), (1, .istore_n 1, 1), (2, .iconst 0, 1), (3, .istore_n 2, 1), (4, .iload_n 2, 1), (5, .aload_n 0, 1), (6, .getfield 100, 3), (9, .if_icmp .ge 45, 3), (12, .iconst 0, 1), (13, .istore_n 3, 1), (14, .aload_n 0, 1), (15, .iload_n 3, 1), (16, .iconst 0, 1), (17, .invokevirtual 149, 3), (20, .aload_n 0, 1), (21, .iload_n 2, 1), (22, .iconst 0, 1), (23, .invokevirtual 149, 3), (26, .if_icmp .eq 9, 3), (29, .iinc 3 1, 3), (32, .goto (-18), 3), (35, .iload_n 1, 1), (36, .iload_n 3, 1), (37, .iload_n 2, 1), (38, .if_icmp .ne 7, 3), (41, .iconst 1, 1), (42, .goto 4, 3), (45, .iconst 0, 1), (46, .iadd, 1), (47, .istore_n 1, 1), (48, .iinc 2 1, 3), (51, .goto (-47), 3), (54, .iload_n 1, 1), (55, .ireturn, 1)]
def zi_314_0 : zIns := [(0, .iconst 0, 1), (1, .istore_n 2, 1), (2, .iload_n 1, 1), (3, .tableswitch 145 0 7 #[45, 50, 55, 60, 65, 102, 107, 112], 45), (48, .aload_n 0, 1), (49, .getfield 100, 3), (52, .ireturn, 1), (53, .aload_n 0, 1), (54, .getfield 93, 3), (57, .ireturn, 1), (58, .aload_n 0, 1), (59, .getfield 37, 3), (62, .ireturn, 1), (63, .aload_n 0, 1), (64, .invokevirtual 399, 3), (67, .ireturn, 1), (68, .iconst 0, 1), (69, .istore_n 3, 1), (70, .iload_n 3, 1), (71, .iconst 3, 1), (72, .aload_n 0, 1), (73, .getfield 100, 3), (76, .imul, 1), (77, .if_icmp .ge 26, 3), (80, .iload_n 2, 1), (81, .aload_n 0, 1), (82, .getfield 44, 3), (85, .iload_n 3, 1), (86, .iaload, 1), (87, .ifCond .ne 7, 3), (90, .iconst 1, 1), (91, .goto 4, 3), (94, .iconst 0, 1), (95, .iadd, 1), (96, .istore_n 2, 1), (97, .iinc 3 1, 3), (100, .goto (-30), 3), (103, .iload_n 2, 1), (104, .ireturn, 1), (105, .aload_n 0, 1), (106, .getfield 193, 3), (109, .ireturn, 1), (110, .aload_n 0, 1), (111, .getfield 41, 3), (114, .ireturn, 1), (115, .iconst 0, 1), (116, .istore_n 3, 1), (117, .iload_n 3, 1), (118, .bipush 8, 2), (120, .if_icmp .ge 26, 3)]
def zi_314_1 : zIns := [(123, .iload_n 2, 1), (124, .aload_n 0, 1), (125, .getfield 7, 3), (128, .iload_n 3, 1), (129, .iaload, 1), (130, .ifCond .eq 7, 3), (133, .iconst 1, 1), (134, .goto 4, 3), (137, .iconst 0, 1), (138, .iadd, 1), (139, .istore_n 2, 1), (140, .iinc 3 1, 3), (143, .goto (-26), 3), (146, .iload_n 2, 1), (147, .ireturn, 1), (148, .iload_n 1, 1), (149, .i2l, 1), (150, .ldc2_w 402, 3), (153, .ldc2_w 404, 3), (156, .invokestatic 96, 3), (159, .ifCond .eq 15, 3), (162, .aload_n 0, 1), (163, .getfield 34, 3), (166, .iload_n 1, 1), (167, .bipush 10, 2), (169, .isub, 1), (170, .iaload, 1), (171, .goto 4, 3), (174, .iconst (-1), 1), (175, .ireturn, 1)]
def zi_314 : zIns := zi_314_0 ++ (zi_314_1)
def zi_315 : zIns := []
def zi_316 : zIns := [(0, .iload_n 0, 1), (1, .iload_n 1, 1), (2, .if_icmp .lt 7, 3), (5, .iload_n 0, 1), (6, .goto 4, 3), (9, .iload_n 1, 1), (10, .ireturn, 1)]
def zi_317 : zIns := [(0, .iload_n 0, 1), (1, .iload_n 1, 1), (2, .if_icmp .gt 7, 3), (5, .iload_n 0, 1), (6, .goto 4, 3), (9, .iload_n 1, 1), (10, .ireturn, 1)]
def zi_318_0 : zIns := [(0, .new 15, 3), (3, .dup, 1), (4, .invokespecial 137, 3), (7, .astore_n 1, 1), (8, .aload_n 0, 1), (9, .arraylength, 1), (10, .bipush 60, 2), (12, .if_icmp .ge 8, 3), (15, .aload_n 0, 1), (16, .arraylength, 1), (17, .goto 5, 3), (20, .bipush 60, 2), (22, .istore_n 2, 1), (23, .iconst 0, 1), (24, .istore_n 3, 1), (25, .iload_n 3, 1), (26, .iload_n 2, 1), (27, .if_icmp .ge 81, 3), (30, .aload_n 1, 1), (31, .aload_n 0, 1), (32, .iload_n 3, 1), (33, .invokestatic 138, 3), (36, .aload_n 1, 1), (37, .iconst 0, 1), (38, .invokevirtual 78, 3), (41, .ifCond .lt 59, 3), (44, .aload_n 1, 1), (45, .iconst 0, 1), (46, .invokevirtual 78, 3), (49, .bipush 60, 2), (51, .if_icmp .gt 49, 3), (54, .aload_n 1, 1), (55, .iconst 1, 1), (56, .invokevirtual 78, 3), (59, .bipush 24, 2), (61, .if_icmp .gt 39, 3), (64, .aload_n 1, 1), (65, .iconst 5, 1), (66, .invokevirtual 78, 3), (69, .ifCond .ne 31, 3), (72, .aload_n 1, 1), (73, .iconst 3, 1), (74, .invokevirtual 78, 3), (77, .aload_n 1, 1), (78, .iconst 0, 1), (79, .invokevirtual 78, 3), (82, .if_icmp .gt 18, 3), (85, .aload_n 1, 1), (86, .iconst 4, 1), (87, .invokevirtual 78, 3)]
def zi_318_1 : zIns := [(90, .iconst 3, 1), (91, .aload_n 1, 1), (92, .iconst 0, 1), (93, .invokevirtual 78, 3), (96, .imul, 1), (97, .if_icmp .le 5, 3), (100, .iconst 0, 1), (101, .ireturn, 1), (102, .iinc 3 1, 3), (105, .goto (-80), 3), (108, .aload_n 1, 1), (109, .invokestatic 142, 3), (112, .istore_n 3, 1), (113, .aload_n 1, 1), (114, .iconst (-1), 1), (115, .iconst 0, 1), (116, .invokevirtual 146, 3), (119, .bipush (-102), 2), (121, .if_icmp .ne 25, 3), (124, .aload_n 1, 1), (125, .bipush 24, 2), (127, .iconst 0, 1), (128, .invokevirtual 81, 3), (131, .bipush (-102), 2), (133, .if_icmp .ne 13, 3), (136, .aload_n 1, 1), (137, .invokestatic 142, 3), (140, .iload_n 3, 1), (141, .iconst 2, 1), (142, .iadd, 1), (143, .if_icmp .eq 5, 3), (146, .iconst 0, 1), (147, .ireturn, 1), (148, .aload_n 1, 1), (149, .iconst 1, 1), (150, .invokevirtual 78, 3), (153, .istore 4, 2), (155, .iconst 0, 1), (156, .istore 5, 2), (158, .iconst 0, 1), (159, .istore 6, 2), (161, .iload 6, 2), (163, .iload 4, 2), (165, .if_icmp .ge 46, 3), (168, .aload_n 1, 1), (169, .iload 6, 2), (171, .invokestatic 149, 3), (174, .ifCond .eq 17, 3), (177, .aload_n 1, 1), (178, .iload 6, 2)]
def zi_318_2 : zIns := [(180, .iload 6, 2), (182, .bipush 6, 2), (184, .irem, 1), (185, .invokestatic 153, 3), (188, .ifCond .ne 5, 3), (191, .iconst 0, 1), (192, .ireturn, 1), (193, .iload 5, 2), (195, .aload_n 1, 1), (196, .iload 6, 2), (198, .iconst 1, 1), (199, .invokevirtual 84, 3), (202, .iadd, 1), (203, .istore 5, 2), (205, .iinc 6 1, 3), (208, .goto (-47), 3), (211, .aload_n 1, 1), (212, .iconst 0, 1), (213, .invokevirtual 78, 3), (216, .istore 6, 2), (218, .aload_n 1, 1), (219, .bipush 6, 2), (221, .invokevirtual 78, 3), (224, .istore 7, 2), (226, .aload_n 1, 1), (227, .invokevirtual 66, 3), (230, .iconst 1, 1), (231, .if_icmp .eq 5, 3), (234, .iconst 0, 1), (235, .ireturn, 1), (236, .aload_n 1, 1), (237, .bipush 7, 2), (239, .invokevirtual 46, 3), (242, .pop, 1), (243, .aload_n 1, 1), (244, .invokevirtual 157, 3), (247, .pop, 1), (248, .aload_n 1, 1), (249, .invokevirtual 69, 3), (252, .iconst 1, 1), (253, .if_icmp .ne 34, 3), (256, .aload_n 1, 1), (257, .iconst 0, 1), (258, .invokevirtual 78, 3), (261, .iload 6, 2), (263, .if_icmp .ne 24, 3), (266, .aload_n 1, 1), (267, .iconst 1, 1), (268, .invokevirtual 78, 3), (271, .iload 4, 2)]
def zi_318_3 : zIns := [(273, .if_icmp .ne 14, 3), (276, .aload_n 1, 1), (277, .bipush 6, 2), (279, .invokevirtual 78, 3), (282, .iload 7, 2), (284, .if_icmp .eq 5, 3), (287, .iconst 0, 1), (288, .ireturn, 1), (289, .iconst 0, 1), (290, .istore 8, 2), (292, .iload 8, 2), (294, .iload 4, 2), (296, .if_icmp .ge 21, 3), (299, .iload 5, 2), (301, .aload_n 1, 1), (302, .iload 8, 2), (304, .iconst 1, 1), (305, .invokevirtual 84, 3), (308, .isub, 1), (309, .istore 5, 2), (311, .iinc 8 1, 3), (314, .goto (-22), 3), (317, .iload 5, 2), (319, .ifCond .ne 7, 3), (322, .iconst 1, 1), (323, .goto 4, 3), (326, .iconst 0, 1), (327, .ireturn, 1)]
def zi_318 : zIns := zi_318_0 ++ (zi_318_1 ++ (zi_318_2 ++ (zi_318_3)))
def zi_319 : zIns := [(0, .aload_n 0, 1), (1, .getfield 11, 3), (4, .iload_n 1, 1), (5, .bipush 16, 2), (7, .idiv, 1), (8, .iaload, 1), (9, .iload_n 1, 1), (10, .invokestatic 67, 3), (13, .iushr, 1), (14, .iconst 3, 1), (15, .iand, 1), (16, .ireturn, 1)]
def zi_320 : zIns := [(0, .aload_n 0, 1), (1, .getfield 11, 3), (4, .iload_n 1, 1), (5, .bipush 16, 2), (7, .idiv, 1), (8, .iaload, 1), (9, .iconst 3, 1), (10, .iload_n 1, 1), (11, .invokestatic 67, 3), (14, .ishl, 1), (15, .iconst (-1), 1), (16, .ixor, 1), (17, .iand, 1), (18, .istore_n 3, 1), (19, .aload_n 0, 1), (20, .getfield 11, 3), (23, .iload_n 1, 1), (24, .bipush 16, 2), (26, .idiv, 1), (27, .iload_n 3, 1), (28, .iload_n 2, 1), (29, .iload_n 1, 1), (30, .invokestatic 67, 3), (33, .ishl, 1), (34, .ior, 1), (35, .iastore, 1), (36, .return_, 1)]
def zi_321 : zIns := [(0, .iconst 2, 1), (1, .iload_n 0, 1), (2, .bipush 16, 2), (4, .irem, 1), (5, .imul, 1), (6, .ireturn, 1)]
def zi_322 : zIns := [(0, .aload_n 0, 1), (1, .getfield 18, 3), (4, .iload_n 1, 1), (5, .iaload, 1), (6, .ifCond .le 24, 3), (9, .iload_n 1, 1), (10, .aload_n 0, 1), (11, .getfield 15, 3), (14, .aload_n 0, 1), (15, .getfield 18, 3), (18, .iload_n 1, 1), (19, .iaload, 1), (20, .iconst 1, 1), (21, .isub, 1), (22, .iaload, 1), (23, .if_icmp .gt 7, 3), (26, .iconst 1, 1), (27, .goto 4, 3), (30, .iconst 0, 1), (31, .ireturn, 1)]
def zi_323 : zIns := [(0, .aload_n 0, 1), (1, .arraylength, 1), (2, .ifCond .ne 11, 3), (5, .sipush 367, 3), (8, .iload_n 1, 1), (9, .imul, 1), (10, .goto 12, 3), (13, .aload_n 0, 1), (14, .iload_n 1, 1), (15, .ldc 7, 2), (17, .iand, 1), (18, .aload_n 0, 1), (19, .arraylength, 1), (20, .irem, 1), (21, .iaload, 1), (22, .ireturn, 1)]
def zi_324_0 : zIns := [(0, .aload_n 1, 1), (1, .iload_n 2, 1), (2, .invokestatic 8, 3), (5, .istore_n 3, 1), (6, .iload_n 3, 1), (7, .iconst 4, 1), (8, .ishr, 1), (9, .ldc 7, 2), (11, .iand, 1), (12, .istore 4, 2), (14, .iload_n 3, 1), (15, .bipush 15, 2), (17, .iand, 1), (18, .tableswitch 436 0 14 #[74, 74, 74, 111, 140, 164, 178, 206, 236, 236, 265, 287, 319, 334, 428], 74), (92, .aload_n 0, 1), (93, .iload 4, 2), (95, .bipush 7, 2), (97, .iand, 1), (98, .bipush 6, 2), (100, .irem, 1), (101, .iload 4, 2), (103, .iconst 3, 1), (104, .ishr, 1), (105, .bipush 7, 2), (107, .iand, 1), (108, .bipush 6, 2), (110, .irem, 1), (111, .iload 4, 2), (113, .bipush 6, 2), (115, .ishr, 1), (116, .bipush 7, 2), (118, .iand, 1), (119, .bipush 6, 2), (121, .irem, 1), (122, .invokevirtual 14, 3), (125, .pop, 1), (126, .goto 378, 3), (129, .aload_n 0, 1), (130, .iload 4, 2), (132, .iconst 3, 1), (133, .iand, 1), (134, .iconst 3, 1), (135, .irem, 1), (136, .iload 4, 2), (138, .iconst 2, 1), (139, .ishr, 1), (140, .iconst 3, 1), (141, .iand, 1), (142, .iconst 1, 1), (143, .iload 4, 2)]
def zi_324_1 : zIns := [(145, .iconst 4, 1), (146, .ishr, 1), (147, .bipush 7, 2), (149, .iand, 1), (150, .iadd, 1), (151, .invokevirtual 20, 3), (154, .pop, 1), (155, .goto 349, 3), (158, .aload_n 0, 1), (159, .iload 4, 2), (161, .iconst 3, 1), (162, .iand, 1), (163, .iconst 3, 1), (164, .irem, 1), (165, .iload 4, 2), (167, .iconst 2, 1), (168, .ishr, 1), (169, .sipush 511, 3), (172, .iand, 1), (173, .iconst 1, 1), (174, .ishl, 1), (175, .invokevirtual 23, 3), (178, .pop, 1), (179, .goto 325, 3), (182, .aload_n 0, 1), (183, .iload 4, 2), (185, .iconst 3, 1), (186, .iand, 1), (187, .iconst 3, 1), (188, .irem, 1), (189, .invokevirtual 27, 3), (192, .pop, 1), (193, .goto 311, 3), (196, .aload_n 0, 1), (197, .iload 4, 2), (199, .iconst 3, 1), (200, .iand, 1), (201, .iconst 3, 1), (202, .irem, 1), (203, .iload 4, 2), (205, .iconst 2, 1), (206, .ishr, 1), (207, .iconst 3, 1), (208, .iand, 1), (209, .iload 4, 2), (211, .iconst 4, 1), (212, .ishr, 1), (213, .iconst 3, 1), (214, .iand, 1), (215, .iconst 3, 1)]
def zi_324_2 : zIns := [(216, .irem, 1), (217, .invokevirtual 31, 3), (220, .pop, 1), (221, .goto 283, 3), (224, .aload_n 0, 1), (225, .iload 4, 2), (227, .iconst 3, 1), (228, .iand, 1), (229, .iconst 3, 1), (230, .irem, 1), (231, .iconst 2, 1), (232, .iload 4, 2), (234, .iconst 2, 1), (235, .ishr, 1), (236, .bipush 7, 2), (238, .iand, 1), (239, .iadd, 1), (240, .iload 4, 2), (242, .iconst 5, 1), (243, .ishr, 1), (244, .bipush 7, 2), (246, .iand, 1), (247, .invokevirtual 34, 3), (250, .pop, 1), (251, .goto 253, 3), (254, .aload_n 0, 1), (255, .bipush 6, 2), (257, .iload 4, 2), (259, .iconst 1, 1), (260, .iand, 1), (261, .iadd, 1), (262, .iload 4, 2), (264, .iconst 1, 1), (265, .ishr, 1), (266, .bipush 15, 2), (268, .iand, 1), (269, .iload 4, 2), (271, .iconst 5, 1), (272, .ishr, 1), (273, .bipush 15, 2), (275, .iand, 1), (276, .invokevirtual 37, 3), (279, .pop, 1), (280, .goto 224, 3), (283, .aload_n 0, 1), (284, .bipush 8, 2), (286, .iload 4, 2), (288, .iconst 1, 1), (289, .iand, 1), (290, .iadd, 1)]
def zi_324_3 : zIns := [(291, .iload 4, 2), (293, .iconst 1, 1), (294, .ishr, 1), (295, .bipush 15, 2), (297, .iand, 1), (298, .invokevirtual 40, 3), (301, .pop, 1), (302, .goto 202, 3), (305, .aload_n 0, 1), (306, .iload 4, 2), (308, .bipush 31, 2), (310, .iand, 1), (311, .iload 4, 2), (313, .iconst 5, 1), (314, .ishr, 1), (315, .iconst 3, 1), (316, .iand, 1), (317, .iconst 3, 1), (318, .irem, 1), (319, .iload 4, 2), (321, .bipush 7, 2), (323, .ishr, 1), (324, .bipush 15, 2), (326, .iand, 1), (327, .bipush 10, 2), (329, .irem, 1), (330, .invokevirtual 43, 3), (333, .pop, 1), (334, .goto 170, 3), (337, .aload_n 0, 1), (338, .iconst 1, 1), (339, .iload 4, 2), (341, .bipush 7, 2), (343, .iand, 1), (344, .iadd, 1), (345, .invokevirtual 46, 3), (348, .pop, 1), (349, .goto 155, 3), (352, .aload_n 0, 1), (353, .bipush 97, 2), (355, .iload 4, 2), (357, .iconst 3, 1), (358, .iand, 1), (359, .iconst 3, 1), (360, .irem, 1), (361, .iadd, 1), (362, .invokevirtual 49, 3), (365, .pop, 1), (366, .aload_n 0, 1), (367, .ldc 52, 2)]
def zi_324_4 : zIns := [(369, .iload 4, 2), (371, .iconst 2, 1), (372, .ishr, 1), (373, .iconst 3, 1), (374, .iand, 1), (375, .invokevirtual 54, 3), (378, .invokevirtual 49, 3), (381, .pop, 1), (382, .aload_n 0, 1), (383, .bipush 49, 2), (385, .iload 4, 2), (387, .iconst 4, 1), (388, .ishr, 1), (389, .bipush 7, 2), (391, .iand, 1), (392, .iadd, 1), (393, .invokevirtual 49, 3), (396, .pop, 1), (397, .aload_n 0, 1), (398, .ldc 60, 2), (400, .iload 4, 2), (402, .bipush 7, 2), (404, .ishr, 1), (405, .iconst 1, 1), (406, .iand, 1), (407, .invokevirtual 54, 3), (410, .invokevirtual 49, 3), (413, .pop, 1), (414, .aload_n 0, 1), (415, .bipush 97, 2), (417, .iload 4, 2), (419, .bipush 8, 2), (421, .ishr, 1), (422, .iconst 3, 1), (423, .iand, 1), (424, .iconst 3, 1), (425, .irem, 1), (426, .iadd, 1), (427, .invokevirtual 49, 3), (430, .pop, 1), (431, .aload_n 0, 1), (432, .bipush 63, 2), (434, .invokevirtual 49, 3), (437, .pop, 1), (438, .aload_n 0, 1), (439, .invokevirtual 62, 3), (442, .pop, 1), (443, .goto 61, 3), (446, .aload_n 0, 1), (447, .invokevirtual 66, 3)]
def zi_324_5 : zIns := [(450, .pop, 1), (451, .goto 53, 3), (454, .iload 4, 2), (456, .iconst 3, 1), (457, .iand, 1), (458, .ifCond .ne 11, 3), (461, .aload_n 0, 1), (462, .invokevirtual 69, 3), (465, .pop, 1), (466, .goto 38, 3), (469, .iload 4, 2), (471, .iconst 3, 1), (472, .iand, 1), (473, .iconst 1, 1), (474, .if_icmp .ne 18, 3), (477, .aload_n 0, 1), (478, .iload 4, 2), (480, .iconst 2, 1), (481, .ishr, 1), (482, .bipush 31, 2), (484, .iand, 1), (485, .invokevirtual 72, 3), (488, .pop, 1), (489, .goto 15, 3), (492, .aload_n 0, 1), (493, .iload 4, 2), (495, .iconst 2, 1), (496, .ishr, 1), (497, .bipush 15, 2), (499, .iand, 1), (500, .invokevirtual 75, 3), (503, .pop, 1), (504, .return_, 1)]
def zi_324 : zIns := zi_324_0 ++ (zi_324_1 ++ (zi_324_2 ++ (zi_324_3 ++ (zi_324_4 ++ (zi_324_5)))))
def zi_325 : zIns := [(0, .iconst 0, 1), (1, .istore_n 1, 1), (2, .bipush 12, 2), (4, .istore_n 2, 1), (5, .iload_n 2, 1), (6, .bipush 16, 2), (8, .if_icmp .gt 17, 3), (11, .iload_n 1, 1), (12, .aload_n 0, 1), (13, .iload_n 2, 1), (14, .invokevirtual 78, 3), (17, .iadd, 1), (18, .istore_n 1, 1), (19, .iinc 2 1, 3), (22, .goto (-17), 3), (25, .iload_n 1, 1), (26, .ireturn, 1)]
def zi_326_0 : zIns := [(0, .aload_n 0, 1), (1, .iload_n 1, 1), (2, .iconst 0, 1), (3, .invokevirtual 81, 3), (6, .aload_n 0, 1), (7, .iload_n 1, 1), (8, .iconst 1, 1), (9, .invokevirtual 81, 3), (12, .iadd, 1), (13, .aload_n 0, 1), (14, .iload_n 1, 1), (15, .iconst 2, 1), (16, .invokevirtual 81, 3), (19, .iadd, 1), (20, .sipush 1000, 3), (23, .if_icmp .ne 31, 3), (26, .aload_n 0, 1), (27, .iload_n 1, 1), (28, .iconst 0, 1), (29, .invokevirtual 84, 3), (32, .aload_n 0, 1), (33, .iload_n 1, 1), (34, .iconst 1, 1), (35, .invokevirtual 84, 3), (38, .iadd, 1), (39, .aload_n 0, 1), (40, .iload_n 1, 1), (41, .iconst 2, 1), (42, .invokevirtual 84, 3), (45, .iadd, 1), (46, .aload_n 0, 1), (47, .iconst 0, 1), (48, .invokevirtual 78, 3), (51, .if_icmp .eq 5, 3), (54, .iconst 0, 1), (55, .ireturn, 1), (56, .aload_n 0, 1), (57, .iload_n 1, 1), (58, .iload_n 2, 1), (59, .invokevirtual 87, 3), (62, .istore_n 3, 1), (63, .iconst 0, 1), (64, .istore 4, 2), (66, .bipush (-2), 2), (68, .istore 5, 2), (70, .iconst 0, 1), (71, .istore 6, 2), (73, .iload 6, 2), (75, .iload_n 3, 1), (76, .if_icmp .ge 140, 3)]
def zi_326_1 : zIns := [(79, .aload_n 0, 1), (80, .iload_n 1, 1), (81, .iload_n 2, 1), (82, .iload 6, 2), (84, .invokevirtual 90, 3), (87, .sipush 1000, 3), (90, .idiv, 1), (91, .istore 7, 2), (93, .aload_n 0, 1), (94, .iload_n 1, 1), (95, .iload_n 2, 1), (96, .iload 6, 2), (98, .invokevirtual 90, 3), (101, .sipush 1000, 3), (104, .irem, 1), (105, .istore 8, 2), (107, .aload_n 0, 1), (108, .iload_n 1, 1), (109, .iload_n 2, 1), (110, .iload 7, 2), (112, .invokevirtual 93, 3), (115, .iconst 1, 1), (116, .if_icmp .ne 76, 3), (119, .aload_n 0, 1), (120, .iload_n 1, 1), (121, .iload_n 2, 1), (122, .iload 8, 2), (124, .invokevirtual 93, 3), (127, .iconst 1, 1), (128, .if_icmp .ne 64, 3), (131, .iload 8, 2), (133, .sipush 999, 3), (136, .if_icmp .ge 17, 3), (139, .aload_n 0, 1), (140, .iload_n 1, 1), (141, .iload_n 2, 1), (142, .iload 8, 2), (144, .iconst 1, 1), (145, .iadd, 1), (146, .invokevirtual 93, 3), (149, .iconst 1, 1), (150, .if_icmp .eq 42, 3), (153, .iload 7, 2), (155, .iload 5, 2), (157, .iconst 1, 1), (158, .iadd, 1), (159, .if_icmp .le 33, 3), (162, .aload_n 0, 1), (163, .iload_n 1, 1), (164, .iload_n 2, 1)]
def zi_326_2 : zIns := [(165, .iload 5, 2), (167, .iconst 1, 1), (168, .iadd, 1), (169, .iconst 0, 1), (170, .invokevirtual 96, 3), (173, .iload 7, 2), (175, .if_icmp .ne 17, 3), (178, .aload_n 0, 1), (179, .iload_n 1, 1), (180, .iload_n 2, 1), (181, .iload 8, 2), (183, .iconst 1, 1), (184, .invokevirtual 96, 3), (187, .iload 8, 2), (189, .if_icmp .eq 5, 3), (192, .iconst 0, 1), (193, .ireturn, 1), (194, .iload 4, 2), (196, .iload 8, 2), (198, .iload 7, 2), (200, .isub, 1), (201, .iconst 1, 1), (202, .iadd, 1), (203, .iadd, 1), (204, .istore 4, 2), (206, .iload 8, 2), (208, .istore 5, 2), (210, .iinc 6 1, 3), (213, .goto (-140), 3), (216, .aload_n 0, 1), (217, .iload_n 1, 1), (218, .iconst 1, 1), (219, .invokevirtual 84, 3), (222, .istore 6, 2), (224, .iload 4, 2), (226, .aload_n 0, 1), (227, .iload_n 1, 1), (228, .iconst 1, 1), (229, .invokevirtual 81, 3), (232, .if_icmp .ne 44, 3), (235, .aload_n 0, 1), (236, .iload_n 1, 1), (237, .iload_n 2, 1), (238, .iconst (-1), 1), (239, .invokevirtual 100, 3), (242, .iload 6, 2), (244, .if_icmp .ne 32, 3), (247, .aload_n 0, 1), (248, .iload_n 1, 1), (249, .invokevirtual 103, 3)]
def zi_326_3 : zIns := [(252, .iload_n 1, 1), (253, .if_icmp .gt 23, 3), (256, .aload_n 0, 1), (257, .iload_n 1, 1), (258, .iload_n 1, 1), (259, .invokevirtual 106, 3), (262, .iconst (-1), 1), (263, .if_icmp .ne 13, 3), (266, .aload_n 0, 1), (267, .iload_n 1, 1), (268, .iload_n 1, 1), (269, .invokevirtual 109, 3), (272, .iconst (-1), 1), (273, .if_icmp .eq 5, 3), (276, .iconst 0, 1), (277, .ireturn, 1), (278, .iconst 1, 1), (279, .istore 7, 2), (281, .iload 7, 2), (283, .iconst 5, 1), (284, .if_icmp .ge 101, 3), (287, .aload_n 0, 1), (288, .iload_n 1, 1), (289, .iload_n 2, 1), (290, .iload 7, 2), (292, .iconst 1, 1), (293, .invokevirtual 112, 3), (296, .aload_n 0, 1), (297, .iload_n 1, 1), (298, .iload_n 2, 1), (299, .iload 7, 2), (301, .iconst 2, 1), (302, .invokevirtual 112, 3), (305, .isub, 1), (306, .iload 6, 2), (308, .if_icmp .ne 69, 3), (311, .aload_n 0, 1), (312, .iload_n 1, 1), (313, .iload_n 2, 1), (314, .iload 7, 2), (316, .iconst (-1), 1), (317, .invokevirtual 115, 3), (320, .iload_n 3, 1), (321, .iload 7, 2), (323, .if_icmp .ge 7, 3), (326, .iload_n 3, 1), (327, .goto 5, 3), (330, .iload 7, 2), (332, .if_icmp .ne 45, 3), (335, .aload_n 0, 1)]
def zi_326_4 : zIns := [(336, .iload_n 1, 1), (337, .iload_n 2, 1), (338, .iload 7, 2), (340, .iconst 0, 1), (341, .invokevirtual 112, 3), (344, .aload_n 0, 1), (345, .iload_n 1, 1), (346, .iload_n 2, 1), (347, .iload 7, 2), (349, .iconst 1, 1), (350, .iadd, 1), (351, .iconst 0, 1), (352, .invokevirtual 112, 3), (355, .if_icmp .lt 22, 3), (358, .aload_n 0, 1), (359, .iload_n 1, 1), (360, .iload_n 2, 1), (361, .iload 7, 2), (363, .iconst 3, 1), (364, .invokevirtual 112, 3), (367, .aload_n 0, 1), (368, .iload_n 1, 1), (369, .iload_n 2, 1), (370, .iconst 1, 1), (371, .invokevirtual 118, 3), (374, .if_icmp .ge 5, 3), (377, .iconst 0, 1), (378, .ireturn, 1), (379, .iinc 7 1, 3), (382, .goto (-101), 3), (385, .iload 6, 2), (387, .bipush 40, 2), (389, .if_icmp .ge 8, 3), (392, .iload 6, 2), (394, .goto 5, 3), (397, .bipush 40, 2), (399, .istore 7, 2), (401, .aload_n 0, 1), (402, .bipush 7, 2), (404, .iconst 2, 1), (405, .bipush 40, 2), (407, .invokevirtual 121, 3), (410, .pop, 1), (411, .iconst (-1), 1), (412, .istore 8, 2), (414, .iconst 0, 1), (415, .istore 9, 2), (417, .iload 9, 2), (419, .iload 7, 2), (421, .if_icmp .ge 55, 3)]
def zi_326_5 : zIns := [(424, .aload_n 0, 1), (425, .iload_n 1, 1), (426, .iload_n 2, 1), (427, .iload 9, 2), (429, .invokevirtual 100, 3), (432, .istore 10, 2), (434, .iload 8, 2), (436, .ifCond .lt 18, 3), (439, .aload_n 0, 1), (440, .iload_n 1, 1), (441, .iload_n 2, 1), (442, .iload 8, 2), (444, .invokevirtual 124, 3), (447, .iload 10, 2), (449, .if_icmp .eq 5, 3), (452, .iconst 0, 1), (453, .ireturn, 1), (454, .aload_n 0, 1), (455, .bipush 7, 2), (457, .iload 9, 2), (459, .iload 10, 2), (461, .i2l, 1), (462, .invokevirtual 127, 3), (465, .pop, 1), (466, .iload 10, 2), (468, .istore 8, 2), (470, .iinc 9 1, 3), (473, .goto (-56), 3), (476, .aload_n 0, 1), (477, .iload_n 1, 1), (478, .iload_n 2, 1), (479, .bipush 7, 2), (481, .iload 7, 2), (483, .invokevirtual 131, 3), (486, .iload 6, 2), (488, .iload 7, 2), (490, .if_icmp .le 8, 3), (493, .iload 7, 2), (495, .goto 4, 3), (498, .iconst (-1), 1), (499, .if_icmp .ne 7, 3), (502, .iconst 1, 1), (503, .goto 4, 3), (506, .iconst 0, 1), (507, .ireturn, 1)]
def zi_326 : zIns := zi_326_0 ++ (zi_326_1 ++ (zi_326_2 ++ (zi_326_3 ++ (zi_326_4 ++ (zi_326_5)))))
def zi_327_0 : zIns := [(0, .aload_n 0, 1), (1, .iload_n 1, 1), (2, .iconst 0, 1), (3, .invokevirtual 134, 3), (6, .istore_n 2, 1), (7, .aload_n 0, 1), (8, .iload_n 1, 1), (9, .iconst 1, 1), (10, .invokevirtual 134, 3), (13, .istore_n 3, 1), (14, .aload_n 0, 1), (15, .iload_n 1, 1), (16, .iconst 2, 1), (17, .invokevirtual 134, 3), (20, .istore 4, 2), (22, .iload_n 2, 1), (23, .tableswitch 226 2 9 #[200, 226, 226, 226, 45, 72, 99, 150], 45), (68, .aload_n 0, 1), (69, .iload_n 1, 1), (70, .iload_n 3, 1), (71, .invokevirtual 106, 3), (74, .iconst (-1), 1), (75, .if_icmp .ne 18, 3), (78, .aload_n 0, 1), (79, .iload_n 1, 1), (80, .iload 4, 2), (82, .invokevirtual 106, 3), (85, .iconst (-1), 1), (86, .if_icmp .ne 7, 3), (89, .iconst 1, 1), (90, .goto 4, 3), (93, .iconst 0, 1), (94, .ireturn, 1), (95, .aload_n 0, 1), (96, .iload_n 3, 1), (97, .iload_n 1, 1), (98, .invokevirtual 106, 3), (101, .iconst (-1), 1), (102, .if_icmp .ne 18, 3), (105, .aload_n 0, 1), (106, .iload 4, 2), (108, .iload_n 1, 1), (109, .invokevirtual 106, 3), (112, .iconst (-1), 1), (113, .if_icmp .ne 7, 3), (116, .iconst 1, 1), (117, .goto 4, 3), (120, .iconst 0, 1), (121, .ireturn, 1), (122, .aload_n 0, 1)]
def zi_327_1 : zIns := [(123, .iload_n 1, 1), (124, .iconst 0, 1), (125, .invokevirtual 81, 3), (128, .aload_n 0, 1), (129, .iload_n 3, 1), (130, .iconst 1, 1), (131, .invokevirtual 81, 3), (134, .if_icmp .ne 37, 3), (137, .aload_n 0, 1), (138, .iload_n 1, 1), (139, .iconst 1, 1), (140, .invokevirtual 81, 3), (143, .aload_n 0, 1), (144, .iload_n 3, 1), (145, .iconst 0, 1), (146, .invokevirtual 81, 3), (149, .if_icmp .ne 22, 3), (152, .aload_n 0, 1), (153, .iload_n 1, 1), (154, .iconst 2, 1), (155, .invokevirtual 84, 3), (158, .aload_n 0, 1), (159, .iload_n 3, 1), (160, .iconst 2, 1), (161, .invokevirtual 84, 3), (164, .if_icmp .ne 7, 3), (167, .iconst 1, 1), (168, .goto 4, 3), (171, .iconst 0, 1), (172, .ireturn, 1), (173, .aload_n 0, 1), (174, .iload_n 1, 1), (175, .iconst 2, 1), (176, .invokevirtual 81, 3), (179, .ifCond .ne 42, 3), (182, .aload_n 0, 1), (183, .iload_n 1, 1), (184, .iconst 1, 1), (185, .invokevirtual 81, 3), (188, .aload_n 0, 1), (189, .iload_n 3, 1), (190, .iconst 1, 1), (191, .invokevirtual 81, 3), (194, .if_icmp .ne 27, 3), (197, .aload_n 0, 1), (198, .iload_n 1, 1), (199, .iload_n 3, 1), (200, .invokevirtual 106, 3), (203, .iconst (-1), 1), (204, .if_icmp .ne 17, 3)]
def zi_327_2 : zIns := [(207, .aload_n 0, 1), (208, .iload_n 3, 1), (209, .iload_n 1, 1), (210, .invokevirtual 106, 3), (213, .iconst (-1), 1), (214, .if_icmp .ne 7, 3), (217, .iconst 1, 1), (218, .goto 4, 3), (221, .iconst 0, 1), (222, .ireturn, 1), (223, .aload_n 0, 1), (224, .iload_n 1, 1), (225, .iconst 1, 1), (226, .invokevirtual 81, 3), (229, .bipush 100, 2), (231, .if_icmp .ne 16, 3), (234, .aload_n 0, 1), (235, .iload_n 1, 1), (236, .iconst 2, 1), (237, .invokevirtual 81, 3), (240, .ifCond .ne 7, 3), (243, .iconst 1, 1), (244, .goto 4, 3), (247, .iconst 0, 1), (248, .ireturn, 1), (249, .iload_n 3, 1), (250, .iconst (-1), 1), (251, .if_icmp .ne 13, 3), (254, .iload 4, 2), (256, .iconst (-1), 1), (257, .if_icmp .ne 7, 3), (260, .iconst 1, 1), (261, .goto 4, 3), (264, .iconst 0, 1), (265, .ireturn, 1)]
def zi_327 : zIns := zi_327_0 ++ (zi_327_1 ++ (zi_327_2))
def zI_0 : List zIns := [zi_0, zi_1, zi_2, zi_3, zi_4, zi_5, zi_6, zi_7, zi_8, zi_9, zi_10, zi_11, zi_12, zi_13, zi_14, zi_15, zi_16, zi_17, zi_18, zi_19, zi_20, zi_21, zi_22, zi_23, zi_24, zi_25, zi_26, zi_27, zi_28, zi_29, zi_30, zi_31, zi_32, zi_33, zi_34, zi_35, zi_36, zi_37, zi_38, zi_39]
def zI_1 : List zIns := [zi_40, zi_41, zi_42, zi_43, zi_44, zi_45, zi_46, zi_47, zi_48, zi_49, zi_50, zi_51, zi_52, zi_53, zi_54, zi_55, zi_56, zi_57, zi_58, zi_59, zi_60, zi_61, zi_62, zi_63, zi_64, zi_65, zi_66, zi_67, zi_68, zi_69, zi_70, zi_71, zi_72, zi_73, zi_74, zi_75, zi_76, zi_77, zi_78, zi_79]
def zI_2 : List zIns := [zi_80, zi_81, zi_82, zi_83, zi_84, zi_85, zi_86, zi_87, zi_88, zi_89, zi_90, zi_91, zi_92, zi_93, zi_94, zi_95, zi_96, zi_97, zi_98, zi_99, zi_100, zi_101, zi_102, zi_103, zi_104, zi_105, zi_106, zi_107, zi_108, zi_109, zi_110, zi_111, zi_112, zi_113, zi_114, zi_115, zi_116, zi_117, zi_118, zi_119]
def zI_3 : List zIns := [zi_120, zi_121, zi_122, zi_123, zi_124, zi_125, zi_126, zi_127, zi_128, zi_129, zi_130, zi_131, zi_132, zi_133, zi_134, zi_135, zi_136, zi_137, zi_138, zi_139, zi_140, zi_141, zi_142, zi_143, zi_144, zi_145, zi_146, zi_147, zi_148, zi_149, zi_150, zi_151, zi_152, zi_153, zi_154, zi_155, zi_156, zi_157, zi_158, zi_159]
def zI_4 : List zIns := [zi_160, zi_161, zi_162, zi_163, zi_164, zi_165, zi_166, zi_167, zi_168, zi_169, zi_170, zi_171, zi_172, zi_173, zi_174, zi_175, zi_176, zi_177, zi_178, zi_179, zi_180, zi_181, zi_182, zi_183, zi_184, zi_185, zi_186, zi_187, zi_188, zi_189, zi_190, zi_191, zi_192, zi_193, zi_194, zi_195, zi_196, zi_197, zi_198, zi_199]
def zI_5 : List zIns := [zi_200, zi_201, zi_202, zi_203, zi_204, zi_205, zi_206, zi_207, zi_208, zi_209, zi_210, zi_211, zi_212, zi_213, zi_214, zi_215, zi_216, zi_217, zi_218, zi_219, zi_220, zi_221, zi_222, zi_223, zi_224, zi_225, zi_226, zi_227, zi_228, zi_229, zi_230, zi_231, zi_232, zi_233, zi_234, zi_235, zi_236, zi_237, zi_238, zi_239]
def zI_6 : List zIns := [zi_240, zi_241, zi_242, zi_243, zi_244, zi_245, zi_246, zi_247, zi_248, zi_249, zi_250, zi_251, zi_252, zi_253, zi_254, zi_255, zi_256, zi_257, zi_258, zi_259, zi_260, zi_261, zi_262, zi_263, zi_264, zi_265, zi_266, zi_267, zi_268, zi_269, zi_270, zi_271, zi_272, zi_273, zi_274, zi_275, zi_276, zi_277, zi_278, zi_279]
def zI_7 : List zIns := [zi_280, zi_281, zi_282, zi_283, zi_284, zi_285, zi_286, zi_287, zi_288, zi_289, zi_290, zi_291, zi_292, zi_293, zi_294, zi_295, zi_296, zi_297, zi_298, zi_299, zi_300, zi_301, zi_302, zi_303, zi_304, zi_305, zi_306, zi_307, zi_308, zi_309, zi_310, zi_311, zi_312, zi_313, zi_314, zi_315, zi_316, zi_317, zi_318, zi_319]
def zI_8 : List zIns := [zi_320, zi_321, zi_322, zi_323, zi_324, zi_325, zi_326, zi_327]
def zinsT (k : Nat) : zIns := match k / 40 with
  | 0 => (zI_0[k % 40]?).getD []
  | 1 => (zI_1[k % 40]?).getD []
  | 2 => (zI_2[k % 40]?).getD []
  | 3 => (zI_3[k % 40]?).getD []
  | 4 => (zI_4[k % 40]?).getD []
  | 5 => (zI_5[k % 40]?).getD []
  | 6 => (zI_6[k % 40]?).getD []
  | 7 => (zI_7[k % 40]?).getD []
  | 8 => (zI_8[k % 40]?).getD []
  | _ => []
def zins (k pc : Nat) : Option (Instr × Nat) := zlk (zinsT k) pc
def zdok (b : ByteArray) (I : zIns) : Prop := ∀ q ∈ I, decode b q.1 = .ok q.2
theorem zdok_of {b : ByteArray} {I : zIns} (h : I.all (fun q => decide (decode b q.1 = .ok q.2)) = true) : zdok b I := fun q hq => of_decide_eq_true (List.all_eq_true.mp h q hq)
theorem zdok_app {b : ByteArray} {I J : zIns} (h : zdok b I) (k : zdok b J) : zdok b (I ++ J) := fun q hq => (List.mem_append.mp hq).elim (h q) (k q)
theorem zdok_0 : zdok prog_2_method_1_code zi_0 := zdok_of (by decide +kernel)
theorem zdok_1 : zdok prog_2_method_2_code zi_1 := zdok_of (by decide +kernel)
theorem zdok_2 : zdok prog_2_method_3_code zi_2 := zdok_of (by decide +kernel)
theorem zdok_3 : zdok prog_2_method_4_code zi_3 := zdok_of (by decide +kernel)
theorem zdok_4 : zdok prog_2_method_5_code zi_4 := zdok_of (by decide +kernel)
theorem zdok_5 : zdok prog_2_method_6_code zi_5 := zdok_of (by decide +kernel)
theorem zdok_6_0 : zdok prog_2_method_7_code zi_6_0 := zdok_of (by decide +kernel)
theorem zdok_6_1 : zdok prog_2_method_7_code zi_6_1 := zdok_of (by decide +kernel)
theorem zdok_6 : zdok prog_2_method_7_code zi_6 := zdok_app zdok_6_0 (zdok_6_1)
theorem zdok_7 : zdok prog_2_method_11_code zi_7 := zdok_of (by decide +kernel)
theorem zdok_8 : zdok prog_2_method_12_code zi_8 := zdok_of (by decide +kernel)
theorem zdok_9_0 : zdok prog_2_method_13_code zi_9_0 := zdok_of (by decide +kernel)
theorem zdok_9_1 : zdok prog_2_method_13_code zi_9_1 := zdok_of (by decide +kernel)
theorem zdok_9 : zdok prog_2_method_13_code zi_9 := zdok_app zdok_9_0 (zdok_9_1)
theorem zdok_10 : zdok prog_2_method_14_code zi_10 := zdok_of (by decide +kernel)
theorem zdok_11 : zdok prog_2_method_15_code zi_11 := zdok_of (by decide +kernel)
theorem zdok_12 : zdok prog_2_method_16_code zi_12 := zdok_of (by decide +kernel)
theorem zdok_13 : zdok prog_2_method_17_code zi_13 := zdok_of (by decide +kernel)
theorem zdok_14 : zdok prog_2_method_18_code zi_14 := zdok_of (by decide +kernel)
theorem zdok_15 : zdok prog_2_method_19_code zi_15 := zdok_of (by decide +kernel)
theorem zdok_16 : zdok code zi_16 := fun q h => by cases h
theorem zdok_17 : zdok code zi_17 := fun q h => by cases h
theorem zdok_18 : zdok prog_2_method_22_code zi_18 := zdok_of (by decide +kernel)
theorem zdok_19 : zdok code zi_19 := fun q h => by cases h
theorem zdok_20 : zdok prog_2_method_24_code zi_20 := zdok_of (by decide +kernel)
theorem zdok_21 : zdok prog_3_method_1_code zi_21 := zdok_of (by decide +kernel)
theorem zdok_22 : zdok prog_3_method_2_code zi_22 := zdok_of (by decide +kernel)
theorem zdok_23 : zdok prog_3_method_3_code zi_23 := zdok_of (by decide +kernel)
theorem zdok_24 : zdok prog_3_method_4_code zi_24 := zdok_of (by decide +kernel)
theorem zdok_25 : zdok prog_3_method_5_code zi_25 := zdok_of (by decide +kernel)
theorem zdok_26 : zdok prog_3_method_6_code zi_26 := zdok_of (by decide +kernel)
theorem zdok_27 : zdok prog_3_method_7_code zi_27 := zdok_of (by decide +kernel)
theorem zdok_28 : zdok prog_3_method_8_code zi_28 := zdok_of (by decide +kernel)
theorem zdok_29 : zdok prog_3_method_9_code zi_29 := zdok_of (by decide +kernel)
theorem zdok_30_0 : zdok prog_3_method_10_code zi_30_0 := zdok_of (by decide +kernel)
theorem zdok_30_1 : zdok prog_3_method_10_code zi_30_1 := zdok_of (by decide +kernel)
theorem zdok_30 : zdok prog_3_method_10_code zi_30 := zdok_app zdok_30_0 (zdok_30_1)
theorem zdok_31 : zdok prog_4_method_1_code zi_31 := zdok_of (by decide +kernel)
theorem zdok_32 : zdok prog_4_method_2_code zi_32 := zdok_of (by decide +kernel)
theorem zdok_33 : zdok prog_4_method_3_code zi_33 := zdok_of (by decide +kernel)
theorem zdok_34 : zdok prog_4_method_4_code zi_34 := zdok_of (by decide +kernel)
theorem zdok_35 : zdok prog_4_method_5_code zi_35 := zdok_of (by decide +kernel)
theorem zdok_36 : zdok prog_4_method_6_code zi_36 := zdok_of (by decide +kernel)
theorem zdok_37 : zdok prog_4_method_7_code zi_37 := zdok_of (by decide +kernel)
theorem zdok_38 : zdok prog_4_method_8_code zi_38 := zdok_of (by decide +kernel)
theorem zdok_39 : zdok prog_4_method_9_code zi_39 := zdok_of (by decide +kernel)
theorem zdok_40 : zdok prog_4_method_10_code zi_40 := zdok_of (by decide +kernel)
theorem zdok_41 : zdok prog_4_method_11_code zi_41 := zdok_of (by decide +kernel)
theorem zdok_42 : zdok prog_4_method_12_code zi_42 := zdok_of (by decide +kernel)
theorem zdok_43 : zdok prog_4_method_13_code zi_43 := zdok_of (by decide +kernel)
theorem zdok_44 : zdok prog_4_method_14_code zi_44 := zdok_of (by decide +kernel)
theorem zdok_45 : zdok prog_5_method_1_code zi_45 := zdok_of (by decide +kernel)
theorem zdok_46 : zdok prog_5_method_2_code zi_46 := zdok_of (by decide +kernel)
theorem zdok_47 : zdok prog_5_method_3_code zi_47 := zdok_of (by decide +kernel)
theorem zdok_48 : zdok prog_5_method_4_code zi_48 := zdok_of (by decide +kernel)
theorem zdok_49 : zdok prog_5_method_5_code zi_49 := zdok_of (by decide +kernel)
theorem zdok_50 : zdok prog_5_method_6_code zi_50 := zdok_of (by decide +kernel)
theorem zdok_51 : zdok prog_6_method_1_code zi_51 := zdok_of (by decide +kernel)
theorem zdok_52 : zdok code zi_52 := fun q h => by cases h
theorem zdok_53 : zdok code zi_53 := fun q h => by cases h
theorem zdok_54 : zdok code zi_54 := fun q h => by cases h
theorem zdok_55 : zdok code zi_55 := fun q h => by cases h
theorem zdok_56_0 : zdok prog_6_method_6_code zi_56_0 := zdok_of (by decide +kernel)
theorem zdok_56_1 : zdok prog_6_method_6_code zi_56_1 := zdok_of (by decide +kernel)
theorem zdok_56 : zdok prog_6_method_6_code zi_56 := zdok_app zdok_56_0 (zdok_56_1)
theorem zdok_57 : zdok prog_6_method_7_code zi_57 := zdok_of (by decide +kernel)
theorem zdok_58 : zdok prog_6_method_8_code zi_58 := zdok_of (by decide +kernel)
theorem zdok_59 : zdok prog_6_method_9_code zi_59 := zdok_of (by decide +kernel)
theorem zdok_60_0 : zdok prog_6_method_10_code zi_60_0 := zdok_of (by decide +kernel)
theorem zdok_60_1 : zdok prog_6_method_10_code zi_60_1 := zdok_of (by decide +kernel)
theorem zdok_60 : zdok prog_6_method_10_code zi_60 := zdok_app zdok_60_0 (zdok_60_1)
theorem zdok_61 : zdok prog_6_method_11_code zi_61 := zdok_of (by decide +kernel)
theorem zdok_62 : zdok prog_6_method_12_code zi_62 := zdok_of (by decide +kernel)
theorem zdok_63 : zdok prog_6_method_13_code zi_63 := zdok_of (by decide +kernel)
theorem zdok_64 : zdok prog_6_method_14_code zi_64 := zdok_of (by decide +kernel)
theorem zdok_65 : zdok prog_6_method_15_code zi_65 := zdok_of (by decide +kernel)
theorem zdok_66 : zdok prog_6_method_16_code zi_66 := zdok_of (by decide +kernel)
theorem zdok_67 : zdok prog_6_method_17_code zi_67 := zdok_of (by decide +kernel)
theorem zdok_68 : zdok prog_6_method_18_code zi_68 := zdok_of (by decide +kernel)
theorem zdok_69_0 : zdok prog_6_method_19_code zi_69_0 := zdok_of (by decide +kernel)
theorem zdok_69_1 : zdok prog_6_method_19_code zi_69_1 := zdok_of (by decide +kernel)
theorem zdok_69 : zdok prog_6_method_19_code zi_69 := zdok_app zdok_69_0 (zdok_69_1)
theorem zdok_70 : zdok prog_6_method_20_code zi_70 := zdok_of (by decide +kernel)
theorem zdok_71_0 : zdok prog_6_method_21_code zi_71_0 := zdok_of (by decide +kernel)
theorem zdok_71_1 : zdok prog_6_method_21_code zi_71_1 := zdok_of (by decide +kernel)
theorem zdok_71 : zdok prog_6_method_21_code zi_71 := zdok_app zdok_71_0 (zdok_71_1)
theorem zdok_72 : zdok prog_7_method_1_code zi_72 := zdok_of (by decide +kernel)
theorem zdok_73 : zdok prog_7_method_2_code zi_73 := zdok_of (by decide +kernel)
theorem zdok_74 : zdok code zi_74 := fun q h => by cases h
theorem zdok_75 : zdok code zi_75 := fun q h => by cases h
theorem zdok_76 : zdok code zi_76 := fun q h => by cases h
theorem zdok_77 : zdok prog_7_method_6_code zi_77 := zdok_of (by decide +kernel)
theorem zdok_78 : zdok prog_7_method_7_code zi_78 := zdok_of (by decide +kernel)
theorem zdok_79 : zdok prog_7_method_8_code zi_79 := zdok_of (by decide +kernel)
theorem zdok_80 : zdok prog_7_method_9_code zi_80 := zdok_of (by decide +kernel)
theorem zdok_81 : zdok code zi_81 := fun q h => by cases h
theorem zdok_82 : zdok prog_7_method_11_code zi_82 := zdok_of (by decide +kernel)
theorem zdok_83 : zdok code zi_83 := fun q h => by cases h
theorem zdok_84 : zdok prog_7_method_13_code zi_84 := zdok_of (by decide +kernel)
theorem zdok_85 : zdok prog_7_method_14_code zi_85 := zdok_of (by decide +kernel)
theorem zdok_86 : zdok code zi_86 := fun q h => by cases h
theorem zdok_87 : zdok prog_7_method_16_code zi_87 := zdok_of (by decide +kernel)
theorem zdok_88 : zdok prog_7_method_17_code zi_88 := zdok_of (by decide +kernel)
theorem zdok_89 : zdok prog_7_method_18_code zi_89 := zdok_of (by decide +kernel)
theorem zdok_90 : zdok prog_8_method_1_code zi_90 := zdok_of (by decide +kernel)
theorem zdok_91_0 : zdok prog_8_method_2_code zi_91_0 := zdok_of (by decide +kernel)
theorem zdok_91_1 : zdok prog_8_method_2_code zi_91_1 := zdok_of (by decide +kernel)
theorem zdok_91 : zdok prog_8_method_2_code zi_91 := zdok_app zdok_91_0 (zdok_91_1)
theorem zdok_92 : zdok prog_8_method_3_code zi_92 := zdok_of (by decide +kernel)
theorem zdok_93 : zdok prog_8_method_4_code zi_93 := zdok_of (by decide +kernel)
theorem zdok_94 : zdok prog_8_method_5_code zi_94 := zdok_of (by decide +kernel)
theorem zdok_95_0 : zdok prog_8_method_6_code zi_95_0 := zdok_of (by decide +kernel)
theorem zdok_95_1 : zdok prog_8_method_6_code zi_95_1 := zdok_of (by decide +kernel)
theorem zdok_95 : zdok prog_8_method_6_code zi_95 := zdok_app zdok_95_0 (zdok_95_1)
theorem zdok_96 : zdok prog_8_method_7_code zi_96 := zdok_of (by decide +kernel)
theorem zdok_97 : zdok prog_8_method_8_code zi_97 := zdok_of (by decide +kernel)
theorem zdok_98 : zdok prog_8_method_10_code zi_98 := zdok_of (by decide +kernel)
theorem zdok_99 : zdok prog_8_method_11_code zi_99 := zdok_of (by decide +kernel)
theorem zdok_100 : zdok prog_8_method_12_code zi_100 := zdok_of (by decide +kernel)
theorem zdok_101 : zdok prog_8_method_13_code zi_101 := zdok_of (by decide +kernel)
theorem zdok_102_0 : zdok prog_8_method_14_code zi_102_0 := zdok_of (by decide +kernel)
theorem zdok_102_1 : zdok prog_8_method_14_code zi_102_1 := zdok_of (by decide +kernel)
theorem zdok_102 : zdok prog_8_method_14_code zi_102 := zdok_app zdok_102_0 (zdok_102_1)
theorem zdok_103_0 : zdok prog_8_method_15_code zi_103_0 := zdok_of (by decide +kernel)
theorem zdok_103_1 : zdok prog_8_method_15_code zi_103_1 := zdok_of (by decide +kernel)
theorem zdok_103 : zdok prog_8_method_15_code zi_103 := zdok_app zdok_103_0 (zdok_103_1)
theorem zdok_104 : zdok prog_9_method_1_code zi_104 := zdok_of (by decide +kernel)
theorem zdok_105 : zdok prog_9_method_2_code zi_105 := zdok_of (by decide +kernel)
theorem zdok_106 : zdok prog_9_method_3_code zi_106 := zdok_of (by decide +kernel)
theorem zdok_107 : zdok prog_9_method_4_code zi_107 := zdok_of (by decide +kernel)
theorem zdok_108 : zdok prog_9_method_5_code zi_108 := zdok_of (by decide +kernel)
theorem zdok_109 : zdok prog_9_method_6_code zi_109 := zdok_of (by decide +kernel)
theorem zdok_110 : zdok prog_9_method_7_code zi_110 := zdok_of (by decide +kernel)
theorem zdok_111 : zdok prog_9_method_8_code zi_111 := zdok_of (by decide +kernel)
theorem zdok_112 : zdok prog_9_method_9_code zi_112 := zdok_of (by decide +kernel)
theorem zdok_113_0 : zdok prog_1_method_1_code zi_113_0 := zdok_of (by decide +kernel)
theorem zdok_113_1 : zdok prog_1_method_1_code zi_113_1 := zdok_of (by decide +kernel)
theorem zdok_113 : zdok prog_1_method_1_code zi_113 := zdok_app zdok_113_0 (zdok_113_1)
theorem zdok_114 : zdok prog_1_method_2_code zi_114 := zdok_of (by decide +kernel)
theorem zdok_115 : zdok prog_1_method_3_code zi_115 := zdok_of (by decide +kernel)
theorem zdok_116 : zdok code zi_116 := fun q h => by cases h
theorem zdok_117 : zdok code zi_117 := fun q h => by cases h
theorem zdok_118 : zdok code zi_118 := fun q h => by cases h
theorem zdok_119 : zdok code zi_119 := fun q h => by cases h
theorem zdok_120 : zdok code zi_120 := fun q h => by cases h
theorem zdok_121 : zdok prog_1_method_9_code zi_121 := zdok_of (by decide +kernel)
theorem zdok_122 : zdok prog_1_method_10_code zi_122 := zdok_of (by decide +kernel)
theorem zdok_123 : zdok prog_1_method_11_code zi_123 := zdok_of (by decide +kernel)
theorem zdok_124 : zdok prog_1_method_12_code zi_124 := zdok_of (by decide +kernel)
theorem zdok_125 : zdok prog_1_method_13_code zi_125 := zdok_of (by decide +kernel)
theorem zdok_126 : zdok code zi_126 := fun q h => by cases h
theorem zdok_127 : zdok code zi_127 := fun q h => by cases h
theorem zdok_128 : zdok prog_1_method_16_code zi_128 := zdok_of (by decide +kernel)
theorem zdok_129 : zdok prog_1_method_17_code zi_129 := zdok_of (by decide +kernel)
theorem zdok_130 : zdok prog_1_method_18_code zi_130 := zdok_of (by decide +kernel)
theorem zdok_131 : zdok prog_1_method_19_code zi_131 := zdok_of (by decide +kernel)
theorem zdok_132 : zdok prog_1_method_20_code zi_132 := zdok_of (by decide +kernel)
theorem zdok_133 : zdok prog_1_method_21_code zi_133 := zdok_of (by decide +kernel)
theorem zdok_134 : zdok code zi_134 := fun q h => by cases h
theorem zdok_135 : zdok prog_1_method_23_code zi_135 := zdok_of (by decide +kernel)
theorem zdok_136 : zdok prog_1_method_24_code zi_136 := zdok_of (by decide +kernel)
theorem zdok_137 : zdok prog_1_method_25_code zi_137 := zdok_of (by decide +kernel)
theorem zdok_138 : zdok prog_1_method_26_code zi_138 := zdok_of (by decide +kernel)
theorem zdok_139 : zdok prog_1_method_27_code zi_139 := zdok_of (by decide +kernel)
theorem zdok_140 : zdok code zi_140 := fun q h => by cases h
theorem zdok_141 : zdok prog_1_method_29_code zi_141 := zdok_of (by decide +kernel)
theorem zdok_142 : zdok prog_1_method_30_code zi_142 := zdok_of (by decide +kernel)
theorem zdok_143 : zdok prog_1_method_31_code zi_143 := zdok_of (by decide +kernel)
theorem zdok_144 : zdok code zi_144 := fun q h => by cases h
theorem zdok_145 : zdok prog_1_method_33_code zi_145 := zdok_of (by decide +kernel)
theorem zdok_146 : zdok prog_1_method_34_code zi_146 := zdok_of (by decide +kernel)
theorem zdok_147_0 : zdok prog_1_method_35_code zi_147_0 := zdok_of (by decide +kernel)
theorem zdok_147_1 : zdok prog_1_method_35_code zi_147_1 := zdok_of (by decide +kernel)
theorem zdok_147 : zdok prog_1_method_35_code zi_147 := zdok_app zdok_147_0 (zdok_147_1)
theorem zdok_148_0 : zdok prog_1_method_36_code zi_148_0 := zdok_of (by decide +kernel)
theorem zdok_148_1 : zdok prog_1_method_36_code zi_148_1 := zdok_of (by decide +kernel)
theorem zdok_148 : zdok prog_1_method_36_code zi_148 := zdok_app zdok_148_0 (zdok_148_1)
theorem zdok_149 : zdok prog_1_method_37_code zi_149 := zdok_of (by decide +kernel)
theorem zdok_150 : zdok code zi_150 := fun q h => by cases h
theorem zdok_151 : zdok prog_1_method_39_code zi_151 := zdok_of (by decide +kernel)
theorem zdok_152 : zdok code zi_152 := fun q h => by cases h
theorem zdok_153 : zdok prog_1_method_41_code zi_153 := zdok_of (by decide +kernel)
theorem zdok_154 : zdok code zi_154 := fun q h => by cases h
theorem zdok_155 : zdok prog_1_method_43_code zi_155 := zdok_of (by decide +kernel)
theorem zdok_156 : zdok prog_1_method_44_code zi_156 := zdok_of (by decide +kernel)
theorem zdok_157 : zdok prog_1_method_45_code zi_157 := zdok_of (by decide +kernel)
theorem zdok_158 : zdok prog_1_method_46_code zi_158 := zdok_of (by decide +kernel)
theorem zdok_159 : zdok code zi_159 := fun q h => by cases h
theorem zdok_160_0 : zdok prog_1_method_48_code zi_160_0 := zdok_of (by decide +kernel)
theorem zdok_160_1 : zdok prog_1_method_48_code zi_160_1 := zdok_of (by decide +kernel)
theorem zdok_160 : zdok prog_1_method_48_code zi_160 := zdok_app zdok_160_0 (zdok_160_1)
theorem zdok_161 : zdok code zi_161 := fun q h => by cases h
theorem zdok_162 : zdok code zi_162 := fun q h => by cases h
theorem zdok_163 : zdok prog_1_method_51_code zi_163 := zdok_of (by decide +kernel)
theorem zdok_164 : zdok code zi_164 := fun q h => by cases h
theorem zdok_165 : zdok prog_1_method_53_code zi_165 := zdok_of (by decide +kernel)
theorem zdok_166 : zdok prog_1_method_54_code zi_166 := zdok_of (by decide +kernel)
theorem zdok_167_0 : zdok prog_1_method_55_code zi_167_0 := zdok_of (by decide +kernel)
theorem zdok_167_1 : zdok prog_1_method_55_code zi_167_1 := zdok_of (by decide +kernel)
theorem zdok_167 : zdok prog_1_method_55_code zi_167 := zdok_app zdok_167_0 (zdok_167_1)
theorem zdok_168 : zdok prog_1_method_56_code zi_168 := zdok_of (by decide +kernel)
theorem zdok_169 : zdok prog_1_method_57_code zi_169 := zdok_of (by decide +kernel)
theorem zdok_170 : zdok prog_1_method_58_code zi_170 := zdok_of (by decide +kernel)
theorem zdok_171 : zdok code zi_171 := fun q h => by cases h
theorem zdok_172 : zdok code zi_172 := fun q h => by cases h
theorem zdok_173 : zdok code zi_173 := fun q h => by cases h
theorem zdok_174 : zdok prog_1_method_62_code zi_174 := zdok_of (by decide +kernel)
theorem zdok_175 : zdok prog_1_method_63_code zi_175 := zdok_of (by decide +kernel)
theorem zdok_176 : zdok prog_1_method_64_code zi_176 := zdok_of (by decide +kernel)
theorem zdok_177 : zdok prog_1_method_65_code zi_177 := zdok_of (by decide +kernel)
theorem zdok_178 : zdok prog_1_method_66_code zi_178 := zdok_of (by decide +kernel)
theorem zdok_179 : zdok prog_1_method_67_code zi_179 := zdok_of (by decide +kernel)
theorem zdok_180 : zdok prog_1_method_68_code zi_180 := zdok_of (by decide +kernel)
theorem zdok_181 : zdok prog_1_method_69_code zi_181 := zdok_of (by decide +kernel)
theorem zdok_182 : zdok prog_1_method_70_code zi_182 := zdok_of (by decide +kernel)
theorem zdok_183 : zdok prog_1_method_71_code zi_183 := zdok_of (by decide +kernel)
theorem zdok_184 : zdok prog_1_method_72_code zi_184 := zdok_of (by decide +kernel)
theorem zdok_185 : zdok prog_1_method_73_code zi_185 := zdok_of (by decide +kernel)
theorem zdok_186 : zdok prog_1_method_74_code zi_186 := zdok_of (by decide +kernel)
theorem zdok_187 : zdok prog_1_method_75_code zi_187 := zdok_of (by decide +kernel)
theorem zdok_188 : zdok prog_1_method_76_code zi_188 := zdok_of (by decide +kernel)
theorem zdok_189 : zdok prog_1_method_77_code zi_189 := zdok_of (by decide +kernel)
theorem zdok_315 : zdok code zi_315 := fun q h => by cases h
theorem zdok_316 : zdok prog_12_method_65_code zi_316 := zdok_of (by decide +kernel)
theorem zdok_317 : zdok prog_12_method_69_code zi_317 := zdok_of (by decide +kernel)
theorem zdok_318_0 : zdok code zi_318_0 := zdok_of (by decide +kernel)
theorem zdok_318_1 : zdok code zi_318_1 := zdok_of (by decide +kernel)
theorem zdok_318_2 : zdok code zi_318_2 := zdok_of (by decide +kernel)
theorem zdok_318_3 : zdok code zi_318_3 := zdok_of (by decide +kernel)
theorem zdok_318 : zdok code zi_318 := zdok_app zdok_318_0 (zdok_app zdok_318_1 (zdok_app zdok_318_2 (zdok_318_3)))
theorem zdok_319 : zdok prog_2_method_8_code zi_319 := zdok_of (by decide +kernel)
theorem zdok_320 : zdok prog_2_method_9_code zi_320 := zdok_of (by decide +kernel)
theorem zdok_321 : zdok prog_2_method_10_code zi_321 := zdok_of (by decide +kernel)
theorem zdok_322 : zdok prog_8_method_9_code zi_322 := zdok_of (by decide +kernel)
theorem zdok_323 : zdok method_2_code zi_323 := zdok_of (by decide +kernel)
theorem zdok_324_0 : zdok method_3_code zi_324_0 := zdok_of (by decide +kernel)
theorem zdok_324_1 : zdok method_3_code zi_324_1 := zdok_of (by decide +kernel)
theorem zdok_324_2 : zdok method_3_code zi_324_2 := zdok_of (by decide +kernel)
theorem zdok_324_3 : zdok method_3_code zi_324_3 := zdok_of (by decide +kernel)
theorem zdok_324_4 : zdok method_3_code zi_324_4 := zdok_of (by decide +kernel)
theorem zdok_324_5 : zdok method_3_code zi_324_5 := zdok_of (by decide +kernel)
theorem zdok_324 : zdok method_3_code zi_324 := zdok_app zdok_324_0 (zdok_app zdok_324_1 (zdok_app zdok_324_2 (zdok_app zdok_324_3 (zdok_app zdok_324_4 (zdok_324_5)))))
theorem zdok_325 : zdok method_4_code zi_325 := zdok_of (by decide +kernel)
theorem zdok_326_0 : zdok method_5_code zi_326_0 := zdok_of (by decide +kernel)
theorem zdok_326_1 : zdok method_5_code zi_326_1 := zdok_of (by decide +kernel)
theorem zdok_326_2 : zdok method_5_code zi_326_2 := zdok_of (by decide +kernel)
theorem zdok_326_3 : zdok method_5_code zi_326_3 := zdok_of (by decide +kernel)
theorem zdok_326_4 : zdok method_5_code zi_326_4 := zdok_of (by decide +kernel)
theorem zdok_326_5 : zdok method_5_code zi_326_5 := zdok_of (by decide +kernel)
theorem zdok_326 : zdok method_5_code zi_326 := zdok_app zdok_326_0 (zdok_app zdok_326_1 (zdok_app zdok_326_2 (zdok_app zdok_326_3 (zdok_app zdok_326_4 (zdok_326_5)))))
theorem zdok_327_0 : zdok method_6_code zi_327_0 := zdok_of (by decide +kernel)
theorem zdok_327_1 : zdok method_6_code zi_327_1 := zdok_of (by decide +kernel)
theorem zdok_327_2 : zdok method_6_code zi_327_2 := zdok_of (by decide +kernel)
theorem zdok_327 : zdok method_6_code zi_327 := zdok_app zdok_327_0 (zdok_app zdok_327_1 (zdok_327_2))
end
section
-- ===== PART A: goes FIRST, ahead of the names: the tables' words, and 'selects' of the private methods out of them =====
/-- a private method of a class that the tables say can be made, by its rows of tables_1 -/
def lw_okq (q : MethodName × Nat) : Prop := (q.1.cls ≠ "java/lang/invoke/MethodHandle" ∧ q.1.cls ≠ "java/lang/invoke/VarHandle") ∧ Cond.instantiable q.1.cls q.2 ∈ tables_1 ∧ Cond.privateMethod q.1 ∈ tables_1 ∧ Cond.instanceMethod q.1 ∈ tables_1
theorem lw_p0 : lw_okq (⟨"SkippingKeys", "refuse", "(I)I"⟩, 12) := ⟨⟨by decide +kernel, by decide +kernel⟩, List.mem_of_getElem? (i := 17) (by decide +kernel), List.mem_of_getElem? (i := 284) (by decide +kernel), List.mem_of_getElem? (i := 285) (by decide +kernel)⟩
theorem lw_p1 : lw_okq (⟨"SkippingKeys$Lines", "draw", "(I)I"⟩, 4) := ⟨⟨by decide +kernel, by decide +kernel⟩, List.mem_of_getElem? (i := 25) (by decide +kernel), List.mem_of_getElem? (i := 370) (by decide +kernel), List.mem_of_getElem? (i := 371) (by decide +kernel)⟩
theorem lw_p2 : lw_okq (⟨"SkippingKeys$Lines", "putAll", "(IIII)V"⟩, 4) := ⟨⟨by decide +kernel, by decide +kernel⟩, List.mem_of_getElem? (i := 25) (by decide +kernel), List.mem_of_getElem? (i := 379) (by decide +kernel), List.mem_of_getElem? (i := 380) (by decide +kernel)⟩
theorem lw_p3 : lw_okq (⟨"SkippingKeys", "countDifferentKeys", "()I"⟩, 12) := ⟨⟨by decide +kernel, by decide +kernel⟩, List.mem_of_getElem? (i := 17) (by decide +kernel), List.mem_of_getElem? (i := 428) (by decide +kernel), List.mem_of_getElem? (i := 429) (by decide +kernel)⟩
theorem lw_p4 : lw_okq (⟨"SkippingKeys", "clearSeen", "()V"⟩, 12) := ⟨⟨by decide +kernel, by decide +kernel⟩, List.mem_of_getElem? (i := 17) (by decide +kernel), List.mem_of_getElem? (i := 432) (by decide +kernel), List.mem_of_getElem? (i := 433) (by decide +kernel)⟩
theorem lw_p5 : lw_okq (⟨"SkippingKeys", "countSeen", "()I"⟩, 12) := ⟨⟨by decide +kernel, by decide +kernel⟩, List.mem_of_getElem? (i := 17) (by decide +kernel), List.mem_of_getElem? (i := 437) (by decide +kernel), List.mem_of_getElem? (i := 438) (by decide +kernel)⟩
theorem lw_p6 : lw_okq (⟨"SkippingKeys", "settled", "()I"⟩, 12) := ⟨⟨by decide +kernel, by decide +kernel⟩, List.mem_of_getElem? (i := 17) (by decide +kernel), List.mem_of_getElem? (i := 481) (by decide +kernel), List.mem_of_getElem? (i := 482) (by decide +kernel)⟩
theorem lw_p7 : lw_okq (⟨"SkippingKeys$Condition", "leafTruth", "(I)I"⟩, 12) := ⟨⟨by decide +kernel, by decide +kernel⟩, List.mem_of_getElem? (i := 58) (by decide +kernel), List.mem_of_getElem? (i := 504) (by decide +kernel), List.mem_of_getElem? (i := 505) (by decide +kernel)⟩
theorem lw_p8 : lw_okq (⟨"SkippingKeys$Condition", "digitOf", "(II)I"⟩, 12) := ⟨⟨by decide +kernel, by decide +kernel⟩, List.mem_of_getElem? (i := 58) (by decide +kernel), List.mem_of_getElem? (i := 508) (by decide +kernel), List.mem_of_getElem? (i := 509) (by decide +kernel)⟩
theorem lw_p9 : lw_okq (⟨"SkippingKeys$Condition", "orderTruth", "(I)I"⟩, 12) := ⟨⟨by decide +kernel, by decide +kernel⟩, List.mem_of_getElem? (i := 58) (by decide +kernel), List.mem_of_getElem? (i := 520) (by decide +kernel), List.mem_of_getElem? (i := 521) (by decide +kernel)⟩
theorem lw_p10 : lw_okq (⟨"SkippingKeys$Condition", "equalTruth", "(I)I"⟩, 12) := ⟨⟨by decide +kernel, by decide +kernel⟩, List.mem_of_getElem? (i := 58) (by decide +kernel), List.mem_of_getElem? (i := 524) (by decide +kernel), List.mem_of_getElem? (i := 525) (by decide +kernel)⟩
theorem lw_p11 : lw_okq (⟨"SkippingKeys$Condition", "keepTruth", "(II)V"⟩, 12) := ⟨⟨by decide +kernel, by decide +kernel⟩, List.mem_of_getElem? (i := 58) (by decide +kernel), List.mem_of_getElem? (i := 531) (by decide +kernel), List.mem_of_getElem? (i := 532) (by decide +kernel)⟩
theorem lw_p12 : lw_okq (⟨"SkippingKeys$Condition", "joinedTruth", "(II)I"⟩, 12) := ⟨⟨by decide +kernel, by decide +kernel⟩, List.mem_of_getElem? (i := 58) (by decide +kernel), List.mem_of_getElem? (i := 542) (by decide +kernel), List.mem_of_getElem? (i := 543) (by decide +kernel)⟩
theorem lw_p13 : lw_okq (⟨"SkippingKeys$Reader", "isClosed", "(LSkippingKeys$Conditions;)Z"⟩, 6) := ⟨⟨by decide +kernel, by decide +kernel⟩, List.mem_of_getElem? (i := 161) (by decide +kernel), List.mem_of_getElem? (i := 645) (by decide +kernel), List.mem_of_getElem? (i := 646) (by decide +kernel)⟩
theorem lw_p14 : lw_okq (⟨"SkippingKeys$Reader", "closeOr", "(LSkippingKeys$Conditions;)V"⟩, 6) := ⟨⟨by decide +kernel, by decide +kernel⟩, List.mem_of_getElem? (i := 161) (by decide +kernel), List.mem_of_getElem? (i := 649) (by decide +kernel), List.mem_of_getElem? (i := 650) (by decide +kernel)⟩
theorem lw_p15 : lw_okq (⟨"SkippingKeys$Reader", "topOpen", "()I"⟩, 6) := ⟨⟨by decide +kernel, by decide +kernel⟩, List.mem_of_getElem? (i := 161) (by decide +kernel), List.mem_of_getElem? (i := 653) (by decide +kernel), List.mem_of_getElem? (i := 654) (by decide +kernel)⟩
def lw_privs_1 : List (MethodName × Nat) := [(⟨"SkippingKeys", "refuse", "(I)I"⟩, 12), (⟨"SkippingKeys$Lines", "draw", "(I)I"⟩, 4), (⟨"SkippingKeys$Lines", "putAll", "(IIII)V"⟩, 4), (⟨"SkippingKeys", "countDifferentKeys", "()I"⟩, 12), (⟨"SkippingKeys", "clearSeen", "()V"⟩, 12), (⟨"SkippingKeys", "countSeen", "()I"⟩, 12), (⟨"SkippingKeys", "settled", "()I"⟩, 12), (⟨"SkippingKeys$Condition", "leafTruth", "(I)I"⟩, 12), (⟨"SkippingKeys$Condition", "digitOf", "(II)I"⟩, 12), (⟨"SkippingKeys$Condition", "orderTruth", "(I)I"⟩, 12), (⟨"SkippingKeys$Condition", "equalTruth", "(I)I"⟩, 12), (⟨"SkippingKeys$Condition", "keepTruth", "(II)V"⟩, 12), (⟨"SkippingKeys$Condition", "joinedTruth", "(II)I"⟩, 12), (⟨"SkippingKeys$Reader", "isClosed", "(LSkippingKeys$Conditions;)Z"⟩, 6), (⟨"SkippingKeys$Reader", "closeOr", "(LSkippingKeys$Conditions;)V"⟩, 6), (⟨"SkippingKeys$Reader", "topOpen", "()I"⟩, 6)]
theorem lw_r1 : ∀ q ∈ lw_privs_1, lw_okq q := List.forall_mem_cons.mpr ⟨lw_p0, List.forall_mem_cons.mpr ⟨lw_p1, List.forall_mem_cons.mpr ⟨lw_p2, List.forall_mem_cons.mpr ⟨lw_p3, List.forall_mem_cons.mpr ⟨lw_p4, List.forall_mem_cons.mpr ⟨lw_p5, List.forall_mem_cons.mpr ⟨lw_p6, List.forall_mem_cons.mpr ⟨lw_p7, List.forall_mem_cons.mpr ⟨lw_p8, List.forall_mem_cons.mpr ⟨lw_p9, List.forall_mem_cons.mpr ⟨lw_p10, List.forall_mem_cons.mpr ⟨lw_p11, List.forall_mem_cons.mpr ⟨lw_p12, List.forall_mem_cons.mpr ⟨lw_p13, List.forall_mem_cons.mpr ⟨lw_p14, List.forall_mem_cons.mpr ⟨lw_p15, fun _ h => absurd h List.not_mem_nil⟩⟩⟩⟩⟩⟩⟩⟩⟩⟩⟩⟩⟩⟩⟩⟩
theorem lw_p16 : lw_okq (⟨"SkippingKeys$Reader", "popOpen", "()V"⟩, 6) := ⟨⟨by decide +kernel, by decide +kernel⟩, List.mem_of_getElem? (i := 161) (by decide +kernel), List.mem_of_getElem? (i := 657) (by decide +kernel), List.mem_of_getElem? (i := 658) (by decide +kernel)⟩
theorem lw_p17 : lw_okq (⟨"SkippingKeys$Reader", "popWhole", "()I"⟩, 6) := ⟨⟨by decide +kernel, by decide +kernel⟩, List.mem_of_getElem? (i := 161) (by decide +kernel), List.mem_of_getElem? (i := 661) (by decide +kernel), List.mem_of_getElem? (i := 662) (by decide +kernel)⟩
theorem lw_p18 : lw_okq (⟨"SkippingKeys$Reader", "pushWhole", "(I)V"⟩, 6) := ⟨⟨by decide +kernel, by decide +kernel⟩, List.mem_of_getElem? (i := 161) (by decide +kernel), List.mem_of_getElem? (i := 670) (by decide +kernel), List.mem_of_getElem? (i := 671) (by decide +kernel)⟩
theorem lw_p19 : lw_okq (⟨"SkippingKeys$Reader", "pushOpen", "(I)V"⟩, 6) := ⟨⟨by decide +kernel, by decide +kernel⟩, List.mem_of_getElem? (i := 161) (by decide +kernel), List.mem_of_getElem? (i := 677) (by decide +kernel), List.mem_of_getElem? (i := 678) (by decide +kernel)⟩
theorem lw_p20 : lw_okq (⟨"SkippingKeys$Reader", "turnIsWhole", "(LSkippingKeys$Conditions;I)V"⟩, 6) := ⟨⟨by decide +kernel, by decide +kernel⟩, List.mem_of_getElem? (i := 161) (by decide +kernel), List.mem_of_getElem? (i := 729) (by decide +kernel), List.mem_of_getElem? (i := 730) (by decide +kernel)⟩
theorem lw_p21 : lw_okq (⟨"SkippingKeys$Reader", "readBehindTurn", "(LSkippingKeys$Tape;LSkippingKeys$Conditions;I)Z"⟩, 6) := ⟨⟨by decide +kernel, by decide +kernel⟩, List.mem_of_getElem? (i := 161) (by decide +kernel), List.mem_of_getElem? (i := 733) (by decide +kernel), List.mem_of_getElem? (i := 734) (by decide +kernel)⟩
theorem lw_p22 : lw_okq (⟨"SkippingKeys", "isCondAndIndex", "(II)Z"⟩, 12) := ⟨⟨by decide +kernel, by decide +kernel⟩, List.mem_of_getElem? (i := 17) (by decide +kernel), List.mem_of_getElem? (i := 761) (by decide +kernel), List.mem_of_getElem? (i := 762) (by decide +kernel)⟩
theorem lw_p23 : lw_okq (⟨"SkippingKeys$Ranking", "insert", "(I)V"⟩, 2) := ⟨⟨by decide +kernel, by decide +kernel⟩, List.mem_of_getElem? (i := 229) (by decide +kernel), List.mem_of_getElem? (i := 817) (by decide +kernel), List.mem_of_getElem? (i := 818) (by decide +kernel)⟩
theorem lw_p24 : lw_okq (⟨"SkippingKeys$Spans", "orderGaps", "()V"⟩, 11) := ⟨⟨by decide +kernel, by decide +kernel⟩, List.mem_of_getElem? (i := 185) (by decide +kernel), List.mem_of_getElem? (i := 849) (by decide +kernel), List.mem_of_getElem? (i := 850) (by decide +kernel)⟩
theorem lw_p25 : lw_okq (⟨"SkippingKeys$Spans", "widthOf", "(I)I"⟩, 11) := ⟨⟨by decide +kernel, by decide +kernel⟩, List.mem_of_getElem? (i := 185) (by decide +kernel), List.mem_of_getElem? (i := 853) (by decide +kernel), List.mem_of_getElem? (i := 854) (by decide +kernel)⟩
theorem lw_p26 : lw_okq (⟨"SkippingKeys$Spans", "gapAt", "(I)I"⟩, 11) := ⟨⟨by decide +kernel, by decide +kernel⟩, List.mem_of_getElem? (i := 185) (by decide +kernel), List.mem_of_getElem? (i := 871) (by decide +kernel), List.mem_of_getElem? (i := 872) (by decide +kernel)⟩
theorem lw_p27 : lw_okq (⟨"SkippingKeys$Spans", "isInRun", "(I)Z"⟩, 11) := ⟨⟨by decide +kernel, by decide +kernel⟩, List.mem_of_getElem? (i := 185) (by decide +kernel), List.mem_of_getElem? (i := 876) (by decide +kernel), List.mem_of_getElem? (i := 877) (by decide +kernel)⟩
theorem lw_p28 : lw_okq (⟨"SkippingKeys", "stillToTest", "(II)I"⟩, 12) := ⟨⟨by decide +kernel, by decide +kernel⟩, List.mem_of_getElem? (i := 17) (by decide +kernel), List.mem_of_getElem? (i := 885) (by decide +kernel), List.mem_of_getElem? (i := 886) (by decide +kernel)⟩
theorem lw_p29 : lw_okq (⟨"SkippingKeys", "isTrueInPlan", "(LSkippingKeys$Condition;I)Z"⟩, 12) := ⟨⟨by decide +kernel, by decide +kernel⟩, List.mem_of_getElem? (i := 17) (by decide +kernel), List.mem_of_getElem? (i := 889) (by decide +kernel), List.mem_of_getElem? (i := 890) (by decide +kernel)⟩
theorem lw_p30 : lw_okq (⟨"SkippingKeys$Spans", "countLinesByGap", "(LSkippingKeys$Lines;I)I"⟩, 11) := ⟨⟨by decide +kernel, by decide +kernel⟩, List.mem_of_getElem? (i := 185) (by decide +kernel), List.mem_of_getElem? (i := 910) (by decide +kernel), List.mem_of_getElem? (i := 911) (by decide +kernel)⟩
def lw_privs_2 : List (MethodName × Nat) := [(⟨"SkippingKeys$Reader", "popOpen", "()V"⟩, 6), (⟨"SkippingKeys$Reader", "popWhole", "()I"⟩, 6), (⟨"SkippingKeys$Reader", "pushWhole", "(I)V"⟩, 6), (⟨"SkippingKeys$Reader", "pushOpen", "(I)V"⟩, 6), (⟨"SkippingKeys$Reader", "turnIsWhole", "(LSkippingKeys$Conditions;I)V"⟩, 6), (⟨"SkippingKeys$Reader", "readBehindTurn", "(LSkippingKeys$Tape;LSkippingKeys$Conditions;I)Z"⟩, 6), (⟨"SkippingKeys", "isCondAndIndex", "(II)Z"⟩, 12), (⟨"SkippingKeys$Ranking", "insert", "(I)V"⟩, 2), (⟨"SkippingKeys$Spans", "orderGaps", "()V"⟩, 11), (⟨"SkippingKeys$Spans", "widthOf", "(I)I"⟩, 11), (⟨"SkippingKeys$Spans", "gapAt", "(I)I"⟩, 11), (⟨"SkippingKeys$Spans", "isInRun", "(I)Z"⟩, 11), (⟨"SkippingKeys", "stillToTest", "(II)I"⟩, 12), (⟨"SkippingKeys", "isTrueInPlan", "(LSkippingKeys$Condition;I)Z"⟩, 12), (⟨"SkippingKeys$Spans", "countLinesByGap", "(LSkippingKeys$Lines;I)I"⟩, 11)]
theorem lw_r2 : ∀ q ∈ lw_privs_2, lw_okq q := List.forall_mem_cons.mpr ⟨lw_p16, List.forall_mem_cons.mpr ⟨lw_p17, List.forall_mem_cons.mpr ⟨lw_p18, List.forall_mem_cons.mpr ⟨lw_p19, List.forall_mem_cons.mpr ⟨lw_p20, List.forall_mem_cons.mpr ⟨lw_p21, List.forall_mem_cons.mpr ⟨lw_p22, List.forall_mem_cons.mpr ⟨lw_p23, List.forall_mem_cons.mpr ⟨lw_p24, List.forall_mem_cons.mpr ⟨lw_p25, List.forall_mem_cons.mpr ⟨lw_p26, List.forall_mem_cons.mpr ⟨lw_p27, List.forall_mem_cons.mpr ⟨lw_p28, List.forall_mem_cons.mpr ⟨lw_p29, List.forall_mem_cons.mpr ⟨lw_p30, fun _ h => absurd h List.not_mem_nil⟩⟩⟩⟩⟩⟩⟩⟩⟩⟩⟩⟩⟩⟩⟩
def lw_privs : List (MethodName × Nat) := lw_privs_1 ++ (lw_privs_2)
def lw_tbl : List Cond := k2_sels lw_privs ++ tables_1
theorem lw_privs_ok : ∀ q ∈ lw_privs, lw_okq q := by
  show ∀ q ∈ lw_privs_1 ++ (lw_privs_2), lw_okq q
  exact List.forall_mem_append.mpr ⟨lw_r1, lw_r2⟩

def RX0 : String := "SkippingKeys$Condition"
def RX1 : String := "SkippingKeys$Conditions"
def RX2 : String := "SkippingKeys$Lines"
def RX3 : String := "SkippingKeys$Ranking"
def RX4 : String := "SkippingKeys$Reader"
def RX5 : String := "SkippingKeys$Shelves"
def RX6 : String := "SkippingKeys$Spans"
def RX7 : String := "SkippingKeys$Tape"
def RX8 : String := "SkippingKeys"
def RX9 : String := "SkippingKeysModel"
def RJ0 : String := "java/lang/String"
def RJ1 : String := "java/lang/StringLatin1"
def RJ2 : String := "java/lang/StringUTF16"
def RJ3 : String := "jdk/internal/util/Preconditions"
def RJ9 : String := "java/lang/Math"
def RJ10 : String := "java/lang/System"
def RL : String := "SkippingKeysLaw"
def TX0 : u_T := fun k => match k with
  | 0 => ("SkippingKeys$Condition", "kind", "I", false)
  | 1 => ("SkippingKeys$Condition", "sign", "I", false)
  | 2 => ("SkippingKeys$Condition", "x", "I", false)
  | 3 => ("SkippingKeys$Condition", "y", "I", false)
  | 4 => ("SkippingKeys$Condition", "remainder", "I", false)
  | 5 => ("SkippingKeys$Condition", "columnBits", "I", false)
  | 6 => ("SkippingKeys$Condition", "deep", "I", false)
  | 7 => ("SkippingKeys$Condition", "parts", "I", false)
  | 8 => ("SkippingKeys$Condition", "truths", "[I", true)
  | 9 => ("SkippingKeys$Condition", "size", "I", false)
  | 10 => ("SkippingKeys$Condition", "columns", "[I", true)
  | _ => ("SkippingKeys$Condition", "wanted", "[I", true)
def tyX0 : Nat → FieldType := fun k => match k with
  | 0 => .int
  | 1 => .int
  | 2 => .int
  | 3 => .int
  | 4 => .int
  | 5 => .int
  | 6 => .int
  | 7 => .int
  | 8 => .array .int
  | 9 => .int
  | 10 => .array .int
  | _ => .array .int
theorem nmX0 : ∀ a, a < 12 → ∀ b, b < 12 → a ≠ b → (TX0 a).2.1 ≠ (TX0 b).2.1 := by decide +kernel
theorem tyX0_ok : ∀ k, k < 12 → parseFieldDescriptor (TX0 k).2.2.1 = some (tyX0 k) := by decide +kernel
def TX1 : u_T := fun k => match k with
  | 0 => ("SkippingKeys$Conditions", "list", "[LSkippingKeys$Condition;", true)
  | 1 => ("SkippingKeys$Conditions", "count", "I", false)
  | _ => ("SkippingKeys$Conditions", "drafts", "I", false)
def tyX1 : Nat → FieldType := fun k => match k with
  | 0 => .array (.object "SkippingKeys$Condition")
  | 1 => .int
  | _ => .int
theorem nmX1 : ∀ a, a < 3 → ∀ b, b < 3 → a ≠ b → (TX1 a).2.1 ≠ (TX1 b).2.1 := by decide +kernel
theorem tyX1_ok : ∀ k, k < 3 → parseFieldDescriptor (TX1 k).2.2.1 = some (tyX1 k) := by decide +kernel
def TX2 : u_T := fun k => match k with
  | 0 => ("SkippingKeys$Lines", "places", "[I", true)
  | 1 => ("SkippingKeys$Lines", "count", "I", false)
  | 2 => ("SkippingKeys$Lines", "price", "I", false)
  | _ => ("SkippingKeys$Lines", "seed", "I", false)
def tyX2 : Nat → FieldType := fun k => match k with
  | 0 => .array .int
  | 1 => .int
  | 2 => .int
  | _ => .int
theorem nmX2 : ∀ a, a < 4 → ∀ b, b < 4 → a ≠ b → (TX2 a).2.1 ≠ (TX2 b).2.1 := by decide +kernel
theorem tyX2_ok : ∀ k, k < 4 → parseFieldDescriptor (TX2 k).2.2.1 = some (tyX2 k) := by decide +kernel
def TX3 : u_T := fun k => match k with
  | 0 => ("SkippingKeys$Ranking", "codes", "[I", true)
  | _ => ("SkippingKeys$Ranking", "count", "I", false)
def tyX3 : Nat → FieldType := fun k => match k with
  | 0 => .array .int
  | _ => .int
theorem nmX3 : ∀ a, a < 2 → ∀ b, b < 2 → a ≠ b → (TX3 a).2.1 ≠ (TX3 b).2.1 := by decide +kernel
theorem tyX3_ok : ∀ k, k < 2 → parseFieldDescriptor (TX3 k).2.2.1 = some (tyX3 k) := by decide +kernel
def TX4 : u_T := fun k => match k with
  | 0 => ("SkippingKeys$Reader", "values", "[I", true)
  | 1 => ("SkippingKeys$Reader", "valueCount", "I", false)
  | 2 => ("SkippingKeys$Reader", "open", "[I", true)
  | 3 => ("SkippingKeys$Reader", "openCount", "I", false)
  | 4 => ("SkippingKeys$Reader", "whole", "[I", true)
  | _ => ("SkippingKeys$Reader", "wholeCount", "I", false)
def tyX4 : Nat → FieldType := fun k => match k with
  | 0 => .array .int
  | 1 => .int
  | 2 => .array .int
  | 3 => .int
  | 4 => .array .int
  | _ => .int
theorem nmX4 : ∀ a, a < 6 → ∀ b, b < 6 → a ≠ b → (TX4 a).2.1 ≠ (TX4 b).2.1 := by decide +kernel
theorem tyX4_ok : ∀ k, k < 6 → parseFieldDescriptor (TX4 k).2.2.1 = some (tyX4 k) := by decide +kernel
def TX5 : u_T := fun k => match k with
  | 0 => ("SkippingKeys$Shelves", "held", "[I", true)
  | 1 => ("SkippingKeys$Shelves", "sizes", "[I", true)
  | _ => ("SkippingKeys$Shelves", "elements", "[J", true)
def tyX5 : Nat → FieldType := fun k => match k with
  | 0 => .array .int
  | 1 => .array .int
  | _ => .array .long
theorem nmX5 : ∀ a, a < 3 → ∀ b, b < 3 → a ≠ b → (TX5 a).2.1 ≠ (TX5 b).2.1 := by decide +kernel
theorem tyX5_ok : ∀ k, k < 3 → parseFieldDescriptor (TX5 k).2.2.1 = some (tyX5 k) := by decide +kernel
def TX6 : u_T := fun k => match k with
  | 0 => ("SkippingKeys$Spans", "first", "[I", true)
  | 1 => ("SkippingKeys$Spans", "last", "[I", true)
  | 2 => ("SkippingKeys$Spans", "begun", "[I", true)
  | 3 => ("SkippingKeys$Spans", "gapOrder", "[I", true)
  | 4 => ("SkippingKeys$Spans", "firstOfWidth", "[I", true)
  | 5 => ("SkippingKeys$Spans", "nextOfWidth", "[I", true)
  | 6 => ("SkippingKeys$Spans", "joined", "[Z", true)
  | 7 => ("SkippingKeys$Spans", "linesInGap", "[I", true)
  | 8 => ("SkippingKeys$Spans", "count", "I", false)
  | 9 => ("SkippingKeys$Spans", "bestSize", "I", false)
  | _ => ("SkippingKeys$Spans", "bestCost", "I", false)
def tyX6 : Nat → FieldType := fun k => match k with
  | 0 => .array .int
  | 1 => .array .int
  | 2 => .array .int
  | 3 => .array .int
  | 4 => .array .int
  | 5 => .array .int
  | 6 => .array .boolean
  | 7 => .array .int
  | 8 => .int
  | 9 => .int
  | _ => .int
theorem nmX6 : ∀ a, a < 11 → ∀ b, b < 11 → a ≠ b → (TX6 a).2.1 ≠ (TX6 b).2.1 := by decide +kernel
theorem tyX6_ok : ∀ k, k < 11 → parseFieldDescriptor (TX6 k).2.2.1 = some (tyX6 k) := by decide +kernel
def TX7 : u_T := fun k => match k with
  | 0 => ("SkippingKeys$Tape", "bytes", "[I", true)
  | 1 => ("SkippingKeys$Tape", "size", "I", false)
  | _ => ("SkippingKeys$Tape", "place", "I", false)
def tyX7 : Nat → FieldType := fun k => match k with
  | 0 => .array .int
  | 1 => .int
  | _ => .int
theorem nmX7 : ∀ a, a < 3 → ∀ b, b < 3 → a ≠ b → (TX7 a).2.1 ≠ (TX7 b).2.1 := by decide +kernel
theorem tyX7_ok : ∀ k, k < 3 → parseFieldDescriptor (TX7 k).2.2.1 = some (tyX7 k) := by decide +kernel
def TX8 : u_T := fun k => match k with
  | 0 => ("SkippingKeys", "lines", "LSkippingKeys$Lines;", true)
  | 1 => ("SkippingKeys", "keptLines", "LSkippingKeys$Lines;", true)
  | 2 => ("SkippingKeys", "conditions", "LSkippingKeys$Conditions;", true)
  | 3 => ("SkippingKeys", "keptConditions", "LSkippingKeys$Conditions;", true)
  | 4 => ("SkippingKeys", "shelves", "LSkippingKeys$Shelves;", true)
  | 5 => ("SkippingKeys", "tape", "LSkippingKeys$Tape;", true)
  | 6 => ("SkippingKeys", "reader", "LSkippingKeys$Reader;", true)
  | 7 => ("SkippingKeys", "spans", "LSkippingKeys$Spans;", true)
  | 8 => ("SkippingKeys", "ranking", "LSkippingKeys$Ranking;", true)
  | 9 => ("SkippingKeys", "refusals", "[I", true)
  | 10 => ("SkippingKeys", "seen", "[Z", true)
  | _ => ("SkippingKeys", "hasImage", "Z", false)
def tyX8 : Nat → FieldType := fun k => match k with
  | 0 => .object "SkippingKeys$Lines"
  | 1 => .object "SkippingKeys$Lines"
  | 2 => .object "SkippingKeys$Conditions"
  | 3 => .object "SkippingKeys$Conditions"
  | 4 => .object "SkippingKeys$Shelves"
  | 5 => .object "SkippingKeys$Tape"
  | 6 => .object "SkippingKeys$Reader"
  | 7 => .object "SkippingKeys$Spans"
  | 8 => .object "SkippingKeys$Ranking"
  | 9 => .array .int
  | 10 => .array .boolean
  | _ => .boolean
theorem nmX8 : ∀ a, a < 12 → ∀ b, b < 12 → a ≠ b → (TX8 a).2.1 ≠ (TX8 b).2.1 := by decide +kernel
theorem tyX8_ok : ∀ k, k < 12 → parseFieldDescriptor (TX8 k).2.2.1 = some (tyX8 k) := by decide +kernel
def TX9 : u_T := fun k => match k with
  | 0 => ("SkippingKeysModel", "shelf", "[I", true)
  | 1 => ("SkippingKeysModel", "rowSort", "[I", true)
  | 2 => ("SkippingKeysModel", "rowSize", "[I", true)
  | 3 => ("SkippingKeysModel", "rows", "[[J", true)
  | 4 => ("SkippingKeysModel", "moved", "[J", true)
  | 5 => ("SkippingKeysModel", "shown", "[I", true)
  | 6 => ("SkippingKeysModel", "tape", "[I", true)
  | 7 => ("SkippingKeysModel", "tapeSize", "I", false)
  | 8 => ("SkippingKeysModel", "refused", "[I", true)
  | 9 => ("SkippingKeysModel", "lines", "I", false)
  | 10 => ("SkippingKeysModel", "conds", "I", false)
  | 11 => ("SkippingKeysModel", "price", "I", false)
  | 12 => ("SkippingKeysModel", "seed", "I", false)
  | 13 => ("SkippingKeysModel", "cells", "[I", true)
  | 14 => ("SkippingKeysModel", "kind", "[I", true)
  | 15 => ("SkippingKeysModel", "sign", "[I", true)
  | 16 => ("SkippingKeysModel", "said", "[I", true)
  | 17 => ("SkippingKeysModel", "isKept", "Z", false)
  | 18 => ("SkippingKeysModel", "keptLines", "I", false)
  | 19 => ("SkippingKeysModel", "keptConds", "I", false)
  | 20 => ("SkippingKeysModel", "keptPrice", "I", false)
  | 21 => ("SkippingKeysModel", "keptSeed", "I", false)
  | 22 => ("SkippingKeysModel", "keptCells", "[I", true)
  | 23 => ("SkippingKeysModel", "keptKind", "[I", true)
  | 24 => ("SkippingKeysModel", "keptSign", "[I", true)
  | 25 => ("SkippingKeysModel", "keptSaid", "[I", true)
  | 26 => ("SkippingKeysModel", "is", "[B", true)
  | 27 => ("SkippingKeysModel", "columnsIn", "[I", true)
  | 28 => ("SkippingKeysModel", "deep", "[I", true)
  | 29 => ("SkippingKeysModel", "parts", "[I", true)
  | 30 => ("SkippingKeysModel", "firsts", "[I", true)
  | 31 => ("SkippingKeysModel", "lasts", "[I", true)
  | 32 => ("SkippingKeysModel", "spans", "I", false)
  | 33 => ("SkippingKeysModel", "found", "[I", true)
  | 34 => ("SkippingKeysModel", "foundMany", "I", false)
  | 35 => ("SkippingKeysModel", "spot", "I", false)
  | 36 => ("SkippingKeysModel", "fault", "I", false)
  | 37 => ("SkippingKeysModel", "made", "I", false)
  | 38 => ("SkippingKeysModel", "told", "[I", true)
  | 39 => ("SkippingKeysModel", "toldSign", "I", false)
  | _ => ("SkippingKeysModel", "leastCost", "I", false)
def tyX9 : Nat → FieldType := fun k => match k with
  | 0 => .array .int
  | 1 => .array .int
  | 2 => .array .int
  | 3 => .array (.array .long)
  | 4 => .array .long
  | 5 => .array .int
  | 6 => .array .int
  | 7 => .int
  | 8 => .array .int
  | 9 => .int
  | 10 => .int
  | 11 => .int
  | 12 => .int
  | 13 => .array .int
  | 14 => .array .int
  | 15 => .array .int
  | 16 => .array .int
  | 17 => .boolean
  | 18 => .int
  | 19 => .int
  | 20 => .int
  | 21 => .int
  | 22 => .array .int
  | 23 => .array .int
  | 24 => .array .int
  | 25 => .array .int
  | 26 => .array .byte
  | 27 => .array .int
  | 28 => .array .int
  | 29 => .array .int
  | 30 => .array .int
  | 31 => .array .int
  | 32 => .int
  | 33 => .array .int
  | 34 => .int
  | 35 => .int
  | 36 => .int
  | 37 => .int
  | 38 => .array .int
  | 39 => .int
  | _ => .int
abbrev vwCl : List vw_C := [(RX0, TX0, 12), (RX1, TX1, 3), (RX2, TX2, 4), (RX3, TX3, 2), (RX4, TX4, 6), (RX5, TX5, 3), (RX6, TX6, 11), (RX7, TX7, 3), (RX8, TX8, 12)]
abbrev cX0_init : ByteArray := prog_2_method_1_code
def yX0_init : MethodName := ⟨RX0, "<init>", "()V"⟩
abbrev cX0_begin : ByteArray := prog_2_method_2_code
def yX0_begin : MethodName := ⟨RX0, "begin", "(IIII)V"⟩
abbrev cX0_addColumn : ByteArray := prog_2_method_3_code
def yX0_addColumn : MethodName := ⟨RX0, "addColumn", "(II)V"⟩
abbrev cX0_columnCount : ByteArray := prog_2_method_4_code
def yX0_columnCount : MethodName := ⟨RX0, "columnCount", "()I"⟩
abbrev cX0_want : ByteArray := prog_2_method_5_code
def yX0_want : MethodName := ⟨RX0, "want", "(II)V"⟩
abbrev cX0_names : ByteArray := prog_2_method_6_code
def yX0_names : MethodName := ⟨RX0, "names", "(I)Z"⟩
abbrev cX0_copyFrom : ByteArray := prog_2_method_7_code
def yX0_copyFrom : MethodName := ⟨RX0, "copyFrom", "(LSkippingKeys$Condition;)V"⟩
abbrev cX0_truthAt : ByteArray := prog_2_method_8_code
def yX0_truthAt : MethodName := ⟨RX0, "truthAt", "(I)I"⟩
abbrev cX0_keepTruth : ByteArray := prog_2_method_9_code
def yX0_keepTruth : MethodName := ⟨RX0, "keepTruth", "(II)V"⟩
abbrev cX0_shiftOf : ByteArray := prog_2_method_10_code
def yX0_shiftOf : MethodName := ⟨RX0, "shiftOf", "(I)I"⟩
abbrev cX0_settleLeaf : ByteArray := prog_2_method_11_code
def yX0_settleLeaf : MethodName := ⟨RX0, "settleLeaf", "(I)V"⟩
abbrev cX0_settleOver : ByteArray := prog_2_method_12_code
def yX0_settleOver : MethodName := ⟨RX0, "settleOver", "(ILSkippingKeys$Condition;LSkippingKeys$Condition;)V"⟩
abbrev cX0_leafTruth : ByteArray := prog_2_method_13_code
def yX0_leafTruth : MethodName := ⟨RX0, "leafTruth", "(I)I"⟩
abbrev cX0_digitOf : ByteArray := prog_2_method_14_code
def yX0_digitOf : MethodName := ⟨RX0, "digitOf", "(II)I"⟩
abbrev cX0_orDoubt : ByteArray := prog_2_method_15_code
def yX0_orDoubt : MethodName := ⟨RX0, "orDoubt", "(IZ)I"⟩
abbrev cX0_orderTruth : ByteArray := prog_2_method_16_code
def yX0_orderTruth : MethodName := ⟨RX0, "orderTruth", "(I)I"⟩
abbrev cX0_equalTruth : ByteArray := prog_2_method_17_code
def yX0_equalTruth : MethodName := ⟨RX0, "equalTruth", "(I)I"⟩
abbrev cX0_joinedTruth : ByteArray := prog_2_method_18_code
def yX0_joinedTruth : MethodName := ⟨RX0, "joinedTruth", "(II)I"⟩
abbrev cX0_opposite : ByteArray := prog_2_method_19_code
def yX0_opposite : MethodName := ⟨RX0, "opposite", "(I)I"⟩
abbrev cX0_countKeys : ByteArray := prog_2_method_22_code
def yX0_countKeys : MethodName := ⟨RX0, "countKeys", "(I)I"⟩
abbrev cX0_firstUnlike : ByteArray := prog_2_method_24_code
def yX0_firstUnlike : MethodName := ⟨RX0, "firstUnlike", "(LSkippingKeys$Condition;)I"⟩
abbrev cX1_init : ByteArray := prog_3_method_1_code
def yX1_init : MethodName := ⟨RX1, "<init>", "()V"⟩
abbrev cX1_copyFrom : ByteArray := prog_3_method_2_code
def yX1_copyFrom : MethodName := ⟨RX1, "copyFrom", "(LSkippingKeys$Conditions;)V"⟩
abbrev cX1_has : ByteArray := prog_3_method_3_code
def yX1_has : MethodName := ⟨RX1, "has", "(I)Z"⟩
abbrev cX1_at : ByteArray := prog_3_method_4_code
def yX1_at : MethodName := ⟨RX1, "at", "(I)LSkippingKeys$Condition;"⟩
abbrev cX1_draft : ByteArray := prog_3_method_5_code
def yX1_draft : MethodName := ⟨RX1, "draft", "(II)LSkippingKeys$Condition;"⟩
abbrev cX1_draftOver : ByteArray := prog_3_method_6_code
def yX1_draftOver : MethodName := ⟨RX1, "draftOver", "(III)V"⟩
abbrev cX1_lastDraft : ByteArray := prog_3_method_7_code
def yX1_lastDraft : MethodName := ⟨RX1, "lastDraft", "()I"⟩
abbrev cX1_fitsDrafts : ByteArray := prog_3_method_8_code
def yX1_fitsDrafts : MethodName := ⟨RX1, "fitsDrafts", "()Z"⟩
abbrev cX1_forgetDrafts : ByteArray := prog_3_method_9_code
def yX1_forgetDrafts : MethodName := ⟨RX1, "forgetDrafts", "()V"⟩
abbrev cX1_settleDrafts : ByteArray := prog_3_method_10_code
def yX1_settleDrafts : MethodName := ⟨RX1, "settleDrafts", "()V"⟩
abbrev cX2_init : ByteArray := prog_4_method_1_code
def yX2_init : MethodName := ⟨RX2, "<init>", "()V"⟩
abbrev cX2_copyFrom : ByteArray := prog_4_method_2_code
def yX2_copyFrom : MethodName := ⟨RX2, "copyFrom", "(LSkippingKeys$Lines;)V"⟩
abbrev cX2_has : ByteArray := prog_4_method_3_code
def yX2_has : MethodName := ⟨RX2, "has", "(I)Z"⟩
abbrev cX2_valueOf : ByteArray := prog_4_method_4_code
def yX2_valueOf : MethodName := ⟨RX2, "valueOf", "(II)I"⟩
abbrev cX2_put : ByteArray := prog_4_method_5_code
def yX2_put : MethodName := ⟨RX2, "put", "(III)V"⟩
abbrev cX2_putAll : ByteArray := prog_4_method_6_code
def yX2_putAll : MethodName := ⟨RX2, "putAll", "(IIII)V"⟩
abbrev cX2_add : ByteArray := prog_4_method_7_code
def yX2_add : MethodName := ⟨RX2, "add", "(III)V"⟩
abbrev cX2_remove : ByteArray := prog_4_method_8_code
def yX2_remove : MethodName := ⟨RX2, "remove", "(I)V"⟩
abbrev cX2_keyIn : ByteArray := prog_4_method_9_code
def yX2_keyIn : MethodName := ⟨RX2, "keyIn", "(II)I"⟩
abbrev cX2_truthOf : ByteArray := prog_4_method_10_code
def yX2_truthOf : MethodName := ⟨RX2, "truthOf", "(LSkippingKeys$Condition;I)I"⟩
abbrev cX2_countOf : ByteArray := prog_4_method_11_code
def yX2_countOf : MethodName := ⟨RX2, "countOf", "(LSkippingKeys$Condition;I)I"⟩
abbrev cX2_countValue : ByteArray := prog_4_method_12_code
def yX2_countValue : MethodName := ⟨RX2, "countValue", "(II)I"⟩
abbrev cX2_liveDay : ByteArray := prog_4_method_13_code
def yX2_liveDay : MethodName := ⟨RX2, "liveDay", "()V"⟩
abbrev cX2_draw : ByteArray := prog_4_method_14_code
def yX2_draw : MethodName := ⟨RX2, "draw", "(I)I"⟩
abbrev cX3_init : ByteArray := prog_5_method_1_code
def yX3_init : MethodName := ⟨RX3, "<init>", "()V"⟩
abbrev cX3_codeOf : ByteArray := prog_5_method_2_code
def yX3_codeOf : MethodName := ⟨RX3, "codeOf", "(III)I"⟩
abbrev cX3_rank : ByteArray := prog_5_method_3_code
def yX3_rank : MethodName := ⟨RX3, "rank", "(LSkippingKeys$Lines;LSkippingKeys$Condition;II)V"⟩
abbrev cX3_insert : ByteArray := prog_5_method_4_code
def yX3_insert : MethodName := ⟨RX3, "insert", "(I)V"⟩
abbrev cX3_lineAt : ByteArray := prog_5_method_5_code
def yX3_lineAt : MethodName := ⟨RX3, "lineAt", "(I)I"⟩
abbrev cX3_firstBehind : ByteArray := prog_5_method_6_code
def yX3_firstBehind : MethodName := ⟨RX3, "firstBehind", "(I)I"⟩
abbrev cX4_init : ByteArray := prog_6_method_1_code
def yX4_init : MethodName := ⟨RX4, "<init>", "()V"⟩
abbrev cX4_readCondition : ByteArray := prog_6_method_6_code
def yX4_readCondition : MethodName := ⟨RX4, "readCondition", "(LSkippingKeys$Tape;LSkippingKeys$Conditions;)Z"⟩
abbrev cX4_isTurnSign : ByteArray := prog_6_method_7_code
def yX4_isTurnSign : MethodName := ⟨RX4, "isTurnSign", "(I)Z"⟩
abbrev cX4_isClosed : ByteArray := prog_6_method_8_code
def yX4_isClosed : MethodName := ⟨RX4, "isClosed", "(LSkippingKeys$Conditions;)Z"⟩
abbrev cX4_readBehindTurn : ByteArray := prog_6_method_9_code
def yX4_readBehindTurn : MethodName := ⟨RX4, "readBehindTurn", "(LSkippingKeys$Tape;LSkippingKeys$Conditions;I)Z"⟩
abbrev cX4_turnIsWhole : ByteArray := prog_6_method_10_code
def yX4_turnIsWhole : MethodName := ⟨RX4, "turnIsWhole", "(LSkippingKeys$Conditions;I)V"⟩
abbrev cX4_closeOr : ByteArray := prog_6_method_11_code
def yX4_closeOr : MethodName := ⟨RX4, "closeOr", "(LSkippingKeys$Conditions;)V"⟩
abbrev cX4_pushOpen : ByteArray := prog_6_method_12_code
def yX4_pushOpen : MethodName := ⟨RX4, "pushOpen", "(I)V"⟩
abbrev cX4_topOpen : ByteArray := prog_6_method_13_code
def yX4_topOpen : MethodName := ⟨RX4, "topOpen", "()I"⟩
abbrev cX4_popOpen : ByteArray := prog_6_method_14_code
def yX4_popOpen : MethodName := ⟨RX4, "popOpen", "()V"⟩
abbrev cX4_pushWhole : ByteArray := prog_6_method_15_code
def yX4_pushWhole : MethodName := ⟨RX4, "pushWhole", "(I)V"⟩
abbrev cX4_popWhole : ByteArray := prog_6_method_16_code
def yX4_popWhole : MethodName := ⟨RX4, "popWhole", "()I"⟩
abbrev cX4_readLeaf : ByteArray := prog_6_method_17_code
def yX4_readLeaf : MethodName := ⟨RX4, "readLeaf", "(LSkippingKeys$Tape;LSkippingKeys$Condition;)Z"⟩
abbrev cX4_readCompared : ByteArray := prog_6_method_18_code
def yX4_readCompared : MethodName := ⟨RX4, "readCompared", "(LSkippingKeys$Tape;LSkippingKeys$Condition;)Z"⟩
abbrev cX4_readAmong : ByteArray := prog_6_method_19_code
def yX4_readAmong : MethodName := ⟨RX4, "readAmong", "(LSkippingKeys$Tape;LSkippingKeys$Condition;)Z"⟩
abbrev cX4_readRest : ByteArray := prog_6_method_20_code
def yX4_readRest : MethodName := ⟨RX4, "readRest", "(LSkippingKeys$Tape;LSkippingKeys$Condition;)Z"⟩
abbrev cX4_readSeveral : ByteArray := prog_6_method_21_code
def yX4_readSeveral : MethodName := ⟨RX4, "readSeveral", "(LSkippingKeys$Tape;LSkippingKeys$Condition;)Z"⟩
abbrev cX5_init : ByteArray := prog_7_method_1_code
def yX5_init : MethodName := ⟨RX5, "<init>", "()V"⟩
abbrev cX5_isShelf : ByteArray := prog_7_method_2_code
def yX5_isShelf : MethodName := ⟨RX5, "isShelf", "(I)Z"⟩
abbrev cX5_conditionIn : ByteArray := prog_7_method_6_code
def yX5_conditionIn : MethodName := ⟨RX5, "conditionIn", "(I)I"⟩
abbrev cX5_layRow : ByteArray := prog_7_method_7_code
def yX5_layRow : MethodName := ⟨RX5, "layRow", "(III)V"⟩
abbrev cX5_whyNoRow : ByteArray := prog_7_method_8_code
def yX5_whyNoRow : MethodName := ⟨RX5, "whyNoRow", "(I)I"⟩
abbrev cX5_whyNoRowOf : ByteArray := prog_7_method_9_code
def yX5_whyNoRowOf : MethodName := ⟨RX5, "whyNoRowOf", "(II)I"⟩
abbrev cX5_hasElement : ByteArray := prog_7_method_11_code
def yX5_hasElement : MethodName := ⟨RX5, "hasElement", "(II)Z"⟩
abbrev cX5_elementAt : ByteArray := prog_7_method_13_code
def yX5_elementAt : MethodName := ⟨RX5, "elementAt", "(II)J"⟩
abbrev cX5_put : ByteArray := prog_7_method_14_code
def yX5_put : MethodName := ⟨RX5, "put", "(IIJ)V"⟩
abbrev cX5_kept : ByteArray := prog_7_method_16_code
def yX5_kept : MethodName := ⟨RX5, "kept", "(IJ)J"⟩
abbrev cX5_forgetConditionsFrom : ByteArray := prog_7_method_17_code
def yX5_forgetConditionsFrom : MethodName := ⟨RX5, "forgetConditionsFrom", "(I)V"⟩
abbrev cX5_countHolding : ByteArray := prog_7_method_18_code
def yX5_countHolding : MethodName := ⟨RX5, "countHolding", "()I"⟩
abbrev cX6_init : ByteArray := prog_8_method_1_code
def yX6_init : MethodName := ⟨RX6, "<init>", "()V"⟩
abbrev cX6_layOut : ByteArray := prog_8_method_2_code
def yX6_layOut : MethodName := ⟨RX6, "layOut", "(LSkippingKeys$Condition;I)V"⟩
abbrev cX6_runTold : ByteArray := prog_8_method_3_code
def yX6_runTold : MethodName := ⟨RX6, "runTold", "(I)I"⟩
abbrev cX6_planSize : ByteArray := prog_8_method_4_code
def yX6_planSize : MethodName := ⟨RX6, "planSize", "(I)I"⟩
abbrev cX6_widthOf : ByteArray := prog_8_method_5_code
def yX6_widthOf : MethodName := ⟨RX6, "widthOf", "(I)I"⟩
abbrev cX6_orderGaps : ByteArray := prog_8_method_6_code
def yX6_orderGaps : MethodName := ⟨RX6, "orderGaps", "()V"⟩
abbrev cX6_joinDownTo : ByteArray := prog_8_method_7_code
def yX6_joinDownTo : MethodName := ⟨RX6, "joinDownTo", "(I)V"⟩
abbrev cX6_spanTold : ByteArray := prog_8_method_8_code
def yX6_spanTold : MethodName := ⟨RX6, "spanTold", "(I)I"⟩
abbrev cX6_isInRun : ByteArray := prog_8_method_9_code
def yX6_isInRun : MethodName := ⟨RX6, "isInRun", "(I)Z"⟩
abbrev cX6_gapAt : ByteArray := prog_8_method_10_code
def yX6_gapAt : MethodName := ⟨RX6, "gapAt", "(I)I"⟩
abbrev cX6_planHas : ByteArray := prog_8_method_11_code
def yX6_planHas : MethodName := ⟨RX6, "planHas", "(I)Z"⟩
abbrev cX6_countKeysBetween : ByteArray := prog_8_method_12_code
def yX6_countKeysBetween : MethodName := ⟨RX6, "countKeysBetween", "()I"⟩
abbrev cX6_countRead : ByteArray := prog_8_method_13_code
def yX6_countRead : MethodName := ⟨RX6, "countRead", "(LSkippingKeys$Lines;I)I"⟩
abbrev cX6_findBest : ByteArray := prog_8_method_14_code
def yX6_findBest : MethodName := ⟨RX6, "findBest", "(LSkippingKeys$Lines;I)V"⟩
abbrev cX6_countLinesByGap : ByteArray := prog_8_method_15_code
def yX6_countLinesByGap : MethodName := ⟨RX6, "countLinesByGap", "(LSkippingKeys$Lines;I)I"⟩
abbrev cX7_init : ByteArray := prog_9_method_1_code
def yX7_init : MethodName := ⟨RX7, "<init>", "()V"⟩
abbrev cX7_append : ByteArray := prog_9_method_2_code
def yX7_append : MethodName := ⟨RX7, "append", "(I)V"⟩
abbrev cX7_wipeAll : ByteArray := prog_9_method_3_code
def yX7_wipeAll : MethodName := ⟨RX7, "wipeAll", "()V"⟩
abbrev cX7_rewind : ByteArray := prog_9_method_4_code
def yX7_rewind : MethodName := ⟨RX7, "rewind", "()V"⟩
abbrev cX7_ahead : ByteArray := prog_9_method_5_code
def yX7_ahead : MethodName := ⟨RX7, "ahead", "()I"⟩
abbrev cX7_take : ByteArray := prog_9_method_6_code
def yX7_take : MethodName := ⟨RX7, "take", "()V"⟩
abbrev cX7_columnAhead : ByteArray := prog_9_method_7_code
def yX7_columnAhead : MethodName := ⟨RX7, "columnAhead", "()I"⟩
abbrev cX7_signAhead : ByteArray := prog_9_method_8_code
def yX7_signAhead : MethodName := ⟨RX7, "signAhead", "()I"⟩
abbrev cX7_digitAhead : ByteArray := prog_9_method_9_code
def yX7_digitAhead : MethodName := ⟨RX7, "digitAhead", "(II)I"⟩
abbrev cX8_init : ByteArray := prog_1_method_1_code
def yX8_init : MethodName := ⟨RX8, "<init>", "()V"⟩
abbrev cX8_row : ByteArray := prog_1_method_2_code
def yX8_row : MethodName := ⟨RX8, "row", "(III)I"⟩
abbrev cX8_set : ByteArray := prog_1_method_3_code
def yX8_set : MethodName := ⟨RX8, "set", "(IIJ)I"⟩
abbrev cX8_line : ByteArray := prog_1_method_9_code
def yX8_line : MethodName := ⟨RX8, "line", "(III)I"⟩
abbrev cX8_alter : ByteArray := prog_1_method_10_code
def yX8_alter : MethodName := ⟨RX8, "alter", "(III)I"⟩
abbrev cX8_strike : ByteArray := prog_1_method_11_code
def yX8_strike : MethodName := ⟨RX8, "strike", "(I)I"⟩
abbrev cX8_price : ByteArray := prog_1_method_12_code
def yX8_price : MethodName := ⟨RX8, "price", "(I)I"⟩
abbrev cX8_feed : ByteArray := prog_1_method_13_code
def yX8_feed : MethodName := ⟨RX8, "feed", "(I)I"⟩
abbrev cX8_cond : ByteArray := prog_1_method_16_code
def yX8_cond : MethodName := ⟨RX8, "cond", "()I"⟩
abbrev cX8_test : ByteArray := prog_1_method_17_code
def yX8_test : MethodName := ⟨RX8, "test", "(III)I"⟩
abbrev cX8_among : ByteArray := prog_1_method_18_code
def yX8_among : MethodName := ⟨RX8, "among", "(II)I"⟩
abbrev cX8_gone : ByteArray := prog_1_method_19_code
def yX8_gone : MethodName := ⟨RX8, "gone", "(I)I"⟩
abbrev cX8_columns : ByteArray := prog_1_method_20_code
def yX8_columns : MethodName := ⟨RX8, "columns", "(III)I"⟩
abbrev cX8_rest : ByteArray := prog_1_method_21_code
def yX8_rest : MethodName := ⟨RX8, "rest", "(III)I"⟩
abbrev cX8_pair : ByteArray := prog_1_method_23_code
def yX8_pair : MethodName := ⟨RX8, "pair", "(III)I"⟩
abbrev cX8_turn : ByteArray := prog_1_method_24_code
def yX8_turn : MethodName := ⟨RX8, "turn", "(II)I"⟩
abbrev cX8_drop : ByteArray := prog_1_method_25_code
def yX8_drop : MethodName := ⟨RX8, "drop", "()I"⟩
abbrev cX8_condOf : ByteArray := prog_1_method_26_code
def yX8_condOf : MethodName := ⟨RX8, "condOf", "(II)I"⟩
abbrev cX8_lineOf : ByteArray := prog_1_method_27_code
def yX8_lineOf : MethodName := ⟨RX8, "lineOf", "(II)I"⟩
abbrev cX8_truth : ByteArray := prog_1_method_29_code
def yX8_truth : MethodName := ⟨RX8, "truth", "(III)I"⟩
abbrev cX8_keys : ByteArray := prog_1_method_30_code
def yX8_keys : MethodName := ⟨RX8, "keys", "(II)I"⟩
abbrev cX8_lines : ByteArray := prog_1_method_31_code
def yX8_lines : MethodName := ⟨RX8, "lines", "(II)I"⟩
abbrev cX8_runs : ByteArray := prog_1_method_33_code
def yX8_runs : MethodName := ⟨RX8, "runs", "(II)I"⟩
abbrev cX8_run : ByteArray := prog_1_method_34_code
def yX8_run : MethodName := ⟨RX8, "run", "(III)I"⟩
abbrev cX8_plan : ByteArray := prog_1_method_35_code
def yX8_plan : MethodName := ⟨RX8, "plan", "(IIII)I"⟩
abbrev cX8_of : ByteArray := prog_1_method_36_code
def yX8_of : MethodName := ⟨RX8, "of", "(IIII)I"⟩
abbrev cX8_best : ByteArray := prog_1_method_37_code
def yX8_best : MethodName := ⟨RX8, "best", "(III)I"⟩
abbrev cX8_seek : ByteArray := prog_1_method_39_code
def yX8_seek : MethodName := ⟨RX8, "seek", "(IIII)I"⟩
abbrev cX8_found : ByteArray := prog_1_method_41_code
def yX8_found : MethodName := ⟨RX8, "found", "(III)I"⟩
abbrev cX8_behind : ByteArray := prog_1_method_43_code
def yX8_behind : MethodName := ⟨RX8, "behind", "(III)I"⟩
abbrev cX8_implies : ByteArray := prog_1_method_44_code
def yX8_implies : MethodName := ⟨RX8, "implies", "(II)I"⟩
abbrev cX8_alike : ByteArray := prog_1_method_45_code
def yX8_alike : MethodName := ⟨RX8, "alike", "(II)I"⟩
abbrev cX8_same : ByteArray := prog_1_method_46_code
def yX8_same : MethodName := ⟨RX8, "same", "(I)I"⟩
abbrev cX8_judge : ByteArray := prog_1_method_48_code
def yX8_judge : MethodName := ⟨RX8, "judge", "(IIII)I"⟩
abbrev cX8_days : ByteArray := prog_1_method_51_code
def yX8_days : MethodName := ⟨RX8, "days", "(I)I"⟩
abbrev cX8_image : ByteArray := prog_1_method_53_code
def yX8_image : MethodName := ⟨RX8, "image", "()I"⟩
abbrev cX8_back : ByteArray := prog_1_method_54_code
def yX8_back : MethodName := ⟨RX8, "back", "()I"⟩
abbrev cX8_status : ByteArray := prog_1_method_55_code
def yX8_status : MethodName := ⟨RX8, "status", "(I)I"⟩
abbrev cX8_refuse : ByteArray := prog_1_method_56_code
def yX8_refuse : MethodName := ⟨RX8, "refuse", "(I)I"⟩
abbrev cX8_settled : ByteArray := prog_1_method_57_code
def yX8_settled : MethodName := ⟨RX8, "settled", "()I"⟩
abbrev cX8_isCondAndIndex : ByteArray := prog_1_method_58_code
def yX8_isCondAndIndex : MethodName := ⟨RX8, "isCondAndIndex", "(II)Z"⟩
abbrev cX8_stillToTest : ByteArray := prog_1_method_62_code
def yX8_stillToTest : MethodName := ⟨RX8, "stillToTest", "(II)I"⟩
abbrev cX8_isTrueInPlan : ByteArray := prog_1_method_63_code
def yX8_isTrueInPlan : MethodName := ⟨RX8, "isTrueInPlan", "(LSkippingKeys$Condition;I)Z"⟩
abbrev cX8_seekUp : ByteArray := prog_1_method_64_code
def yX8_seekUp : MethodName := ⟨RX8, "seekUp", "(LSkippingKeys$Condition;II)I"⟩
abbrev cX8_seekDown : ByteArray := prog_1_method_65_code
def yX8_seekDown : MethodName := ⟨RX8, "seekDown", "(LSkippingKeys$Condition;II)I"⟩
abbrev cX8_countDifferentKeys : ByteArray := prog_1_method_66_code
def yX8_countDifferentKeys : MethodName := ⟨RX8, "countDifferentKeys", "()I"⟩
abbrev cX8_clearSeen : ByteArray := prog_1_method_67_code
def yX8_clearSeen : MethodName := ⟨RX8, "clearSeen", "()V"⟩
abbrev cX8_countSeen : ByteArray := prog_1_method_68_code
def yX8_countSeen : MethodName := ⟨RX8, "countSeen", "()I"⟩
abbrev cX8_isWithin : ByteArray := prog_1_method_69_code
def yX8_isWithin : MethodName := ⟨RX8, "isWithin", "(III)Z"⟩
abbrev cX8_isColumn : ByteArray := prog_1_method_70_code
def yX8_isColumn : MethodName := ⟨RX8, "isColumn", "(I)Z"⟩
abbrev cX8_isIndex : ByteArray := prog_1_method_71_code
def yX8_isIndex : MethodName := ⟨RX8, "isIndex", "(I)Z"⟩
abbrev cX8_isSign : ByteArray := prog_1_method_72_code
def yX8_isSign : MethodName := ⟨RX8, "isSign", "(I)Z"⟩
abbrev cX8_isTruth : ByteArray := prog_1_method_73_code
def yX8_isTruth : MethodName := ⟨RX8, "isTruth", "(I)Z"⟩
abbrev cX8_isDigit : ByteArray := prog_1_method_74_code
def yX8_isDigit : MethodName := ⟨RX8, "isDigit", "(I)Z"⟩
abbrev cX8_isValue : ByteArray := prog_1_method_75_code
def yX8_isValue : MethodName := ⟨RX8, "isValue", "(I)Z"⟩
abbrev cX8_placeOf : ByteArray := prog_1_method_76_code
def yX8_placeOf : MethodName := ⟨RX8, "placeOf", "(II)I"⟩
abbrev cX8_compared : ByteArray := prog_1_method_77_code
def yX8_compared : MethodName := ⟨RX8, "compared", "(III)I"⟩
abbrev cJ9_max_7cf53 : ByteArray := prog_12_method_65_code
def yJ9_max_7cf53 : MethodName := ⟨RJ9, "max", "(II)I"⟩
abbrev cJ9_min_7cf53 : ByteArray := prog_12_method_69_code
def yJ9_min_7cf53 : MethodName := ⟨RJ9, "min", "(II)I"⟩
abbrev cL_cell : ByteArray := method_2_code
def yL_cell : MethodName := ⟨RL, "cell", "([II)I"⟩
abbrev cL_act : ByteArray := method_3_code
def yL_act : MethodName := ⟨RL, "act", "(LSkippingKeys;[II)V"⟩
abbrev cL_refusals : ByteArray := method_4_code
def yL_refusals : MethodName := ⟨RL, "refusals", "(LSkippingKeys;)I"⟩
abbrev cL_isFair : ByteArray := method_5_code
def yL_isFair : MethodName := ⟨RL, "isFair", "(LSkippingKeys;II)Z"⟩
abbrev cL_isKind : ByteArray := method_6_code
def yL_isKind : MethodName := ⟨RL, "isKind", "(LSkippingKeys;I)Z"⟩
abbrev cX9_init : ByteArray := code
def yX9_init : MethodName := ⟨RX9, "<init>", "()V"⟩
abbrev cX9_refuse : ByteArray := code
def yX9_refuse : MethodName := ⟨RX9, "refuse", "(I)I"⟩
abbrev cX9_in : ByteArray := code
def yX9_in : MethodName := ⟨RX9, "in", "(JJJ)Z"⟩
abbrev cX9_isCond : ByteArray := code
def yX9_isCond : MethodName := ⟨RX9, "isCond", "(I)Z"⟩
abbrev cX9_isLine : ByteArray := code
def yX9_isLine : MethodName := ⟨RX9, "isLine", "(I)Z"⟩
abbrev cX9_bits : ByteArray := code
def yX9_bits : MethodName := ⟨RX9, "bits", "(I)I"⟩
abbrev cX9_row : ByteArray := code
def yX9_row : MethodName := ⟨RX9, "row", "(III)I"⟩
abbrev cX9_fit : ByteArray := code
def yX9_fit : MethodName := ⟨RX9, "fit", "(IJ)J"⟩
abbrev cX9_noRow : ByteArray := code
def yX9_noRow : MethodName := ⟨RX9, "noRow", "(I)I"⟩
abbrev cX9_set : ByteArray := code
def yX9_set : MethodName := ⟨RX9, "set", "(IIJ)I"⟩
abbrev cX9_copy : ByteArray := code
def yX9_copy : MethodName := ⟨RX9, "copy", "(IIIII)I"⟩
abbrev cX9_element : ByteArray := code
def yX9_element : MethodName := ⟨RX9, "element", "(II)J"⟩
abbrev cX9_holds : ByteArray := code
def yX9_holds : MethodName := ⟨RX9, "holds", "(I)I"⟩
abbrev cX9_show : ByteArray := code
def yX9_show : MethodName := ⟨RX9, "show", "(II)I"⟩
abbrev cX9_isOf : ByteArray := code
def yX9_isOf : MethodName := ⟨RX9, "isOf", "(II)Z"⟩
abbrev cX9_says : ByteArray := code
def yX9_says : MethodName := ⟨RX9, "says", "(II)I"⟩
abbrev cX9_columnAt : ByteArray := code
def yX9_columnAt : MethodName := ⟨RX9, "columnAt", "(II)I"⟩
abbrev cX9_digit : ByteArray := code
def yX9_digit : MethodName := ⟨RX9, "digit", "(II)I"⟩
abbrev cX9_weight : ByteArray := code
def yX9_weight : MethodName := ⟨RX9, "weight", "(I)I"⟩
abbrev cX9_plain : ByteArray := code
def yX9_plain : MethodName := ⟨RX9, "plain", "(II)I"⟩
abbrev cX9_keyIn : ByteArray := code
def yX9_keyIn : MethodName := ⟨RX9, "keyIn", "(II)I"⟩
abbrev cX9_isAt : ByteArray := code
def yX9_isAt : MethodName := ⟨RX9, "isAt", "(II)I"⟩
abbrev cX9_isFor : ByteArray := code
def yX9_isFor : MethodName := ⟨RX9, "isFor", "(II)I"⟩
abbrev cX9_holds_ : ByteArray := code
def yX9_holds_ : MethodName := ⟨RX9, "holds", "(III)I"⟩
abbrev cX9_severalFor : ByteArray := code
def yX9_severalFor : MethodName := ⟨RX9, "severalFor", "(II)I"⟩
abbrev cX9_leafFor : ByteArray := code
def yX9_leafFor : MethodName := ⟨RX9, "leafFor", "(II)I"⟩
abbrev cX9_worked : ByteArray := code
def yX9_worked : MethodName := ⟨RX9, "worked", "(II)I"⟩
abbrev cX9_leafIn : ByteArray := code
def yX9_leafIn : MethodName := ⟨RX9, "leafIn", "(I)V"⟩
abbrev cX9_overIn : ByteArray := code
def yX9_overIn : MethodName := ⟨RX9, "overIn", "(I)V"⟩
abbrev cX9_workFrom : ByteArray := code
def yX9_workFrom : MethodName := ⟨RX9, "workFrom", "(I)V"⟩
abbrev cX9_put : ByteArray := code
def yX9_put : MethodName := ⟨RX9, "put", "(IIII)V"⟩
abbrev cX9_line : ByteArray := code
def yX9_line : MethodName := ⟨RX9, "line", "(III)I"⟩
abbrev cX9_alter : ByteArray := code
def yX9_alter : MethodName := ⟨RX9, "alter", "(III)I"⟩
abbrev cX9_strikeOut : ByteArray := code
def yX9_strikeOut : MethodName := ⟨RX9, "strikeOut", "(I)V"⟩
abbrev cX9_strike : ByteArray := code
def yX9_strike : MethodName := ⟨RX9, "strike", "(I)I"⟩
abbrev cX9_price : ByteArray := code
def yX9_price : MethodName := ⟨RX9, "price", "(I)I"⟩
abbrev cX9_feed : ByteArray := code
def yX9_feed : MethodName := ⟨RX9, "feed", "(I)I"⟩
abbrev cX9_wipe : ByteArray := code
def yX9_wipe : MethodName := ⟨RX9, "wipe", "()I"⟩
abbrev cX9_isCell : ByteArray := code
def yX9_isCell : MethodName := ⟨RX9, "isCell", "(I)Z"⟩
abbrev cX9_tableFault : ByteArray := code
def yX9_tableFault : MethodName := ⟨RX9, "tableFault", "()I"⟩
abbrev cX9_table : ByteArray := code
def yX9_table : MethodName := ⟨RX9, "table", "()I"⟩
abbrev cX9_clearTold : ByteArray := code
def yX9_clearTold : MethodName := ⟨RX9, "clearTold", "()V"⟩
abbrev cX9_make : ByteArray := code
def yX9_make : MethodName := ⟨RX9, "make", "(I)I"⟩
abbrev cX9_makeOver : ByteArray := code
def yX9_makeOver : MethodName := ⟨RX9, "makeOver", "(III)I"⟩
abbrev cX9_here : ByteArray := code
def yX9_here : MethodName := ⟨RX9, "here", "()I"⟩
abbrev cX9_sees : ByteArray := code
def yX9_sees : MethodName := ⟨RX9, "sees", "(I)Z"⟩
abbrev cX9_wrong : ByteArray := code
def yX9_wrong : MethodName := ⟨RX9, "wrong", "()I"⟩
abbrev cX9_must : ByteArray := code
def yX9_must : MethodName := ⟨RX9, "must", "(I)V"⟩
abbrev cX9_signOf : ByteArray := code
def yX9_signOf : MethodName := ⟨RX9, "signOf", "(I)I"⟩
abbrev cX9_number : ByteArray := code
def yX9_number : MethodName := ⟨RX9, "number", "(II)I"⟩
abbrev cX9_signHere : ByteArray := code
def yX9_signHere : MethodName := ⟨RX9, "signHere", "()V"⟩
abbrev cX9_severalHere : ByteArray := code
def yX9_severalHere : MethodName := ⟨RX9, "severalHere", "(I)I"⟩
abbrev cX9_amongHere : ByteArray := code
def yX9_amongHere : MethodName := ⟨RX9, "amongHere", "(I)I"⟩
abbrev cX9_columnHere : ByteArray := code
def yX9_columnHere : MethodName := ⟨RX9, "columnHere", "(I)I"⟩
abbrev cX9_turnHere : ByteArray := code
def yX9_turnHere : MethodName := ⟨RX9, "turnHere", "()I"⟩
abbrev cX9_eachHere : ByteArray := code
def yX9_eachHere : MethodName := ⟨RX9, "eachHere", "()I"⟩
abbrev cX9_condHere : ByteArray := code
def yX9_condHere : MethodName := ⟨RX9, "condHere", "()I"⟩
abbrev cX9_cond : ByteArray := code
def yX9_cond : MethodName := ⟨RX9, "cond", "()I"⟩
abbrev cX9_added : ByteArray := code
def yX9_added : MethodName := ⟨RX9, "added", "()I"⟩
abbrev cX9_add : ByteArray := code
def yX9_add : MethodName := ⟨RX9, "add", "(I)I"⟩
abbrev cX9_tell : ByteArray := code
def yX9_tell : MethodName := ⟨RX9, "tell", "(IIIII)I"⟩
abbrev cX9_isColumn : ByteArray := code
def yX9_isColumn : MethodName := ⟨RX9, "isColumn", "(I)Z"⟩
abbrev cX9_test : ByteArray := code
def yX9_test : MethodName := ⟨RX9, "test", "(III)I"⟩
abbrev cX9_among : ByteArray := code
def yX9_among : MethodName := ⟨RX9, "among", "(II)I"⟩
abbrev cX9_gone : ByteArray := code
def yX9_gone : MethodName := ⟨RX9, "gone", "(I)I"⟩
abbrev cX9_columns : ByteArray := code
def yX9_columns : MethodName := ⟨RX9, "columns", "(III)I"⟩
abbrev cX9_rest : ByteArray := code
def yX9_rest : MethodName := ⟨RX9, "rest", "(III)I"⟩
abbrev cX9_noRowOf : ByteArray := code
def yX9_noRowOf : MethodName := ⟨RX9, "noRowOf", "(II)I"⟩
abbrev cX9_several : ByteArray := code
def yX9_several : MethodName := ⟨RX9, "several", "(III)I"⟩
abbrev cX9_pair : ByteArray := code
def yX9_pair : MethodName := ⟨RX9, "pair", "(III)I"⟩
abbrev cX9_turn : ByteArray := code
def yX9_turn : MethodName := ⟨RX9, "turn", "(II)I"⟩
abbrev cX9_drop : ByteArray := code
def yX9_drop : MethodName := ⟨RX9, "drop", "()I"⟩
abbrev cX9_condOf : ByteArray := code
def yX9_condOf : MethodName := ⟨RX9, "condOf", "(II)I"⟩
abbrev cX9_lineOf : ByteArray := code
def yX9_lineOf : MethodName := ⟨RX9, "lineOf", "(II)I"⟩
abbrev cX9_isIndex : ByteArray := code
def yX9_isIndex : MethodName := ⟨RX9, "isIndex", "(I)Z"⟩
abbrev cX9_keyOf : ByteArray := code
def yX9_keyOf : MethodName := ⟨RX9, "keyOf", "(II)I"⟩
abbrev cX9_truth : ByteArray := code
def yX9_truth : MethodName := ⟨RX9, "truth", "(III)I"⟩
abbrev cX9_keysOf : ByteArray := code
def yX9_keysOf : MethodName := ⟨RX9, "keysOf", "(II)I"⟩
abbrev cX9_keys : ByteArray := code
def yX9_keys : MethodName := ⟨RX9, "keys", "(II)I"⟩
abbrev cX9_linesOf : ByteArray := code
def yX9_linesOf : MethodName := ⟨RX9, "linesOf", "(II)I"⟩
abbrev cX9_lines : ByteArray := code
def yX9_lines : MethodName := ⟨RX9, "lines", "(II)I"⟩
abbrev cX9_valuesOf : ByteArray := code
def yX9_valuesOf : MethodName := ⟨RX9, "valuesOf", "(II)I"⟩
abbrev cX9_values : ByteArray := code
def yX9_values : MethodName := ⟨RX9, "values", "(II)I"⟩
abbrev cX9_runsIn : ByteArray := code
def yX9_runsIn : MethodName := ⟨RX9, "runsIn", "(II)V"⟩
abbrev cX9_mergeOnce : ByteArray := code
def yX9_mergeOnce : MethodName := ⟨RX9, "mergeOnce", "()V"⟩
abbrev cX9_planIn : ByteArray := code
def yX9_planIn : MethodName := ⟨RX9, "planIn", "(III)V"⟩
abbrev cX9_spanAt : ByteArray := code
def yX9_spanAt : MethodName := ⟨RX9, "spanAt", "(I)I"⟩
abbrev cX9_runs : ByteArray := code
def yX9_runs : MethodName := ⟨RX9, "runs", "(II)I"⟩
abbrev cX9_run : ByteArray := code
def yX9_run : MethodName := ⟨RX9, "run", "(III)I"⟩
abbrev cX9_plan : ByteArray := code
def yX9_plan : MethodName := ⟨RX9, "plan", "(IIII)I"⟩
abbrev cX9_isRead : ByteArray := code
def yX9_isRead : MethodName := ⟨RX9, "isRead", "(I)Z"⟩
abbrev cX9_readIn : ByteArray := code
def yX9_readIn : MethodName := ⟨RX9, "readIn", "(IIZ)I"⟩
abbrev cX9_otherKeys : ByteArray := code
def yX9_otherKeys : MethodName := ⟨RX9, "otherKeys", "(II)I"⟩
abbrev cX9_still : ByteArray := code
def yX9_still : MethodName := ⟨RX9, "still", "(II)I"⟩
abbrev cX9_costIn : ByteArray := code
def yX9_costIn : MethodName := ⟨RX9, "costIn", "(II)I"⟩
abbrev cX9_of : ByteArray := code
def yX9_of : MethodName := ⟨RX9, "of", "(IIII)I"⟩
abbrev cX9_bestIn : ByteArray := code
def yX9_bestIn : MethodName := ⟨RX9, "bestIn", "(II)I"⟩
abbrev cX9_best : ByteArray := code
def yX9_best : MethodName := ⟨RX9, "best", "(III)I"⟩
abbrev cX9_bestIndex : ByteArray := code
def yX9_bestIndex : MethodName := ⟨RX9, "bestIndex", "(II)I"⟩
abbrev cX9_seek : ByteArray := code
def yX9_seek : MethodName := ⟨RX9, "seek", "(IIII)I"⟩
abbrev cX9_leads : ByteArray := code
def yX9_leads : MethodName := ⟨RX9, "leads", "(IIIIZ)Z"⟩
abbrev cX9_leaders : ByteArray := code
def yX9_leaders : MethodName := ⟨RX9, "leaders", "(IIII)I"⟩
abbrev cX9_without : ByteArray := code
def yX9_without : MethodName := ⟨RX9, "without", "(II)I"⟩
abbrev cX9_isAhead : ByteArray := code
def yX9_isAhead : MethodName := ⟨RX9, "isAhead", "(IIII)Z"⟩
abbrev cX9_findIn : ByteArray := code
def yX9_findIn : MethodName := ⟨RX9, "findIn", "(III)V"⟩
abbrev cX9_found : ByteArray := code
def yX9_found : MethodName := ⟨RX9, "found", "(III)I"⟩
abbrev cX9_order : ByteArray := code
def yX9_order : MethodName := ⟨RX9, "order", "(IIII)I"⟩
abbrev cX9_behind : ByteArray := code
def yX9_behind : MethodName := ⟨RX9, "behind", "(III)I"⟩
abbrev cX9_implies : ByteArray := code
def yX9_implies : MethodName := ⟨RX9, "implies", "(II)I"⟩
abbrev cX9_differ : ByteArray := code
def yX9_differ : MethodName := ⟨RX9, "differ", "(II)I"⟩
abbrev cX9_alike : ByteArray := code
def yX9_alike : MethodName := ⟨RX9, "alike", "(II)I"⟩
abbrev cX9_same : ByteArray := code
def yX9_same : MethodName := ⟨RX9, "same", "(I)I"⟩
abbrev cX9_isTold : ByteArray := code
def yX9_isTold : MethodName := ⟨RX9, "isTold", "(IIIII)Z"⟩
abbrev cX9_signs : ByteArray := code
def yX9_signs : MethodName := ⟨RX9, "signs", "(IIII)I"⟩
abbrev cX9_judge : ByteArray := code
def yX9_judge : MethodName := ⟨RX9, "judge", "(IIII)I"⟩
abbrev cX9_many : ByteArray := code
def yX9_many : MethodName := ⟨RX9, "many", "(II)I"⟩
abbrev cX9_whatIf : ByteArray := code
def yX9_whatIf : MethodName := ⟨RX9, "whatIf", "(IIII)I"⟩
abbrev cX9_draw : ByteArray := code
def yX9_draw : MethodName := ⟨RX9, "draw", "(I)I"⟩
abbrev cX9_days : ByteArray := code
def yX9_days : MethodName := ⟨RX9, "days", "(I)I"⟩
abbrev cX9_seed : ByteArray := code
def yX9_seed : MethodName := ⟨RX9, "seed", "(I)I"⟩
abbrev cX9_take : ByteArray := code
def yX9_take : MethodName := ⟨RX9, "take", "([I[I)V"⟩
abbrev cX9_image : ByteArray := code
def yX9_image : MethodName := ⟨RX9, "image", "()I"⟩
abbrev cX9_back : ByteArray := code
def yX9_back : MethodName := ⟨RX9, "back", "()I"⟩
abbrev cX9_differentKeys : ByteArray := code
def yX9_differentKeys : MethodName := ⟨RX9, "differentKeys", "()I"⟩
abbrev cX9_status : ByteArray := code
def yX9_status : MethodName := ⟨RX9, "status", "(I)I"⟩
def yL_law : MethodName := ⟨RL, "law", "([I)Z"⟩
/-! ===== own tables: methods, links, by program out of the tables of the claim ===== -/
abbrev zPos : Type := Nat × Nat
abbrev zRow : Type := MethodName × ByteArray × Nat × Option FieldType × Nat × Nat × Nat × zPos × zPos × zPos × zPos
def zNone : zRow := (yL_law, code, maxLocals, ret, 9, 1, 99, (99, 0), (99, 0), (99, 0), (99, 0))
def zr_0 : zRow := (yX0_init, cX0_init, 1, none, 2, 0, 0, (1, 61), (1, 60), (1, 4), (99, 0))
def zr_1 : zRow := (yX0_begin, cX0_begin, 5, none, 1, 4, 0, (2, 173), (2, 171), (1, 4), (2, 172))
def zr_2 : zRow := (yX0_addColumn, cX0_addColumn, 3, none, 1, 2, 0, (2, 177), (2, 175), (1, 4), (2, 176))
def zr_3 : zRow := (yX0_columnCount, cX0_columnCount, 1, (some FieldType.int), 1, 0, 0, (4, 7), (4, 5), (1, 4), (4, 6))
def zr_4 : zRow := (yX0_want, cX0_want, 3, none, 1, 2, 0, (3, 229), (3, 227), (1, 4), (3, 228))
def zr_5 : zRow := (yX0_names, cX0_names, 2, (some FieldType.boolean), 1, 1, 0, (3, 234), (3, 232), (1, 4), (3, 233))
def zr_6 : zRow := (yX0_copyFrom, cX0_copyFrom, 3, none, 1, 1, 0, (2, 169), (2, 167), (1, 4), (2, 168))
def zr_7 : zRow := (yX0_settleLeaf, cX0_settleLeaf, 3, none, 1, 1, 0, (3, 22), (3, 20), (1, 4), (3, 21))
def zr_8 : zRow := (yX0_settleOver, cX0_settleOver, 5, none, 1, 3, 0, (3, 57), (3, 55), (1, 4), (3, 56))
def zr_9 : zRow := (yX0_leafTruth, cX0_leafTruth, 3, (some FieldType.int), 1, 1, 0, (3, 26), (3, 25), (1, 4), (0, 7))
def zr_10 : zRow := (yX0_digitOf, cX0_digitOf, 3, (some FieldType.int), 1, 2, 0, (3, 30), (3, 29), (1, 4), (0, 8))
def zr_11 : zRow := (yX0_orDoubt, cX0_orDoubt, 2, (some FieldType.int), 0, 2, 0, (3, 38), (3, 37), (1, 4), (99, 0))
def zr_12 : zRow := (yX0_orderTruth, cX0_orderTruth, 5, (some FieldType.int), 1, 1, 0, (3, 42), (3, 41), (1, 4), (0, 9))
def zr_13 : zRow := (yX0_equalTruth, cX0_equalTruth, 5, (some FieldType.int), 1, 1, 0, (3, 46), (3, 45), (1, 4), (0, 10))
def zr_14 : zRow := (yX0_joinedTruth, cX0_joinedTruth, 3, (some FieldType.int), 1, 2, 0, (3, 64), (3, 63), (1, 4), (0, 12))
def zr_15 : zRow := (yX0_opposite, cX0_opposite, 1, (some FieldType.int), 0, 1, 0, (3, 49), (3, 48), (1, 4), (99, 0))
def zr_16 : zRow := zNone
def zr_17 : zRow := zNone
def zr_18 : zRow := (yX0_countKeys, cX0_countKeys, 4, (some FieldType.int), 1, 1, 0, (2, 93), (2, 91), (1, 4), (2, 92))
def zr_19 : zRow := zNone
def zr_20 : zRow := (yX0_firstUnlike, cX0_firstUnlike, 3, (some FieldType.int), 1, 1, 0, (4, 111), (4, 109), (1, 4), (4, 110))
def zr_21 : zRow := (yX1_init, cX1_init, 2, none, 2, 0, 1, (1, 54), (1, 53), (1, 3), (99, 0))
def zr_22 : zRow := (yX1_copyFrom, cX1_copyFrom, 3, none, 1, 1, 1, (2, 165), (2, 163), (1, 3), (2, 164))
def zr_23 : zRow := (yX1_has, cX1_has, 2, (some FieldType.boolean), 1, 1, 1, (2, 81), (2, 79), (1, 3), (2, 80))
def zr_24 : zRow := (yX1_at, cX1_at, 2, (some (FieldType.object "SkippingKeys$Condition")), 1, 1, 1, (2, 89), (2, 87), (1, 3), (2, 88))
def zr_25 : zRow := (yX1_draft, cX1_draft, 4, (some (FieldType.object "SkippingKeys$Condition")), 1, 2, 1, (2, 236), (2, 234), (1, 3), (2, 235))
def zr_26 : zRow := (yX1_draftOver, cX1_draftOver, 5, none, 1, 3, 1, (3, 88), (3, 86), (1, 3), (3, 87))
def zr_27 : zRow := (yX1_lastDraft, cX1_lastDraft, 1, (some FieldType.int), 1, 0, 1, (3, 188), (3, 186), (1, 3), (3, 187))
def zr_28 : zRow := (yX1_fitsDrafts, cX1_fitsDrafts, 1, (some FieldType.boolean), 1, 0, 1, (3, 7), (3, 5), (1, 3), (3, 6))
def zr_29 : zRow := (yX1_forgetDrafts, cX1_forgetDrafts, 1, none, 1, 0, 1, (3, 11), (3, 9), (1, 3), (3, 10))
def zr_30 : zRow := (yX1_settleDrafts, cX1_settleDrafts, 4, none, 1, 0, 1, (3, 15), (3, 13), (1, 3), (3, 14))
def zr_31 : zRow := (yX2_init, cX2_init, 1, none, 2, 0, 2, (1, 28), (1, 27), (1, 2), (99, 0))
def zr_32 : zRow := (yX2_copyFrom, cX2_copyFrom, 2, none, 1, 1, 2, (2, 161), (2, 159), (1, 2), (2, 160))
def zr_33 : zRow := (yX2_has, cX2_has, 2, (some FieldType.boolean), 1, 1, 2, (2, 62), (2, 60), (1, 2), (2, 61))
def zr_34 : zRow := (yX2_valueOf, cX2_valueOf, 3, (some FieldType.int), 1, 2, 2, (2, 73), (2, 71), (1, 2), (2, 72))
def zr_35 : zRow := (yX2_put, cX2_put, 4, none, 1, 3, 2, (2, 145), (2, 143), (1, 2), (2, 144))
def zr_36 : zRow := (yX2_putAll, cX2_putAll, 5, none, 1, 4, 2, (2, 141), (2, 140), (1, 2), (0, 2))
def zr_37 : zRow := (yX2_add, cX2_add, 4, none, 1, 3, 2, (2, 137), (2, 135), (1, 2), (2, 136))
def zr_38 : zRow := (yX2_remove, cX2_remove, 4, none, 1, 1, 2, (2, 149), (2, 147), (1, 2), (2, 148))
def zr_39 : zRow := (yX2_keyIn, cX2_keyIn, 4, (some FieldType.int), 1, 2, 2, (2, 116), (2, 114), (1, 2), (2, 115))
def zr_40 : zRow := (yX2_truthOf, cX2_truthOf, 3, (some FieldType.int), 1, 2, 2, (2, 112), (2, 110), (1, 2), (2, 111))
def zr_41 : zRow := (yX2_countOf, cX2_countOf, 5, (some FieldType.int), 1, 2, 2, (2, 108), (2, 106), (1, 2), (2, 107))
def zr_42 : zRow := (yX2_countValue, cX2_countValue, 5, (some FieldType.int), 1, 2, 2, (2, 203), (2, 201), (1, 2), (2, 202))
def zr_43 : zRow := (yX2_liveDay, cX2_liveDay, 4, none, 1, 0, 2, (2, 128), (2, 126), (1, 2), (2, 127))
def zr_44 : zRow := (yX2_draw, cX2_draw, 2, (some FieldType.int), 1, 1, 2, (2, 132), (2, 131), (1, 2), (0, 1))
def zr_45 : zRow := (yX3_init, cX3_init, 1, none, 2, 0, 3, (1, 232), (1, 231), (1, 9), (99, 0))
def zr_46 : zRow := (yX3_codeOf, cX3_codeOf, 4, (some FieldType.int), 0, 3, 3, (4, 95), (4, 94), (1, 9), (99, 0))
def zr_47 : zRow := (yX3_rank, cX3_rank, 6, none, 1, 4, 3, (4, 90), (4, 88), (1, 9), (4, 89))
def zr_48 : zRow := (yX3_insert, cX3_insert, 3, none, 1, 1, 3, (4, 99), (4, 98), (1, 9), (0, 23))
def zr_49 : zRow := (yX3_lineAt, cX3_lineAt, 2, (some FieldType.int), 1, 1, 3, (4, 103), (4, 101), (1, 9), (4, 102))
def zr_50 : zRow := (yX3_firstBehind, cX3_firstBehind, 3, (some FieldType.int), 1, 1, 3, (4, 213), (4, 211), (1, 9), (4, 212))
def zr_51 : zRow := (yX4_init, cX4_init, 1, none, 2, 0, 4, (1, 164), (1, 163), (1, 7), (99, 0))
def zr_52 : zRow := zNone
def zr_53 : zRow := zNone
def zr_54 : zRow := zNone
def zr_55 : zRow := zNone
def zr_56 : zRow := (yX4_readCondition, cX4_readCondition, 6, (some FieldType.boolean), 1, 2, 4, (3, 155), (3, 153), (1, 7), (3, 154))
def zr_57 : zRow := (yX4_isTurnSign, cX4_isTurnSign, 1, (some FieldType.boolean), 0, 1, 4, (3, 195), (3, 194), (1, 7), (99, 0))
def zr_58 : zRow := (yX4_isClosed, cX4_isClosed, 2, (some FieldType.boolean), 1, 1, 4, (3, 167), (3, 166), (1, 7), (0, 13))
def zr_59 : zRow := (yX4_readBehindTurn, cX4_readBehindTurn, 4, (some FieldType.boolean), 1, 3, 4, (4, 15), (4, 14), (1, 7), (0, 21))
def zr_60 : zRow := (yX4_turnIsWhole, cX4_turnIsWhole, 4, none, 1, 2, 4, (4, 11), (4, 10), (1, 7), (0, 20))
def zr_61 : zRow := (yX4_closeOr, cX4_closeOr, 4, none, 1, 1, 4, (3, 171), (3, 170), (1, 7), (0, 14))
def zr_62 : zRow := (yX4_pushOpen, cX4_pushOpen, 2, none, 1, 1, 4, (3, 199), (3, 198), (1, 7), (0, 19))
def zr_63 : zRow := (yX4_topOpen, cX4_topOpen, 1, (some FieldType.int), 1, 0, 4, (3, 175), (3, 174), (1, 7), (0, 15))
def zr_64 : zRow := (yX4_popOpen, cX4_popOpen, 1, none, 1, 0, 4, (3, 179), (3, 178), (1, 7), (0, 16))
def zr_65 : zRow := (yX4_pushWhole, cX4_pushWhole, 2, none, 1, 1, 4, (3, 192), (3, 191), (1, 7), (0, 18))
def zr_66 : zRow := (yX4_popWhole, cX4_popWhole, 1, (some FieldType.int), 1, 0, 4, (3, 183), (3, 182), (1, 7), (0, 17))
def zr_67 : zRow := (yX4_readLeaf, cX4_readLeaf, 3, (some FieldType.boolean), 0, 2, 4, (3, 207), (3, 206), (1, 7), (99, 0))
def zr_68 : zRow := (yX4_readCompared, cX4_readCompared, 4, (some FieldType.boolean), 0, 2, 4, (3, 221), (3, 220), (1, 7), (99, 0))
def zr_69 : zRow := (yX4_readAmong, cX4_readAmong, 5, (some FieldType.boolean), 0, 2, 4, (3, 237), (3, 236), (1, 7), (99, 0))
def zr_70 : zRow := (yX4_readRest, cX4_readRest, 4, (some FieldType.boolean), 0, 2, 4, (4, 0), (3, 239), (1, 7), (99, 0))
def zr_71 : zRow := (yX4_readSeveral, cX4_readSeveral, 5, (some FieldType.boolean), 0, 2, 4, (4, 3), (4, 2), (1, 7), (99, 0))
def zr_72 : zRow := (yX5_init, cX5_init, 2, none, 2, 0, 5, (1, 129), (1, 128), (1, 5), (99, 0))
def zr_73 : zRow := (yX5_isShelf, cX5_isShelf, 1, (some FieldType.boolean), 0, 1, 5, (4, 199), (4, 198), (1, 5), (99, 0))
def zr_74 : zRow := zNone
def zr_75 : zRow := zNone
def zr_76 : zRow := zNone
def zr_77 : zRow := (yX5_conditionIn, cX5_conditionIn, 2, (some FieldType.int), 1, 1, 5, (2, 54), (2, 52), (1, 5), (2, 53))
def zr_78 : zRow := (yX5_layRow, cX5_layRow, 5, none, 1, 3, 5, (4, 204), (4, 202), (1, 5), (4, 203))
def zr_79 : zRow := (yX5_whyNoRow, cX5_whyNoRow, 2, (some FieldType.int), 1, 1, 5, (4, 222), (4, 220), (1, 5), (4, 221))
def zr_80 : zRow := (yX5_whyNoRowOf, cX5_whyNoRowOf, 4, (some FieldType.int), 1, 2, 5, (5, 1), (4, 239), (1, 5), (5, 0))
def zr_81 : zRow := zNone
def zr_82 : zRow := (yX5_hasElement, cX5_hasElement, 3, (some FieldType.boolean), 1, 2, 5, (4, 226), (4, 224), (1, 5), (4, 225))
def zr_83 : zRow := zNone
def zr_84 : zRow := (yX5_elementAt, cX5_elementAt, 3, (some FieldType.long), 1, 2, 5, (5, 6), (5, 4), (1, 5), (5, 5))
def zr_85 : zRow := (yX5_put, cX5_put, 5, none, 1, 3, 5, (4, 230), (4, 228), (1, 5), (4, 229))
def zr_86 : zRow := zNone
def zr_87 : zRow := (yX5_kept, cX5_kept, 3, (some FieldType.long), 0, 2, 5, (4, 233), (4, 232), (1, 5), (99, 0))
def zr_88 : zRow := (yX5_forgetConditionsFrom, cX5_forgetConditionsFrom, 3, none, 1, 1, 5, (2, 50), (2, 48), (1, 5), (2, 49))
def zr_89 : zRow := (yX5_countHolding, cX5_countHolding, 3, (some FieldType.int), 1, 0, 5, (2, 207), (2, 205), (1, 5), (2, 206))
def zr_90 : zRow := (yX6_init, cX6_init, 1, none, 2, 0, 6, (1, 188), (1, 187), (1, 8), (99, 0))
def zr_91 : zRow := (yX6_layOut, cX6_layOut, 6, none, 1, 2, 6, (4, 50), (4, 48), (1, 8), (4, 49))
def zr_92 : zRow := (yX6_runTold, cX6_runTold, 2, (some FieldType.int), 1, 1, 6, (4, 64), (4, 62), (1, 8), (4, 63))
def zr_93 : zRow := (yX6_planSize, cX6_planSize, 2, (some FieldType.int), 1, 1, 6, (4, 162), (4, 160), (1, 8), (4, 161))
def zr_94 : zRow := (yX6_widthOf, cX6_widthOf, 2, (some FieldType.int), 1, 1, 6, (4, 135), (4, 134), (1, 8), (0, 25))
def zr_95 : zRow := (yX6_orderGaps, cX6_orderGaps, 4, none, 1, 0, 6, (4, 131), (4, 130), (1, 8), (0, 24))
def zr_96 : zRow := (yX6_joinDownTo, cX6_joinDownTo, 3, none, 1, 1, 6, (4, 127), (4, 125), (1, 8), (4, 126))
def zr_97 : zRow := (yX6_spanTold, cX6_spanTold, 5, (some FieldType.int), 1, 1, 6, (4, 180), (4, 178), (1, 8), (4, 179))
def zr_98 : zRow := (yX6_gapAt, cX6_gapAt, 3, (some FieldType.int), 1, 1, 6, (4, 153), (4, 152), (1, 8), (0, 26))
def zr_99 : zRow := (yX6_planHas, cX6_planHas, 3, (some FieldType.boolean), 1, 1, 6, (4, 149), (4, 147), (1, 8), (4, 148))
def zr_100 : zRow := (yX6_countKeysBetween, cX6_countKeysBetween, 3, (some FieldType.int), 1, 0, 6, (4, 140), (4, 138), (1, 8), (4, 139))
def zr_101 : zRow := (yX6_countRead, cX6_countRead, 5, (some FieldType.int), 1, 2, 6, (4, 144), (4, 142), (1, 8), (4, 143))
def zr_102 : zRow := (yX6_findBest, cX6_findBest, 6, none, 1, 2, 6, (4, 188), (4, 186), (1, 8), (4, 187))
def zr_103 : zRow := (yX6_countLinesByGap, cX6_countLinesByGap, 7, (some FieldType.int), 1, 2, 6, (4, 192), (4, 191), (1, 8), (0, 30))
def zr_104 : zRow := (yX7_init, cX7_init, 1, none, 2, 0, 7, (1, 146), (1, 145), (1, 6), (99, 0))
def zr_105 : zRow := (yX7_append, cX7_append, 2, none, 1, 1, 7, (3, 105), (3, 103), (1, 6), (3, 104))
def zr_106 : zRow := (yX7_wipeAll, cX7_wipeAll, 1, none, 1, 0, 7, (4, 19), (4, 17), (1, 6), (4, 18))
def zr_107 : zRow := (yX7_rewind, cX7_rewind, 1, none, 1, 0, 7, (3, 159), (3, 157), (1, 6), (3, 158))
def zr_108 : zRow := (yX7_ahead, cX7_ahead, 1, (some FieldType.int), 1, 0, 7, (3, 163), (3, 161), (1, 6), (3, 162))
def zr_109 : zRow := (yX7_take, cX7_take, 1, none, 1, 0, 7, (3, 203), (3, 201), (1, 6), (3, 202))
def zr_110 : zRow := (yX7_columnAhead, cX7_columnAhead, 2, (some FieldType.int), 1, 0, 7, (3, 211), (3, 209), (1, 6), (3, 210))
def zr_111 : zRow := (yX7_signAhead, cX7_signAhead, 1, (some FieldType.int), 1, 0, 7, (3, 218), (3, 216), (1, 6), (3, 217))
def zr_112 : zRow := (yX7_digitAhead, cX7_digitAhead, 4, (some FieldType.int), 1, 2, 7, (3, 225), (3, 223), (1, 6), (3, 224))
def zr_113 : zRow := (yX8_init, cX8_init, 1, none, 2, 0, 8, (1, 20), (1, 19), (1, 1), (99, 0))
def zr_114 : zRow := (yX8_row, cX8_row, 4, (some FieldType.int), 1, 3, 8, (4, 196), (4, 194), (1, 1), (4, 195))
def zr_115 : zRow := (yX8_set, cX8_set, 6, (some FieldType.int), 1, 3, 8, (4, 218), (4, 216), (1, 1), (4, 217))
def zr_116 : zRow := zNone
def zr_117 : zRow := zNone
def zr_118 : zRow := zNone
def zr_119 : zRow := zNone
def zr_120 : zRow := zNone
def zr_121 : zRow := (yX8_line, cX8_line, 4, (some FieldType.int), 1, 3, 8, (2, 218), (2, 216), (1, 1), (2, 217))
def zr_122 : zRow := (yX8_alter, cX8_alter, 5, (some FieldType.int), 1, 3, 8, (3, 96), (3, 94), (1, 1), (3, 95))
def zr_123 : zRow := (yX8_strike, cX8_strike, 2, (some FieldType.int), 1, 1, 8, (4, 23), (4, 21), (1, 1), (4, 22))
def zr_124 : zRow := (yX8_price, cX8_price, 3, (some FieldType.int), 1, 1, 8, (4, 28), (4, 26), (1, 1), (4, 27))
def zr_125 : zRow := (yX8_feed, cX8_feed, 2, (some FieldType.int), 1, 1, 8, (3, 101), (3, 99), (1, 1), (3, 100))
def zr_126 : zRow := zNone
def zr_127 : zRow := zNone
def zr_128 : zRow := (yX8_cond, cX8_cond, 3, (some FieldType.int), 1, 0, 8, (3, 151), (3, 149), (1, 1), (3, 150))
def zr_129 : zRow := (yX8_test, cX8_test, 4, (some FieldType.int), 1, 3, 8, (2, 226), (2, 224), (1, 1), (2, 225))
def zr_130 : zRow := (yX8_among, cX8_among, 3, (some FieldType.int), 1, 2, 8, (3, 68), (3, 66), (1, 1), (3, 67))
def zr_131 : zRow := (yX8_gone, cX8_gone, 2, (some FieldType.int), 1, 1, 8, (3, 72), (3, 70), (1, 1), (3, 71))
def zr_132 : zRow := (yX8_columns, cX8_columns, 5, (some FieldType.int), 1, 3, 8, (3, 76), (3, 74), (1, 1), (3, 75))
def zr_133 : zRow := (yX8_rest, cX8_rest, 5, (some FieldType.int), 1, 3, 8, (3, 80), (3, 78), (1, 1), (3, 79))
def zr_134 : zRow := zNone
def zr_135 : zRow := (yX8_pair, cX8_pair, 4, (some FieldType.int), 1, 3, 8, (3, 84), (3, 82), (1, 1), (3, 83))
def zr_136 : zRow := (yX8_turn, cX8_turn, 3, (some FieldType.int), 1, 2, 8, (3, 92), (3, 90), (1, 1), (3, 91))
def zr_137 : zRow := (yX8_drop, cX8_drop, 1, (some FieldType.int), 1, 0, 8, (2, 42), (2, 40), (1, 1), (2, 41))
def zr_138 : zRow := (yX8_condOf, cX8_condOf, 4, (some FieldType.int), 1, 2, 8, (5, 13), (5, 11), (1, 1), (5, 12))
def zr_139 : zRow := (yX8_lineOf, cX8_lineOf, 3, (some FieldType.int), 1, 2, 8, (2, 58), (2, 56), (1, 1), (2, 57))
def zr_140 : zRow := zNone
def zr_141 : zRow := (yX8_truth, cX8_truth, 4, (some FieldType.int), 1, 3, 8, (4, 68), (4, 66), (1, 1), (4, 67))
def zr_142 : zRow := (yX8_keys, cX8_keys, 3, (some FieldType.int), 1, 2, 8, (2, 77), (2, 75), (1, 1), (2, 76))
def zr_143 : zRow := (yX8_lines, cX8_lines, 3, (some FieldType.int), 1, 2, 8, (2, 104), (2, 102), (1, 1), (2, 103))
def zr_144 : zRow := zNone
def zr_145 : zRow := (yX8_runs, cX8_runs, 3, (some FieldType.int), 1, 2, 8, (4, 39), (4, 37), (1, 1), (4, 38))
def zr_146 : zRow := (yX8_run, cX8_run, 4, (some FieldType.int), 1, 3, 8, (4, 60), (4, 58), (1, 1), (4, 59))
def zr_147 : zRow := (yX8_plan, cX8_plan, 6, (some FieldType.int), 1, 4, 8, (4, 176), (4, 174), (1, 1), (4, 175))
def zr_148 : zRow := (yX8_of, cX8_of, 6, (some FieldType.int), 1, 4, 8, (4, 123), (4, 121), (1, 1), (4, 122))
def zr_149 : zRow := (yX8_best, cX8_best, 4, (some FieldType.int), 1, 3, 8, (4, 184), (4, 182), (1, 1), (4, 183))
def zr_150 : zRow := zNone
def zr_151 : zRow := (yX8_seek, cX8_seek, 6, (some FieldType.int), 1, 4, 8, (4, 74), (4, 72), (1, 1), (4, 73))
def zr_152 : zRow := zNone
def zr_153 : zRow := (yX8_found, cX8_found, 4, (some FieldType.int), 1, 3, 8, (4, 86), (4, 84), (1, 1), (4, 85))
def zr_154 : zRow := zNone
def zr_155 : zRow := (yX8_behind, cX8_behind, 4, (some FieldType.int), 1, 3, 8, (4, 208), (4, 206), (1, 1), (4, 207))
def zr_156 : zRow := (yX8_implies, cX8_implies, 6, (some FieldType.int), 1, 2, 8, (4, 115), (4, 113), (1, 1), (4, 114))
def zr_157 : zRow := (yX8_alike, cX8_alike, 3, (some FieldType.int), 1, 2, 8, (4, 119), (4, 117), (1, 1), (4, 118))
def zr_158 : zRow := (yX8_same, cX8_same, 3, (some FieldType.int), 1, 1, 8, (4, 107), (4, 105), (1, 1), (4, 106))
def zr_159 : zRow := zNone
def zr_160 : zRow := (yX8_judge, cX8_judge, 7, (some FieldType.int), 1, 4, 8, (4, 237), (4, 235), (1, 1), (4, 236))
def zr_161 : zRow := zNone
def zr_162 : zRow := zNone
def zr_163 : zRow := (yX8_days, cX8_days, 3, (some FieldType.int), 1, 1, 8, (2, 124), (2, 122), (1, 1), (2, 123))
def zr_164 : zRow := zNone
def zr_165 : zRow := (yX8_image, cX8_image, 1, (some FieldType.int), 1, 0, 8, (2, 157), (2, 155), (1, 1), (2, 156))
def zr_166 : zRow := (yX8_back, cX8_back, 1, (some FieldType.int), 1, 0, 8, (2, 182), (2, 180), (1, 1), (2, 181))
def zr_167 : zRow := (yX8_status, cX8_status, 2, (some FieldType.int), 1, 1, 8, (2, 186), (2, 184), (1, 1), (2, 185))
def zr_168 : zRow := (yX8_refuse, cX8_refuse, 3, (some FieldType.int), 1, 1, 8, (2, 46), (2, 45), (1, 1), (0, 0))
def zr_169 : zRow := (yX8_settled, cX8_settled, 1, (some FieldType.int), 1, 0, 8, (3, 3), (3, 2), (1, 1), (0, 6))
def zr_170 : zRow := (yX8_isCondAndIndex, cX8_isCondAndIndex, 3, (some FieldType.boolean), 1, 2, 8, (4, 43), (4, 42), (1, 1), (0, 22))
def zr_171 : zRow := zNone
def zr_172 : zRow := zNone
def zr_173 : zRow := zNone
def zr_174 : zRow := (yX8_stillToTest, cX8_stillToTest, 5, (some FieldType.int), 1, 2, 8, (4, 167), (4, 166), (1, 1), (0, 28))
def zr_175 : zRow := (yX8_isTrueInPlan, cX8_isTrueInPlan, 4, (some FieldType.boolean), 1, 2, 8, (4, 171), (4, 170), (1, 1), (0, 29))
def zr_176 : zRow := (yX8_seekUp, cX8_seekUp, 4, (some FieldType.int), 0, 3, 8, (4, 77), (4, 76), (1, 1), (99, 0))
def zr_177 : zRow := (yX8_seekDown, cX8_seekDown, 4, (some FieldType.int), 0, 3, 8, (4, 81), (4, 80), (1, 1), (99, 0))
def zr_178 : zRow := (yX8_countDifferentKeys, cX8_countDifferentKeys, 2, (some FieldType.int), 1, 0, 8, (2, 190), (2, 189), (1, 1), (0, 3))
def zr_179 : zRow := (yX8_clearSeen, cX8_clearSeen, 2, none, 1, 0, 8, (2, 194), (2, 193), (1, 1), (0, 4))
def zr_180 : zRow := (yX8_countSeen, cX8_countSeen, 3, (some FieldType.int), 1, 0, 8, (2, 199), (2, 198), (1, 1), (0, 5))
def zr_181 : zRow := (yX8_isWithin, cX8_isWithin, 3, (some FieldType.boolean), 0, 3, 8, (2, 65), (2, 64), (1, 1), (99, 0))
def zr_182 : zRow := (yX8_isColumn, cX8_isColumn, 1, (some FieldType.boolean), 0, 1, 8, (2, 68), (2, 67), (1, 1), (99, 0))
def zr_183 : zRow := (yX8_isIndex, cX8_isIndex, 1, (some FieldType.boolean), 0, 1, 8, (4, 46), (4, 45), (1, 1), (99, 0))
def zr_184 : zRow := (yX8_isSign, cX8_isSign, 1, (some FieldType.boolean), 0, 1, 8, (2, 229), (2, 228), (1, 1), (99, 0))
def zr_185 : zRow := (yX8_isTruth, cX8_isTruth, 1, (some FieldType.boolean), 0, 1, 8, (2, 85), (2, 84), (1, 1), (99, 0))
def zr_186 : zRow := (yX8_isDigit, cX8_isDigit, 1, (some FieldType.boolean), 0, 1, 8, (2, 221), (2, 220), (1, 1), (99, 0))
def zr_187 : zRow := (yX8_isValue, cX8_isValue, 1, (some FieldType.boolean), 0, 1, 8, (2, 232), (2, 231), (1, 1), (99, 0))
def zr_188 : zRow := (yX8_placeOf, cX8_placeOf, 3, (some FieldType.int), 0, 2, 8, (4, 53), (4, 52), (1, 1), (99, 0))
def zr_189 : zRow := (yX8_compared, cX8_compared, 4, (some FieldType.int), 0, 3, 8, (3, 35), (3, 34), (1, 1), (99, 0))
def zr_190 : zRow := (yX9_init, cX9_init, 1, none, 2, 0, 9, (98, 0), (98, 0), (98, 0), (98, 0))
def zr_191 : zRow := (yX9_refuse, cX9_refuse, 2, (some FieldType.int), 1, 1, 9, (98, 0), (98, 0), (98, 0), (98, 0))
def zr_192 : zRow := (yX9_in, cX9_in, 6, (some FieldType.boolean), 0, 3, 9, (98, 0), (98, 0), (98, 0), (98, 0))
def zr_193 : zRow := (yX9_isCond, cX9_isCond, 2, (some FieldType.boolean), 1, 1, 9, (98, 0), (98, 0), (98, 0), (98, 0))
def zr_194 : zRow := (yX9_isLine, cX9_isLine, 2, (some FieldType.boolean), 1, 1, 9, (98, 0), (98, 0), (98, 0), (98, 0))
def zr_195 : zRow := (yX9_bits, cX9_bits, 3, (some FieldType.int), 0, 1, 9, (98, 0), (98, 0), (98, 0), (98, 0))
def zr_196 : zRow := (yX9_row, cX9_row, 5, (some FieldType.int), 1, 3, 9, (98, 0), (98, 0), (98, 0), (98, 0))
def zr_197 : zRow := (yX9_fit, cX9_fit, 3, (some FieldType.long), 0, 2, 9, (98, 0), (98, 0), (98, 0), (98, 0))
def zr_198 : zRow := (yX9_noRow, cX9_noRow, 2, (some FieldType.int), 1, 1, 9, (98, 0), (98, 0), (98, 0), (98, 0))
def zr_199 : zRow := (yX9_set, cX9_set, 6, (some FieldType.int), 1, 3, 9, (98, 0), (98, 0), (98, 0), (98, 0))
def zr_200 : zRow := (yX9_copy, cX9_copy, 7, (some FieldType.int), 1, 5, 9, (98, 0), (98, 0), (98, 0), (98, 0))
def zr_201 : zRow := (yX9_element, cX9_element, 3, (some FieldType.long), 1, 2, 9, (98, 0), (98, 0), (98, 0), (98, 0))
def zr_202 : zRow := (yX9_holds, cX9_holds, 2, (some FieldType.int), 1, 1, 9, (98, 0), (98, 0), (98, 0), (98, 0))
def zr_203 : zRow := (yX9_show, cX9_show, 3, (some FieldType.int), 1, 2, 9, (98, 0), (98, 0), (98, 0), (98, 0))
def zr_204 : zRow := (yX9_isOf, cX9_isOf, 2, (some FieldType.boolean), 0, 2, 9, (98, 0), (98, 0), (98, 0), (98, 0))
def zr_205 : zRow := (yX9_says, cX9_says, 4, (some FieldType.int), 1, 2, 9, (98, 0), (98, 0), (98, 0), (98, 0))
def zr_206 : zRow := (yX9_columnAt, cX9_columnAt, 5, (some FieldType.int), 0, 2, 9, (98, 0), (98, 0), (98, 0), (98, 0))
def zr_207 : zRow := (yX9_digit, cX9_digit, 2, (some FieldType.int), 0, 2, 9, (98, 0), (98, 0), (98, 0), (98, 0))
def zr_208 : zRow := (yX9_weight, cX9_weight, 1, (some FieldType.int), 0, 1, 9, (98, 0), (98, 0), (98, 0), (98, 0))
def zr_209 : zRow := (yX9_plain, cX9_plain, 4, (some FieldType.int), 0, 2, 9, (98, 0), (98, 0), (98, 0), (98, 0))
def zr_210 : zRow := (yX9_keyIn, cX9_keyIn, 5, (some FieldType.int), 1, 2, 9, (98, 0), (98, 0), (98, 0), (98, 0))
def zr_211 : zRow := (yX9_isAt, cX9_isAt, 3, (some FieldType.int), 1, 2, 9, (98, 0), (98, 0), (98, 0), (98, 0))
def zr_212 : zRow := (yX9_isFor, cX9_isFor, 3, (some FieldType.int), 1, 2, 9, (98, 0), (98, 0), (98, 0), (98, 0))
def zr_213 : zRow := (yX9_holds_, cX9_holds_, 4, (some FieldType.int), 0, 3, 9, (98, 0), (98, 0), (98, 0), (98, 0))
def zr_214 : zRow := (yX9_severalFor, cX9_severalFor, 9, (some FieldType.int), 1, 2, 9, (98, 0), (98, 0), (98, 0), (98, 0))
def zr_215 : zRow := (yX9_leafFor, cX9_leafFor, 6, (some FieldType.int), 1, 2, 9, (98, 0), (98, 0), (98, 0), (98, 0))
def zr_216 : zRow := (yX9_worked, cX9_worked, 5, (some FieldType.int), 1, 2, 9, (98, 0), (98, 0), (98, 0), (98, 0))
def zr_217 : zRow := (yX9_leafIn, cX9_leafIn, 4, none, 1, 1, 9, (98, 0), (98, 0), (98, 0), (98, 0))
def zr_218 : zRow := (yX9_overIn, cX9_overIn, 4, none, 1, 1, 9, (98, 0), (98, 0), (98, 0), (98, 0))
def zr_219 : zRow := (yX9_workFrom, cX9_workFrom, 4, none, 1, 1, 9, (98, 0), (98, 0), (98, 0), (98, 0))
def zr_220 : zRow := (yX9_put, cX9_put, 5, none, 1, 4, 9, (98, 0), (98, 0), (98, 0), (98, 0))
def zr_221 : zRow := (yX9_line, cX9_line, 4, (some FieldType.int), 1, 3, 9, (98, 0), (98, 0), (98, 0), (98, 0))
def zr_222 : zRow := (yX9_alter, cX9_alter, 5, (some FieldType.int), 1, 3, 9, (98, 0), (98, 0), (98, 0), (98, 0))
def zr_223 : zRow := (yX9_strikeOut, cX9_strikeOut, 3, none, 1, 1, 9, (98, 0), (98, 0), (98, 0), (98, 0))
def zr_224 : zRow := (yX9_strike, cX9_strike, 2, (some FieldType.int), 1, 1, 9, (98, 0), (98, 0), (98, 0), (98, 0))
def zr_225 : zRow := (yX9_price, cX9_price, 3, (some FieldType.int), 1, 1, 9, (98, 0), (98, 0), (98, 0), (98, 0))
def zr_226 : zRow := (yX9_feed, cX9_feed, 2, (some FieldType.int), 1, 1, 9, (98, 0), (98, 0), (98, 0), (98, 0))
def zr_227 : zRow := (yX9_wipe, cX9_wipe, 2, (some FieldType.int), 1, 0, 9, (98, 0), (98, 0), (98, 0), (98, 0))
def zr_228 : zRow := (yX9_isCell, cX9_isCell, 1, (some FieldType.boolean), 0, 1, 9, (98, 0), (98, 0), (98, 0), (98, 0))
def zr_229 : zRow := (yX9_tableFault, cX9_tableFault, 4, (some FieldType.int), 1, 0, 9, (98, 0), (98, 0), (98, 0), (98, 0))
def zr_230 : zRow := (yX9_table, cX9_table, 6, (some FieldType.int), 1, 0, 9, (98, 0), (98, 0), (98, 0), (98, 0))
def zr_231 : zRow := (yX9_clearTold, cX9_clearTold, 2, none, 1, 0, 9, (98, 0), (98, 0), (98, 0), (98, 0))
def zr_232 : zRow := (yX9_make, cX9_make, 3, (some FieldType.int), 1, 1, 9, (98, 0), (98, 0), (98, 0), (98, 0))
def zr_233 : zRow := (yX9_makeOver, cX9_makeOver, 4, (some FieldType.int), 1, 3, 9, (98, 0), (98, 0), (98, 0), (98, 0))
def zr_234 : zRow := (yX9_here, cX9_here, 1, (some FieldType.int), 1, 0, 9, (98, 0), (98, 0), (98, 0), (98, 0))
def zr_235 : zRow := (yX9_sees, cX9_sees, 3, (some FieldType.boolean), 1, 1, 9, (98, 0), (98, 0), (98, 0), (98, 0))
def zr_236 : zRow := (yX9_wrong, cX9_wrong, 1, (some FieldType.int), 1, 0, 9, (98, 0), (98, 0), (98, 0), (98, 0))
def zr_237 : zRow := (yX9_must, cX9_must, 2, none, 1, 1, 9, (98, 0), (98, 0), (98, 0), (98, 0))
def zr_238 : zRow := (yX9_signOf, cX9_signOf, 1, (some FieldType.int), 0, 1, 9, (98, 0), (98, 0), (98, 0), (98, 0))
def zr_239 : zRow := (yX9_number, cX9_number, 3, (some FieldType.int), 1, 2, 9, (98, 0), (98, 0), (98, 0), (98, 0))
def zr_240 : zRow := (yX9_signHere, cX9_signHere, 1, none, 1, 0, 9, (98, 0), (98, 0), (98, 0), (98, 0))
def zr_241 : zRow := (yX9_severalHere, cX9_severalHere, 4, (some FieldType.int), 1, 1, 9, (98, 0), (98, 0), (98, 0), (98, 0))
def zr_242 : zRow := (yX9_amongHere, cX9_amongHere, 2, (some FieldType.int), 1, 1, 9, (98, 0), (98, 0), (98, 0), (98, 0))
def zr_243 : zRow := (yX9_columnHere, cX9_columnHere, 3, (some FieldType.int), 1, 1, 9, (98, 0), (98, 0), (98, 0), (98, 0))
def zr_244 : zRow := (yX9_turnHere, cX9_turnHere, 3, (some FieldType.int), 1, 0, 9, (98, 0), (98, 0), (98, 0), (98, 0))
def zr_245 : zRow := (yX9_eachHere, cX9_eachHere, 3, (some FieldType.int), 1, 0, 9, (98, 0), (98, 0), (98, 0), (98, 0))
def zr_246 : zRow := (yX9_condHere, cX9_condHere, 3, (some FieldType.int), 1, 0, 9, (98, 0), (98, 0), (98, 0), (98, 0))
def zr_247 : zRow := (yX9_cond, cX9_cond, 1, (some FieldType.int), 1, 0, 9, (98, 0), (98, 0), (98, 0), (98, 0))
def zr_248 : zRow := (yX9_added, cX9_added, 2, (some FieldType.int), 1, 0, 9, (98, 0), (98, 0), (98, 0), (98, 0))
def zr_249 : zRow := (yX9_add, cX9_add, 2, (some FieldType.int), 1, 1, 9, (98, 0), (98, 0), (98, 0), (98, 0))
def zr_250 : zRow := (yX9_tell, cX9_tell, 6, (some FieldType.int), 1, 5, 9, (98, 0), (98, 0), (98, 0), (98, 0))
def zr_251 : zRow := (yX9_isColumn, cX9_isColumn, 1, (some FieldType.boolean), 0, 1, 9, (98, 0), (98, 0), (98, 0), (98, 0))
def zr_252 : zRow := (yX9_test, cX9_test, 4, (some FieldType.int), 1, 3, 9, (98, 0), (98, 0), (98, 0), (98, 0))
def zr_253 : zRow := (yX9_among, cX9_among, 3, (some FieldType.int), 1, 2, 9, (98, 0), (98, 0), (98, 0), (98, 0))
def zr_254 : zRow := (yX9_gone, cX9_gone, 2, (some FieldType.int), 1, 1, 9, (98, 0), (98, 0), (98, 0), (98, 0))
def zr_255 : zRow := (yX9_columns, cX9_columns, 4, (some FieldType.int), 1, 3, 9, (98, 0), (98, 0), (98, 0), (98, 0))
def zr_256 : zRow := (yX9_rest, cX9_rest, 4, (some FieldType.int), 1, 3, 9, (98, 0), (98, 0), (98, 0), (98, 0))
def zr_257 : zRow := (yX9_noRowOf, cX9_noRowOf, 4, (some FieldType.int), 1, 2, 9, (98, 0), (98, 0), (98, 0), (98, 0))
def zr_258 : zRow := (yX9_several, cX9_several, 11, (some FieldType.int), 1, 3, 9, (98, 0), (98, 0), (98, 0), (98, 0))
def zr_259 : zRow := (yX9_pair, cX9_pair, 4, (some FieldType.int), 1, 3, 9, (98, 0), (98, 0), (98, 0), (98, 0))
def zr_260 : zRow := (yX9_turn, cX9_turn, 3, (some FieldType.int), 1, 2, 9, (98, 0), (98, 0), (98, 0), (98, 0))
def zr_261 : zRow := (yX9_drop, cX9_drop, 2, (some FieldType.int), 1, 0, 9, (98, 0), (98, 0), (98, 0), (98, 0))
def zr_262 : zRow := (yX9_condOf, cX9_condOf, 3, (some FieldType.int), 1, 2, 9, (98, 0), (98, 0), (98, 0), (98, 0))
def zr_263 : zRow := (yX9_lineOf, cX9_lineOf, 3, (some FieldType.int), 1, 2, 9, (98, 0), (98, 0), (98, 0), (98, 0))
def zr_264 : zRow := (yX9_isIndex, cX9_isIndex, 1, (some FieldType.boolean), 0, 1, 9, (98, 0), (98, 0), (98, 0), (98, 0))
def zr_265 : zRow := (yX9_keyOf, cX9_keyOf, 3, (some FieldType.int), 1, 2, 9, (98, 0), (98, 0), (98, 0), (98, 0))
def zr_266 : zRow := (yX9_truth, cX9_truth, 4, (some FieldType.int), 1, 3, 9, (98, 0), (98, 0), (98, 0), (98, 0))
def zr_267 : zRow := (yX9_keysOf, cX9_keysOf, 5, (some FieldType.int), 1, 2, 9, (98, 0), (98, 0), (98, 0), (98, 0))
def zr_268 : zRow := (yX9_keys, cX9_keys, 3, (some FieldType.int), 1, 2, 9, (98, 0), (98, 0), (98, 0), (98, 0))
def zr_269 : zRow := (yX9_linesOf, cX9_linesOf, 5, (some FieldType.int), 1, 2, 9, (98, 0), (98, 0), (98, 0), (98, 0))
def zr_270 : zRow := (yX9_lines, cX9_lines, 3, (some FieldType.int), 1, 2, 9, (98, 0), (98, 0), (98, 0), (98, 0))
def zr_271 : zRow := (yX9_valuesOf, cX9_valuesOf, 5, (some FieldType.int), 1, 2, 9, (98, 0), (98, 0), (98, 0), (98, 0))
def zr_272 : zRow := (yX9_values, cX9_values, 3, (some FieldType.int), 1, 2, 9, (98, 0), (98, 0), (98, 0), (98, 0))
def zr_273 : zRow := (yX9_runsIn, cX9_runsIn, 6, none, 1, 2, 9, (98, 0), (98, 0), (98, 0), (98, 0))
def zr_274 : zRow := (yX9_mergeOnce, cX9_mergeOnce, 3, none, 1, 0, 9, (98, 0), (98, 0), (98, 0), (98, 0))
def zr_275 : zRow := (yX9_planIn, cX9_planIn, 4, none, 1, 3, 9, (98, 0), (98, 0), (98, 0), (98, 0))
def zr_276 : zRow := (yX9_spanAt, cX9_spanAt, 2, (some FieldType.int), 1, 1, 9, (98, 0), (98, 0), (98, 0), (98, 0))
def zr_277 : zRow := (yX9_runs, cX9_runs, 3, (some FieldType.int), 1, 2, 9, (98, 0), (98, 0), (98, 0), (98, 0))
def zr_278 : zRow := (yX9_run, cX9_run, 4, (some FieldType.int), 1, 3, 9, (98, 0), (98, 0), (98, 0), (98, 0))
def zr_279 : zRow := (yX9_plan, cX9_plan, 5, (some FieldType.int), 1, 4, 9, (98, 0), (98, 0), (98, 0), (98, 0))
def zr_280 : zRow := (yX9_isRead, cX9_isRead, 3, (some FieldType.boolean), 1, 1, 9, (98, 0), (98, 0), (98, 0), (98, 0))
def zr_281 : zRow := (yX9_readIn, cX9_readIn, 6, (some FieldType.int), 1, 3, 9, (98, 0), (98, 0), (98, 0), (98, 0))
def zr_282 : zRow := (yX9_otherKeys, cX9_otherKeys, 6, (some FieldType.int), 1, 2, 9, (98, 0), (98, 0), (98, 0), (98, 0))
def zr_283 : zRow := (yX9_still, cX9_still, 5, (some FieldType.int), 1, 2, 9, (98, 0), (98, 0), (98, 0), (98, 0))
def zr_284 : zRow := (yX9_costIn, cX9_costIn, 3, (some FieldType.int), 1, 2, 9, (98, 0), (98, 0), (98, 0), (98, 0))
def zr_285 : zRow := (yX9_of, cX9_of, 5, (some FieldType.int), 1, 4, 9, (98, 0), (98, 0), (98, 0), (98, 0))
def zr_286 : zRow := (yX9_bestIn, cX9_bestIn, 6, (some FieldType.int), 1, 2, 9, (98, 0), (98, 0), (98, 0), (98, 0))
def zr_287 : zRow := (yX9_best, cX9_best, 5, (some FieldType.int), 1, 3, 9, (98, 0), (98, 0), (98, 0), (98, 0))
def zr_288 : zRow := (yX9_bestIndex, cX9_bestIndex, 6, (some FieldType.int), 1, 2, 9, (98, 0), (98, 0), (98, 0), (98, 0))
def zr_289 : zRow := (yX9_seek, cX9_seek, 8, (some FieldType.int), 1, 4, 9, (98, 0), (98, 0), (98, 0), (98, 0))
def zr_290 : zRow := (yX9_leads, cX9_leads, 7, (some FieldType.boolean), 1, 5, 9, (98, 0), (98, 0), (98, 0), (98, 0))
def zr_291 : zRow := (yX9_leaders, cX9_leaders, 8, (some FieldType.int), 1, 4, 9, (98, 0), (98, 0), (98, 0), (98, 0))
def zr_292 : zRow := (yX9_without, cX9_without, 2, (some FieldType.int), 0, 2, 9, (98, 0), (98, 0), (98, 0), (98, 0))
def zr_293 : zRow := (yX9_isAhead, cX9_isAhead, 7, (some FieldType.boolean), 1, 4, 9, (98, 0), (98, 0), (98, 0), (98, 0))
def zr_294 : zRow := (yX9_findIn, cX9_findIn, 7, none, 1, 3, 9, (98, 0), (98, 0), (98, 0), (98, 0))
def zr_295 : zRow := (yX9_found, cX9_found, 4, (some FieldType.int), 1, 3, 9, (98, 0), (98, 0), (98, 0), (98, 0))
def zr_296 : zRow := (yX9_order, cX9_order, 5, (some FieldType.int), 1, 4, 9, (98, 0), (98, 0), (98, 0), (98, 0))
def zr_297 : zRow := (yX9_behind, cX9_behind, 6, (some FieldType.int), 1, 3, 9, (98, 0), (98, 0), (98, 0), (98, 0))
def zr_298 : zRow := (yX9_implies, cX9_implies, 4, (some FieldType.int), 1, 2, 9, (98, 0), (98, 0), (98, 0), (98, 0))
def zr_299 : zRow := (yX9_differ, cX9_differ, 4, (some FieldType.int), 1, 2, 9, (98, 0), (98, 0), (98, 0), (98, 0))
def zr_300 : zRow := (yX9_alike, cX9_alike, 3, (some FieldType.int), 1, 2, 9, (98, 0), (98, 0), (98, 0), (98, 0))
def zr_301 : zRow := (yX9_same, cX9_same, 3, (some FieldType.int), 1, 1, 9, (98, 0), (98, 0), (98, 0), (98, 0))
def zr_302 : zRow := (yX9_isTold, cX9_isTold, 9, (some FieldType.boolean), 1, 5, 9, (98, 0), (98, 0), (98, 0), (98, 0))
def zr_303 : zRow := (yX9_signs, cX9_signs, 8, (some FieldType.int), 1, 4, 9, (98, 0), (98, 0), (98, 0), (98, 0))
def zr_304 : zRow := (yX9_judge, cX9_judge, 7, (some FieldType.int), 1, 4, 9, (98, 0), (98, 0), (98, 0), (98, 0))
def zr_305 : zRow := (yX9_many, cX9_many, 5, (some FieldType.int), 1, 2, 9, (98, 0), (98, 0), (98, 0), (98, 0))
def zr_306 : zRow := (yX9_whatIf, cX9_whatIf, 7, (some FieldType.int), 1, 4, 9, (98, 0), (98, 0), (98, 0), (98, 0))
def zr_307 : zRow := (yX9_draw, cX9_draw, 2, (some FieldType.int), 1, 1, 9, (98, 0), (98, 0), (98, 0), (98, 0))
def zr_308 : zRow := (yX9_days, cX9_days, 7, (some FieldType.int), 1, 1, 9, (98, 0), (98, 0), (98, 0), (98, 0))
def zr_309 : zRow := (yX9_seed, cX9_seed, 3, (some FieldType.int), 1, 1, 9, (98, 0), (98, 0), (98, 0), (98, 0))
def zr_310 : zRow := (yX9_take, cX9_take, 3, none, 0, 2, 9, (98, 0), (98, 0), (98, 0), (98, 0))
def zr_311 : zRow := (yX9_image, cX9_image, 1, (some FieldType.int), 1, 0, 9, (98, 0), (98, 0), (98, 0), (98, 0))
def zr_312 : zRow := (yX9_back, cX9_back, 2, (some FieldType.int), 1, 0, 9, (98, 0), (98, 0), (98, 0), (98, 0))
def zr_313 : zRow := (yX9_differentKeys, cX9_differentKeys, 4, (some FieldType.int), 1, 0, 9, (98, 0), (98, 0), (98, 0), (98, 0))
def zr_314 : zRow := (yX9_status, cX9_status, 4, (some FieldType.int), 1, 1, 9, (98, 0), (98, 0), (98, 0), (98, 0))
def zr_315 : zRow := zNone
def zr_316 : zRow := (yJ9_max_7cf53, cJ9_max_7cf53, 2, (some FieldType.int), 3, 2, 15, (3, 60), (99, 0), (1, 10), (99, 0))
def zr_317 : zRow := (yJ9_min_7cf53, cJ9_min_7cf53, 2, (some FieldType.int), 3, 2, 15, (3, 18), (99, 0), (1, 10), (99, 0))
def zr_318 : zRow := (yL_law, code, maxLocals, ret, 3, 1, 10, (99, 0), (99, 0), (99, 0), (99, 0))
def zr_319 : zRow := (yX0_truthAt, cX0_truthAt, 2, (some FieldType.int), 1, 1, 0, (2, 97), (2, 95), (1, 4), (2, 96))
def zr_320 : zRow := (yX0_keepTruth, cX0_keepTruth, 4, none, 1, 2, 0, (3, 53), (3, 52), (1, 4), (0, 11))
def zr_321 : zRow := (yX0_shiftOf, cX0_shiftOf, 1, (some FieldType.int), 0, 1, 0, (2, 100), (2, 99), (1, 4), (99, 0))
def zr_322 : zRow := (yX6_isInRun, cX6_isInRun, 2, (some FieldType.boolean), 1, 1, 6, (4, 158), (4, 157), (1, 8), (0, 27))
def zr_323 : zRow := (yL_cell, cL_cell, 2, (some FieldType.int), 0, 2, 10, (2, 213), (2, 212), (1, 0), (99, 0))
def zr_324 : zRow := (yL_act, cL_act, 5, none, 0, 3, 10, (2, 210), (2, 209), (1, 0), (99, 0))
def zr_325 : zRow := (yL_refusals, cL_refusals, 3, (some FieldType.int), 0, 1, 10, (4, 32), (4, 31), (1, 0), (99, 0))
def zr_326 : zRow := (yL_isFair, cL_isFair, 11, (some FieldType.boolean), 0, 3, 10, (4, 35), (4, 34), (1, 0), (99, 0))
def zr_327 : zRow := (yL_isKind, cL_isKind, 5, (some FieldType.boolean), 0, 2, 10, (5, 9), (5, 8), (1, 0), (99, 0))
def zT_0 : List zRow := [zr_0, zr_1, zr_2, zr_3, zr_4, zr_5, zr_6, zr_7, zr_8, zr_9, zr_10, zr_11, zr_12, zr_13, zr_14, zr_15, zr_16, zr_17, zr_18, zr_19, zr_20, zr_21, zr_22, zr_23, zr_24, zr_25, zr_26, zr_27, zr_28, zr_29, zr_30, zr_31, zr_32, zr_33, zr_34, zr_35, zr_36, zr_37, zr_38, zr_39]
def zT_1 : List zRow := [zr_40, zr_41, zr_42, zr_43, zr_44, zr_45, zr_46, zr_47, zr_48, zr_49, zr_50, zr_51, zr_52, zr_53, zr_54, zr_55, zr_56, zr_57, zr_58, zr_59, zr_60, zr_61, zr_62, zr_63, zr_64, zr_65, zr_66, zr_67, zr_68, zr_69, zr_70, zr_71, zr_72, zr_73, zr_74, zr_75, zr_76, zr_77, zr_78, zr_79]
def zT_2 : List zRow := [zr_80, zr_81, zr_82, zr_83, zr_84, zr_85, zr_86, zr_87, zr_88, zr_89, zr_90, zr_91, zr_92, zr_93, zr_94, zr_95, zr_96, zr_97, zr_98, zr_99, zr_100, zr_101, zr_102, zr_103, zr_104, zr_105, zr_106, zr_107, zr_108, zr_109, zr_110, zr_111, zr_112, zr_113, zr_114, zr_115, zr_116, zr_117, zr_118, zr_119]
def zT_3 : List zRow := [zr_120, zr_121, zr_122, zr_123, zr_124, zr_125, zr_126, zr_127, zr_128, zr_129, zr_130, zr_131, zr_132, zr_133, zr_134, zr_135, zr_136, zr_137, zr_138, zr_139, zr_140, zr_141, zr_142, zr_143, zr_144, zr_145, zr_146, zr_147, zr_148, zr_149, zr_150, zr_151, zr_152, zr_153, zr_154, zr_155, zr_156, zr_157, zr_158, zr_159]
def zT_4 : List zRow := [zr_160, zr_161, zr_162, zr_163, zr_164, zr_165, zr_166, zr_167, zr_168, zr_169, zr_170, zr_171, zr_172, zr_173, zr_174, zr_175, zr_176, zr_177, zr_178, zr_179, zr_180, zr_181, zr_182, zr_183, zr_184, zr_185, zr_186, zr_187, zr_188, zr_189, zr_190, zr_191, zr_192, zr_193, zr_194, zr_195, zr_196, zr_197, zr_198, zr_199]
def zT_5 : List zRow := [zr_200, zr_201, zr_202, zr_203, zr_204, zr_205, zr_206, zr_207, zr_208, zr_209, zr_210, zr_211, zr_212, zr_213, zr_214, zr_215, zr_216, zr_217, zr_218, zr_219, zr_220, zr_221, zr_222, zr_223, zr_224, zr_225, zr_226, zr_227, zr_228, zr_229, zr_230, zr_231, zr_232, zr_233, zr_234, zr_235, zr_236, zr_237, zr_238, zr_239]
def zT_6 : List zRow := [zr_240, zr_241, zr_242, zr_243, zr_244, zr_245, zr_246, zr_247, zr_248, zr_249, zr_250, zr_251, zr_252, zr_253, zr_254, zr_255, zr_256, zr_257, zr_258, zr_259, zr_260, zr_261, zr_262, zr_263, zr_264, zr_265, zr_266, zr_267, zr_268, zr_269, zr_270, zr_271, zr_272, zr_273, zr_274, zr_275, zr_276, zr_277, zr_278, zr_279]
def zT_7 : List zRow := [zr_280, zr_281, zr_282, zr_283, zr_284, zr_285, zr_286, zr_287, zr_288, zr_289, zr_290, zr_291, zr_292, zr_293, zr_294, zr_295, zr_296, zr_297, zr_298, zr_299, zr_300, zr_301, zr_302, zr_303, zr_304, zr_305, zr_306, zr_307, zr_308, zr_309, zr_310, zr_311, zr_312, zr_313, zr_314, zr_315, zr_316, zr_317, zr_318, zr_319]
def zT_8 : List zRow := [zr_320, zr_321, zr_322, zr_323, zr_324, zr_325, zr_326, zr_327]
def zTn : Nat := 328
def zrow (k : Nat) : zRow := match k / 40 with
  | 0 => (zT_0[k % 40]?).getD zNone
  | 1 => (zT_1[k % 40]?).getD zNone
  | 2 => (zT_2[k % 40]?).getD zNone
  | 3 => (zT_3[k % 40]?).getD zNone
  | 4 => (zT_4[k % 40]?).getD zNone
  | 5 => (zT_5[k % 40]?).getD zNone
  | 6 => (zT_6[k % 40]?).getD zNone
  | 7 => (zT_7[k % 40]?).getD zNone
  | 8 => (zT_8[k % 40]?).getD zNone
  | _ => zNone
def zcn (c : Nat) : String := match c with
  | 0 => RX0
  | 1 => RX1
  | 2 => RX2
  | 3 => RX3
  | 4 => RX4
  | 5 => RX5
  | 6 => RX6
  | 7 => RX7
  | 8 => RX8
  | 9 => RX9
  | 10 => RL
  | 11 => RJ0
  | 12 => RJ1
  | 13 => RJ2
  | 14 => RJ3
  | 15 => RJ9
  | 16 => RJ10
  | _ => "-"
def zpart (i : Nat) : List Cond := match i with
  | 0 => k2_sels lw_privs
  | 1 => tables_1_1
  | 2 => tables_1_2
  | 3 => tables_1_3
  | 4 => tables_1_4
  | 5 => tables_1_5
  | _ => []
def zMl_0 : List (Nat × (Nat × Nat × zPos)) := [(3, (1000, 0, (1, 62))), (43, (181, 1, (3, 230))), (47, (1, 0, (2, 170))), (51, (2, 0, (2, 174))), (61, (1001, 0, (2, 178))), (67, (321, 0, (2, 98))), (71, (9, 0, (3, 23))), (74, (320, 0, (3, 50))), (77, (1002, 0, (3, 58))), (83, (319, 0, (2, 94))), (86, (14, 0, (3, 61))), (89, (10, 0, (3, 27))), (92, (189, 1, (3, 33))), (96, (11, 0, (3, 36))), (100, (12, 0, (3, 39))), (103, (13, 0, (3, 43))), (109, (15, 0, (3, 47)))]
def zMl_1 : List (Nat × (Nat × Nat × zPos)) := [(3, (1000, 0, (1, 55))), (17, (0, 0, (1, 59))), (25, (6, 0, (2, 166))), (29, (181, 1, (2, 82))), (33, (24, 0, (2, 237))), (37, (1, 0, (2, 238))), (41, (1003, 0, (3, 16))), (50, (7, 0, (3, 19))), (60, (8, 0, (3, 54)))]
def zMl_2 : List (Nat × (Nat × Nat × zPos)) := [(3, (1000, 0, (1, 29))), (25, (1001, 0, (2, 151))), (31, (181, 1, (2, 63))), (35, (35, 0, (2, 142))), (39, (36, 0, (2, 138))), (43, (33, 0, (2, 150))), (50, (34, 0, (2, 119))), (54, (39, 0, (2, 113))), (57, (319, 0, (2, 120))), (63, (40, 0, (2, 109))), (67, (44, 0, (2, 129))), (70, (37, 0, (2, 134))), (73, (38, 0, (2, 146)))]
def zMl_3 : List (Nat × (Nat × Nat × zPos)) := [(3, (1000, 0, (1, 233))), (22, (40, 0, (4, 91))), (26, (39, 0, (4, 92))), (30, (46, 0, (4, 93))), (34, (48, 0, (4, 96))), (38, (49, 0, (4, 214)))]
def zMl_4 : List (Nat × (Nat × Nat × zPos)) := [(3, (1000, 0, (1, 165))), (23, (107, 0, (3, 156))), (34, (108, 0, (3, 160))), (38, (109, 0, (3, 200))), (41, (112, 0, (3, 222))), (55, (58, 0, (3, 164))), (59, (57, 0, (3, 193))), (63, (62, 0, (3, 196))), (67, (25, 0, (3, 204))), (73, (67, 0, (3, 205))), (77, (27, 0, (3, 185))), (80, (60, 0, (4, 8))), (84, (59, 0, (4, 12))), (88, (61, 0, (3, 168))), (92, (63, 0, (3, 172))), (95, (64, 0, (3, 176))), (98, (66, 0, (3, 180))), (101, (26, 0, (3, 184))), (105, (65, 0, (3, 189))), (108, (110, 0, (3, 208))), (111, (2, 0, (3, 214))), (117, (111, 0, (3, 215))), (120, (68, 0, (3, 219))), (123, (69, 0, (3, 235))), (129, (70, 0, (3, 238))), (132, (71, 0, (4, 1))), (138, (4, 0, (3, 226))), (141, (5, 0, (3, 231))), (147, (3, 0, (4, 4)))]
def zMl_5 : List (Nat × (Nat × Nat × zPos)) := [(3, (1000, 0, (1, 130))), (22, (181, 1, (4, 200))), (26, (79, 0, (5, 2))), (30, (87, 0, (4, 231))), (40, (77, 0, (2, 51)))]
def zMl_6 : List (Nat × (Nat × Nat × zPos)) := [(3, (1000, 0, (1, 189))), (41, (188, 1, (4, 51))), (45, (319, 0, (4, 56))), (51, (1003, 0, (4, 163))), (56, (94, 0, (4, 132))), (59, (95, 0, (4, 128))), (62, (1002, 0, (4, 136))), (65, (181, 1, (4, 154))), (69, (98, 0, (4, 150))), (72, (322, 0, (4, 155))), (79, (39, 0, (4, 145))), (82, (99, 0, (4, 146))), (88, (103, 0, (4, 189)))]
def zMl_7 : List (Nat × (Nat × Nat × zPos)) := [(3, (1000, 0, (1, 147))), (22, (108, 0, (3, 212))), (26, (181, 1, (3, 213)))]
def zMl_8 : List (Nat × (Nat × Nat × zPos)) := [(1, (1000, 0, (1, 21))), (9, (31, 0, (1, 26))), (21, (21, 0, (1, 52))), (31, (72, 0, (1, 127))), (38, (104, 0, (1, 144))), (45, (51, 0, (1, 162))), (52, (90, 0, (1, 186))), (59, (45, 0, (1, 230))), (76, (73, 0, (4, 197))), (80, (181, 0, (2, 69))), (84, (168, 0, (2, 43))), (88, (78, 0, (4, 201))), (92, (79, 0, (4, 219))), (95, (82, 0, (4, 223))), (99, (85, 0, (4, 227))), (114, (84, 0, (5, 3))), (121, (23, 0, (2, 78))), (135, (24, 0, (2, 86))), (147, (186, 0, (2, 219))), (154, (37, 0, (2, 222))), (157, (33, 0, (2, 59))), (158, (182, 0, (2, 66))), (161, (34, 0, (2, 70))), (164, (35, 0, (3, 97))), (166, (38, 0, (4, 24))), (175, (105, 0, (3, 102))), (178, (106, 0, (4, 16))), (195, (56, 0, (3, 152))), (199, (29, 0, (3, 8))), (202, (169, 0, (3, 0))), (205, (184, 0, (2, 227))), (208, (187, 0, (2, 230))), (211, (25, 0, (2, 233))), (215, (2, 0, (2, 239))), (221, (80, 0, (4, 238))), (227, (26, 0, (3, 85))), (231, (88, 0, (2, 47))), (255, (183, 0, (4, 44))), (258, (39, 0, (2, 195))), (261, (170, 0, (4, 40))), (264, (188, 0, (4, 69))), (267, (319, 0, (4, 70))), (270, (185, 0, (2, 83))), (273, (18, 0, (2, 90))), (276, (41, 0, (2, 105))), (283, (91, 0, (4, 47))), (288, (92, 0, (4, 61))), (291, (93, 0, (4, 159))), (294, (96, 0, (4, 124))), (297, (97, 0, (4, 177))), (300, (100, 0, (4, 137))), (303, (101, 0, (4, 141))), (307, (174, 0, (4, 164))), (310, (102, 0, (4, 185))), (320, (176, 0, (4, 75))), (324, (177, 0, (4, 79))), (327, (179, 0, (2, 191))), (333, (180, 0, (2, 196))), (336, (47, 0, (4, 87))), (341, (49, 0, (4, 100))), (344, (46, 0, (4, 209))), (348, (50, 0, (4, 210))), (351, (20, 0, (4, 108))), (362, (42, 0, (2, 200))), (365, (43, 0, (2, 125))), (371, (32, 0, (2, 158))), (375, (22, 0, (2, 162))), (378, (178, 0, (2, 187))), (381, (89, 0, (2, 204))), (384, (28, 0, (3, 4))), (388, (30, 0, (3, 12))), (398, (175, 0, (4, 168))), (402, (99, 0, (4, 172))), (405, (1002, 0, (4, 78))), (410, (1003, 0, (4, 82)))]
def zMl_9 : List (Nat × (Nat × Nat × zPos)) := [(1, (1000, 0, (98, 0))), (96, (192, 0, (98, 0))), (109, (191, 0, (98, 0))), (113, (198, 0, (98, 0))), (116, (197, 0, (98, 0))), (120, (193, 0, (98, 0))), (126, (204, 0, (98, 0))), (130, (267, 0, (98, 0))), (134, (271, 0, (98, 0))), (137, (195, 0, (98, 0))), (140, (206, 0, (98, 0))), (143, (208, 0, (98, 0))), (146, (207, 0, (98, 0))), (149, (210, 0, (98, 0))), (152, (211, 0, (98, 0))), (155, (213, 0, (98, 0))), (159, (214, 0, (98, 0))), (162, (215, 0, (98, 0))), (165, (217, 0, (98, 0))), (169, (218, 0, (98, 0))), (172, (216, 0, (98, 0))), (177, (220, 0, (98, 0))), (181, (194, 0, (98, 0))), (186, (223, 0, (98, 0))), (200, (228, 0, (98, 0))), (203, (229, 0, (98, 0))), (213, (231, 0, (98, 0))), (216, (232, 0, (98, 0))), (225, (234, 0, (98, 0))), (228, (235, 0, (98, 0))), (231, (236, 0, (98, 0))), (234, (238, 0, (98, 0))), (241, (240, 0, (98, 0))), (244, (239, 0, (98, 0))), (247, (237, 0, (98, 0))), (250, (241, 0, (98, 0))), (253, (242, 0, (98, 0))), (256, (244, 0, (98, 0))), (259, (233, 0, (98, 0))), (262, (246, 0, (98, 0))), (265, (243, 0, (98, 0))), (268, (245, 0, (98, 0))), (271, (248, 0, (98, 0))), (274, (219, 0, (98, 0))), (277, (249, 0, (98, 0))), (280, (251, 0, (98, 0))), (285, (250, 0, (98, 0))), (289, (257, 0, (98, 0))), (296, (264, 0, (98, 0))), (301, (209, 0, (98, 0))), (304, (212, 0, (98, 0))), (307, (269, 0, (98, 0))), (313, (273, 0, (98, 0))), (317, (274, 0, (98, 0))), (320, (276, 0, (98, 0))), (323, (275, 0, (98, 0))), (327, (280, 0, (98, 0))), (330, (282, 0, (98, 0))), (333, (281, 0, (98, 0))), (337, (284, 0, (98, 0))), (340, (283, 0, (98, 0))), (346, (286, 0, (98, 0))), (349, (290, 0, (98, 0))), (353, (292, 0, (98, 0))), (359, (293, 0, (98, 0))), (363, (294, 0, (98, 0))), (366, (299, 0, (98, 0))), (369, (302, 0, (98, 0))), (376, (307, 0, (98, 0))), (395, (310, 0, (98, 0))), (399, (313, 0, (98, 0)))]
def zMl_10 : List (Nat × (Nat × Nat × zPos)) := [(8, (323, 0, (2, 211))), (14, (121, 0, (2, 215))), (20, (129, 0, (2, 223))), (23, (130, 0, (3, 65))), (27, (131, 0, (3, 69))), (31, (132, 0, (3, 73))), (34, (133, 0, (3, 77))), (37, (135, 0, (3, 81))), (40, (136, 0, (3, 89))), (43, (122, 0, (3, 93))), (46, (163, 0, (2, 121))), (49, (125, 0, (3, 98))), (54, (1004, 0, (3, 107))), (62, (128, 0, (3, 148))), (66, (165, 0, (2, 154))), (69, (166, 0, (2, 179))), (72, (123, 0, (4, 20))), (75, (124, 0, (4, 25))), (78, (167, 0, (2, 183))), (81, (142, 0, (2, 74))), (84, (143, 0, (2, 101))), (87, (145, 0, (4, 36))), (90, (146, 0, (4, 57))), (93, (141, 0, (4, 65))), (96, (151, 0, (4, 71))), (100, (153, 0, (4, 83))), (103, (158, 0, (4, 104))), (106, (156, 0, (4, 112))), (109, (157, 0, (4, 116))), (112, (148, 0, (4, 120))), (115, (147, 0, (4, 173))), (118, (149, 0, (4, 181))), (121, (114, 0, (4, 193))), (124, (155, 0, (4, 205))), (127, (115, 0, (4, 215))), (131, (160, 0, (4, 234))), (134, (138, 0, (5, 10))), (137, (113, 0, (1, 18))), (138, (324, 0, (2, 208))), (142, (325, 0, (4, 30))), (146, (139, 0, (2, 55))), (149, (327, 0, (5, 7))), (153, (326, 0, (4, 33))), (157, (137, 0, (2, 39)))]
def zMl (c : Nat) : List (Nat × (Nat × Nat × zPos)) := match c with
  | 0 => zMl_0
  | 1 => zMl_1
  | 2 => zMl_2
  | 3 => zMl_3
  | 4 => zMl_4
  | 5 => zMl_5
  | 6 => zMl_6
  | 7 => zMl_7
  | 8 => zMl_8
  | 9 => zMl_9
  | 10 => zMl_10
  | _ => []
def zFl_0 : List (Nat × (Nat × Nat × zPos)) := [(11, (0, 8, (1, 85))), (15, (0, 10, (1, 87))), (18, (0, 11, (1, 88))), (21, (0, 0, (1, 63))), (25, (0, 1, (1, 67))), (28, (0, 2, (1, 70))), (31, (0, 3, (1, 73))), (34, (0, 4, (1, 76))), (37, (0, 5, (1, 79))), (40, (0, 9, (1, 86))), (55, (0, 6, (1, 81))), (58, (0, 7, (1, 83)))]
def zFl_1 : List (Nat × (Nat × Nat × zPos)) := [(13, (1, 0, (1, 114))), (18, (1, 1, (1, 115))), (22, (1, 2, (1, 117))), (47, (0, 0, (1, 64))), (54, (0, 2, (1, 71))), (57, (0, 3, (1, 74)))]
def zFl_2 : List (Nat × (Nat × Nat × zPos)) := [(11, (2, 0, (1, 30))), (15, (2, 1, (1, 31))), (19, (2, 2, (1, 35))), (22, (2, 3, (1, 38)))]
def zFl_3 : List (Nat × (Nat × Nat × zPos)) := [(11, (3, 0, (1, 234))), (17, (3, 1, (1, 235))), (21, (2, 1, (1, 32)))]
def zFl_4 : List (Nat × (Nat × Nat × zPos)) := [(11, (4, 0, (1, 166))), (17, (4, 2, (1, 167))), (20, (4, 4, (1, 169))), (49, (4, 3, (1, 168))), (52, (4, 5, (1, 170))), (126, (0, 0, (1, 65))), (135, (0, 1, (1, 68))), (144, (0, 4, (1, 77)))]
def zFl_5 : List (Nat × (Nat × Nat × zPos)) := [(11, (5, 0, (1, 131))), (15, (5, 1, (1, 132))), (18, (5, 2, (1, 133)))]
def zFl_6 : List (Nat × (Nat × Nat × zPos)) := [(11, (6, 0, (1, 190))), (15, (6, 1, (1, 191))), (18, (6, 2, (1, 192))), (21, (6, 3, (1, 193))), (24, (6, 4, (1, 194))), (27, (6, 5, (1, 195))), (30, (6, 6, (1, 196))), (34, (6, 7, (1, 197))), (37, (6, 8, (1, 198))), (76, (2, 1, (1, 34))), (85, (2, 2, (1, 37))), (92, (6, 9, (1, 200))), (95, (6, 10, (1, 202)))]
def zFl_7 : List (Nat × (Nat × Nat × zPos)) := [(11, (7, 0, (1, 148))), (15, (7, 1, (1, 149))), (19, (7, 2, (1, 151)))]
def zFl_8 : List (Nat × (Nat × Nat × zPos)) := [(10, (8, 0, (2, 2))), (16, (8, 1, (2, 3))), (22, (8, 2, (2, 4))), (26, (8, 3, (2, 5))), (32, (8, 4, (2, 6))), (39, (8, 5, (2, 7))), (46, (8, 6, (2, 8))), (53, (8, 7, (2, 9))), (60, (8, 8, (2, 10))), (64, (8, 9, (2, 11))), (68, (8, 10, (2, 12))), (72, (8, 11, (2, 13))), (150, (2, 1, (1, 33))), (169, (2, 2, (1, 36))), (172, (7, 1, (1, 150))), (185, (7, 2, (1, 152))), (218, (0, 4, (1, 78))), (230, (1, 1, (1, 116))), (234, (0, 0, (1, 66))), (237, (0, 2, (1, 72))), (240, (0, 3, (1, 75))), (243, (0, 5, (1, 80))), (246, (0, 1, (1, 69))), (249, (0, 6, (1, 82))), (252, (0, 7, (1, 84))), (287, (6, 8, (1, 199))), (314, (6, 9, (1, 201))), (317, (6, 10, (1, 203))), (340, (3, 1, (1, 236))), (368, (2, 3, (1, 39)))]
def zFl_9 : List (Nat × (Nat × Nat × zPos)) := [(7, (9, 0, (98, 0))), (13, (9, 1, (98, 0))), (16, (9, 2, (98, 0))), (21, (9, 3, (98, 0))), (24, (9, 4, (98, 0))), (28, (9, 5, (98, 0))), (31, (9, 6, (98, 0))), (34, (9, 8, (98, 0))), (37, (9, 11, (98, 0))), (41, (9, 12, (98, 0))), (44, (9, 13, (98, 0))), (47, (9, 14, (98, 0))), (50, (9, 15, (98, 0))), (53, (9, 16, (98, 0))), (56, (9, 22, (98, 0))), (59, (9, 23, (98, 0))), (62, (9, 24, (98, 0))), (65, (9, 25, (98, 0))), (68, (9, 26, (98, 0))), (72, (9, 27, (98, 0))), (75, (9, 28, (98, 0))), (78, (9, 29, (98, 0))), (81, (9, 30, (98, 0))), (84, (9, 31, (98, 0))), (87, (9, 33, (98, 0))), (90, (9, 38, (98, 0))), (93, (9, 10, (98, 0))), (100, (9, 9, (98, 0))), (193, (9, 7, (98, 0))), (207, (9, 39, (98, 0))), (210, (9, 37, (98, 0))), (219, (9, 35, (98, 0))), (222, (9, 36, (98, 0))), (310, (9, 32, (98, 0))), (343, (9, 40, (98, 0))), (356, (9, 34, (98, 0))), (379, (9, 17, (98, 0))), (383, (9, 18, (98, 0))), (386, (9, 19, (98, 0))), (389, (9, 20, (98, 0))), (392, (9, 21, (98, 0)))]
def zFl (c : Nat) : List (Nat × (Nat × Nat × zPos)) := match c with
  | 0 => zFl_0
  | 1 => zFl_1
  | 2 => zFl_2
  | 3 => zFl_3
  | 4 => zFl_4
  | 5 => zFl_5
  | 6 => zFl_6
  | 7 => zFl_7
  | 8 => zFl_8
  | 9 => zFl_9
  | _ => []
def zSl_0 : List (Nat × (Nat × Nat × zPos)) := [(106, (2, 1, (3, 31)))]
def zSl_2 : List (Nat × (Nat × Nat × zPos)) := [(47, (1, 1, (2, 117)))]
def zSl_8 : List (Nat × (Nat × Nat × zPos)) := [(413, (2, 0, (4, 54))), (416, (1, 0, (4, 55)))]
def zSl (c : Nat) : List (Nat × (Nat × Nat × zPos)) := match c with
  | 0 => zSl_0
  | 2 => zSl_2
  | 8 => zSl_8
  | _ => []
def zKl_2 : List (Nat × (Nat × Int × zPos)) := [(77, (0, 1103515245, (2, 133)))]
def zKl_9 : List (Nat × (Nat × Int × zPos)) := [(103, (1, 7, (98, 0))), (105, (1, 4, (98, 0))), (107, (1, 40, (98, 0))), (124, (1, 6, (98, 0))), (175, (1, 9, (98, 0))), (184, (1, 2, (98, 0))), (189, (1, 20, (98, 0))), (191, (1, 255, (98, 0))), (196, (1, 49, (98, 0))), (198, (1, 57, (98, 0))), (237, (1, 97, (98, 0))), (239, (1, 99, (98, 0))), (283, (1, 3, (98, 0))), (292, (1, 8, (98, 0))), (294, (1, 5, (98, 0))), (299, (1, 999, (98, 0))), (373, (0, 1103515245, (98, 0))), (374, (1, 60, (98, 0))), (402, (1, 12, (98, 0))), (404, (1, 16, (98, 0)))]
def zKl_10 : List (Nat × (Nat × Int × zPos)) := [(7, (0, 65535, (2, 214))), (52, (2, (-2), (3, 106))), (60, (2, (-3), (3, 147)))]
def zKl (c : Nat) : List (Nat × (Nat × Int × zPos)) := match c with
  | 2 => zKl_2
  | 9 => zKl_9
  | 10 => zKl_10
  | _ => []
def zCl_1 : List (Nat × (Nat × zPos)) := [(11, (0, (1, 56)))]
def zCl_8 : List (Nat × (Nat × zPos)) := [(7, (2, (1, 24))), (19, (1, (1, 50))), (29, (5, (1, 125))), (36, (7, (1, 142))), (43, (4, (1, 160))), (50, (6, (1, 184))), (57, (3, (1, 228)))]
def zCl_10 : List (Nat × (Nat × zPos)) := [(15, (8, (1, 16)))]
def zCl (c : Nat) : List (Nat × (Nat × zPos)) := match c with
  | 1 => zCl_1
  | 8 => zCl_8
  | 10 => zCl_10
  | _ => []
def zCw_0 : List zPos := [(1, 89), (1, 91), (1, 93), (1, 95), (1, 97), (1, 99), (1, 101), (1, 103), (1, 105), (1, 107), (1, 109), (1, 111)]
def zCi_0 : zPos := (1, 58)
def zCw_1 : List zPos := [(1, 118), (1, 120), (1, 122)]
def zCi_1 : zPos := (1, 51)
def zCw_2 : List zPos := [(1, 40), (1, 42), (1, 44), (1, 46)]
def zCi_2 : zPos := (1, 25)
def zCw_3 : List zPos := [(1, 237), (1, 239)]
def zCi_3 : zPos := (1, 229)
def zCw_4 : List zPos := [(1, 171), (1, 173), (1, 175), (1, 177), (1, 179), (1, 181)]
def zCi_4 : zPos := (1, 161)
def zCw_5 : List zPos := [(1, 134), (1, 136), (1, 138)]
def zCi_5 : zPos := (1, 126)
def zCw_6 : List zPos := [(1, 204), (1, 206), (1, 208), (1, 210), (1, 212), (1, 214), (1, 216), (1, 218), (1, 220), (1, 222), (1, 224)]
def zCi_6 : zPos := (1, 185)
def zCw_7 : List zPos := [(1, 153), (1, 155), (1, 157)]
def zCi_7 : zPos := (1, 143)
def zCw_8 : List zPos := [(2, 14), (2, 16), (2, 18), (2, 20), (2, 22), (2, 24), (2, 26), (2, 28), (2, 30), (2, 32), (2, 34), (2, 36)]
def zCi_8 : zPos := (1, 17)
end
section
/-- a row of the reference's, kept as a ghost: the large machine never runs it -/
def zgh (t : zRow) : Bool := Nat.beq t.2.2.2.2.2.2.1 9
def zcode (k : Nat) : ByteArray := (zrow k).2.1
def zpair : List zRow → List zIns → Prop
  | t :: T, i :: I => (zgh t = true ∨ zdok t.2.1 i) ∧ zpair T I
  | _, [] => True
  | [], _ :: _ => False
theorem zpair_use : ∀ {T : List zRow} {I : List zIns}, zpair T I → ∀ (j : Nat) (df : zRow), zgh ((T[j]?).getD df) = false → ∀ q ∈ (I[j]?).getD [], decode ((T[j]?).getD df).2.1 q.1 = .ok q.2
  | t :: T, i :: I, h, 0, df, g, q, hq => (h.1.resolve_left (fun e => by rw [show ((t :: T)[0]?).getD df = t from rfl, e] at g; cases g)) q hq
  | t :: T, i :: I, h, j + 1, df, g, q, hq => by
    rw [List.getElem?_cons_succ] at hq g ⊢
    exact zpair_use h.2 j df g q hq
  | [], [], _, j, df, _, q, hq => by simp at hq
  | _ :: _, [], _, j, df, _, q, hq => by simp at hq
  | [], _ :: _, h, _, _, _, _, _ => h.elim
theorem zchk_0 : zpair zT_0 zI_0 := ⟨Or.inr zdok_0, Or.inr zdok_1, Or.inr zdok_2, Or.inr zdok_3, Or.inr zdok_4, Or.inr zdok_5, Or.inr zdok_6, Or.inr zdok_7, Or.inr zdok_8, Or.inr zdok_9, Or.inr zdok_10, Or.inr zdok_11, Or.inr zdok_12, Or.inr zdok_13, Or.inr zdok_14, Or.inr zdok_15, Or.inr zdok_16, Or.inr zdok_17, Or.inr zdok_18, Or.inr zdok_19, Or.inr zdok_20, Or.inr zdok_21, Or.inr zdok_22, Or.inr zdok_23, Or.inr zdok_24, Or.inr zdok_25, Or.inr zdok_26, Or.inr zdok_27, Or.inr zdok_28, Or.inr zdok_29, Or.inr zdok_30, Or.inr zdok_31, Or.inr zdok_32, Or.inr zdok_33, Or.inr zdok_34, Or.inr zdok_35, Or.inr zdok_36, Or.inr zdok_37, Or.inr zdok_38, Or.inr zdok_39, trivial⟩
theorem zchk_1 : zpair zT_1 zI_1 := ⟨Or.inr zdok_40, Or.inr zdok_41, Or.inr zdok_42, Or.inr zdok_43, Or.inr zdok_44, Or.inr zdok_45, Or.inr zdok_46, Or.inr zdok_47, Or.inr zdok_48, Or.inr zdok_49, Or.inr zdok_50, Or.inr zdok_51, Or.inr zdok_52, Or.inr zdok_53, Or.inr zdok_54, Or.inr zdok_55, Or.inr zdok_56, Or.inr zdok_57, Or.inr zdok_58, Or.inr zdok_59, Or.inr zdok_60, Or.inr zdok_61, Or.inr zdok_62, Or.inr zdok_63, Or.inr zdok_64, Or.inr zdok_65, Or.inr zdok_66, Or.inr zdok_67, Or.inr zdok_68, Or.inr zdok_69, Or.inr zdok_70, Or.inr zdok_71, Or.inr zdok_72, Or.inr zdok_73, Or.inr zdok_74, Or.inr zdok_75, Or.inr zdok_76, Or.inr zdok_77, Or.inr zdok_78, Or.inr zdok_79, trivial⟩
theorem zchk_2 : zpair zT_2 zI_2 := ⟨Or.inr zdok_80, Or.inr zdok_81, Or.inr zdok_82, Or.inr zdok_83, Or.inr zdok_84, Or.inr zdok_85, Or.inr zdok_86, Or.inr zdok_87, Or.inr zdok_88, Or.inr zdok_89, Or.inr zdok_90, Or.inr zdok_91, Or.inr zdok_92, Or.inr zdok_93, Or.inr zdok_94, Or.inr zdok_95, Or.inr zdok_96, Or.inr zdok_97, Or.inr zdok_98, Or.inr zdok_99, Or.inr zdok_100, Or.inr zdok_101, Or.inr zdok_102, Or.inr zdok_103, Or.inr zdok_104, Or.inr zdok_105, Or.inr zdok_106, Or.inr zdok_107, Or.inr zdok_108, Or.inr zdok_109, Or.inr zdok_110, Or.inr zdok_111, Or.inr zdok_112, Or.inr zdok_113, Or.inr zdok_114, Or.inr zdok_115, Or.inr zdok_116, Or.inr zdok_117, Or.inr zdok_118, Or.inr zdok_119, trivial⟩
theorem zchk_3 : zpair zT_3 zI_3 := ⟨Or.inr zdok_120, Or.inr zdok_121, Or.inr zdok_122, Or.inr zdok_123, Or.inr zdok_124, Or.inr zdok_125, Or.inr zdok_126, Or.inr zdok_127, Or.inr zdok_128, Or.inr zdok_129, Or.inr zdok_130, Or.inr zdok_131, Or.inr zdok_132, Or.inr zdok_133, Or.inr zdok_134, Or.inr zdok_135, Or.inr zdok_136, Or.inr zdok_137, Or.inr zdok_138, Or.inr zdok_139, Or.inr zdok_140, Or.inr zdok_141, Or.inr zdok_142, Or.inr zdok_143, Or.inr zdok_144, Or.inr zdok_145, Or.inr zdok_146, Or.inr zdok_147, Or.inr zdok_148, Or.inr zdok_149, Or.inr zdok_150, Or.inr zdok_151, Or.inr zdok_152, Or.inr zdok_153, Or.inr zdok_154, Or.inr zdok_155, Or.inr zdok_156, Or.inr zdok_157, Or.inr zdok_158, Or.inr zdok_159, trivial⟩
theorem zchk_4 : zpair zT_4 zI_4 := ⟨Or.inr zdok_160, Or.inr zdok_161, Or.inr zdok_162, Or.inr zdok_163, Or.inr zdok_164, Or.inr zdok_165, Or.inr zdok_166, Or.inr zdok_167, Or.inr zdok_168, Or.inr zdok_169, Or.inr zdok_170, Or.inr zdok_171, Or.inr zdok_172, Or.inr zdok_173, Or.inr zdok_174, Or.inr zdok_175, Or.inr zdok_176, Or.inr zdok_177, Or.inr zdok_178, Or.inr zdok_179, Or.inr zdok_180, Or.inr zdok_181, Or.inr zdok_182, Or.inr zdok_183, Or.inr zdok_184, Or.inr zdok_185, Or.inr zdok_186, Or.inr zdok_187, Or.inr zdok_188, Or.inr zdok_189, Or.inl rfl, Or.inl rfl, Or.inl rfl, Or.inl rfl, Or.inl rfl, Or.inl rfl, Or.inl rfl, Or.inl rfl, Or.inl rfl, Or.inl rfl, trivial⟩
theorem zchk_5 : zpair zT_5 zI_5 := ⟨Or.inl rfl, Or.inl rfl, Or.inl rfl, Or.inl rfl, Or.inl rfl, Or.inl rfl, Or.inl rfl, Or.inl rfl, Or.inl rfl, Or.inl rfl, Or.inl rfl, Or.inl rfl, Or.inl rfl, Or.inl rfl, Or.inl rfl, Or.inl rfl, Or.inl rfl, Or.inl rfl, Or.inl rfl, Or.inl rfl, Or.inl rfl, Or.inl rfl, Or.inl rfl, Or.inl rfl, Or.inl rfl, Or.inl rfl, Or.inl rfl, Or.inl rfl, Or.inl rfl, Or.inl rfl, Or.inl rfl, Or.inl rfl, Or.inl rfl, Or.inl rfl, Or.inl rfl, Or.inl rfl, Or.inl rfl, Or.inl rfl, Or.inl rfl, Or.inl rfl, trivial⟩
theorem zchk_6 : zpair zT_6 zI_6 := ⟨Or.inl rfl, Or.inl rfl, Or.inl rfl, Or.inl rfl, Or.inl rfl, Or.inl rfl, Or.inl rfl, Or.inl rfl, Or.inl rfl, Or.inl rfl, Or.inl rfl, Or.inl rfl, Or.inl rfl, Or.inl rfl, Or.inl rfl, Or.inl rfl, Or.inl rfl, Or.inl rfl, Or.inl rfl, Or.inl rfl, Or.inl rfl, Or.inl rfl, Or.inl rfl, Or.inl rfl, Or.inl rfl, Or.inl rfl, Or.inl rfl, Or.inl rfl, Or.inl rfl, Or.inl rfl, Or.inl rfl, Or.inl rfl, Or.inl rfl, Or.inl rfl, Or.inl rfl, Or.inl rfl, Or.inl rfl, Or.inl rfl, Or.inl rfl, Or.inl rfl, trivial⟩
theorem zchk_7 : zpair zT_7 zI_7 := ⟨Or.inl rfl, Or.inl rfl, Or.inl rfl, Or.inl rfl, Or.inl rfl, Or.inl rfl, Or.inl rfl, Or.inl rfl, Or.inl rfl, Or.inl rfl, Or.inl rfl, Or.inl rfl, Or.inl rfl, Or.inl rfl, Or.inl rfl, Or.inl rfl, Or.inl rfl, Or.inl rfl, Or.inl rfl, Or.inl rfl, Or.inl rfl, Or.inl rfl, Or.inl rfl, Or.inl rfl, Or.inl rfl, Or.inl rfl, Or.inl rfl, Or.inl rfl, Or.inl rfl, Or.inl rfl, Or.inl rfl, Or.inl rfl, Or.inl rfl, Or.inl rfl, Or.inl rfl, Or.inr zdok_315, Or.inr zdok_316, Or.inr zdok_317, Or.inr zdok_318, Or.inr zdok_319, trivial⟩
theorem zchk_8 : zpair zT_8 zI_8 := ⟨Or.inr zdok_320, Or.inr zdok_321, Or.inr zdok_322, Or.inr zdok_323, Or.inr zdok_324, Or.inr zdok_325, Or.inr zdok_326, Or.inr zdok_327, trivial⟩
theorem zrow_0 {k : Nat} (h : k / 40 = 0) : zrow k = (zT_0[k % 40]?).getD zNone := by
  unfold zrow
  simp only [h]
theorem zinsT_0 {k : Nat} (h : k / 40 = 0) : zinsT k = (zI_0[k % 40]?).getD [] := by
  unfold zinsT
  simp only [h]
theorem zrow_1 {k : Nat} (h : k / 40 = 1) : zrow k = (zT_1[k % 40]?).getD zNone := by
  unfold zrow
  simp only [h]
theorem zinsT_1 {k : Nat} (h : k / 40 = 1) : zinsT k = (zI_1[k % 40]?).getD [] := by
  unfold zinsT
  simp only [h]
theorem zrow_2 {k : Nat} (h : k / 40 = 2) : zrow k = (zT_2[k % 40]?).getD zNone := by
  unfold zrow
  simp only [h]
theorem zinsT_2 {k : Nat} (h : k / 40 = 2) : zinsT k = (zI_2[k % 40]?).getD [] := by
  unfold zinsT
  simp only [h]
theorem zrow_3 {k : Nat} (h : k / 40 = 3) : zrow k = (zT_3[k % 40]?).getD zNone := by
  unfold zrow
  simp only [h]
theorem zinsT_3 {k : Nat} (h : k / 40 = 3) : zinsT k = (zI_3[k % 40]?).getD [] := by
  unfold zinsT
  simp only [h]
theorem zrow_4 {k : Nat} (h : k / 40 = 4) : zrow k = (zT_4[k % 40]?).getD zNone := by
  unfold zrow
  simp only [h]
theorem zinsT_4 {k : Nat} (h : k / 40 = 4) : zinsT k = (zI_4[k % 40]?).getD [] := by
  unfold zinsT
  simp only [h]
theorem zrow_5 {k : Nat} (h : k / 40 = 5) : zrow k = (zT_5[k % 40]?).getD zNone := by
  unfold zrow
  simp only [h]
theorem zinsT_5 {k : Nat} (h : k / 40 = 5) : zinsT k = (zI_5[k % 40]?).getD [] := by
  unfold zinsT
  simp only [h]
theorem zrow_6 {k : Nat} (h : k / 40 = 6) : zrow k = (zT_6[k % 40]?).getD zNone := by
  unfold zrow
  simp only [h]
theorem zinsT_6 {k : Nat} (h : k / 40 = 6) : zinsT k = (zI_6[k % 40]?).getD [] := by
  unfold zinsT
  simp only [h]
theorem zrow_7 {k : Nat} (h : k / 40 = 7) : zrow k = (zT_7[k % 40]?).getD zNone := by
  unfold zrow
  simp only [h]
theorem zinsT_7 {k : Nat} (h : k / 40 = 7) : zinsT k = (zI_7[k % 40]?).getD [] := by
  unfold zinsT
  simp only [h]
theorem zrow_8 {k : Nat} (h : k / 40 = 8) : zrow k = (zT_8[k % 40]?).getD zNone := by
  unfold zrow
  simp only [h]
theorem zinsT_8 {k : Nat} (h : k / 40 = 8) : zinsT k = (zI_8[k % 40]?).getD [] := by
  unfold zinsT
  simp only [h]
theorem zrow_out {k : Nat} (h : 9 ≤ k / 40) : zrow k = zNone := by
  unfold zrow
  split
  · omega
  · omega
  · omega
  · omega
  · omega
  · omega
  · omega
  · omega
  · omega
  · rfl
theorem zinsT_out {k : Nat} (h : 9 ≤ k / 40) : zinsT k = [] := by
  unfold zinsT
  split
  · omega
  · omega
  · omega
  · omega
  · omega
  · omega
  · omega
  · omega
  · omega
  · rfl
theorem zins_ok {k pc : Nat} {q : Instr × Nat} (hg : zgh (zrow k) = false) (h : zins k pc = some q) : decode (zcode k) pc = .ok q := by
  have h1 : (pc, q) ∈ zinsT k := zlk_mem _ _ _ h
  have hc : zcode k = (zrow k).2.1 := rfl
  by_cases e0 : k / 40 = 0
  · rw [zinsT_0 e0] at h1
    rw [zrow_0 e0] at hg
    rw [hc, zrow_0 e0]
    have h2 := zpair_use (T := zT_0) (I := zI_0) zchk_0 (k % 40) zNone hg (pc, q) h1
    exact h2
  by_cases e1 : k / 40 = 1
  · rw [zinsT_1 e1] at h1
    rw [zrow_1 e1] at hg
    rw [hc, zrow_1 e1]
    have h2 := zpair_use (T := zT_1) (I := zI_1) zchk_1 (k % 40) zNone hg (pc, q) h1
    exact h2
  by_cases e2 : k / 40 = 2
  · rw [zinsT_2 e2] at h1
    rw [zrow_2 e2] at hg
    rw [hc, zrow_2 e2]
    have h2 := zpair_use (T := zT_2) (I := zI_2) zchk_2 (k % 40) zNone hg (pc, q) h1
    exact h2
  by_cases e3 : k / 40 = 3
  · rw [zinsT_3 e3] at h1
    rw [zrow_3 e3] at hg
    rw [hc, zrow_3 e3]
    have h2 := zpair_use (T := zT_3) (I := zI_3) zchk_3 (k % 40) zNone hg (pc, q) h1
    exact h2
  by_cases e4 : k / 40 = 4
  · rw [zinsT_4 e4] at h1
    rw [zrow_4 e4] at hg
    rw [hc, zrow_4 e4]
    have h2 := zpair_use (T := zT_4) (I := zI_4) zchk_4 (k % 40) zNone hg (pc, q) h1
    exact h2
  by_cases e5 : k / 40 = 5
  · rw [zinsT_5 e5] at h1
    rw [zrow_5 e5] at hg
    rw [hc, zrow_5 e5]
    have h2 := zpair_use (T := zT_5) (I := zI_5) zchk_5 (k % 40) zNone hg (pc, q) h1
    exact h2
  by_cases e6 : k / 40 = 6
  · rw [zinsT_6 e6] at h1
    rw [zrow_6 e6] at hg
    rw [hc, zrow_6 e6]
    have h2 := zpair_use (T := zT_6) (I := zI_6) zchk_6 (k % 40) zNone hg (pc, q) h1
    exact h2
  by_cases e7 : k / 40 = 7
  · rw [zinsT_7 e7] at h1
    rw [zrow_7 e7] at hg
    rw [hc, zrow_7 e7]
    have h2 := zpair_use (T := zT_7) (I := zI_7) zchk_7 (k % 40) zNone hg (pc, q) h1
    exact h2
  by_cases e8 : k / 40 = 8
  · rw [zinsT_8 e8] at h1
    rw [zrow_8 e8] at hg
    rw [hc, zrow_8 e8]
    have h2 := zpair_use (T := zT_8) (I := zI_8) zchk_8 (k % 40) zNone hg (pc, q) h1
    exact h2
  rw [zinsT_out (by omega)] at h1
  cases h1
def zhas (q : zPos) (w : Cond) : Bool := decide ((zpart q.1)[q.2]? = some w) && goodWord w
theorem zpart_in {i : Nat} {w : Cond} (h : w ∈ zpart i) : w ∈ lw_tbl := by
  unfold zpart at h
  unfold lw_tbl tables_1
  simp only [List.mem_append]
  split at h
  · simp only [h, true_or, or_true]
  · simp only [h, true_or, or_true]
  · simp only [h, true_or, or_true]
  · simp only [h, true_or, or_true]
  · simp only [h, true_or, or_true]
  · simp only [h, true_or, or_true]
  · cases h
def zTs : List Cond := lw_tbl.filter goodWord
theorem zhas_in {q : zPos} {w : Cond} (h : zhas q w = true) : w ∈ zTs := by
  unfold zhas at h
  rw [Bool.and_eq_true] at h
  exact List.mem_filter.mpr ⟨zpart_in (List.mem_of_getElem? (of_decide_eq_true h.1)), h.2⟩
theorem zTs_good : ∀ w ∈ zTs, (w.onTables && w.keeps) = true ∨ ∃ ty, w = .arrayClass ty := fun _ h => good_of_word (List.mem_filter.mp h).2
def zmOk (t : zRow) : Bool := Nat.ble 3 t.2.2.2.2.1 || ((bif Nat.beq t.2.2.2.2.1 0 then zhas t.2.2.2.2.2.2.2.2.1 (.static t.1) else zhas t.2.2.2.2.2.2.2.2.1 (.instanceMethod t.1)) && zhas t.2.2.2.2.2.2.2.2.2.1 (.initialized t.1.cls) && (!(Nat.beq t.2.2.2.2.1 1) || zhas t.2.2.2.2.2.2.2.2.2.2 (.selects t.1.cls t.1 t.1)) && (!(Nat.beq t.2.2.2.2.1 2) || decide (t.1.name = "<init>")) && decide (t.1.cls ≠ "java/lang/invoke/MethodHandle" ∧ t.1.cls ≠ "java/lang/invoke/VarHandle" ∧ (parseMethodDescriptor t.1.desc).map (fun d => d.parameters.length) = some t.2.2.2.2.2.1) && plainName t.1.cls && Nat.ble t.2.2.1 27 && decide (t.1.cls = zcn t.2.2.2.2.2.2.1) && Nat.ble t.2.2.2.2.2.2.1 12 && (!(Nat.beq t.2.2.2.2.1 2) || decide (t.2.2.2.1 = none)))
def zmBoth (t : zRow) : Prop := zgh t = true ∨ zmOk t = true ∧ (3 ≤ t.2.2.2.2.1 ∨ (zpart t.2.2.2.2.2.2.2.1.1)[t.2.2.2.2.2.2.2.1.2]? = some (.code t.1 t.2.1 t.2.2.1 t.2.2.2.1))
def zmAll : List zRow → Prop
  | [] => True
  | t :: T => zmBoth t ∧ zmAll T
theorem zmAll_use : ∀ {T : List zRow}, zmAll T → ∀ j : Nat, zmBoth ((T[j]?).getD zNone)
  | [], _, j => by
    rw [List.getElem?_nil]
    exact Or.inr ⟨rfl, Or.inl (by decide)⟩
  | t :: T, h, 0 => h.1
  | t :: T, h, j + 1 => by
    rw [List.getElem?_cons_succ]
    exact zmAll_use h.2 j
theorem zmr_0 : zmBoth zr_0 := Or.inr ⟨by decide +kernel, Or.inr rfl⟩
theorem zmr_1 : zmBoth zr_1 := Or.inr ⟨by decide +kernel, Or.inr rfl⟩
theorem zmr_2 : zmBoth zr_2 := Or.inr ⟨by decide +kernel, Or.inr rfl⟩
theorem zmr_3 : zmBoth zr_3 := Or.inr ⟨by decide +kernel, Or.inr rfl⟩
theorem zmr_4 : zmBoth zr_4 := Or.inr ⟨by decide +kernel, Or.inr rfl⟩
theorem zmr_5 : zmBoth zr_5 := Or.inr ⟨by decide +kernel, Or.inr rfl⟩
theorem zmr_6 : zmBoth zr_6 := Or.inr ⟨by decide +kernel, Or.inr rfl⟩
theorem zmr_7 : zmBoth zr_7 := Or.inr ⟨by decide +kernel, Or.inr rfl⟩
theorem zmr_8 : zmBoth zr_8 := Or.inr ⟨by decide +kernel, Or.inr rfl⟩
theorem zmr_9 : zmBoth zr_9 := Or.inr ⟨by decide +kernel, Or.inr rfl⟩
theorem zmr_10 : zmBoth zr_10 := Or.inr ⟨by decide +kernel, Or.inr rfl⟩
theorem zmr_11 : zmBoth zr_11 := Or.inr ⟨by decide +kernel, Or.inr rfl⟩
theorem zmr_12 : zmBoth zr_12 := Or.inr ⟨by decide +kernel, Or.inr rfl⟩
theorem zmr_13 : zmBoth zr_13 := Or.inr ⟨by decide +kernel, Or.inr rfl⟩
theorem zmr_14 : zmBoth zr_14 := Or.inr ⟨by decide +kernel, Or.inr rfl⟩
theorem zmr_15 : zmBoth zr_15 := Or.inr ⟨by decide +kernel, Or.inr rfl⟩
theorem zmr_16 : zmBoth zr_16 := Or.inr ⟨by decide +kernel, Or.inl (by decide)⟩
theorem zmr_17 : zmBoth zr_17 := Or.inr ⟨by decide +kernel, Or.inl (by decide)⟩
theorem zmr_18 : zmBoth zr_18 := Or.inr ⟨by decide +kernel, Or.inr rfl⟩
theorem zmr_19 : zmBoth zr_19 := Or.inr ⟨by decide +kernel, Or.inl (by decide)⟩
theorem zmr_20 : zmBoth zr_20 := Or.inr ⟨by decide +kernel, Or.inr rfl⟩
theorem zmr_21 : zmBoth zr_21 := Or.inr ⟨by decide +kernel, Or.inr rfl⟩
theorem zmr_22 : zmBoth zr_22 := Or.inr ⟨by decide +kernel, Or.inr rfl⟩
theorem zmr_23 : zmBoth zr_23 := Or.inr ⟨by decide +kernel, Or.inr rfl⟩
theorem zmr_24 : zmBoth zr_24 := Or.inr ⟨by decide +kernel, Or.inr rfl⟩
theorem zmr_25 : zmBoth zr_25 := Or.inr ⟨by decide +kernel, Or.inr rfl⟩
theorem zmr_26 : zmBoth zr_26 := Or.inr ⟨by decide +kernel, Or.inr rfl⟩
theorem zmr_27 : zmBoth zr_27 := Or.inr ⟨by decide +kernel, Or.inr rfl⟩
theorem zmr_28 : zmBoth zr_28 := Or.inr ⟨by decide +kernel, Or.inr rfl⟩
theorem zmr_29 : zmBoth zr_29 := Or.inr ⟨by decide +kernel, Or.inr rfl⟩
theorem zmr_30 : zmBoth zr_30 := Or.inr ⟨by decide +kernel, Or.inr rfl⟩
theorem zmr_31 : zmBoth zr_31 := Or.inr ⟨by decide +kernel, Or.inr rfl⟩
theorem zmr_32 : zmBoth zr_32 := Or.inr ⟨by decide +kernel, Or.inr rfl⟩
theorem zmr_33 : zmBoth zr_33 := Or.inr ⟨by decide +kernel, Or.inr rfl⟩
theorem zmr_34 : zmBoth zr_34 := Or.inr ⟨by decide +kernel, Or.inr rfl⟩
theorem zmr_35 : zmBoth zr_35 := Or.inr ⟨by decide +kernel, Or.inr rfl⟩
theorem zmr_36 : zmBoth zr_36 := Or.inr ⟨by decide +kernel, Or.inr rfl⟩
theorem zmr_37 : zmBoth zr_37 := Or.inr ⟨by decide +kernel, Or.inr rfl⟩
theorem zmr_38 : zmBoth zr_38 := Or.inr ⟨by decide +kernel, Or.inr rfl⟩
theorem zmr_39 : zmBoth zr_39 := Or.inr ⟨by decide +kernel, Or.inr rfl⟩
theorem zmr_40 : zmBoth zr_40 := Or.inr ⟨by decide +kernel, Or.inr rfl⟩
theorem zmr_41 : zmBoth zr_41 := Or.inr ⟨by decide +kernel, Or.inr rfl⟩
theorem zmr_42 : zmBoth zr_42 := Or.inr ⟨by decide +kernel, Or.inr rfl⟩
theorem zmr_43 : zmBoth zr_43 := Or.inr ⟨by decide +kernel, Or.inr rfl⟩
theorem zmr_44 : zmBoth zr_44 := Or.inr ⟨by decide +kernel, Or.inr rfl⟩
theorem zmr_45 : zmBoth zr_45 := Or.inr ⟨by decide +kernel, Or.inr rfl⟩
theorem zmr_46 : zmBoth zr_46 := Or.inr ⟨by decide +kernel, Or.inr rfl⟩
theorem zmr_47 : zmBoth zr_47 := Or.inr ⟨by decide +kernel, Or.inr rfl⟩
theorem zmr_48 : zmBoth zr_48 := Or.inr ⟨by decide +kernel, Or.inr rfl⟩
theorem zmr_49 : zmBoth zr_49 := Or.inr ⟨by decide +kernel, Or.inr rfl⟩
theorem zmr_50 : zmBoth zr_50 := Or.inr ⟨by decide +kernel, Or.inr rfl⟩
theorem zmr_51 : zmBoth zr_51 := Or.inr ⟨by decide +kernel, Or.inr rfl⟩
theorem zmr_52 : zmBoth zr_52 := Or.inr ⟨by decide +kernel, Or.inl (by decide)⟩
theorem zmr_53 : zmBoth zr_53 := Or.inr ⟨by decide +kernel, Or.inl (by decide)⟩
theorem zmr_54 : zmBoth zr_54 := Or.inr ⟨by decide +kernel, Or.inl (by decide)⟩
theorem zmr_55 : zmBoth zr_55 := Or.inr ⟨by decide +kernel, Or.inl (by decide)⟩
theorem zmr_56 : zmBoth zr_56 := Or.inr ⟨by decide +kernel, Or.inr rfl⟩
theorem zmr_57 : zmBoth zr_57 := Or.inr ⟨by decide +kernel, Or.inr rfl⟩
theorem zmr_58 : zmBoth zr_58 := Or.inr ⟨by decide +kernel, Or.inr rfl⟩
theorem zmr_59 : zmBoth zr_59 := Or.inr ⟨by decide +kernel, Or.inr rfl⟩
theorem zmr_60 : zmBoth zr_60 := Or.inr ⟨by decide +kernel, Or.inr rfl⟩
theorem zmr_61 : zmBoth zr_61 := Or.inr ⟨by decide +kernel, Or.inr rfl⟩
theorem zmr_62 : zmBoth zr_62 := Or.inr ⟨by decide +kernel, Or.inr rfl⟩
theorem zmr_63 : zmBoth zr_63 := Or.inr ⟨by decide +kernel, Or.inr rfl⟩
theorem zmr_64 : zmBoth zr_64 := Or.inr ⟨by decide +kernel, Or.inr rfl⟩
theorem zmr_65 : zmBoth zr_65 := Or.inr ⟨by decide +kernel, Or.inr rfl⟩
theorem zmr_66 : zmBoth zr_66 := Or.inr ⟨by decide +kernel, Or.inr rfl⟩
theorem zmr_67 : zmBoth zr_67 := Or.inr ⟨by decide +kernel, Or.inr rfl⟩
theorem zmr_68 : zmBoth zr_68 := Or.inr ⟨by decide +kernel, Or.inr rfl⟩
theorem zmr_69 : zmBoth zr_69 := Or.inr ⟨by decide +kernel, Or.inr rfl⟩
theorem zmr_70 : zmBoth zr_70 := Or.inr ⟨by decide +kernel, Or.inr rfl⟩
theorem zmr_71 : zmBoth zr_71 := Or.inr ⟨by decide +kernel, Or.inr rfl⟩
theorem zmr_72 : zmBoth zr_72 := Or.inr ⟨by decide +kernel, Or.inr rfl⟩
theorem zmr_73 : zmBoth zr_73 := Or.inr ⟨by decide +kernel, Or.inr rfl⟩
theorem zmr_74 : zmBoth zr_74 := Or.inr ⟨by decide +kernel, Or.inl (by decide)⟩
theorem zmr_75 : zmBoth zr_75 := Or.inr ⟨by decide +kernel, Or.inl (by decide)⟩
theorem zmr_76 : zmBoth zr_76 := Or.inr ⟨by decide +kernel, Or.inl (by decide)⟩
theorem zmr_77 : zmBoth zr_77 := Or.inr ⟨by decide +kernel, Or.inr rfl⟩
theorem zmr_78 : zmBoth zr_78 := Or.inr ⟨by decide +kernel, Or.inr rfl⟩
theorem zmr_79 : zmBoth zr_79 := Or.inr ⟨by decide +kernel, Or.inr rfl⟩
theorem zmr_80 : zmBoth zr_80 := Or.inr ⟨by decide +kernel, Or.inr rfl⟩
theorem zmr_81 : zmBoth zr_81 := Or.inr ⟨by decide +kernel, Or.inl (by decide)⟩
theorem zmr_82 : zmBoth zr_82 := Or.inr ⟨by decide +kernel, Or.inr rfl⟩
theorem zmr_83 : zmBoth zr_83 := Or.inr ⟨by decide +kernel, Or.inl (by decide)⟩
theorem zmr_84 : zmBoth zr_84 := Or.inr ⟨by decide +kernel, Or.inr rfl⟩
theorem zmr_85 : zmBoth zr_85 := Or.inr ⟨by decide +kernel, Or.inr rfl⟩
theorem zmr_86 : zmBoth zr_86 := Or.inr ⟨by decide +kernel, Or.inl (by decide)⟩
theorem zmr_87 : zmBoth zr_87 := Or.inr ⟨by decide +kernel, Or.inr rfl⟩
theorem zmr_88 : zmBoth zr_88 := Or.inr ⟨by decide +kernel, Or.inr rfl⟩
theorem zmr_89 : zmBoth zr_89 := Or.inr ⟨by decide +kernel, Or.inr rfl⟩
theorem zmr_90 : zmBoth zr_90 := Or.inr ⟨by decide +kernel, Or.inr rfl⟩
theorem zmr_91 : zmBoth zr_91 := Or.inr ⟨by decide +kernel, Or.inr rfl⟩
theorem zmr_92 : zmBoth zr_92 := Or.inr ⟨by decide +kernel, Or.inr rfl⟩
theorem zmr_93 : zmBoth zr_93 := Or.inr ⟨by decide +kernel, Or.inr rfl⟩
theorem zmr_94 : zmBoth zr_94 := Or.inr ⟨by decide +kernel, Or.inr rfl⟩
theorem zmr_95 : zmBoth zr_95 := Or.inr ⟨by decide +kernel, Or.inr rfl⟩
theorem zmr_96 : zmBoth zr_96 := Or.inr ⟨by decide +kernel, Or.inr rfl⟩
theorem zmr_97 : zmBoth zr_97 := Or.inr ⟨by decide +kernel, Or.inr rfl⟩
theorem zmr_98 : zmBoth zr_98 := Or.inr ⟨by decide +kernel, Or.inr rfl⟩
theorem zmr_99 : zmBoth zr_99 := Or.inr ⟨by decide +kernel, Or.inr rfl⟩
theorem zmr_100 : zmBoth zr_100 := Or.inr ⟨by decide +kernel, Or.inr rfl⟩
theorem zmr_101 : zmBoth zr_101 := Or.inr ⟨by decide +kernel, Or.inr rfl⟩
theorem zmr_102 : zmBoth zr_102 := Or.inr ⟨by decide +kernel, Or.inr rfl⟩
theorem zmr_103 : zmBoth zr_103 := Or.inr ⟨by decide +kernel, Or.inr rfl⟩
theorem zmr_104 : zmBoth zr_104 := Or.inr ⟨by decide +kernel, Or.inr rfl⟩
theorem zmr_105 : zmBoth zr_105 := Or.inr ⟨by decide +kernel, Or.inr rfl⟩
theorem zmr_106 : zmBoth zr_106 := Or.inr ⟨by decide +kernel, Or.inr rfl⟩
theorem zmr_107 : zmBoth zr_107 := Or.inr ⟨by decide +kernel, Or.inr rfl⟩
theorem zmr_108 : zmBoth zr_108 := Or.inr ⟨by decide +kernel, Or.inr rfl⟩
theorem zmr_109 : zmBoth zr_109 := Or.inr ⟨by decide +kernel, Or.inr rfl⟩
theorem zmr_110 : zmBoth zr_110 := Or.inr ⟨by decide +kernel, Or.inr rfl⟩
theorem zmr_111 : zmBoth zr_111 := Or.inr ⟨by decide +kernel, Or.inr rfl⟩
theorem zmr_112 : zmBoth zr_112 := Or.inr ⟨by decide +kernel, Or.inr rfl⟩
theorem zmr_113 : zmBoth zr_113 := Or.inr ⟨by decide +kernel, Or.inr rfl⟩
theorem zmr_114 : zmBoth zr_114 := Or.inr ⟨by decide +kernel, Or.inr rfl⟩
theorem zmr_115 : zmBoth zr_115 := Or.inr ⟨by decide +kernel, Or.inr rfl⟩
theorem zmr_116 : zmBoth zr_116 := Or.inr ⟨by decide +kernel, Or.inl (by decide)⟩
theorem zmr_117 : zmBoth zr_117 := Or.inr ⟨by decide +kernel, Or.inl (by decide)⟩
theorem zmr_118 : zmBoth zr_118 := Or.inr ⟨by decide +kernel, Or.inl (by decide)⟩
theorem zmr_119 : zmBoth zr_119 := Or.inr ⟨by decide +kernel, Or.inl (by decide)⟩
theorem zmr_120 : zmBoth zr_120 := Or.inr ⟨by decide +kernel, Or.inl (by decide)⟩
theorem zmr_121 : zmBoth zr_121 := Or.inr ⟨by decide +kernel, Or.inr rfl⟩
theorem zmr_122 : zmBoth zr_122 := Or.inr ⟨by decide +kernel, Or.inr rfl⟩
theorem zmr_123 : zmBoth zr_123 := Or.inr ⟨by decide +kernel, Or.inr rfl⟩
theorem zmr_124 : zmBoth zr_124 := Or.inr ⟨by decide +kernel, Or.inr rfl⟩
theorem zmr_125 : zmBoth zr_125 := Or.inr ⟨by decide +kernel, Or.inr rfl⟩
theorem zmr_126 : zmBoth zr_126 := Or.inr ⟨by decide +kernel, Or.inl (by decide)⟩
theorem zmr_127 : zmBoth zr_127 := Or.inr ⟨by decide +kernel, Or.inl (by decide)⟩
theorem zmr_128 : zmBoth zr_128 := Or.inr ⟨by decide +kernel, Or.inr rfl⟩
theorem zmr_129 : zmBoth zr_129 := Or.inr ⟨by decide +kernel, Or.inr rfl⟩
theorem zmr_130 : zmBoth zr_130 := Or.inr ⟨by decide +kernel, Or.inr rfl⟩
theorem zmr_131 : zmBoth zr_131 := Or.inr ⟨by decide +kernel, Or.inr rfl⟩
theorem zmr_132 : zmBoth zr_132 := Or.inr ⟨by decide +kernel, Or.inr rfl⟩
theorem zmr_133 : zmBoth zr_133 := Or.inr ⟨by decide +kernel, Or.inr rfl⟩
theorem zmr_134 : zmBoth zr_134 := Or.inr ⟨by decide +kernel, Or.inl (by decide)⟩
theorem zmr_135 : zmBoth zr_135 := Or.inr ⟨by decide +kernel, Or.inr rfl⟩
theorem zmr_136 : zmBoth zr_136 := Or.inr ⟨by decide +kernel, Or.inr rfl⟩
theorem zmr_137 : zmBoth zr_137 := Or.inr ⟨by decide +kernel, Or.inr rfl⟩
theorem zmr_138 : zmBoth zr_138 := Or.inr ⟨by decide +kernel, Or.inr rfl⟩
theorem zmr_139 : zmBoth zr_139 := Or.inr ⟨by decide +kernel, Or.inr rfl⟩
theorem zmr_140 : zmBoth zr_140 := Or.inr ⟨by decide +kernel, Or.inl (by decide)⟩
theorem zmr_141 : zmBoth zr_141 := Or.inr ⟨by decide +kernel, Or.inr rfl⟩
theorem zmr_142 : zmBoth zr_142 := Or.inr ⟨by decide +kernel, Or.inr rfl⟩
theorem zmr_143 : zmBoth zr_143 := Or.inr ⟨by decide +kernel, Or.inr rfl⟩
theorem zmr_144 : zmBoth zr_144 := Or.inr ⟨by decide +kernel, Or.inl (by decide)⟩
theorem zmr_145 : zmBoth zr_145 := Or.inr ⟨by decide +kernel, Or.inr rfl⟩
theorem zmr_146 : zmBoth zr_146 := Or.inr ⟨by decide +kernel, Or.inr rfl⟩
theorem zmr_147 : zmBoth zr_147 := Or.inr ⟨by decide +kernel, Or.inr rfl⟩
theorem zmr_148 : zmBoth zr_148 := Or.inr ⟨by decide +kernel, Or.inr rfl⟩
theorem zmr_149 : zmBoth zr_149 := Or.inr ⟨by decide +kernel, Or.inr rfl⟩
theorem zmr_150 : zmBoth zr_150 := Or.inr ⟨by decide +kernel, Or.inl (by decide)⟩
theorem zmr_151 : zmBoth zr_151 := Or.inr ⟨by decide +kernel, Or.inr rfl⟩
theorem zmr_152 : zmBoth zr_152 := Or.inr ⟨by decide +kernel, Or.inl (by decide)⟩
theorem zmr_153 : zmBoth zr_153 := Or.inr ⟨by decide +kernel, Or.inr rfl⟩
theorem zmr_154 : zmBoth zr_154 := Or.inr ⟨by decide +kernel, Or.inl (by decide)⟩
theorem zmr_155 : zmBoth zr_155 := Or.inr ⟨by decide +kernel, Or.inr rfl⟩
theorem zmr_156 : zmBoth zr_156 := Or.inr ⟨by decide +kernel, Or.inr rfl⟩
theorem zmr_157 : zmBoth zr_157 := Or.inr ⟨by decide +kernel, Or.inr rfl⟩
theorem zmr_158 : zmBoth zr_158 := Or.inr ⟨by decide +kernel, Or.inr rfl⟩
theorem zmr_159 : zmBoth zr_159 := Or.inr ⟨by decide +kernel, Or.inl (by decide)⟩
theorem zmr_160 : zmBoth zr_160 := Or.inr ⟨by decide +kernel, Or.inr rfl⟩
theorem zmr_161 : zmBoth zr_161 := Or.inr ⟨by decide +kernel, Or.inl (by decide)⟩
theorem zmr_162 : zmBoth zr_162 := Or.inr ⟨by decide +kernel, Or.inl (by decide)⟩
theorem zmr_163 : zmBoth zr_163 := Or.inr ⟨by decide +kernel, Or.inr rfl⟩
theorem zmr_164 : zmBoth zr_164 := Or.inr ⟨by decide +kernel, Or.inl (by decide)⟩
theorem zmr_165 : zmBoth zr_165 := Or.inr ⟨by decide +kernel, Or.inr rfl⟩
theorem zmr_166 : zmBoth zr_166 := Or.inr ⟨by decide +kernel, Or.inr rfl⟩
theorem zmr_167 : zmBoth zr_167 := Or.inr ⟨by decide +kernel, Or.inr rfl⟩
theorem zmr_168 : zmBoth zr_168 := Or.inr ⟨by decide +kernel, Or.inr rfl⟩
theorem zmr_169 : zmBoth zr_169 := Or.inr ⟨by decide +kernel, Or.inr rfl⟩
theorem zmr_170 : zmBoth zr_170 := Or.inr ⟨by decide +kernel, Or.inr rfl⟩
theorem zmr_171 : zmBoth zr_171 := Or.inr ⟨by decide +kernel, Or.inl (by decide)⟩
theorem zmr_172 : zmBoth zr_172 := Or.inr ⟨by decide +kernel, Or.inl (by decide)⟩
theorem zmr_173 : zmBoth zr_173 := Or.inr ⟨by decide +kernel, Or.inl (by decide)⟩
theorem zmr_174 : zmBoth zr_174 := Or.inr ⟨by decide +kernel, Or.inr rfl⟩
theorem zmr_175 : zmBoth zr_175 := Or.inr ⟨by decide +kernel, Or.inr rfl⟩
theorem zmr_176 : zmBoth zr_176 := Or.inr ⟨by decide +kernel, Or.inr rfl⟩
theorem zmr_177 : zmBoth zr_177 := Or.inr ⟨by decide +kernel, Or.inr rfl⟩
theorem zmr_178 : zmBoth zr_178 := Or.inr ⟨by decide +kernel, Or.inr rfl⟩
theorem zmr_179 : zmBoth zr_179 := Or.inr ⟨by decide +kernel, Or.inr rfl⟩
theorem zmr_180 : zmBoth zr_180 := Or.inr ⟨by decide +kernel, Or.inr rfl⟩
theorem zmr_181 : zmBoth zr_181 := Or.inr ⟨by decide +kernel, Or.inr rfl⟩
theorem zmr_182 : zmBoth zr_182 := Or.inr ⟨by decide +kernel, Or.inr rfl⟩
theorem zmr_183 : zmBoth zr_183 := Or.inr ⟨by decide +kernel, Or.inr rfl⟩
theorem zmr_184 : zmBoth zr_184 := Or.inr ⟨by decide +kernel, Or.inr rfl⟩
theorem zmr_185 : zmBoth zr_185 := Or.inr ⟨by decide +kernel, Or.inr rfl⟩
theorem zmr_186 : zmBoth zr_186 := Or.inr ⟨by decide +kernel, Or.inr rfl⟩
theorem zmr_187 : zmBoth zr_187 := Or.inr ⟨by decide +kernel, Or.inr rfl⟩
theorem zmr_188 : zmBoth zr_188 := Or.inr ⟨by decide +kernel, Or.inr rfl⟩
theorem zmr_189 : zmBoth zr_189 := Or.inr ⟨by decide +kernel, Or.inr rfl⟩
theorem zmr_190 : zmBoth zr_190 := Or.inl rfl
theorem zmr_191 : zmBoth zr_191 := Or.inl rfl
theorem zmr_192 : zmBoth zr_192 := Or.inl rfl
theorem zmr_193 : zmBoth zr_193 := Or.inl rfl
theorem zmr_194 : zmBoth zr_194 := Or.inl rfl
theorem zmr_195 : zmBoth zr_195 := Or.inl rfl
theorem zmr_196 : zmBoth zr_196 := Or.inl rfl
theorem zmr_197 : zmBoth zr_197 := Or.inl rfl
theorem zmr_198 : zmBoth zr_198 := Or.inl rfl
theorem zmr_199 : zmBoth zr_199 := Or.inl rfl
theorem zmr_200 : zmBoth zr_200 := Or.inl rfl
theorem zmr_201 : zmBoth zr_201 := Or.inl rfl
theorem zmr_202 : zmBoth zr_202 := Or.inl rfl
theorem zmr_203 : zmBoth zr_203 := Or.inl rfl
theorem zmr_204 : zmBoth zr_204 := Or.inl rfl
theorem zmr_205 : zmBoth zr_205 := Or.inl rfl
theorem zmr_206 : zmBoth zr_206 := Or.inl rfl
theorem zmr_207 : zmBoth zr_207 := Or.inl rfl
theorem zmr_208 : zmBoth zr_208 := Or.inl rfl
theorem zmr_209 : zmBoth zr_209 := Or.inl rfl
theorem zmr_210 : zmBoth zr_210 := Or.inl rfl
theorem zmr_211 : zmBoth zr_211 := Or.inl rfl
theorem zmr_212 : zmBoth zr_212 := Or.inl rfl
theorem zmr_213 : zmBoth zr_213 := Or.inl rfl
theorem zmr_214 : zmBoth zr_214 := Or.inl rfl
theorem zmr_215 : zmBoth zr_215 := Or.inl rfl
theorem zmr_216 : zmBoth zr_216 := Or.inl rfl
theorem zmr_217 : zmBoth zr_217 := Or.inl rfl
theorem zmr_218 : zmBoth zr_218 := Or.inl rfl
theorem zmr_219 : zmBoth zr_219 := Or.inl rfl
theorem zmr_220 : zmBoth zr_220 := Or.inl rfl
theorem zmr_221 : zmBoth zr_221 := Or.inl rfl
theorem zmr_222 : zmBoth zr_222 := Or.inl rfl
theorem zmr_223 : zmBoth zr_223 := Or.inl rfl
theorem zmr_224 : zmBoth zr_224 := Or.inl rfl
theorem zmr_225 : zmBoth zr_225 := Or.inl rfl
theorem zmr_226 : zmBoth zr_226 := Or.inl rfl
theorem zmr_227 : zmBoth zr_227 := Or.inl rfl
theorem zmr_228 : zmBoth zr_228 := Or.inl rfl
theorem zmr_229 : zmBoth zr_229 := Or.inl rfl
theorem zmr_230 : zmBoth zr_230 := Or.inl rfl
theorem zmr_231 : zmBoth zr_231 := Or.inl rfl
theorem zmr_232 : zmBoth zr_232 := Or.inl rfl
theorem zmr_233 : zmBoth zr_233 := Or.inl rfl
theorem zmr_234 : zmBoth zr_234 := Or.inl rfl
theorem zmr_235 : zmBoth zr_235 := Or.inl rfl
theorem zmr_236 : zmBoth zr_236 := Or.inl rfl
theorem zmr_237 : zmBoth zr_237 := Or.inl rfl
theorem zmr_238 : zmBoth zr_238 := Or.inl rfl
theorem zmr_239 : zmBoth zr_239 := Or.inl rfl
theorem zmr_240 : zmBoth zr_240 := Or.inl rfl
theorem zmr_241 : zmBoth zr_241 := Or.inl rfl
theorem zmr_242 : zmBoth zr_242 := Or.inl rfl
theorem zmr_243 : zmBoth zr_243 := Or.inl rfl
theorem zmr_244 : zmBoth zr_244 := Or.inl rfl
theorem zmr_245 : zmBoth zr_245 := Or.inl rfl
theorem zmr_246 : zmBoth zr_246 := Or.inl rfl
theorem zmr_247 : zmBoth zr_247 := Or.inl rfl
theorem zmr_248 : zmBoth zr_248 := Or.inl rfl
theorem zmr_249 : zmBoth zr_249 := Or.inl rfl
theorem zmr_250 : zmBoth zr_250 := Or.inl rfl
theorem zmr_251 : zmBoth zr_251 := Or.inl rfl
theorem zmr_252 : zmBoth zr_252 := Or.inl rfl
theorem zmr_253 : zmBoth zr_253 := Or.inl rfl
theorem zmr_254 : zmBoth zr_254 := Or.inl rfl
theorem zmr_255 : zmBoth zr_255 := Or.inl rfl
theorem zmr_256 : zmBoth zr_256 := Or.inl rfl
theorem zmr_257 : zmBoth zr_257 := Or.inl rfl
theorem zmr_258 : zmBoth zr_258 := Or.inl rfl
theorem zmr_259 : zmBoth zr_259 := Or.inl rfl
theorem zmr_260 : zmBoth zr_260 := Or.inl rfl
theorem zmr_261 : zmBoth zr_261 := Or.inl rfl
theorem zmr_262 : zmBoth zr_262 := Or.inl rfl
theorem zmr_263 : zmBoth zr_263 := Or.inl rfl
theorem zmr_264 : zmBoth zr_264 := Or.inl rfl
theorem zmr_265 : zmBoth zr_265 := Or.inl rfl
theorem zmr_266 : zmBoth zr_266 := Or.inl rfl
theorem zmr_267 : zmBoth zr_267 := Or.inl rfl
theorem zmr_268 : zmBoth zr_268 := Or.inl rfl
theorem zmr_269 : zmBoth zr_269 := Or.inl rfl
theorem zmr_270 : zmBoth zr_270 := Or.inl rfl
theorem zmr_271 : zmBoth zr_271 := Or.inl rfl
theorem zmr_272 : zmBoth zr_272 := Or.inl rfl
theorem zmr_273 : zmBoth zr_273 := Or.inl rfl
theorem zmr_274 : zmBoth zr_274 := Or.inl rfl
theorem zmr_275 : zmBoth zr_275 := Or.inl rfl
theorem zmr_276 : zmBoth zr_276 := Or.inl rfl
theorem zmr_277 : zmBoth zr_277 := Or.inl rfl
theorem zmr_278 : zmBoth zr_278 := Or.inl rfl
theorem zmr_279 : zmBoth zr_279 := Or.inl rfl
theorem zmr_280 : zmBoth zr_280 := Or.inl rfl
theorem zmr_281 : zmBoth zr_281 := Or.inl rfl
theorem zmr_282 : zmBoth zr_282 := Or.inl rfl
theorem zmr_283 : zmBoth zr_283 := Or.inl rfl
theorem zmr_284 : zmBoth zr_284 := Or.inl rfl
theorem zmr_285 : zmBoth zr_285 := Or.inl rfl
theorem zmr_286 : zmBoth zr_286 := Or.inl rfl
theorem zmr_287 : zmBoth zr_287 := Or.inl rfl
theorem zmr_288 : zmBoth zr_288 := Or.inl rfl
theorem zmr_289 : zmBoth zr_289 := Or.inl rfl
theorem zmr_290 : zmBoth zr_290 := Or.inl rfl
theorem zmr_291 : zmBoth zr_291 := Or.inl rfl
theorem zmr_292 : zmBoth zr_292 := Or.inl rfl
theorem zmr_293 : zmBoth zr_293 := Or.inl rfl
theorem zmr_294 : zmBoth zr_294 := Or.inl rfl
theorem zmr_295 : zmBoth zr_295 := Or.inl rfl
theorem zmr_296 : zmBoth zr_296 := Or.inl rfl
theorem zmr_297 : zmBoth zr_297 := Or.inl rfl
theorem zmr_298 : zmBoth zr_298 := Or.inl rfl
theorem zmr_299 : zmBoth zr_299 := Or.inl rfl
theorem zmr_300 : zmBoth zr_300 := Or.inl rfl
theorem zmr_301 : zmBoth zr_301 := Or.inl rfl
theorem zmr_302 : zmBoth zr_302 := Or.inl rfl
theorem zmr_303 : zmBoth zr_303 := Or.inl rfl
theorem zmr_304 : zmBoth zr_304 := Or.inl rfl
theorem zmr_305 : zmBoth zr_305 := Or.inl rfl
theorem zmr_306 : zmBoth zr_306 := Or.inl rfl
theorem zmr_307 : zmBoth zr_307 := Or.inl rfl
theorem zmr_308 : zmBoth zr_308 := Or.inl rfl
theorem zmr_309 : zmBoth zr_309 := Or.inl rfl
theorem zmr_310 : zmBoth zr_310 := Or.inl rfl
theorem zmr_311 : zmBoth zr_311 := Or.inl rfl
theorem zmr_312 : zmBoth zr_312 := Or.inl rfl
theorem zmr_313 : zmBoth zr_313 := Or.inl rfl
theorem zmr_314 : zmBoth zr_314 := Or.inl rfl
theorem zmr_315 : zmBoth zr_315 := Or.inr ⟨by decide +kernel, Or.inl (by decide)⟩
theorem zmr_316 : zmBoth zr_316 := Or.inr ⟨by decide +kernel, Or.inl (by decide)⟩
theorem zmr_317 : zmBoth zr_317 := Or.inr ⟨by decide +kernel, Or.inl (by decide)⟩
theorem zmr_318 : zmBoth zr_318 := Or.inr ⟨by decide +kernel, Or.inl (by decide)⟩
theorem zmr_319 : zmBoth zr_319 := Or.inr ⟨by decide +kernel, Or.inr rfl⟩
theorem zmr_320 : zmBoth zr_320 := Or.inr ⟨by decide +kernel, Or.inr rfl⟩
theorem zmr_321 : zmBoth zr_321 := Or.inr ⟨by decide +kernel, Or.inr rfl⟩
theorem zmr_322 : zmBoth zr_322 := Or.inr ⟨by decide +kernel, Or.inr rfl⟩
theorem zmr_323 : zmBoth zr_323 := Or.inr ⟨by decide +kernel, Or.inr rfl⟩
theorem zmr_324 : zmBoth zr_324 := Or.inr ⟨by decide +kernel, Or.inr rfl⟩
theorem zmr_325 : zmBoth zr_325 := Or.inr ⟨by decide +kernel, Or.inr rfl⟩
theorem zmr_326 : zmBoth zr_326 := Or.inr ⟨by decide +kernel, Or.inr rfl⟩
theorem zmr_327 : zmBoth zr_327 := Or.inr ⟨by decide +kernel, Or.inr rfl⟩
theorem zm_0 : zmAll zT_0 := ⟨zmr_0, zmr_1, zmr_2, zmr_3, zmr_4, zmr_5, zmr_6, zmr_7, zmr_8, zmr_9, zmr_10, zmr_11, zmr_12, zmr_13, zmr_14, zmr_15, zmr_16, zmr_17, zmr_18, zmr_19, zmr_20, zmr_21, zmr_22, zmr_23, zmr_24, zmr_25, zmr_26, zmr_27, zmr_28, zmr_29, zmr_30, zmr_31, zmr_32, zmr_33, zmr_34, zmr_35, zmr_36, zmr_37, zmr_38, zmr_39, trivial⟩
theorem zm_1 : zmAll zT_1 := ⟨zmr_40, zmr_41, zmr_42, zmr_43, zmr_44, zmr_45, zmr_46, zmr_47, zmr_48, zmr_49, zmr_50, zmr_51, zmr_52, zmr_53, zmr_54, zmr_55, zmr_56, zmr_57, zmr_58, zmr_59, zmr_60, zmr_61, zmr_62, zmr_63, zmr_64, zmr_65, zmr_66, zmr_67, zmr_68, zmr_69, zmr_70, zmr_71, zmr_72, zmr_73, zmr_74, zmr_75, zmr_76, zmr_77, zmr_78, zmr_79, trivial⟩
theorem zm_2 : zmAll zT_2 := ⟨zmr_80, zmr_81, zmr_82, zmr_83, zmr_84, zmr_85, zmr_86, zmr_87, zmr_88, zmr_89, zmr_90, zmr_91, zmr_92, zmr_93, zmr_94, zmr_95, zmr_96, zmr_97, zmr_98, zmr_99, zmr_100, zmr_101, zmr_102, zmr_103, zmr_104, zmr_105, zmr_106, zmr_107, zmr_108, zmr_109, zmr_110, zmr_111, zmr_112, zmr_113, zmr_114, zmr_115, zmr_116, zmr_117, zmr_118, zmr_119, trivial⟩
theorem zm_3 : zmAll zT_3 := ⟨zmr_120, zmr_121, zmr_122, zmr_123, zmr_124, zmr_125, zmr_126, zmr_127, zmr_128, zmr_129, zmr_130, zmr_131, zmr_132, zmr_133, zmr_134, zmr_135, zmr_136, zmr_137, zmr_138, zmr_139, zmr_140, zmr_141, zmr_142, zmr_143, zmr_144, zmr_145, zmr_146, zmr_147, zmr_148, zmr_149, zmr_150, zmr_151, zmr_152, zmr_153, zmr_154, zmr_155, zmr_156, zmr_157, zmr_158, zmr_159, trivial⟩
theorem zm_4 : zmAll zT_4 := ⟨zmr_160, zmr_161, zmr_162, zmr_163, zmr_164, zmr_165, zmr_166, zmr_167, zmr_168, zmr_169, zmr_170, zmr_171, zmr_172, zmr_173, zmr_174, zmr_175, zmr_176, zmr_177, zmr_178, zmr_179, zmr_180, zmr_181, zmr_182, zmr_183, zmr_184, zmr_185, zmr_186, zmr_187, zmr_188, zmr_189, zmr_190, zmr_191, zmr_192, zmr_193, zmr_194, zmr_195, zmr_196, zmr_197, zmr_198, zmr_199, trivial⟩
theorem zm_5 : zmAll zT_5 := ⟨zmr_200, zmr_201, zmr_202, zmr_203, zmr_204, zmr_205, zmr_206, zmr_207, zmr_208, zmr_209, zmr_210, zmr_211, zmr_212, zmr_213, zmr_214, zmr_215, zmr_216, zmr_217, zmr_218, zmr_219, zmr_220, zmr_221, zmr_222, zmr_223, zmr_224, zmr_225, zmr_226, zmr_227, zmr_228, zmr_229, zmr_230, zmr_231, zmr_232, zmr_233, zmr_234, zmr_235, zmr_236, zmr_237, zmr_238, zmr_239, trivial⟩
theorem zm_6 : zmAll zT_6 := ⟨zmr_240, zmr_241, zmr_242, zmr_243, zmr_244, zmr_245, zmr_246, zmr_247, zmr_248, zmr_249, zmr_250, zmr_251, zmr_252, zmr_253, zmr_254, zmr_255, zmr_256, zmr_257, zmr_258, zmr_259, zmr_260, zmr_261, zmr_262, zmr_263, zmr_264, zmr_265, zmr_266, zmr_267, zmr_268, zmr_269, zmr_270, zmr_271, zmr_272, zmr_273, zmr_274, zmr_275, zmr_276, zmr_277, zmr_278, zmr_279, trivial⟩
theorem zm_7 : zmAll zT_7 := ⟨zmr_280, zmr_281, zmr_282, zmr_283, zmr_284, zmr_285, zmr_286, zmr_287, zmr_288, zmr_289, zmr_290, zmr_291, zmr_292, zmr_293, zmr_294, zmr_295, zmr_296, zmr_297, zmr_298, zmr_299, zmr_300, zmr_301, zmr_302, zmr_303, zmr_304, zmr_305, zmr_306, zmr_307, zmr_308, zmr_309, zmr_310, zmr_311, zmr_312, zmr_313, zmr_314, zmr_315, zmr_316, zmr_317, zmr_318, zmr_319, trivial⟩
theorem zm_8 : zmAll zT_8 := ⟨zmr_320, zmr_321, zmr_322, zmr_323, zmr_324, zmr_325, zmr_326, zmr_327, trivial⟩
theorem zm_ok (k : Nat) : zmBoth (zrow k) := by
  by_cases e0 : k / 40 = 0
  · rw [zrow_0 e0]; exact zmAll_use zm_0 _
  by_cases e1 : k / 40 = 1
  · rw [zrow_1 e1]; exact zmAll_use zm_1 _
  by_cases e2 : k / 40 = 2
  · rw [zrow_2 e2]; exact zmAll_use zm_2 _
  by_cases e3 : k / 40 = 3
  · rw [zrow_3 e3]; exact zmAll_use zm_3 _
  by_cases e4 : k / 40 = 4
  · rw [zrow_4 e4]; exact zmAll_use zm_4 _
  by_cases e5 : k / 40 = 5
  · rw [zrow_5 e5]; exact zmAll_use zm_5 _
  by_cases e6 : k / 40 = 6
  · rw [zrow_6 e6]; exact zmAll_use zm_6 _
  by_cases e7 : k / 40 = 7
  · rw [zrow_7 e7]; exact zmAll_use zm_7 _
  by_cases e8 : k / 40 = 8
  · rw [zrow_8 e8]; exact zmAll_use zm_8 _
  rw [zrow_out (by omega)]
  exact Or.inr ⟨rfl, Or.inl (by decide)⟩
def zNs : List Cond := [(Cond.methodLinkNest "SkippingKeys$Lines" (31 : Nat) ({ cls := "SkippingKeys", name := "isWithin", desc := "(III)Z" } : Jvm.MethodName) "SkippingKeys"), (Cond.methodLinkNest "SkippingKeys$Conditions" (29 : Nat) ({ cls := "SkippingKeys", name := "isWithin", desc := "(III)Z" } : Jvm.MethodName) "SkippingKeys"), (Cond.fieldLinkNest "SkippingKeys$Lines" (47 : Nat) "SkippingKeys" "COLUMN_AT" "[I" "SkippingKeys"), (Cond.fieldLinkNest "SkippingKeys$Condition" (106 : Nat) "SkippingKeys" "WEIGHT" "[I" "SkippingKeys"), (Cond.methodLinkNest "SkippingKeys$Condition" (92 : Nat) ({ cls := "SkippingKeys", name := "compared", desc := "(III)I" } : Jvm.MethodName) "SkippingKeys"), (Cond.methodLinkNest "SkippingKeys$Tape" (26 : Nat) ({ cls := "SkippingKeys", name := "isWithin", desc := "(III)Z" } : Jvm.MethodName) "SkippingKeys"), (Cond.methodLinkNest "SkippingKeys$Condition" (43 : Nat) ({ cls := "SkippingKeys", name := "isWithin", desc := "(III)Z" } : Jvm.MethodName) "SkippingKeys"), (Cond.methodLinkNest "SkippingKeys$Spans" (41 : Nat) ({ cls := "SkippingKeys", name := "placeOf", desc := "(II)I" } : Jvm.MethodName) "SkippingKeys"), (Cond.methodLinkNest "SkippingKeys$Spans" (65 : Nat) ({ cls := "SkippingKeys", name := "isWithin", desc := "(III)Z" } : Jvm.MethodName) "SkippingKeys"), (Cond.methodLinkNest "SkippingKeys$Shelves" (22 : Nat) ({ cls := "SkippingKeys", name := "isWithin", desc := "(III)Z" } : Jvm.MethodName) "SkippingKeys")]
theorem zNs_in : ∀ w ∈ zNs, w ∈ lw_tbl := by
  intro w hw
  simp only [zNs, List.mem_cons, List.not_mem_nil, or_false] at hw
  rcases hw with rfl | rfl | rfl | rfl | rfl | rfl | rfl | rfl | rfl | rfl
  · exact zpart_in (i := 2) (List.mem_of_getElem? (i := 63) (by decide +kernel))
  · exact zpart_in (i := 2) (List.mem_of_getElem? (i := 82) (by decide +kernel))
  · exact zpart_in (i := 2) (List.mem_of_getElem? (i := 117) (by decide +kernel))
  · exact zpart_in (i := 3) (List.mem_of_getElem? (i := 31) (by decide +kernel))
  · exact zpart_in (i := 3) (List.mem_of_getElem? (i := 33) (by decide +kernel))
  · exact zpart_in (i := 3) (List.mem_of_getElem? (i := 213) (by decide +kernel))
  · exact zpart_in (i := 3) (List.mem_of_getElem? (i := 230) (by decide +kernel))
  · exact zpart_in (i := 4) (List.mem_of_getElem? (i := 51) (by decide +kernel))
  · exact zpart_in (i := 4) (List.mem_of_getElem? (i := 154) (by decide +kernel))
  · exact zpart_in (i := 4) (List.mem_of_getElem? (i := 200) (by decide +kernel))
def zcharAt : MethodName := ⟨"java/lang/String", "charAt", "(I)C"⟩
def zMlOk (c : Nat) (e : Nat × Nat × Nat × zPos) : Bool := bif Nat.beq e.2.1 1000 then zhas e.2.2.2 (.methodLink (zcn c) e.1 Lib.objectInit) && Nat.beq e.2.2.1 0 else bif Nat.beq e.2.1 1001 then zhas e.2.2.2 (.methodLink (zcn c) e.1 arraycopyName) && Nat.beq e.2.2.1 0 else bif Nat.beq e.2.1 1002 then zhas e.2.2.2 (.methodLink (zcn c) e.1 Lib.Math.max.name) && Nat.beq e.2.2.1 0 else bif Nat.beq e.2.1 1003 then zhas e.2.2.2 (.methodLink (zcn c) e.1 Lib.Math.min.name) && Nat.beq e.2.2.1 0 else bif Nat.beq e.2.1 1004 then zhas e.2.2.2 (.methodLink (zcn c) e.1 zcharAt) && Nat.beq e.2.2.1 0 else !zgh (zrow e.2.1) && bif Nat.beq e.2.2.1 0 then zhas e.2.2.2 (.methodLink (zcn c) e.1 (zrow e.2.1).1) else decide (Cond.methodLinkNest (zcn c) e.1 (zrow e.2.1).1 "SkippingKeys" ∈ zNs)
theorem zMl_ok_0 : (zMl_0).all (zMlOk 0) = true := by decide +kernel
theorem zMl_ok_1 : (zMl_1).all (zMlOk 1) = true := by decide +kernel
theorem zMl_ok_2 : (zMl_2).all (zMlOk 2) = true := by decide +kernel
theorem zMl_ok_3 : (zMl_3).all (zMlOk 3) = true := by decide +kernel
theorem zMl_ok_4 : (zMl_4).all (zMlOk 4) = true := by decide +kernel
theorem zMl_ok_5 : (zMl_5).all (zMlOk 5) = true := by decide +kernel
theorem zMl_ok_6 : (zMl_6).all (zMlOk 6) = true := by decide +kernel
theorem zMl_ok_7 : (zMl_7).all (zMlOk 7) = true := by decide +kernel
theorem zMl_ok_8 : (zMl_8).all (zMlOk 8) = true := by decide +kernel
theorem zMl_ok_10 : (zMl_10).all (zMlOk 10) = true := by decide +kernel
theorem zMl_ok (c : Nat) (hc : c ≠ 9) : ∀ e ∈ zMl c, zMlOk c e = true := by
  intro e he
  unfold zMl at he
  split at he
  · exact List.all_eq_true.mp zMl_ok_0 e he
  · exact List.all_eq_true.mp zMl_ok_1 e he
  · exact List.all_eq_true.mp zMl_ok_2 e he
  · exact List.all_eq_true.mp zMl_ok_3 e he
  · exact List.all_eq_true.mp zMl_ok_4 e he
  · exact List.all_eq_true.mp zMl_ok_5 e he
  · exact List.all_eq_true.mp zMl_ok_6 e he
  · exact List.all_eq_true.mp zMl_ok_7 e he
  · exact List.all_eq_true.mp zMl_ok_8 e he
  · exact absurd rfl hc
  · exact List.all_eq_true.mp zMl_ok_10 e he
  · cases he
def zTX (c : Nat) : u_T := match c with
  | 0 => TX0
  | 1 => TX1
  | 2 => TX2
  | 3 => TX3
  | 4 => TX4
  | 5 => TX5
  | 6 => TX6
  | 7 => TX7
  | 8 => TX8
  | 9 => TX9
  | _ => TX0
def ztyX (c : Nat) : Nat → FieldType := match c with
  | 0 => tyX0
  | 1 => tyX1
  | 2 => tyX2
  | 3 => tyX3
  | 4 => tyX4
  | 5 => tyX5
  | 6 => tyX6
  | 7 => tyX7
  | 8 => tyX8
  | 9 => tyX9
  | _ => tyX0
def zNf (c : Nat) : Nat := match c with
  | 0 => 12
  | 1 => 3
  | 2 => 4
  | 3 => 2
  | 4 => 6
  | 5 => 3
  | 6 => 11
  | 7 => 3
  | 8 => 12
  | 9 => 41
  | _ => 0
def zFlOk (c : Nat) (e : Nat × Nat × Nat × zPos) : Bool := zhas e.2.2.2 (.fieldLink (zcn c) e.1 (zTX e.2.1 e.2.2.1).1 (zTX e.2.1 e.2.2.1).2.1 (zTX e.2.1 e.2.2.1).2.2.1) && Nat.blt e.2.2.1 (zNf e.2.1) && Nat.blt e.2.1 9
theorem zFl_ok_0 : (zFl_0).all (zFlOk 0) = true := by decide +kernel
theorem zFl_ok_1 : (zFl_1).all (zFlOk 1) = true := by decide +kernel
theorem zFl_ok_2 : (zFl_2).all (zFlOk 2) = true := by decide +kernel
theorem zFl_ok_3 : (zFl_3).all (zFlOk 3) = true := by decide +kernel
theorem zFl_ok_4 : (zFl_4).all (zFlOk 4) = true := by decide +kernel
theorem zFl_ok_5 : (zFl_5).all (zFlOk 5) = true := by decide +kernel
theorem zFl_ok_6 : (zFl_6).all (zFlOk 6) = true := by decide +kernel
theorem zFl_ok_7 : (zFl_7).all (zFlOk 7) = true := by decide +kernel
theorem zFl_ok_8 : (zFl_8).all (zFlOk 8) = true := by decide +kernel
theorem zFl_ok (c : Nat) (hc : c ≠ 9) : ∀ e ∈ zFl c, zFlOk c e = true := by
  intro e he
  unfold zFl at he
  split at he
  · exact List.all_eq_true.mp zFl_ok_0 e he
  · exact List.all_eq_true.mp zFl_ok_1 e he
  · exact List.all_eq_true.mp zFl_ok_2 e he
  · exact List.all_eq_true.mp zFl_ok_3 e he
  · exact List.all_eq_true.mp zFl_ok_4 e he
  · exact List.all_eq_true.mp zFl_ok_5 e he
  · exact List.all_eq_true.mp zFl_ok_6 e he
  · exact List.all_eq_true.mp zFl_ok_7 e he
  · exact List.all_eq_true.mp zFl_ok_8 e he
  · exact absurd rfl hc
  · cases he
def zSn (i : Nat) : String := match i with
  | 1 => "COLUMN_AT"
  | _ => "WEIGHT"
def zSlOk (c : Nat) (e : Nat × Nat × Nat × zPos) : Bool := (bif Nat.beq e.2.2.1 0 then zhas e.2.2.2 (.fieldLink (zcn c) e.1 "SkippingKeys" (zSn e.2.1) "[I") else decide (Cond.fieldLinkNest (zcn c) e.1 "SkippingKeys" (zSn e.2.1) "[I" "SkippingKeys" ∈ zNs)) && (Nat.beq e.2.1 1 || Nat.beq e.2.1 2)
theorem zSl_ok_0 : (zSl_0).all (zSlOk 0) = true := by decide +kernel
theorem zSl_ok_2 : (zSl_2).all (zSlOk 2) = true := by decide +kernel
theorem zSl_ok_8 : (zSl_8).all (zSlOk 8) = true := by decide +kernel
theorem zSl_ok (c : Nat) (hc : c ≠ 9) : ∀ e ∈ zSl c, zSlOk c e = true := by
  intro e he
  unfold zSl at he
  split at he
  · exact List.all_eq_true.mp zSl_ok_0 e he
  · exact List.all_eq_true.mp zSl_ok_2 e he
  · exact List.all_eq_true.mp zSl_ok_8 e he
  · cases he
def zstr (x : Int) : String := if x = -2 then "<=>~" else "&|"
def zKlOk (c : Nat) (e : Nat × Nat × Int × zPos) : Bool := bif Nat.beq e.2.1 0 then zhas e.2.2.2 (.constant (zcn c) e.1 (Int32.ofInt e.2.2.1)) && decide (-2147483648 ≤ e.2.2.1 ∧ e.2.2.1 < 2147483648) else bif Nat.beq e.2.1 2 then decide (c = 10 ∧ ((e.1 = 52 ∧ e.2.2.1 = -2) ∨ (e.1 = 60 ∧ e.2.2.1 = -3))) else zhas e.2.2.2 (.constantLong (zcn c) e.1 (Int64.ofInt e.2.2.1)) && decide (-9223372036854775808 ≤ e.2.2.1 ∧ e.2.2.1 < 9223372036854775808)
theorem zKl_ok_2 : (zKl_2).all (zKlOk 2) = true := by decide +kernel
theorem zKl_ok_10 : (zKl_10).all (zKlOk 10) = true := by decide +kernel
theorem zKl_ok (c : Nat) (hc : c ≠ 9) : ∀ e ∈ zKl c, zKlOk c e = true := by
  intro e he
  unfold zKl at he
  split at he
  · exact List.all_eq_true.mp zKl_ok_2 e he
  · exact absurd rfl hc
  · exact List.all_eq_true.mp zKl_ok_10 e he
  · cases he
def zClOk (c : Nat) (e : Nat × Nat × zPos) : Bool := zhas e.2.2 (.classLink (zcn c) e.1 (zcn e.2.1)) && Nat.blt e.2.1 9
theorem zCl_ok_1 : (zCl_1).all (zClOk 1) = true := by decide +kernel
theorem zCl_ok_8 : (zCl_8).all (zClOk 8) = true := by decide +kernel
theorem zCl_ok_10 : (zCl_10).all (zClOk 10) = true := by decide +kernel
theorem zCl_ok (c : Nat) (hc : c ≠ 9) : ∀ e ∈ zCl c, zClOk c e = true := by
  intro e he
  unfold zCl at he
  split at he
  · exact List.all_eq_true.mp zCl_ok_1 e he
  · exact List.all_eq_true.mp zCl_ok_8 e he
  · exact List.all_eq_true.mp zCl_ok_10 e he
  · cases he
def zwAll : Nat → List Cond → List zPos → Bool
  | _, [], _ => true
  | n, w :: l, q :: m => zhas q w && zwAll n l m
  | _, _ :: _, [] => false
theorem zwAll_in : ∀ (n : Nat) (l : List Cond) (m : List zPos), zwAll n l m = true → ∀ w ∈ l, w ∈ zTs
  | _, [], _, _, w, h => by cases h
  | n, w :: l, q :: m, h, v, hv => by
    unfold zwAll at h
    rw [Bool.and_eq_true] at h
    rcases List.mem_cons.mp hv with rfl | h2
    · exact zhas_in h.1
    · exact zwAll_in n l m h.2 v h2
  | _, _ :: _, [], h, _, _ => by cases h
theorem zCw_in_0 : ∀ w ∈ u_ws RX0 TX0 12, w ∈ zTs := zwAll_in 0 _ zCw_0 (by decide +kernel)
theorem zCi_in_0 : Cond.instantiable RX0 12 ∈ zTs := zhas_in (q := zCi_0) (by decide +kernel)
theorem zCw_in_1 : ∀ w ∈ u_ws RX1 TX1 3, w ∈ zTs := zwAll_in 0 _ zCw_1 (by decide +kernel)
theorem zCi_in_1 : Cond.instantiable RX1 3 ∈ zTs := zhas_in (q := zCi_1) (by decide +kernel)
theorem zCw_in_2 : ∀ w ∈ u_ws RX2 TX2 4, w ∈ zTs := zwAll_in 0 _ zCw_2 (by decide +kernel)
theorem zCi_in_2 : Cond.instantiable RX2 4 ∈ zTs := zhas_in (q := zCi_2) (by decide +kernel)
theorem zCw_in_3 : ∀ w ∈ u_ws RX3 TX3 2, w ∈ zTs := zwAll_in 0 _ zCw_3 (by decide +kernel)
theorem zCi_in_3 : Cond.instantiable RX3 2 ∈ zTs := zhas_in (q := zCi_3) (by decide +kernel)
theorem zCw_in_4 : ∀ w ∈ u_ws RX4 TX4 6, w ∈ zTs := zwAll_in 0 _ zCw_4 (by decide +kernel)
theorem zCi_in_4 : Cond.instantiable RX4 6 ∈ zTs := zhas_in (q := zCi_4) (by decide +kernel)
theorem zCw_in_5 : ∀ w ∈ u_ws RX5 TX5 3, w ∈ zTs := zwAll_in 0 _ zCw_5 (by decide +kernel)
theorem zCi_in_5 : Cond.instantiable RX5 3 ∈ zTs := zhas_in (q := zCi_5) (by decide +kernel)
theorem zCw_in_6 : ∀ w ∈ u_ws RX6 TX6 11, w ∈ zTs := zwAll_in 0 _ zCw_6 (by decide +kernel)
theorem zCi_in_6 : Cond.instantiable RX6 11 ∈ zTs := zhas_in (q := zCi_6) (by decide +kernel)
theorem zCw_in_7 : ∀ w ∈ u_ws RX7 TX7 3, w ∈ zTs := zwAll_in 0 _ zCw_7 (by decide +kernel)
theorem zCi_in_7 : Cond.instantiable RX7 3 ∈ zTs := zhas_in (q := zCi_7) (by decide +kernel)
theorem zCw_in_8 : ∀ w ∈ u_ws RX8 TX8 12, w ∈ zTs := zwAll_in 0 _ zCw_8 (by decide +kernel)
theorem zCi_in_8 : Cond.instantiable RX8 12 ∈ zTs := zhas_in (q := zCi_8) (by decide +kernel)
theorem zini_in_0 : Cond.initialized RX0 ∈ zTs := zhas_in (q := (1, 4)) (by decide +kernel)
theorem zini_in_1 : Cond.initialized RX1 ∈ zTs := zhas_in (q := (1, 3)) (by decide +kernel)
theorem zini_in_2 : Cond.initialized RX2 ∈ zTs := zhas_in (q := (1, 2)) (by decide +kernel)
theorem zini_in_3 : Cond.initialized RX3 ∈ zTs := zhas_in (q := (1, 9)) (by decide +kernel)
theorem zini_in_4 : Cond.initialized RX4 ∈ zTs := zhas_in (q := (1, 7)) (by decide +kernel)
theorem zini_in_5 : Cond.initialized RX5 ∈ zTs := zhas_in (q := (1, 5)) (by decide +kernel)
theorem zini_in_6 : Cond.initialized RX6 ∈ zTs := zhas_in (q := (1, 8)) (by decide +kernel)
theorem zini_in_7 : Cond.initialized RX7 ∈ zTs := zhas_in (q := (1, 6)) (by decide +kernel)
theorem zini_in_8 : Cond.initialized RX8 ∈ zTs := zhas_in (q := (1, 1)) (by decide +kernel)
theorem zx_arrI : Cond.arrayClass .int ∈ zTs := zhas_in (q := (1, 49)) (by decide +kernel)
theorem zx_arrJ : Cond.arrayClass .long ∈ zTs := zhas_in (q := (1, 141)) (by decide +kernel)
theorem zx_arrB : Cond.arrayClass .byte ∈ zTs := zhas_in (q := (4, 29)) (by decide +kernel)
theorem zx_arrZ : Cond.arrayClass .boolean ∈ zTs := zhas_in (q := (1, 227)) (by decide +kernel)
theorem zx_over : Cond.arrayOver (.object RX0) ∈ lw_tbl := zpart_in (i := 1) (List.mem_of_getElem? (i := 57) (by decide +kernel))
theorem zx_acs : Cond.static arraycopyName ∈ zTs := zhas_in (q := (2, 152)) (by decide +kernel)
theorem zx_acn : Cond.native arraycopyName ∈ zTs := zhas_in (q := (2, 153)) (by decide +kernel)
theorem zx_aci : Cond.initialized "java/lang/System" ∈ zTs := zhas_in (q := (1, 11)) (by decide +kernel)
theorem zx_oii : Cond.instanceMethod Lib.objectInit ∈ zTs := zhas_in (q := (1, 22)) (by decide +kernel)
theorem zx_oic : Cond.code Lib.objectInit ⟨#[0xb1]⟩ 1 none ∈ zTs := zhas_in (q := (1, 23)) (by decide +kernel)
theorem zx_mxs : Cond.static Lib.Math.max.name ∈ zTs := zhas_in (q := (3, 59)) (by decide +kernel)
theorem zx_mxc : Cond.code Lib.Math.max.name Lib.Math.max.code 2 (some .int) ∈ zTs := zhas_in (q := (3, 60)) (by decide +kernel)
theorem zx_mns : Cond.static Lib.Math.min.name ∈ zTs := zhas_in (q := (3, 17)) (by decide +kernel)
theorem zx_mnc : Cond.code Lib.Math.min.name Lib.Math.min.code 2 (some .int) ∈ zTs := zhas_in (q := (3, 18)) (by decide +kernel)
theorem zx_mi : Cond.initialized "java/lang/Math" ∈ zTs := zhas_in (q := (1, 10)) (by decide +kernel)
theorem zx_st1 : Cond.laysStatic "SkippingKeys" "WEIGHT" "[I" ∈ lw_tbl := zpart_in (i := 3) (List.mem_of_getElem? (i := 32) (by decide +kernel))
theorem zx_st2 : Cond.laysStatic "SkippingKeys" "COLUMN_AT" "[I" ∈ lw_tbl := zpart_in (i := 2) (List.mem_of_getElem? (i := 118) (by decide +kernel))
end
section
/-! ===== the cells that the two constructors lay, in their order ===== -/
def zshL : List (Nat × Int) := [(18, 0), (12, 0), (0, 180), (12, 0), (0, 180), (11, 0), (4, 25), (10, 0), (0, 63), (0, 3), (0, 3), (10, 0), (0, 63), (0, 3), (0, 3), (10, 0), (0, 63), (0, 3), (0, 3), (10, 0), (0, 63), (0, 3), (0, 3), (10, 0), (0, 63), (0, 3), (0, 3), (10, 0), (0, 63), (0, 3), (0, 3), (10, 0), (0, 63), (0, 3), (0, 3), (10, 0), (0, 63), (0, 3), (0, 3), (10, 0), (0, 63), (0, 3), (0, 3), (10, 0), (0, 63), (0, 3), (0, 3), (10, 0), (0, 63), (0, 3), (0, 3), (10, 0), (0, 63), (0, 3), (0, 3), (10, 0), (0, 63), (0, 3), (0, 3), (10, 0), (0, 63), (0, 3), (0, 3), (10, 0), (0, 63), (0, 3), (0, 3), (10, 0), (0, 63), (0, 3), (0, 3), (10, 0), (0, 63), (0, 3), (0, 3), (10, 0), (0, 63), (0, 3), (0, 3), (10, 0), (0, 63), (0, 3), (0, 3), (10, 0), (0, 63), (0, 3), (0, 3), (10, 0), (0, 63), (0, 3), (0, 3), (10, 0), (0, 63), (0, 3), (0, 3), (10, 0), (0, 63), (0, 3), (0, 3), (10, 0), (0, 63), (0, 3), (0, 3), (10, 0), (0, 63), (0, 3), (0, 3), (11, 0), (4, 25), (10, 0), (0, 63), (0, 3), (0, 3), (10, 0), (0, 63), (0, 3), (0, 3), (10, 0), (0, 63), (0, 3), (0, 3), (10, 0), (0, 63), (0, 3), (0, 3), (10, 0), (0, 63), (0, 3), (0, 3), (10, 0), (0, 63), (0, 3), (0, 3), (10, 0), (0, 63), (0, 3), (0, 3), (10, 0), (0, 63), (0, 3), (0, 3), (10, 0), (0, 63), (0, 3), (0, 3), (10, 0), (0, 63), (0, 3), (0, 3), (10, 0), (0, 63), (0, 3), (0, 3), (10, 0), (0, 63), (0, 3), (0, 3), (10, 0), (0, 63), (0, 3), (0, 3), (10, 0), (0, 63), (0, 3), (0, 3), (10, 0), (0, 63), (0, 3), (0, 3), (10, 0), (0, 63), (0, 3), (0, 3), (10, 0), (0, 63), (0, 3), (0, 3), (10, 0), (0, 63), (0, 3), (0, 3), (10, 0), (0, 63), (0, 3), (0, 3), (10, 0), (0, 63), (0, 3), (0, 3), (10, 0), (0, 63), (0, 3), (0, 3), (10, 0), (0, 63), (0, 3), (0, 3), (10, 0), (0, 63), (0, 3), (0, 3), (10, 0), (0, 63), (0, 3), (0, 3), (10, 0), (0, 63), (0, 3), (0, 3), (15, 0), (0, 8), (0, 8), (1, 320), (17, 0), (0, 250), (14, 0), (0, 250), (0, 250), (0, 250), (16, 0), (99, 0), (0, 500), (0, 500), (0, 1000), (0, 500), (0, 1000), (0, 500), (3, 500), (0, 500), (13, 0), (0, 60), (0, 5), (3, 1000), (19, 0), (0, 8), (0, 8), (0, 8), (5, 8), (1, 40), (1, 40), (1, 40), (1, 40), (1, 40), (1, 40), (1, 40), (1, 40), (1, 40), (0, 8), (0, 250), (0, 8), (0, 180), (0, 24), (0, 24), (0, 192), (0, 180), (0, 24), (0, 24), (0, 192), (2, 24000), (0, 24), (0, 24), (0, 24), (0, 1000), (0, 1000), (0, 60), (0, 8)]
/-! ===== the small machine: a memory of whole numbers by cell and place; ints, longs and references with a tag on the stack ===== -/
abbrev ZV : Type := Int ⊕ Int ⊕ Int
abbrev ZL : Type := List (Option ZV)
abbrev ZS : Type := List ZV
abbrev ZM : Type := Int → Int → Int
abbrev ZC : Type := Nat × ZL × ZS × ZM
abbrev zI (x : Int) : ZV := Sum.inl x
abbrev zJ (x : Int) : ZV := Sum.inr (Sum.inl x)
abbrev zA (x : Int) : ZV := Sum.inr (Sum.inr x)
def zset (M : ZM) (a j v : Int) : ZM := fun a' j' => if a' = a ∧ j' = j then v else M a' j'
def zb (z : Int) : Int := Int.bmod z 4294967296
def zand (x y : Int) : Int := (Int32.ofInt x &&& Int32.ofInt y).toInt
def zor (x y : Int) : Int := (Int32.ofInt x ||| Int32.ofInt y).toInt
def zxor (x y : Int) : Int := (Int32.ofInt x ^^^ Int32.ofInt y).toInt
def zshl (x y : Int) : Int := (Int32.ofInt x <<< (Int32.ofInt y &&& 31)).toInt
def zshr (x y : Int) : Int := (Int32.ofInt x >>> (Int32.ofInt y &&& 31)).toInt
def zushr (x y : Int) : Int := ((Int32.ofInt x).toUInt32 >>> ((Int32.ofInt y).toUInt32 &&& Int32.toUInt32 31)).toInt32.toInt
def zlshl (x y : Int) : Int := (Int64.ofInt x <<< ((Int32.ofInt y).toInt64 &&& 63)).toInt
def zland (x y : Int) : Int := (Int64.ofInt x &&& Int64.ofInt y).toInt
def zlor (x y : Int) : Int := (Int64.ofInt x ||| Int64.ofInt y).toInt
def zlcmp (x y : Int) : Int := if y < x then 1 else if x = y then 0 else -1
def zi2b (x : Int) : Int := (Int32.ofInt x).toInt8.toInt32.toInt
def zi2s (x : Int) : Int := (Int32.ofInt x).toInt16.toInt32.toInt
/-- the kinds of cells: 0 ints, 1 longs, 2 bytes, 3 booleans, 4 conditions, 5 rows of longs, 10 + c an object, 20 a table, 21 the script -/
def zsh (a : Int) : Nat × Int := if a < 3 then (if a = 0 then (21, 0) else if a = 1 then (20, 18) else if a = 2 then (20, 3) else (99, 0)) else (zshL[(a - 3).toNat]?).getD (99, 0)
def zcl (k : Nat) : Nat := (zrow k).2.2.2.2.2.2.1
def zkind (k : Nat) : Nat := (zrow k).2.2.2.2.1
def zmaxL (k : Nat) : Nat := (zrow k).2.2.1
def zret (k : Nat) : Option FieldType := (zrow k).2.2.2.1
def znp (k : Nat) : Nat := (zrow k).2.2.2.2.2.1
def zget (ls : ZL) (i : Nat) : Option ZV := match ls[i]? with
  | some (some v) => some v
  | _ => none
def z2 : ZV → Bool
  | .inr (.inl _) => true
  | _ => false
def zclr (ls : ZL) (i : Nat) : ZL := match i with
  | 0 => ls
  | j + 1 => match zget ls j with
    | some (.inr (.inl _)) => ls.set j none
    | _ => ls
def zput (ls : ZL) (i : Nat) (v : ZV) : ZL := match v with
  | .inr (.inl _) => ((zclr ls i).set i (some v)).set (i + 1) none
  | _ => (zclr ls i).set i (some v)
def zcat : ZS → Nat
  | [] => 0
  | .inr (.inl _) :: r => 2 + zcat r
  | _ :: r => 1 + zcat r
def zcmp (c : ClassFile.Cond) (x y : Int) : Bool := match c with
  | .eq => decide (x = y)
  | .ne => !decide (x = y)
  | .lt => decide (x < y)
  | .ge => !decide (x < y)
  | .gt => decide (y < x)
  | .le => decide (x ≤ y)
def zjump (pc : Nat) (off : Int) (ls : ZL) (st : ZS) (M : ZM) : Option ZC := if 0 ≤ (pc : Int) + off then some (((pc : Int) + off).toNat, ls, st, M) else none
def zbr (b : Bool) (pc : Nat) (off : Int) (ls : ZL) (st : ZS) (M : ZM) : Option ZC := if 0 ≤ (pc : Int) + off then (if b = true then some (((pc : Int) + off).toNat, ls, st, M) else some (pc + 3, ls, st, M)) else none
def zbin (f : Int → Int → Int) (pc : Nat) (ls : ZL) (st : ZS) (M : ZM) : Option ZC := match st with
  | .inl y :: .inl x :: r => some (pc, ls, .inl (f x y) :: r, M)
  | _ => none
def zldI (v : Option ZV) (pc : Nat) (ls : ZL) (st : ZS) (M : ZM) : Option ZC := match v with
  | some (.inl x) => some (pc, ls, .inl x :: st, M)
  | _ => none
def zldJ (v : Option ZV) (pc : Nat) (ls : ZL) (st : ZS) (M : ZM) : Option ZC := match v with
  | some (.inr (.inl x)) => some (pc, ls, zJ x :: st, M)
  | _ => none
def zldA (v : Option ZV) (pc : Nat) (ls : ZL) (st : ZS) (M : ZM) : Option ZC := match v with
  | some (.inr (.inr x)) => if 0 ≤ x then some (pc, ls, zA x :: st, M) else none
  | _ => none
def zstI (i pc : Nat) (ls : ZL) (st : ZS) (M : ZM) : Option ZC := match st with
  | .inl x :: r => if i < ls.length then some (pc, zput ls i (zI x), r, M) else none
  | _ => none
def zstJ (i pc : Nat) (ls : ZL) (st : ZS) (M : ZM) : Option ZC := match st with
  | .inr (.inl x) :: r => if i + 1 < ls.length then some (pc, zput ls i (zJ x), r, M) else none
  | _ => none
def zstA (i pc : Nat) (ls : ZL) (st : ZS) (M : ZM) : Option ZC := match st with
  | .inr (.inr x) :: r => if 0 ≤ x ∧ i < ls.length then some (pc, zput ls i (zA x), r, M) else none
  | _ => none
def ztag (ty : FieldType) (x : Int) : Option ZV := match ty with
  | .int => some (zI x)
  | .boolean => some (zI x)
  | .object _ => some (zA x)
  | .array _ => some (zA x)
  | _ => none
/-- may a field of this type get this value? its number, then -/
def zfit (ty : FieldType) (v : ZV) : Option Int := match ty, v with
  | .int, .inl x => some x
  | .boolean, .inl x => if 0 ≤ x ∧ x ≤ 1 then some x else none
  | .object _, .inr (.inr x) => if 0 ≤ x then some x else none
  | .array _, .inr (.inr x) => if 0 ≤ x then some x else none
  | _, _ => none
def zfin (k ci : Nat) (j : Nat) : Bool := !(zTX ci j).2.2.2 || (Nat.beq (zkind k) 2 && Nat.beq (zcl k) ci)
def zgetf (e : Option (Nat × Nat × zPos)) (pc : Nat) (ls : ZL) (st : ZS) (M : ZM) : Option ZC := match e, st with
  | some (ci, j, _), .inr (.inr a) :: r => if zsh a = (10 + ci, 0) then (match ztag (ztyX ci j) (M a j) with | some v => some (pc, ls, v :: r, M) | none => none) else none
  | _, _ => none
def zputf (k : Nat) (e : Option (Nat × Nat × zPos)) (pc : Nat) (ls : ZL) (st : ZS) (M : ZM) : Option ZC := match e, st with
  | some (ci, j, _), v :: .inr (.inr a) :: r => if zsh a = (10 + ci, 0) ∧ zfin k ci j = true then (match zfit (ztyX ci j) v with | some x => some (pc, ls, r, zset M a j x) | none => none) else none
  | _, _ => none
def zlen (M : ZM) (a : Int) : Int := if a = 0 then M 0 (-1) else (zsh a).2
def zaldI (pc : Nat) (ls : ZL) (st : ZS) (M : ZM) : Option ZC := match st with
  | .inl i :: .inr (.inr a) :: r => if ((zsh a).1 = 0 ∨ (zsh a).1 = 20 ∨ (zsh a).1 = 21) ∧ 0 ≤ i ∧ i < zlen M a then some (pc, ls, zI (M a i) :: r, M) else none
  | _ => none
def zaldB (pc : Nat) (ls : ZL) (st : ZS) (M : ZM) : Option ZC := match st with
  | .inl i :: .inr (.inr a) :: r => if ((zsh a).1 = 2 ∨ (zsh a).1 = 3) ∧ 0 ≤ i ∧ i < zlen M a then some (pc, ls, zI (M a i) :: r, M) else none
  | _ => none
def zaldJ (pc : Nat) (ls : ZL) (st : ZS) (M : ZM) : Option ZC := match st with
  | .inl i :: .inr (.inr a) :: r => if (zsh a).1 = 1 ∧ 0 ≤ i ∧ i < zlen M a then some (pc, ls, zJ (M a i) :: r, M) else none
  | _ => none
def zaldA (pc : Nat) (ls : ZL) (st : ZS) (M : ZM) : Option ZC := match st with
  | .inl i :: .inr (.inr a) :: r => if ((zsh a).1 = 4 ∨ (zsh a).1 = 5) ∧ 0 ≤ i ∧ i < zlen M a then some (pc, ls, zA (M a i) :: r, M) else none
  | _ => none
def zastI (pc : Nat) (ls : ZL) (st : ZS) (M : ZM) : Option ZC := match st with
  | .inl x :: .inl i :: .inr (.inr a) :: r => if (zsh a).1 = 0 ∧ 0 ≤ i ∧ i < zlen M a then some (pc, ls, r, zset M a i x) else none
  | _ => none
def zastB (pc : Nat) (ls : ZL) (st : ZS) (M : ZM) : Option ZC := match st with
  | .inl x :: .inl i :: .inr (.inr a) :: r => if (((zsh a).1 = 2 ∧ -128 ≤ x ∧ x ≤ 127) ∨ ((zsh a).1 = 3 ∧ 0 ≤ x ∧ x ≤ 1)) ∧ 0 ≤ i ∧ i < zlen M a then some (pc, ls, r, zset M a i x) else none
  | _ => none
def zastJ (pc : Nat) (ls : ZL) (st : ZS) (M : ZM) : Option ZC := match st with
  | .inr (.inl x) :: .inl i :: .inr (.inr a) :: r => if (zsh a).1 = 1 ∧ 0 ≤ i ∧ i < zlen M a then some (pc, ls, r, zset M a i x) else none
  | _ => none
def zastA (pc : Nat) (ls : ZL) (st : ZS) (M : ZM) : Option ZC := match st with
  | .inr (.inr x) :: .inl i :: .inr (.inr a) :: r => if (zsh a).1 = 4 ∧ zsh x = (10, 0) ∧ 0 ≤ i ∧ i < zlen M a then some (pc, ls, r, zset M a i x) else none
  | _ => none
def zalen (pc : Nat) (ls : ZL) (st : ZS) (M : ZM) : Option ZC := match st with
  | .inr (.inr a) :: r => if (zsh a).1 ≤ 5 ∨ (zsh a).1 = 21 then some (pc, ls, zI (zlen M a) :: r, M) else none
  | _ => none
/-- what a new cell holds at its places -/
def zdef (t : Nat) (j : Int) : Int := if t = 4 ∨ t = 5 then -1 else if 10 ≤ t then (match ztyX (t - 10) j.toNat with | .object _ => -1 | .array _ => -1 | _ => 0) else 0
def znx (M : ZM) : Int := M (-1) 0
/-- the number 223 stands for no cell: the cells behind it keep the numbers that they had of old -/
def zskip (M : ZM) : ZM := fun a j => if (a = -1 ∧ j = 0) ∧ M (-1) 0 = 223 then 224 else M a j
def zmake (M : ZM) : ZM := fun a j => if a = -1 ∧ j = 0 then M (-1) 0 + 1 else if a = M (-1) 0 then zdef (zsh a).1 j else M a j
def znew (e : Option (Nat × zPos)) (pc : Nat) (ls : ZL) (st : ZS) (M : ZM) : Option ZC := match e with
  | some (ci, _) => if ci < 90 ∧ zsh (znx M) = (10 + ci, 0) then some (pc, ls, zA (znx M) :: st, zmake M) else none
  | none => none
def zatype : ArrayType → Nat
  | .int => 0
  | .long => 1
  | .byte => 2
  | .boolean => 3
  | _ => 98
def znewa (t : Nat) (pc : Nat) (ls : ZL) (st : ZS) (M : ZM) : Option ZC := match st with
  | .inl n :: r => if t ≤ 4 ∧ zsh (znx M) = (t, n) ∧ 0 ≤ n ∧ n ≤ 100000 then some (pc, ls, zA (znx M) :: r, zmake M) else none
  | _ => none
def zkon (long : Nat) (e : Option (Nat × Int × zPos)) (pc : Nat) (ls : ZL) (st : ZS) (M : ZM) : Option ZC := match e with
  | some (w, x, _) => if w = long then some (pc, ls, (if long = 0 then zI x else zJ x) :: st, M) else none
  | none => none
def zkonS (e : Option (Nat × Int × zPos)) (pc : Nat) (ls : ZL) (st : ZS) (M : ZM) : Option ZC := match e with
  | some (w, x, _) => if w = 2 then some (pc, ls, zA x :: st, M) else if w = 0 then some (pc, ls, zI x :: st, M) else none
  | none => none
def zcopy (M : ZM) (b p a q n : Int) : ZM := fun x j => if x = a ∧ q ≤ j ∧ j < q + n then M b (p + (j - q)) else M x j
def zacopy (pc : Nat) (ls : ZL) (st : ZS) (M : ZM) : Option ZC := match st with
  | .inl n :: .inl q :: .inr (.inr a) :: .inl p :: .inr (.inr b) :: r => if (zsh a).1 ≤ 2 ∧ (zsh b).1 = (zsh a).1 ∧ 0 ≤ n ∧ 0 ≤ q ∧ 0 ≤ p ∧ p + n ≤ (zsh b).2 ∧ q + n ≤ (zsh a).2 ∧ zcat r ≤ 8 ∧ 236 ≤ znx M then some (pc, ls, r, zcopy M b p a q n) else none
  | _ => none
def zmm (t pc : Nat) (ls : ZL) (st : ZS) (M : ZM) : Option ZC := match st with
  | .inl y :: .inl x :: r => if zcat r ≤ 8 then some (pc, ls, zI (if t = 1002 then (if x < y then y else x) else (if y < x then y else x)) :: r, M) else none
  | _ => none
/-- the signs of the law's two texts: -2 and -3 stand for them -/
def zchr (a i : Int) : Int := if a = -2 then (if i = 0 then 60 else if i = 1 then 61 else if i = 2 then 62 else 126) else (if i = 0 then 38 else 124)
def zchar (d pc : Nat) (ls : ZL) (st : ZS) (M : ZM) : Option ZC := match st with
  | .inl i :: .inr (.inr a) :: r => if 4 ≤ d ∧ zcat r ≤ 8 ∧ ((a = -2 ∧ 0 ≤ i ∧ i < 4) ∨ (a = -3 ∧ 0 ≤ i ∧ i < 2)) then some (pc, ls, zI (zchr a i) :: r, M) else none
  | _ => none
def zlenOk (i : Instr) (n : Nat) : Bool := match i with
  | .tableswitch .. => true
  | .lookupswitch .. => true
  | .aload _ | .iload _ | .lload _ | .astore _ | .istore _ | .lstore _ | .bipush _ | .ldc _ | .newarray _ => Nat.beq n 2
  | .sipush _ | .ldc_w _ | .ldc2_w _ | .iinc .. | .getfield _ | .putfield _ | .getstatic _ | .invokevirtual _ | .invokestatic _ | .invokespecial _ | .goto _ | .ifCond .. | .if_icmp .. | .new _ | .anewarray _ => Nat.beq n 3
  | .multianewarray .. => Nat.beq n 4
  | _ => Nat.beq n 1
def zstep (k : Nat) (i : Instr) (pc : Nat) (ls : ZL) (st : ZS) (M : ZM) : Option ZC := match i with
  | .iconst v => if -32768 ≤ v ∧ v ≤ 32767 then some (pc + 1, ls, zI v :: st, M) else none
  | .bipush v => if -128 ≤ v ∧ v ≤ 127 then some (pc + 2, ls, zI v :: st, M) else none
  | .sipush v => if -32768 ≤ v ∧ v ≤ 32767 then some (pc + 3, ls, zI v :: st, M) else none
  | .lconst v => some (pc + 1, ls, zJ (v.val : Int) :: st, M)
  | .ldc n => zkonS (zlk (zKl (zcl k)) n) (pc + 2) ls st M
  | .ldc_w n => zkon 0 (zlk (zKl (zcl k)) n) (pc + 3) ls st M
  | .ldc2_w n => zkon 1 (zlk (zKl (zcl k)) n) (pc + 3) ls st M
  | .iload n => zldI (zget ls n) (pc + 2) ls st M
  | .iload_n n => zldI (zget ls n.val) (pc + 1) ls st M
  | .lload n => zldJ (zget ls n) (pc + 2) ls st M
  | .lload_n n => zldJ (zget ls n.val) (pc + 1) ls st M
  | .aload n => zldA (zget ls n) (pc + 2) ls st M
  | .aload_n n => zldA (zget ls n.val) (pc + 1) ls st M
  | .istore n => zstI n (pc + 2) ls st M
  | .istore_n n => zstI n.val (pc + 1) ls st M
  | .lstore n => zstJ n (pc + 2) ls st M
  | .astore n => zstA n (pc + 2) ls st M
  | .astore_n n => zstA n.val (pc + 1) ls st M
  | .iinc n v => match zget ls n with
    | some (.inl x) => if n < ls.length then some (pc + 3, zput ls n (zI (zb (x + v))), st, M) else none
    | _ => none
  | .iadd => zbin (fun x y => zb (x + y)) (pc + 1) ls st M
  | .isub => zbin (fun x y => zb (x - y)) (pc + 1) ls st M
  | .imul => zbin (fun x y => zb (x * y)) (pc + 1) ls st M
  | .idiv => match st with
    | .inl y :: .inl x :: r => if y = 0 then none else some (pc + 1, ls, zI (zb (Int.tdiv x y)) :: r, M)
    | _ => none
  | .irem => match st with
    | .inl y :: .inl x :: r => if y = 0 then none else some (pc + 1, ls, zI (Int.tmod x y) :: r, M)
    | _ => none
  | .ineg => match st with
    | .inl x :: r => some (pc + 1, ls, zI (zb (-x)) :: r, M)
    | _ => none
  | .iand => zbin zand (pc + 1) ls st M
  | .ior => zbin zor (pc + 1) ls st M
  | .ixor => zbin zxor (pc + 1) ls st M
  | .ishl => zbin zshl (pc + 1) ls st M
  | .ishr => zbin zshr (pc + 1) ls st M
  | .iushr => zbin zushr (pc + 1) ls st M
  | .lshl => match st with
    | .inl y :: .inr (.inl x) :: r => some (pc + 1, ls, zJ (zlshl x y) :: r, M)
    | _ => none
  | .land => match st with
    | .inr (.inl y) :: .inr (.inl x) :: r => some (pc + 1, ls, zJ (zland x y) :: r, M)
    | _ => none
  | .lor => match st with
    | .inr (.inl y) :: .inr (.inl x) :: r => some (pc + 1, ls, zJ (zlor x y) :: r, M)
    | _ => none
  | .lcmp => match st with
    | .inr (.inl y) :: .inr (.inl x) :: r => some (pc + 1, ls, zI (zlcmp x y) :: r, M)
    | _ => none
  | .i2l => match st with
    | .inl x :: r => some (pc + 1, ls, zJ x :: r, M)
    | _ => none
  | .l2i => match st with
    | .inr (.inl x) :: r => some (pc + 1, ls, zI (zb x) :: r, M)
    | _ => none
  | .i2b => match st with
    | .inl x :: r => some (pc + 1, ls, zI (zi2b x) :: r, M)
    | _ => none
  | .i2s => match st with
    | .inl x :: r => some (pc + 1, ls, zI (zi2s x) :: r, M)
    | _ => none
  | .dup => match st with
    | v :: r => if z2 v = true then none else some (pc + 1, ls, v :: v :: r, M)
    | _ => none
  | .pop => match st with
    | v :: r => if z2 v = true then none else some (pc + 1, ls, r, M)
    | _ => none
  | .dup_x1 => match st with
    | v :: w :: r => if z2 v = true ∨ z2 w = true then none else some (pc + 1, ls, v :: w :: v :: r, M)
    | _ => none
  | .dup2 => match st with
    | v :: w :: r => if z2 v = true ∨ z2 w = true then none else some (pc + 1, ls, v :: w :: v :: w :: r, M)
    | _ => none
  | .goto off => zjump pc off ls st M
  | .ifCond c off => match st with
    | .inl x :: r => zbr (zcmp c x 0) pc off ls r M
    | _ => none
  | .if_icmp c off => match st with
    | .inl y :: .inl x :: r => zbr (zcmp c x y) pc off ls r M
    | _ => none
  | .tableswitch d lo hi offs => match st with
    | .inl x :: r => if x < lo ∨ hi < x then zjump pc d ls r M else (match offs[(x - lo).toNat]? with | some off => zjump pc off ls r M | none => none)
    | _ => none
  | .lookupswitch d ps => match st with
    | .inl x :: r => if (ps.toList.zip (ps.toList.drop 1)).all (fun (a, next) => a.1 < next.1) = true then zjump pc (Op.lookupswitch.offset ps.toList d x) ls r M else none
    | _ => none
  | .getfield n => zgetf (zlk (zFl (zcl k)) n) (pc + 3) ls st M
  | .putfield n => zputf k (zlk (zFl (zcl k)) n) (pc + 3) ls st M
  | .getstatic n => match zlk (zSl (zcl k)) n with
    | some (w, _) => some (pc + 3, ls, zA (w : Int) :: st, M)
    | none => none
  | .iaload => zaldI (pc + 1) ls st M
  | .baload => zaldB (pc + 1) ls st M
  | .laload => zaldJ (pc + 1) ls st M
  | .aaload => zaldA (pc + 1) ls st M
  | .iastore => zastI (pc + 1) ls st M
  | .bastore => zastB (pc + 1) ls st M
  | .lastore => zastJ (pc + 1) ls st M
  | .aastore => zastA (pc + 1) ls st M
  | .arraylength => zalen (pc + 1) ls st M
  | .new n => znew (zlk (zCl (zcl k)) n) (pc + 3) ls st (zskip M)
  | .newarray t => if zatype t ≤ 3 then znewa (zatype t) (pc + 2) ls st (zskip M) else none
  | .anewarray n => match zlk (zCl (zcl k)) n with
    | some (0, _) => znewa 4 (pc + 3) ls st (zskip M)
    | _ => none
  | _ => none
def zslots : ZS → ZL
  | [] => []
  | .inr (.inl x) :: r => some (zJ x) :: none :: zslots r
  | v :: r => some v :: zslots r
def zentry (t : Nat) (args : ZS) : ZL := zslots args ++ List.replicate (zmaxL t - (zslots args).length) none
/-- what stands ready for a call of method t: its arguments, and the rest of the stack -/
def zready (kind : Nat) (t : Nat) (st : ZS) : Option (ZS × ZS) :=
  if zkind t = kind ∧ kind ≤ 2 then
    (let n := znp t + (if kind = 0 then 0 else 1)
     if n ≤ st.length ∧ zcat (st.drop n) ≤ 8 ∧ (zslots (st.take n).reverse).length ≤ zmaxL t then
       (match kind, (st.take n).reverse with
        | 0, args => some (args, st.drop n)
        | 1, .inr (.inr a) :: args => if zsh a = (10 + zcl t, 0) ∧ zcl t < 10 then some (.inr (.inr a) :: args, st.drop n) else none
        | 2, .inr (.inr a) :: args => if 0 ≤ a then some (.inr (.inr a) :: args, st.drop n) else none
        | _, _ => none)
     else none)
  else none
def zretI (k : Nat) (x : Int) : Bool := match zret k with
  | some .int => true
  | some .boolean => decide (0 ≤ x ∧ x ≤ 1)
  | _ => false
def zretA (k : Nat) : Bool := match zret k with
  | some (.object _) => true
  | some (.array _) => true
  | _ => false
def zbody : Nat → Nat → Nat → Nat → ZL → ZS → ZM → Option (Option ZV × ZM)
  | 0, _, _, _, _, _, _ => none
  | n + 1, d, k, pc, ls, st, M => match zins k pc with
    | none => none
    | some (i, m) => if zlenOk i m = true then (match i with
      | .ireturn => match st with
        | [.inl x] => if zretI k x = true then some (some (zI x), M) else none
        | _ => none
      | .lreturn => match st with
        | [.inr (.inl x)] => if zret k = some .long then some (some (zJ x), M) else none
        | _ => none
      | .areturn => match st with
        | [.inr (.inr a)] => if zretA k = true ∧ 0 ≤ a then some (some (zA a), M) else none
        | _ => none
      | .return_ => match st with
        | [] => if zret k = none then some (none, M) else none
        | _ => none
      | .invokespecial j => match zlk (zMl (zcl k)) j with
        | some (t, _, _) => if t = 1000 then (match st, d with
            | .inr (.inr a) :: r, _ + 1 => if 0 ≤ a ∧ zcat r ≤ 8 then zbody n d k (pc + 3) ls r M else none
            | _, _ => none)
          else (match zready 2 t st, d with
            | some (args, r), e + 1 => (match zbody n e t 0 (zentry t args) [] M with
              | some (v, M') => zbody n d k (pc + 3) ls (v.toList ++ r) M'
              | none => none)
            | _, _ => none)
        | none => none
      | .invokestatic j => match zlk (zMl (zcl k)) j with
        | some (t, _, _) => if t = 1001 then (match d, zacopy (pc + 3) ls st M with
            | _ + 1, some (pc', ls', st', M') => zbody n d k pc' ls' st' M'
            | _, _ => none)
          else if t = 1002 ∨ t = 1003 then (match d, zmm t (pc + 3) ls st M with
            | _ + 1, some (pc', ls', st', M') => zbody n d k pc' ls' st' M'
            | _, _ => none)
          else (match zready 0 t st, d with
            | some (args, r), e + 1 => (match zbody n e t 0 (zentry t args) [] M with
              | some (v, M') => zbody n d k (pc + 3) ls (v.toList ++ r) M'
              | none => none)
            | _, _ => none)
        | none => none
      | .invokevirtual j => match zlk (zMl (zcl k)) j with
        | some (t, _, _) => if t = 1004 then (match zchar d (pc + 3) ls st M with
            | some (pc', ls', st', M') => zbody n d k pc' ls' st' M'
            | none => none)
          else (match zready 1 t st, d with
            | some (args, r), e + 1 => (match zbody n e t 0 (zentry t args) [] M with
              | some (v, M') => zbody n d k (pc + 3) ls (v.toList ++ r) M'
              | none => none)
            | _, _ => none)
        | none => none
      | _ => match zstep k i pc ls st M with
        | some (pc', ls', st', M') => zbody n d k pc' ls' st' M'
        | none => none) else none
end
section
/-! ===== what the small machine's state says of the large one's ===== -/
abbrev zBs : Type := Nat × Nat × (Nat × Nat × Nat) × Nat
/-- how many cells lie ahead of cell a; the cell at a place -/
def zix (a : Int) : Nat := if a < 224 then (a - 3).toNat else (a - 4).toNat
def zce (q : Nat) : Int := if q < 220 then (q : Int) + 3 else (q : Int) + 4
theorem zce_ix {a : Int} (h3 : 3 ≤ a) (hg : a ≠ 223) : zce (zix a) = a := by
  unfold zce zix
  split <;> split <;> omega
theorem zix_ce (q : Nat) : zix (zce q) = q := by
  unfold zce zix
  split <;> split <;> omega
theorem zce_r (q : Nat) : 3 ≤ zce q ∧ zce q ≠ 223 := by
  unfold zce
  split <;> omega
theorem zix_lt {a b : Int} (h3 : 3 ≤ a) (hg : a ≠ 223) (h : a < b) : zix a < zix b := by
  unfold zix
  split <;> split <;> omega
theorem zce_lt {q : Nat} {b : Int} (h : q < zix b) : zce q < b := by
  unfold zce
  unfold zix at h
  split at h <;> split <;> omega
def zad (B : zBs) (a : Int) : Nat := if a = 0 then B.1 else if a = 1 then B.2.1 else if a = 2 then B.2.2.1.1 else B.2.2.2 + zix a
def zrv (B : zBs) (a : Int) : Value := if a < 0 then (if a = -2 then .ref B.2.2.1.2.1 else if a = -3 then .ref B.2.2.1.2.2 else .null) else .ref (zad B a)
def zenc (B : zBs) (v : ZV) : Value := match v with
  | .inl x => .int (Int32.ofInt x)
  | .inr (.inl x) => .long (Int64.ofInt x)
  | .inr (.inr a) => zrv B a
def zi32 (x : Int) : Prop := -2147483648 ≤ x ∧ x < 2147483648
def zi64 (x : Int) : Prop := -9223372036854775808 ≤ x ∧ x < 9223372036854775808
def zokV (n : Int) (v : ZV) : Prop := match v with
  | .inl x => zi32 x
  | .inr (.inl x) => zi64 x
  | .inr (.inr a) => -3 ≤ a ∧ a < n
def zty (aD : Nat → ClassId) : List (ClassId × FieldType) := [(aD 0, .int), (aD 1, .long), (aD 2, .byte), (aD 3, .boolean), (aD 4, .object RX0)]
def zro (B : zBs) (a : Int) : Option Nat := if a < 0 then (if a = -2 then some B.2.2.1.2.1 else if a = -3 then some B.2.2.1.2.2 else none) else some (zad B a)
theorem zro_rf (B : zBs) (a : Int) : va_rf (zro B a) = zrv B a := by
  unfold zro zrv
  split
  · split
    · rfl
    · split <;> rfl
  · rfl
def zencF (B : zBs) (ty : FieldType) (x : Int) : Value := match ty with
  | .object _ => zrv B x
  | .array _ => zrv B x
  | _ => .int (Int32.ofInt x)
/-- the cell a of the memory, as the kit's worlds have it -/
def zent (B : zBs) (aD : Nat → ClassId) (M : ZM) (a : Int) : va_E :=
  if (zsh a).1 = 0 then .inl (aD 0, ((zsh a).2).toNat, .inl (fun j => Int32.ofInt (M a j)))
  else if (zsh a).1 = 1 then .inl (aD 1, ((zsh a).2).toNat, .inr (.inl (fun j => Int64.ofInt (M a j))))
  else if (zsh a).1 = 2 then .inl (aD 2, ((zsh a).2).toNat, .inl (fun j => Int32.ofInt (M a j)))
  else if (zsh a).1 = 3 then .inl (aD 3, ((zsh a).2).toNat, .inl (fun j => Int32.ofInt (M a j)))
  else if (zsh a).1 = 4 then .inl (aD 4, ((zsh a).2).toNat, .inr (.inr (.inr (.inr (fun j => zro B (M a j))))))
  else if (zsh a).1 = 5 then .inl (aD 5, ((zsh a).2).toNat, .inr (.inr (.inr (.inr (fun j => zro B (M a j))))))
  else .inr ((zsh a).1 - 10, (List.range (zNf ((zsh a).1 - 10))).map (fun j => zencF B (ztyX ((zsh a).1 - 10) j) (M a j)))
def zW (B : zBs) (aD : Nat → ClassId) (M : ZM) : va_W := (List.range (zix (znx M))).map (fun q => (B.2.2.2 + q, zent B aD M (zce q)))
/-- the kind of place j of cell a: 0 an int, 1 a long, 2 a byte, 3 a truth, 4 a reference -/
def zpk (a : Int) (j : Int) : Nat := if (zsh a).1 < 4 then (zsh a).1 else if (zsh a).1 < 10 then 4 else match ztyX ((zsh a).1 - 10) j.toNat with
  | .object _ => 4
  | .array _ => 4
  | .boolean => 3
  | _ => 0
def zcnt (a : Int) : Int := if (zsh a).1 < 10 then (zsh a).2 else (zNf ((zsh a).1 - 10) : Nat)
def zin (n : Int) (k : Nat) (x : Int) : Prop := match k with
  | 0 => zi32 x
  | 1 => zi64 x
  | 2 => -128 ≤ x ∧ x ≤ 127
  | 3 => 0 ≤ x ∧ x ≤ 1
  | _ => -1 ≤ x ∧ x < n
def zokM (M : ZM) : Prop := ∀ a : Int, 3 ≤ a → a < znx M → ∀ j : Int, 0 ≤ j → j < zcnt a → zin (znx M) (zpk a j) (M a j)
abbrev zAq (B : zBs) : Nat → Prop := fun q => B.2.2.2 ≤ q
def zcol (j : Nat) : Int := match j with
  | 0 => 0 | 1 => 1 | 2 => 2 | 3 => 0 | 4 => 2 | 5 => 1 | 6 => 1 | 7 => 0 | 8 => 2 | 9 => 1 | 10 => 2 | 11 => 0 | 12 => 2 | 13 => 0 | 14 => 1 | 15 => 2 | 16 => 1 | _ => 0
def zwei (j : Nat) : Int := match j with
  | 0 => 100 | 1 => 10 | _ => 1
/-- what never changes: the script, the two tables -/
def zS (L : Nat) (xs : Nat → Int32) (M : ZM) : Prop := M 0 (-1) = (L : Int) ∧ (∀ j : Nat, j < L → M 0 j = (xs j).toInt) ∧ (∀ j : Nat, j < 18 → M 1 j = zcol j) ∧ ∀ j : Nat, j < 3 → M 2 j = zwei j
def zH (B : zBs) (D : va_G) (aD : Nat → ClassId) (M : ZM) (H : Heap) : Prop := 3 ≤ znx M ∧ (znx M = 236 ∨ znx M < 236 ∧ H.size = B.2.2.2 + zix (znx M)) ∧ va_P D vwCl (zW B aD M) H ∧ zokM M
def zOv (U : State) : Prop := va_AO RX0 U
theorem zOv.moved {u U : State} (hvm : u.vm.Alike U.vm) (h : zOv u) : zOv U := va_AO.moved hvm h
/-- the law's two texts, and what charAt asks for -/
def zStr (B : zBs) (U : State) : Prop := (∃ adV : Nat → Nat, vk_S 2 [4, 2] [[60, 61, 62, 126], [38, 124]] (fun i => if i = 0 then B.2.2.1.2.1 else B.2.2.1.2.2) adV (zAq B) U U.heap) ∧ (vk_R "SkippingKeysLaw" 52 "<=>~" B.2.2.1.2.1 U ∧ vk_R "SkippingKeysLaw" 60 "&|" B.2.2.1.2.2 U) ∧ va_Z "java/lang/String" "COMPACT_STRINGS" "Z" (.int 1) (zAq B) U U.heap ∧ ∃ v : Value, va_Z "jdk/internal/util/Preconditions" "SIOOBE_FORMATTER" "Ljava/util/function/BiFunction;" v (zAq B) U U.heap ∧ (v = .null ∨ ∃ b, v = .ref b)
theorem zStr.moved {B : zBs} {u U : State} (h : zStr B u) (hvm : u.vm.Alike U.vm) (hR : ∀ k tx a, vk_R "SkippingKeysLaw" k tx a u → vk_R "SkippingKeysLaw" k tx a U) (hk : ∀ q : Nat, q < u.heap.size → ¬ zAq B q → U.heap[q]? = u.heap[q]?) : zStr B U := by
  obtain ⟨⟨adV, h1⟩, ⟨h2, h3⟩, h4, v, h5, h6⟩ := h
  exact ⟨⟨adV, (h1.moved hvm).kept hk⟩, ⟨hR _ _ _ h2, hR _ _ _ h3⟩, (h4.moved hvm).kept hk, v, (h5.moved hvm).kept hk, h6⟩
def zU (B : zBs) (D : va_G) (aD : Nat → ClassId) (L : Nat) (xs : Nat → Int32) (U : State) : Prop := va_K D vwCl (zty aD) U ∧ va_X B.1 L xs U U.heap ∧ L ≤ 4000 ∧ B.1 < B.2.2.2 ∧ B.2.2.2 ≤ U.heap.size ∧
  va_Z "SkippingKeys" "COLUMN_AT" "[I" (.ref B.2.1) (zAq B) U U.heap ∧ va_Z "SkippingKeys" "WEIGHT" "[I" (.ref B.2.2.1.1) (zAq B) U U.heap ∧
  va_T .int B.2.1 18 (fun j => .int (Int32.ofInt (zcol j))) (zAq B) U U.heap ∧ va_T .int B.2.2.1.1 3 (fun j => .int (Int32.ofInt (zwei j))) (zAq B) U U.heap ∧ (∀ w ∈ zNs, va_Nw w U) ∧ zOv U ∧ zStr B U
def zlr (B : zBs) (n : Int) (N : Nat) (ls : ZL) (LS : Array Slot) : Prop := ls.length = N ∧ LS.size = N ∧ lv_wf LS ∧ ∀ (i : Nat) (v : ZV), zget ls i = some v → LS[i]? = some (.val (zenc B v)) ∧ zokV n v
/-- numbers -/
theorem zi32_of (x : Int) (h : zi32 x) : (Int32.ofInt x).toInt = x := by
  rw [Int32.toInt_ofInt]
  obtain ⟨h1, h2⟩ := h
  show Int.bmod x 4294967296 = x
  exact Int.bmod_eq_of_le (by omega) (by omega)
theorem zi64_of (x : Int) (h : zi64 x) : (Int64.ofInt x).toInt = x := by
  rw [Int64.toInt_ofInt]
  obtain ⟨h1, h2⟩ := h
  show Int.bmod x 18446744073709551616 = x
  exact Int.bmod_eq_of_le (by omega) (by omega)
theorem zi32_r (v : Int32) : zi32 v.toInt := ⟨by have := Int32.le_toInt v; omega, by have := Int32.toInt_lt v; omega⟩
theorem zi64_r (v : Int64) : zi64 v.toInt := ⟨by have := Int64.le_toInt v; omega, by have := Int64.toInt_lt v; omega⟩
theorem zb_eq (z : Int) : zb z = (Int32.ofInt z).toInt := by
  rw [Int32.toInt_ofInt]
  rfl
theorem zb_r (z : Int) : zi32 (zb z) := by rw [zb_eq]; exact zi32_r _
theorem zb_of (z : Int) : Int32.ofInt (zb z) = Int32.ofInt z := by rw [zb_eq, Int32.ofInt_toInt]
theorem zb_id {z : Int} (h : -2147483648 ≤ z) (h2 : z < 2147483648) : zb z = z := by rw [zb_eq, zi32_of z ⟨h, h2⟩]
theorem zlt32 {x y : Int} (hx : zi32 x) (hy : zi32 y) : Int32.ofInt x < Int32.ofInt y ↔ x < y := by
  rw [Int32.lt_iff_toInt_lt, zi32_of x hx, zi32_of y hy]
theorem zle32 {x y : Int} (hx : zi32 x) (hy : zi32 y) : Int32.ofInt x ≤ Int32.ofInt y ↔ x ≤ y := by
  rw [Int32.le_iff_toInt_le, zi32_of x hx, zi32_of y hy]
theorem zeq32 {x y : Int} (hx : zi32 x) (hy : zi32 y) : Int32.ofInt x = Int32.ofInt y ↔ x = y := by
  rw [← Int32.toInt_inj, zi32_of x hx, zi32_of y hy]
theorem z032 : zi32 0 := ⟨by decide, by decide⟩
theorem z0of : Int32.ofInt 0 = 0 := rfl
theorem znc {i : Int} (h0 : 0 ≤ i) (h : zi32 i) : (Int32.ofInt i).toNatClampNeg = i.toNat := by
  show (Int32.ofInt i).toInt.toNat = i.toNat
  rw [zi32_of i h]
theorem zvp {i : Int} {n : Nat} (h0 : 0 ≤ i) (h : zi32 i) (h1 : i < (n : Int)) : vp_in (Int32.ofInt i) n := by
  unfold vp_in
  rw [← z0of, zlt32 h z032, znc h0 h]
  omega
/-- worlds -/
theorem zW_len (B : zBs) (aD : Nat → ClassId) (M : ZM) : (zW B aD M).length = zix (znx M) := by simp [zW]
theorem zW_get {B : zBs} {aD : Nat → ClassId} {M : ZM} {a : Int} (h3 : 3 ≤ a) (hn : a < znx M) (hg : a ≠ 223) : (zW B aD M)[zix a]? = some (zad B a, zent B aD M a) := by
  have hl : zix a < zix (znx M) := zix_lt h3 hg hn
  have e1 : zce (zix a) = a := zce_ix h3 hg
  have e2 : B.2.2.2 + zix a = zad B a := by
    unfold zad
    rw [if_neg (by omega), if_neg (by omega), if_neg (by omega)]
  simp only [zW, List.getElem?_map, List.getElem?_range hl, Option.map_some, e1, e2]
theorem zW_set {B : zBs} {aD : Nat → ClassId} {M M' : ZM} {a : Int} {e : va_E} (h3 : 3 ≤ a) (hn : a < znx M) (hg : a ≠ 223) (hx : znx M' = znx M) (he : zent B aD M' a = e) (ho : ∀ a' : Int, a' ≠ a → zent B aD M' a' = zent B aD M a') : (zW B aD M).set (zix a) (zad B a, e) = zW B aD M' := by
  apply List.ext_getElem?
  intro q
  by_cases hq : q = zix a
  · subst hq
    rw [List.getElem?_set_self (by rw [zW_len]; exact zix_lt h3 hg hn), ← he]
    exact (zW_get h3 (by rw [hx]; exact hn) hg).symm
  · rw [List.getElem?_set_ne (fun h => hq h.symm)]
    by_cases hl : q < zix (znx M)
    · have g1 := zW_get (B := B) (aD := aD) (M := M) (a := zce q) (zce_r q).1 (zce_lt hl) (zce_r q).2
      have g2 := zW_get (B := B) (aD := aD) (M := M') (a := zce q) (zce_r q).1 (by rw [hx]; exact zce_lt hl) (zce_r q).2
      rw [zix_ce] at g1 g2
      rw [g1, g2, ho _ (fun z => hq (by rw [← z, zix_ce]))]
    · rw [List.getElem?_eq_none (by rw [zW_len]; omega), List.getElem?_eq_none (by rw [zW_len, hx]; omega)]
theorem zW_D {B : zBs} {aD : Nat → ClassId} {M : ZM} : va_D (zAq B) (zW B aD M) := by
  have key : ∀ (i : Nat) (p : Nat × va_E), (zW B aD M)[i]? = some p → p.1 = B.2.2.2 + i := by
    intro i p h
    unfold zW at h
    rw [List.getElem?_map] at h
    cases hr : (List.range (zix (znx M)))[i]? with
    | none => rw [hr] at h; cases h
    | some q =>
      rw [hr] at h
      have hq : i < (List.range (zix (znx M))).length := (List.getElem?_eq_some_iff.mp hr).1
      rw [List.getElem?_range (by simpa using hq)] at hr
      cases hr
      cases h
      rfl
  refine ⟨fun i j p q hp hq h => ?_, fun k q hq => ?_⟩
  · have h1 := key i p hp
    have h2 := key j q hq
    omega
  · show B.2.2.2 ≤ q.1
    rw [key k q hq]
    omega
theorem zgh_c {k : Nat} (h : zgh (zrow k) = false) : zcl k ≠ 9 := fun e => by
  have : zgh (zrow k) = true := by
    unfold zgh
    rw [show (zrow k).2.2.2.2.2.2.1 = 9 from e]
    rfl
  rw [this] at h
  cases h
end
section
/-! ===== one step of the small machine is one of the large one: what changes no cell ===== -/
def zCtx (B : zBs) (D : va_G) (aD : Nat → ClassId) (L : Nat) (xs : Nat → Int32) (k : Nat) (p : Program) (s : State) (m : MethodId) (args : Array Value) (meth : Method) (c : Code) : Prop :=
  p.tables.exec = Jvm.exec ∧ c.code = zcode k ∧ c.maxLocals = zmaxL k ∧ s.vm.findClass (zcn (zcl k)) = some m.cls ∧ (∀ w ∈ zTs, w.before args s = true) ∧ ((zkind k = 2 → meth.name = "<init>") ∧ zgh (zrow k) = false) ∧ zU B D aD L xs s
def zSt (B : zBs) (D : va_G) (aD : Nat → ClassId) (L : Nat) (xs : Nat → Int32) (k : Nat) (s : State) (H : Heap) (locs : List Loc) (ls : ZL) (LS : Array Slot) (st : ZS) (M : ZM) : Prop :=
  zH B D aD M H ∧ zS L xs M ∧ va_S (zAq B) s.heap H locs ∧ zlr B (znx M) (zmaxL k) ls LS ∧ ∀ v ∈ st, zokV (znx M) v
theorem zSt.to {B : zBs} {D : va_G} {aD : Nat → ClassId} {L : Nat} {xs : Nat → Int32} {k : Nat} {s : State} {H : Heap} {locs : List Loc} {ls : ZL} {LS : Array Slot} {st st' : ZS} {M : ZM} (S : zSt B D aD L xs k s H locs ls LS st M) (h : ∀ v ∈ st', zokV (znx M) v) : zSt B D aD L xs k s H locs ls LS st' M :=
  ⟨S.1, S.2.1, S.2.2.1, S.2.2.2.1, h⟩
theorem zget_some {ls : ZL} {i : Nat} {v : ZV} (h : zget ls i = some v) : ls[i]? = some (some v) := by
  unfold zget at h
  split at h
  · next w e => cases h; exact e
  · cases h
theorem zget_lt {ls : ZL} {i : Nat} {v : ZV} (h : zget ls i = some v) : i < ls.length := (List.getElem?_eq_some_iff.mp (zget_some h)).1
def zll (B : zBs) (ls : ZL) : List (Nat × Value) := (List.range ls.length).filterMap (fun i => (zget ls i).map (fun v => (i, zenc B v)))
theorem zll_mem {B : zBs} {ls : ZL} {q : Nat × Value} : q ∈ zll B ls ↔ ∃ v, zget ls q.1 = some v ∧ q.2 = zenc B v := by
  unfold zll
  rw [List.mem_filterMap]
  constructor
  · rintro ⟨i, -, h⟩
    cases hz : zget ls i with
    | none => rw [hz] at h; cases h
    | some v => rw [hz] at h; cases h; exact ⟨v, hz, rfl⟩
  · rintro ⟨v, h1, h2⟩
    refine ⟨q.1, List.mem_range.mpr (zget_lt h1), ?_⟩
    rw [h1]
    show some (q.1, zenc B v) = some q
    rw [← h2]
theorem zlr.has {B : zBs} {n : Int} {N : Nat} {ls : ZL} {LS : Array Slot} (h : zlr B n N ls LS) : lv_has LS N (zll B ls) := by
  refine ⟨h.2.1, h.2.2.1, fun q hq => ?_⟩
  obtain ⟨v, h1, h2⟩ := zll_mem.mp hq
  rw [h2]
  exact (h.2.2.2 q.1 v h1).1
theorem zget_set {ls : ZL} {i j : Nat} {x : Option ZV} {v : ZV} (h : zget (ls.set i x) j = some v) : (j = i ∧ x = some v) ∨ (j ≠ i ∧ zget ls j = some v) := by
  have h1 := zget_some h
  by_cases e : j = i
  · subst e
    have hl : j < (ls.set j x).length := zget_lt h
    rw [List.getElem?_set_self (by simpa using hl)] at h1
    exact Or.inl ⟨rfl, Option.some.inj h1⟩
  · rw [List.getElem?_set_ne (fun q => e q.symm)] at h1
    refine Or.inr ⟨e, ?_⟩
    unfold zget
    rw [h1]
theorem zget_clr {ls : ZL} {i j : Nat} {v : ZV} (h : zget (zclr ls i) j = some v) : zget ls j = some v ∧ ¬ (j + 1 = i ∧ z2 v = true) := by
  unfold zclr at h
  split at h
  · exact ⟨h, fun q => by omega⟩
  · next i2 =>
    split at h
    · next x e =>
      rcases zget_set h with ⟨h1, h2⟩ | ⟨h1, h2⟩
      · cases h2
      · exact ⟨h2, fun q => h1 (by omega)⟩
    · next hn =>
      refine ⟨h, fun q => ?_⟩
      have ej : j = i2 := by omega
      subst ej
      obtain ⟨-, q2⟩ := q
      match v, h, q2 with
      | .inr (.inl x), h, _ => exact hn x h
      | .inl x, _, q2 => cases q2
      | .inr (.inr x), _, q2 => cases q2
theorem zclr_len (ls : ZL) (i : Nat) : (zclr ls i).length = ls.length := by
  unfold zclr
  split
  · rfl
  · split
    · simp
    · rfl
theorem zput_len (ls : ZL) (i : Nat) (v : ZV) : (zput ls i v).length = ls.length := by
  unfold zput
  split <;> simp [zclr_len]
theorem z2_cat {B : zBs} (v : ZV) : (zenc B v).category = 2 ↔ z2 v = true := by
  match v with
  | .inl x => simp [zenc, Value.category, z2]
  | .inr (.inl x) => simp [zenc, Value.category, z2]
  | .inr (.inr x) =>
    simp only [zenc, zrv, z2]
    split
    · split
      · simp [Value.category]
      · split <;> simp [Value.category]
    · simp [Value.category]
/-- storing a value of one slot -/
theorem zlr.put1 {B : zBs} {n : Int} {N : Nat} {ls : ZL} {LS LS' : Array Slot} {i : Nat} {v : ZV} (h : zlr B n N ls LS) (hv : zokV n v) (h2 : z2 v = false)
    (g : lv_has LS' N ((i, zenc B v) :: (zll B ls).filter (fun q => !(q.1 == i) && !(q.1 + 1 == i && q.2.category == 2)))) : zlr B n N (zput ls i v) LS' := by
  have e : zput ls i v = (zclr ls i).set i (some v) := by
    match v, h2 with
    | .inl x, _ => rfl
    | .inr (.inr x), _ => rfl
  refine ⟨(zput_len ls i v).trans h.1, g.1, g.2.1, fun j w hw => ?_⟩
  rw [e] at hw
  rcases zget_set hw with ⟨h3, h4⟩ | ⟨h3, h4⟩
  · cases h4
    subst h3
    exact ⟨g.2.2 (j, zenc B v) List.mem_cons_self, hv⟩
  · obtain ⟨h5, h6⟩ := zget_clr h4
    refine ⟨g.2.2 (j, zenc B w) (List.mem_cons_of_mem _ (List.mem_filter.mpr ⟨zll_mem.mpr ⟨w, h5, rfl⟩, ?_⟩)), (h.2.2.2 j w h5).2⟩
    simp only [Bool.and_eq_true, Bool.not_eq_true', beq_eq_false_iff_ne, ne_eq, Bool.and_eq_false_iff]
    refine ⟨h3, ?_⟩
    by_cases q : j + 1 = i
    · right
      intro q2
      exact h6 ⟨q, z2_cat w |>.mp q2⟩
    · exact Or.inl q
theorem zlr.put2 {B : zBs} {n : Int} {N : Nat} {ls : ZL} {LS LS' : Array Slot} {i : Nat} {x : Int} (h : zlr B n N ls LS) (hv : zi64 x)
    (g : lv_has LS' N ((i, Value.long (Int64.ofInt x)) :: (zll B ls).filter (fun q => !(q.1 == i) && (!(q.1 == i + 1) && !(q.1 + 1 == i && q.2.category == 2))))) : zlr B n N (zput ls i (zJ x)) LS' := by
  have e : zput ls i (zJ x) = ((zclr ls i).set i (some (zJ x))).set (i + 1) none := rfl
  refine ⟨(zput_len ls i _).trans h.1, g.1, g.2.1, fun j w hw => ?_⟩
  rw [e] at hw
  rcases zget_set hw with ⟨-, h4⟩ | ⟨h0, hw⟩
  · cases h4
  rcases zget_set hw with ⟨h3, h4⟩ | ⟨h3, h4⟩
  · cases h4
    subst h3
    exact ⟨g.2.2 (j, zenc B (zJ x)) List.mem_cons_self, hv⟩
  · obtain ⟨h5, h6⟩ := zget_clr h4
    refine ⟨g.2.2 (j, zenc B w) (List.mem_cons_of_mem _ (List.mem_filter.mpr ⟨zll_mem.mpr ⟨w, h5, rfl⟩, ?_⟩)), (h.2.2.2 j w h5).2⟩
    simp only [Bool.and_eq_true, Bool.not_eq_true', beq_eq_false_iff_ne, ne_eq, Bool.and_eq_false_iff]
    refine ⟨h3, h0, ?_⟩
    by_cases q : j + 1 = i
    · right
      intro q2
      exact h6 ⟨q, z2_cat w |>.mp q2⟩
    · exact Or.inl q
theorem zsome {α β γ δ : Type} {a a' : α} {b b' : β} {c c' : γ} {d d' : δ} (h : some (a, b, c, d) = some (a', b', c', d')) : a = a' ∧ b = b' ∧ c = c' ∧ d = d' := by
  cases h
  exact ⟨rfl, rfl, rfl, rfl⟩
section ZSTEP
variable {p : Program} {l : Launch} {e : Env} {R : Room} {s : State} {m : MethodId} {args : Array Value} {below : List Frame} {meth : Method} {c : Code} {H : Heap} {locs : List Loc} {cells slots : Nat} {Q : State → Prop}
variable {B : zBs} {D : va_G} {aD : Nat → ClassId} {L : Nat} {xs : Nat → Int32} {k : Nat} {pc pc' : Nat} {ls ls' : ZL} {st st' : ZS} {M M' : ZM} {LS : Array Slot}
theorem zs_kon (S : zSt B D aD L xs k s H locs ls LS st M) {v : ZV} {n : Nat} (hv : zokV (znx M) v) (h : some (pc + n, ls, v :: st, M) = some (pc', ls', st', M'))
    (row : W p l e R s m args below meth c H locs cells slots Q (F0 m (pc + n) LS (zenc B v :: st.map (zenc B))) → W p l e R s m args below meth c H locs cells slots Q (F0 m pc LS (st.map (zenc B))))
    (kk : ∀ LS', zSt B D aD L xs k s H locs ls' LS' st' M' → M' = M → W p l e R s m args below meth c H locs cells slots Q (F0 m pc' LS' (st'.map (zenc B)))) : W p l e R s m args below meth c H locs cells slots Q (F0 m pc LS (st.map (zenc B))) := by
  obtain ⟨rfl, rfl, rfl, rfl⟩ := zsome h
  exact row (kk LS (S.to fun w hw => (List.mem_cons.mp hw).elim (fun e => e ▸ hv) (S.2.2.2.2 w)) rfl)
theorem zs_bin (S : zSt B D aD L xs k s H locs ls LS st M) {f : Int → Int → Int} {g : Int32 → Int32 → Int32} (hfg : ∀ x y : Int, zi32 x → zi32 y → Int32.ofInt (f x y) = g (Int32.ofInt x) (Int32.ofInt y) ∧ zi32 (f x y)) (h : zbin f (pc + 1) ls st M = some (pc', ls', st', M'))
    (row : ∀ (x y : Int32) (rest : List Value), W p l e R s m args below meth c H locs cells slots Q (F0 m (pc + 1) LS (.int (g x y) :: rest)) → W p l e R s m args below meth c H locs cells slots Q (F0 m pc LS (.int y :: .int x :: rest)))
    (kk : ∀ LS', zSt B D aD L xs k s H locs ls' LS' st' M' → M' = M → W p l e R s m args below meth c H locs cells slots Q (F0 m pc' LS' (st'.map (zenc B)))) : W p l e R s m args below meth c H locs cells slots Q (F0 m pc LS (st.map (zenc B))) := by
  unfold zbin at h
  split at h
  · next y x r =>
    obtain ⟨rfl, rfl, rfl, rfl⟩ := zsome h
    have hx : zi32 x := S.2.2.2.2 (.inl x) (List.mem_cons_of_mem _ List.mem_cons_self)
    have hy : zi32 y := S.2.2.2.2 (.inl y) List.mem_cons_self
    obtain ⟨e1, e2⟩ := hfg x y hx hy
    refine row (Int32.ofInt x) (Int32.ofInt y) (r.map (zenc B)) ?_
    rw [← e1]
    exact kk LS (S.to fun w hw => (List.mem_cons.mp hw).elim (fun e => e ▸ e2) (fun h => S.2.2.2.2 w (List.mem_cons_of_mem _ (List.mem_cons_of_mem _ h)))) rfl
  · cases h
theorem zs_un (S : zSt B D aD L xs k s H locs ls LS st M) {v w : ZV} {r : ZS} (hst : st = v :: r) (hw : zokV (znx M) v → zokV (znx M) w) {n : Nat} (h : some (pc + n, ls, w :: r, M) = some (pc', ls', st', M'))
    (row : zokV (znx M) v → W p l e R s m args below meth c H locs cells slots Q (F0 m (pc + n) LS (zenc B w :: r.map (zenc B))) → W p l e R s m args below meth c H locs cells slots Q (F0 m pc LS (zenc B v :: r.map (zenc B))))
    (kk : ∀ LS', zSt B D aD L xs k s H locs ls' LS' st' M' → M' = M → W p l e R s m args below meth c H locs cells slots Q (F0 m pc' LS' (st'.map (zenc B)))) : W p l e R s m args below meth c H locs cells slots Q (F0 m pc LS (st.map (zenc B))) := by
  subst hst
  obtain ⟨rfl, rfl, rfl, rfl⟩ := zsome h
  have hv : zokV (znx M) v := S.2.2.2.2 v List.mem_cons_self
  exact row hv (kk LS (S.to fun u hu => (List.mem_cons.mp hu).elim (fun e => e ▸ hw hv) (fun h => S.2.2.2.2 u (List.mem_cons_of_mem _ h))) rfl)
theorem zs_bi (S : zSt B D aD L xs k s H locs ls LS st M) {v1 v2 w : ZV} {r : ZS} (hst : st = v1 :: v2 :: r) (hw : zokV (znx M) v1 → zokV (znx M) v2 → zokV (znx M) w) {n : Nat} (h : some (pc + n, ls, w :: r, M) = some (pc', ls', st', M'))
    (row : zokV (znx M) v1 → zokV (znx M) v2 → W p l e R s m args below meth c H locs cells slots Q (F0 m (pc + n) LS (zenc B w :: r.map (zenc B))) → W p l e R s m args below meth c H locs cells slots Q (F0 m pc LS (zenc B v1 :: zenc B v2 :: r.map (zenc B))))
    (kk : ∀ LS', zSt B D aD L xs k s H locs ls' LS' st' M' → M' = M → W p l e R s m args below meth c H locs cells slots Q (F0 m pc' LS' (st'.map (zenc B)))) : W p l e R s m args below meth c H locs cells slots Q (F0 m pc LS (st.map (zenc B))) := by
  subst hst
  obtain ⟨rfl, rfl, rfl, rfl⟩ := zsome h
  have hv1 : zokV (znx M) v1 := S.2.2.2.2 v1 List.mem_cons_self
  have hv2 : zokV (znx M) v2 := S.2.2.2.2 v2 (List.mem_cons_of_mem _ List.mem_cons_self)
  exact row hv1 hv2 (kk LS (S.to fun u hu => (List.mem_cons.mp hu).elim (fun e => e ▸ hw hv1 hv2) (fun h => S.2.2.2.2 u (List.mem_cons_of_mem _ (List.mem_cons_of_mem _ h)))) rfl)
theorem zjump_at {off : Int} (h : zjump pc off ls st M = some (pc', ls', st', M')) : (pc : Int) + off = (pc' : Int) ∧ ls' = ls ∧ st' = st ∧ M' = M := by
  unfold zjump at h
  split at h
  · next h0 =>
    obtain ⟨rfl, rfl, rfl, rfl⟩ := zsome h
    exact ⟨(Int.toNat_of_nonneg h0).symm, rfl, rfl, rfl⟩
  · cases h
theorem zbr_at {b : Bool} {off : Int} (h : zbr b pc off ls st M = some (pc', ls', st', M')) : ∃ tgt : Nat, (pc : Int) + off = (tgt : Int) ∧ pc' = (if b = true then tgt else pc + 3) ∧ ls' = ls ∧ st' = st ∧ M' = M := by
  unfold zbr at h
  split at h
  · next h0 =>
    refine ⟨((pc : Int) + off).toNat, (Int.toNat_of_nonneg h0).symm, ?_⟩
    split at h
    · next hb =>
      obtain ⟨rfl, rfl, rfl, rfl⟩ := zsome h
      exact ⟨by rw [if_pos hb], rfl, rfl, rfl⟩
    · next hb =>
      obtain ⟨rfl, rfl, rfl, rfl⟩ := zsome h
      exact ⟨by rw [if_neg hb], rfl, rfl, rfl⟩
  · cases h
theorem zs_if2 (S : zSt B D aD L xs k s H locs ls LS st M) (hx : p.tables.exec = Jvm.exec) (hb : c.code = zcode k) {cm : ClassFile.Cond} {off : Int} (hd : decode (zcode k) pc = .ok (.if_icmp cm off, 3)) {x y : Int} {r : ZS} (hst : st = .inl y :: .inl x :: r)
    (h : zbr (zcmp cm x y) pc off ls r M = some (pc', ls', st', M'))
    (kk : ∀ LS', zSt B D aD L xs k s H locs ls' LS' st' M' → M' = M → W p l e R s m args below meth c H locs cells slots Q (F0 m pc' LS' (st'.map (zenc B)))) : W p l e R s m args below meth c H locs cells slots Q (F0 m pc LS (st.map (zenc B))) := by
  subst hst
  have hx2 : zi32 x := S.2.2.2.2 (.inl x) (List.mem_cons_of_mem _ List.mem_cons_self)
  have hy : zi32 y := S.2.2.2.2 (.inl y) List.mem_cons_self
  obtain ⟨tgt, ht, rfl, rfl, rfl, rfl⟩ := zbr_at h
  have w := kk LS (S.to fun u hu => S.2.2.2.2 u (List.mem_cons_of_mem _ (List.mem_cons_of_mem _ hu))) rfl
  show W p l e R s m args below meth c H locs cells slots Q (F0 m pc LS (.int (Int32.ofInt y) :: .int (Int32.ofInt x) :: st'.map (zenc B)))
  cases cm <;> simp only [zcmp, decide_eq_true_eq, Bool.not_eq_true', decide_eq_false_iff_not] at w
  · refine lv_icmp_eq hx hb hd ht (fun z => ?_) (fun z => ?_)
    · rw [if_pos ((zeq32 hx2 hy).mp z)] at w; exact w
    · rw [if_neg (fun u => z ((zeq32 hx2 hy).mpr u))] at w; exact w
  · refine lv_icmp_ne hx hb hd ht (fun z => ?_) (fun z => ?_)
    · rw [if_pos ((not_congr (zeq32 hx2 hy)).mp z)] at w; exact w
    · rw [if_neg (fun u => u ((zeq32 hx2 hy).mp z))] at w; exact w
  · refine lv_icmp_lt hx hb hd ht (fun z => ?_) (fun z => ?_)
    · rw [if_pos ((zlt32 hx2 hy).mp z)] at w; exact w
    · rw [if_neg (fun u => z ((zlt32 hx2 hy).mpr u))] at w; exact w
  · refine lv_icmp_ge hx hb hd ht (fun z => ?_) (fun z => ?_)
    · rw [if_pos (((zle32 hy hx2).trans (Int.not_lt).symm).mp z)] at w; exact w
    · rw [if_neg (fun u => z (((zle32 hy hx2).trans (Int.not_lt).symm).mpr u))] at w; exact w
  · refine lv_icmp_gt hx hb hd ht (fun z => ?_) (fun z => ?_)
    · rw [if_pos ((zlt32 hy hx2).mp z)] at w; exact w
    · rw [if_neg (fun u => z ((zlt32 hy hx2).mpr u))] at w; exact w
  · refine lv_icmp_le hx hb hd ht (fun z => ?_) (fun z => ?_)
    · rw [if_pos ((zle32 hx2 hy).mp z)] at w; exact w
    · rw [if_neg (fun u => z ((zle32 hx2 hy).mpr u))] at w; exact w
theorem zs_if1 (S : zSt B D aD L xs k s H locs ls LS st M) (hx : p.tables.exec = Jvm.exec) (hb : c.code = zcode k) {cm : ClassFile.Cond} {off : Int} (hd : decode (zcode k) pc = .ok (.ifCond cm off, 3)) {x : Int} {r : ZS} (hst : st = .inl x :: r)
    (h : zbr (zcmp cm x 0) pc off ls r M = some (pc', ls', st', M'))
    (kk : ∀ LS', zSt B D aD L xs k s H locs ls' LS' st' M' → M' = M → W p l e R s m args below meth c H locs cells slots Q (F0 m pc' LS' (st'.map (zenc B)))) : W p l e R s m args below meth c H locs cells slots Q (F0 m pc LS (st.map (zenc B))) := by
  subst hst
  have hx2 : zi32 x := S.2.2.2.2 (.inl x) List.mem_cons_self
  obtain ⟨tgt, ht, rfl, rfl, rfl, rfl⟩ := zbr_at h
  have w := kk LS (S.to fun u hu => S.2.2.2.2 u (List.mem_cons_of_mem _ hu)) rfl
  show W p l e R s m args below meth c H locs cells slots Q (F0 m pc LS (.int (Int32.ofInt x) :: st'.map (zenc B)))
  cases cm <;> simp only [zcmp, decide_eq_true_eq, Bool.not_eq_true', decide_eq_false_iff_not] at w
  · refine lv_if_eq hx hb hd ht (fun z => ?_) (fun z => ?_)
    · rw [if_pos ((zeq32 hx2 z032).mp z)] at w; exact w
    · rw [if_neg (fun u => z ((zeq32 hx2 z032).mpr u))] at w; exact w
  · refine lv_if_ne hx hb hd ht (fun z => ?_) (fun z => ?_)
    · rw [if_pos ((not_congr (zeq32 hx2 z032)).mp z)] at w; exact w
    · rw [if_neg (fun u => u ((zeq32 hx2 z032).mp z))] at w; exact w
  · refine lv_if_lt hx hb hd ht (fun z => ?_) (fun z => ?_)
    · rw [if_pos ((zlt32 hx2 z032).mp z)] at w; exact w
    · rw [if_neg (fun u => z ((zlt32 hx2 z032).mpr u))] at w; exact w
  · refine lv_if_ge hx hb hd ht (fun z => ?_) (fun z => ?_)
    · rw [if_pos (((zle32 z032 hx2).trans (Int.not_lt).symm).mp z)] at w; exact w
    · rw [if_neg (fun u => z (((zle32 z032 hx2).trans (Int.not_lt).symm).mpr u))] at w; exact w
  · refine lv_if_gt hx hb hd ht (fun z => ?_) (fun z => ?_)
    · rw [if_pos ((zlt32 z032 hx2).mp z)] at w; exact w
    · rw [if_neg (fun u => z ((zlt32 z032 hx2).mpr u))] at w; exact w
  · refine lv_if_le hx hb hd ht (fun z => ?_) (fun z => ?_)
    · rw [if_pos ((zle32 hx2 z032).mp z)] at w; exact w
    · rw [if_neg (fun u => z ((zle32 hx2 z032).mpr u))] at w; exact w
end ZSTEP
end
section
/-! ===== one step: loads, stores, fields, arrays ===== -/
theorem zshL_kinds : zshL.all (fun q => (Nat.ble q.1 5 || (Nat.ble 10 q.1 && Nat.ble q.1 19) || Nat.beq q.1 99) && decide (0 ≤ q.2 ∧ q.2 ≤ 100000)) = true := by decide +kernel
theorem zshL_not (i : Nat) {t : Nat} (ht : t = 20 ∨ t = 21) : ((zshL[i]?).getD (99, 0)).1 ≠ t := by
  cases e : zshL[i]? with
  | none =>
    intro h
    rcases ht with rfl | rfl <;> cases h
  | some q =>
    have h := List.all_eq_true.mp zshL_kinds q (List.mem_of_getElem? e)
    simp only [Bool.and_eq_true, Bool.or_eq_true, decide_eq_true_eq] at h
    intro h2
    have h3 : q.1 = t := h2
    rcases h.1 with (h4 | ⟨h4, h5⟩) | h4
    · have := Nat.le_of_ble_eq_true h4
      omega
    · have := Nat.le_of_ble_eq_true h5
      omega
    · have := Nat.eq_of_beq_eq_true h4
      omega
theorem zsh_low {a : Int} (h : (zsh a).1 ≠ 20) (h1 : (zsh a).1 ≠ 21) (h2 : (zsh a).1 ≠ 99) : 3 ≤ a := by
  by_cases q : a < 3
  · exfalso
    unfold zsh at h h1 h2
    rw [if_pos q] at h h1 h2
    by_cases a0 : a = 0
    · rw [if_pos a0] at h1; exact h1 rfl
    · rw [if_neg a0] at h h2
      by_cases a1 : a = 1
      · rw [if_pos a1] at h; exact h rfl
      · rw [if_neg a1] at h h2
        by_cases a2 : a = 2
        · rw [if_pos a2] at h; exact h rfl
        · rw [if_neg a2] at h2; exact h2 rfl
  · omega
theorem zsh_20 {a : Int} (h : (zsh a).1 = 20) : a = 1 ∨ a = 2 := by
  by_cases q : a < 3
  · unfold zsh at h
    rw [if_pos q] at h
    by_cases a0 : a = 0
    · rw [if_pos a0] at h; cases h
    · by_cases a1 : a = 1
      · exact Or.inl a1
      · by_cases a2 : a = 2
        · exact Or.inr a2
        · rw [if_neg a0, if_neg a1, if_neg a2] at h; cases h
  · exfalso
    unfold zsh at h
    rw [if_neg q] at h
    exact absurd h (zshL_not _ (by decide))
theorem zsh_21 {a : Int} (h : (zsh a).1 = 21) : a = 0 := by
  by_cases q : a < 3
  · unfold zsh at h
    rw [if_pos q] at h
    by_cases a0 : a = 0
    · exact a0
    · rw [if_neg a0] at h
      by_cases a1 : a = 1
      · rw [if_pos a1] at h; cases h
      · rw [if_neg a1] at h
        by_cases a2 : a = 2
        · rw [if_pos a2] at h; cases h
        · rw [if_neg a2] at h; cases h
  · exfalso
    unfold zsh at h
    rw [if_neg q] at h
    exact absurd h (zshL_not _ (by decide))
theorem zsh_gap {a : Int} (h : (zsh a).1 ≠ 99) : a ≠ 223 := fun e => h (by rw [e]; decide +kernel)
theorem zsh_5n : ∀ n : Nat, n < 236 → ¬ (zsh n).1 = 5 := by decide +kernel
theorem zsh_5 {a : Int} (h3 : 3 ≤ a) (hn : a < 236) : ¬ (zsh a).1 = 5 := by
  obtain ⟨n, rfl⟩ := Int.eq_ofNat_of_zero_le (show 0 ≤ a by omega)
  exact zsh_5n n (by omega)
theorem znx_le {B : zBs} {D : va_G} {aD : Nat → ClassId} {M : ZM} {H : Heap} (h : zH B D aD M H) : znx M ≤ 236 := by
  rcases h.2.1 with q | q <;> omega
theorem zent_congr {B : zBs} {aD : Nat → ClassId} {M M' : ZM} {a : Int} (h : ∀ j, M' a j = M a j) : zent B aD M' a = zent B aD M a := by
  unfold zent
  simp only [h]
theorem zset_ne {M : ZM} {a a' j v : Int} (h : a' ≠ a) (x : Int) : zset M a j v a' x = M a' x := by
  unfold zset
  rw [if_neg (fun q => h q.1)]
theorem zset_nj {M : ZM} {a j v : Int} {x : Int} (h : x ≠ j) : zset M a j v a x = M a x := by
  unfold zset
  rw [if_neg (fun q => h q.2)]
theorem zset_eq (M : ZM) (a j v : Int) : zset M a j v a j = v := by
  unfold zset
  rw [if_pos ⟨rfl, rfl⟩]
theorem znx_set {M : ZM} {a j v : Int} (h : 3 ≤ a) : znx (zset M a j v) = znx M := zset_ne (by omega) 0
theorem zokM.set {M : ZM} {a j v : Int} (h : zokM M) (h3 : 3 ≤ a) (hv : zin (znx M) (zpk a j) v) : zokM (zset M a j v) := by
  intro a' h1 h2 j' h4 h5
  rw [znx_set h3] at h2 ⊢
  by_cases q : a' = a ∧ j' = j
  · obtain ⟨rfl, rfl⟩ := q
    rw [zset_eq]
    exact hv
  · have e : zset M a j v a' j' = M a' j' := by unfold zset; rw [if_neg q]
    rw [e]
    exact h a' h1 h2 j' h4 h5
theorem zS.set {L : Nat} {xs : Nat → Int32} {M : ZM} {a j v : Int} (h : zS L xs M) (h3 : 3 ≤ a) : zS L xs (zset M a j v) := by
  obtain ⟨h1, h2, h4, h5⟩ := h
  exact ⟨by rw [zset_ne (by omega)]; exact h1, fun j hj => by rw [zset_ne (by omega)]; exact h2 j hj, fun j hj => by rw [zset_ne (by omega)]; exact h4 j hj, fun j hj => by rw [zset_ne (by omega)]; exact h5 j hj⟩
theorem zP_set {B : zBs} {D : va_G} {aD : Nat → ClassId} {M M' : ZM} {a : Int} {H H1 : Heap} (hP : va_P D vwCl (zW B aD M) H) (h3 : 3 ≤ a) (hn : a < znx M) (hg : a ≠ 223) (hx : znx M' = znx M) (ho : ∀ a' : Int, a' ≠ a → ∀ j, M' a' j = M a' j) (he : va_at D vwCl (zad B a, zent B aD M' a) H1) (oq : ∀ q : Nat, q ≠ zad B a → H1[q]? = H[q]?) : va_P D vwCl (zW B aD M') H1 := by
  have h := hP.set zW_D (zW_get h3 hn hg) he oq
  rw [zW_set h3 hn hg hx rfl (fun a' h => zent_congr (ho a' h))] at h
  exact h
theorem zad_base {B : zBs} {a : Int} (h : 3 ≤ a) : B.2.2.2 ≤ zad B a := by
  unfold zad
  rw [if_neg (by omega), if_neg (by omega), if_neg (by omega)]
  omega
/-- a place of an own cell written: the new state -/
theorem zSt.set {B : zBs} {D : va_G} {aD : Nat → ClassId} {L : Nat} {xs : Nat → Int32} {k : Nat} {s : State} {H H1 : Heap} {locs locs1 : List Loc} {ls : ZL} {LS : Array Slot} {st st' : ZS} {M : ZM} {a j v : Int} (S : zSt B D aD L xs k s H locs ls LS st M) (h3 : 3 ≤ a) (hn : a < znx M) (hg : a ≠ 223) (hv : zin (znx M) (zpk a j) v) (hst : ∀ w ∈ st', w ∈ st)
    (he : va_at D vwCl (zad B a, zent B aD (zset M a j v) a) H1) (z : H1.size = H.size) (oq : ∀ q : Nat, q ≠ zad B a → H1[q]? = H[q]?) (hl : ∀ q ∈ locs1, q ∈ locs ∨ q.base = zad B a) : zSt B D aD L xs k s H1 locs1 ls LS st' (zset M a j v) := by
  obtain ⟨⟨g1, g2, g3, g4⟩, g5, g6, g7, g8⟩ := S
  refine ⟨⟨by rw [znx_set h3]; exact g1, by rw [z, znx_set h3]; exact g2, zP_set g3 h3 hn hg (znx_set h3) (fun a' h j' => zset_ne h j') he oq, g4.set h3 hv⟩, g5.set h3, ⟨by rw [z]; exact g6.1, fun q h1 h2 => ?_, fun q hq => ?_⟩, ?_, fun w hw => ?_⟩
  · rw [oq q (fun e => h2 (by rw [e]; exact zad_base h3))]
    exact g6.2.1 q h1 h2
  · rcases hl q hq with h | h
    · exact g6.2.2 q h
    · show B.2.2.2 ≤ q.base
      rw [h]
      exact zad_base h3
  · rw [znx_set h3]; exact g7
  · rw [znx_set h3]; exact g8 w (hst w hw)
theorem zrv_ref {B : zBs} {a : Int} (h : 0 ≤ a) : zrv B a = .ref (zad B a) := by
  unfold zrv
  rw [if_neg (by omega)]
theorem zcol_r (j : Nat) : zi32 (zcol j) := by
  unfold zcol
  split <;> exact ⟨by decide, by decide⟩
theorem zwei_r (j : Nat) : zi32 (zwei j) := by
  unfold zwei
  split <;> exact ⟨by decide, by decide⟩
theorem zsh_sz {a : Int} (h3 : 3 ≤ a) : (zsh a).1 = 99 ∨ (((zsh a).1 ≤ 5 ∨ (10 ≤ (zsh a).1 ∧ (zsh a).1 ≤ 19)) ∧ 0 ≤ (zsh a).2 ∧ (zsh a).2 ≤ 100000) := by
  unfold zsh
  rw [if_neg (by omega)]
  cases e : zshL[(a - 3).toNat]? with
  | none => exact Or.inl rfl
  | some q =>
    have h := List.all_eq_true.mp zshL_kinds q (List.mem_of_getElem? e)
    simp only [Bool.and_eq_true, Bool.or_eq_true, decide_eq_true_eq] at h
    rcases h.1 with (h4 | ⟨h4, h5⟩) | h4
    · exact Or.inr ⟨Or.inl (Nat.le_of_ble_eq_true h4), h.2⟩
    · exact Or.inr ⟨Or.inr ⟨Nat.le_of_ble_eq_true h4, Nat.le_of_ble_eq_true h5⟩, h.2⟩
    · exact Or.inl (Nat.eq_of_beq_eq_true h4)
theorem zsh_lt {a : Int} (h3 : 3 ≤ a) (h : (zsh a).1 ≠ 99) : a < 3 + (zshL.length : Int) := by
  unfold zsh at h
  rw [if_neg (by omega)] at h
  cases e : zshL[(a - 3).toNat]? with
  | none => rw [e] at h; exact absurd rfl h
  | some q =>
    have := (List.getElem?_eq_some_iff.mp e).1
    omega
section ZARR
variable {p : Program} {l : Launch} {e : Env} {R : Room} {s : State} {m : MethodId} {args : Array Value} {below : List Frame} {meth : Method} {c : Code} {H : Heap} {locs : List Loc} {cells slots : Nat} {Q : State → Prop}
variable {B : zBs} {D : va_G} {aD : Nat → ClassId} {L : Nat} {xs : Nat → Int32} {k : Nat} {pc pc' : Nat} {ls ls' : ZL} {st st' : ZS} {M M' : ZM} {LS : Array Slot}
theorem zs_iald (S : zSt B D aD L xs k s H locs ls LS st M) (C : zCtx B D aD L xs k p s m args meth c) (hd : decode (zcode k) pc = .ok (.iaload, 1)) (h : zaldI (pc + 1) ls st M = some (pc', ls', st', M'))
    (kk : ∀ LS', zSt B D aD L xs k s H locs ls' LS' st' M' → M' = M → W p l e R s m args below meth c H locs cells slots Q (F0 m pc' LS' (st'.map (zenc B)))) : W p l e R s m args below meth c H locs cells slots Q (F0 m pc LS (st.map (zenc B))) := by
  obtain ⟨hx, hb, -, -, -, -, hK, hX, hL4, hbl, hbs, -, -, hT1, hT2, -⟩ := C
  unfold zaldI at h
  split at h
  · next i a r =>
    split at h
    · next hc =>
      obtain ⟨rfl, rfl, rfl, rfl⟩ := zsome h
      obtain ⟨hk, hi0, hi1⟩ := hc
      have hi : zi32 i := S.2.2.2.2 (.inl i) List.mem_cons_self
      have ha : -3 ≤ a ∧ a < znx M := S.2.2.2.2 (.inr (.inr a)) (List.mem_cons_of_mem _ List.mem_cons_self)
      have hi2 : ((i.toNat : Nat) : Int) = i := Int.toNat_of_nonneg hi0
      have go : zi32 (M a i) → W p l e R s m args below meth c H locs cells slots Q (F0 m (pc + 1) LS (.int (Int32.ofInt (M a i)) :: r.map (zenc B))) := fun hv =>
        kk LS (S.to fun w hw => (List.mem_cons.mp hw).elim (fun e => e ▸ hv) (fun h => S.2.2.2.2 w (List.mem_cons_of_mem _ (List.mem_cons_of_mem _ h)))) rfl
      show W p l e R s m args below meth c H locs cells slots Q (F0 m pc LS (.int (Int32.ofInt i) :: zrv B a :: r.map (zenc B)))
      rcases hk with t | t | t
      · have h3 : 3 ≤ a := zsh_low (by omega) (by omega) (by omega)
        have hgp : a ≠ 223 := zsh_gap (by omega)
        rw [zrv_ref (by omega)]
        have hg := zW_get (B := B) (aD := aD) h3 ha.2 hgp
        have he : zent B aD M a = .inl (aD 0, ((zsh a).2).toNat, .inl (fun j => Int32.ofInt (M a j))) := by unfold zent; rw [if_pos t]
        rw [he] at hg
        have e0 : zlen M a = (zsh a).2 := by unfold zlen; rw [if_neg (by omega)]
        refine va_iald hx hb hK S.1.2.2.1 _ 0 hg rfl (zvp hi0 hi (by omega)) hd ?_
        rw [znc hi0 hi, hi2]
        refine go ?_
        have hz := S.1.2.2.2 a h3 ha.2 i hi0 (by unfold zcnt; rw [if_pos (by omega)]; omega)
        unfold zpk at hz
        rw [if_pos (by omega), t] at hz
        exact hz
      · have e0 : zlen M a = (zsh a).2 := by
          unfold zlen
          rcases zsh_20 t with rfl | rfl <;> rw [if_neg (by decide)]
        rcases zsh_20 t with rfl | rfl
        · have e1 : (zsh 1).2 = 18 := by decide
          have hv : M 1 i = zcol i.toNat := by
            have := S.2.1.2.2.1 i.toNat (by omega)
            rw [hi2] at this
            exact this
          rw [zrv_ref (by decide)]
          refine va_ti hx hb hT1 S.2.2.1 (zvp hi0 hi (by omega)) (v := .int (Int32.ofInt (M 1 i))) (by rw [znc hi0 hi, hv]) hd (go (by rw [hv]; exact zcol_r _))
        · have e1 : (zsh 2).2 = 3 := by decide
          have hv : M 2 i = zwei i.toNat := by
            have := S.2.1.2.2.2 i.toNat (by omega)
            rw [hi2] at this
            exact this
          rw [zrv_ref (by decide)]
          refine va_ti hx hb hT2 S.2.2.1 (zvp hi0 hi (by omega)) (v := .int (Int32.ofInt (M 2 i))) (by rw [znc hi0 hi, hv]) hd (go (by rw [hv]; exact zwei_r _))
      · have a0 := zsh_21 t
        subst a0
        have e0 : zlen M 0 = (L : Int) := by
          unfold zlen
          rw [if_pos rfl]
          exact S.2.1.1
        have hv : M 0 i = (xs i.toNat).toInt := by
          have := S.2.1.2.1 i.toNat (by omega)
          rw [hi2] at this
          exact this
        rw [zrv_ref (by decide)]
        refine va_sld hx hb hX (by omega) (show ¬ B.2.2.2 ≤ B.1 by omega) S.2.2.1 (zvp hi0 hi (by omega)) hd ?_
        rw [znc hi0 hi]
        have := go (by rw [hv]; exact zi32_r _)
        rw [hv, Int32.ofInt_toInt] at this
        exact this
    · cases h
  · cases h
end ZARR
end
section
/-! ===== one step: the other arrays ===== -/
theorem zcat_sum {B : zBs} : ∀ r : ZS, ((r.map (zenc B)).map fun v => v.category).sum = zcat r
  | [] => rfl
  | .inr (.inl x) :: r => by
    simp only [List.map_cons, List.sum_cons, zcat, zcat_sum r]
    rfl
  | .inl x :: r => by
    simp only [List.map_cons, List.sum_cons, zcat, zcat_sum r]
    rfl
  | .inr (.inr x) :: r => by
    simp only [List.map_cons, List.sum_cons, zcat, zcat_sum r]
    congr 1
    have : (zenc B (.inr (.inr x))).category ≠ 2 := fun q => by have := (z2_cat (B := B) (.inr (.inr x))).mp q; cases this
    rcases lv_cat (zenc B (.inr (.inr x))) with h | h
    · exact h
    · exact absurd h this
section ZARR2
variable {p : Program} {l : Launch} {e : Env} {R : Room} {s : State} {m : MethodId} {args : Array Value} {below : List Frame} {meth : Method} {c : Code} {H : Heap} {locs : List Loc} {cells slots : Nat} {Q : State → Prop}
variable {B : zBs} {D : va_G} {aD : Nat → ClassId} {L : Nat} {xs : Nat → Int32} {k : Nat} {pc pc' : Nat} {ls ls' : ZL} {st st' : ZS} {M M' : ZM} {LS : Array Slot}
theorem zlen_own {M : ZM} {a : Int} (h : 3 ≤ a) : zlen M a = (zsh a).2 := by
  unfold zlen
  rw [if_neg (by omega)]
theorem zok_at (S : zSt B D aD L xs k s H locs ls LS st M) {a i : Int} {t : Nat} (h3 : 3 ≤ a) (hn : a < znx M) (ht : (zsh a).1 = t) (ht5 : t ≤ 5) (h0 : 0 ≤ i) (h1 : i < (zsh a).2) : zin (znx M) (if t < 4 then t else 4) (M a i) := by
  have hz := S.1.2.2.2 a h3 hn i h0 (by unfold zcnt; rw [if_pos (by omega)]; exact h1)
  unfold zpk at hz
  rw [ht] at hz
  by_cases q : t < 4
  · rw [if_pos q] at hz ⊢
    exact hz
  · rw [if_neg q, if_pos (by omega)] at hz
    rw [if_neg q]
    exact hz
theorem zpk_at {a i : Int} {t : Nat} (ht : (zsh a).1 = t) (ht5 : t ≤ 5) : zpk a i = if t < 4 then t else 4 := by
  unfold zpk
  rw [ht]
  by_cases q : t < 4
  · rw [if_pos q, if_pos q]
  · rw [if_neg q, if_neg q, if_pos (by omega)]
theorem zs_bald (S : zSt B D aD L xs k s H locs ls LS st M) (C : zCtx B D aD L xs k p s m args meth c) (hd : decode (zcode k) pc = .ok (.baload, 1)) (h : zaldB (pc + 1) ls st M = some (pc', ls', st', M'))
    (kk : ∀ LS', zSt B D aD L xs k s H locs ls' LS' st' M' → M' = M → W p l e R s m args below meth c H locs cells slots Q (F0 m pc' LS' (st'.map (zenc B)))) : W p l e R s m args below meth c H locs cells slots Q (F0 m pc LS (st.map (zenc B))) := by
  obtain ⟨hx, hb, -, -, -, -, hK, -⟩ := C
  unfold zaldB at h
  split at h
  · next i a r =>
    split at h
    · next hc =>
      obtain ⟨rfl, rfl, rfl, rfl⟩ := zsome h
      obtain ⟨hk, hi0, hi1⟩ := hc
      have hi : zi32 i := S.2.2.2.2 (.inl i) List.mem_cons_self
      have ha : -3 ≤ a ∧ a < znx M := S.2.2.2.2 (.inr (.inr a)) (List.mem_cons_of_mem _ List.mem_cons_self)
      have hi2 : ((i.toNat : Nat) : Int) = i := Int.toNat_of_nonneg hi0
      have h3 : 3 ≤ a := zsh_low (by omega) (by omega) (by omega)
      have hgp : a ≠ 223 := zsh_gap (by omega)
      rw [zlen_own h3] at hi1
      have hg := zW_get (B := B) (aD := aD) h3 ha.2 hgp
      have go : zi32 (M a i) → W p l e R s m args below meth c H locs cells slots Q (F0 m (pc + 1) LS (.int (Int32.ofInt (M a i)) :: r.map (zenc B))) := fun hv =>
        kk LS (S.to fun w hw => (List.mem_cons.mp hw).elim (fun e => e ▸ hv) (fun h => S.2.2.2.2 w (List.mem_cons_of_mem _ (List.mem_cons_of_mem _ h)))) rfl
      show W p l e R s m args below meth c H locs cells slots Q (F0 m pc LS (.int (Int32.ofInt i) :: zrv B a :: r.map (zenc B)))
      rw [zrv_ref (by omega)]
      rcases hk with t | t
      · have he : zent B aD M a = .inl (aD 2, ((zsh a).2).toNat, .inl (fun j => Int32.ofInt (M a j))) := by unfold zent; rw [if_neg (by omega), if_neg (by omega), if_pos t]
        rw [he] at hg
        refine va_bald hx hb hK S.1.2.2.1 _ 2 hg rfl (zvp hi0 hi (by omega)) hd ?_
        rw [znc hi0 hi, hi2]
        have hz : -128 ≤ M a i ∧ M a i ≤ 127 := zok_at S h3 ha.2 t (by decide) hi0 hi1
        exact go ⟨by omega, by omega⟩
      · have he : zent B aD M a = .inl (aD 3, ((zsh a).2).toNat, .inl (fun j => Int32.ofInt (M a j))) := by unfold zent; rw [if_neg (by omega), if_neg (by omega), if_neg (by omega), if_pos t]
        rw [he] at hg
        refine va_zald hx hb hK S.1.2.2.1 _ 3 hg rfl (zvp hi0 hi (by omega)) hd ?_
        rw [znc hi0 hi, hi2]
        have hz : 0 ≤ M a i ∧ M a i ≤ 1 := zok_at S h3 ha.2 t (by decide) hi0 hi1
        exact go ⟨by omega, by omega⟩
    · cases h
  · cases h
theorem zs_lald (S : zSt B D aD L xs k s H locs ls LS st M) (C : zCtx B D aD L xs k p s m args meth c) (hd : decode (zcode k) pc = .ok (.laload, 1)) (h : zaldJ (pc + 1) ls st M = some (pc', ls', st', M'))
    (kk : ∀ LS', zSt B D aD L xs k s H locs ls' LS' st' M' → M' = M → W p l e R s m args below meth c H locs cells slots Q (F0 m pc' LS' (st'.map (zenc B)))) : W p l e R s m args below meth c H locs cells slots Q (F0 m pc LS (st.map (zenc B))) := by
  obtain ⟨hx, hb, -, -, -, -, hK, -⟩ := C
  unfold zaldJ at h
  split at h
  · next i a r =>
    split at h
    · next hc =>
      obtain ⟨rfl, rfl, rfl, rfl⟩ := zsome h
      obtain ⟨t, hi0, hi1⟩ := hc
      have hi : zi32 i := S.2.2.2.2 (.inl i) List.mem_cons_self
      have ha : -3 ≤ a ∧ a < znx M := S.2.2.2.2 (.inr (.inr a)) (List.mem_cons_of_mem _ List.mem_cons_self)
      have hi2 : ((i.toNat : Nat) : Int) = i := Int.toNat_of_nonneg hi0
      have h3 : 3 ≤ a := zsh_low (by omega) (by omega) (by omega)
      have hgp : a ≠ 223 := zsh_gap (by omega)
      rw [zlen_own h3] at hi1
      have hg := zW_get (B := B) (aD := aD) h3 ha.2 hgp
      have go : zi64 (M a i) → W p l e R s m args below meth c H locs cells slots Q (F0 m (pc + 1) LS (.long (Int64.ofInt (M a i)) :: r.map (zenc B))) := fun hv =>
        kk LS (S.to fun w hw => (List.mem_cons.mp hw).elim (fun e => e ▸ hv) (fun h => S.2.2.2.2 w (List.mem_cons_of_mem _ (List.mem_cons_of_mem _ h)))) rfl
      show W p l e R s m args below meth c H locs cells slots Q (F0 m pc LS (.int (Int32.ofInt i) :: zrv B a :: r.map (zenc B)))
      rw [zrv_ref (by omega)]
      have he : zent B aD M a = .inl (aD 1, ((zsh a).2).toNat, .inr (.inl (fun j => Int64.ofInt (M a j)))) := by unfold zent; rw [if_neg (by omega), if_pos t]
      rw [he] at hg
      refine va_lald hx hb hK S.1.2.2.1 _ 1 hg rfl (zvp hi0 hi (by omega)) hd ?_
      rw [znc hi0 hi, hi2]
      exact go (zok_at S h3 ha.2 t (by decide) hi0 hi1)
    · cases h
  · cases h
theorem zs_aald (S : zSt B D aD L xs k s H locs ls LS st M) (C : zCtx B D aD L xs k p s m args meth c) (hd : decode (zcode k) pc = .ok (.aaload, 1)) (h : zaldA (pc + 1) ls st M = some (pc', ls', st', M'))
    (kk : ∀ LS', zSt B D aD L xs k s H locs ls' LS' st' M' → M' = M → W p l e R s m args below meth c H locs cells slots Q (F0 m pc' LS' (st'.map (zenc B)))) : W p l e R s m args below meth c H locs cells slots Q (F0 m pc LS (st.map (zenc B))) := by
  obtain ⟨hx, hb, -, -, -, -, hK, -⟩ := C
  unfold zaldA at h
  split at h
  · next i a r =>
    split at h
    · next hc =>
      obtain ⟨rfl, rfl, rfl, rfl⟩ := zsome h
      obtain ⟨hk, hi0, hi1⟩ := hc
      have hi : zi32 i := S.2.2.2.2 (.inl i) List.mem_cons_self
      have ha : -3 ≤ a ∧ a < znx M := S.2.2.2.2 (.inr (.inr a)) (List.mem_cons_of_mem _ List.mem_cons_self)
      have hi2 : ((i.toNat : Nat) : Int) = i := Int.toNat_of_nonneg hi0
      have h3 : 3 ≤ a := zsh_low (by omega) (by omega) (by omega)
      have hgp : a ≠ 223 := zsh_gap (by omega)
      rw [zlen_own h3] at hi1
      have hg := zW_get (B := B) (aD := aD) h3 ha.2 hgp
      have go : (-1 ≤ M a i ∧ M a i < znx M) → W p l e R s m args below meth c H locs cells slots Q (F0 m (pc + 1) LS (zrv B (M a i) :: r.map (zenc B))) := fun hv =>
        kk LS (S.to fun w hw => (List.mem_cons.mp hw).elim (fun e => e ▸ (show -3 ≤ M a i ∧ M a i < znx M from ⟨by omega, hv.2⟩)) (fun h => S.2.2.2.2 w (List.mem_cons_of_mem _ (List.mem_cons_of_mem _ h)))) rfl
      show W p l e R s m args below meth c H locs cells slots Q (F0 m pc LS (.int (Int32.ofInt i) :: zrv B a :: r.map (zenc B)))
      rw [zrv_ref (by omega)]
      rcases hk with t | t
      · have he : zent B aD M a = .inl (aD 4, ((zsh a).2).toNat, .inr (.inr (.inr (.inr (fun j => zro B (M a j)))))) := by unfold zent; rw [if_neg (by omega), if_neg (by omega), if_neg (by omega), if_neg (by omega), if_pos t]
        rw [he] at hg
        refine va_aldq hx hb hK S.1.2.2.1 _ 4 hg rfl (zvp hi0 hi (by omega)) hd ?_
        rw [znc hi0 hi, hi2, zro_rf]
        exact go (zok_at S h3 ha.2 t (by decide) hi0 hi1)
      · exact absurd t (zsh_5 h3 (by have := znx_le S.1; omega))
    · cases h
  · cases h
theorem zupd_fun {α : Type} (g : Int → α) {M : ZM} {a i x : Int} (hi0 : 0 ≤ i) : (fun j : Nat => g (zset M a i x a j)) = fun j : Nat => if j = i.toNat then g x else g (M a j) := by
  funext j
  by_cases q : j = i.toNat
  · subst q
    rw [if_pos rfl, Int.toNat_of_nonneg hi0, zset_eq]
  · rw [if_neg q, zset_nj (by omega)]
theorem zarr_set {α : Type} (mk : α → Value) (cA : ClassId) (n : Nat) (f : Nat → α) (i : Nat) (x : α) : arrV cA n (updV (fun j => mk (f j)) i (mk x)) = arrV cA n (fun j => mk (if j = i then x else f j)) := by
  congr 1
  funext j
  unfold updV
  split <;> rfl
theorem zarr_st {g : Int → Value} {M : ZM} {a i x : Int} (cA : ClassId) (n : Nat) (hi0 : 0 ≤ i) : (arrV cA n (fun j : Nat => g (M a j))).setSlot i.toNat (g x) = arrV cA n (fun j : Nat => g (zset M a i x a j)) := by
  rw [arrV_store]
  congr 1
  funext j
  unfold updV
  by_cases q : j = i.toNat
  · subst q
    rw [if_pos rfl, Int.toNat_of_nonneg hi0, zset_eq]
  · rw [if_neg q, zset_nj (by omega)]
theorem zs_iast (S : zSt B D aD L xs k s H locs ls LS st M) (C : zCtx B D aD L xs k p s m args meth c) (hd : decode (zcode k) pc = .ok (.iastore, 1)) (h : zastI (pc + 1) ls st M = some (pc', ls', st', M'))
    (kk : ∀ H1 locs1, zSt B D aD L xs k s H1 locs1 ls' LS st' M' → znx M' = znx M → W p l e R s m args below meth c H1 locs1 cells slots Q (F0 m pc' LS (st'.map (zenc B)))) : W p l e R s m args below meth c H locs cells slots Q (F0 m pc LS (st.map (zenc B))) := by
  obtain ⟨hx, hb, -, -, -, -, hK, -⟩ := C
  unfold zastI at h
  split at h
  · next x i a r =>
    split at h
    · next hc =>
      obtain ⟨rfl, rfl, rfl, rfl⟩ := zsome h
      obtain ⟨t, hi0, hi1⟩ := hc
      have hxr : zi32 x := S.2.2.2.2 (.inl x) List.mem_cons_self
      have hi : zi32 i := S.2.2.2.2 (.inl i) (List.mem_cons_of_mem _ List.mem_cons_self)
      have ha : -3 ≤ a ∧ a < znx M := S.2.2.2.2 (.inr (.inr a)) (List.mem_cons_of_mem _ (List.mem_cons_of_mem _ List.mem_cons_self))
      have h3 : 3 ≤ a := zsh_low (by omega) (by omega) (by omega)
      have hgp : a ≠ 223 := zsh_gap (by omega)
      rw [zlen_own h3] at hi1
      have hg := zW_get (B := B) (aD := aD) h3 ha.2 hgp
      have he : ∀ M : ZM, zent B aD M a = .inl (aD 0, ((zsh a).2).toNat, .inl (fun j => Int32.ofInt (M a j))) := fun M => by unfold zent; rw [if_pos t]
      rw [he] at hg
      have hin := zvp hi0 hi (n := ((zsh a).2).toNat) (by omega)
      show W p l e R s m args below meth c H locs cells slots Q (F0 m pc LS (.int (Int32.ofInt x) :: .int (Int32.ofInt i) :: zrv B a :: r.map (zenc B)))
      rw [zrv_ref (by omega)]
      refine W.iast hx hb (S.1.2.2.1 _ _ hg) ((hK.2 0 _ rfl).1 ((zsh a).2).toNat (fun j => .int (Int32.ofInt (M a j)))) (fun q => by cases q) (by show ¬ (_ < 0 ∨ (arrV _ _ _).slots.size ≤ _); rw [arrV_size]; exact hin) rfl rfl hd fun H1 e z oq => ?_
      refine kk H1 _ (S.set h3 ha.2 hgp (by rw [zpk_at t (by decide)]; exact hxr) (fun w hw => List.mem_cons_of_mem _ (List.mem_cons_of_mem _ (List.mem_cons_of_mem _ hw))) ?_ z oq (fun q hq => (List.mem_append.mp hq).imp id (fun h => by rw [List.mem_singleton.mp h]))) (znx_set h3)
      rw [he]
      show H1[zad B a]? = some (vp_cell _ _)
      refine e.trans ?_
      rw [znc hi0 hi]
      exact congrArg some (zarr_st (g := fun z => Value.int (Int32.ofInt z)) (aD 0) _ hi0)
    · cases h
  · cases h
theorem zs_last (S : zSt B D aD L xs k s H locs ls LS st M) (C : zCtx B D aD L xs k p s m args meth c) (hd : decode (zcode k) pc = .ok (.lastore, 1)) (h : zastJ (pc + 1) ls st M = some (pc', ls', st', M'))
    (kk : ∀ H1 locs1, zSt B D aD L xs k s H1 locs1 ls' LS st' M' → znx M' = znx M → W p l e R s m args below meth c H1 locs1 cells slots Q (F0 m pc' LS (st'.map (zenc B)))) : W p l e R s m args below meth c H locs cells slots Q (F0 m pc LS (st.map (zenc B))) := by
  obtain ⟨hx, hb, -, -, -, -, hK, -⟩ := C
  unfold zastJ at h
  split at h
  · next x i a r =>
    split at h
    · next hc =>
      obtain ⟨rfl, rfl, rfl, rfl⟩ := zsome h
      obtain ⟨t, hi0, hi1⟩ := hc
      have hxr : zi64 x := S.2.2.2.2 (.inr (.inl x)) List.mem_cons_self
      have hi : zi32 i := S.2.2.2.2 (.inl i) (List.mem_cons_of_mem _ List.mem_cons_self)
      have ha : -3 ≤ a ∧ a < znx M := S.2.2.2.2 (.inr (.inr a)) (List.mem_cons_of_mem _ (List.mem_cons_of_mem _ List.mem_cons_self))
      have h3 : 3 ≤ a := zsh_low (by omega) (by omega) (by omega)
      have hgp : a ≠ 223 := zsh_gap (by omega)
      rw [zlen_own h3] at hi1
      have hg := zW_get (B := B) (aD := aD) h3 ha.2 hgp
      have he : ∀ M : ZM, zent B aD M a = .inl (aD 1, ((zsh a).2).toNat, .inr (.inl (fun j => Int64.ofInt (M a j)))) := fun M => by unfold zent; rw [if_neg (by omega), if_pos t]
      rw [he] at hg
      have hin := zvp hi0 hi (n := ((zsh a).2).toNat) (by omega)
      show W p l e R s m args below meth c H locs cells slots Q (F0 m pc LS (.long (Int64.ofInt x) :: .int (Int32.ofInt i) :: zrv B a :: r.map (zenc B)))
      rw [zrv_ref (by omega)]
      refine W.last hx hb (S.1.2.2.1 _ _ hg) ((hK.2 1 _ rfl).1 ((zsh a).2).toNat (fun j => .long (Int64.ofInt (M a j)))) (fun q => by cases q) (by show ¬ (_ < 0 ∨ (arrV _ _ _).slots.size ≤ _); rw [arrV_size]; exact hin) rfl rfl hd fun H1 e z oq => ?_
      refine kk H1 _ (S.set h3 ha.2 hgp (by rw [zpk_at t (by decide)]; exact hxr) (fun w hw => List.mem_cons_of_mem _ (List.mem_cons_of_mem _ (List.mem_cons_of_mem _ hw))) ?_ z oq (fun q hq => (List.mem_append.mp hq).imp id (fun h => by rw [List.mem_singleton.mp h]))) (znx_set h3)
      rw [he]
      show H1[zad B a]? = some (vp_cell _ _)
      refine e.trans ?_
      rw [znc hi0 hi]
      exact congrArg some (zarr_st (g := fun z => Value.long (Int64.ofInt z)) (aD 1) _ hi0)
    · cases h
  · cases h
theorem znar_b {x : Int} (h : -128 ≤ x ∧ x ≤ 127) : narrow .byte (.int (Int32.ofInt x)) = .int (Int32.ofInt x) := by
  show Value.int _ = Value.int _
  congr 1
  apply Int32.toInt_inj.mp
  rw [zi32_of x ⟨by omega, by omega⟩]
  show (Int32.ofInt x).toInt8.toInt32.toInt = x
  rw [Int8.toInt_toInt32, Int32.toInt_toInt8, zi32_of x ⟨by omega, by omega⟩]
  exact Int.bmod_eq_of_le (by omega) (by omega)
theorem zfits_b {x : Int} (h : -128 ≤ x ∧ x ≤ 127) : fits .byte (.int (Int32.ofInt x)) = true := by
  show (decide (-128 ≤ Int32.ofInt x) && decide (Int32.ofInt x ≤ 127)) = true
  rw [Bool.and_eq_true]
  have hx : zi32 x := ⟨by omega, by omega⟩
  exact ⟨decide_eq_true ((zle32 (x := -128) ⟨by decide, by decide⟩ hx).mpr h.1), decide_eq_true ((zle32 (y := 127) hx ⟨by decide, by decide⟩).mpr h.2)⟩
theorem znar_z {x : Int} (h : 0 ≤ x ∧ x ≤ 1) : narrow .boolean (.int (Int32.ofInt x)) = .int (Int32.ofInt x) := by
  have : x = 0 ∨ x = 1 := by omega
  rcases this with rfl | rfl <;> rfl
theorem zs_bast (S : zSt B D aD L xs k s H locs ls LS st M) (C : zCtx B D aD L xs k p s m args meth c) (hd : decode (zcode k) pc = .ok (.bastore, 1)) (h : zastB (pc + 1) ls st M = some (pc', ls', st', M'))
    (kk : ∀ H1 locs1, zSt B D aD L xs k s H1 locs1 ls' LS st' M' → znx M' = znx M → W p l e R s m args below meth c H1 locs1 cells slots Q (F0 m pc' LS (st'.map (zenc B)))) : W p l e R s m args below meth c H locs cells slots Q (F0 m pc LS (st.map (zenc B))) := by
  obtain ⟨hx, hb, -, -, -, -, hK, -⟩ := C
  unfold zastB at h
  split at h
  · next x i a r =>
    split at h
    · next hc =>
      obtain ⟨rfl, rfl, rfl, rfl⟩ := zsome h
      obtain ⟨hk, hi0, hi1⟩ := hc
      have hi : zi32 i := S.2.2.2.2 (.inl i) (List.mem_cons_of_mem _ List.mem_cons_self)
      have ha : -3 ≤ a ∧ a < znx M := S.2.2.2.2 (.inr (.inr a)) (List.mem_cons_of_mem _ (List.mem_cons_of_mem _ List.mem_cons_self))
      have h3 : 3 ≤ a := zsh_low (by omega) (by omega) (by omega)
      have hgp : a ≠ 223 := zsh_gap (by omega)
      rw [zlen_own h3] at hi1
      have hg := zW_get (B := B) (aD := aD) h3 ha.2 hgp
      have hin := zvp hi0 hi (n := ((zsh a).2).toNat) (by omega)
      show W p l e R s m args below meth c H locs cells slots Q (F0 m pc LS (.int (Int32.ofInt x) :: .int (Int32.ofInt i) :: zrv B a :: r.map (zenc B)))
      rw [zrv_ref (by omega)]
      rcases hk with ⟨t, hxr⟩ | ⟨t, hxr⟩
      · have he : ∀ M : ZM, zent B aD M a = .inl (aD 2, ((zsh a).2).toNat, .inl (fun j => Int32.ofInt (M a j))) := fun M => by unfold zent; rw [if_neg (by omega), if_neg (by omega), if_pos t]
        rw [he] at hg
        refine W.bast hx hb (S.1.2.2.1 _ _ hg) ((hK.2 2 _ rfl).1 ((zsh a).2).toNat (fun j => .int (Int32.ofInt (M a j)))) (fun q => by cases q) (by show ¬ (_ < 0 ∨ (arrV _ _ _).slots.size ≤ _); rw [arrV_size]; exact hin) rfl rfl hd fun H1 e z oq => ?_
        refine kk H1 _ (S.set h3 ha.2 hgp (by rw [zpk_at t (by decide)]; exact hxr) (fun w hw => List.mem_cons_of_mem _ (List.mem_cons_of_mem _ (List.mem_cons_of_mem _ hw))) ?_ z oq (fun q hq => (List.mem_append.mp hq).imp id (fun h => by rw [List.mem_singleton.mp h]))) (znx_set h3)
        rw [he]
        show H1[zad B a]? = some (vp_cell _ _)
        rw [znar_b hxr] at e
        refine e.trans ?_
        rw [znc hi0 hi]
        exact congrArg some (zarr_st (g := fun z => Value.int (Int32.ofInt z)) (aD 2) _ hi0)
      · have he : ∀ M : ZM, zent B aD M a = .inl (aD 3, ((zsh a).2).toNat, .inl (fun j => Int32.ofInt (M a j))) := fun M => by unfold zent; rw [if_neg (by omega), if_neg (by omega), if_neg (by omega), if_pos t]
        rw [he] at hg
        refine W.zast hx hb (S.1.2.2.1 _ _ hg) ((hK.2 3 _ rfl).1 ((zsh a).2).toNat (fun j => .int (Int32.ofInt (M a j)))) (fun q => by cases q) (by show ¬ (_ < 0 ∨ (arrV _ _ _).slots.size ≤ _); rw [arrV_size]; exact hin) rfl rfl hd fun H1 e z oq => ?_
        refine kk H1 _ (S.set h3 ha.2 hgp (by rw [zpk_at t (by decide)]; exact hxr) (fun w hw => List.mem_cons_of_mem _ (List.mem_cons_of_mem _ (List.mem_cons_of_mem _ hw))) ?_ z oq (fun q hq => (List.mem_append.mp hq).imp id (fun h => by rw [List.mem_singleton.mp h]))) (znx_set h3)
        rw [he]
        show H1[zad B a]? = some (vp_cell _ _)
        rw [znar_z hxr] at e
        refine e.trans ?_
        rw [znc hi0 hi]
        exact congrArg some (zarr_st (g := fun z => Value.int (Int32.ofInt z)) (aD 3) _ hi0)
    · cases h
  · cases h
theorem zs_alen (S : zSt B D aD L xs k s H locs ls LS st M) (C : zCtx B D aD L xs k p s m args meth c) (hd : decode (zcode k) pc = .ok (.arraylength, 1)) (h : zalen (pc + 1) ls st M = some (pc', ls', st', M'))
    (kk : ∀ LS', zSt B D aD L xs k s H locs ls' LS' st' M' → M' = M → W p l e R s m args below meth c H locs cells slots Q (F0 m pc' LS' (st'.map (zenc B)))) : W p l e R s m args below meth c H locs cells slots Q (F0 m pc LS (st.map (zenc B))) := by
  obtain ⟨hx, hb, -, -, -, -, hK, hX, hL4, hbl, hbs, -, -, hT1, hT2, -⟩ := C
  unfold zalen at h
  split at h
  · next a r =>
    split at h
    · next hc =>
      obtain ⟨rfl, rfl, rfl, rfl⟩ := zsome h
      have ha : -3 ≤ a ∧ a < znx M := S.2.2.2.2 (.inr (.inr a)) List.mem_cons_self
      have go : zi32 (zlen M a) → W p l e R s m args below meth c H locs cells slots Q (F0 m (pc + 1) LS (.int (Int32.ofInt (zlen M a)) :: r.map (zenc B))) := fun hv =>
        kk LS (S.to fun w hw => (List.mem_cons.mp hw).elim (fun e => e ▸ hv) (fun h => S.2.2.2.2 w (List.mem_cons_of_mem _ h))) rfl
      show W p l e R s m args below meth c H locs cells slots Q (F0 m pc LS (zrv B a :: r.map (zenc B)))
      rcases hc with t | t
      · have h3 : 3 ≤ a := zsh_low (by omega) (by omega) (by omega)
        have hgp : a ≠ 223 := zsh_gap (by omega)
        rw [zrv_ref (by omega)]
        have hg := zW_get (B := B) (aD := aD) h3 ha.2 hgp
        have hz := zsh_sz h3
        have h0 : 0 ≤ (zsh a).2 ∧ (zsh a).2 ≤ 100000 := by
          rcases hz with h | h
          · omega
          · exact h.2
        have hgo := go (by rw [zlen_own h3]; exact ⟨by omega, by omega⟩)
        rw [zlen_own h3] at hgo
        have hv : ∀ x : vp_A, x.1 = ((zsh a).2).toNat → Int32.ofNat x.1 = Int32.ofInt (zsh a).2 := fun x hx => by
          rw [hx]
          show Int32.ofInt (((zsh a).2).toNat : Int) = _
          rw [Int.toNat_of_nonneg h0.1]
        have key : ∃ (t0 : Nat) (cA : ClassId) (x : vp_A) (ty : FieldType), (zty aD)[t0]? = some (cA, ty) ∧ zent B aD M a = .inl (cA, x) ∧ x.1 = ((zsh a).2).toNat := by
          unfold zent
          by_cases q0 : (zsh a).1 = 0
          · rw [if_pos q0]; exact ⟨0, _, _, _, rfl, rfl, rfl⟩
          rw [if_neg q0]
          by_cases q1 : (zsh a).1 = 1
          · rw [if_pos q1]; exact ⟨1, _, _, _, rfl, rfl, rfl⟩
          rw [if_neg q1]
          by_cases q2 : (zsh a).1 = 2
          · rw [if_pos q2]; exact ⟨2, _, _, _, rfl, rfl, rfl⟩
          rw [if_neg q2]
          by_cases q3 : (zsh a).1 = 3
          · rw [if_pos q3]; exact ⟨3, _, _, _, rfl, rfl, rfl⟩
          rw [if_neg q3]
          by_cases q4 : (zsh a).1 = 4
          · rw [if_pos q4]; exact ⟨4, _, _, _, rfl, rfl, rfl⟩
          rw [if_neg q4, if_pos (by omega)]
          exact absurd (show (zsh a).1 = 5 by omega) (zsh_5 h3 (by have := znx_le S.1; omega))
        obtain ⟨t0, cA, x, ty, k1, k2, k3⟩ := key
        rw [k2] at hg
        exact va_alen hx hb hK S.1.2.2.1 _ t0 hg k1 (hv x k3) hd hgo
      · have a0 := zsh_21 t
        subst a0
        have e0 : zlen M 0 = (L : Int) := by
          unfold zlen
          rw [if_pos rfl]
          exact S.2.1.1
        rw [zrv_ref (by decide)]
        rw [e0] at go
        exact va_slen hx hb hX (show B.1 < s.heap.size by omega) (show ¬ B.2.2.2 ≤ B.1 by omega) S.2.2.1 hd (go ⟨by omega, by omega⟩)
    · cases h
  · cases h
theorem zs_aast (S : zSt B D aD L xs k s H locs ls LS st M) (C : zCtx B D aD L xs k p s m args meth c) (hd : decode (zcode k) pc = .ok (.aastore, 1)) (h : zastA (pc + 1) ls st M = some (pc', ls', st', M'))
    (kk : ∀ H1 locs1, zSt B D aD L xs k s H1 locs1 ls' LS st' M' → znx M' = znx M → W p l e R s m args below meth c H1 locs1 cells slots Q (F0 m pc' LS (st'.map (zenc B)))) : W p l e R s m args below meth c H locs cells slots Q (F0 m pc LS (st.map (zenc B))) := by
  obtain ⟨hx, hb, -, -, -, -, hK, -⟩ := C
  unfold zastA at h
  split at h
  · next x i a r =>
    split at h
    · next hc =>
      obtain ⟨rfl, rfl, rfl, rfl⟩ := zsome h
      obtain ⟨t, hxs, hi0, hi1⟩ := hc
      have hxr0 : -3 ≤ x ∧ x < znx M := S.2.2.2.2 (.inr (.inr x)) List.mem_cons_self
      have hxr : -1 ≤ x ∧ x < znx M := ⟨by have := zsh_low (a := x) (by rw [hxs]; decide) (by rw [hxs]; decide) (by rw [hxs]; decide); omega, hxr0.2⟩
      have hi : zi32 i := S.2.2.2.2 (.inl i) (List.mem_cons_of_mem _ List.mem_cons_self)
      have ha : -3 ≤ a ∧ a < znx M := S.2.2.2.2 (.inr (.inr a)) (List.mem_cons_of_mem _ (List.mem_cons_of_mem _ List.mem_cons_self))
      have h3 : 3 ≤ a := zsh_low (by omega) (by omega) (by omega)
      have hgp : a ≠ 223 := zsh_gap (by omega)
      have hx3 : 3 ≤ x := zsh_low (by rw [hxs]; decide) (by rw [hxs]; decide) (by rw [hxs]; decide)
      have hgpx : x ≠ 223 := zsh_gap (by rw [hxs]; decide)
      rw [zlen_own h3] at hi1
      have hg := zW_get (B := B) (aD := aD) h3 ha.2 hgp
      have hgx := zW_get (B := B) (aD := aD) hx3 hxr.2 hgpx
      rw [show zent B aD M x = .inr (0, (List.range (zNf 0)).map (fun j => zencF B (ztyX 0 j) (M x j))) by unfold zent; rw [hxs]; rfl] at hgx
      have he : ∀ M : ZM, zent B aD M a = .inl (aD 4, ((zsh a).2).toNat, .inr (.inr (.inr (.inr (fun j => zro B (M a j)))))) := fun M => by unfold zent; rw [if_neg (by omega), if_neg (by omega), if_neg (by omega), if_neg (by omega), if_pos t]
      rw [he] at hg
      have hin := zvp hi0 hi (n := ((zsh a).2).toNat) (by omega)
      have hlt : (Int32.ofInt i).toNatClampNeg < ((zsh a).2).toNat := Nat.not_le.mp fun q => hin (Or.inr q)
      have hi00 : ¬ Int32.ofInt i < 0 := fun q => hin (Or.inl q)
      obtain ⟨r', hr', cellV, g1, g2, g3, -⟩ := S.1.2.2.1 _ _ hgx
      have hcls := (hK.1 0 (RX0, TX0, 12) rfl).2
      obtain ⟨kA, comp, k1, k2, k3, -⟩ : ∃ (kA : Class) (comp : ClassId), s.vm.classes[aD 4]? = some kA ∧ kA.kind = .array comp (.object RX0) ∧ s.vm.findClass RX0 = some comp ∧ s.vm.findClass ("[" ++ (FieldType.object RX0).toString) = some (aD 4) := (hK.2 4 _ rfl).2
      have hcomp : comp = D.1 0 := Option.some.inj (k3.symm.trans hcls.1)
      subst hcomp
      have hasn := va_assign hcls
      obtain ⟨kC, hkC, -⟩ := hcls.2
      show W p l e R s m args below meth c H locs cells slots Q (F0 m pc LS (zrv B x :: .int (Int32.ofInt i) :: zrv B a :: r.map (zenc B)))
      rw [zrv_ref (by omega), zrv_ref (by omega)]
      refine W.aast hx hb (S.1.2.2.1 _ _ hg) (fun q h => by cases h) (fun h => by cases h) k1 k2 rfl hkC ⟨hi00, by show _ < (arrV _ _ _).slots.size; rw [arrV_size]; exact hlt⟩ g1 (fun q h => by rw [g3] at h; cases h) (by rw [g2]; exact hkC) (by rw [g2]; exact hasn) rfl rfl hd fun H1 e z oq => ?_
      refine kk H1 _ (S.set h3 ha.2 hgp (by rw [zpk_at t (by decide)]; exact hxr) (fun w hw => List.mem_cons_of_mem _ (List.mem_cons_of_mem _ (List.mem_cons_of_mem _ hw))) ?_ z oq (fun q hq => (List.mem_append.mp hq).imp id (fun h => by rw [List.mem_singleton.mp h]))) (znx_set h3)
      rw [he]
      show H1[zad B a]? = some (vp_cell _ _)
      rw [e, vp_cell_q, vp_cell_q, arrV_store]
      congr 2
      funext j
      have := congrFun (zupd_fun (zro B) (M := M) (a := a) (i := i) (x := x) hi0) j
      rw [this, znc hi0 hi]
      unfold updV
      split
      · rw [zro_rf, zrv_ref (by omega)]
      · rfl
    · cases h
  · cases h
theorem zs_copy (S : zSt B D aD L xs k s H locs ls LS st M) (C : zCtx B D aD L xs k p s m args meth c) {j : Nat} (hd : decode (zcode k) pc = .ok (.invokestatic j, 3)) (hl : Cond.methodLink (zcn (zcl k)) j arraycopyName ∈ zTs) (h : zacopy (pc + 3) ls st M = some (pc', ls', st', M')) (hfr : 1 ≤ R.frames) (hlo : 46 ≤ R.locals)
    (kk : ∀ H1 locs1, zSt B D aD L xs k s H1 locs1 ls' LS st' M' → znx M' = znx M → W p l e R s m args below meth c H1 locs1 cells slots Q (F0 m pc' LS (st'.map (zenc B)))) : W p l e R s m args below meth c H locs cells slots Q (F0 m pc LS (st.map (zenc B))) := by
  obtain ⟨hx, hb, hml, hown, hts, -, hK, -⟩ := C
  unfold zacopy at h
  split at h
  · next n q a sp b r =>
    split at h
    · next hc =>
      obtain ⟨rfl, rfl, rfl, rfl⟩ := zsome h
      obtain ⟨ta, tb, hn0, hq0, hp0, hp1, hq1, hcat, hfull⟩ := hc
      have hn : zi32 n := S.2.2.2.2 (.inl n) List.mem_cons_self
      have hq : zi32 q := S.2.2.2.2 (.inl q) (List.mem_cons_of_mem _ List.mem_cons_self)
      have ha : -3 ≤ a ∧ a < znx M := S.2.2.2.2 (.inr (.inr a)) (List.mem_cons_of_mem _ (List.mem_cons_of_mem _ List.mem_cons_self))
      have hp : zi32 sp := S.2.2.2.2 (.inl sp) (List.mem_cons_of_mem _ (List.mem_cons_of_mem _ (List.mem_cons_of_mem _ List.mem_cons_self)))
      have hb' : -3 ≤ b ∧ b < znx M := S.2.2.2.2 (.inr (.inr b)) (List.mem_cons_of_mem _ (List.mem_cons_of_mem _ (List.mem_cons_of_mem _ (List.mem_cons_of_mem _ List.mem_cons_self))))
      have h3 : 3 ≤ a := zsh_low (by omega) (by omega) (by omega)
      have hgp : a ≠ 223 := zsh_gap (by omega)
      have hb3 : 3 ≤ b := zsh_low (by omega) (by omega) (by omega)
      have hgpb : b ≠ 223 := zsh_gap (by omega)
      have hga := zW_get (B := B) (aD := aD) h3 ha.2 hgp
      have hgb := zW_get (B := B) (aD := aD) hb3 hb'.2 hgpb
      have hcp : ∀ (a' : Int), a' ≠ a → ∀ j, zcopy M b sp a q n a' j = M a' j := fun a' h j => by unfold zcopy; rw [if_neg (fun z => h z.1)]
      have hnx : znx (zcopy M b sp a q n) = znx M := hcp (-1) (by omega) 0
      have hM : ∀ j : Nat, zcopy M b sp a q n a j = if q.toNat ≤ j ∧ j < q.toNat + n.toNat then M b (((sp.toNat + (j - q.toNat) : Nat) : Int)) else M a j := fun j => by
        unfold zcopy
        by_cases z : q.toNat ≤ j ∧ j < q.toNat + n.toNat
        · rw [if_pos z, if_pos ⟨rfl, by omega, by omega⟩]
          congr 1
          omega
        · rw [if_neg z, if_neg (fun w => z ⟨by omega, by omega⟩)]
      have hokM : zokM (zcopy M b sp a q n) := by
        intro a' h1 h2 j' h4 h5
        rw [hnx] at h2 ⊢
        by_cases z : a' = a
        · subst z
          unfold zcopy
          by_cases w : q ≤ j' ∧ j' < q + n
          · rw [if_pos ⟨rfl, w⟩]
            have hz := S.1.2.2.2 b hb3 hb'.2 (sp + (j' - q)) (by omega) (by unfold zcnt; rw [if_pos (by omega)]; omega)
            rw [zpk_at tb (by omega)] at hz
            rw [zpk_at (t := (zsh a').1) rfl (by omega)]
            exact hz
          · rw [if_neg (fun v => w v.2)]
            exact S.1.2.2.2 a' h1 h2 j' h4 h5
        · rw [hcp a' z]
          exact S.1.2.2.2 a' h1 h2 j' h4 h5
      have hS2 : zS L xs (zcopy M b sp a q n) := by
        obtain ⟨s1, s2, s3, s4⟩ := S.2.1
        exact ⟨by rw [hcp 0 (by omega)]; exact s1, fun j hj => by rw [hcp 0 (by omega)]; exact s2 j hj, fun j hj => by rw [hcp 1 (by omega)]; exact s3 j hj, fun j hj => by rw [hcp 2 (by omega)]; exact s4 j hj⟩
      have fin : ∀ (e' : va_E) (H1 : Heap) (locs1 : List Loc), zent B aD (zcopy M b sp a q n) a = e' → va_P D vwCl ((zW B aD M).set (zix a) (zad B a, e')) H1 → va_S (zAq B) s.heap H1 locs1 → W p l e R s m args below meth c H1 locs1 cells slots Q (F0 m (pc + 3) LS (r.map (zenc B))) := by
        intro e' H1 locs1 he hP hF
        rw [zW_set h3 ha.2 hgp hnx he (fun a' h => zent_congr (hcp a' h))] at hP
        refine kk H1 locs1 ⟨⟨by rw [hnx]; exact S.1.1, Or.inl (by rw [hnx]; rcases S.1.2.1 with q | q <;> omega), hP, hokM⟩, hS2, hF, by rw [hnx]; exact S.2.2.2.1, fun w hw => ?_⟩ hnx
        rw [hnx]
        exact S.2.2.2.2 w (List.mem_cons_of_mem _ (List.mem_cons_of_mem _ (List.mem_cons_of_mem _ (List.mem_cons_of_mem _ (List.mem_cons_of_mem _ hw)))))
      show W p l e R s m args below meth c H locs cells slots Q (F0 m pc LS (.int (Int32.ofInt n) :: .int (Int32.ofInt q) :: zrv B a :: .int (Int32.ofInt sp) :: zrv B b :: r.map (zenc B)))
      rw [zrv_ref (by omega), zrv_ref (by omega)]
      have hloc : ((r.map (zenc B)).map fun v => v.category).sum + (nativeFrameWords "java/lang/System" "arraycopy" 5 + 11) ≤ R.locals := by
        rw [zcat_sum]
        have : nativeFrameWords "java/lang/System" "arraycopy" 5 = 7 := by decide
        omega
      have n1 : ¬ Int32.ofInt sp < 0 := by rw [← z0of, zlt32 hp z032]; omega
      have n2 : ¬ Int32.ofInt q < 0 := by rw [← z0of, zlt32 hq z032]; omega
      have n3 : ¬ Int32.ofInt n < 0 := by rw [← z0of, zlt32 hn z032]; omega
      have c1 := znc hn0 hn
      have c2 := znc hq0 hq
      have c3 := znc hp0 hp
      have hca : (zsh a).1 = 0 ∨ (zsh a).1 = 1 ∨ (zsh a).1 = 2 := by omega
      rcases hca with t | t | t
      · have ea : ∀ M : ZM, zent B aD M a = .inl (aD 0, ((zsh a).2).toNat, .inl (fun j => Int32.ofInt (M a j))) := fun M => by unfold zent; rw [if_pos t]
        have eb : zent B aD M b = .inl (aD 0, ((zsh b).2).toNat, .inl (fun j => Int32.ofInt (M b j))) := by unfold zent; rw [if_pos (by omega)]
        rw [ea] at hga
        rw [eb] at hgb
        refine va_copyi hx hb (by rw [hml]; exact S.2.2.2.1.2.1.symm) hown (hts _ hl) (hts _ zx_acn) (hts _ zx_acs) (hts _ zx_aci) hK S.1.2.2.1 zW_D S.2.2.1 _ _ 0 0 hgb hga rfl rfl rfl n1 n2 n3 (by rw [c1, c3]; omega) (by rw [c1, c2]; omega) (fun i _ => rfl) hfr hloc hd (fun H1 locs1 p1 _ p3 => fin _ H1 locs1 ?_ p1 p3)
        rw [ea, c1, c2, c3]
        congr 4
        funext j
        rw [hM j]
        unfold va_cpy
        split <;> rfl
      · have ea : ∀ M : ZM, zent B aD M a = .inl (aD 1, ((zsh a).2).toNat, .inr (.inl (fun j => Int64.ofInt (M a j)))) := fun M => by unfold zent; rw [if_neg (by omega), if_pos t]
        have eb : zent B aD M b = .inl (aD 1, ((zsh b).2).toNat, .inr (.inl (fun j => Int64.ofInt (M b j)))) := by unfold zent; rw [if_neg (by omega), if_pos (by omega)]
        rw [ea] at hga
        rw [eb] at hgb
        refine va_copyl hx hb (by rw [hml]; exact S.2.2.2.1.2.1.symm) hown (hts _ hl) (hts _ zx_acn) (hts _ zx_acs) (hts _ zx_aci) hK S.1.2.2.1 zW_D S.2.2.1 _ _ 1 1 hgb hga rfl rfl rfl n1 n2 n3 (by rw [c1, c3]; omega) (by rw [c1, c2]; omega) (fun i _ => rfl) hfr hloc hd (fun H1 locs1 p1 _ p3 => fin _ H1 locs1 ?_ p1 p3)
        rw [ea, c1, c2, c3]
        congr 5
        funext j
        rw [hM j]
        unfold va_cpy
        split <;> rfl
      · have ea : ∀ M : ZM, zent B aD M a = .inl (aD 2, ((zsh a).2).toNat, .inl (fun j => Int32.ofInt (M a j))) := fun M => by unfold zent; rw [if_neg (by omega), if_neg (by omega), if_pos t]
        have eb : zent B aD M b = .inl (aD 2, ((zsh b).2).toNat, .inl (fun j => Int32.ofInt (M b j))) := by unfold zent; rw [if_neg (by omega), if_neg (by omega), if_pos (by omega)]
        rw [ea] at hga
        rw [eb] at hgb
        refine va_copyi hx hb (by rw [hml]; exact S.2.2.2.1.2.1.symm) hown (hts _ hl) (hts _ zx_acn) (hts _ zx_acs) (hts _ zx_aci) hK S.1.2.2.1 zW_D S.2.2.1 _ _ 2 2 hgb hga rfl rfl rfl n1 n2 n3 (by rw [c1, c3]; omega) (by rw [c1, c2]; omega) (fun i hi => ?_) hfr hloc hd (fun H1 locs1 p1 _ p3 => fin _ H1 locs1 ?_ p1 p3)
        · rw [c3]
          have hz := zok_at S hb3 hb'.2 (t := 2) (by omega) (by decide) (i := ((sp.toNat + i : Nat) : Int)) (by omega) (by rw [c1] at hi; omega)
          have hz : -128 ≤ M b ((sp.toNat + i : Nat) : Int) ∧ M b ((sp.toNat + i : Nat) : Int) ≤ 127 := hz
          exact zfits_b hz
        · rw [ea, c1, c2, c3]
          congr 4
          funext j
          rw [hM j]
          unfold va_cpy
          split <;> rfl
    · cases h
  · cases h
end ZARR2
end
section
/-! ===== one step: fields, statics, constants, the stack ===== -/
theorem zvw {ci : Nat} (h : ci < 9) : vwCl[ci]? = some (zcn ci, zTX ci, zNf ci) := by
  match ci, h with
  | 0, _ => rfl
  | 1, _ => rfl
  | 2, _ => rfl
  | 3, _ => rfl
  | 4, _ => rfl
  | 5, _ => rfl
  | 6, _ => rfl
  | 7, _ => rfl
  | 8, _ => rfl
  | n + 9, h => exact absurd h (by omega)
theorem zcw_in {ci : Nat} (h : ci < 9) : ∀ w ∈ u_ws (zcn ci) (zTX ci) (zNf ci), w ∈ zTs := by
  match ci, h with
  | 0, _ => exact zCw_in_0
  | 1, _ => exact zCw_in_1
  | 2, _ => exact zCw_in_2
  | 3, _ => exact zCw_in_3
  | 4, _ => exact zCw_in_4
  | 5, _ => exact zCw_in_5
  | 6, _ => exact zCw_in_6
  | 7, _ => exact zCw_in_7
  | 8, _ => exact zCw_in_8
  | n + 9, h => exact absurd h (by omega)
theorem zci_in {ci : Nat} (h : ci < 9) : Cond.instantiable (zcn ci) (zNf ci) ∈ zTs := by
  match ci, h with
  | 0, _ => exact zCi_in_0
  | 1, _ => exact zCi_in_1
  | 2, _ => exact zCi_in_2
  | 3, _ => exact zCi_in_3
  | 4, _ => exact zCi_in_4
  | 5, _ => exact zCi_in_5
  | 6, _ => exact zCi_in_6
  | 7, _ => exact zCi_in_7
  | 8, _ => exact zCi_in_8
  | n + 9, h => exact absurd h (by omega)
theorem zty_ok {ci : Nat} (h : ci < 9) : ∀ j, j < zNf ci → parseFieldDescriptor (zTX ci j).2.2.1 = some (ztyX ci j) := by
  match ci, h with
  | 0, _ => exact tyX0_ok
  | 1, _ => exact tyX1_ok
  | 2, _ => exact tyX2_ok
  | 3, _ => exact tyX3_ok
  | 4, _ => exact tyX4_ok
  | 5, _ => exact tyX5_ok
  | 6, _ => exact tyX6_ok
  | 7, _ => exact tyX7_ok
  | 8, _ => exact tyX8_ok
  | n + 9, h => exact absurd h (by omega)
theorem znm {ci : Nat} (h : ci < 9) : ∀ a, a < zNf ci → ∀ b, b < zNf ci → a ≠ b → (zTX ci a).2.1 ≠ (zTX ci b).2.1 := by
  match ci, h with
  | 0, _ => exact nmX0
  | 1, _ => exact nmX1
  | 2, _ => exact nmX2
  | 3, _ => exact nmX3
  | 4, _ => exact nmX4
  | 5, _ => exact nmX5
  | 6, _ => exact nmX6
  | 7, _ => exact nmX7
  | 8, _ => exact nmX8
  | n + 9, h => exact absurd h (by omega)
theorem zown_ok : ∀ ci, ci < 9 → ∀ j, j < zNf ci → (zTX ci j).1 = zcn ci := by decide +kernel
theorem zty_nl : ∀ ci, ci < 9 → ∀ j, j < zNf ci → (ztyX ci j = .int ∨ ztyX ci j = .boolean ∨ (∃ n, ztyX ci j = .object n) ∨ ∃ t, ztyX ci j = .array t) := by
  intro ci h j hj
  have key : ∀ ci, ci < 9 → ∀ j, j < zNf ci → (match ztyX ci j with | .int => true | .boolean => true | .object _ => true | .array _ => true | _ => false) = true := by decide +kernel
  have h1 := key ci h j hj
  cases e : ztyX ci j <;> rw [e] at h1 <;> first | exact Or.inl rfl | exact Or.inr (Or.inl rfl) | exact Or.inr (Or.inr (Or.inl ⟨_, rfl⟩)) | exact Or.inr (Or.inr (Or.inr ⟨_, rfl⟩)) | cases h1
theorem zent_obj {B : zBs} {aD : Nat → ClassId} {M : ZM} {a : Int} {ci : Nat} (h : zsh a = (10 + ci, 0)) : zent B aD M a = .inr (ci, (List.range (zNf ci)).map (fun j => zencF B (ztyX ci j) (M a j))) := by
  unfold zent
  rw [h]
  simp only [show (10 + ci = 0) = False from by simp, show ¬ 10 + ci = 0 from by omega, show ¬ 10 + ci = 1 from by omega, show ¬ 10 + ci = 2 from by omega, show ¬ 10 + ci = 3 from by omega, show ¬ 10 + ci = 4 from by omega, show ¬ 10 + ci = 5 from by omega, if_false, Nat.add_sub_cancel_left]
theorem ztag_enc {B : zBs} {ty : FieldType} {x : Int} {v : ZV} (h : ztag ty x = some v) : zencF B ty x = zenc B v := by
  unfold ztag at h
  split at h
  · cases h; rfl
  · cases h; rfl
  · cases h; rfl
  · cases h; rfl
  · cases h
theorem zpk_obj {a : Int} {ci j : Nat} (h : zsh a = (10 + ci, 0)) : zpk a j = match ztyX ci j with
  | .object _ => 4
  | .array _ => 4
  | .boolean => 3
  | _ => 0 := by
  unfold zpk
  rw [h]
  simp only [show ¬ 10 + ci < 4 from by omega, show ¬ 10 + ci < 10 from by omega, if_false, Nat.add_sub_cancel_left, Int.toNat_natCast]
  cases ztyX ci j <;> rfl
theorem zcnt_obj {a : Int} {ci : Nat} (h : zsh a = (10 + ci, 0)) : zcnt a = (zNf ci : Nat) := by
  unfold zcnt
  rw [h]
  simp only [show ¬ 10 + ci < 10 from by omega, if_false, Nat.add_sub_cancel_left]
theorem ztag_ok {a : Int} {ci j : Nat} {n x : Int} {v : ZV} (h : zsh a = (10 + ci, 0)) (hz : zin n (zpk a j) x) (ht : ztag (ztyX ci j) x = some v) : zokV n v := by
  rw [zpk_obj h] at hz
  unfold ztag at ht
  split at ht
  · next e => rw [e] at hz; cases ht; exact hz
  · next e =>
    rw [e] at hz
    cases ht
    have hz : 0 ≤ x ∧ x ≤ 1 := hz
    exact ⟨by omega, by omega⟩
  · next e =>
    rw [e] at hz
    cases ht
    have hz : -1 ≤ x ∧ x < n := hz
    exact ⟨by omega, hz.2⟩
  · next e =>
    rw [e] at hz
    cases ht
    have hz : -1 ≤ x ∧ x < n := hz
    exact ⟨by omega, hz.2⟩
  · cases ht
theorem zfit_ok {a : Int} {ci j : Nat} {n x : Int} {v : ZV} (h : zsh a = (10 + ci, 0)) (hv : zokV n v) (ht : zfit (ztyX ci j) v = some x) : zin n (zpk a j) x := by
  rw [zpk_obj h]
  unfold zfit at ht
  split at ht
  · next e => rw [e]; cases ht; exact hv
  · next e =>
    rw [e]
    split at ht
    · next q => cases ht; exact q
    · cases ht
  · next e =>
    rw [e]
    split at ht
    · next q =>
      cases ht
      have hv : -3 ≤ x ∧ x < n := hv
      exact (⟨by omega, hv.2⟩ : -1 ≤ x ∧ x < n)
    · cases ht
  · next e =>
    rw [e]
    split at ht
    · next q =>
      cases ht
      have hv : -3 ≤ x ∧ x < n := hv
      exact (⟨by omega, hv.2⟩ : -1 ≤ x ∧ x < n)
    · cases ht
  · cases ht
theorem zfit_enc {B : zBs} {ty : FieldType} {x n : Int} {v : ZV} (ht : zfit ty v = some x) (hv : zokV n v) : zencF B ty x = zenc B v ∧ narrow ty (zenc B v) = zenc B v ∧ fits ty (zenc B v) = true := by
  unfold zfit at ht
  split at ht
  · cases ht; exact ⟨rfl, rfl, rfl⟩
  · next z =>
    split at ht
    · next q =>
      have hz := Option.some.inj ht
      subst hz
      refine ⟨rfl, znar_z q, ?_⟩
      have h01 : z = 0 ∨ z = 1 := by omega
      rcases h01 with rfl | rfl <;> rfl
    · cases ht
  · next z =>
    split at ht
    · next q =>
      have hz := Option.some.inj ht
      subst hz
      refine ⟨rfl, ?_, ?_⟩
      · show narrow _ (zrv B z) = zrv B z
        rw [zrv_ref q]; rfl
      · show fits _ (zrv B z) = true
        rw [zrv_ref q]; rfl
    · cases ht
  · next z =>
    split at ht
    · next q =>
      have hz := Option.some.inj ht
      subst hz
      refine ⟨rfl, ?_, ?_⟩
      · show narrow _ (zrv B z) = zrv B z
        rw [zrv_ref q]; rfl
      · show fits _ (zrv B z) = true
        rw [zrv_ref q]; rfl
    · cases ht
  · cases ht
section ZFLD
variable {p : Program} {l : Launch} {e : Env} {R : Room} {s : State} {m : MethodId} {args : Array Value} {below : List Frame} {meth : Method} {c : Code} {H : Heap} {locs : List Loc} {cells slots : Nat} {Q : State → Prop}
variable {B : zBs} {D : va_G} {aD : Nat → ClassId} {L : Nat} {xs : Nat → Int32} {k : Nat} {pc pc' : Nat} {ls ls' : ZL} {st st' : ZS} {M M' : ZM} {LS : Array Slot}
theorem zfl_at {n ci j : Nat} {q : zPos} (hc : zcl k ≠ 9) (h : zlk (zFl (zcl k)) n = some (ci, j, q)) : Cond.fieldLink (zcn (zcl k)) n (zTX ci j).1 (zTX ci j).2.1 (zTX ci j).2.2.1 ∈ zTs ∧ j < zNf ci ∧ ci < 9 := by
  have h1 := zFl_ok (zcl k) hc _ (zlk_mem _ _ _ h)
  unfold zFlOk at h1
  simp only [Bool.and_eq_true] at h1
  exact ⟨zhas_in h1.1.1, Nat.lt_of_lt_of_le (Nat.lt_succ_self _) (Nat.le_of_ble_eq_true h1.1.2), Nat.lt_of_lt_of_le (Nat.lt_succ_self _) (Nat.le_of_ble_eq_true h1.2)⟩
theorem zs_getf (S : zSt B D aD L xs k s H locs ls LS st M) (C : zCtx B D aD L xs k p s m args meth c) {n : Nat} (hd : decode (zcode k) pc = .ok (.getfield n, 3)) (h : zgetf (zlk (zFl (zcl k)) n) (pc + 3) ls st M = some (pc', ls', st', M'))
    (kk : ∀ LS', zSt B D aD L xs k s H locs ls' LS' st' M' → M' = M → W p l e R s m args below meth c H locs cells slots Q (F0 m pc' LS' (st'.map (zenc B)))) : W p l e R s m args below meth c H locs cells slots Q (F0 m pc LS (st.map (zenc B))) := by
  obtain ⟨hx, hb, -, hown, hts, ⟨-, hgh⟩, hK, -⟩ := C
  unfold zgetf at h
  split at h
  · next ci j q a r eq =>
    split at h
    · next hsh =>
      split at h
      · next v hv =>
        obtain ⟨rfl, rfl, rfl, rfl⟩ := zsome h
        obtain ⟨hlk, hj, hci⟩ := zfl_at (zgh_c hgh) eq
        have ha : -3 ≤ a ∧ a < znx M := S.2.2.2.2 (.inr (.inr a)) List.mem_cons_self
        have h3 : 3 ≤ a := zsh_low (by rw [hsh]; show 10 + ci ≠ 20; omega) (by rw [hsh]; show 10 + ci ≠ 21; omega) (by rw [hsh]; show 10 + ci ≠ 99; omega)
        have hgp : a ≠ 223 := zsh_gap (by rw [hsh]; show 10 + ci ≠ 99; omega)
        have hg := zW_get (B := B) (aD := aD) h3 ha.2 hgp
        rw [zent_obj hsh] at hg
        show W p l e R s m args below meth c H locs cells slots Q (F0 m pc LS (zrv B a :: r.map (zenc B)))
        rw [zrv_ref (by omega)]
        refine va_get hx hb hts (zcw_in hci) hown hK S.1.2.2.1 _ hg (zvw hci) j hj (hts _ hlk) (fun _ h => h) (v := zenc B v) ?_ hd ?_
        · rw [List.getElem?_map, List.getElem?_range hj]
          show some (zencF B (ztyX ci j) (M a j)) = _
          rw [ztag_enc hv]
        · have hz := S.1.2.2.2 a h3 ha.2 (j : Int) (by omega) (by rw [zcnt_obj hsh]; omega)
          exact kk LS (S.to fun w hw => (List.mem_cons.mp hw).elim (fun e => e ▸ ztag_ok hsh hz hv) (fun h => S.2.2.2.2 w (List.mem_cons_of_mem _ h))) rfl
      · cases h
    · cases h
  · cases h
theorem zobj_set {B : zBs} {D : va_G} {aD : Nat → ClassId} {M : ZM} {a x : Int} {ci j : Nat} {v : Value} {cell : Cell} {H1 : Heap} (hci : ci < 9) (hsh : zsh a = (10 + ci, 0)) (hj : j < zNf ci) (hv : zencF B (ztyX ci j) x = v)
    (q2 : cell.cls = D.1 ci) (q3 : cell.vm = .none) (q4 : ∀ i, i < zNf ci → cell.slots[D.2 ci i]? = some (vp_V ((List.range (zNf ci)).map (fun j => zencF B (ztyX ci j) (M a j))) i)) (hap : ∀ x y, x < zNf ci → y < zNf ci → x ≠ y → (D.2 ci) x ≠ (D.2 ci) y)
    (e1 : H1[zad B a]? = some (cell.setSlot (D.2 ci j) v)) : va_at D vwCl (zad B a, zent B aD (zset M a j x) a) H1 := by
  rw [zent_obj hsh]
  refine ⟨(zcn ci, zTX ci, zNf ci), zvw hci, t_OB.to (V := updV (vp_V ((List.range (zNf ci)).map (fun j => zencF B (ztyX ci j) (M a j)))) j v) ⟨_, e1, q2, q3, t_set q4 hap hj v⟩ (fun i hi => ?_)⟩
  unfold updV vp_V
  rw [List.getD_eq_getElem?_getD, List.getD_eq_getElem?_getD, List.getElem?_map, List.getElem?_map, List.getElem?_range hi]
  show (if i = j then v else zencF B (ztyX ci i) (M a i)) = zencF B (ztyX ci i) (zset M a j x a i)
  by_cases q : i = j
  · subst q
    rw [if_pos rfl, zset_eq, hv]
  · rw [if_neg q, zset_nj (by omega)]
theorem zs_putf (S : zSt B D aD L xs k s H locs ls LS st M) (C : zCtx B D aD L xs k p s m args meth c) {n : Nat} (hd : decode (zcode k) pc = .ok (.putfield n, 3)) (h : zputf k (zlk (zFl (zcl k)) n) (pc + 3) ls st M = some (pc', ls', st', M'))
    (kk : ∀ H1 locs1, zSt B D aD L xs k s H1 locs1 ls' LS st' M' → znx M' = znx M → W p l e R s m args below meth c H1 locs1 cells slots Q (F0 m pc' LS (st'.map (zenc B)))) : W p l e R s m args below meth c H locs cells slots Q (F0 m pc LS (st.map (zenc B))) := by
  obtain ⟨hx, hb, -, hown, hts, ⟨hinit, hgh⟩, hK, -⟩ := C
  unfold zputf at h
  split at h
  · next ci j q v a r eq =>
    split at h
    · next hsh =>
      obtain ⟨hsh, hfin⟩ := hsh
      split at h
      · next x hv =>
        obtain ⟨rfl, rfl, rfl, rfl⟩ := zsome h
        obtain ⟨hlk, hj, hci⟩ := zfl_at (zgh_c hgh) eq
        have hvo : zokV (znx M) v := S.2.2.2.2 v List.mem_cons_self
        have ha : -3 ≤ a ∧ a < znx M := S.2.2.2.2 (.inr (.inr a)) (List.mem_cons_of_mem _ List.mem_cons_self)
        have h3 : 3 ≤ a := zsh_low (by rw [hsh]; show 10 + ci ≠ 20; omega) (by rw [hsh]; show 10 + ci ≠ 21; omega) (by rw [hsh]; show 10 + ci ≠ 99; omega)
        have hgp : a ≠ 223 := zsh_gap (by rw [hsh]; show 10 + ci ≠ 99; omega)
        have hg := zW_get (B := B) (aD := aD) h3 ha.2 hgp
        rw [zent_obj hsh] at hg
        show W p l e R s m args below meth c H locs cells slots Q (F0 m pc LS (zenc B v :: zrv B a :: r.map (zenc B)))
        rw [zrv_ref (by omega)]
        obtain ⟨f1, f2, f3⟩ := zfit_enc (B := B) hv hvo
        have hap := va_apart (own := zcn (zcl k)) hts (zcw_in hci) (ztyX ci) (zty_ok hci) (znm hci) hK (zvw hci)
        obtain ⟨r', h1, cell, q1, q2, q3, q4⟩ := S.1.2.2.1 _ _ hg
        have hr : r' = (zcn ci, zTX ci, zNf ci) := Option.some.inj (h1.symm.trans (zvw hci))
        subst hr
        obtain ⟨hSl, hfc, kC, hkC, hkind⟩ := hK.1 ci _ (zvw hci)
        obtain ⟨cf, kf, fi, f, hi, hsl⟩ := hSl j hj
        have hlays := u_lays hts (zcw_in hci) hj
        have hst := (u_facts hfc hkC hlays hi).1
        have h6 := u_fits hfc hkC hkind hlays hi (zty_ok hci j hj) f2 f3
        have hf : hasFlag f.accessFlags Acc.final = false ∨ (m.cls = cf ∧ meth.name = "<init>") := by
          have hlay := hts _ (zcw_in hci _ (u_in_lay hj))
          unfold u_lay at hlay
          unfold zfin at hfin
          by_cases hF : (zTX ci j).2.2.2 = true
          · rw [if_pos hF] at hlay
            rw [hF] at hfin
            simp only [Bool.not_true, Bool.false_or, Bool.and_eq_true] at hfin
            have e1 := Nat.eq_of_beq_eq_true hfin.1
            have e2 := Nat.eq_of_beq_eq_true hfin.2
            refine Or.inr ⟨?_, hinit e1⟩
            obtain ⟨_, _, c', _, _, _, -, -, hf', -, -, -, hown2, -⟩ := Cond.laysFinal_spec hlay
            have e3 : c' = cf := by have := hi.symm.trans hf'; simp at this; exact this.1.symm
            rw [zown_ok ci hci j hj, ← e2] at hown2
            rw [← e3]
            exact Option.some.inj (hown.symm.trans hown2)
          · rw [if_neg hF] at hlay
            exact Or.inl (u_store hfc hkC hkind hlay hi (zty_ok hci j hj) f2 f3).1
        refine W.putf hx hb hown (hts _ hlk) hi hst hf q1 (by rw [q3]; intro z; cases z) (by rw [hsl]; exact k2_hasslot (q4 j hj)) h6.1 (by rw [q2, q3]; exact h6.2) rfl rfl hd ?_
        have hlt : zad B a < H.size := (Array.getElem?_eq_some_iff.mp q1).1
        refine kk _ _ (S.set h3 ha.2 hgp (zfit_ok hsh hvo hv) (fun w hw => List.mem_cons_of_mem _ (List.mem_cons_of_mem _ hw)) (zobj_set hci hsh hj f1 q2 q3 q4 hap ?_) (by simp) (fun q hq => by simp [Array.getElem?_setIfInBounds, Ne.symm hq]) (fun q hq => (List.mem_append.mp hq).imp id (fun h => by rw [List.mem_singleton.mp h]))) (znx_set h3)
        rw [← hsl]
        simp [Array.getElem?_setIfInBounds, hlt]
      · cases h
    · cases h
  · cases h
theorem zs_gets (S : zSt B D aD L xs k s H locs ls LS st M) (C : zCtx B D aD L xs k p s m args meth c) {n : Nat} (hd : decode (zcode k) pc = .ok (.getstatic n, 3)) (h : (match zlk (zSl (zcl k)) n with | some (w, _) => some (pc + 3, ls, zA (w : Int) :: st, M) | none => none) = some (pc', ls', st', M'))
    (kk : ∀ LS', zSt B D aD L xs k s H locs ls' LS' st' M' → M' = M → W p l e R s m args below meth c H locs cells slots Q (F0 m pc' LS' (st'.map (zenc B)))) : W p l e R s m args below meth c H locs cells slots Q (F0 m pc LS (st.map (zenc B))) := by
  obtain ⟨hx, hb, -, hown, hts, ⟨-, hgh⟩, hK, -, -, -, -, hZ1, hZ2, -, -, hN, -⟩ := C
  split at h
  · next w nest eq =>
    obtain ⟨rfl, rfl, rfl, rfl⟩ := zsome h
    have h1 := zSl_ok (zcl k) (zgh_c hgh) _ (zlk_mem _ _ _ eq)
    unfold zSlOk at h1
    simp only [Bool.and_eq_true, Bool.or_eq_true] at h1
    obtain ⟨h2, h3⟩ := h1
    have h3 : w = 1 ∨ w = 2 := h3.imp Nat.eq_of_beq_eq_true Nat.eq_of_beq_eq_true
    have go : W p l e R s m args below meth c H locs cells slots Q (F0 m (pc + 3) LS (zrv B (w : Int) :: st.map (zenc B))) :=
      kk LS (S.to fun v hv => (List.mem_cons.mp hv).elim (fun e => e ▸ (show -3 ≤ (w : Int) ∧ (w : Int) < znx M from ⟨by omega, by have := S.1.1; omega⟩)) (S.2.2.2.2 v)) rfl
    have hZ : va_Z "SkippingKeys" (zSn w) "[I" (zrv B (w : Int)) (zAq B) s s.heap := by
      rcases h3 with rfl | rfl
      · rw [zrv_ref (by decide)]; exact hZ1
      · rw [zrv_ref (by decide)]; exact hZ2
    cases hn : Nat.beq nest.1 0 with
    | true =>
      rw [hn] at h2
      exact va_gets hx hb hZ S.2.2.1 hown (hts _ (zhas_in h2)) (fun _ h => h) hd go
    | false =>
      rw [hn] at h2
      exact va_getsN hx hb hZ S.2.2.1 hown (va_Nw.use rfl (hN _ (of_decide_eq_true h2))) (fun _ h => h) hd go
  · cases h
theorem zkl_at {n w : Nat} {x : Int} {q : zPos} (hc : zcl k ≠ 9) (h : zlk (zKl (zcl k)) n = some (w, x, q)) : (w = 0 → Cond.constant (zcn (zcl k)) n (Int32.ofInt x) ∈ zTs ∧ zi32 x) ∧ (w = 1 → Cond.constantLong (zcn (zcl k)) n (Int64.ofInt x) ∈ zTs ∧ zi64 x) ∧ (w = 2 → zcl k = 10 ∧ ((n = 52 ∧ x = -2) ∨ (n = 60 ∧ x = -3))) := by
  have h1 := zKl_ok (zcl k) hc _ (zlk_mem _ _ _ h)
  unfold zKlOk at h1
  refine ⟨fun hw => ?_, fun hw => ?_, fun hw => ?_⟩
  · subst hw
    have h2 : (zhas q (.constant (zcn (zcl k)) n (Int32.ofInt x)) && decide (-2147483648 ≤ x ∧ x < 2147483648)) = true := h1
    rw [Bool.and_eq_true] at h2
    have h3 : -2147483648 ≤ x ∧ x < 2147483648 := of_decide_eq_true h2.2
    exact ⟨zhas_in h2.1, h3⟩
  · subst hw
    have h2 : (zhas q (.constantLong (zcn (zcl k)) n (Int64.ofInt x)) && decide (-9223372036854775808 ≤ x ∧ x < 9223372036854775808)) = true := h1
    rw [Bool.and_eq_true] at h2
    have h3 : -9223372036854775808 ≤ x ∧ x < 9223372036854775808 := of_decide_eq_true h2.2
    exact ⟨zhas_in h2.1, h3⟩
  · subst hw
    exact of_decide_eq_true (show decide (zcl k = 10 ∧ ((n = 52 ∧ x = -2) ∨ (n = 60 ∧ x = -3))) = true from h1)
theorem zs_ld (S : zSt B D aD L xs k s H locs ls LS st M) {i n : Nat} {v : ZV} (hv : zget ls i = some v) (h : some (pc + n, ls, v :: st, M) = some (pc', ls', st', M'))
    (row : LS[i]? = some (.val (zenc B v)) → W p l e R s m args below meth c H locs cells slots Q (F0 m (pc + n) LS (zenc B v :: st.map (zenc B))) → W p l e R s m args below meth c H locs cells slots Q (F0 m pc LS (st.map (zenc B))))
    (kk : ∀ LS', zSt B D aD L xs k s H locs ls' LS' st' M' → M' = M → W p l e R s m args below meth c H locs cells slots Q (F0 m pc' LS' (st'.map (zenc B)))) : W p l e R s m args below meth c H locs cells slots Q (F0 m pc LS (st.map (zenc B))) := by
  obtain ⟨h1, h2⟩ := S.2.2.2.1.2.2.2 i v hv
  exact zs_kon S h2 h (row h1) kk
theorem zs_stv (S : zSt B D aD L xs k s H locs ls LS st M) {i n : Nat} {v : ZV} {r : ZS} (hst : st = v :: r) (h : some (pc + n, zput ls i v, r, M) = some (pc', ls', st', M')) (hi : i < ls.length) (h2 : z2 v = false)
    (row : ∀ lv' : List (Nat × Value), lv_has LS (zmaxL k) (zll B ls) → i < zmaxL k → (i, zenc B v) :: (zll B ls).filter (fun q => !(q.1 == i) && !(q.1 + 1 == i && q.2.category == 2)) = lv' →
      (∀ LS' : Array Slot, lv_has LS' (zmaxL k) lv' → W p l e R s m args below meth c H locs cells slots Q (F0 m (pc + n) LS' (r.map (zenc B)))) → W p l e R s m args below meth c H locs cells slots Q (F0 m pc LS (zenc B v :: r.map (zenc B))))
    (kk : ∀ LS', zSt B D aD L xs k s H locs ls' LS' st' M' → M' = M → W p l e R s m args below meth c H locs cells slots Q (F0 m pc' LS' (st'.map (zenc B)))) : W p l e R s m args below meth c H locs cells slots Q (F0 m pc LS (st.map (zenc B))) := by
  subst hst
  obtain ⟨rfl, rfl, rfl, rfl⟩ := zsome h
  have hv : zokV (znx M) v := S.2.2.2.2 v List.mem_cons_self
  refine row _ S.2.2.2.1.has (by rw [← S.2.2.2.1.1]; exact hi) rfl (fun LS' g => ?_)
  exact kk LS' ⟨S.1, S.2.1, S.2.2.1, S.2.2.2.1.put1 hv h2 g, fun w hw => S.2.2.2.2 w (List.mem_cons_of_mem _ hw)⟩ rfl
end ZFLD
end
section
/-! ===== calls ===== -/
def zy (k : Nat) : MethodName := (zrow k).1
def zws (k : Nat) : List Cond := Cond.code (zy k) (zcode k) (zmaxL k) (zret k) :: zTs
def zsz (a : Int) : Nat := if (zsh a).1 < 10 then ((zsh a).2).toNat else zNf ((zsh a).1 - 10)
def zsum : Nat → Nat
  | 0 => 0
  | n + 1 => zsum n + zsz ((n : Int) + 3)
def zsl (M : ZM) : Nat := zsum (znx M - 3).toNat
theorem zsum_mono {a b : Nat} (h : a ≤ b) : zsum a ≤ zsum b := by
  induction b with
  | zero => rw [Nat.le_zero.mp h]; exact Nat.le_refl _
  | succ b ih =>
    by_cases q : a = b + 1
    · rw [q]; exact Nat.le_refl _
    · exact Nat.le_trans (ih (by omega)) (Nat.le_add_right _ _)
def zdc (M M' : ZM) : Nat := zix (znx M') - zix (znx M)
def zds (M M' : ZM) : Nat := zsl M' - zsl M
theorem zdc_self {M M' : ZM} (h : znx M' = znx M) : zdc M M' = 0 := by unfold zdc; rw [h]; exact Nat.sub_self _
theorem zds_self {M M' : ZM} (h : znx M' = znx M) : zds M M' = 0 := by unfold zds zsl; rw [h]; exact Nat.sub_self _
def zroom (d : Nat) (M M' : ZM) : Room := { frames := d, cells := zdc M M', slots := zds M M', locals := 46 * d }
def zPc (B : zBs) (D : va_G) (aD : Nat → ClassId) (L : Nat) (xs : Nat → Int32) (av : ZS) (M : ZM) : Array Value → State → Prop := fun v U => v = (av.map (zenc B)).toArray ∧ zU B D aD L xs U ∧ zH B D aD M U.heap ∧ zS L xs M ∧ ∀ x ∈ av, zokV (znx M) x
def zQc (B : zBs) (D : va_G) (aD : Nat → ClassId) (L : Nat) (xs : Nat → Int32) (r : Option ZV) (M' : ZM) : Array Value → State → Outcome → State → Prop := fun _ st o t => o = .returned (r.map (zenc B)) ∧ zH B D aD M' t.heap ∧ zS L xs M' ∧ (∀ v, r = some v → zokV (znx M') v) ∧ va_F (zAq B) st t
def zRet (B : zBs) (k pc : Nat) (r : Option ZV) (ST : List Value) : Prop := match r with
  | none => decode (zcode k) pc = .ok (.return_, 1) ∧ ST = [] ∧ zret k = none
  | some (.inl x) => decode (zcode k) pc = .ok (.ireturn, 1) ∧ ST = [.int (Int32.ofInt x)] ∧ (zret k = some .int ∨ (zret k = some .boolean ∧ 0 ≤ x ∧ x ≤ 1))
  | some (.inr (.inl x)) => decode (zcode k) pc = .ok (.lreturn, 1) ∧ ST = [.long (Int64.ofInt x)] ∧ zret k = some .long
  | some (.inr (.inr a)) => decode (zcode k) pc = .ok (.areturn, 1) ∧ ST = [zrv B a] ∧ 0 ≤ a ∧ ((∃ n, zret k = some (.object n)) ∨ ∃ t, zret k = some (.array t))
def zSnd (l : Launch) (B : zBs) (D : va_G) (aD : Nat → ClassId) (L : Nat) (xs : Nat → Int32) (n : Nat) : Prop :=
  ∀ (d k pc : Nat) (ls : ZL) (st : ZS) (M : ZM) (r : Option ZV) (M' : ZM), zbody n d k pc ls st M = some (r, M') →
    ∀ (p : Program) (e : Env) (R : Room) (s : State) (m : MethodId) (args : Array Value) (below : List Frame) (meth : Method) (c : Code), zCtx B D aD L xs k p s m args meth c → d ≤ R.frames → 46 * d ≤ R.locals →
    ∀ (H : Heap) (locs : List Loc) (LS : Array Slot) (cells slots : Nat) (Q : State → Prop), zSt B D aD L xs k s H locs ls LS st M → cells + zdc M M' ≤ R.cells → slots + zds M M' ≤ R.slots →
      (∀ (H1 : Heap) (locs1 : List Loc) (LS1 : Array Slot) (pc1 : Nat) (ST : List Value), zH B D aD M' H1 → zS L xs M' → va_S (zAq B) s.heap H1 locs1 → (∀ v, r = some v → zokV (znx M') v) → zRet B k pc1 r ST → W p l e R s m args below meth c H1 locs1 (cells + zdc M M') (slots + zds M M') Q (F0 m pc1 LS1 ST)) →
      W p l e R s m args below meth c H locs cells slots Q (F0 m pc LS (st.map (zenc B)))
theorem zNs_on : ∀ w ∈ zNs, w.onTables = true := by
  intro w hw
  have h : zNs.all (fun w => w.onTables) = true := by decide +kernel
  exact List.all_eq_true.mp h w hw
theorem zNs_warm {s U : State} (hW : s.WarmedH U.vm) : ∀ w ∈ zNs, va_Nw w s → va_Nw w U := by
  intro w hw h
  simp only [zNs, List.mem_cons, List.not_mem_nil, or_false] at hw
  rcases hw with rfl | rfl | rfl | rfl | rfl | rfl | rfl | rfl | rfl | rfl | rfl <;> first | exact va_Nw.warmM hW h | exact va_Nw.warmF hW h
theorem zU.moved {B : zBs} {D : va_G} {aD : Nat → ClassId} {L : Nat} {xs : Nat → Int32} {u U : State} (h : zU B D aD L xs u) (hvm : u.vm.Alike U.vm) (hN : ∀ w ∈ zNs, va_Nw w u → va_Nw w U) (hR : ∀ k tx a, vk_R "SkippingKeysLaw" k tx a u → vk_R "SkippingKeysLaw" k tx a U) (hs : u.heap.size ≤ U.heap.size) (hk : ∀ q : Nat, q < u.heap.size → ¬ zAq B q → U.heap[q]? = u.heap[q]?) : zU B D aD L xs U := by
  obtain ⟨h1, h2, h3, h4, h5, h6, h7, h8, h9, h10, h11, h12⟩ := h
  refine ⟨va_K.moved hvm h1, (h2.moved hvm).kept (hk _ (by omega) (show ¬ B.2.2.2 ≤ B.1 by omega)), h3, h4, by omega, (h6.moved hvm).kept hk, (h7.moved hvm).kept hk, (h8.moved hvm).kept hk, (h9.moved hvm).kept hk, fun w hw => hN w hw (h10 w hw), h11.moved hvm, h12.moved hvm hR hk⟩
/-- the rows of the method tables, read -/
theorem zmf {k : Nat} (hg : zgh (zrow k) = false) (h : zkind k ≤ 2) : Cond.code (zy k) (zcode k) (zmaxL k) (zret k) ∈ zTs ∧ (zkind k = 0 → Cond.static (zy k) ∈ zTs) ∧ (zkind k ≠ 0 → Cond.instanceMethod (zy k) ∈ zTs) ∧ Cond.initialized (zy k).cls ∈ zTs ∧ (zkind k = 1 → Cond.selects (zy k).cls (zy k) (zy k) ∈ zTs) ∧ (zkind k = 2 → (zy k).name = "<init>") ∧
    ((zy k).cls ≠ "java/lang/invoke/MethodHandle" ∧ (zy k).cls ≠ "java/lang/invoke/VarHandle" ∧ (parseMethodDescriptor (zy k).desc).map (fun d => d.parameters.length) = some (znp k)) ∧ plainName (zy k).cls = true ∧ zmaxL k ≤ 27 ∧ (zy k).cls = zcn (zcl k) ∧ zcl k ≤ 12 ∧ (zkind k = 2 → zret k = none) := by
  obtain ⟨h1, h2⟩ := (zm_ok k).resolve_left (fun e => by rw [e] at hg; cases hg)
  have h2 : (zpart (zrow k).2.2.2.2.2.2.2.1.1)[(zrow k).2.2.2.2.2.2.2.1.2]? = some (.code (zy k) (zcode k) (zmaxL k) (zret k)) := h2.resolve_left (by unfold zkind at h; omega)
  unfold zmOk at h1
  rw [Bool.or_eq_true] at h1
  rcases h1 with h1 | h1
  · have := Nat.le_of_ble_eq_true h1
    unfold zkind at h
    omega
  · simp only [Bool.and_eq_true] at h1
    obtain ⟨⟨⟨⟨⟨⟨⟨⟨⟨h3, h4⟩, h5⟩, h6⟩, h7⟩, h8⟩, h9⟩, h10⟩, h11⟩, h12⟩ := h1
    refine ⟨List.mem_filter.mpr ⟨zpart_in (List.mem_of_getElem? h2), rfl⟩, fun q => ?_, fun q => ?_, zhas_in h4, fun q => ?_, fun q => ?_, of_decide_eq_true h7, h8, Nat.le_of_ble_eq_true h9, of_decide_eq_true h10, Nat.le_of_ble_eq_true h11, fun q => ?_⟩
    · have e : Nat.beq (zrow k).2.2.2.2.1 0 = true := by rw [show (zrow k).2.2.2.2.1 = 0 from q]; rfl
      rw [e] at h3
      exact zhas_in h3
    · have e : Nat.beq (zrow k).2.2.2.2.1 0 = false := by
        cases z : (zrow k).2.2.2.2.1 with
        | zero => exact absurd z q
        | succ n => rfl
      rw [e] at h3
      exact zhas_in h3
    · have e : Nat.beq (zrow k).2.2.2.2.1 1 = true := by rw [show (zrow k).2.2.2.2.1 = 1 from q]; rfl
      rw [e] at h5
      simp only [Bool.not_true, Bool.false_or] at h5
      exact zhas_in h5
    · have e : Nat.beq (zrow k).2.2.2.2.1 2 = true := by rw [show (zrow k).2.2.2.2.1 = 2 from q]; rfl
      rw [e] at h6
      simp only [Bool.not_true, Bool.false_or] at h6
      exact of_decide_eq_true h6
    · have e : Nat.beq (zrow k).2.2.2.2.1 2 = true := by rw [show (zrow k).2.2.2.2.1 = 2 from q]; rfl
      rw [e] at h12
      simp only [Bool.not_true, Bool.false_or] at h12
      exact of_decide_eq_true h12
theorem zslots_at {B : zBs} : ∀ (av : ZS) (i : Nat) (v : ZV), (zslots av)[i]? = some (some v) → (lg_sl (av.map (zenc B)))[i]? = some (.val (zenc B v)) ∧ v ∈ av
  | [], i, v, h => by simp [zslots] at h
  | .inr (.inl x) :: r, i, v, h => by
    have e : lg_sl ((((.inr (.inl x) : ZV) :: r).map (zenc B))) = .val (.long (Int64.ofInt x)) :: .second :: lg_sl (r.map (zenc B)) := rfl
    rw [e]
    unfold zslots at h
    match i, h with
    | 0, h => cases h; exact ⟨rfl, List.mem_cons_self⟩
    | 1, h => cases h
    | i + 2, h =>
      have h2 := zslots_at (B := B) r i v h
      exact ⟨h2.1, List.mem_cons_of_mem _ h2.2⟩
  | .inl x :: r, i, v, h => by
    have e : lg_sl ((((.inl x : ZV) :: r).map (zenc B))) = .val (.int (Int32.ofInt x)) :: lg_sl (r.map (zenc B)) := rfl
    rw [e]
    unfold zslots at h
    match i, h with
    | 0, h => cases h; exact ⟨rfl, List.mem_cons_self⟩
    | i + 1, h =>
      have h2 := zslots_at (B := B) r i v h
      exact ⟨h2.1, List.mem_cons_of_mem _ h2.2⟩
  | .inr (.inr x) :: r, i, v, h => by
    have e : lg_sl ((((.inr (.inr x) : ZV) :: r).map (zenc B))) = .val (zrv B x) :: lg_sl (r.map (zenc B)) := by
      show lg_sl (zrv B x :: r.map (zenc B)) = _
      have : (zrv B x).category ≠ 2 := fun q => by have := (z2_cat (B := B) (.inr (.inr x))).mp q; cases this
      simp only [lg_sl, List.flatMap_cons, if_neg this, List.singleton_append]
    rw [e]
    unfold zslots at h
    match i, h with
    | 0, h => cases h; exact ⟨rfl, List.mem_cons_self⟩
    | i + 1, h =>
      have h2 := zslots_at (B := B) r i v h
      exact ⟨h2.1, List.mem_cons_of_mem _ h2.2⟩
theorem zslots_len {B : zBs} : ∀ (av : ZS), (lg_sl (av.map (zenc B))).length = (zslots av).length
  | [] => rfl
  | .inr (.inl x) :: r => by
    have e : lg_sl ((((.inr (.inl x) : ZV) :: r).map (zenc B))) = .val (.long (Int64.ofInt x)) :: .second :: lg_sl (r.map (zenc B)) := rfl
    rw [e]
    simp only [zslots, List.length_cons, zslots_len r]
  | .inl x :: r => by
    have e : lg_sl ((((.inl x : ZV) :: r).map (zenc B))) = .val (.int (Int32.ofInt x)) :: lg_sl (r.map (zenc B)) := rfl
    rw [e]
    simp only [zslots, List.length_cons, zslots_len r]
  | .inr (.inr x) :: r => by
    have e : lg_sl ((((.inr (.inr x) : ZV) :: r).map (zenc B))) = .val (zrv B x) :: lg_sl (r.map (zenc B)) := by
      show lg_sl (zrv B x :: r.map (zenc B)) = _
      have : (zrv B x).category ≠ 2 := fun q => by have := (z2_cat (B := B) (.inr (.inr x))).mp q; cases this
      simp only [lg_sl, List.flatMap_cons, if_neg this, List.singleton_append]
    rw [e]
    simp only [zslots, List.length_cons, zslots_len r]
theorem zentry_lr {B : zBs} {n : Int} {t : Nat} {av : ZS} (hl : (zslots av).length ≤ zmaxL t) (hv : ∀ x ∈ av, zokV n x) : zlr B n (zmaxL t) (zentry t av) ((lg_sl (av.map (zenc B)) ++ List.replicate (zmaxL t - (lg_sl (av.map (zenc B))).length) Slot.unset).toArray) := by
  have g := lv_entry (av.map (zenc B)) (n := zmaxL t) (by rw [zslots_len]; exact hl)
  refine ⟨by unfold zentry; simp; omega, g.1, g.2.1, fun i v h => ?_⟩
  have h1 := zget_some h
  unfold zentry at h1
  by_cases q : i < (zslots av).length
  · rw [List.getElem?_append_left q] at h1
    obtain ⟨h2, h3⟩ := zslots_at (B := B) av i v h1
    refine ⟨?_, hv v h3⟩
    rw [List.getElem?_toArray, List.getElem?_append_left (by rw [zslots_len]; exact q)]
    exact h2
  · rw [List.getElem?_append_right (by omega)] at h1
    have h2 := List.mem_of_getElem? h1
    have h3 := List.eq_of_mem_replicate h2
    cases h3
theorem zmet {l : Launch} {B : zBs} {D : va_G} {aD : Nat → ClassId} {L : Nat} {xs : Nat → Int32} {n : Nat} (hS : zSnd l B D aD L xs n) {d t : Nat} {av : ZS} {M M' : ZM} {r : Option ZV} (hrun : zbody n d t 0 (zentry t av) [] M = some (r, M')) (hgt : zgh (zrow t) = false) (hk : zkind t ≤ 2) (hlen : (zslots av).length ≤ zmaxL t) :
    Met l (zy t) (zws t) (zroom d M M') (zPc B D aD L xs av M) (zQc B D aD L xs r M') (zdc M M') (zds M M') (zAq B) := by
  obtain ⟨f1, f2, f3, f4, f5, f6, f7, f8, f9, f10, f11, f12⟩ := zmf hgt hk
  refine Met.ofW (cc := zcode t) (maxL := zmaxL t) (ret := zret t) f8 rfl ?_
  intro p e s m args below meth c s₁ Bd hml hv
  obtain ⟨rfl, hU, hH, hSS, hav⟩ := hv
  have hts0 := atoms_spec (ws := zws t) Bd.pre
  have hts : ∀ w ∈ zTs, w.before ((av.map (zenc B)).toArray) s = true := fun w hw => hts0 w (List.mem_cons_of_mem _ hw)
  have hown : s.vm.findClass (zcn (zcl t)) = some m.cls := by rw [← f10]; exact findClass_of_methodNamed Bd.named
  have hlocks := Bd.notSynchronized
  have hr := Bd.returns
  have hx := Bd.exec
  have hb := Bd.bytes
  have hin : zkind t = 2 → meth.name = "<init>" := fun q => by rw [(name_of_methodNamed Bd.named Bd.method).1, f6 q]
  rw [lg_entry_eq]
  refine hS d t 0 (zentry t av) [] M r M' hrun p e _ s m _ below meth c ⟨hx, hb, hml, hown, hts, ⟨hin, hgt⟩, hU⟩ (Nat.le_refl _) (Nat.le_refl _) s.heap [] _ 0 0 _ ⟨hH, hSS, va_S.rf, zentry_lr hlen hav, fun v hv => by cases hv⟩ (by rw [Nat.zero_add]; exact Nat.le_refl _) (by rw [Nat.zero_add]; exact Nat.le_refl _) ?_
  intro H1 locs1 LS1 pc1 ST hH1 hS1 hF hr1 hR
  rw [Nat.zero_add, Nat.zero_add]
  match r, hR, hr1 with
  | none, hR, hr1 =>
    obtain ⟨q1, rfl, q3⟩ := hR
    exact W.vret hx hb (hr.trans q3) (fun t ht hW => ⟨rfl, by rw [ht]; exact hH1, hS1, hr1, hF.F ht⟩) hF.2.2 q1
  | some (.inl x), hR, hr1 =>
    obtain ⟨q1, rfl, q3⟩ := hR
    rcases q3 with q3 | ⟨q3, q4⟩
    · exact W.iret hx hb (hr.trans q3) (fun t ht hW => ⟨rfl, by rw [ht]; exact hH1, hS1, hr1, hF.F ht⟩) hF.2.2 q1
    · exact W.zret hx hb (hr.trans q3) (znar_z q4) (fun t ht hW => ⟨rfl, by rw [ht]; exact hH1, hS1, hr1, hF.F ht⟩) hF.2.2 q1
  | some (.inr (.inl x)), hR, hr1 =>
    obtain ⟨q1, rfl, q3⟩ := hR
    exact W.lret hx hb (hr.trans q3) (fun t ht hW => ⟨rfl, by rw [ht]; exact hH1, hS1, hr1, hF.F ht⟩) hF.2.2 q1
  | some (.inr (.inr a)), hR, hr1 =>
    obtain ⟨q1, rfl, q3, q4⟩ := hR
    have hv : zrv B a = .null ∨ ∃ b, zrv B a = .ref b := Or.inr ⟨_, zrv_ref q3⟩
    rcases q4 with ⟨n, q4⟩ | ⟨ty, q4⟩
    · exact W.aret hx hb (hr.trans q4) (Or.inl ⟨_, rfl⟩) hv (fun t ht hW => ⟨rfl, by rw [ht]; exact hH1, hS1, hr1, hF.F ht⟩) hF.2.2 q1
    · exact W.aret hx hb (hr.trans q4) (Or.inr ⟨_, rfl⟩) hv (fun t ht hW => ⟨rfl, by rw [ht]; exact hH1, hS1, hr1, hF.F ht⟩) hF.2.2 q1
theorem zPc_blind {B : zBs} {D : va_G} {aD : Nat → ClassId} {L : Nat} {xs : Nat → Int32} {av : ZS} {M : ZM} : FrameBlind (zPc B D aD L xs av M) := by
  intro a U g mk h
  obtain ⟨h1, h2, h3⟩ := h
  exact ⟨h1, h2.moved (u := U) (U := U.calling g mk a) (Vm.Alike.refl U.vm) (fun w hw h => va_Nw.same (u := U) (U := U.calling g mk a) (zNs_on w hw) rfl h) (fun _ _ _ h => vk_R.same (u := U) (U := U.calling g mk a) rfl h) (Nat.le_refl _) (fun _ _ _ => rfl), h3⟩
theorem zready_at {kind t : Nat} {st args r : ZS} (h : zready kind t st = some (args, r)) : zkind t = kind ∧ kind ≤ 2 ∧ zcat r ≤ 8 ∧ (zslots args).length ≤ zmaxL t ∧ st = args.reverse ++ r ∧ args.length = znp t + (if kind = 0 then 0 else 1) ∧ (kind = 1 → ∃ a rest, args = .inr (.inr a) :: rest ∧ zsh a = (10 + zcl t, 0) ∧ zcl t < 10) ∧ (kind = 2 → ∃ a rest, args = .inr (.inr a) :: rest ∧ 0 ≤ a) := by
  unfold zready at h
  by_cases hk : zkind t = kind ∧ kind ≤ 2
  · rw [if_pos hk] at h
    dsimp only at h
    by_cases hc : znp t + (if kind = 0 then 0 else 1) ≤ st.length ∧ zcat (st.drop (znp t + (if kind = 0 then 0 else 1))) ≤ 8 ∧ (zslots (st.take (znp t + (if kind = 0 then 0 else 1))).reverse).length ≤ zmaxL t
    · rw [if_pos hc] at h
      obtain ⟨c1, c2, c3⟩ := hc
      obtain ⟨hk1, hk2⟩ := hk
      have key : ∀ args r : ZS, (st.take (znp t + (if kind = 0 then 0 else 1))).reverse = args → st.drop (znp t + (if kind = 0 then 0 else 1)) = r → zcat r ≤ 8 ∧ (zslots args).length ≤ zmaxL t ∧ st = args.reverse ++ r ∧ args.length = znp t + (if kind = 0 then 0 else 1) := by
        intro args r e1 e2
        subst e1
        subst e2
        refine ⟨c2, c3, ?_, ?_⟩
        · rw [List.reverse_reverse, List.take_append_drop]
        · rw [List.length_reverse, List.length_take]
          omega
      have h3 : kind = 0 ∨ kind = 1 ∨ kind = 2 := by omega
      rcases h3 with rfl | rfl | rfl
      · cases h
        obtain ⟨g1, g2, g3, g4⟩ := key _ _ rfl rfl
        exact ⟨hk1, hk2, g1, g2, g3, g4, fun q => absurd q (by decide), fun q => absurd q (by decide)⟩
      · generalize e : (st.take (znp t + (if 1 = 0 then 0 else 1))).reverse = ta at h key
        match ta, h with
        | .inr (.inr a) :: av, h =>
          have h : (if zsh a = (10 + zcl t, 0) ∧ zcl t < 10 then some (.inr (.inr a) :: av, st.drop (znp t + (if 1 = 0 then 0 else 1))) else none) = some (args, r) := h
          split at h
          · next hs =>
            cases h
            obtain ⟨g1, g2, g3, g4⟩ := key _ _ rfl rfl
            exact ⟨hk1, hk2, g1, g2, g3, g4, fun _ => ⟨a, av, rfl, hs⟩, fun q => absurd q (by decide)⟩
          · cases h
        | .inr (.inl a) :: av, h => cases h
        | .inl a :: av, h => cases h
        | [], h => cases h
      · generalize e : (st.take (znp t + (if 2 = 0 then 0 else 1))).reverse = ta at h key
        match ta, h with
        | .inr (.inr a) :: av, h =>
          have h : (if 0 ≤ a then some (.inr (.inr a) :: av, st.drop (znp t + (if 2 = 0 then 0 else 1))) else none) = some (args, r) := h
          split at h
          · next hs =>
            cases h
            obtain ⟨g1, g2, g3, g4⟩ := key _ _ rfl rfl
            exact ⟨hk1, hk2, g1, g2, g3, g4, fun q => absurd q (by decide), fun _ => ⟨a, av, rfl, hs⟩⟩
          · cases h
        | .inr (.inl a) :: av, h => cases h
        | .inl a :: av, h => cases h
        | [], h => cases h
    · rw [if_neg hc] at h
      cases h
  · rw [if_neg hk] at h
    cases h
end
section
/-! ===== calls, and what is made ===== -/
theorem zokV.mono {n n' : Int} {v : ZV} (h : zokV n v) (hn : n ≤ n') : zokV n' v := by
  match v, h with
  | .inl x, h => exact h
  | .inr (.inl x), h => exact h
  | .inr (.inr a), h =>
    have h : -3 ≤ a ∧ a < n := h
    exact ⟨h.1, by omega⟩
theorem zlr.mono {B : zBs} {n n' : Int} {N : Nat} {ls : ZL} {LS : Array Slot} (h : zlr B n N ls LS) (hn : n ≤ n') : zlr B n' N ls LS := ⟨h.1, h.2.1, h.2.2.1, fun i v hv => ⟨(h.2.2.2 i v hv).1, (h.2.2.2 i v hv).2.mono hn⟩⟩
theorem zgood_ws {t : Nat} (hg : zgh (zrow t) = false) (hk : zkind t ≤ 2) : GoodIn zTs (zws t) := fun w hw => by
  have hm : w ∈ zTs := (List.mem_cons.mp hw).elim (fun e => e ▸ (zmf hg hk).1) id
  exact ⟨hm, zTs_good w hm⟩
def zinv (kind j : Nat) : Instr := match kind with
  | 0 => .invokestatic j
  | 1 => .invokevirtual j
  | _ => .invokespecial j
section ZCALL
variable {p : Program} {l : Launch} {e : Env} {R : Room} {s : State} {m : MethodId} {args : Array Value} {below : List Frame} {meth : Method} {c : Code} {H : Heap} {locs : List Loc} {cells slots : Nat} {Q : State → Prop}
variable {B : zBs} {D : va_G} {aD : Nat → ClassId} {L : Nat} {xs : Nat → Int32} {k : Nat} {pc pc' : Nat} {ls ls' : ZL} {st st' : ZS} {M M' : ZM} {LS : Array Slot}
theorem zs_run {r : Option ZV} {a : Array Value} {mc ms : Nat} {st0 rest : List Value} (hr : va_Run p l e R s m args below meth c H locs cells slots mc ms (F0 m pc LS st0) rest (zQc B D aD L xs r M' a) (zAq B)) (hS : va_S (zAq B) s.heap H locs)
    (kk : ∀ (H1 : Heap) (locs1 : List Loc), zH B D aD M' H1 → zS L xs M' → va_S (zAq B) s.heap H1 locs1 → (∀ v, r = some v → zokV (znx M') v) → W p l e R s m args below meth c H1 locs1 (cells + mc) (slots + ms) Q (F0 m (pc + 3) LS ((r.map (zenc B)).toList ++ rest))) : W p l e R s m args below meth c H locs cells slots Q (F0 m pc LS st0) := by
  intro T hT X
  obtain ⟨v, st₀, t, T', L2, h0, X', hL, e1, e2, ⟨hv, hH, hSS, hok, hz, hk⟩, st⟩ := hr T hT X
  have hv : v = r.map (zenc B) := Outcome.returned.inj hv
  subst hv
  rw [h0] at hz hk
  obtain ⟨t2, a1, b1⟩ := kk T'.heap (locs ++ L2) (by rw [e1]; exact hH) hSS ⟨Nat.le_trans hS.1 (by rw [e1]; exact hz), fun q h1 h2 => by rw [e1, hk q (Nat.lt_of_lt_of_le h1 hS.1) h2]; exact hS.2.1 q h1 h2, fun q hq => by
      rcases List.mem_append.mp hq with h | h
      · exact hS.2.2 q h
      · exact hL q h⟩ hok T' rfl X'
  exact ⟨t2, st t2 a1, b1⟩
theorem zs_pre (S : zSt B D aD L xs k s H locs ls LS st M) (C : zCtx B D aD L xs k p s m args meth c) {av : ZS} (hav : ∀ x ∈ av, x ∈ st) : PreS s H (zPc B D aD L xs av M) (av.map (zenc B)) := by
  obtain ⟨-, -, -, -, -, -, hU⟩ := C
  exact ⟨zPc_blind, fun U hU1 hW => ⟨rfl, hU.moved hW.alike (zNs_warm hW) (fun _ _ _ h => vk_R.warm hW h) (by rw [hU1]; exact S.2.2.1.1) (fun q h1 h2 => by rw [hU1]; exact S.2.2.1.2.1 q h1 h2), by rw [hU1]; exact S.1, S.2.1, fun x hx => S.2.2.2.2 x (hav x hx)⟩⟩
/-- a call of method t, by whichever instruction: what its words say, and it goes on -/
theorem zs_call {n d t kind j : Nat} {q : Nat × zPos} (hS : zSnd l B D aD L xs n) (S : zSt B D aD L xs k s H locs ls LS st M) (C : zCtx B D aD L xs k p s m args meth c) (hlk : zlk (zMl (zcl k)) j = some (t, q)) {av r : ZS} (hrd : zready kind t st = some (av, r)) {v : Option ZV}
    (hrun : zbody n d t 0 (zentry t av) [] M = some (v, M')) (hnx : znx M ≤ znx M') (hfr : d + 1 ≤ R.frames) (hlo : 46 * (d + 1) ≤ R.locals) (hc : cells + zdc M M' ≤ R.cells) (hs : slots + zds M M' ≤ R.slots)
    (hd : decode (zcode k) pc = .ok (zinv kind j, 3))
    (kk : ∀ (H1 : Heap) (locs1 : List Loc), zSt B D aD L xs k s H1 locs1 ls LS (v.toList ++ r) M' → W p l e R s m args below meth c H1 locs1 (cells + zdc M M') (slots + zds M M') Q (F0 m (pc + 3) LS ((v.toList ++ r).map (zenc B)))) : W p l e R s m args below meth c H locs cells slots Q (F0 m pc LS (st.map (zenc B))) := by
  obtain ⟨g1, g2, g3, g4, g5, g6, g7, g8⟩ := zready_at hrd
  have hk2 : zkind t ≤ 2 := by omega
  have hl0 := zMl_ok (zcl k) (zgh_c C.2.2.2.2.2.1.2) _ (zlk_mem _ _ _ hlk)
  have hgt : zgh (zrow t) = false := by
    have h0 := hl0
    unfold zMlOk at h0
    have nb : ∀ u : Nat, zkind u = 9 → Nat.beq t u = false := fun u hu => by
      cases z : Nat.beq t u with
      | true =>
        have e := Nat.eq_of_beq_eq_true z
        rw [e] at hk2
        omega
      | false => rfl
    dsimp only at h0
    rw [nb 1000 (by decide), nb 1001 (by decide), nb 1002 (by decide), nb 1003 (by decide), nb 1004 (by decide)] at h0
    have h0 : (!zgh (zrow t) && _) = true := h0
    rw [Bool.and_eq_true] at h0
    cases z : zgh (zrow t)
    · rfl
    · rw [z] at h0; exact absurd h0.1 (by decide)
  have hM := zmet hS hrun hgt hk2 g4
  obtain ⟨f1, f2, f3, f4, f5, f6, ⟨fa, fb, fc⟩, f8, f9, f10, f11, f12⟩ := zmf hgt hk2
  have hC := C
  obtain ⟨hx, hb, hml, hown, hts, hinit, hU⟩ := C
  have hlink : zhas q.2 (.methodLink (zcn (zcl k)) j (zy t)) = true ∨ Cond.methodLinkNest (zcn (zcl k)) j (zy t) "SkippingKeys" ∈ zNs := by
    unfold zMlOk at hl0
    have nb : ∀ u : Nat, zkind u = 9 → Nat.beq t u = false := fun u hu => by
      cases z : Nat.beq t u with
      | true =>
        have e := Nat.eq_of_beq_eq_true z
        rw [e] at hk2
        omega
      | false => rfl
    dsimp only at hl0
    rw [nb 1000 (by decide), nb 1001 (by decide), nb 1002 (by decide), nb 1003 (by decide), nb 1004 (by decide)] at hl0
    have hl0 : (!zgh (zrow t) && _) = true := hl0
    rw [Bool.and_eq_true] at hl0
    have hl0 := hl0.2
    cases z : Nat.beq q.1 0 with
    | true => rw [z] at hl0; exact Or.inl hl0
    | false => rw [z] at hl0; exact Or.inr (of_decide_eq_true hl0)
  have hst : st.map (zenc B) = (av.map (zenc B)).reverse ++ r.map (zenc B) := by rw [g5, List.map_append, List.map_reverse]
  have hmem : ∀ x ∈ av, x ∈ st := fun x hx => by rw [g5]; exact List.mem_append_left _ (List.mem_reverse.mpr hx)
  have hroom : (zroom d M M').frames + 1 ≤ R.frames ∧ 8 + (zmaxL t + 11) + (zroom d M M').locals ≤ R.locals := ⟨hfr, by show 8 + (zmaxL t + 11) + 46 * d ≤ R.locals; omega⟩
  have hn : ∀ sig, parseMethodDescriptor (zy t).desc = some sig → znp t = sig.parameters.length := fun sig h => by
    rw [h] at fc
    exact (Option.some.inj fc).symm
  have hcb : (zroom d M M').cells = zdc M M' ∧ (zroom d M M').slots = zds M M' ∧ (zroom d M M').frames + 1 ≤ R.frames ∧ 8 + (zmaxL t + 11) + (zroom d M M').locals ≤ R.locals ∧ (∀ w ∈ zws t, ∀ (a' : Array Value) (U : State), s.WarmedH U.vm → w.before a' U = true) ∧ Cond.code (zy t) (zcode t) (zmaxL t) (zret t) ∈ zws t := ⟨rfl, rfl, hroom.1, hroom.2, pay_in hts (zgood_ws hgt hk2), List.mem_cons_self⟩
  have hfix : CallFix p m c (zcode k) (zmaxL k) s args zTs (zcn (zcl k)) := ⟨hx, hb, hml, hown, hts⟩
  have hcat : 2 * (F0 m pc LS (st.map (zenc B))).monitorRoom + ((r.map (zenc B)).map fun v => v.category).sum ≤ 8 := by
    rw [zcat_sum]
    show 2 * 0 + zcat r ≤ 8
    omega
  have go : ∀ {a : Array Value}, va_Run p l e R s m args below meth c H locs cells slots (zdc M M') (zds M M') (F0 m pc LS (st.map (zenc B))) (r.map (zenc B)) (zQc B D aD L xs v M' a) (zAq B) → W p l e R s m args below meth c H locs cells slots Q (F0 m pc LS (st.map (zenc B))) := by
    intro a hr
    refine zs_run hr S.2.2.1 (fun H1 locs1 q1 q2 q3 q4 => ?_)
    have e1 : (v.map (zenc B)).toList ++ r.map (zenc B) = (v.toList ++ r).map (zenc B) := by
      rw [List.map_append]
      cases v <;> rfl
    rw [e1]
    refine kk H1 locs1 ⟨q1, q2, q3, S.2.2.2.1.mono hnx, fun w hw => ?_⟩
    rcases List.mem_append.mp hw with h | h
    · exact q4 w (by cases v with
        | none => cases h
        | some z => rw [List.mem_singleton.mp h])
    · exact (S.2.2.2.2 w (by rw [g5]; exact List.mem_append_right _ h)).mono hnx
  have hk3 : kind = 0 ∨ kind = 1 ∨ kind = 2 := by omega
  rcases hk3 with rfl | rfl | rfl
  · rw [if_pos rfl, Nat.add_zero] at g6
    have hpre := zs_pre S hC hmem
    rcases hlink with hl | hl
    · exact go (va_runS (n := znp t) (bytes := zcode t) (maxL := zmaxL t) (ret := zret t) hfix hM ⟨⟨hcb.1, hcb.2.1, hcb.2.2.1, hcb.2.2.2.1, hcb.2.2.2.2.1, hcb.2.2.2.2.2, hts _ f1, hts _ f4, ⟨fa, fb⟩, hn, hts _ (zhas_in hl)⟩, hts _ (f2 g1)⟩ hpre rfl (by rw [List.length_map]; exact g6) S.2.2.2.1.2.1 hst hcat hd ⟨hc, hs⟩)
    · exact go (va_runSN (n := znp t) (bytes := zcode t) (maxL := zmaxL t) (ret := zret t) hfix hM ⟨⟨hcb, hts _ f1, hts _ f4, ⟨fa, fb⟩, hn, va_Nw.use rfl (hU.2.2.2.2.2.2.2.2.2.1 _ hl)⟩, hts _ (f2 g1), trivial⟩ hpre rfl (by rw [List.length_map]; exact g6) S.2.2.2.1.2.1 hst hcat hd ⟨hc, hs⟩)
  · obtain ⟨a, av2, rfl, hsh, hci⟩ := g7 rfl
    have hpre := zs_pre S hC hmem
    have ha : -3 ≤ a ∧ a < znx M := S.2.2.2.2 (.inr (.inr a)) (hmem _ List.mem_cons_self)
    have h3 : 3 ≤ a := zsh_low (by rw [hsh]; show 10 + zcl t ≠ 20; omega) (by rw [hsh]; show 10 + zcl t ≠ 21; omega) (by rw [hsh]; show 10 + zcl t ≠ 99; omega)
    have hg := zW_get (B := B) (aD := aD) h3 ha.2 (zsh_gap (by rw [hsh]; show 10 + zcl t ≠ 99; omega))
    rw [zent_obj hsh] at hg
    obtain ⟨cellB, r1, r2, r3⟩ := va_recv hU.1 S.1.2.2.1 (zvw (by have := zgh_c hgt; omega)) hg
    have hst2 : st.map (zenc B) = (av2.map (zenc B)).reverse ++ .ref (zad B a) :: r.map (zenc B) := by
      rw [hst]
      show (zrv B a :: av2.map (zenc B)).reverse ++ _ = _
      rw [zrv_ref (by omega), List.reverse_cons, List.append_assoc]
      rfl
    have hpv : PreV s H (zcn (zcl t)) (zad B a) (zPc B D aD L xs (.inr (.inr a) :: av2) M) (av2.map (zenc B)) := by
      refine ⟨hpre.1, ⟨cellB, r1, r2, r3⟩, fun U h1 h2 => ?_⟩
      have := hpre.2 U h1 h2
      have e2 : (.ref (zad B a) :: av2.map (zenc B)) = (((.inr (.inr a) : ZV) :: av2).map (zenc B)) := by
        show _ = zrv B a :: av2.map (zenc B)
        rw [zrv_ref (by omega)]
      rw [e2]
      exact this
    have hn2 : (av2.map (zenc B)).length = znp t := by
      rw [List.length_map]
      have : av2.length + 1 = znp t + 1 := g6
      omega
    have fcls : (zy t).cls = zcn (zcl t) := f10
    have hsel : (Cond.selects (zcn (zcl t)) (zy t) (zy t)).before args s = true := by rw [← fcls]; exact hts _ (f5 g1)
    rcases hlink with hl | hl
    · exact go (va_runV (n := znp t) (bytes := zcode t) (maxL := zmaxL t) (ret := zret t) hfix hM ⟨⟨hcb.1, hcb.2.1, hcb.2.2.1, hcb.2.2.2.1, hcb.2.2.2.2.1, hcb.2.2.2.2.2, hts _ f1, hts _ f4, ⟨fa, fb⟩, hn, hts _ (zhas_in hl)⟩, hts _ (f3 (by omega)), hsel⟩ hpv rfl hn2 S.2.2.2.1.2.1 hst2 hcat hd ⟨hc, hs⟩)
    · exact go (va_runVN (n := znp t) (bytes := zcode t) (maxL := zmaxL t) (ret := zret t) hfix hM ⟨⟨hcb, hts _ f1, hts _ f4, ⟨fa, fb⟩, hn, va_Nw.use rfl (hU.2.2.2.2.2.2.2.2.2.1 _ hl)⟩, hts _ (f3 (by omega)), hsel⟩ hpv rfl hn2 S.2.2.2.1.2.1 hst2 hcat hd ⟨hc, hs⟩)
  · obtain ⟨a, av2, rfl, ha0⟩ := g8 rfl
    have hpre := zs_pre S hC hmem
    have hst2 : st.map (zenc B) = (av2.map (zenc B)).reverse ++ .ref (zad B a) :: r.map (zenc B) := by
      rw [hst]
      show (zrv B a :: av2.map (zenc B)).reverse ++ _ = _
      rw [zrv_ref ha0, List.reverse_cons, List.append_assoc]
      rfl
    have hpi : PreS s H (zPc B D aD L xs (.inr (.inr a) :: av2) M) (.ref (zad B a) :: av2.map (zenc B)) := by
      have e2 : (.ref (zad B a) :: av2.map (zenc B)) = (((.inr (.inr a) : ZV) :: av2).map (zenc B)) := by
        show _ = zrv B a :: av2.map (zenc B)
        rw [zrv_ref ha0]
      rw [e2]
      exact hpre
    have hn2 : (av2.map (zenc B)).length = znp t := by
      rw [List.length_map]
      have : av2.length + 1 = znp t + 1 := g6
      omega
    have hrn : zret t = none := f12 g1
    rw [hrn] at hcb f1
    rcases hlink with hl | hl
    · exact go (va_runI (n := znp t) (bytes := zcode t) (maxL := zmaxL t) hfix hM ⟨⟨hcb.1, hcb.2.1, hcb.2.2.1, hcb.2.2.2.1, hcb.2.2.2.2.1, hcb.2.2.2.2.2, hts _ f1, hts _ f4, ⟨fa, fb⟩, hn, hts _ (zhas_in hl)⟩, f6 g1, hts _ (f3 (by omega))⟩ hpi rfl hn2 S.2.2.2.1.2.1 hst2 hcat hd ⟨hc, hs⟩)
    · exact go (va_runIN (n := znp t) (bytes := zcode t) (maxL := zmaxL t) hfix hM ⟨⟨hcb, hts _ f1, hts _ f4, ⟨fa, fb⟩, hn, va_Nw.use rfl (hU.2.2.2.2.2.2.2.2.2.1 _ hl)⟩, f6 g1, hts _ (f3 (by omega))⟩ hpi rfl hn2 S.2.2.2.1.2.1 hst2 hcat hd ⟨hc, hs⟩)
theorem zs_mm {t j : Nat} {q : Nat × zPos} (S : zSt B D aD L xs k s H locs ls LS st M) (C : zCtx B D aD L xs k p s m args meth c) (hd : decode (zcode k) pc = .ok (.invokestatic j, 3)) (hlk : zlk (zMl (zcl k)) j = some (t, q)) (ht : t = 1002 ∨ t = 1003) (h : zmm t (pc + 3) ls st M = some (pc', ls', st', M')) (hfr : 1 ≤ R.frames) (hlo : 46 ≤ R.locals) (hcl : cells ≤ R.cells) (hsl : slots ≤ R.slots)
    (kk : ∀ LS', zSt B D aD L xs k s H locs ls' LS' st' M' → M' = M → W p l e R s m args below meth c H locs cells slots Q (F0 m pc' LS' (st'.map (zenc B)))) : W p l e R s m args below meth c H locs cells slots Q (F0 m pc LS (st.map (zenc B))) := by
  obtain ⟨hx, hb, hml, hown, hts, ⟨hinit, hgh⟩, hU⟩ := C
  have hl0 := zMl_ok (zcl k) (zgh_c hgh) _ (zlk_mem _ _ _ hlk)
  unfold zMlOk at hl0
  unfold zmm at h
  split at h
  · next y x r =>
    split at h
    · next hcat =>
      obtain ⟨rfl, rfl, rfl, rfl⟩ := zsome h
      have hy : zi32 y := S.2.2.2.2 (.inl y) List.mem_cons_self
      have hxx : zi32 x := S.2.2.2.2 (.inl x) (List.mem_cons_of_mem _ List.mem_cons_self)
      have hS : ∀ w ∈ r, zokV (znx M) w := fun w hw => S.2.2.2.2 w (List.mem_cons_of_mem _ (List.mem_cons_of_mem _ hw))
      have hsum : ((r.map (zenc B)).map fun v => v.category).sum + 13 ≤ R.locals := by rw [zcat_sum]; omega
      have hsz : c.maxLocals = LS.size := by rw [hml]; exact S.2.2.2.1.2.1.symm
      show W p l e R s m args below meth c H locs cells slots Q (F0 m pc LS (.int (Int32.ofInt y) :: .int (Int32.ofInt x) :: r.map (zenc B)))
      rcases ht with rfl | rfl
      · have hl : (zhas q.2 (.methodLink (zcn (zcl k)) j Lib.Math.max.name) && Nat.beq q.1 0) = true := hl0
        rw [Bool.and_eq_true] at hl
        refine va_mmax hx hb hsz hown (hts _ (zhas_in hl.1)) (hts _ zx_mxs) (hts _ zx_mi) (hts _ zx_mxc) hfr hsum hcl hsl hd ?_
        have g : zokV (znx M) (zI (if x < y then y else x)) := by
          show zi32 (if x < y then y else x)
          split
          · exact hy
          · exact hxx
        have w := kk LS (S.to (st' := zI (if x < y then y else x) :: r) fun v hv => (List.mem_cons.mp hv).elim (fun e => e ▸ g) (hS v)) rfl
        have e1 : (if Int32.ofInt x < Int32.ofInt y then Int32.ofInt y else Int32.ofInt x) = Int32.ofInt (if x < y then y else x) := by
          by_cases z : x < y
          · rw [if_pos z, if_pos ((zlt32 hxx hy).mpr z)]
          · rw [if_neg z, if_neg (fun u => z ((zlt32 hxx hy).mp u))]
        rw [e1]
        exact w
      · have hl : (zhas q.2 (.methodLink (zcn (zcl k)) j Lib.Math.min.name) && Nat.beq q.1 0) = true := hl0
        rw [Bool.and_eq_true] at hl
        refine va_mmin hx hb hsz hown (hts _ (zhas_in hl.1)) (hts _ zx_mns) (hts _ zx_mi) (hts _ zx_mnc) hfr hsum hcl hsl hd ?_
        have g : zokV (znx M) (zI (if y < x then y else x)) := by
          show zi32 (if y < x then y else x)
          split
          · exact hy
          · exact hxx
        have w := kk LS (S.to (st' := zI (if y < x then y else x) :: r) fun v hv => (List.mem_cons.mp hv).elim (fun e => e ▸ g) (hS v)) rfl
        have e1 : (if Int32.ofInt y < Int32.ofInt x then Int32.ofInt y else Int32.ofInt x) = Int32.ofInt (if y < x then y else x) := by
          by_cases z : y < x
          · rw [if_pos z, if_pos ((zlt32 hy hxx).mpr z)]
          · rw [if_neg z, if_neg (fun u => z ((zlt32 hy hxx).mp u))]
        rw [e1]
        exact w
    · cases h
  · cases h
end ZCALL
end
section
/-! ===== what is made ===== -/
theorem zini_in {ci : Nat} (h : ci < 9) : Cond.initialized (zcn ci) ∈ zTs := by
  match ci, h with
  | 0, _ => exact zini_in_0
  | 1, _ => exact zini_in_1
  | 2, _ => exact zini_in_2
  | 3, _ => exact zini_in_3
  | 4, _ => exact zini_in_4
  | 5, _ => exact zini_in_5
  | 6, _ => exact zini_in_6
  | 7, _ => exact zini_in_7
  | 8, _ => exact zini_in_8
  | n + 9, h => exact absurd h (by omega)
theorem zmake_old {M : ZM} {a : Int} (h1 : a ≠ -1) (h2 : a ≠ znx M) (j : Int) : zmake M a j = M a j := by
  unfold zmake
  rw [if_neg (fun q => h1 q.1), if_neg (show ¬ a = M (-1) 0 from h2)]
theorem zmake_nx (M : ZM) : znx (zmake M) = znx M + 1 := by
  show zmake M (-1) 0 = _
  unfold zmake
  rw [if_pos ⟨rfl, rfl⟩]
  rfl
theorem zmake_new {M : ZM} (h : 3 ≤ znx M) (j : Int) : zmake M (znx M) j = zdef (zsh (znx M)).1 j := by
  unfold zmake
  rw [if_neg (fun q => by have := q.1; omega), if_pos (show znx M = M (-1) 0 from rfl)]
theorem zin_mono {n n' : Int} {k : Nat} {x : Int} (h : zin n k x) (hn : n ≤ n') : zin n' k x := by
  unfold zin at h ⊢
  split
  · exact h
  · exact h
  · exact h
  · exact h
  · next h0 h1 h2 h3 =>
    split at h
    · exact absurd rfl h0
    · exact absurd rfl h1
    · exact absurd rfl h2
    · exact absurd rfl h3
    · exact ⟨h.1, by omega⟩
theorem zdef_in {n : Int} (hn : 0 ≤ n) (a j : Int) (h5 : (zsh a).1 ≤ 5 ∨ 10 ≤ (zsh a).1) : zin n (zpk a j) (zdef (zsh a).1 j) := by
  unfold zpk zdef
  rcases h5 with h5 | h5
  · by_cases q : (zsh a).1 < 4
    · rw [if_pos q, if_neg (by omega), if_neg (by omega)]
      have : (zsh a).1 = 0 ∨ (zsh a).1 = 1 ∨ (zsh a).1 = 2 ∨ (zsh a).1 = 3 := by omega
      rcases this with e | e | e | e <;> rw [e]
      · exact ⟨by decide, by decide⟩
      · exact ⟨by decide, by decide⟩
      · exact ⟨by decide, by decide⟩
      · exact ⟨by decide, by decide⟩
    · rw [if_neg q, if_pos (by omega), if_pos (by omega)]
      exact ⟨by omega, by omega⟩
  · rw [if_neg (by omega), if_neg (by omega), if_neg (by omega), if_pos h5]
    cases ztyX ((zsh a).1 - 10) j.toNat <;> first | exact (⟨by omega, by omega⟩ : (-1 : Int) ≤ -1 ∧ (-1 : Int) < n) | exact (⟨by decide, by decide⟩ : zi32 0) | exact (⟨by decide, by decide⟩ : (0 : Int) ≤ 0 ∧ (0 : Int) ≤ 1)
theorem zP_push {B : zBs} {D : va_G} {aD : Nat → ClassId} {M M' : ZM} {H H1 : Heap} (hP : va_P D vwCl (zW B aD M) H) (h3 : 3 ≤ znx M) (hg : znx M ≠ 223) (hx : znx M' = znx M + 1) (ho : ∀ a : Int, 3 ≤ a → a < znx M → ∀ j, M' a j = M a j) (he : va_at D vwCl (zad B (znx M), zent B aD M' (znx M)) H1) (o1 : ∀ q : Nat, q < H.size → H1[q]? = H[q]?) : va_P D vwCl (zW B aD M') H1 := by
  intro i q hq
  have hl : i < zix (znx M') := by
    have := (List.getElem?_eq_some_iff.mp hq).1
    rw [zW_len] at this
    exact this
  have hlt := zce_lt hl
  have h3i := zce_r i
  have g2 := zW_get (B := B) (aD := aD) (M := M') (a := zce i) h3i.1 hlt h3i.2
  rw [zix_ce] at g2
  cases g2.symm.trans hq
  by_cases e : zce i = znx M
  · rw [e]
    exact he
  · have g1 := zW_get (B := B) (aD := aD) (M := M) (a := zce i) h3i.1 (by omega) h3i.2
    rw [zix_ce] at g1
    have h := hP i _ g1
    rw [zent_congr (ho _ h3i.1 (by omega))]
    exact h.kept (o1 _ h.lt)
theorem zsz_arr {a n : Int} {t : Nat} (h : zsh a = (t, n)) (ht : t < 10) : zsz a = n.toNat := by
  unfold zsz
  rw [h]
  exact if_pos ht
theorem zix_s {a : Int} (h3 : 3 ≤ a) (hg : a ≠ 223) : zix (a + 1) = zix a + 1 := by
  unfold zix
  split <;> split <;> omega
theorem zsl_push {M M' : ZM} (h3 : 3 ≤ znx M) (hg : znx M ≠ 223) (hx : znx M' = znx M + 1) : zds M M' = zsz (znx M) ∧ zdc M M' = 1 := by
  have e0 : zdc M M' = 1 := by
    unfold zdc
    rw [hx, zix_s h3 hg]
    omega
  rw [e0]
  unfold zds zsl
  rw [hx, show (znx M + 1 - 3).toNat = (znx M - 3).toNat + 1 by omega]
  have e : zsum ((znx M - 3).toNat + 1) = zsum (znx M - 3).toNat + zsz ((((znx M - 3).toNat : Nat) : Int) + 3) := rfl
  rw [e, show (((znx M - 3).toNat : Nat) : Int) + 3 = znx M by omega]
  exact ⟨by omega, rfl⟩
theorem znq {a n : Int} {t u : Nat} (h : zsh a = (t, n)) (d : t ≠ u) : ¬ (zsh a).1 = u := by rw [h]; exact d
theorem zad_nx {B : zBs} {M : ZM} {H : Heap} (h3 : 3 ≤ znx M) (hz : znx M = 236 ∨ znx M < 236 ∧ H.size = B.2.2.2 + zix (znx M)) (h19 : (zsh (znx M)).1 ≠ 19) : H.size = zad B (znx M) := by
  have hz : H.size = B.2.2.2 + zix (znx M) := by
    rcases hz with h | h
    · rw [h] at h19
      exact absurd (by decide +kernel) h19
    · exact h.2
  unfold zad
  rw [if_neg (by omega), if_neg (by omega), if_neg (by omega)]
  exact hz
/-- the number that stands for no cell, skipped -/
theorem zskip_nx (M : ZM) : znx (zskip M) = if znx M = 223 then 224 else znx M := by
  show zskip M (-1) 0 = _
  unfold zskip
  by_cases q : M (-1) 0 = 223
  · rw [if_pos ⟨⟨rfl, rfl⟩, q⟩, if_pos (show znx M = 223 from q)]
  · rw [if_neg (fun z => q z.2), if_neg (show ¬ znx M = 223 from q)]
    rfl
theorem zskip_le (M : ZM) : znx M ≤ znx (zskip M) := by
  rw [zskip_nx]
  split <;> omega
theorem zskip_ix (M : ZM) : zix (znx (zskip M)) = zix (znx M) := by
  rw [zskip_nx]
  split
  · next h => rw [h]; rfl
  · rfl
theorem zskip_at {M : ZM} {a : Int} (h : a ≠ -1) (j : Int) : zskip M a j = M a j := by
  unfold zskip
  rw [if_neg (fun z => h z.1.1)]
theorem zsum_gap : zsum 221 = zsum 220 := by decide +kernel
theorem zskip_sl (M : ZM) : zsl (zskip M) = zsl M := by
  unfold zsl
  rw [zskip_nx]
  split
  · next h => rw [h]; exact zsum_gap
  · rfl
theorem zdc_skip (M M' : ZM) : zdc (zskip M) M' = zdc M M' := by
  unfold zdc
  rw [zskip_ix]
theorem zds_skip (M M' : ZM) : zds (zskip M) M' = zds M M' := by
  unfold zds
  rw [zskip_sl]
theorem zcnt_gap : zcnt 223 = 0 := by decide +kernel
theorem zSt.skip {B : zBs} {D : va_G} {aD : Nat → ClassId} {L : Nat} {xs : Nat → Int32} {k : Nat} {s : State} {H : Heap} {locs : List Loc} {ls : ZL} {LS : Array Slot} {st : ZS} {M : ZM} (S : zSt B D aD L xs k s H locs ls LS st M) : zSt B D aD L xs k s H locs ls LS st (zskip M) := by
  obtain ⟨⟨g1, g2, g3, g4⟩, ⟨s1, s2, s3, s4⟩, g6, g7, g8⟩ := S
  have hle := zskip_le M
  have hsk : znx (zskip M) = 236 ∨ znx (zskip M) < 236 ∧ H.size = B.2.2.2 + zix (znx (zskip M)) := by
    rcases g2 with q | ⟨q1, q2⟩
    · exact Or.inl (by rw [zskip_nx, q]; rfl)
    · exact Or.inr ⟨by rw [zskip_nx]; split <;> omega, by rw [zskip_ix]; exact q2⟩
  refine ⟨⟨by omega, hsk, ?_, ?_⟩, ⟨by rw [zskip_at (by decide)]; exact s1, fun j hj => by rw [zskip_at (by decide)]; exact s2 j hj, fun j hj => by rw [zskip_at (by decide)]; exact s3 j hj, fun j hj => by rw [zskip_at (by decide)]; exact s4 j hj⟩, g6, g7.mono hle, fun v hv => (g8 v hv).mono hle⟩
  · have e : zW B aD (zskip M) = zW B aD M := by
      unfold zW
      rw [zskip_ix]
      exact List.map_congr_left (fun q _ => by rw [zent_congr (fun j => zskip_at (by have := zce_r q; omega) j)])
    rw [e]
    exact g3
  · intro a h1 h2 j h4 h5
    rw [zskip_at (by omega)]
    by_cases q : a < znx M
    · exact zin_mono (g4 a h1 q j h4 h5) hle
    · exfalso
      rw [zskip_nx] at h2
      split at h2
      · next h =>
        have ea : a = 223 := by omega
        rw [ea, zcnt_gap] at h5
        omega
      · omega
/-- a cell more: the new state -/
theorem zSt.push {B : zBs} {D : va_G} {aD : Nat → ClassId} {L : Nat} {xs : Nat → Int32} {k : Nat} {s : State} {H H1 : Heap} {locs : List Loc} {ls : ZL} {LS : Array Slot} {st st' : ZS} {M : ZM} (S : zSt B D aD L xs k s H locs ls LS st M) (h5 : (zsh (znx M)).1 ≤ 5 ∨ 10 ≤ (zsh (znx M)).1) (h99 : (zsh (znx M)).1 ≠ 99) (h19 : (zsh (znx M)).1 ≠ 19)
    (hst : ∀ w ∈ st', w ∈ st ∨ w = zA (znx M)) (he : va_at D vwCl (zad B (znx M), zent B aD (zmake M) (znx M)) H1) (z : H1.size = H.size + 1) (o1 : ∀ q : Nat, q < H.size → H1[q]? = H[q]?) : zSt B D aD L xs k s H1 locs ls LS st' (zmake M) := by
  obtain ⟨⟨g1, g2, g3, g4⟩, ⟨s1, s2, s3, s4⟩, g6, g7, g8⟩ := S
  have hold : ∀ a : Int, a ≠ -1 → a < znx M → ∀ j, zmake M a j = M a j := fun a h1 h2 j => zmake_old h1 (by omega) j
  have hg : znx M ≠ 223 := zsh_gap h99
  have hnew : znx (zmake M) = 236 ∨ znx (zmake M) < 236 ∧ H1.size = B.2.2.2 + zix (znx (zmake M)) := by
    rcases g2 with h | ⟨ha, hb⟩
    · rw [h] at h19
      exact absurd (by decide +kernel) h19
    · rw [zmake_nx]
      by_cases q : znx M + 1 = 236
      · exact Or.inl q
      · exact Or.inr ⟨by omega, by rw [z, hb, zix_s g1 hg]; omega⟩
  refine ⟨⟨by rw [zmake_nx]; omega, hnew, zP_push g3 g1 hg (zmake_nx M) (fun a h1 h2 j => hold a (by omega) h2 j) he o1, ?_⟩, ⟨by rw [hold 0 (by decide) (by omega)]; exact s1, fun j hj => by rw [hold 0 (by decide) (by omega)]; exact s2 j hj, fun j hj => by rw [hold 1 (by decide) (by omega)]; exact s3 j hj, fun j hj => by rw [hold 2 (by decide) (by omega)]; exact s4 j hj⟩, ⟨by rw [z]; exact Nat.le_succ_of_le g6.1, fun q h1 h2 => (o1 q (Nat.lt_of_lt_of_le h1 g6.1)).trans (g6.2.1 q h1 h2), g6.2.2⟩, by rw [zmake_nx]; exact g7.mono (by omega), fun w hw => ?_⟩
  · intro a h1 h2 j h4 h5'
    rw [zmake_nx] at h2 ⊢
    by_cases q : a = znx M
    · subst q
      rw [zmake_new g1]
      exact zdef_in (by omega) _ j h5
    · rw [hold a (by omega) (by omega)]
      exact zin_mono (g4 a h1 (by omega) j h4 h5') (by omega)
  · rw [zmake_nx]
    rcases hst w hw with h | rfl
    · exact (g8 w h).mono (by omega)
    · exact ⟨by omega, by omega⟩
section ZNEW
variable {p : Program} {l : Launch} {e : Env} {R : Room} {s : State} {m : MethodId} {args : Array Value} {below : List Frame} {meth : Method} {c : Code} {H : Heap} {locs : List Loc} {cells slots : Nat} {Q : State → Prop}
variable {B : zBs} {D : va_G} {aD : Nat → ClassId} {L : Nat} {xs : Nat → Int32} {k : Nat} {pc pc' : Nat} {ls ls' : ZL} {st st' : ZS} {M M' : ZM} {LS : Array Slot}
theorem zcl_at {n w : Nat} {q : zPos} (hc : zcl k ≠ 9) (h : zlk (zCl (zcl k)) n = some (w, q)) : Cond.classLink (zcn (zcl k)) n (zcn w) ∈ zTs ∧ w < 9 := by
  have h1 := zCl_ok (zcl k) hc _ (zlk_mem _ _ _ h)
  unfold zClOk at h1
  rw [Bool.and_eq_true] at h1
  exact ⟨zhas_in h1.1, Nat.lt_of_lt_of_le (Nat.lt_succ_self _) (Nat.le_of_ble_eq_true h1.2)⟩
theorem zs_new0 (S : zSt B D aD L xs k s H locs ls LS st M) (C : zCtx B D aD L xs k p s m args meth c) {n : Nat} (hd : decode (zcode k) pc = .ok (.new n, 3)) (h : znew (zlk (zCl (zcl k)) n) (pc + 3) ls st M = some (pc', ls', st', M')) (hc : cells + zdc M M' ≤ R.cells) (hs : slots + zds M M' ≤ R.slots)
    (kk : ∀ H1 locs1, zSt B D aD L xs k s H1 locs1 ls' LS st' M' → W p l e R s m args below meth c H1 locs1 (cells + zdc M M') (slots + zds M M') Q (F0 m pc' LS (st'.map (zenc B)))) : W p l e R s m args below meth c H locs cells slots Q (F0 m pc LS (st.map (zenc B))) := by
  obtain ⟨hx, hb, -, hown, hts, ⟨-, hgh⟩, hK, -⟩ := C
  unfold znew at h
  split at h
  · next ci q eq =>
    split at h
    · next hcc =>
      obtain ⟨rfl, rfl, rfl, rfl⟩ := zsome h
      obtain ⟨hc90, hsh⟩ := hcc
      obtain ⟨hlk, hci⟩ := zcl_at (zgh_c hgh) eq
      have h3 := S.1.1
      have h19 : (zsh (znx M)).1 ≠ 19 := by rw [hsh]; show 10 + ci ≠ 19; omega
      have h99 : (zsh (znx M)).1 ≠ 99 := by rw [hsh]; show 10 + ci ≠ 99; omega
      obtain ⟨z1, z2⟩ := zsl_push h3 (zsh_gap h99) (zmake_nx M)
      have z3 : zsz (znx M) = zNf ci := by
        unfold zsz
        rw [hsh]
        simp only [show ¬ 10 + ci < 10 from by omega, if_false, Nat.add_sub_cancel_left]
      rw [z1, z2, z3] at kk
      rw [z1, z3] at hs
      rw [z2] at hc
      have hKn := hK.1 ci _ (zvw hci)
      refine W.newcK hx hb hown (hts _ hlk) (hts _ (zci_in hci)) (hts _ (zini_in hci)) rfl hd hc hs hKn.2.1 (zad_nx h3 S.1.2.1 h19) fun H1 kC hkC e1 z1 o1 => ?_
      have hz : zad B (znx M) = H.size := (zad_nx h3 S.1.2.1 h19).symm
      have step := kk H1 locs (S.push (st' := zA (znx M) :: st) (H1 := H1) (by rw [hsh]; right; show 10 ≤ 10 + ci; omega) h99 h19 (fun w hw => (List.mem_cons.mp hw).elim Or.inr Or.inl) ?_ (by rw [z1, hz]) (fun q hq => o1 q (by rw [hz]; exact hq)))
      · show W p l e R s m args below meth c H1 locs (cells + 1) (slots + zNf ci) Q (F0 m (pc + 3) LS (.ref (zad B (znx M)) :: st.map (zenc B)))
        rw [← zrv_ref (B := B) (a := znx M) (by omega)]
        exact step
      · rw [zent_obj hsh]
        refine ⟨(zcn ci, zTX ci, zNf ci), zvw hci, (u_born (ztyX ci) hts (zcw_in hci) hKn hkC e1 (zty_ok hci)).to (fun j hj => ?_)⟩
        unfold vp_V
        rw [List.getD_eq_getElem?_getD, List.getElem?_map, List.getElem?_range hj]
        show defaultValue (ztyX ci j) = zencF B (ztyX ci j) (zmake M (znx M) j)
        rw [zmake_new h3, hsh]
        unfold zdef
        rw [if_neg (show ¬ (10 + ci = 4 ∨ 10 + ci = 5) by omega), if_pos (show 10 ≤ 10 + ci by omega), Nat.add_sub_cancel_left, Int.toNat_natCast]
        rcases zty_nl ci hci j hj with e | e | ⟨n, e⟩ | ⟨t, e⟩ <;> rw [e] <;> rfl
    · cases h
  · cases h
theorem zs_newa0 (S : zSt B D aD L xs k s H locs ls LS st M) (C : zCtx B D aD L xs k p s m args meth c) {at' : ArrayType} (hd : decode (zcode k) pc = .ok (.newarray at', 2)) (ha3 : zatype at' ≤ 3) (h : znewa (zatype at') (pc + 2) ls st M = some (pc', ls', st', M')) (hc : cells + zdc M M' ≤ R.cells) (hs : slots + zds M M' ≤ R.slots)
    (kk : ∀ H1 locs1, zSt B D aD L xs k s H1 locs1 ls' LS st' M' → W p l e R s m args below meth c H1 locs1 (cells + zdc M M') (slots + zds M M') Q (F0 m pc' LS (st'.map (zenc B)))) : W p l e R s m args below meth c H locs cells slots Q (F0 m pc LS (st.map (zenc B))) := by
  obtain ⟨hx, hb, -, hown, hts, -, hK, -⟩ := C
  unfold znewa at h
  split at h
  · next n r =>
    split at h
    · next hcc =>
      obtain ⟨rfl, rfl, rfl, rfl⟩ := zsome h
      obtain ⟨-, hsh, hn0, hn1⟩ := hcc
      have h3 := S.1.1
      have h99 : (zsh (znx M)).1 ≠ 99 := by rw [hsh]; show zatype at' ≠ 99; omega
      have h19 : (zsh (znx M)).1 ≠ 19 := by rw [hsh]; show zatype at' ≠ 19; omega
      obtain ⟨z1, z2⟩ := zsl_push h3 (zsh_gap h99) (zmake_nx M)
      have z3 : zsz (znx M) = n.toNat := zsz_arr hsh (by omega)
      rw [z1, z2, z3] at kk
      rw [z1, z3] at hs
      rw [z2] at hc
      have hni : zi32 n := ⟨by omega, by omega⟩
      have hz : zad B (znx M) = H.size := (zad_nx h3 S.1.2.1 h19).symm
      have hnn : ¬ Int32.ofInt n < 0 := by rw [← z0of, zlt32 hni z032]; omega
      have key : Cond.arrayClass (newarray.typeOf at') ∈ zTs ∧ n.toNat * componentBytes (newarray.typeOf at') ≤ 536870912 ∧ ∀ (H1 : Heap) (cA : ClassId), H1[zad B (znx M)]? = some (arrV cA n.toNat (fun _ => defaultValue (newarray.typeOf at'))) → s.vm.findClass ("[" ++ (newarray.typeOf at').toString) = some cA → va_at D vwCl (zad B (znx M), zent B aD (zmake M) (znx M)) H1 := by
        have hnew : ∀ j : Nat, zmake M (znx M) j = zdef (zatype at') j := fun j => by rw [zmake_new h3, hsh]
        have hd0 : ∀ j : Int, zdef (zatype at') j = 0 := fun j => by unfold zdef; rw [if_neg (by omega), if_neg (by omega)]
        have e1 : (zsh (znx M)).2.toNat = n.toNat := by rw [hsh]
        cases at' with
        | int =>
          refine ⟨zx_arrI, by show n.toNat * 4 ≤ _; omega, fun H1 cA e f => ?_⟩
          have eA : aD 0 = cA := Option.some.inj (((hK.2 0 _ rfl).2 : s.vm.findClass _ = some (aD 0)).symm.trans f)
          unfold zent
          rw [if_pos (by rw [hsh]; rfl)]
          show H1[_]? = some (vp_cell _ _)
          rw [e, vp_cell_i, eA, e1]
          congr 2
          funext j
          rw [hnew, hd0]; rfl
        | long =>
          refine ⟨zx_arrJ, by show n.toNat * 8 ≤ _; omega, fun H1 cA e f => ?_⟩
          have eA : aD 1 = cA := Option.some.inj (((hK.2 1 _ rfl).2 : s.vm.findClass _ = some (aD 1)).symm.trans f)
          unfold zent
          rw [if_neg (znq hsh (by decide)), if_pos (by rw [hsh]; rfl)]
          show H1[_]? = some (vp_cell _ _)
          rw [e, vp_cell_l, eA, e1]
          congr 2
          funext j
          rw [hnew, hd0]; rfl
        | byte =>
          refine ⟨zx_arrB, by show n.toNat * 1 ≤ _; omega, fun H1 cA e f => ?_⟩
          have eA : aD 2 = cA := Option.some.inj (((hK.2 2 _ rfl).2 : s.vm.findClass _ = some (aD 2)).symm.trans f)
          unfold zent
          rw [if_neg (znq hsh (by decide)), if_neg (znq hsh (by decide)), if_pos (by rw [hsh]; rfl)]
          show H1[_]? = some (vp_cell _ _)
          rw [e, vp_cell_i, eA, e1]
          congr 2
          funext j
          rw [hnew, hd0]; rfl
        | boolean =>
          refine ⟨zx_arrZ, by show n.toNat * 1 ≤ _; omega, fun H1 cA e f => ?_⟩
          have eA : aD 3 = cA := Option.some.inj (((hK.2 3 _ rfl).2 : s.vm.findClass _ = some (aD 3)).symm.trans f)
          unfold zent
          rw [if_neg (znq hsh (by decide)), if_neg (znq hsh (by decide)), if_neg (znq hsh (by decide)), if_pos (by rw [hsh]; rfl)]
          show H1[_]? = some (vp_cell _ _)
          rw [e, vp_cell_i, eA, e1]
          congr 2
          funext j
          rw [hnew, hd0]; rfl
        | char => exact absurd ha3 (by decide)
        | float => exact absurd ha3 (by decide)
        | double => exact absurd ha3 (by decide)
        | short => exact absurd ha3 (by decide)
      obtain ⟨k1, k2, k3⟩ := key
      show W p l e R s m args below meth c H locs cells slots Q (F0 m pc LS (.int (Int32.ofInt n) :: r.map (zenc B)))
      refine va_newaK hx hb (hts _ k1) rfl hd rfl hnn (znc hn0 hni) k2 hc hs (zad_nx h3 S.1.2.1 h19) (fun H1 cA e1 z1 o1 _ f => ?_)
      have step := kk H1 locs (S.push (st' := zA (znx M) :: r) (H1 := H1) (by rw [hsh]; left; show zatype at' ≤ 5; omega) h99 h19 (fun w hw => (List.mem_cons.mp hw).elim Or.inr (fun h => Or.inl (List.mem_cons_of_mem _ h))) (k3 H1 cA e1 f) (by rw [z1, hz]) (fun q hq => o1 q (by rw [hz]; exact hq)))
      show W p l e R s m args below meth c H1 locs (cells + 1) (slots + n.toNat) Q (F0 m (pc + 2) LS (.ref (zad B (znx M)) :: r.map (zenc B)))
      rw [← zrv_ref (B := B) (a := znx M) (by omega)]
      exact step
    · cases h
  · cases h
theorem zs_newq0 (S : zSt B D aD L xs k s H locs ls LS st M) (C : zCtx B D aD L xs k p s m args meth c) {i : Nat} {q : zPos} (eq : zlk (zCl (zcl k)) i = some (0, q)) (hd : decode (zcode k) pc = .ok (.anewarray i, 3)) (h : znewa 4 (pc + 3) ls st M = some (pc', ls', st', M')) (hc : cells + zdc M M' ≤ R.cells) (hs : slots + zds M M' ≤ R.slots)
    (kk : ∀ H1 locs1, zSt B D aD L xs k s H1 locs1 ls' LS st' M' → W p l e R s m args below meth c H1 locs1 (cells + zdc M M') (slots + zds M M') Q (F0 m pc' LS (st'.map (zenc B)))) : W p l e R s m args below meth c H locs cells slots Q (F0 m pc LS (st.map (zenc B))) := by
  obtain ⟨hx, hb, -, hown, hts, ⟨-, hgh⟩, hU⟩ := C
  have hK := hU.1
  have hOv := hU.2.2.2.2.2.2.2.2.2.2
  unfold znewa at h
  split at h
  · next n r =>
    split at h
    · next hcc =>
      obtain ⟨rfl, rfl, rfl, rfl⟩ := zsome h
      obtain ⟨-, hsh, hn0, hn1⟩ := hcc
      have h3 := S.1.1
      have h99 : (zsh (znx M)).1 ≠ 99 := znq hsh (by decide)
      have h19 : (zsh (znx M)).1 ≠ 19 := znq hsh (by decide)
      obtain ⟨z1, z2⟩ := zsl_push h3 (zsh_gap h99) (zmake_nx M)
      have z3 : zsz (znx M) = n.toNat := zsz_arr hsh (by omega)
      rw [z1, z2, z3] at kk
      rw [z1, z3] at hs
      rw [z2] at hc
      have hni : zi32 n := ⟨by omega, by omega⟩
      have hz : zad B (znx M) = H.size := (zad_nx h3 S.1.2.1 h19).symm
      have hnn : ¬ Int32.ofInt n < 0 := by rw [← z0of, zlt32 hni z032]; omega
      have hnc := znc hn0 hni
      show W p l e R s m args below meth c H locs cells slots Q (F0 m pc LS (.int (Int32.ofInt n) :: r.map (zenc B)))
      refine W.anew hx hb hown (C := RX0) (hts _ (zcl_at (zgh_c hgh) eq).1) (va_AO.use hOv.1) rfl hd rfl hnn (by rw [hnc]; omega) hc (by rw [hnc]; exact hs) fun cA kA comp f1 f2 f3 f4 => ?_
      rw [hnc]
      generalize hH1 : H.push ({ cls := cA, slots := Array.replicate n.toNat .null, vm := .none } : Cell) = H1
      have z1 : H1.size = H.size + 1 := by rw [← hH1, Array.size_push]
      have e1 : H1[H.size]? = some (arrV cA n.toNat (fun _ => .null)) := by rw [← hH1, Array.getElem?_push_size, ← arrV_new]
      have o1 : ∀ q : Nat, q < H.size → H1[q]? = H[q]? := fun q hq => by rw [← hH1, Array.getElem?_push, if_neg (Nat.ne_of_lt hq)]
      have eA : aD 4 = cA := by
        obtain ⟨kA', comp', g1, g2, g3, g4⟩ : ∃ (kA : Class) (comp : ClassId), s.vm.classes[aD 4]? = some kA ∧ kA.kind = .array comp (.object RX0) ∧ s.vm.findClass RX0 = some comp ∧ s.vm.findClass ("[" ++ (FieldType.object RX0).toString) = some (aD 4) := (hK.2 4 _ rfl).2
        exact Option.some.inj (g4.symm.trans f1)
      have step := kk H1 locs (S.push (st' := zA (znx M) :: r) (H1 := H1) (by rw [hsh]; left; show 4 ≤ 5; decide) h99 h19 (fun w hw => (List.mem_cons.mp hw).elim Or.inr (fun h => Or.inl (List.mem_cons_of_mem _ h))) ?_ z1 o1)
      · show W p l e R s m args below meth c H1 locs (cells + 1) (slots + n.toNat) Q (F0 m (pc + 3) LS (.ref H.size :: r.map (zenc B)))
        rw [← hz, ← zrv_ref (B := B) (a := znx M) (by omega)]
        exact step
      · unfold zent
        rw [if_neg (znq hsh (by decide)), if_neg (znq hsh (by decide)), if_neg (znq hsh (by decide)), if_neg (znq hsh (by decide)), if_pos (by rw [hsh])]
        show H1[zad B (znx M)]? = some (vp_cell _ _)
        rw [hz, e1, vp_cell_q, eA, hsh]
        congr 2
        funext j
        rw [zmake_new h3, hsh]
        rfl
    · cases h
  · cases h
theorem zs_new (S : zSt B D aD L xs k s H locs ls LS st M) (C : zCtx B D aD L xs k p s m args meth c) {n : Nat} (hd : decode (zcode k) pc = .ok (.new n, 3)) (h : znew (zlk (zCl (zcl k)) n) (pc + 3) ls st (zskip M) = some (pc', ls', st', M')) (hc : cells + zdc M M' ≤ R.cells) (hs : slots + zds M M' ≤ R.slots)
    (kk : ∀ H1 locs1, zSt B D aD L xs k s H1 locs1 ls' LS st' M' → W p l e R s m args below meth c H1 locs1 (cells + zdc M M') (slots + zds M M') Q (F0 m pc' LS (st'.map (zenc B)))) : W p l e R s m args below meth c H locs cells slots Q (F0 m pc LS (st.map (zenc B))) :=
  zs_new0 S.skip C hd h (by rw [zdc_skip]; exact hc) (by rw [zds_skip]; exact hs) (fun H1 locs1 g => by rw [zdc_skip, zds_skip]; exact kk H1 locs1 g)
theorem zs_newa (S : zSt B D aD L xs k s H locs ls LS st M) (C : zCtx B D aD L xs k p s m args meth c) {at' : ArrayType} (hd : decode (zcode k) pc = .ok (.newarray at', 2)) (ha3 : zatype at' ≤ 3) (h : znewa (zatype at') (pc + 2) ls st (zskip M) = some (pc', ls', st', M')) (hc : cells + zdc M M' ≤ R.cells) (hs : slots + zds M M' ≤ R.slots)
    (kk : ∀ H1 locs1, zSt B D aD L xs k s H1 locs1 ls' LS st' M' → W p l e R s m args below meth c H1 locs1 (cells + zdc M M') (slots + zds M M') Q (F0 m pc' LS (st'.map (zenc B)))) : W p l e R s m args below meth c H locs cells slots Q (F0 m pc LS (st.map (zenc B))) :=
  zs_newa0 S.skip C hd ha3 h (by rw [zdc_skip]; exact hc) (by rw [zds_skip]; exact hs) (fun H1 locs1 g => by rw [zdc_skip, zds_skip]; exact kk H1 locs1 g)
theorem zs_newq (S : zSt B D aD L xs k s H locs ls LS st M) (C : zCtx B D aD L xs k p s m args meth c) {i : Nat} {q : zPos} (eq : zlk (zCl (zcl k)) i = some (0, q)) (hd : decode (zcode k) pc = .ok (.anewarray i, 3)) (h : znewa 4 (pc + 3) ls st (zskip M) = some (pc', ls', st', M')) (hc : cells + zdc M M' ≤ R.cells) (hs : slots + zds M M' ≤ R.slots)
    (kk : ∀ H1 locs1, zSt B D aD L xs k s H1 locs1 ls' LS st' M' → W p l e R s m args below meth c H1 locs1 (cells + zdc M M') (slots + zds M M') Q (F0 m pc' LS (st'.map (zenc B)))) : W p l e R s m args below meth c H locs cells slots Q (F0 m pc LS (st.map (zenc B))) :=
  zs_newq0 S.skip C eq hd h (by rw [zdc_skip]; exact hc) (by rw [zds_skip]; exact hs) (fun H1 locs1 g => by rw [zdc_skip, zds_skip]; exact kk H1 locs1 g)
end ZNEW
end
section
/-! ===== charAt of the law's two texts ===== -/
section ZCHR
variable {p : Program} {l : Launch} {e : Env} {R : Room} {s : State} {m : MethodId} {args : Array Value} {below : List Frame} {meth : Method} {c : Code} {H : Heap} {locs : List Loc} {cells slots : Nat} {Q : State → Prop}
variable {B : zBs} {D : va_G} {aD : Nat → ClassId} {L : Nat} {xs : Nat → Int32} {k : Nat} {pc pc' : Nat} {ls ls' : ZL} {st st' : ZS} {M M' : ZM} {LS : Array Slot}
theorem zs_chr {d j : Nat} {q : Nat × zPos} (S : zSt B D aD L xs k s H locs ls LS st M) (C : zCtx B D aD L xs k p s m args meth c) (hlk : zlk (zMl (zcl k)) j = some (1004, q)) (hd : decode (zcode k) pc = .ok (.invokevirtual j, 3)) (h : zchar d (pc + 3) ls st M = some (pc', ls', st', M')) (hfr : d ≤ R.frames) (hlo : 46 * d ≤ R.locals) (hcl : cells ≤ R.cells) (hsl : slots ≤ R.slots)
    (kk : ∀ H1 locs1, zSt B D aD L xs k s H1 locs1 ls' LS st' M' → M' = M → W p l e R s m args below meth c H1 locs1 cells slots Q (F0 m pc' LS (st'.map (zenc B)))) : W p l e R s m args below meth c H locs cells slots Q (F0 m pc LS (st.map (zenc B))) := by
  sorry
end ZCHR
end
section
/-! ===== one step, whole ===== -/
section ZSTEPS
variable {p : Program} {l : Launch} {e : Env} {R : Room} {s : State} {m : MethodId} {args : Array Value} {below : List Frame} {meth : Method} {c : Code} {H : Heap} {locs : List Loc} {cells slots : Nat} {Q : State → Prop}
variable {B : zBs} {D : va_G} {aD : Nat → ClassId} {L : Nat} {xs : Nat → Int32} {k : Nat} {pc pc' : Nat} {ls ls' : ZL} {st st' : ZS} {M M' : ZM} {LS : Array Slot}
theorem zs_stI (S : zSt B D aD L xs k s H locs ls LS st M) {i n : Nat} (h : zstI i (pc + n) ls st M = some (pc', ls', st', M'))
    (row : ∀ (x : Int32) (rest : List Value) (lv' : List (Nat × Value)), lv_has LS (zmaxL k) (zll B ls) → i < zmaxL k → (i, Value.int x) :: (zll B ls).filter (fun q => !(q.1 == i) && !(q.1 + 1 == i && q.2.category == 2)) = lv' →
      (∀ LS' : Array Slot, lv_has LS' (zmaxL k) lv' → W p l e R s m args below meth c H locs cells slots Q (F0 m (pc + n) LS' rest)) → W p l e R s m args below meth c H locs cells slots Q (F0 m pc LS (.int x :: rest)))
    (kk : ∀ LS', zSt B D aD L xs k s H locs ls' LS' st' M' → M' = M → W p l e R s m args below meth c H locs cells slots Q (F0 m pc' LS' (st'.map (zenc B)))) : W p l e R s m args below meth c H locs cells slots Q (F0 m pc LS (st.map (zenc B))) := by
  unfold zstI at h
  split at h
  · next x r =>
    split at h
    · next hi => exact zs_stv S rfl h hi rfl (fun lv' a b c' d => row (Int32.ofInt x) _ lv' a b c' d) kk
    · cases h
  · cases h
theorem zs_stA (S : zSt B D aD L xs k s H locs ls LS st M) {i n : Nat} (h : zstA i (pc + n) ls st M = some (pc', ls', st', M'))
    (row : ∀ (x : Nat) (rest : List Value) (lv' : List (Nat × Value)), lv_has LS (zmaxL k) (zll B ls) → i < zmaxL k → (i, Value.ref x) :: (zll B ls).filter (fun q => !(q.1 == i) && !(q.1 + 1 == i && q.2.category == 2)) = lv' →
      (∀ LS' : Array Slot, lv_has LS' (zmaxL k) lv' → W p l e R s m args below meth c H locs cells slots Q (F0 m (pc + n) LS' rest)) → W p l e R s m args below meth c H locs cells slots Q (F0 m pc LS (.ref x :: rest)))
    (kk : ∀ LS', zSt B D aD L xs k s H locs ls' LS' st' M' → M' = M → W p l e R s m args below meth c H locs cells slots Q (F0 m pc' LS' (st'.map (zenc B)))) : W p l e R s m args below meth c H locs cells slots Q (F0 m pc LS (st.map (zenc B))) := by
  unfold zstA at h
  split at h
  · next x r =>
    split at h
    · next hi =>
      refine zs_stv S rfl h hi.2 rfl (fun lv' a b c' d => ?_) kk
      have e1 : zenc B (.inr (.inr x)) = .ref (zad B x) := zrv_ref hi.1
      rw [e1] at c' ⊢
      exact row (zad B x) _ lv' a b c' d
    · cases h
  · cases h
theorem zs_stJ (S : zSt B D aD L xs k s H locs ls LS st M) (hx : p.tables.exec = Jvm.exec) (hb : c.code = zcode k) {i : Nat} (hd : decode (zcode k) pc = .ok (.lstore i, 2)) (h : zstJ i (pc + 2) ls st M = some (pc', ls', st', M'))
    (kk : ∀ LS', zSt B D aD L xs k s H locs ls' LS' st' M' → M' = M → W p l e R s m args below meth c H locs cells slots Q (F0 m pc' LS' (st'.map (zenc B)))) : W p l e R s m args below meth c H locs cells slots Q (F0 m pc LS (st.map (zenc B))) := by
  unfold zstJ at h
  split at h
  · next x r =>
    split at h
    · next hi =>
      obtain ⟨rfl, rfl, rfl, rfl⟩ := zsome h
      have hv : zi64 x := S.2.2.2.2 (.inr (.inl x)) List.mem_cons_self
      show W p l e R s m args below meth c H locs cells slots Q (F0 m pc LS (.long (Int64.ofInt x) :: r.map (zenc B)))
      refine lv_lstore hx hb hd S.2.2.2.1.has (by rw [← S.2.2.2.1.1]; exact hi) rfl (fun LS' g => ?_)
      exact kk LS' ⟨S.1, S.2.1, S.2.2.1, S.2.2.2.1.put2 hv g, fun w hw => S.2.2.2.2 w (List.mem_cons_of_mem _ hw)⟩ rfl
    · cases h
  · cases h
theorem zs_iinc (S : zSt B D aD L xs k s H locs ls LS st M) (hx : p.tables.exec = Jvm.exec) (hb : c.code = zcode k) {i : Nat} {v : Int} (hd : decode (zcode k) pc = .ok (.iinc i v, 3)) (h : (match (generalizing := false) zget ls i with | some (.inl x) => if i < ls.length then some (pc + 3, zput ls i (zI (zb (x + v))), st, M) else none | _ => none) = some (pc', ls', st', M'))
    (kk : ∀ LS', zSt B D aD L xs k s H locs ls' LS' st' M' → M' = M → W p l e R s m args below meth c H locs cells slots Q (F0 m pc' LS' (st'.map (zenc B)))) : W p l e R s m args below meth c H locs cells slots Q (F0 m pc LS (st.map (zenc B))) := by
  split at h
  · next x eq =>
    split at h
    · next hi =>
      obtain ⟨rfl, rfl, rfl, rfl⟩ := zsome h
      obtain ⟨q, hq⟩ := List.getElem?_of_mem (zll_mem.mpr ⟨.inl x, eq, rfl⟩ : (i, zenc B (.inl x)) ∈ zll B ls)
      refine lv_iinc (v := Int32.ofInt (zb (x + v))) hx hb hd S.2.2.2.1.has hq (by rw [zb_of, Int32.ofInt_add]) (by rw [← S.2.2.2.1.1]; exact hi) rfl (fun LS' g => ?_)
      exact kk LS' ⟨S.1, S.2.1, S.2.2.1, S.2.2.2.1.put1 (zb_r _) rfl g, S.2.2.2.2⟩ rfl
    · cases h
  · cases h
theorem zs_tsw (S : zSt B D aD L xs k s H locs ls LS st M) (hx : p.tables.exec = Jvm.exec) (hb : c.code = zcode k) {d lo hi : Int} {offs : Array Int} {n : Nat} (hd : decode (zcode k) pc = .ok (.tableswitch d lo hi offs, n))
    (h : (match (generalizing := false) st with | .inl x :: r => if x < lo ∨ hi < x then zjump pc d ls r M else (match offs[(x - lo).toNat]? with | some off => zjump pc off ls r M | none => none) | _ => none) = some (pc', ls', st', M'))
    (kk : ∀ LS', zSt B D aD L xs k s H locs ls' LS' st' M' → M' = M → W p l e R s m args below meth c H locs cells slots Q (F0 m pc' LS' (st'.map (zenc B)))) : W p l e R s m args below meth c H locs cells slots Q (F0 m pc LS (st.map (zenc B))) := by
  split at h
  · next x r =>
    have hxr : zi32 x := S.2.2.2.2 (.inl x) List.mem_cons_self
    have hS : ∀ w ∈ r, zokV (znx M) w := fun w hw => S.2.2.2.2 w (List.mem_cons_of_mem _ hw)
    show W p l e R s m args below meth c H locs cells slots Q (F0 m pc LS (.int (Int32.ofInt x) :: r.map (zenc B)))
    split at h
    · next hc =>
      obtain ⟨h1, rfl, rfl, rfl⟩ := zjump_at h
      exact lv_tableOut hx hb hd (by rw [zi32_of x hxr]; exact hc) h1 (kk LS (S.to hS) rfl)
    · next hc =>
      split at h
      · next off ho =>
        obtain ⟨h1, rfl, rfl, rfl⟩ := zjump_at h
        exact lv_tableIn hx hb hd (by rw [zi32_of x hxr]; omega) (by rw [zi32_of x hxr]; omega) (by rw [zi32_of x hxr]; exact ho) h1 (kk LS (S.to hS) rfl)
      · cases h
  · cases h
theorem zs_lsw (S : zSt B D aD L xs k s H locs ls LS st M) (hx : p.tables.exec = Jvm.exec) (hb : c.code = zcode k) {d : Int} {ps : Array (Int × Int)} {n : Nat} (hd : decode (zcode k) pc = .ok (.lookupswitch d ps, n))
    (h : (match (generalizing := false) st with | .inl x :: r => if (ps.toList.zip (ps.toList.drop 1)).all (fun (a, next) => a.1 < next.1) = true then zjump pc (Op.lookupswitch.offset ps.toList d x) ls r M else none | _ => none) = some (pc', ls', st', M'))
    (kk : ∀ LS', zSt B D aD L xs k s H locs ls' LS' st' M' → M' = M → W p l e R s m args below meth c H locs cells slots Q (F0 m pc' LS' (st'.map (zenc B)))) : W p l e R s m args below meth c H locs cells slots Q (F0 m pc LS (st.map (zenc B))) := by
  split at h
  · next x r =>
    have hxr : zi32 x := S.2.2.2.2 (.inl x) List.mem_cons_self
    have hS : ∀ w ∈ r, zokV (znx M) w := fun w hw => S.2.2.2.2 w (List.mem_cons_of_mem _ hw)
    show W p l e R s m args below meth c H locs cells slots Q (F0 m pc LS (.int (Int32.ofInt x) :: r.map (zenc B)))
    split at h
    · next hc =>
      obtain ⟨h1, rfl, rfl, rfl⟩ := zjump_at h
      exact lv_lookup hx hb hd hc (by rw [zi32_of x hxr]) h1 (kk LS (S.to hS) rfl)
    · cases h
  · cases h
theorem zcat1 {v : ZV} (h : z2 v = false) : (zenc B v).category = 1 := by
  rcases lv_cat (zenc B v) with h1 | h1
  · exact h1
  · rw [(z2_cat v).mp h1] at h
    cases h
theorem zjdiv (x y : Int) (hx : zi32 x) (hy : zi32 y) : Int32.ofInt (zb (Int.tdiv x y)) = Int32.ofInt x / Int32.ofInt y := by
  apply Int32.toInt_inj.mp
  rw [zb_of, Int32.toInt_ofInt, Int32.toInt_div, zi32_of x hx, zi32_of y hy]
theorem zjmod (x y : Int) (hx : zi32 x) (hy : zi32 y) : Int32.ofInt (Int.tmod x y) = Int32.ofInt x % Int32.ofInt y ∧ zi32 (Int.tmod x y) := by
  have h := Int32.toInt_mod (Int32.ofInt x) (Int32.ofInt y)
  rw [zi32_of x hx, zi32_of y hy] at h
  rw [← h]
  exact ⟨(Int32.ofInt_toInt _), zi32_r _⟩
theorem zjrem (x y : Int) (hx : zi32 x) (hy : zi32 y) : Int32.ofInt (Int.tmod x y) = Int32.ofInt x - Int32.ofInt x / Int32.ofInt y * Int32.ofInt y := by
  rw [← zjdiv x y hx hy, zb_of, ← Int32.ofInt_mul, ← Int32.ofInt_sub, Int.tmod_def, Int.mul_comm]
theorem zjlcmp (x y : Int) (hx : zi64 x) (hy : zi64 y) : Int32.ofInt (zlcmp x y) = lg_cmp (Int64.ofInt x) (Int64.ofInt y) ∧ zi32 (zlcmp x y) := by
  have h1 : (Int64.ofInt x > Int64.ofInt y) ↔ y < x := by
    show Int64.ofInt y < Int64.ofInt x ↔ _
    rw [Int64.lt_iff_toInt_lt, zi64_of x hx, zi64_of y hy]
  have h2 : (Int64.ofInt x = Int64.ofInt y) ↔ x = y := by rw [← Int64.toInt_inj, zi64_of x hx, zi64_of y hy]
  unfold zlcmp lg_cmp
  by_cases q1 : y < x
  · rw [if_pos q1, if_pos (h1.mpr q1)]; exact ⟨rfl, ⟨by decide, by decide⟩⟩
  · rw [if_neg q1, if_neg (fun z => q1 (h1.mp z))]
    by_cases q2 : x = y
    · rw [if_pos q2, if_pos (h2.mpr q2)]; exact ⟨rfl, ⟨by decide, by decide⟩⟩
    · rw [if_neg q2, if_neg (fun z => q2 (h2.mp z))]; exact ⟨rfl, ⟨by decide, by decide⟩⟩
theorem zstep_sound {i : Instr} {n : Nat} (S : zSt B D aD L xs k s H locs ls LS st M) (C : zCtx B D aD L xs k p s m args meth c) (hd : decode (zcode k) pc = .ok (i, n)) (hn : zlenOk i n = true) (h : zstep k i pc ls st M = some (pc', ls', st', M')) (hc : cells + zdc M M' ≤ R.cells) (hs : slots + zds M M' ≤ R.slots)
    (kk0 : ∀ H1 locs1 LS', zSt B D aD L xs k s H1 locs1 ls' LS' st' M' → W p l e R s m args below meth c H1 locs1 (cells + zdc M M') (slots + zds M M') Q (F0 m pc' LS' (st'.map (zenc B)))) : W p l e R s m args below meth c H locs cells slots Q (F0 m pc LS (st.map (zenc B))) := by
  have hx := C.1
  have hb := C.2.1
  have hown := C.2.2.2.1
  have hts := C.2.2.2.2.1
  have kk : ∀ LS', zSt B D aD L xs k s H locs ls' LS' st' M' → M' = M → W p l e R s m args below meth c H locs cells slots Q (F0 m pc' LS' (st'.map (zenc B))) := fun LS' h1 h2 => by
    have := kk0 H locs LS' h1
    rw [zdc_self (by rw [h2]), zds_self (by rw [h2])] at this
    exact this
  have kh : ∀ H1 locs1, zSt B D aD L xs k s H1 locs1 ls' LS st' M' → znx M' = znx M → W p l e R s m args below meth c H1 locs1 cells slots Q (F0 m pc' LS (st'.map (zenc B))) := fun H1 locs1 h1 h2 => by
    have := kk0 H1 locs1 LS h1
    rw [zdc_self h2, zds_self h2] at this
    exact this
  have kn : ∀ H1 locs1, zSt B D aD L xs k s H1 locs1 ls' LS st' M' → W p l e R s m args below meth c H1 locs1 (cells + zdc M M') (slots + zds M M') Q (F0 m pc' LS (st'.map (zenc B))) := fun H1 locs1 h1 => kk0 H1 locs1 LS h1
  cases i
  case iconst v =>
    cases Nat.eq_of_beq_eq_true hn
    have h : (if -32768 ≤ v ∧ v ≤ 32767 then some (pc + 1, ls, zI v :: st, M) else none) = some (pc', ls', st', M') := h
    split at h
    · next hv => exact zs_kon S (n := 1) (v := zI v) (show zi32 v from ⟨by omega, by omega⟩) h (fun w => lv_iconst hx hb hd rfl w) kk
    · cases h
  case bipush v =>
    cases Nat.eq_of_beq_eq_true hn
    have h : (if -128 ≤ v ∧ v ≤ 127 then some (pc + 2, ls, zI v :: st, M) else none) = some (pc', ls', st', M') := h
    split at h
    · next hv =>
      refine zs_kon S (n := 2) (v := zI v) (show zi32 v from ⟨by omega, by omega⟩) h (fun w => lv_bipush hx hb hd ?_ w) kk
      apply Int32.toInt_inj.mp
      rw [Int8.toInt_toInt32, Int8.toInt_ofInt, zi32_of v ⟨by omega, by omega⟩]
      have e8 : ((Int8.size : Nat) : Int) = 256 := rfl
      exact Int.bmod_eq_of_le (by omega) (by omega)
    · cases h
  case sipush v =>
    cases Nat.eq_of_beq_eq_true hn
    have h : (if -32768 ≤ v ∧ v ≤ 32767 then some (pc + 3, ls, zI v :: st, M) else none) = some (pc', ls', st', M') := h
    split at h
    · next hv =>
      refine zs_kon S (n := 3) (v := zI v) (show zi32 v from ⟨by omega, by omega⟩) h (fun w => lv_sipush hx hb hd ?_ w) kk
      apply Int32.toInt_inj.mp
      rw [Int16.toInt_toInt32, Int16.toInt_ofInt, zi32_of v ⟨by omega, by omega⟩]
      have e8 : ((Int16.size : Nat) : Int) = 65536 := rfl
      exact Int.bmod_eq_of_le (by omega) (by omega)
    · cases h
  case lconst v =>
    cases Nat.eq_of_beq_eq_true hn
    exact zs_kon S (n := 1) (v := zJ (v.val : Int)) (show zi64 (v.val : Int) from ⟨by omega, by omega⟩) h (fun w => lv_lconst hx hb hd rfl w) kk
  case ldc j =>
    cases Nat.eq_of_beq_eq_true hn
    have h : zkonS (zlk (zKl (zcl k)) j) (pc + 2) ls st M = some (pc', ls', st', M') := h
    unfold zkonS at h
    split at h
    · next w x q eq =>
      have hk := zkl_at (zgh_c C.2.2.2.2.2.1.2) eq
      split at h
      · next hw =>
        obtain ⟨hc10, hnx⟩ := hk.2.2 hw
        have hx3 : -3 ≤ x ∧ x < znx M := ⟨by omega, by have := S.1.1; omega⟩
        have hown' : s.vm.findClass "SkippingKeysLaw" = some m.cls := by rw [hc10] at hown; exact hown
        have hR := C.2.2.2.2.2.2.2.2.2.2.2.2.2.2.2.2.2.2.1
        refine zs_kon S (n := 2) (v := .inr (.inr x)) hx3 h (fun w => ?_) kk
        rcases hnx with ⟨rfl, rfl⟩ | ⟨rfl, rfl⟩
        · exact va_ldcS hx hb hown' hR.1 hd w
        · exact va_ldcS hx hb hown' hR.2 hd w
      · split at h
        · next hw =>
          obtain ⟨h1, h2⟩ := hk.1 hw
          exact zs_kon S (n := 2) (v := zI x) h2 h (fun w => lv_ldc hx hb hown (hts _ h1) hd w) kk
        · cases h
    · cases h
  case ldc_w j =>
    cases Nat.eq_of_beq_eq_true hn
    have h : zkon 0 (zlk (zKl (zcl k)) j) (pc + 3) ls st M = some (pc', ls', st', M') := h
    unfold zkon at h
    split at h
    · next w x q eq =>
      split at h
      · next hw =>
        subst hw
        obtain ⟨h1, h2⟩ := (zkl_at (zgh_c C.2.2.2.2.2.1.2) eq).1 rfl
        exact zs_kon S (n := 3) (v := zI x) h2 h (fun w => lv_ldcw hx hb hown (hts _ h1) hd w) kk
      · cases h
    · cases h
  case ldc2_w j =>
    cases Nat.eq_of_beq_eq_true hn
    have h : zkon 1 (zlk (zKl (zcl k)) j) (pc + 3) ls st M = some (pc', ls', st', M') := h
    unfold zkon at h
    split at h
    · next w x q eq =>
      split at h
      · next hw =>
        subst hw
        obtain ⟨h1, h2⟩ := (zkl_at (zgh_c C.2.2.2.2.2.1.2) eq).2.1 rfl
        exact zs_kon S (n := 3) (v := zJ x) h2 h (fun w => lv_ldc2 hx hb hown (hts _ h1) hd w) kk
      · cases h
    · cases h
  case iload j =>
    cases Nat.eq_of_beq_eq_true hn
    have h : zldI (zget ls j) (pc + 2) ls st M = some (pc', ls', st', M') := h
    unfold zldI at h
    split at h
    · next x eq => exact zs_ld S eq h (fun g w => lv_iload hx hb hd g w) kk
    · cases h
  case iload_n j =>
    cases Nat.eq_of_beq_eq_true hn
    have h : zldI (zget ls j.val) (pc + 1) ls st M = some (pc', ls', st', M') := h
    unfold zldI at h
    split at h
    · next x eq => exact zs_ld S eq h (fun g w => lv_iload_n hx hb hd rfl g w) kk
    · cases h
  case lload j =>
    cases Nat.eq_of_beq_eq_true hn
    have h : zldJ (zget ls j) (pc + 2) ls st M = some (pc', ls', st', M') := h
    unfold zldJ at h
    split at h
    · next x eq => exact zs_ld S eq h (fun g w => lv_lload hx hb hd g w) kk
    · cases h
  case lload_n j =>
    cases Nat.eq_of_beq_eq_true hn
    have h : zldJ (zget ls j.val) (pc + 1) ls st M = some (pc', ls', st', M') := h
    unfold zldJ at h
    split at h
    · next x eq => exact zs_ld S eq h (fun g w => lv_lload_n hx hb hd rfl g w) kk
    · cases h
  case aload j =>
    cases Nat.eq_of_beq_eq_true hn
    have h : zldA (zget ls j) (pc + 2) ls st M = some (pc', ls', st', M') := h
    unfold zldA at h
    split at h
    · next x eq =>
      split at h
      · next h0 =>
        refine zs_ld S eq h (fun g w => ?_) kk
        have e1 : zenc B (.inr (.inr x)) = .ref (zad B x) := zrv_ref h0
        rw [e1] at g w
        exact lv_aload hx hb hd g w
      · cases h
    · cases h
  case aload_n j =>
    cases Nat.eq_of_beq_eq_true hn
    have h : zldA (zget ls j.val) (pc + 1) ls st M = some (pc', ls', st', M') := h
    unfold zldA at h
    split at h
    · next x eq =>
      split at h
      · next h0 =>
        refine zs_ld S eq h (fun g w => ?_) kk
        have e1 : zenc B (.inr (.inr x)) = .ref (zad B x) := zrv_ref h0
        rw [e1] at g w
        exact lv_aload_n hx hb hd rfl g w
      · cases h
    · cases h
  case istore j =>
    cases Nat.eq_of_beq_eq_true hn
    exact zs_stI S h (fun x rest lv' a b c' d => lv_istore hx hb hd a b c' d) kk
  case istore_n j =>
    cases Nat.eq_of_beq_eq_true hn
    exact zs_stI S h (fun x rest lv' a b c' d => lv_istore_n hx hb hd rfl a b c' d) kk
  case lstore j =>
    cases Nat.eq_of_beq_eq_true hn
    exact zs_stJ S hx hb hd h kk
  case astore j =>
    cases Nat.eq_of_beq_eq_true hn
    exact zs_stA S h (fun x rest lv' a b c' d => lv_astore hx hb hd a b c' d) kk
  case astore_n j =>
    cases Nat.eq_of_beq_eq_true hn
    exact zs_stA S h (fun x rest lv' a b c' d => lv_astore_n hx hb hd rfl a b c' d) kk
  case iinc j v =>
    cases Nat.eq_of_beq_eq_true hn
    exact zs_iinc S hx hb hd h kk
  case iadd =>
    cases Nat.eq_of_beq_eq_true hn
    exact zs_bin S (f := fun x y => zb (x + y)) (g := fun x y => x + y) (fun x y _ _ => ⟨by rw [zb_of, Int32.ofInt_add], zb_r _⟩) h (fun x y rest w => lv_iadd hx hb hd w) kk
  case isub =>
    cases Nat.eq_of_beq_eq_true hn
    exact zs_bin S (f := fun x y => zb (x - y)) (g := fun x y => x - y) (fun x y _ _ => ⟨by rw [zb_of, Int32.ofInt_sub], zb_r _⟩) h (fun x y rest w => lv_isub hx hb hd w) kk
  case imul =>
    cases Nat.eq_of_beq_eq_true hn
    exact zs_bin S (f := fun x y => zb (x * y)) (g := fun x y => x * y) (fun x y _ _ => ⟨by rw [zb_of, Int32.ofInt_mul], zb_r _⟩) h (fun x y rest w => lv_imul hx hb hd w) kk
  case iand =>
    cases Nat.eq_of_beq_eq_true hn
    exact zs_bin S (f := zand) (g := fun x y => x &&& y) (fun x y _ _ => ⟨(Int32.ofInt_toInt _), zi32_r _⟩) h (fun x y rest w => lv_iand hx hb hd w) kk
  case ior =>
    cases Nat.eq_of_beq_eq_true hn
    exact zs_bin S (f := zor) (g := fun x y => x ||| y) (fun x y _ _ => ⟨(Int32.ofInt_toInt _), zi32_r _⟩) h (fun x y rest w => lv_ior hx hb hd w) kk
  case ixor =>
    cases Nat.eq_of_beq_eq_true hn
    exact zs_bin S (f := zxor) (g := fun x y => x ^^^ y) (fun x y _ _ => ⟨(Int32.ofInt_toInt _), zi32_r _⟩) h (fun x y rest w => lv_ixor hx hb hd w) kk
  case ishl =>
    cases Nat.eq_of_beq_eq_true hn
    exact zs_bin S (f := zshl) (g := fun x y => x <<< (y &&& 31)) (fun x y _ _ => ⟨(Int32.ofInt_toInt _), zi32_r _⟩) h (fun x y rest w => lv_ishl hx hb hd w) kk
  case ishr =>
    cases Nat.eq_of_beq_eq_true hn
    exact zs_bin S (f := zshr) (g := fun x y => x >>> (y &&& 31)) (fun x y _ _ => ⟨(Int32.ofInt_toInt _), zi32_r _⟩) h (fun x y rest w => lv_ishr hx hb hd w) kk
  case iushr =>
    cases Nat.eq_of_beq_eq_true hn
    exact zs_bin S (f := zushr) (g := fun x y => (x.toUInt32 >>> (y.toUInt32 &&& Int32.toUInt32 31)).toInt32) (fun x y _ _ => ⟨(Int32.ofInt_toInt _), zi32_r _⟩) h (fun x y rest w => lv_iushr hx hb hd rfl w) kk
  case idiv =>
    cases Nat.eq_of_beq_eq_true hn
    replace h : (match (generalizing := false) st with | .inl y :: .inl x :: r => if y = 0 then none else some (pc + 1, ls, zI (zb (Int.tdiv x y)) :: r, M) | _ => none) = some (pc', ls', st', M') := h
    split at h
    · next y x r =>
      split at h
      · cases h
      · next hy0 =>
        refine zs_bi S (n := 1) (w := zI (zb (Int.tdiv x y))) rfl (fun _ _ => zb_r _) h (fun hy hx2 w => ?_) kk
        have e1 : zenc B (zI (zb (Int.tdiv x y))) = .int (Int32.ofInt x / Int32.ofInt y) := congrArg Value.int (zjdiv x y hx2 hy)
        rw [e1] at w
        exact lv_idiv hx hb hd (fun z => hy0 ((zeq32 hy z032).mp z)) w
    · cases h
  case irem =>
    cases Nat.eq_of_beq_eq_true hn
    replace h : (match (generalizing := false) st with | .inl y :: .inl x :: r => if y = 0 then none else some (pc + 1, ls, zI (Int.tmod x y) :: r, M) | _ => none) = some (pc', ls', st', M') := h
    split at h
    · next y x r =>
      split at h
      · cases h
      · next hy0 =>
        refine zs_bi S (n := 1) (w := zI (Int.tmod x y)) rfl (fun hy hx2 => (zjmod x y hx2 hy).2) h (fun hy hx2 w => ?_) kk
        have e1 : zenc B (zI (Int.tmod x y)) = .int (Int32.ofInt x - Int32.ofInt x / Int32.ofInt y * Int32.ofInt y) := congrArg Value.int (zjrem x y hx2 hy)
        rw [e1] at w
        exact lv_irem hx hb hd (fun z => hy0 ((zeq32 hy z032).mp z)) w
    · cases h
  case ineg =>
    cases Nat.eq_of_beq_eq_true hn
    replace h : (match (generalizing := false) st with | .inl x :: r => some (pc + 1, ls, zI (zb (-x)) :: r, M) | _ => none) = some (pc', ls', st', M') := h
    split at h
    · next x r =>
      refine zs_un S (n := 1) (v := .inl x) (w := zI (zb (-x))) rfl (fun _ => zb_r _) h (fun _ w => ?_) kk
      have e1 : zenc B (zI (zb (-x))) = .int (- Int32.ofInt x) := congrArg Value.int (by rw [zb_of, Int32.ofInt_neg])
      rw [e1] at w
      exact lv_ineg hx hb hd w
    · cases h
  case lshl =>
    cases Nat.eq_of_beq_eq_true hn
    replace h : (match (generalizing := false) st with | .inl y :: .inr (.inl x) :: r => some (pc + 1, ls, zJ (zlshl x y) :: r, M) | _ => none) = some (pc', ls', st', M') := h
    split at h
    · next y x r => exact zs_bi S (n := 1) (w := zJ (zlshl x y)) rfl (fun _ _ => zi64_r _) h (fun _ _ w => lv_lshl hx hb hd (by rw [show Int64.ofInt (zlshl x y) = _ from (Int64.ofInt_toInt _)]) w) kk
    · cases h
  case land =>
    cases Nat.eq_of_beq_eq_true hn
    replace h : (match (generalizing := false) st with | .inr (.inl y) :: .inr (.inl x) :: r => some (pc + 1, ls, zJ (zland x y) :: r, M) | _ => none) = some (pc', ls', st', M') := h
    split at h
    · next y x r =>
      refine zs_bi S (n := 1) (w := zJ (zland x y)) rfl (fun _ _ => zi64_r _) h (fun _ _ w => ?_) kk
      have e1 : zenc B (zJ (zland x y)) = .long (Int64.ofInt x &&& Int64.ofInt y) := congrArg Value.long (Int64.ofInt_toInt _)
      rw [e1] at w
      exact lv_land hx hb hd w
    · cases h
  case lor =>
    cases Nat.eq_of_beq_eq_true hn
    replace h : (match (generalizing := false) st with | .inr (.inl y) :: .inr (.inl x) :: r => some (pc + 1, ls, zJ (zlor x y) :: r, M) | _ => none) = some (pc', ls', st', M') := h
    split at h
    · next y x r =>
      refine zs_bi S (n := 1) (w := zJ (zlor x y)) rfl (fun _ _ => zi64_r _) h (fun _ _ w => ?_) kk
      have e1 : zenc B (zJ (zlor x y)) = .long (Int64.ofInt x ||| Int64.ofInt y) := congrArg Value.long (Int64.ofInt_toInt _)
      rw [e1] at w
      exact lv_lor hx hb hd w
    · cases h
  case lcmp =>
    cases Nat.eq_of_beq_eq_true hn
    replace h : (match (generalizing := false) st with | .inr (.inl y) :: .inr (.inl x) :: r => some (pc + 1, ls, zI (zlcmp x y) :: r, M) | _ => none) = some (pc', ls', st', M') := h
    split at h
    · next y x r =>
      refine zs_bi S (n := 1) (w := zI (zlcmp x y)) rfl (fun hy hx2 => (zjlcmp x y hx2 hy).2) h (fun hy hx2 w => ?_) kk
      have e1 : zenc B (zI (zlcmp x y)) = .int (lg_cmp (Int64.ofInt x) (Int64.ofInt y)) := congrArg Value.int (zjlcmp x y hx2 hy).1
      rw [e1] at w
      exact W.lcmp hx hb hd w
    · cases h
  case i2l =>
    cases Nat.eq_of_beq_eq_true hn
    replace h : (match (generalizing := false) st with | .inl x :: r => some (pc + 1, ls, zJ x :: r, M) | _ => none) = some (pc', ls', st', M') := h
    split at h
    · next x r =>
      refine zs_un S (n := 1) (v := .inl x) (w := zJ x) rfl (fun (hv : zi32 x) => (⟨by have := hv.1; omega, by have := hv.2; omega⟩ : zi64 x)) h (fun hv w => lv_i2l hx hb hd ?_ w) kk
      apply Int64.toInt_inj.mp
      rw [Int32.toInt_toInt64, zi32_of x hv, zi64_of x ⟨by have := hv.1; omega, by have := hv.2; omega⟩]
    · cases h
  case l2i =>
    cases Nat.eq_of_beq_eq_true hn
    replace h : (match (generalizing := false) st with | .inr (.inl x) :: r => some (pc + 1, ls, zI (zb x) :: r, M) | _ => none) = some (pc', ls', st', M') := h
    split at h
    · next x r =>
      refine zs_un S (n := 1) (v := .inr (.inl x)) (w := zI (zb x)) rfl (fun _ => zb_r _) h (fun hv w => lv_l2i hx hb hd ?_ w) kk
      apply Int32.toInt_inj.mp
      rw [zb_of, Int64.toInt_toInt32, Int32.toInt_ofInt, zi64_of x hv]
    · cases h
  case i2b =>
    cases Nat.eq_of_beq_eq_true hn
    replace h : (match (generalizing := false) st with | .inl x :: r => some (pc + 1, ls, zI (zi2b x) :: r, M) | _ => none) = some (pc', ls', st', M') := h
    split at h
    · next x r => exact zs_un S (n := 1) (v := .inl x) (w := zI (zi2b x)) rfl (fun _ => zi32_r _) h (fun hv w => lv_i2b hx hb hd (by rw [show Int32.ofInt (zi2b x) = _ from (Int32.ofInt_toInt _)]) w) kk
    · cases h
  case i2s =>
    cases Nat.eq_of_beq_eq_true hn
    replace h : (match (generalizing := false) st with | .inl x :: r => some (pc + 1, ls, zI (zi2s x) :: r, M) | _ => none) = some (pc', ls', st', M') := h
    split at h
    · next x r => exact zs_un S (n := 1) (v := .inl x) (w := zI (zi2s x)) rfl (fun _ => zi32_r _) h (fun hv w => lv_i2s hx hb hd (by rw [show Int32.ofInt (zi2s x) = _ from (Int32.ofInt_toInt _)]) w) kk
    · cases h
  case dup =>
    cases Nat.eq_of_beq_eq_true hn
    replace h : (match (generalizing := false) st with | v :: r => if z2 v = true then none else some (pc + 1, ls, v :: v :: r, M) | _ => none) = some (pc', ls', st', M') := h
    split at h
    · next v r =>
      split at h
      · cases h
      · next q =>
        obtain ⟨rfl, rfl, rfl, rfl⟩ := zsome h
        exact lv_dup hx hb hd (zcat1 (by simpa using q)) (kk LS (S.to fun w hw => by
          rcases List.mem_cons.mp hw with rfl | hw
          · exact S.2.2.2.2 _ List.mem_cons_self
          · exact S.2.2.2.2 w hw) rfl)
    · cases h
  case pop =>
    cases Nat.eq_of_beq_eq_true hn
    replace h : (match (generalizing := false) st with | v :: r => if z2 v = true then none else some (pc + 1, ls, r, M) | _ => none) = some (pc', ls', st', M') := h
    split at h
    · next v r =>
      split at h
      · cases h
      · next q =>
        obtain ⟨rfl, rfl, rfl, rfl⟩ := zsome h
        exact lv_pop hx hb hd (zcat1 (by simpa using q)) (kk LS (S.to fun w hw => S.2.2.2.2 w (List.mem_cons_of_mem _ hw)) rfl)
    · cases h
  case dup_x1 =>
    cases Nat.eq_of_beq_eq_true hn
    replace h : (match (generalizing := false) st with | v :: w :: r => if z2 v = true ∨ z2 w = true then none else some (pc + 1, ls, v :: w :: v :: r, M) | _ => none) = some (pc', ls', st', M') := h
    split at h
    · next v w r =>
      split at h
      · cases h
      · next q =>
        obtain ⟨rfl, rfl, rfl, rfl⟩ := zsome h
        refine lv_dup_x1 hx hb hd (zcat1 (by cases z : z2 v; rfl; exact absurd (Or.inl z) q)) (zcat1 (by cases z : z2 w; rfl; exact absurd (Or.inr z) q)) (kk LS (S.to fun u hu => ?_) rfl)
        rcases List.mem_cons.mp hu with rfl | hu
        · exact S.2.2.2.2 _ List.mem_cons_self
        · rcases List.mem_cons.mp hu with rfl | hu
          · exact S.2.2.2.2 _ (List.mem_cons_of_mem _ List.mem_cons_self)
          · rcases List.mem_cons.mp hu with rfl | hu
            · exact S.2.2.2.2 _ List.mem_cons_self
            · exact S.2.2.2.2 u (List.mem_cons_of_mem _ (List.mem_cons_of_mem _ hu))
    · cases h
  case dup2 =>
    cases Nat.eq_of_beq_eq_true hn
    replace h : (match (generalizing := false) st with | v :: w :: r => if z2 v = true ∨ z2 w = true then none else some (pc + 1, ls, v :: w :: v :: w :: r, M) | _ => none) = some (pc', ls', st', M') := h
    split at h
    · next v w r =>
      split at h
      · cases h
      · next q =>
        obtain ⟨rfl, rfl, rfl, rfl⟩ := zsome h
        refine lv_dup2_11 hx hb hd (zcat1 (by cases z : z2 v; rfl; exact absurd (Or.inl z) q)) (zcat1 (by cases z : z2 w; rfl; exact absurd (Or.inr z) q)) (kk LS (S.to fun u hu => ?_) rfl)
        rcases List.mem_cons.mp hu with rfl | hu
        · exact S.2.2.2.2 _ List.mem_cons_self
        · rcases List.mem_cons.mp hu with rfl | hu
          · exact S.2.2.2.2 _ (List.mem_cons_of_mem _ List.mem_cons_self)
          · exact S.2.2.2.2 u hu
    · cases h
  case goto off =>
    cases Nat.eq_of_beq_eq_true hn
    obtain ⟨h1, rfl, rfl, rfl⟩ := zjump_at h
    exact lv_goto hx hb hd h1 (kk LS S rfl)
  case ifCond cm off =>
    cases Nat.eq_of_beq_eq_true hn
    replace h : (match (generalizing := false) st with | .inl x :: r => zbr (zcmp cm x 0) pc off ls r M | _ => none) = some (pc', ls', st', M') := h
    split at h
    · exact zs_if1 S hx hb hd rfl h kk
    · cases h
  case if_icmp cm off =>
    cases Nat.eq_of_beq_eq_true hn
    replace h : (match (generalizing := false) st with | .inl y :: .inl x :: r => zbr (zcmp cm x y) pc off ls r M | _ => none) = some (pc', ls', st', M') := h
    split at h
    · exact zs_if2 S hx hb hd rfl h kk
    · cases h
  case tableswitch d lo hi offs => exact zs_tsw S hx hb hd h kk
  case lookupswitch d ps => exact zs_lsw S hx hb hd h kk
  case getfield j =>
    cases Nat.eq_of_beq_eq_true hn
    exact zs_getf S C hd h kk
  case putfield j =>
    cases Nat.eq_of_beq_eq_true hn
    exact zs_putf S C hd h kh
  case getstatic j =>
    cases Nat.eq_of_beq_eq_true hn
    exact zs_gets S C hd h kk
  case iaload =>
    cases Nat.eq_of_beq_eq_true hn
    exact zs_iald S C hd h kk
  case baload =>
    cases Nat.eq_of_beq_eq_true hn
    exact zs_bald S C hd h kk
  case laload =>
    cases Nat.eq_of_beq_eq_true hn
    exact zs_lald S C hd h kk
  case aaload =>
    cases Nat.eq_of_beq_eq_true hn
    exact zs_aald S C hd h kk
  case iastore =>
    cases Nat.eq_of_beq_eq_true hn
    exact zs_iast S C hd h kh
  case bastore =>
    cases Nat.eq_of_beq_eq_true hn
    exact zs_bast S C hd h kh
  case lastore =>
    cases Nat.eq_of_beq_eq_true hn
    exact zs_last S C hd h kh
  case aastore =>
    cases Nat.eq_of_beq_eq_true hn
    exact zs_aast S C hd h kh
  case arraylength =>
    cases Nat.eq_of_beq_eq_true hn
    exact zs_alen S C hd h kk
  case new j =>
    cases Nat.eq_of_beq_eq_true hn
    exact zs_new S C hd h hc hs kn
  case newarray t =>
    cases Nat.eq_of_beq_eq_true hn
    have h : (if zatype t ≤ 3 then znewa (zatype t) (pc + 2) ls st (zskip M) else none) = some (pc', ls', st', M') := h
    split at h
    · next ht => exact zs_newa S C hd ht h hc hs kn
    · cases h
  case anewarray j =>
    cases Nat.eq_of_beq_eq_true hn
    replace h : (match (generalizing := false) zlk (zCl (zcl k)) j with | some (0, _) => znewa 4 (pc + 3) ls st (zskip M) | _ => none) = some (pc', ls', st', M') := h
    split at h
    · next q eq => exact zs_newq S C eq hd h hc hs kn
    · cases h
  all_goals exact absurd (show none = some (pc', ls', st', M') from h) (by intro z; cases z)
end ZSTEPS
end
section
/-! ===== all steps: a run of the small machine is one of the large one ===== -/
theorem zbody_eq (n d k pc : Nat) (ls : ZL) (st : ZS) (M : ZM) : zbody (n + 1) d k pc ls st M = (match zins k pc with
    | none => none
    | some (i, m) => if zlenOk i m = true then (match i with
      | .ireturn => match st with
        | [.inl x] => if zretI k x = true then some (some (zI x), M) else none
        | _ => none
      | .lreturn => match st with
        | [.inr (.inl x)] => if zret k = some .long then some (some (zJ x), M) else none
        | _ => none
      | .areturn => match st with
        | [.inr (.inr a)] => if zretA k = true ∧ 0 ≤ a then some (some (zA a), M) else none
        | _ => none
      | .return_ => match st with
        | [] => if zret k = none then some (none, M) else none
        | _ => none
      | .invokespecial j => match zlk (zMl (zcl k)) j with
        | some (t, _, _) => if t = 1000 then (match st, d with
            | .inr (.inr a) :: r, _ + 1 => if 0 ≤ a ∧ zcat r ≤ 8 then zbody n d k (pc + 3) ls r M else none
            | _, _ => none)
          else (match zready 2 t st, d with
            | some (args, r), e + 1 => (match zbody n e t 0 (zentry t args) [] M with
              | some (v, M') => zbody n d k (pc + 3) ls (v.toList ++ r) M'
              | none => none)
            | _, _ => none)
        | none => none
      | .invokestatic j => match zlk (zMl (zcl k)) j with
        | some (t, _, _) => if t = 1001 then (match d, zacopy (pc + 3) ls st M with
            | _ + 1, some (pc', ls', st', M') => zbody n d k pc' ls' st' M'
            | _, _ => none)
          else if t = 1002 ∨ t = 1003 then (match d, zmm t (pc + 3) ls st M with
            | _ + 1, some (pc', ls', st', M') => zbody n d k pc' ls' st' M'
            | _, _ => none)
          else (match zready 0 t st, d with
            | some (args, r), e + 1 => (match zbody n e t 0 (zentry t args) [] M with
              | some (v, M') => zbody n d k (pc + 3) ls (v.toList ++ r) M'
              | none => none)
            | _, _ => none)
        | none => none
      | .invokevirtual j => match zlk (zMl (zcl k)) j with
        | some (t, _, _) => if t = 1004 then (match zchar d (pc + 3) ls st M with
            | some (pc', ls', st', M') => zbody n d k pc' ls' st' M'
            | none => none)
          else (match zready 1 t st, d with
            | some (args, r), e + 1 => (match zbody n e t 0 (zentry t args) [] M with
              | some (v, M') => zbody n d k (pc + 3) ls (v.toList ++ r) M'
              | none => none)
            | _, _ => none)
        | none => none
      | _ => match zstep k i pc ls st M with
        | some (pc', ls', st', M') => zbody n d k pc' ls' st' M'
        | none => none) else none) := rfl
section ZNX
variable {k : Nat} {pc pc' : Nat} {ls ls' : ZL} {st st' : ZS} {M M' : ZM}
theorem zkon_M {n : Nat} {x : Option (Nat × Int × zPos)} (h : zkon n x pc ls st M = some (pc', ls', st', M')) : M' = M := by
  unfold zkon at h
  repeat' split at h
  all_goals first | (cases h; done) | (cases h; rfl)
theorem zldI_M {x : Option ZV} (h : zldI x pc ls st M = some (pc', ls', st', M')) : M' = M := by
  unfold zldI at h
  repeat' split at h
  all_goals first | (cases h; done) | (cases h; rfl)
theorem zldJ_M {x : Option ZV} (h : zldJ x pc ls st M = some (pc', ls', st', M')) : M' = M := by
  unfold zldJ at h
  repeat' split at h
  all_goals first | (cases h; done) | (cases h; rfl)
theorem zldA_M {x : Option ZV} (h : zldA x pc ls st M = some (pc', ls', st', M')) : M' = M := by
  unfold zldA at h
  repeat' split at h
  all_goals first | (cases h; done) | (cases h; rfl)
theorem zstI_M {i : Nat} (h : zstI i pc ls st M = some (pc', ls', st', M')) : M' = M := by
  unfold zstI at h
  repeat' split at h
  all_goals first | (cases h; done) | (cases h; rfl)
theorem zstJ_M {i : Nat} (h : zstJ i pc ls st M = some (pc', ls', st', M')) : M' = M := by
  unfold zstJ at h
  repeat' split at h
  all_goals first | (cases h; done) | (cases h; rfl)
theorem zstA_M {i : Nat} (h : zstA i pc ls st M = some (pc', ls', st', M')) : M' = M := by
  unfold zstA at h
  repeat' split at h
  all_goals first | (cases h; done) | (cases h; rfl)
theorem zbin_M {f : Int → Int → Int} (h : zbin f pc ls st M = some (pc', ls', st', M')) : M' = M := by
  unfold zbin at h
  repeat' split at h
  all_goals first | (cases h; done) | (cases h; rfl)
theorem zbr_M {b : Bool} {off : Int} (h : zbr b pc off ls st M = some (pc', ls', st', M')) : M' = M := by
  unfold zbr at h
  repeat' split at h
  all_goals first | (cases h; done) | (cases h; rfl)
theorem zgetf_M {x : Option (Nat × Nat × zPos)} (h : zgetf x pc ls st M = some (pc', ls', st', M')) : M' = M := by
  unfold zgetf at h
  repeat' split at h
  all_goals first | (cases h; done) | (cases h; rfl)
theorem zaldI_M (h : zaldI pc ls st M = some (pc', ls', st', M')) : M' = M := by
  unfold zaldI at h
  repeat' split at h
  all_goals first | (cases h; done) | (cases h; rfl)
theorem zaldB_M (h : zaldB pc ls st M = some (pc', ls', st', M')) : M' = M := by
  unfold zaldB at h
  repeat' split at h
  all_goals first | (cases h; done) | (cases h; rfl)
theorem zaldJ_M (h : zaldJ pc ls st M = some (pc', ls', st', M')) : M' = M := by
  unfold zaldJ at h
  repeat' split at h
  all_goals first | (cases h; done) | (cases h; rfl)
theorem zaldA_M (h : zaldA pc ls st M = some (pc', ls', st', M')) : M' = M := by
  unfold zaldA at h
  repeat' split at h
  all_goals first | (cases h; done) | (cases h; rfl)
theorem zalen_M (h : zalen pc ls st M = some (pc', ls', st', M')) : M' = M := by
  unfold zalen at h
  repeat' split at h
  all_goals first | (cases h; done) | (cases h; rfl)
theorem zFl_lt (c : Nat) : (zFl c).all (fun e => Nat.blt e.2.1 10) = true := by
  unfold zFl
  split <;> first | decide +kernel | rfl
theorem zfl_lt {n ci j : Nat} {q : zPos} (h : zlk (zFl (zcl k)) n = some (ci, j, q)) : ci < 10 := by
  have h1 := List.all_eq_true.mp (zFl_lt (zcl k)) _ (zlk_mem _ _ _ h)
  exact Nat.le_of_ble_eq_true h1
theorem zputf_nx {n : Nat} (h : zputf k (zlk (zFl (zcl k)) n) pc ls st M = some (pc', ls', st', M')) : znx M' = znx M := by
  unfold zputf at h
  split at h
  · next ci j q v a r eq =>
    have hci := zfl_lt eq
    split at h
    · next hs =>
      split at h
      · cases h
        have hs := hs.1
        exact znx_set (zsh_low (by rw [hs]; show 10 + ci ≠ 20; omega) (by rw [hs]; show 10 + ci ≠ 21; omega) (by rw [hs]; show 10 + ci ≠ 99; omega))
      · cases h
    · cases h
  · cases h
theorem zastI_nx (h : zastI pc ls st M = some (pc', ls', st', M')) : znx M' = znx M := by
  unfold zastI at h
  split at h
  · split at h
    · next hc => cases h; exact znx_set (zsh_low (by omega) (by omega) (by omega))
    · cases h
  · cases h
theorem zastJ_nx (h : zastJ pc ls st M = some (pc', ls', st', M')) : znx M' = znx M := by
  unfold zastJ at h
  split at h
  · split at h
    · next hc => cases h; exact znx_set (zsh_low (by omega) (by omega) (by omega))
    · cases h
  · cases h
theorem zastB_nx (h : zastB pc ls st M = some (pc', ls', st', M')) : znx M' = znx M := by
  unfold zastB at h
  split at h
  · split at h
    · next hc => cases h; exact znx_set (zsh_low (by omega) (by omega) (by omega))
    · cases h
  · cases h
theorem zastA_nx (h : zastA pc ls st M = some (pc', ls', st', M')) : znx M' = znx M := by
  unfold zastA at h
  split at h
  · split at h
    · next hc => cases h; exact znx_set (zsh_low (by omega) (by omega) (by omega))
    · cases h
  · cases h
theorem znew_nx {x : Option (Nat × zPos)} (h : znew x pc ls st M = some (pc', ls', st', M')) : znx M' = znx M + 1 := by
  unfold znew at h
  split at h
  · split at h
    · cases h; exact zmake_nx M
    · cases h
  · cases h
theorem znewa_nx {t : Nat} (h : znewa t pc ls st M = some (pc', ls', st', M')) : znx M' = znx M + 1 := by
  unfold znewa at h
  split at h
  · split at h
    · cases h; exact zmake_nx M
    · cases h
  · cases h
theorem zkonS_M {x : Option (Nat × Int × zPos)} (h : zkonS x pc ls st M = some (pc', ls', st', M')) : M' = M := by
  unfold zkonS at h
  repeat' split at h
  all_goals first | (cases h; done) | (cases h; rfl)
theorem zchar_M {d : Nat} (h : zchar d pc ls st M = some (pc', ls', st', M')) : M' = M := by
  unfold zchar at h
  repeat' split at h
  all_goals first | (cases h; done) | (cases h; rfl)
theorem zacopy_nx (h : zacopy pc ls st M = some (pc', ls', st', M')) : znx M' = znx M := by
  unfold zacopy at h
  split at h
  · split at h
    · next n q a sp b r hc =>
      cases h
      have h3 : 3 ≤ a := zsh_low (by omega) (by omega) (by omega)
      show (if (-1 : Int) = a ∧ _ then _ else _) = _
      rw [if_neg (fun z => by have := z.1; omega)]
      rfl
    · cases h
  · cases h
theorem zmm_M {t : Nat} (h : zmm t pc ls st M = some (pc', ls', st', M')) : M' = M := by
  unfold zmm at h
  repeat' split at h
  all_goals first | (cases h; done) | (cases h; rfl)
theorem zstep_nx {i : Instr} (h : zstep k i pc ls st M = some (pc', ls', st', M')) : znx M ≤ znx M' := by
  have le_of : M' = M → znx M ≤ znx M' := fun e => by rw [e]; exact Int.le_refl _
  have le_eq : znx M' = znx M → znx M ≤ znx M' := fun e => by rw [e]; exact Int.le_refl _
  have hsk := zskip_le M
  cases i
  case ldc j => exact le_of (zkonS_M h)
  case ldc_w j => exact le_of (zkon_M h)
  case ldc2_w j => exact le_of (zkon_M h)
  case iload j => exact le_of (zldI_M h)
  case iload_n j => exact le_of (zldI_M h)
  case lload j => exact le_of (zldJ_M h)
  case lload_n j => exact le_of (zldJ_M h)
  case aload j => exact le_of (zldA_M h)
  case aload_n j => exact le_of (zldA_M h)
  case istore j => exact le_of (zstI_M h)
  case istore_n j => exact le_of (zstI_M h)
  case lstore j => exact le_of (zstJ_M h)
  case astore j => exact le_of (zstA_M h)
  case astore_n j => exact le_of (zstA_M h)
  case iadd => exact le_of (zbin_M h)
  case isub => exact le_of (zbin_M h)
  case imul => exact le_of (zbin_M h)
  case iand => exact le_of (zbin_M h)
  case ior => exact le_of (zbin_M h)
  case ixor => exact le_of (zbin_M h)
  case ishl => exact le_of (zbin_M h)
  case ishr => exact le_of (zbin_M h)
  case iushr => exact le_of (zbin_M h)
  case goto off => exact le_of (zjump_at h).2.2.2
  case getfield j => exact le_of (zgetf_M h)
  case putfield j => exact le_eq (zputf_nx h)
  case iaload => exact le_of (zaldI_M h)
  case baload => exact le_of (zaldB_M h)
  case laload => exact le_of (zaldJ_M h)
  case aaload => exact le_of (zaldA_M h)
  case iastore => exact le_eq (zastI_nx h)
  case bastore => exact le_eq (zastB_nx h)
  case lastore => exact le_eq (zastJ_nx h)
  case aastore => exact le_eq (zastA_nx h)
  case arraylength => exact le_of (zalen_M h)
  case new j => have := znew_nx h; omega
  all_goals (try exact absurd (show none = some (pc', ls', st', M') from h) (by intro z; cases z))
  all_goals (simp only [zstep] at h)
  all_goals (repeat' split at h)
  all_goals first
    | (cases h; done)
    | (cases h; exact Int.le_refl _)
    | exact le_of (zjump_at h).2.2.2
    | exact le_of (zbr_M h)
    | (have := znewa_nx h; omega)
theorem zbody_nx : ∀ (n d k pc : Nat) (ls : ZL) (st : ZS) (M : ZM) (r : Option ZV) (M' : ZM), zbody n d k pc ls st M = some (r, M') → znx M ≤ znx M'
  | 0, _, _, _, _, _, _, _, _, h => by cases h
  | n + 1, d, k, pc, ls, st, M, r, M', h => by
    rw [zbody_eq] at h
    split at h
    · cases h
    · next i m eq =>
      split at h
      · split at h
        · repeat' split at h
          all_goals first | (cases h; done) | (cases h; exact Int.le_refl _)
        · repeat' split at h
          all_goals first | (cases h; done) | (cases h; exact Int.le_refl _)
        · repeat' split at h
          all_goals first | (cases h; done) | (cases h; exact Int.le_refl _)
        · repeat' split at h
          all_goals first | (cases h; done) | (cases h; exact Int.le_refl _)
        · split at h
          · split at h
            · split at h
              · split at h
                · exact zbody_nx n _ _ _ _ _ _ _ _ h
                · cases h
              · cases h
            · split at h
              · split at h
                · next e1 => exact Int.le_trans (zbody_nx n _ _ _ _ _ _ _ _ e1) (zbody_nx n _ _ _ _ _ _ _ _ h)
                · cases h
              · cases h
          · cases h
        · split at h
          · split at h
            · split at h
              · next e1 =>
                have := zbody_nx n _ _ _ _ _ _ _ _ h
                rw [zacopy_nx e1] at this
                exact this
              · cases h
            · split at h
              · split at h
                · next e1 =>
                  have := zbody_nx n _ _ _ _ _ _ _ _ h
                  rw [zmm_M e1] at this
                  exact this
                · cases h
              · split at h
                · split at h
                  · next e1 => exact Int.le_trans (zbody_nx n _ _ _ _ _ _ _ _ e1) (zbody_nx n _ _ _ _ _ _ _ _ h)
                  · cases h
                · cases h
          · cases h
        · split at h
          · split at h
            · split at h
              · next e1 =>
                have := zbody_nx n _ _ _ _ _ _ _ _ h
                rw [zchar_M e1] at this
                exact this
              · cases h
            · split at h
              · split at h
                · next e1 => exact Int.le_trans (zbody_nx n _ _ _ _ _ _ _ _ e1) (zbody_nx n _ _ _ _ _ _ _ _ h)
                · cases h
              · cases h
          · cases h
        · split at h
          · next e1 => exact Int.le_trans (zstep_nx e1) (zbody_nx n _ _ _ _ _ _ _ _ h)
          · cases h
      · cases h
theorem zix_le {a b : Int} (h : a ≤ b) : zix a ≤ zix b := by
  unfold zix
  split <;> split <;> omega
theorem zdc_add {M M1 M2 : ZM} (h1 : znx M ≤ znx M1) (h2 : znx M1 ≤ znx M2) : zdc M M1 + zdc M1 M2 = zdc M M2 := by
  have a := zix_le h1
  have b := zix_le h2
  unfold zdc
  omega
theorem zds_add {M M1 M2 : ZM} (h1 : znx M ≤ znx M1) (h2 : znx M1 ≤ znx M2) : zds M M1 + zds M1 M2 = zds M M2 := by
  have a : zsl M ≤ zsl M1 := zsum_mono (by omega)
  have b : zsl M1 ≤ zsl M2 := zsum_mono (by omega)
  unfold zds
  omega
end ZNX
theorem zsnd {l : Launch} {B : zBs} {D : va_G} {aD : Nat → ClassId} {L : Nat} {xs : Nat → Int32} : ∀ n : Nat, zSnd l B D aD L xs n
  | 0 => fun d k pc ls st M r M' h => by cases h
  | n + 1 => by
    intro d k pc ls st M r M' h p e R s m args below meth c C hfr hlo H locs LS cells slots Q S hc hs hret
    have ih := zsnd (l := l) (B := B) (D := D) (aD := aD) (L := L) (xs := xs) n
    have hnxA := zbody_nx _ _ _ _ _ _ _ _ _ h
    /- what goes on behind a step or a call -/
    have next : ∀ (pc1 : Nat) (ls1 : ZL) (st1 : ZS) (M1 : ZM), zbody n d k pc1 ls1 st1 M1 = some (r, M') → znx M ≤ znx M1 → ∀ (H1 : Heap) (locs1 : List Loc) (LS1 : Array Slot), zSt B D aD L xs k s H1 locs1 ls1 LS1 st1 M1 → W p l e R s m args below meth c H1 locs1 (cells + zdc M M1) (slots + zds M M1) Q (F0 m pc1 LS1 (st1.map (zenc B))) := by
      intro pc1 ls1 st1 M1 h1 hn1 H1 locs1 LS1 S1
      have hn2 := zbody_nx _ _ _ _ _ _ _ _ _ h1
      have a1 := zdc_add hn1 hn2
      have a2 := zds_add hn1 hn2
      refine ih d k pc1 ls1 st1 M1 r M' h1 p e R s m args below meth c C hfr hlo H1 locs1 LS1 _ _ Q S1 (by omega) (by omega) ?_
      intro H2 locs2 LS2 pc2 ST q1 q2 q3 q4 q5
      have w := hret H2 locs2 LS2 pc2 ST q1 q2 q3 q4 q5
      rw [Nat.add_assoc, Nat.add_assoc, a1, a2]
      exact w
    have room : ∀ (M1 : ZM), znx M ≤ znx M1 → znx M1 ≤ znx M' → cells + zdc M M1 ≤ R.cells ∧ slots + zds M M1 ≤ R.slots := fun M1 h1 h2 => by
      have a1 := zdc_add h1 h2
      have a2 := zds_add h1 h2
      omega
    have fin : ∀ (ST : List Value), M' = M → (∀ v, r = some v → zokV (znx M) v) → zRet B k pc r ST → st.map (zenc B) = ST → W p l e R s m args below meth c H locs cells slots Q (F0 m pc LS (st.map (zenc B))) := fun ST e1 h1 h2 h3 => by
      subst e1
      have w := hret H locs LS pc ST S.1 S.2.1 S.2.2.1 h1 h2
      rw [zdc_self rfl, zds_self rfl, ← h3] at w
      exact w
    rw [zbody_eq] at h
    split at h
    · cases h
    · next i nn eq =>
      have hgh := C.2.2.2.2.2.1.2
      have hd := zins_ok hgh eq
      split at h
      · next hn =>
        split at h
        · cases Nat.eq_of_beq_eq_true hn
          split at h
          · next x =>
            split at h
            · next hr =>
              cases h
              refine fin _ rfl (fun v hv => by cases hv; exact S.2.2.2.2 (.inl x) List.mem_cons_self) ⟨hd, rfl, ?_⟩ rfl
              unfold zretI at hr
              split at hr
              · next q => exact Or.inl q
              · next q => exact Or.inr ⟨q, of_decide_eq_true hr⟩
              · cases hr
            · cases h
          · cases h
        · cases Nat.eq_of_beq_eq_true hn
          split at h
          · next x =>
            split at h
            · next hr =>
              cases h
              exact fin _ rfl (fun v hv => by cases hv; exact S.2.2.2.2 (.inr (.inl x)) List.mem_cons_self) ⟨hd, rfl, hr⟩ rfl
            · cases h
          · cases h
        · cases Nat.eq_of_beq_eq_true hn
          split at h
          · next a =>
            split at h
            · next hr =>
              cases h
              refine fin _ rfl (fun v hv => by cases hv; exact S.2.2.2.2 (.inr (.inr a)) List.mem_cons_self) ⟨hd, rfl, hr.2, ?_⟩ rfl
              have hr := hr.1
              unfold zretA at hr
              split at hr
              · next q => exact Or.inl ⟨_, q⟩
              · next q => exact Or.inr ⟨_, q⟩
              · cases hr
            · cases h
          · cases h
        · cases Nat.eq_of_beq_eq_true hn
          split at h
          · split at h
            · next hr =>
              cases h
              exact fin _ rfl (fun v hv => by cases hv) ⟨hd, rfl, hr⟩ rfl
            · cases h
          · cases h
        · next j =>
          cases Nat.eq_of_beq_eq_true hn
          split at h
          · next t nest q eql =>
            split at h
            · next ht =>
              split at h
              · next a r1 d1 =>
                split at h
                · next hcc =>
                  obtain ⟨ha0, hcat⟩ := hcc
                  have hl0 := zMl_ok (zcl k) (zgh_c hgh) _ (zlk_mem _ _ _ eql)
                  subst ht
                  have hl : (zhas q (.methodLink (zcn (zcl k)) j Lib.objectInit) && Nat.beq nest 0) = true := hl0
                  rw [Bool.and_eq_true] at hl
                  have hts := C.2.2.2.2.1
                  show W p l e R s m args below meth c H locs cells slots Q (F0 m pc LS (zrv B a :: r1.map (zenc B)))
                  rw [zrv_ref ha0]
                  refine W.objInit C.1 C.2.1 C.2.2.2.1 (hts _ (zhas_in hl.1)) (hts _ zx_oii) (hts _ zx_oic) (g := F0 m pc LS (.ref (zad B a) :: r1.map (zenc B))) rfl ((S.2.2.2.1.2.1).trans C.2.2.1.symm) rfl hd (by omega) (by
                    rw [zcat_sum]
                    show 2 * 0 + _ + 12 ≤ _
                    omega) ?_
                  have w := next (pc + 3) ls r1 M h (Int.le_refl _) H locs LS (S.to fun v hv => S.2.2.2.2 v (List.mem_cons_of_mem _ hv))
                  rw [zdc_self rfl, zds_self rfl] at w
                  exact w
                · cases h
              · cases h
            · split at h
              · next av r1 d1 erd =>
                split at h
                · next v M1 e1 =>
                  have n1 := zbody_nx _ _ _ _ _ _ _ _ _ e1
                  have n2 := zbody_nx _ _ _ _ _ _ _ _ _ h
                  exact zs_call (kind := 2) ih S C eql erd e1 n1 hfr hlo (room M1 n1 n2).1 (room M1 n1 n2).2 hd (fun H1 locs1 S1 => next _ _ _ M1 h n1 H1 locs1 LS S1)
                · cases h
              · cases h
          · cases h
        · next j =>
          cases Nat.eq_of_beq_eq_true hn
          split at h
          · next t nest q eql =>
            split at h
            · next ht =>
              split at h
              · next d1 pc1 ls1 st1 M1 e1 =>
                have hl0 := zMl_ok (zcl k) (zgh_c hgh) _ (zlk_mem _ _ _ eql)
                subst ht
                have hl : (zhas q (.methodLink (zcn (zcl k)) j arraycopyName) && Nat.beq nest 0) = true := hl0
                rw [Bool.and_eq_true] at hl
                have hnn := zacopy_nx e1
                refine zs_copy S C hd (zhas_in hl.1) e1 (by omega) (by omega) (fun H1 locs1 S1 _ => ?_)
                have w := next pc1 ls1 st1 M1 h (by rw [hnn]; exact Int.le_refl _) H1 locs1 LS S1
                rw [zdc_self hnn, zds_self hnn] at w
                exact w
              · cases h
            · split at h
              · next ht =>
                split at h
                · next d1 pc1 ls1 st1 M1 e1 =>
                  have hmm := zmm_M e1
                  subst hmm
                  refine zs_mm S C hd eql ht e1 (by omega) (by omega) (by omega) (by omega) (fun LS' S1 _ => ?_)
                  have w := next pc1 ls1 st1 M1 h (Int.le_refl _) H locs LS' S1
                  rw [zdc_self rfl, zds_self rfl] at w
                  exact w
                · cases h
              · split at h
                · next av r1 d1 erd =>
                  split at h
                  · next v M1 e1 =>
                    have n1 := zbody_nx _ _ _ _ _ _ _ _ _ e1
                    have n2 := zbody_nx _ _ _ _ _ _ _ _ _ h
                    exact zs_call (kind := 0) ih S C eql erd e1 n1 hfr hlo (room M1 n1 n2).1 (room M1 n1 n2).2 hd (fun H1 locs1 S1 => next _ _ _ M1 h n1 H1 locs1 LS S1)
                  · cases h
                · cases h
          · cases h
        · next j =>
          cases Nat.eq_of_beq_eq_true hn
          split at h
          · next t nest q eql =>
            split at h
            · next ht =>
              split at h
              · next pc1 ls1 st1 M1 e1 =>
                have hmm := zchar_M e1
                subst hmm
                subst ht
                refine zs_chr S C eql hd e1 hfr hlo (by omega) (by omega) (fun H1 locs1 S1 _ => ?_)
                have w := next pc1 ls1 st1 M1 h (Int.le_refl _) H1 locs1 LS S1
                rw [zdc_self rfl, zds_self rfl] at w
                exact w
              · cases h
            · split at h
              · next av r1 d1 erd =>
               split at h
               · next v M1 e1 =>
                have n1 := zbody_nx _ _ _ _ _ _ _ _ _ e1
                have n2 := zbody_nx _ _ _ _ _ _ _ _ _ h
                exact zs_call (kind := 1) ih S C eql erd e1 n1 hfr hlo (room M1 n1 n2).1 (room M1 n1 n2).2 hd (fun H1 locs1 S1 => next _ _ _ M1 h n1 H1 locs1 LS S1)
               · cases h
              · cases h
          · cases h
        · split at h
          · next pc1 ls1 st1 M1 e1 =>
            have n1 := zstep_nx e1
            have n2 := zbody_nx _ _ _ _ _ _ _ _ _ h
            exact zstep_sound S C hd hn e1 (room M1 n1 n2).1 (room M1 n1 n2).2 (fun H1 locs1 LS' S1 => next pc1 ls1 st1 M1 h n1 H1 locs1 LS' S1)
          · cases h
      · cases h
end
section
/-! ===== the small machine's runs, as statements about what comes of them ===== -/
theorem zbody_mono1 : ∀ (n d k pc : Nat) (ls : ZL) (st : ZS) (M : ZM) (x : Option ZV × ZM), zbody n d k pc ls st M = some x → zbody (n + 1) d k pc ls st M = some x
  | 0, _, _, _, _, _, _, _, h => by cases h
  | n + 1, d, k, pc, ls, st, M, x, h => by
    rw [zbody_eq] at h ⊢
    split at h
    · cases h
    · next i m eq =>
      (try rw [eq])
      (try dsimp only)
      split at h
      · next hl =>
        rw [if_pos hl]
        cases i
        case ireturn => exact h
        case lreturn => exact h
        case areturn => exact h
        case return_ => exact h
        case invokespecial j =>
          dsimp only at h ⊢
          split at h
          · next t nest q e1 =>
            (try rw [e1])
            (try dsimp only)
            split at h
            · next ht =>
              rw [if_pos ht]
              split at h
              · next a r1 d1 =>
                split at h
                · next hc => rw [if_pos hc]; exact zbody_mono1 n _ _ _ _ _ _ _ h
                · cases h
              · cases h
            · next ht =>
              rw [if_neg ht]
              split at h
              · next av r1 d1 e2 =>
                (try rw [e2])
                (try dsimp only)
                split at h
                · next v M1 e3 =>
                  rw [zbody_mono1 n _ _ _ _ _ _ _ e3]
                  exact zbody_mono1 n _ _ _ _ _ _ _ h
                · cases h
              · cases h
          · cases h
        case invokestatic j =>
          dsimp only at h ⊢
          split at h
          · next t nest q e1 =>
            (try rw [e1])
            (try dsimp only)
            split at h
            · next ht =>
              rw [if_pos ht]
              split at h
              · next d1 pc1 ls1 st1 M1 e2 =>
                (try rw [e2])
                exact zbody_mono1 n _ _ _ _ _ _ _ h
              · cases h
            · next ht =>
              rw [if_neg ht]
              split at h
              · next ht2 =>
                rw [if_pos ht2]
                split at h
                · next d1 pc1 ls1 st1 M1 e2 =>
                  (try rw [e2])
                  exact zbody_mono1 n _ _ _ _ _ _ _ h
                · cases h
              · next ht2 =>
                rw [if_neg ht2]
                split at h
                · next av r1 d1 e2 =>
                  (try rw [e2])
                  (try dsimp only)
                  split at h
                  · next v M1 e3 =>
                    rw [zbody_mono1 n _ _ _ _ _ _ _ e3]
                    exact zbody_mono1 n _ _ _ _ _ _ _ h
                  · cases h
                · cases h
          · cases h
        case invokevirtual j =>
          dsimp only at h ⊢
          split at h
          · next t nest q e1 =>
            (try rw [e1])
            (try dsimp only)
            split at h
            · next ht =>
              rw [if_pos ht]
              split at h
              · next pc1 ls1 st1 M1 e2 =>
                (try rw [e2])
                exact zbody_mono1 n _ _ _ _ _ _ _ h
              · cases h
            · next ht =>
              rw [if_neg ht]
              split at h
              · next av r1 d1 e2 =>
                (try rw [e2])
                (try dsimp only)
                split at h
                · next v M1 e3 =>
                  rw [zbody_mono1 n _ _ _ _ _ _ _ e3]
                  exact zbody_mono1 n _ _ _ _ _ _ _ h
                · cases h
              · cases h
          · cases h
        all_goals
          dsimp only at h ⊢
          split at h
          · next e1 =>
            (try rw [e1])
            exact zbody_mono1 n _ _ _ _ _ _ _ h
          · cases h
      · cases h
theorem zbody_mono {n m : Nat} (hnm : n ≤ m) {d k pc : Nat} {ls : ZL} {st : ZS} {M : ZM} {x : Option ZV × ZM} (h : zbody n d k pc ls st M = some x) : zbody m d k pc ls st M = some x := by
  induction m with
  | zero =>
    have : n = 0 := by omega
    subst this
    exact h
  | succ m ih =>
    by_cases q : n = m + 1
    · subst q; exact h
    · exact zbody_mono1 m _ _ _ _ _ _ _ (ih (by omega))
/-! ===== the cells' kinds, quick ===== -/
def zshN (n : Nat) : Nat × Int := bif Nat.blt n 269 then (bif Nat.blt n 134 then (bif Nat.blt n 67 then (bif Nat.blt n 33 then (bif Nat.blt n 16 then (bif Nat.blt n 8 then (bif Nat.blt n 4 then (bif Nat.blt n 2 then (bif Nat.blt n 1 then (21, 0) else (20, 18)) else (bif Nat.blt n 3 then (20, 3) else (18, 0))) else (bif Nat.blt n 6 then (bif Nat.blt n 5 then (12, 0) else (0, 180)) else (bif Nat.blt n 7 then (12, 0) else (0, 180)))) else (bif Nat.blt n 12 then (bif Nat.blt n 10 then (bif Nat.blt n 9 then (11, 0) else (4, 25)) else (bif Nat.blt n 11 then (10, 0) else (0, 63))) else (bif Nat.blt n 14 then (bif Nat.blt n 13 then (0, 3) else (0, 3)) else (bif Nat.blt n 15 then (10, 0) else (0, 63))))) else (bif Nat.blt n 24 then (bif Nat.blt n 20 then (bif Nat.blt n 18 then (bif Nat.blt n 17 then (0, 3) else (0, 3)) else (bif Nat.blt n 19 then (10, 0) else (0, 63))) else (bif Nat.blt n 22 then (bif Nat.blt n 21 then (0, 3) else (0, 3)) else (bif Nat.blt n 23 then (10, 0) else (0, 63)))) else (bif Nat.blt n 28 then (bif Nat.blt n 26 then (bif Nat.blt n 25 then (0, 3) else (0, 3)) else (bif Nat.blt n 27 then (10, 0) else (0, 63))) else (bif Nat.blt n 30 then (bif Nat.blt n 29 then (0, 3) else (0, 3)) else (bif Nat.blt n 31 then (10, 0) else (bif Nat.blt n 32 then (0, 63) else (0, 3))))))) else (bif Nat.blt n 50 then (bif Nat.blt n 41 then (bif Nat.blt n 37 then (bif Nat.blt n 35 then (bif Nat.blt n 34 then (0, 3) else (10, 0)) else (bif Nat.blt n 36 then (0, 63) else (0, 3))) else (bif Nat.blt n 39 then (bif Nat.blt n 38 then (0, 3) else (10, 0)) else (bif Nat.blt n 40 then (0, 63) else (0, 3)))) else (bif Nat.blt n 45 then (bif Nat.blt n 43 then (bif Nat.blt n 42 then (0, 3) else (10, 0)) else (bif Nat.blt n 44 then (0, 63) else (0, 3))) else (bif Nat.blt n 47 then (bif Nat.blt n 46 then (0, 3) else (10, 0)) else (bif Nat.blt n 48 then (0, 63) else (bif Nat.blt n 49 then (0, 3) else (0, 3)))))) else (bif Nat.blt n 58 then (bif Nat.blt n 54 then (bif Nat.blt n 52 then (bif Nat.blt n 51 then (10, 0) else (0, 63)) else (bif Nat.blt n 53 then (0, 3) else (0, 3))) else (bif Nat.blt n 56 then (bif Nat.blt n 55 then (10, 0) else (0, 63)) else (bif Nat.blt n 57 then (0, 3) else (0, 3)))) else (bif Nat.blt n 62 then (bif Nat.blt n 60 then (bif Nat.blt n 59 then (10, 0) else (0, 63)) else (bif Nat.blt n 61 then (0, 3) else (0, 3))) else (bif Nat.blt n 64 then (bif Nat.blt n 63 then (10, 0) else (0, 63)) else (bif Nat.blt n 65 then (0, 3) else (bif Nat.blt n 66 then (0, 3) else (10, 0)))))))) else (bif Nat.blt n 100 then (bif Nat.blt n 83 then (bif Nat.blt n 75 then (bif Nat.blt n 71 then (bif Nat.blt n 69 then (bif Nat.blt n 68 then (0, 63) else (0, 3)) else (bif Nat.blt n 70 then (0, 3) else (10, 0))) else (bif Nat.blt n 73 then (bif Nat.blt n 72 then (0, 63) else (0, 3)) else (bif Nat.blt n 74 then (0, 3) else (10, 0)))) else (bif Nat.blt n 79 then (bif Nat.blt n 77 then (bif Nat.blt n 76 then (0, 63) else (0, 3)) else (bif Nat.blt n 78 then (0, 3) else (10, 0))) else (bif Nat.blt n 81 then (bif Nat.blt n 80 then (0, 63) else (0, 3)) else (bif Nat.blt n 82 then (0, 3) else (10, 0))))) else (bif Nat.blt n 91 then (bif Nat.blt n 87 then (bif Nat.blt n 85 then (bif Nat.blt n 84 then (0, 63) else (0, 3)) else (bif Nat.blt n 86 then (0, 3) else (10, 0))) else (bif Nat.blt n 89 then (bif Nat.blt n 88 then (0, 63) else (0, 3)) else (bif Nat.blt n 90 then (0, 3) else (10, 0)))) else (bif Nat.blt n 95 then (bif Nat.blt n 93 then (bif Nat.blt n 92 then (0, 63) else (0, 3)) else (bif Nat.blt n 94 then (0, 3) else (10, 0))) else (bif Nat.blt n 97 then (bif Nat.blt n 96 then (0, 63) else (0, 3)) else (bif Nat.blt n 98 then (0, 3) else (bif Nat.blt n 99 then (10, 0) else (0, 63))))))) else (bif Nat.blt n 117 then (bif Nat.blt n 108 then (bif Nat.blt n 104 then (bif Nat.blt n 102 then (bif Nat.blt n 101 then (0, 3) else (0, 3)) else (bif Nat.blt n 103 then (10, 0) else (0, 63))) else (bif Nat.blt n 106 then (bif Nat.blt n 105 then (0, 3) else (0, 3)) else (bif Nat.blt n 107 then (10, 0) else (0, 63)))) else (bif Nat.blt n 112 then (bif Nat.blt n 110 then (bif Nat.blt n 109 then (0, 3) else (0, 3)) else (bif Nat.blt n 111 then (11, 0) else (4, 25))) else (bif Nat.blt n 114 then (bif Nat.blt n 113 then (10, 0) else (0, 63)) else (bif Nat.blt n 115 then (0, 3) else (bif Nat.blt n 116 then (0, 3) else (10, 0)))))) else (bif Nat.blt n 125 then (bif Nat.blt n 121 then (bif Nat.blt n 119 then (bif Nat.blt n 118 then (0, 63) else (0, 3)) else (bif Nat.blt n 120 then (0, 3) else (10, 0))) else (bif Nat.blt n 123 then (bif Nat.blt n 122 then (0, 63) else (0, 3)) else (bif Nat.blt n 124 then (0, 3) else (10, 0)))) else (bif Nat.blt n 129 then (bif Nat.blt n 127 then (bif Nat.blt n 126 then (0, 63) else (0, 3)) else (bif Nat.blt n 128 then (0, 3) else (10, 0))) else (bif Nat.blt n 131 then (bif Nat.blt n 130 then (0, 63) else (0, 3)) else (bif Nat.blt n 132 then (0, 3) else (bif Nat.blt n 133 then (10, 0) else (0, 63))))))))) else (bif Nat.blt n 201 then (bif Nat.blt n 167 then (bif Nat.blt n 150 then (bif Nat.blt n 142 then (bif Nat.blt n 138 then (bif Nat.blt n 136 then (bif Nat.blt n 135 then (0, 3) else (0, 3)) else (bif Nat.blt n 137 then (10, 0) else (0, 63))) else (bif Nat.blt n 140 then (bif Nat.blt n 139 then (0, 3) else (0, 3)) else (bif Nat.blt n 141 then (10, 0) else (0, 63)))) else (bif Nat.blt n 146 then (bif Nat.blt n 144 then (bif Nat.blt n 143 then (0, 3) else (0, 3)) else (bif Nat.blt n 145 then (10, 0) else (0, 63))) else (bif Nat.blt n 148 then (bif Nat.blt n 147 then (0, 3) else (0, 3)) else (bif Nat.blt n 149 then (10, 0) else (0, 63))))) else (bif Nat.blt n 158 then (bif Nat.blt n 154 then (bif Nat.blt n 152 then (bif Nat.blt n 151 then (0, 3) else (0, 3)) else (bif Nat.blt n 153 then (10, 0) else (0, 63))) else (bif Nat.blt n 156 then (bif Nat.blt n 155 then (0, 3) else (0, 3)) else (bif Nat.blt n 157 then (10, 0) else (0, 63)))) else (bif Nat.blt n 162 then (bif Nat.blt n 160 then (bif Nat.blt n 159 then (0, 3) else (0, 3)) else (bif Nat.blt n 161 then (10, 0) else (0, 63))) else (bif Nat.blt n 164 then (bif Nat.blt n 163 then (0, 3) else (0, 3)) else (bif Nat.blt n 165 then (10, 0) else (bif Nat.blt n 166 then (0, 63) else (0, 3))))))) else (bif Nat.blt n 184 then (bif Nat.blt n 175 then (bif Nat.blt n 171 then (bif Nat.blt n 169 then (bif Nat.blt n 168 then (0, 3) else (10, 0)) else (bif Nat.blt n 170 then (0, 63) else (0, 3))) else (bif Nat.blt n 173 then (bif Nat.blt n 172 then (0, 3) else (10, 0)) else (bif Nat.blt n 174 then (0, 63) else (0, 3)))) else (bif Nat.blt n 179 then (bif Nat.blt n 177 then (bif Nat.blt n 176 then (0, 3) else (10, 0)) else (bif Nat.blt n 178 then (0, 63) else (0, 3))) else (bif Nat.blt n 181 then (bif Nat.blt n 180 then (0, 3) else (10, 0)) else (bif Nat.blt n 182 then (0, 63) else (bif Nat.blt n 183 then (0, 3) else (0, 3)))))) else (bif Nat.blt n 192 then (bif Nat.blt n 188 then (bif Nat.blt n 186 then (bif Nat.blt n 185 then (10, 0) else (0, 63)) else (bif Nat.blt n 187 then (0, 3) else (0, 3))) else (bif Nat.blt n 190 then (bif Nat.blt n 189 then (10, 0) else (0, 63)) else (bif Nat.blt n 191 then (0, 3) else (0, 3)))) else (bif Nat.blt n 196 then (bif Nat.blt n 194 then (bif Nat.blt n 193 then (10, 0) else (0, 63)) else (bif Nat.blt n 195 then (0, 3) else (0, 3))) else (bif Nat.blt n 198 then (bif Nat.blt n 197 then (10, 0) else (0, 63)) else (bif Nat.blt n 199 then (0, 3) else (bif Nat.blt n 200 then (0, 3) else (10, 0)))))))) else (bif Nat.blt n 235 then (bif Nat.blt n 218 then (bif Nat.blt n 209 then (bif Nat.blt n 205 then (bif Nat.blt n 203 then (bif Nat.blt n 202 then (0, 63) else (0, 3)) else (bif Nat.blt n 204 then (0, 3) else (10, 0))) else (bif Nat.blt n 207 then (bif Nat.blt n 206 then (0, 63) else (0, 3)) else (bif Nat.blt n 208 then (0, 3) else (10, 0)))) else (bif Nat.blt n 213 then (bif Nat.blt n 211 then (bif Nat.blt n 210 then (0, 63) else (0, 3)) else (bif Nat.blt n 212 then (0, 3) else (15, 0))) else (bif Nat.blt n 215 then (bif Nat.blt n 214 then (0, 8) else (0, 8)) else (bif Nat.blt n 216 then (1, 320) else (bif Nat.blt n 217 then (17, 0) else (0, 250)))))) else (bif Nat.blt n 226 then (bif Nat.blt n 222 then (bif Nat.blt n 220 then (bif Nat.blt n 219 then (14, 0) else (0, 250)) else (bif Nat.blt n 221 then (0, 250) else (0, 250))) else (bif Nat.blt n 224 then (bif Nat.blt n 223 then (16, 0) else (99, 0)) else (bif Nat.blt n 225 then (0, 500) else (0, 500)))) else (bif Nat.blt n 230 then (bif Nat.blt n 228 then (bif Nat.blt n 227 then (0, 1000) else (0, 500)) else (bif Nat.blt n 229 then (0, 1000) else (0, 500))) else (bif Nat.blt n 232 then (bif Nat.blt n 231 then (3, 500) else (0, 500)) else (bif Nat.blt n 233 then (13, 0) else (bif Nat.blt n 234 then (0, 60) else (0, 5))))))) else (bif Nat.blt n 252 then (bif Nat.blt n 243 then (bif Nat.blt n 239 then (bif Nat.blt n 237 then (bif Nat.blt n 236 then (3, 1000) else (19, 0)) else (bif Nat.blt n 238 then (0, 8) else (0, 8))) else (bif Nat.blt n 241 then (bif Nat.blt n 240 then (0, 8) else (5, 8)) else (bif Nat.blt n 242 then (1, 40) else (1, 40)))) else (bif Nat.blt n 247 then (bif Nat.blt n 245 then (bif Nat.blt n 244 then (1, 40) else (1, 40)) else (bif Nat.blt n 246 then (1, 40) else (1, 40))) else (bif Nat.blt n 249 then (bif Nat.blt n 248 then (1, 40) else (1, 40)) else (bif Nat.blt n 250 then (1, 40) else (bif Nat.blt n 251 then (0, 8) else (0, 250)))))) else (bif Nat.blt n 260 then (bif Nat.blt n 256 then (bif Nat.blt n 254 then (bif Nat.blt n 253 then (0, 8) else (0, 180)) else (bif Nat.blt n 255 then (0, 24) else (0, 24))) else (bif Nat.blt n 258 then (bif Nat.blt n 257 then (0, 192) else (0, 180)) else (bif Nat.blt n 259 then (0, 24) else (0, 24)))) else (bif Nat.blt n 264 then (bif Nat.blt n 262 then (bif Nat.blt n 261 then (0, 192) else (2, 24000)) else (bif Nat.blt n 263 then (0, 24) else (0, 24))) else (bif Nat.blt n 266 then (bif Nat.blt n 265 then (0, 24) else (0, 1000)) else (bif Nat.blt n 267 then (0, 1000) else (bif Nat.blt n 268 then (0, 60) else (0, 8)))))))))) else (99, 0)
def zshF (a : Int) : Nat × Int := match a with
  | .ofNat n => zshN n
  | .negSucc _ => (99, 0)
theorem zshN_ok : ∀ n : Nat, n < 269 → zshN n = zsh (n : Int) := by decide +kernel
theorem zshL_len : zshL.length = 266 := by decide +kernel
theorem zshF_eq (a : Int) : zshF a = zsh a := by
  cases a with
  | ofNat n =>
    show zshN n = zsh (n : Int)
    by_cases h : n < 269
    · exact zshN_ok n h
    · unfold zshN zsh
      rw [show Nat.blt n 269 = false from by
        cases e : Nat.blt n 269 with
        | true => exact absurd (Nat.le_of_ble_eq_true e) (by omega)
        | false => rfl]
      rw [if_neg (by omega), List.getElem?_eq_none (by rw [zshL_len]; omega)]
      rfl
  | negSucc n =>
    show (99, 0) = zsh (Int.negSucc n)
    unfold zsh
    rw [if_pos (by omega), if_neg (by omega), if_neg (by omega), if_neg (by omega)]
/-! ===== fixed pointers and constants ===== -/
def zpL (l : List (Nat × Nat)) (j : Int) : Option Int := match j with
  | .ofNat n => (match zlk l n with | some p => some (p : Int) | none => none)
  | .negSucc _ => none
def zpR (n b w : Int) (j : Int) : Option Int := if 0 ≤ j ∧ j < n then some (b + w * j) else none
def zpK (l : List Int) (j : Int) : Option Int := match j with
  | .ofNat n => l[n]?
  | .negSucc _ => none
def zpC (n : Nat) (j : Int) : Option Int := match j with
  | .ofNat 8 => some (n + 1 : Nat)
  | .ofNat 10 => some (n + 2 : Nat)
  | .ofNat 11 => some (n + 3 : Nat)
  | _ => none
def zpS (n : Nat) (j : Int) : Option Int :=
  bif Nat.beq n 3 then zpL [(0, 4), (1, 6), (2, 8), (3, 110), (4, 212), (5, 216), (6, 218), (7, 222), (8, 232), (9, 234), (10, 235)] j else bif Nat.beq n 4 then zpL [(0, 5)] j else bif Nat.beq n 6 then zpL [(0, 7)] j else bif Nat.beq n 8 then zpL [(0, 9)] j else bif Nat.beq n 110 then zpL [(0, 111)] j else bif Nat.beq n 212 then zpL [(0, 213), (1, 214), (2, 215)] j else bif Nat.beq n 216 then zpL [(0, 217)] j else bif Nat.beq n 218 then zpL [(0, 219), (2, 220), (4, 221)] j else bif Nat.beq n 222 then zpL [(0, 224), (1, 225), (2, 226), (3, 227), (4, 228), (5, 229), (6, 230), (7, 231)] j else bif Nat.beq n 232 then zpL [(0, 233)] j else bif Nat.beq n 236 then zpL [(0, 237), (1, 238), (2, 239), (3, 240), (4, 249), (5, 250), (6, 251), (8, 252), (13, 253), (14, 254), (15, 255), (16, 256), (22, 257), (23, 258), (24, 259), (25, 260), (26, 261), (27, 262), (28, 263), (29, 264), (30, 265), (31, 266), (33, 267), (38, 268)] j else bif Nat.beq n 9 then zpR 25 10 4 j else bif Nat.beq n 111 then zpR 25 112 4 j else bif Nat.beq n 240 then zpR 8 241 1 j else bif Nat.beq n 1 then zpK [0, 1, 2, 0, 2, 1, 1, 0, 2, 1, 2, 0, 2, 0, 1, 2, 1, 0] j else bif Nat.beq n 2 then zpK [100, 10, 1] j else none
def zpb (n : Nat) : Bool := Nat.ble 4 (zshN n).1 && Nat.blt (zshN n).1 21
def zpvN (n : Nat) (j : Int) : Option Int := bif zpb n then (bif Nat.beq (zshN n).1 10 then zpC n j else zpS n j) else none
def zpv (a j : Int) : Option Int := match a with
  | .ofNat n => zpvN n j
  | .negSucc n => bif Nat.beq n 0 then zpL [(0, 236)] j else none
def znp' (a j : Int) : Bool := (zpv a j).isNone
def zok (M : ZM) : Prop := ∀ a j p, zpv a j = some p → M a j = p
abbrev ZN : Type := {M : ZM // zok M}
def zr (m : ZN) (a j : Int) : Int := m.1 a j
def zrd (m : ZN) (a j : Int) : Int := match zpv a j with
  | some p => p
  | none => zr m a j
theorem zrd_eq (m : ZN) (a j : Int) : zrd m a j = m.1 a j := by
  unfold zrd
  split
  · next p e => exact (m.2 a j p e).symm
  · rfl
/-- one place written -/
def zsn (m : ZN) (a j v : Int) : ZN := ⟨fun a' j' => if (a' = a ∧ j' = j) ∧ zpv a j = none then v else m.1 a' j', fun a' j' p h => by
  show (if (a' = a ∧ j' = j) ∧ zpv a j = none then v else m.1 a' j') = p
  rw [if_neg (fun q => by obtain ⟨⟨rfl, rfl⟩, q⟩ := q; rw [q] at h; cases h)]
  exact m.2 a' j' p h⟩
theorem zsn_val {m : ZN} {a j v : Int} (h : znp' a j = true) : (zsn m a j v).1 = zset m.1 a j v := by
  have h : zpv a j = none := Option.isNone_iff_eq_none.mp h
  funext a' j'
  show (if (a' = a ∧ j' = j) ∧ zpv a j = none then v else m.1 a' j') = if a' = a ∧ j' = j then v else m.1 a' j'
  by_cases q : a' = a ∧ j' = j
  · rw [if_pos ⟨q, h⟩, if_pos q]
  · rw [if_neg (fun z => q z.1), if_neg q]
/-- a whole cell written (a cell without pointers) -/
def zcc (m : ZN) (a : Int) (F : Int → Int) : ZN := ⟨fun a' j' => if a' = a ∧ zpv a j' = none then F j' else m.1 a' j', fun a' j' p h => by
  show (if a' = a ∧ zpv a j' = none then F j' else m.1 a' j') = p
  rw [if_neg (fun q => by obtain ⟨rfl, q⟩ := q; rw [q] at h; cases h)]
  exact m.2 a' j' p h⟩
theorem zN_ext {m m' : ZN} (h : ∀ a j, zr m a j = zr m' a j) : m = m' := Subtype.ext (funext fun a => funext fun j => h a j)
theorem zr_zsn (m : ZN) (a j v a' j' : Int) : zr (zsn m a j v) a' j' = if (a' = a ∧ j' = j) ∧ zpv a j = none then v else zr m a' j' := rfl
theorem zr_zcc (m : ZN) (a : Int) (F : Int → Int) (a' j' : Int) : zr (zcc m a F) a' j' = if a' = a ∧ zpv a j' = none then F j' else zr m a' j' := rfl
/-! ===== runs over such a memory ===== -/
def zwpN (d k pc : Nat) (ls : ZL) (st : ZS) (m : ZN) (P : Option ZV → ZN → Prop) : Prop := ∃ (n : Nat) (r : Option ZV) (m' : ZN), zbody n d k pc ls st m.1 = some (r, m'.1) ∧ P r m'
def zcI (d t : Nat) (args : ZS) (m : ZN) (K : Int → ZN → Prop) : Prop := ∃ (n : Nat) (x : Int) (m' : ZN), zbody n d t 0 (zentry t args) [] m.1 = some (some (zI x), m'.1) ∧ K x m'
def zcJ (d t : Nat) (args : ZS) (m : ZN) (K : Int → ZN → Prop) : Prop := ∃ (n : Nat) (x : Int) (m' : ZN), zbody n d t 0 (zentry t args) [] m.1 = some (some (zJ x), m'.1) ∧ K x m'
def zcA (d t : Nat) (args : ZS) (m : ZN) (K : Int → ZN → Prop) : Prop := ∃ (n : Nat) (x : Int) (m' : ZN), zbody n d t 0 (zentry t args) [] m.1 = some (some (zA x), m'.1) ∧ K x m'
def zcV (d t : Nat) (args : ZS) (m : ZN) (K : ZN → Prop) : Prop := ∃ (n : Nat) (m' : ZN), zbody n d t 0 (zentry t args) [] m.1 = some (none, m'.1) ∧ K m'
def zPI (K : Int → ZN → Prop) : Option ZV → ZN → Prop := fun v m => match v with
  | some (.inl x) => K x m
  | _ => False
def zPJ (K : Int → ZN → Prop) : Option ZV → ZN → Prop := fun v m => match v with
  | some (.inr (.inl x)) => K x m
  | _ => False
def zPA (K : Int → ZN → Prop) : Option ZV → ZN → Prop := fun v m => match v with
  | some (.inr (.inr x)) => K x m
  | _ => False
def zPV (K : ZN → Prop) : Option ZV → ZN → Prop := fun v m => match v with
  | none => K m
  | _ => False
theorem zcI_in {d t : Nat} {args : ZS} {m : ZN} {K : Int → ZN → Prop} (h : zwpN d t 0 (zentry t args) [] m (zPI K)) : zcI d t args m K := by
  obtain ⟨n, r, m', h1, h2⟩ := h
  match r, h1, h2 with
  | some (.inl x), h1, h2 => exact ⟨n, x, m', h1, h2⟩
  | none, _, h2 => exact h2.elim
  | some (.inr (.inl _)), _, h2 => exact h2.elim
  | some (.inr (.inr _)), _, h2 => exact h2.elim
theorem zcJ_in {d t : Nat} {args : ZS} {m : ZN} {K : Int → ZN → Prop} (h : zwpN d t 0 (zentry t args) [] m (zPJ K)) : zcJ d t args m K := by
  obtain ⟨n, r, m', h1, h2⟩ := h
  match r, h1, h2 with
  | some (.inr (.inl x)), h1, h2 => exact ⟨n, x, m', h1, h2⟩
  | none, _, h2 => exact h2.elim
  | some (.inl _), _, h2 => exact h2.elim
  | some (.inr (.inr _)), _, h2 => exact h2.elim
theorem zcA_in {d t : Nat} {args : ZS} {m : ZN} {K : Int → ZN → Prop} (h : zwpN d t 0 (zentry t args) [] m (zPA K)) : zcA d t args m K := by
  obtain ⟨n, r, m', h1, h2⟩ := h
  match r, h1, h2 with
  | some (.inr (.inr x)), h1, h2 => exact ⟨n, x, m', h1, h2⟩
  | none, _, h2 => exact h2.elim
  | some (.inl _), _, h2 => exact h2.elim
  | some (.inr (.inl _)), _, h2 => exact h2.elim
theorem zcV_in {d t : Nat} {args : ZS} {m : ZN} {K : ZN → Prop} (h : zwpN d t 0 (zentry t args) [] m (zPV K)) : zcV d t args m K := by
  obtain ⟨n, r, m', h1, h2⟩ := h
  match r, h1, h2 with
  | none, h1, h2 => exact ⟨n, m', h1, h2⟩
  | some (.inl _), _, h2 => exact h2.elim
  | some (.inr (.inl _)), _, h2 => exact h2.elim
  | some (.inr (.inr _)), _, h2 => exact h2.elim
theorem zbody_det {n1 n2 d k pc : Nat} {ls : ZL} {st : ZS} {M : ZM} {x y : Option ZV × ZM} (h1 : zbody n1 d k pc ls st M = some x) (h2 : zbody n2 d k pc ls st M = some y) : x = y := by
  have a := zbody_mono (Nat.le_max_left n1 n2) h1
  have b := zbody_mono (Nat.le_max_right n1 n2) h2
  exact Option.some.inj (a.symm.trans b)
theorem zcI_eq {d t : Nat} {args : ZS} {m m' : ZN} {r : Int} (h : zcI d t args m (fun v m1 => v = r ∧ m1 = m')) (K : Int → ZN → Prop) : zcI d t args m K = K r m' := by
  obtain ⟨n, x, m1, h1, rfl, rfl⟩ := h
  refine propext ⟨fun ⟨n2, y, m2, h3, h4⟩ => ?_, fun h4 => ⟨n, _, _, h1, h4⟩⟩
  have e := zbody_det h1 h3
  obtain ⟨e1, e2⟩ := Prod.mk.inj e
  cases e1
  rw [Subtype.ext e2]
  exact h4
theorem zcJ_eq {d t : Nat} {args : ZS} {m m' : ZN} {r : Int} (h : zcJ d t args m (fun v m1 => v = r ∧ m1 = m')) (K : Int → ZN → Prop) : zcJ d t args m K = K r m' := by
  obtain ⟨n, x, m1, h1, rfl, rfl⟩ := h
  refine propext ⟨fun ⟨n2, y, m2, h3, h4⟩ => ?_, fun h4 => ⟨n, _, _, h1, h4⟩⟩
  have e := zbody_det h1 h3
  obtain ⟨e1, e2⟩ := Prod.mk.inj e
  cases e1
  rw [Subtype.ext e2]
  exact h4
theorem zcA_eq {d t : Nat} {args : ZS} {m m' : ZN} {r : Int} (h : zcA d t args m (fun v m1 => v = r ∧ m1 = m')) (K : Int → ZN → Prop) : zcA d t args m K = K r m' := by
  obtain ⟨n, x, m1, h1, rfl, rfl⟩ := h
  refine propext ⟨fun ⟨n2, y, m2, h3, h4⟩ => ?_, fun h4 => ⟨n, _, _, h1, h4⟩⟩
  have e := zbody_det h1 h3
  obtain ⟨e1, e2⟩ := Prod.mk.inj e
  cases e1
  rw [Subtype.ext e2]
  exact h4
theorem zcV_eq {d t : Nat} {args : ZS} {m m' : ZN} (h : zcV d t args m (fun m1 => m1 = m')) (K : ZN → Prop) : zcV d t args m K = K m' := by
  obtain ⟨n, m1, h1, rfl⟩ := h
  refine propext ⟨fun ⟨n2, m2, h3, h4⟩ => ?_, fun h4 => ⟨n, _, h1, h4⟩⟩
  have e := zbody_det h1 h3
  obtain ⟨e1, e2⟩ := Prod.mk.inj e
  rw [Subtype.ext e2]
  exact h4
/-! ===== the evaluator: what must hold for a run from here to come to P ===== -/
def zck (c K : Prop) : Prop := c ∧ K
def zelem (l : List Nat) (n : Nat) : Bool := match l with
  | [] => false
  | x :: l => bif Nat.beq x n then true else zelem l n
def zpos (a : Int) : Bool := match a with
  | .ofNat _ => true
  | .negSucc _ => false
def zkO (a : Int) (c : Nat) : Bool := Nat.beq (zshF a).1 (10 + c) && decide ((zshF a).2 = 0)
def zkI (a : Int) : Bool := Nat.beq (zshF a).1 0 || Nat.beq (zshF a).1 20 || Nat.beq (zshF a).1 21
def zk0 (a : Int) : Bool := Nat.beq (zshF a).1 0
def zkJ (a : Int) : Bool := Nat.beq (zshF a).1 1
def zkB (a : Int) : Bool := Nat.beq (zshF a).1 2
def zkZ (a : Int) : Bool := Nat.beq (zshF a).1 3
def zkA (a : Int) : Bool := Nat.beq (zshF a).1 4 || Nat.beq (zshF a).1 5
def zkL (a : Int) : Bool := Nat.ble (zshF a).1 5 || Nat.beq (zshF a).1 21
def zln (m : ZN) (a : Int) : Int := match a with
  | .ofNat 0 => zr m 0 (-1)
  | _ => (zshF a).2
def zready1 (t : Nat) (st : ZS) : Option (Int × ZS × ZS) := bif Nat.beq (zkind t) 1 && Nat.ble (znp t + 1) st.length && Nat.ble (zcat (st.drop (znp t + 1))) 8 && Nat.ble (zslots (st.take (znp t + 1)).reverse).length (zmaxL t) && Nat.blt (zcl t) 10 then (match (st.take (znp t + 1)).reverse with
  | .inr (.inr a) :: args => some (a, args, st.drop (znp t + 1))
  | _ => none) else none
def zWret (d t : Nat) (args r : ZS) (m : ZN) (K : ZS → ZN → Prop) : Prop := match zret t with
  | none => zcV d t args m (fun m1 => K r m1)
  | some .int => zcI d t args m (fun x m1 => K (zI x :: r) m1)
  | some .boolean => zcI d t args m (fun x m1 => K (zI x :: r) m1)
  | some .long => zcJ d t args m (fun x m1 => K (zJ x :: r) m1)
  | some (.object _) => zcA d t args m (fun x m1 => K (zA x :: r) m1)
  | _ => False
def zjmp (pc : Nat) (off : Int) : Nat := ((pc : Int) + off).toNat
def zjok (pc : Nat) (off : Int) : Bool := zpos ((pc : Int) + off)
def zWbr (c : ClassFile.Cond) (x y : Int) (A B : Prop) : Prop := match c with
  | .eq => if x = y then A else B
  | .ne => if x = y then B else A
  | .lt => if x < y then A else B
  | .ge => if x < y then B else A
  | .gt => if y < x then A else B
  | .le => if y < x then B else A
def zWtab (x : Int) (D : Prop) (K : Int → Prop) : Int → List Int → Prop
  | _, [] => D
  | lo, o :: os => if x = lo then K o else zWtab x D K (lo + 1) os
def zWlk (x : Int) (D : Prop) (K : Int → Prop) : List (Int × Int) → Prop
  | [] => D
  | q :: l => if x = q.1 then K q.2 else zWlk x D K l
def zpure (i : Instr) : Bool := match i with
  | .iconst _ | .bipush _ | .sipush _ | .lconst _ | .ldc _ | .ldc_w _ | .ldc2_w _ | .iload _ | .iload_n _ | .lload _ | .lload_n _ | .istore _ | .istore_n _ | .lstore _ | .iinc .. | .iadd | .isub | .imul | .ineg | .iand | .ior | .ixor | .ishl | .ishr | .iushr | .lshl | .land | .lor | .lcmp | .i2l | .l2i | .i2b | .i2s | .dup | .pop | .dup_x1 | .dup2 => true
  | _ => false
def zWi (d k : Nat) (i : Instr) (pc : Nat) (ls : ZL) (st : ZS) (m : ZN) (P : Option ZV → ZN → Prop) (K : Nat → ZL → ZS → ZN → Prop) : Prop := match i with
  | .ireturn => (match st with
    | [.inl x] => (match zret k with
      | some .int => P (some (zI x)) m
      | some .boolean => zck (0 ≤ x ∧ x ≤ 1) (P (some (zI x)) m)
      | _ => False)
    | _ => False)
  | .lreturn => (match st with
    | [.inr (.inl x)] => (match zret k with
      | some .long => P (some (zJ x)) m
      | _ => False)
    | _ => False)
  | .areturn => (match st with
    | [.inr (.inr a)] => (bif zretA k && zpos a then P (some (zA a)) m else False)
    | _ => False)
  | .return_ => (match st with
    | [] => (match zret k with
      | none => P none m
      | _ => False)
    | _ => False)
  | .invokestatic j => (match zlk (zMl (zcl k)) j, d with
    | some (t, _, _), e + 1 => (bif Nat.beq t 1001 then (match st with
        | .inl n :: .inl q :: .inr (.inr a) :: .inl p :: .inr (.inr b) :: r => (bif Nat.ble (zshF a).1 2 && Nat.beq (zshF b).1 (zshF a).1 && Nat.ble (zcat r) 8 then zck ((0 ≤ n ∧ 0 ≤ q ∧ 0 ≤ p) ∧ p + n ≤ zln m b ∧ q + n ≤ zln m a) (K (pc + 3) ls r (zcc m a (fun j => if q ≤ j ∧ j < q + n then zr m b (p + (j - q)) else zr m a j))) else False)
        | _ => False)
      else bif Nat.beq t 1002 || Nat.beq t 1003 then (match st with
        | .inl y :: .inl x :: r => (bif Nat.ble (zcat r) 8 then (bif Nat.beq t 1002 then K (pc + 3) ls (zI (max x y) :: r) m else K (pc + 3) ls (zI (min x y) :: r) m) else False)
        | _ => False)
      else (match zready 0 t st with
        | some (args, r) => zWret e t args r m (K (pc + 3) ls)
        | none => False))
    | _, _ => False)
  | .invokevirtual j => (match zlk (zMl (zcl k)) j, d with
    | some (t, _, _), e + 1 => (bif Nat.beq t 1004 then (match st with
        | .inl i :: .inr (.inr a) :: r => (bif Nat.ble (zcat r) 8 then zck (4 ≤ e + 1 ∧ ((a = -2 ∧ 0 ≤ i ∧ i < 4) ∨ (a = -3 ∧ 0 ≤ i ∧ i < 2))) (K (pc + 3) ls (zI (zchr a i) :: r) m) else False)
        | _ => False) else match zready1 t st with
        | some (a, args, r) => (bif zkO a (zcl t) then zWret e t (zA a :: args) r m (K (pc + 3) ls) else False)
        | none => False)
    | _, _ => False)
  | .getfield j => (match zlk (zFl (zcl k)) j, st with
    | some (ci, f, _), .inr (.inr a) :: r => (bif zkO a ci then (match ztag (ztyX ci f) (zrd m a f) with
        | some v => K (pc + 3) ls (v :: r) m
        | none => False) else False)
    | _, _ => False)
  | .putfield j => (match zlk (zFl (zcl k)) j, st with
    | some (ci, f, _), .inl x :: .inr (.inr a) :: r => (bif zkO a ci && zfin k ci f && znp' a f then (match ztyX ci f with
        | .int => K (pc + 3) ls r (zsn m a f x)
        | .boolean => zck (0 ≤ x ∧ x ≤ 1) (K (pc + 3) ls r (zsn m a f x))
        | _ => False) else False)
    | _, _ => False)
  | .getstatic n => (match zlk (zSl (zcl k)) n with
    | some (w, _) => K (pc + 3) ls (zA (w : Int) :: st) m
    | none => False)
  | .iaload => (match st with
    | .inl i :: .inr (.inr a) :: r => (bif zkI a then zck (0 ≤ i ∧ i < zln m a) (K (pc + 1) ls (zI (zrd m a i) :: r) m) else False)
    | _ => False)
  | .baload => (match st with
    | .inl i :: .inr (.inr a) :: r => (bif zkB a || zkZ a then zck (0 ≤ i ∧ i < zln m a) (K (pc + 1) ls (zI (zrd m a i) :: r) m) else False)
    | _ => False)
  | .laload => (match st with
    | .inl i :: .inr (.inr a) :: r => (bif zkJ a then zck (0 ≤ i ∧ i < zln m a) (K (pc + 1) ls (zJ (zrd m a i) :: r) m) else False)
    | _ => False)
  | .aaload => (match st with
    | .inl i :: .inr (.inr a) :: r => (bif zkA a then zck (0 ≤ i ∧ i < zln m a) (K (pc + 1) ls (zA (zrd m a i) :: r) m) else False)
    | _ => False)
  | .iastore => (match st with
    | .inl x :: .inl i :: .inr (.inr a) :: r => (bif zk0 a then zck (0 ≤ i ∧ i < zln m a) (K (pc + 1) ls r (zsn m a i x)) else False)
    | _ => False)
  | .bastore => (match st with
    | .inl x :: .inl i :: .inr (.inr a) :: r => (bif zkB a then zck ((-128 ≤ x ∧ x ≤ 127) ∧ 0 ≤ i ∧ i < zln m a) (K (pc + 1) ls r (zsn m a i x)) else bif zkZ a then zck ((0 ≤ x ∧ x ≤ 1) ∧ 0 ≤ i ∧ i < zln m a) (K (pc + 1) ls r (zsn m a i x)) else False)
    | _ => False)
  | .lastore => (match st with
    | .inr (.inl x) :: .inl i :: .inr (.inr a) :: r => (bif zkJ a then zck (0 ≤ i ∧ i < zln m a) (K (pc + 1) ls r (zsn m a i x)) else False)
    | _ => False)
  | .arraylength => (match st with
    | .inr (.inr a) :: r => (bif zkL a then K (pc + 1) ls (zI (zln m a) :: r) m else False)
    | _ => False)
  | .idiv => (match st with
    | .inl y :: .inl x :: r => zck (¬ y = 0) (K (pc + 1) ls (zI (zb (Int.tdiv x y)) :: r) m)
    | _ => False)
  | .irem => (match st with
    | .inl y :: .inl x :: r => zck (¬ y = 0) (K (pc + 1) ls (zI (Int.tmod x y) :: r) m)
    | _ => False)
  | .aload n => (match zget ls n with
    | some (.inr (.inr x)) => (bif zpos x then K (pc + 2) ls (zA x :: st) m else False)
    | _ => False)
  | .aload_n n => (match zget ls n.val with
    | some (.inr (.inr x)) => (bif zpos x then K (pc + 1) ls (zA x :: st) m else False)
    | _ => False)
  | .astore n => (match st with
    | .inr (.inr x) :: r => (bif zpos x && Nat.blt n ls.length then K (pc + 2) (zput ls n (zA x)) r m else False)
    | _ => False)
  | .astore_n n => (match st with
    | .inr (.inr x) :: r => (bif zpos x && Nat.blt n.val ls.length then K (pc + 1) (zput ls n.val (zA x)) r m else False)
    | _ => False)
  | .goto off => (bif zjok pc off then K (zjmp pc off) ls st m else False)
  | .ifCond c off => (match st with
    | .inl x :: r => (bif zjok pc off then zWbr c x 0 (K (zjmp pc off) ls r m) (K (pc + 3) ls r m) else False)
    | _ => False)
  | .if_icmp c off => (match st with
    | .inl y :: .inl x :: r => (bif zjok pc off then zWbr c x y (K (zjmp pc off) ls r m) (K (pc + 3) ls r m) else False)
    | _ => False)
  | .tableswitch df lo hi offs => (match st with
    | .inl x :: r => (bif zjok pc df && offs.toList.all (zjok pc) && decide (hi - lo + 1 = (offs.toList.length : Int)) then zWtab x (K (zjmp pc df) ls r m) (fun o => K (zjmp pc o) ls r m) lo offs.toList else False)
    | _ => False)
  | .lookupswitch df ps => (match st with
    | .inl x :: r => (bif zjok pc df && ps.toList.all (fun q => zjok pc q.2) && (ps.toList.zip (ps.toList.drop 1)).all (fun (a, next) => a.1 < next.1) then zWlk x (K (zjmp pc df) ls r m) (fun o => K (zjmp pc o) ls r m) ps.toList else False)
    | _ => False)
  | i => (bif zpure i then (match zstep k i pc ls st m.1 with
    | some (pc', ls', st', _) => K pc' ls' st' m
    | none => False) else False)
def zX (cut : List Nat) : Nat → Nat → Nat → Nat → ZL → ZS → ZN → (Option ZV → ZN → Prop) → Prop
  | 0, d, k, pc, ls, st, m, P => zwpN d k pc ls st m P
  | n + 1, d, k, pc, ls, st, m, P => match zins k pc with
    | none => False
    | some (i, len) => (bif zlenOk i len then zWi d k i pc ls st m P (fun pc' ls' st' m' => bif zelem cut pc' then zwpN d k pc' ls' st' m' P else zX cut n d k pc' ls' st' m' P) else False)
end
section
/-! ===== the evaluator tells the truth ===== -/
theorem zcond_t {b : Bool} {A : Prop} (h : bif b then A else False) : b = true ∧ A := by
  cases b with
  | false => exact h.elim
  | true => exact ⟨rfl, h⟩
theorem zbeq {a b : Nat} (h : Nat.beq a b = true) : a = b := Nat.eq_of_beq_eq_true h
theorem zkO_ok {a : Int} {c : Nat} (h : zkO a c = true) : zsh a = (10 + c, 0) := by
  unfold zkO at h
  rw [Bool.and_eq_true] at h
  rw [← zshF_eq]
  exact Prod.ext (zbeq h.1) (of_decide_eq_true h.2)
theorem zkI_ok {a : Int} (h : zkI a = true) : (zsh a).1 = 0 ∨ (zsh a).1 = 20 ∨ (zsh a).1 = 21 := by
  unfold zkI at h
  rw [Bool.or_eq_true, Bool.or_eq_true] at h
  rw [← zshF_eq]
  rcases h with (h | h) | h
  · exact Or.inl (zbeq h)
  · exact Or.inr (Or.inl (zbeq h))
  · exact Or.inr (Or.inr (zbeq h))
theorem zk0_ok {a : Int} (h : zk0 a = true) : (zsh a).1 = 0 := by rw [← zshF_eq]; exact zbeq h
theorem zkJ_ok {a : Int} (h : zkJ a = true) : (zsh a).1 = 1 := by rw [← zshF_eq]; exact zbeq h
theorem zkB_ok {a : Int} (h : zkB a = true) : (zsh a).1 = 2 := by rw [← zshF_eq]; exact zbeq h
theorem zkZ_ok {a : Int} (h : zkZ a = true) : (zsh a).1 = 3 := by rw [← zshF_eq]; exact zbeq h
theorem zkA_ok {a : Int} (h : zkA a = true) : (zsh a).1 = 4 ∨ (zsh a).1 = 5 := by
  unfold zkA at h
  rw [Bool.or_eq_true] at h
  rw [← zshF_eq]
  exact h.imp zbeq zbeq
theorem zkL_ok {a : Int} (h : zkL a = true) : (zsh a).1 ≤ 5 ∨ (zsh a).1 = 21 := by
  unfold zkL at h
  rw [Bool.or_eq_true] at h
  rw [← zshF_eq]
  exact h.imp Nat.le_of_ble_eq_true zbeq
theorem zln_eq (m : ZN) (a : Int) : zln m a = zlen m.1 a := by
  unfold zlen
  cases a with
  | ofNat n =>
    cases n with
    | zero => rfl
    | succ n =>
      rw [if_neg (show ¬ Int.ofNat (n + 1) = 0 by intro q; cases q), ← zshF_eq]
      rfl
  | negSucc n =>
    rw [if_neg (show ¬ Int.negSucc n = 0 by intro q; cases q), ← zshF_eq]
    rfl
theorem znp_low {a : Int} (h : (zsh a).1 < 4) (j : Int) : znp' a j = true := by
  rw [← zshF_eq] at h
  cases a with
  | negSucc n => exact absurd (show (99 : Nat) < 4 from h) (by decide)
  | ofNat n =>
    have h : (zshN n).1 < 4 := h
    have e : zpb n = false := by
      unfold zpb
      rw [show Nat.ble 4 (zshN n).1 = false from by
        cases e : Nat.ble 4 (zshN n).1 with
        | true => exact absurd (Nat.le_of_ble_eq_true e) (by omega)
        | false => rfl]
      rfl
    show (zpvN n j).isNone = true
    unfold zpvN
    rw [e]
    rfl
theorem zpos_ok {a : Int} (h : zpos a = true) : 0 ≤ a := by
  cases a with
  | ofNat n => exact Int.natCast_nonneg n
  | negSucc n => cases h
theorem zhx (m : ZN) : 236 ≤ znx m.1 := by
  have h : m.1 (-1) 0 = 236 := m.2 (-1) 0 236 rfl
  show _ ≤ m.1 (-1) 0
  rw [h]
  decide
theorem zjok_ok {pc : Nat} {off : Int} (h : zjok pc off = true) : 0 ≤ (pc : Int) + off := zpos_ok h
theorem zmax_eq (x y : Int) : (if x < y then y else x) = max x y := by
  by_cases h : x < y
  · rw [if_pos h, Int.max_eq_right (by omega)]
  · rw [if_neg h, Int.max_eq_left (by omega)]
theorem zmin_eq (x y : Int) : (if y < x then y else x) = min x y := by
  by_cases h : y < x
  · rw [if_pos h, Int.min_eq_right (by omega)]
  · rw [if_neg h, Int.min_eq_left (by omega)]
theorem zcc_val {m : ZN} {a b p q n : Int} (h : (zsh a).1 < 4) : (zcc m a (fun j => if q ≤ j ∧ j < q + n then zr m b (p + (j - q)) else zr m a j)).1 = zcopy m.1 b p a q n := by
  funext a' j'
  have hz : zpv a j' = none := Option.isNone_iff_eq_none.mp (znp_low h j')
  show (if a' = a ∧ zpv a j' = none then (if q ≤ j' ∧ j' < q + n then zr m b (p + (j' - q)) else zr m a j') else m.1 a' j') = if a' = a ∧ q ≤ j' ∧ j' < q + n then m.1 b (p + (j' - q)) else m.1 a' j'
  by_cases e : a' = a
  · subst e
    rw [if_pos ⟨rfl, hz⟩]
    by_cases z : q ≤ j' ∧ j' < q + n
    · rw [if_pos z, if_pos ⟨rfl, z⟩]
      rfl
    · rw [if_neg z, if_neg (fun x => z x.2)]
      rfl
  · rw [if_neg (fun x => e x.1), if_neg (fun x => e x.1)]
theorem zpure_M {k pc pc' : Nat} {i : Instr} {ls ls' : ZL} {st st' : ZS} {M M' : ZM} (hp : zpure i = true) (h : zstep k i pc ls st M = some (pc', ls', st', M')) : M' = M := by
  cases i
  case ldc j => exact zkonS_M h
  case ldc_w j => exact zkon_M h
  case ldc2_w j => exact zkon_M h
  case iload j => exact zldI_M h
  case iload_n j => exact zldI_M h
  case lload j => exact zldJ_M h
  case lload_n j => exact zldJ_M h
  case istore j => exact zstI_M h
  case istore_n j => exact zstI_M h
  case lstore j => exact zstJ_M h
  case iadd => exact zbin_M h
  case isub => exact zbin_M h
  case imul => exact zbin_M h
  case iand => exact zbin_M h
  case ior => exact zbin_M h
  case ixor => exact zbin_M h
  case ishl => exact zbin_M h
  case ishr => exact zbin_M h
  case iushr => exact zbin_M h
  all_goals (try (cases hp; done))
  all_goals (simp only [zstep] at h)
  all_goals (repeat' split at h)
  all_goals first | (cases h; done) | (cases h; rfl)
section ZWOK
variable {d k pc pc' : Nat} {ls ls' : ZL} {st st' : ZS} {m m1 : ZN} {P : Option ZV → ZN → Prop} {i : Instr} {len : Nat}
theorem zbody_plain {n : Nat} {M : ZM} {zplain : Instr → Bool} (hz : zins k pc = some (i, len)) (hl : zlenOk i len = true) (hp : (match i with | .ireturn | .lreturn | .areturn | .return_ | .invokespecial _ | .invokestatic _ | .invokevirtual _ => false | _ => true) = true) : zbody (n + 1) d k pc ls st M = match zstep k i pc ls st M with | some (pc', ls', st', M') => zbody n d k pc' ls' st' M' | none => none := by
  rw [zbody_eq, hz]
  dsimp only
  rw [if_pos hl]
  cases i <;> first | rfl | cases hp
theorem zwpN_go (hz : zins k pc = some (i, len)) (hl : zlenOk i len = true) (hp : (match i with | .ireturn | .lreturn | .areturn | .return_ | .invokespecial _ | .invokestatic _ | .invokevirtual _ => false | _ => true) = true) (hs : zstep k i pc ls st m.1 = some (pc', ls', st', m1.1)) (h : zwpN d k pc' ls' st' m1 P) : zwpN d k pc ls st m P := by
  obtain ⟨n, r, m', h1, h2⟩ := h
  exact ⟨n + 1, r, m', by rw [zbody_plain (zplain := fun _ => true) hz hl hp, hs]; exact h1, h2⟩
theorem zwpN_call {t : Nat} {args r : ZS} (e : ∀ n, zbody (n + 1) (d + 1) k pc ls st m.1 = match zbody n d t 0 (zentry t args) [] m.1 with | some (v, M') => zbody n (d + 1) k (pc + 3) ls (v.toList ++ r) M' | none => none) (h : ∃ (n : Nat) (v : Option ZV) (m1 : ZN), zbody n d t 0 (zentry t args) [] m.1 = some (v, m1.1) ∧ zwpN (d + 1) k (pc + 3) ls (v.toList ++ r) m1 P) : zwpN (d + 1) k pc ls st m P := by
  obtain ⟨n, v, m1, h1, n2, r2, m2, h3, h4⟩ := h
  refine ⟨max n n2 + 1, r2, m2, ?_, h4⟩
  rw [e, zbody_mono (Nat.le_max_left n n2) h1]
  exact zbody_mono (Nat.le_max_right n n2) h3
theorem zWret_ok {t : Nat} {args r : ZS} {K : ZS → ZN → Prop} (h : zWret d t args r m K) (hK : ∀ st m, K st m → zwpN (d + 1) k (pc + 3) ls st m P) : ∃ (n : Nat) (v : Option ZV) (m1 : ZN), zbody n d t 0 (zentry t args) [] m.1 = some (v, m1.1) ∧ zwpN (d + 1) k (pc + 3) ls (v.toList ++ r) m1 P := by
  unfold zWret at h
  split at h
  · obtain ⟨n, m1, h1, h2⟩ := h
    exact ⟨n, none, m1, h1, hK _ _ h2⟩
  · obtain ⟨n, x, m1, h1, h2⟩ := h
    exact ⟨n, some (zI x), m1, h1, hK _ _ h2⟩
  · obtain ⟨n, x, m1, h1, h2⟩ := h
    exact ⟨n, some (zI x), m1, h1, hK _ _ h2⟩
  · obtain ⟨n, x, m1, h1, h2⟩ := h
    exact ⟨n, some (zJ x), m1, h1, hK _ _ h2⟩
  · obtain ⟨n, x, m1, h1, h2⟩ := h
    exact ⟨n, some (zA x), m1, h1, hK _ _ h2⟩
  · exact h.elim
theorem zready1_ok {t : Nat} {a : Int} {args r : ZS} (h : zready1 t st = some (a, args, r)) (ha : zkO a (zcl t) = true) : zready 1 t st = some (zA a :: args, r) := by
  unfold zready1 at h
  cases hb : (Nat.beq (zkind t) 1 && Nat.ble (znp t + 1) st.length && Nat.ble (zcat (st.drop (znp t + 1))) 8 && Nat.ble (zslots (st.take (znp t + 1)).reverse).length (zmaxL t) && Nat.blt (zcl t) 10) with
  | false => rw [hb] at h; cases h
  | true =>
    rw [hb] at h
    simp only [Bool.and_eq_true] at hb
    obtain ⟨⟨⟨⟨h1, h2⟩, h3⟩, h4⟩, h5⟩ := hb
    unfold zready
    rw [if_pos ⟨zbeq h1, by decide⟩]
    dsimp only
    rw [if_neg (show ¬ (1 : Nat) = 0 by decide), if_pos ⟨Nat.le_of_ble_eq_true h2, Nat.le_of_ble_eq_true h3, Nat.le_of_ble_eq_true h4⟩]
    dsimp only [cond] at h
    generalize (st.take (znp t + 1)).reverse = q at h
    split at h
    · cases h
      show (if _ then _ else _) = _
      rw [if_pos ⟨zkO_ok ha, Nat.lt_of_lt_of_le (Nat.lt_succ_self _) (Nat.le_of_ble_eq_true h5)⟩]
    · cases h
theorem zWtab_ok {x : Int} {D : Prop} {K : Int → Prop} : ∀ {lo : Int} {os : List Int}, zWtab x D K lo os → (x < lo ∨ lo + os.length ≤ x) ∧ D ∨ ∃ o, lo ≤ x ∧ x < lo + os.length ∧ os[(x - lo).toNat]? = some o ∧ K o
  | lo, [], h => Or.inl ⟨by simp; omega, h⟩
  | lo, o :: os, h => by
    unfold zWtab at h
    by_cases q : x = lo
    · rw [if_pos q] at h
      subst q
      refine Or.inr ⟨o, Int.le_refl _, by rw [List.length_cons]; omega, ?_, h⟩
      rw [Int.sub_self]
      rfl
    · rw [if_neg q] at h
      rcases zWtab_ok h with ⟨h1, h2⟩ | ⟨o', h1, h2, h3, h4⟩
      · refine Or.inl ⟨?_, h2⟩
        rw [List.length_cons]
        omega
      · refine Or.inr ⟨o', by omega, by rw [List.length_cons]; omega, ?_, h4⟩
        rw [show (x - lo).toNat = (x - (lo + 1)).toNat + 1 by omega, List.getElem?_cons_succ]
        exact h3
theorem zbr_ok {c : ClassFile.Cond} {off x y : Int} {r : ZS} {A B : Prop} (hz : zins k pc = some (i, len)) (hl : zlenOk i len = true) (hp : (match i with | .ireturn | .lreturn | .areturn | .return_ | .invokespecial _ | .invokestatic _ | .invokevirtual _ => false | _ => true) = true) (hs : ∀ M, zstep k i pc ls st M = zbr (zcmp c x y) pc off ls r M) (h0 : 0 ≤ (pc : Int) + off) (h : zWbr c x y A B) (hA : A → zwpN d k (zjmp pc off) ls r m P) (hB : B → zwpN d k (pc + 3) ls r m P) : zwpN d k pc ls st m P := by
  have key : (zcmp c x y = true ∧ A) ∨ (zcmp c x y = false ∧ B) := by
    cases c with
    | eq =>
      by_cases q : x = y
      · have h : (if x = y then A else B) := h
        rw [if_pos q] at h
        exact Or.inl ⟨decide_eq_true q, h⟩
      · have h : (if x = y then A else B) := h
        rw [if_neg q] at h
        exact Or.inr ⟨decide_eq_false q, h⟩
    | ne =>
      by_cases q : x = y
      · have h : (if x = y then B else A) := h
        rw [if_pos q] at h
        exact Or.inr ⟨by show (!decide (x = y)) = false; rw [decide_eq_true q]; rfl, h⟩
      · have h : (if x = y then B else A) := h
        rw [if_neg q] at h
        exact Or.inl ⟨by show (!decide (x = y)) = true; rw [decide_eq_false q]; rfl, h⟩
    | lt =>
      by_cases q : x < y
      · have h : (if x < y then A else B) := h
        rw [if_pos q] at h
        exact Or.inl ⟨decide_eq_true q, h⟩
      · have h : (if x < y then A else B) := h
        rw [if_neg q] at h
        exact Or.inr ⟨decide_eq_false q, h⟩
    | ge =>
      by_cases q : x < y
      · have h : (if x < y then B else A) := h
        rw [if_pos q] at h
        exact Or.inr ⟨by show (!decide (x < y)) = false; rw [decide_eq_true q]; rfl, h⟩
      · have h : (if x < y then B else A) := h
        rw [if_neg q] at h
        exact Or.inl ⟨by show (!decide (x < y)) = true; rw [decide_eq_false q]; rfl, h⟩
    | gt =>
      by_cases q : y < x
      · have h : (if y < x then A else B) := h
        rw [if_pos q] at h
        exact Or.inl ⟨decide_eq_true q, h⟩
      · have h : (if y < x then A else B) := h
        rw [if_neg q] at h
        exact Or.inr ⟨decide_eq_false q, h⟩
    | le =>
      by_cases q : y < x
      · have h : (if y < x then B else A) := h
        rw [if_pos q] at h
        exact Or.inr ⟨decide_eq_false (by omega), h⟩
      · have h : (if y < x then B else A) := h
        rw [if_neg q] at h
        exact Or.inl ⟨decide_eq_true (by omega), h⟩
  rcases key with ⟨e, h⟩ | ⟨e, h⟩
  · refine zwpN_go (m1 := m) hz hl hp ?_ (hA h)
    rw [hs]
    unfold zbr
    rw [if_pos h0, if_pos e]
    rfl
  · refine zwpN_go (m1 := m) hz hl hp ?_ (hB h)
    rw [hs]
    unfold zbr
    rw [if_pos h0, if_neg (by rw [e]; decide)]
theorem zWlk_ok {x df : Int} {D : Prop} {K : Int → Prop} : ∀ {l : List (Int × Int)}, zjok pc df = true → l.all (fun q => zjok pc q.2) = true → zWlk x D K l → (D → K df) → ∃ o, Op.lookupswitch.offset l df x = o ∧ zjok pc o = true ∧ K o
  | [], h1, _, h, hd => ⟨df, rfl, h1, hd h⟩
  | (a, o) :: l, h1, h2, h, hd => by
    rw [List.all_cons, Bool.and_eq_true] at h2
    unfold zWlk at h
    rw [Op.lookupswitch.offset_cons]
    by_cases q : x = a
    · rw [if_pos q] at h
      exact ⟨o, if_pos q.symm, h2.1, h⟩
    · rw [if_neg q] at h
      obtain ⟨o', z1, z2, z3⟩ := zWlk_ok h1 h2.2 h hd
      exact ⟨o', by rw [if_neg (fun e => q e.symm)]; exact z1, z2, z3⟩
theorem zWi_ok {K : Nat → ZL → ZS → ZN → Prop} (hz : zins k pc = some (i, len)) (hl : zlenOk i len = true) (hK : ∀ pc ls st m, K pc ls st m → zwpN d k pc ls st m P) (h : zWi d k i pc ls st m P K) : zwpN d k pc ls st m P := by
  have dflt : (bif zpure i then (match zstep k i pc ls st m.1 with | some (pc', ls', st', _) => K pc' ls' st' m | none => False) else False) → zwpN d k pc ls st m P := fun h => by
    obtain ⟨hp, h⟩ := zcond_t h
    split at h
    · next pc' ls' st' M' e =>
      have eM := zpure_M hp e
      subst eM
      exact zwpN_go hz hl (by cases i <;> first | rfl | cases hp) e (hK _ _ _ _ h)
    · exact h.elim
  cases i
  case ireturn =>
    dsimp only [zWi] at h
    split at h
    · next x =>
      split at h
      · next hr => exact ⟨1, _, m, by rw [zbody_eq, hz]; dsimp only; rw [if_pos hl, if_pos (show zretI k x = true by unfold zretI; rw [hr])], h⟩
      · next hr => exact ⟨1, _, m, by rw [zbody_eq, hz]; dsimp only; rw [if_pos hl, if_pos (show zretI k x = true by unfold zretI; rw [hr]; exact decide_eq_true h.1)], h.2⟩
      · exact h.elim
    · exact h.elim
  case lreturn =>
    dsimp only [zWi] at h
    split at h
    · next x =>
      split at h
      · next hr => exact ⟨1, _, m, by rw [zbody_eq, hz]; dsimp only; rw [if_pos hl, if_pos hr], h⟩
      · exact h.elim
    · exact h.elim
  case areturn =>
    dsimp only [zWi] at h
    split at h
    · next a =>
      obtain ⟨h1, h2⟩ := zcond_t h
      rw [Bool.and_eq_true] at h1
      exact ⟨1, _, m, by rw [zbody_eq, hz]; dsimp only; rw [if_pos hl, if_pos ⟨h1.1, zpos_ok h1.2⟩], h2⟩
    · exact h.elim
  case return_ =>
    dsimp only [zWi] at h
    split at h
    · split at h
      · next hr => exact ⟨1, _, m, by rw [zbody_eq, hz]; dsimp only; rw [if_pos hl, if_pos hr], h⟩
      · exact h.elim
    · exact h.elim
  case invokestatic j =>
    dsimp only [zWi] at h
    split at h
    · next t nest q e elk =>
      cases hb : Nat.beq t 1001 with
      | true =>
        rw [hb] at h
        dsimp only [cond] at h
        have ht := zbeq hb
        split at h
        · next n q a p b r =>
          obtain ⟨h1, h2, h3⟩ := zcond_t h
          simp only [Bool.and_eq_true] at h1
          obtain ⟨⟨h4, h5⟩, h6⟩ := h1
          have h4 := Nat.le_of_ble_eq_true h4
          have h5 := zbeq h5
          rw [zshF_eq] at h4 h5
          rw [zshF_eq] at h5
          rw [zln_eq, zln_eq] at h2
          have hlen : ∀ x : Int, (zsh x).1 ≤ 2 → zlen m.1 x = (zsh x).2 := fun x hx => by
            unfold zlen
            rw [if_neg]
            rintro rfl
            exact absurd hx (by decide)
          rw [hlen a h4, hlen b (by omega)] at h2
          obtain ⟨n1, r1, m', h7, h8⟩ := hK _ _ _ _ h3
          rw [zcc_val (by omega)] at h7
          refine ⟨n1 + 1, r1, m', ?_, h8⟩
          rw [zbody_eq, hz]
          dsimp only
          rw [if_pos hl, elk]
          dsimp only
          rw [if_pos ht]
          have hx : zacopy (pc + 3) ls (.inl n :: .inl q :: .inr (.inr a) :: .inl p :: .inr (.inr b) :: r) m.1 = some (pc + 3, ls, r, zcopy m.1 b p a q n) := by
            unfold zacopy
            dsimp only
            rw [if_pos ⟨h4, h5, h2.1.1, h2.1.2.1, h2.1.2.2, h2.2.1, h2.2.2, Nat.le_of_ble_eq_true h6, zhx m⟩]
          rw [hx]
          exact h7
        · exact h.elim
      | false =>
        rw [hb] at h
        dsimp only [cond] at h
        have ht : t ≠ 1001 := fun q => by rw [q] at hb; cases hb
        cases hb2 : (Nat.beq t 1002 || Nat.beq t 1003) with
        | true =>
          rw [hb2] at h
          dsimp only [cond] at h
          rw [Bool.or_eq_true] at hb2
          have ht2 : t = 1002 ∨ t = 1003 := hb2.imp zbeq zbeq
          split at h
          · next y x r =>
            obtain ⟨h1, h2⟩ := zcond_t h
            have h1 := Nat.le_of_ble_eq_true h1
            have hx : ∃ v, zmm t (pc + 3) ls (.inl y :: .inl x :: r) m.1 = some (pc + 3, ls, zI v :: r, m.1) ∧ K (pc + 3) ls (zI v :: r) m := by
              unfold zmm
              dsimp only
              rw [if_pos h1]
              rcases ht2 with rfl | rfl
              · exact ⟨_, rfl, by rw [if_pos rfl, zmax_eq]; exact h2⟩
              · exact ⟨_, rfl, by rw [if_neg (by decide), zmin_eq]; exact h2⟩
            obtain ⟨v, hx, h3⟩ := hx
            obtain ⟨n1, r1, m', h7, h8⟩ := hK _ _ _ _ h3
            refine ⟨n1 + 1, r1, m', ?_, h8⟩
            rw [zbody_eq, hz]
            dsimp only
            rw [if_pos hl, elk]
            dsimp only
            rw [if_neg ht, if_pos ht2, hx]
            exact h7
          · exact h.elim
        | false =>
          rw [hb2] at h
          dsimp only [cond] at h
          have ht2 : ¬ (t = 1002 ∨ t = 1003) := fun q => by rcases q with rfl | rfl <;> cases hb2
          split at h
          · next args r e2 =>
            refine zwpN_call (r := r) (fun n => ?_) (zWret_ok h (fun st m h => hK _ _ _ _ h))
            rw [zbody_eq, hz]
            dsimp only
            rw [if_pos hl, elk]
            dsimp only
            rw [if_neg ht, if_neg ht2, e2]
            rfl
          · exact h.elim
    · exact h.elim
  case invokevirtual j =>
    dsimp only [zWi] at h
    split at h
    · next t nest q e elk =>
      cases hb : Nat.beq t 1004 with
      | true =>
        rw [hb] at h
        dsimp only [cond] at h
        split at h
        · next i a r =>
          obtain ⟨h1, ⟨h3, h4⟩, h5⟩ := zcond_t h
          obtain ⟨n1, r1, m', h7, h8⟩ := hK _ _ _ _ h5
          refine ⟨n1 + 1, r1, m', ?_, h8⟩
          have hc : zchar (e + 1) (pc + 3) ls (.inl i :: .inr (.inr a) :: r) m.1 = some (pc + 3, ls, zI (zchr a i) :: r, m.1) := by
            unfold zchar
            dsimp only
            rw [if_pos ⟨h3, Nat.le_of_ble_eq_true h1, h4⟩]
          rw [zbody_eq, hz]
          dsimp only
          rw [if_pos hl, elk]
          dsimp only
          rw [if_pos (zbeq hb), hc]
          exact h7
        · exact h.elim
      | false =>
        rw [hb] at h
        dsimp only [cond] at h
        have ht : t ≠ 1004 := fun q => by rw [q] at hb; cases hb
        split at h
        · next a args r e2 =>
          obtain ⟨h1, h2⟩ := zcond_t h
          refine zwpN_call (r := r) (fun n => ?_) (zWret_ok h2 (fun st m h => hK _ _ _ _ h))
          rw [zbody_eq, hz]
          dsimp only
          rw [if_pos hl, elk]
          dsimp only
          rw [if_neg ht, zready1_ok e2 h1]
          rfl
        · exact h.elim
    · exact h.elim
  case getfield j =>
    dsimp only [zWi] at h
    split at h
    · next ci f q a r elk =>
      obtain ⟨h1, h2⟩ := zcond_t h
      split at h2
      · next v ev =>
        rw [zrd_eq] at ev
        refine zwpN_go (m1 := m) hz hl rfl ?_ (hK _ _ _ _ h2)
        show zgetf (zlk (zFl (zcl k)) j) (pc + 3) ls _ m.1 = _
        rw [elk]
        unfold zgetf
        dsimp only
        rw [if_pos (zkO_ok h1), ev]
      · exact h2.elim
    · exact h.elim
  case putfield j =>
    dsimp only [zWi] at h
    split at h
    · next ci f q x a r elk =>
      obtain ⟨h1, h2⟩ := zcond_t h
      rw [Bool.and_eq_true, Bool.and_eq_true] at h1
      obtain ⟨⟨h3, h4⟩, h5⟩ := h1
      have hgo : zfit (ztyX ci f) (.inl x) = some x → zwpN d k (pc + 3) ls r (zsn m a f x) P → zwpN d k pc ls (.inl x :: .inr (.inr a) :: r) m P := fun ev h6 => by
        refine zwpN_go (m1 := zsn m a f x) hz hl rfl ?_ h6
        show zputf k (zlk (zFl (zcl k)) j) (pc + 3) ls _ m.1 = _
        rw [elk, zsn_val h5]
        unfold zputf
        dsimp only
        rw [if_pos ⟨zkO_ok h3, h4⟩, ev]
      split at h2
      · next hty => exact hgo (by rw [hty]; rfl) (hK _ _ _ _ h2)
      · next hty => exact hgo (by rw [hty]; show (if 0 ≤ x ∧ x ≤ 1 then some x else none) = _; rw [if_pos h2.1]) (hK _ _ _ _ h2.2)
      · exact h2.elim
    · exact h.elim
  case getstatic n =>
    dsimp only [zWi] at h
    split at h
    · next w q elk =>
      refine zwpN_go (m1 := m) hz hl rfl ?_ (hK _ _ _ _ h)
      simp only [zstep, elk]
    · exact h.elim
  case iaload =>
    dsimp only [zWi] at h
    split at h
    · next i a r =>
      obtain ⟨h1, h2, h3⟩ := zcond_t h
      rw [zrd_eq] at h3
      rw [zln_eq] at h2
      refine zwpN_go (m1 := m) hz hl rfl ?_ (hK _ _ _ _ h3)
      show zaldI (pc + 1) ls (.inl i :: .inr (.inr a) :: r) m.1 = _
      unfold zaldI
      dsimp only
      rw [if_pos ⟨zkI_ok h1, h2⟩]
    · exact h.elim
  case baload =>
    dsimp only [zWi] at h
    split at h
    · next i a r =>
      obtain ⟨h1, h2, h3⟩ := zcond_t h
      rw [zrd_eq] at h3
      rw [zln_eq] at h2
      rw [Bool.or_eq_true] at h1
      refine zwpN_go (m1 := m) hz hl rfl ?_ (hK _ _ _ _ h3)
      show zaldB (pc + 1) ls (.inl i :: .inr (.inr a) :: r) m.1 = _
      unfold zaldB
      dsimp only
      rw [if_pos ⟨h1.imp zkB_ok zkZ_ok, h2⟩]
    · exact h.elim
  case laload =>
    dsimp only [zWi] at h
    split at h
    · next i a r =>
      obtain ⟨h1, h2, h3⟩ := zcond_t h
      rw [zrd_eq] at h3
      rw [zln_eq] at h2
      refine zwpN_go (m1 := m) hz hl rfl ?_ (hK _ _ _ _ h3)
      show zaldJ (pc + 1) ls (.inl i :: .inr (.inr a) :: r) m.1 = _
      unfold zaldJ
      dsimp only
      rw [if_pos ⟨zkJ_ok h1, h2⟩]
    · exact h.elim
  case aaload =>
    dsimp only [zWi] at h
    split at h
    · next i a r =>
      obtain ⟨h1, h2, h3⟩ := zcond_t h
      rw [zrd_eq] at h3
      rw [zln_eq] at h2
      refine zwpN_go (m1 := m) hz hl rfl ?_ (hK _ _ _ _ h3)
      show zaldA (pc + 1) ls (.inl i :: .inr (.inr a) :: r) m.1 = _
      unfold zaldA
      dsimp only
      rw [if_pos ⟨zkA_ok h1, h2⟩]
    · exact h.elim
  case iastore =>
    dsimp only [zWi] at h
    split at h
    · next x i a r =>
      obtain ⟨h1, h2, h3⟩ := zcond_t h
      rw [zln_eq] at h2
      have h1 := zk0_ok h1
      refine zwpN_go (m1 := zsn m a i x) hz hl rfl ?_ (hK _ _ _ _ h3)
      show zastI (pc + 1) ls (.inl x :: .inl i :: .inr (.inr a) :: r) m.1 = _
      rw [zsn_val (znp_low (by omega) _)]
      unfold zastI
      dsimp only
      rw [if_pos ⟨h1, h2⟩]
    · exact h.elim
  case bastore =>
    dsimp only [zWi] at h
    split at h
    · next x i a r =>
      have hgo : (((zsh a).1 = 2 ∧ -128 ≤ x ∧ x ≤ 127) ∨ ((zsh a).1 = 3 ∧ 0 ≤ x ∧ x ≤ 1)) → (0 ≤ i ∧ i < zln m a) → K (pc + 1) ls r (zsn m a i x) → zwpN d k pc ls (.inl x :: .inl i :: .inr (.inr a) :: r) m P := fun h1 h2 h3 => by
        rw [zln_eq] at h2
        refine zwpN_go (m1 := zsn m a i x) hz hl rfl ?_ (hK _ _ _ _ h3)
        show zastB (pc + 1) ls (.inl x :: .inl i :: .inr (.inr a) :: r) m.1 = _
        rw [zsn_val (znp_low (by omega) _)]
        unfold zastB
        dsimp only
        rw [if_pos ⟨h1, h2⟩]
      cases hb : zkB a with
      | true =>
        rw [hb] at h
        obtain ⟨h2, h3⟩ := h
        exact hgo (Or.inl ⟨zkB_ok hb, h2.1⟩) h2.2 h3
      | false =>
        rw [hb] at h
        obtain ⟨h1, h2, h3⟩ := zcond_t h
        exact hgo (Or.inr ⟨zkZ_ok h1, h2.1⟩) h2.2 h3
    · exact h.elim
  case lastore =>
    dsimp only [zWi] at h
    split at h
    · next x i a r =>
      obtain ⟨h1, h2, h3⟩ := zcond_t h
      rw [zln_eq] at h2
      have h1 := zkJ_ok h1
      refine zwpN_go (m1 := zsn m a i x) hz hl rfl ?_ (hK _ _ _ _ h3)
      show zastJ (pc + 1) ls (.inr (.inl x) :: .inl i :: .inr (.inr a) :: r) m.1 = _
      rw [zsn_val (znp_low (by omega) _)]
      unfold zastJ
      dsimp only
      rw [if_pos ⟨h1, h2⟩]
    · exact h.elim
  case arraylength =>
    dsimp only [zWi] at h
    split at h
    · next a r =>
      obtain ⟨h1, h3⟩ := zcond_t h
      rw [zln_eq] at h3
      refine zwpN_go (m1 := m) hz hl rfl ?_ (hK _ _ _ _ h3)
      show zalen (pc + 1) ls (.inr (.inr a) :: r) m.1 = _
      unfold zalen
      dsimp only
      rw [if_pos (zkL_ok h1)]
    · exact h.elim
  case idiv =>
    dsimp only [zWi] at h
    split at h
    · next y x r =>
      refine zwpN_go (m1 := m) hz hl rfl ?_ (hK _ _ _ _ h.2)
      simp only [zstep, if_neg h.1]
    · exact h.elim
  case irem =>
    dsimp only [zWi] at h
    split at h
    · next y x r =>
      refine zwpN_go (m1 := m) hz hl rfl ?_ (hK _ _ _ _ h.2)
      simp only [zstep, if_neg h.1]
    · exact h.elim
  case aload n =>
    dsimp only [zWi] at h
    split at h
    · next x e =>
      obtain ⟨h1, h2⟩ := zcond_t h
      refine zwpN_go (m1 := m) hz hl rfl ?_ (hK _ _ _ _ h2)
      simp only [zstep, e, zldA, if_pos (zpos_ok h1)]
    · exact h.elim
  case aload_n n =>
    dsimp only [zWi] at h
    split at h
    · next x e =>
      obtain ⟨h1, h2⟩ := zcond_t h
      refine zwpN_go (m1 := m) hz hl rfl ?_ (hK _ _ _ _ h2)
      simp only [zstep, e, zldA, if_pos (zpos_ok h1)]
    · exact h.elim
  case astore n =>
    dsimp only [zWi] at h
    split at h
    · next x r =>
      obtain ⟨h1, h2⟩ := zcond_t h
      rw [Bool.and_eq_true] at h1
      refine zwpN_go (m1 := m) hz hl rfl ?_ (hK _ _ _ _ h2)
      show zstA n (pc + 2) ls (.inr (.inr x) :: r) m.1 = _
      unfold zstA
      dsimp only
      rw [if_pos ⟨zpos_ok h1.1, Nat.le_of_ble_eq_true h1.2⟩]
    · exact h.elim
  case astore_n n =>
    dsimp only [zWi] at h
    split at h
    · next x r =>
      obtain ⟨h1, h2⟩ := zcond_t h
      rw [Bool.and_eq_true] at h1
      refine zwpN_go (m1 := m) hz hl rfl ?_ (hK _ _ _ _ h2)
      show zstA n.val (pc + 1) ls (.inr (.inr x) :: r) m.1 = _
      unfold zstA
      dsimp only
      rw [if_pos ⟨zpos_ok h1.1, Nat.le_of_ble_eq_true h1.2⟩]
    · exact h.elim
  case goto off =>
    dsimp only [zWi] at h
    obtain ⟨h1, h2⟩ := zcond_t h
    refine zwpN_go (m1 := m) hz hl rfl ?_ (hK _ _ _ _ h2)
    show zjump pc off ls st m.1 = _
    unfold zjump
    rw [if_pos (zjok_ok h1)]
    rfl
  case ifCond c off =>
    dsimp only [zWi] at h
    split at h
    · next x r =>
      obtain ⟨h1, h2⟩ := zcond_t h
      exact zbr_ok hz hl rfl (fun M => rfl) (zjok_ok h1) h2 (hK _ _ _ _) (hK _ _ _ _)
    · exact h.elim
  case if_icmp c off =>
    dsimp only [zWi] at h
    split at h
    · next y x r =>
      obtain ⟨h1, h2⟩ := zcond_t h
      exact zbr_ok hz hl rfl (fun M => rfl) (zjok_ok h1) h2 (hK _ _ _ _) (hK _ _ _ _)
    · exact h.elim
  case tableswitch df lo hi offs =>
    dsimp only [zWi] at h
    split at h
    · next x r =>
      obtain ⟨h1, h2⟩ := zcond_t h
      rw [Bool.and_eq_true, Bool.and_eq_true] at h1
      obtain ⟨⟨h3, h4⟩, h5⟩ := h1
      have h5 := of_decide_eq_true h5
      rcases zWtab_ok h2 with ⟨q1, q2⟩ | ⟨o, q1, q2, q3, q4⟩
      · refine zwpN_go (m1 := m) hz hl rfl ?_ (hK _ _ _ _ q2)
        simp only [zstep]
        rw [if_pos (by omega)]
        unfold zjump
        rw [if_pos (zjok_ok h3)]
        rfl
      · refine zwpN_go (m1 := m) hz hl rfl ?_ (hK _ _ _ _ q4)
        simp only [zstep]
        rw [if_neg (by omega), ← Array.getElem?_toList, q3]
        dsimp only
        unfold zjump
        rw [if_pos (zjok_ok (List.all_eq_true.mp h4 o (List.mem_of_getElem? q3)))]
        rfl
    · exact h.elim
  case lookupswitch df ps =>
    dsimp only [zWi] at h
    split at h
    · next x r =>
      obtain ⟨h1, h2⟩ := zcond_t h
      rw [Bool.and_eq_true, Bool.and_eq_true] at h1
      obtain ⟨⟨h3, h4⟩, h5⟩ := h1
      obtain ⟨o, q1, q2, q3⟩ := zWlk_ok (pc := pc) (df := df) (K := fun o => K (zjmp pc o) ls r m) h3 h4 h2 id
      refine zwpN_go (m1 := m) hz hl rfl ?_ (hK _ _ _ _ q3)
      simp only [zstep]
      rw [if_pos h5, q1]
      unfold zjump
      rw [if_pos (zjok_ok q2)]
      rfl
    · exact h.elim
  all_goals exact dflt h
end ZWOK
theorem zX_ok (cut : List Nat) : ∀ (n d k pc : Nat) (ls : ZL) (st : ZS) (m : ZN) (P : Option ZV → ZN → Prop), zX cut n d k pc ls st m P → zwpN d k pc ls st m P
  | 0, _, _, _, _, _, _, _, h => h
  | n + 1, d, k, pc, ls, st, m, P, h => by
    unfold zX at h
    split at h
    · exact h.elim
    · next i len hz =>
      obtain ⟨h1, h2⟩ := zcond_t h
      refine zWi_ok hz h1 (fun pc ls st m h => ?_) h2
      cases hb : zelem cut pc with
      | true => rw [hb] at h; exact h
      | false => rw [hb] at h; exact zX_ok cut n d k pc ls st m P h
theorem zcI_X {cut : List Nat} (n : Nat) {d k : Nat} {args : ZS} {m : ZN} {K : Int → ZN → Prop} (h : zX cut n d k 0 (zentry k args) [] m (zPI K)) : zcI d k args m K := zcI_in (zX_ok cut n d k 0 _ _ m _ h)
theorem zcJ_X {cut : List Nat} (n : Nat) {d k : Nat} {args : ZS} {m : ZN} {K : Int → ZN → Prop} (h : zX cut n d k 0 (zentry k args) [] m (zPJ K)) : zcJ d k args m K := zcJ_in (zX_ok cut n d k 0 _ _ m _ h)
theorem zcA_X {cut : List Nat} (n : Nat) {d k : Nat} {args : ZS} {m : ZN} {K : Int → ZN → Prop} (h : zX cut n d k 0 (zentry k args) [] m (zPA K)) : zcA d k args m K := zcA_in (zX_ok cut n d k 0 _ _ m _ h)
theorem zcV_X {cut : List Nat} (n : Nat) {d k : Nat} {args : ZS} {m : ZN} {K : ZN → Prop} (h : zX cut n d k 0 (zentry k args) [] m (zPV K)) : zcV d k args m K := zcV_in (zX_ok cut n d k 0 _ _ m _ h)
end
