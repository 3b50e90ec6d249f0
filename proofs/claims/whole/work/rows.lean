section
/-! ===== the decoded code, and the checks of the tables, by program ===== -/
def zlk {α : Type} : List (Nat × α) → Nat → Option α
  | [], _ => none
  | q :: l, n => bif Nat.beq q.1 n then some q.2 else zlk l n
theorem zlk_mem {α : Type} : ∀ (l : List (Nat × α)) (n : Nat) (x : α), zlk l n = some x → (n, x) ∈ l
  | [], _, _, h => by cases h
  | q :: l, n, x, h => by
    unfold zlk at h
    cases hb : Nat.beq q.1 n with
    | true =>
      rw [hb] at h
      have e : q.1 = n := Nat.eq_of_beq_eq_true hb
      cases h
      rw [← e]
      exact List.mem_cons_self
    | false =>
      rw [hb] at h
      exact List.mem_cons_of_mem _ (zlk_mem l n x h)
abbrev zIns : Type := List (Nat × Instr × Nat)
def zi_0 : zIns := [(0, .aload_n 0, 1), (1, .invokespecial 3, 3), (4, .aload_n 0, 1), (5, .sipush 1000, 3), (8, .newarray .byte, 2), (10, .putfield 9, 3), (13, .aload_n 0, 1), (14, .iconst 3, 1), (15, .newarray .int, 2), (17, .putfield 15, 3), (20, .aload_n 0, 1), (21, .iconst 3, 1), (22, .newarray .int, 2), (24, .putfield 19, 3), (27, .return_, 1)]
def zi_1 : zIns := [(0, .aload_n 0, 1), (1, .iload_n 1, 1), (2, .putfield 22, 3), (5, .aload_n 0, 1), (6, .iload_n 2, 1), (7, .putfield 26, 3), (10, .aload_n 0, 1), (11, .iload_n 3, 1), (12, .putfield 29, 3), (15, .aload_n 0, 1), (16, .iload 4, 2), (18, .putfield 32, 3), (21, .aload_n 0, 1), (22, .iconst 0, 1), (23, .putfield 35, 3), (26, .aload_n 0, 1), (27, .iconst 0, 1), (28, .putfield 38, 3), (31, .aload_n 0, 1), (32, .iconst 0, 1), (33, .putfield 41, 3), (36, .return_, 1)]
def zi_2 : zIns := [(0, .aload_n 0, 1), (1, .getfield 41, 3), (4, .iconst 3, 1), (5, .if_icmp .ge 45, 3), (8, .aload_n 0, 1), (9, .getfield 15, 3), (12, .aload_n 0, 1), (13, .getfield 41, 3), (16, .iload_n 1, 1), (17, .iastore, 1), (18, .aload_n 0, 1), (19, .getfield 19, 3), (22, .aload_n 0, 1), (23, .getfield 41, 3), (26, .iload_n 2, 1), (27, .iastore, 1), (28, .aload_n 0, 1), (29, .dup, 1), (30, .getfield 38, 3), (33, .iconst 1, 1), (34, .iload_n 1, 1), (35, .ishl, 1), (36, .ior, 1), (37, .putfield 38, 3), (40, .aload_n 0, 1), (41, .dup, 1), (42, .getfield 41, 3), (45, .iconst 1, 1), (46, .iadd, 1), (47, .putfield 41, 3), (50, .return_, 1)]
def zi_3 : zIns := [(0, .aload_n 0, 1), (1, .getfield 41, 3), (4, .ireturn, 1)]
def zi_4 : zIns := [(0, .iload_n 1, 1), (1, .iconst 0, 1), (2, .aload_n 0, 1), (3, .getfield 41, 3), (6, .iconst 1, 1), (7, .isub, 1), (8, .invokestatic 44, 3), (11, .ifCond .eq 10, 3), (14, .aload_n 0, 1), (15, .getfield 19, 3), (18, .iload_n 1, 1), (19, .iload_n 2, 1), (20, .iastore, 1), (21, .return_, 1)]
def zi_5 : zIns := [(0, .aload_n 0, 1), (1, .getfield 38, 3), (4, .iconst 1, 1), (5, .iload_n 1, 1), (6, .ishl, 1), (7, .iand, 1), (8, .ifCond .eq 7, 3), (11, .iconst 1, 1), (12, .goto 4, 3), (15, .iconst 0, 1), (16, .ireturn, 1)]
def zi_6_0 : zIns := [(0, .aload_n 0, 1), (1, .aload_n 1, 1), (2, .getfield 22, 3), (5, .aload_n 1, 1), (6, .getfield 26, 3), (9, .aload_n 1, 1), (10, .getfield 29, 3), (13, .aload_n 1, 1), (14, .getfield 32, 3), (17, .invokevirtual 48, 3), (20, .iconst 0, 1), (21, .istore_n 2, 1), (22, .iload_n 2, 1), (23, .aload_n 1, 1), (24, .getfield 41, 3), (27, .if_icmp .ge 25, 3), (30, .aload_n 0, 1), (31, .aload_n 1, 1), (32, .getfield 15, 3), (35, .iload_n 2, 1), (36, .iaload, 1), (37, .aload_n 1, 1), (38, .getfield 19, 3), (41, .iload_n 2, 1), (42, .iaload, 1), (43, .invokevirtual 52, 3), (46, .iinc 2 1, 3), (49, .goto (-27), 3), (52, .aload_n 0, 1), (53, .aload_n 1, 1), (54, .getfield 35, 3), (57, .putfield 35, 3), (60, .aload_n 0, 1), (61, .aload_n 1, 1), (62, .getfield 38, 3), (65, .putfield 38, 3), (68, .aload_n 0, 1), (69, .aload_n 1, 1), (70, .getfield 56, 3), (73, .putfield 56, 3), (76, .aload_n 0, 1), (77, .aload_n 1, 1), (78, .getfield 59, 3), (81, .putfield 59, 3), (84, .aload_n 1, 1), (85, .getfield 9, 3), (88, .iconst 0, 1), (89, .aload_n 0, 1), (90, .getfield 9, 3), (93, .iconst 0, 1)]
def zi_6_1 : zIns := [(94, .sipush 1000, 3), (97, .invokestatic 62, 3), (100, .return_, 1)]
def zi_6 : zIns := zi_6_0 ++ (zi_6_1)
def zi_7 : zIns := [(0, .aload_n 0, 1), (1, .iconst 0, 1), (2, .putfield 56, 3), (5, .aload_n 0, 1), (6, .iconst 1, 1), (7, .iload_n 1, 1), (8, .ishl, 1), (9, .putfield 59, 3), (12, .iconst 0, 1), (13, .istore_n 2, 1), (14, .iload_n 2, 1), (15, .sipush 1000, 3), (18, .if_icmp .ge 21, 3), (21, .aload_n 0, 1), (22, .getfield 9, 3), (25, .iload_n 2, 1), (26, .aload_n 0, 1), (27, .iload_n 2, 1), (28, .invokevirtual 68, 3), (31, .i2b, 1), (32, .bastore, 1), (33, .iinc 2 1, 3), (36, .goto (-22), 3), (39, .return_, 1)]
def zi_8_0 : zIns := [(0, .aload_n 0, 1), (1, .iconst 1, 1), (2, .aload_n 2, 1), (3, .getfield 56, 3), (6, .aload_n 3, 1), (7, .getfield 56, 3), (10, .invokestatic 72, 3), (13, .iadd, 1), (14, .putfield 56, 3), (17, .aload_n 0, 1), (18, .aload_n 2, 1), (19, .getfield 38, 3), (22, .aload_n 3, 1), (23, .getfield 38, 3), (26, .ior, 1), (27, .putfield 38, 3), (30, .aload_n 0, 1), (31, .aload_n 0, 1), (32, .getfield 22, 3), (35, .bipush 6, 2), (37, .if_icmp .ne 15, 3), (40, .aload_n 2, 1), (41, .getfield 59, 3), (44, .aload_n 3, 1), (45, .getfield 59, 3), (48, .ior, 1), (49, .goto 6, 3), (52, .iconst 1, 1), (53, .iload_n 1, 1), (54, .ishl, 1), (55, .putfield 59, 3), (58, .iconst 0, 1), (59, .istore 4, 2), (61, .iload 4, 2), (63, .sipush 1000, 3), (66, .if_icmp .ge 35, 3), (69, .aload_n 0, 1), (70, .getfield 9, 3), (73, .iload 4, 2), (75, .aload_n 0, 1), (76, .aload_n 2, 1), (77, .getfield 9, 3), (80, .iload 4, 2), (82, .baload, 1), (83, .aload_n 3, 1), (84, .getfield 9, 3), (87, .iload 4, 2), (89, .baload, 1), (90, .invokevirtual 78, 3), (93, .i2b, 1)]
def zi_8_1 : zIns := [(94, .bastore, 1), (95, .iinc 4 1, 3), (98, .goto (-37), 3), (101, .return_, 1)]
def zi_8 : zIns := zi_8_0 ++ (zi_8_1)
def zi_9_0 : zIns := [(0, .aload_n 0, 1), (1, .iload_n 1, 1), (2, .iconst 0, 1), (3, .invokevirtual 81, 3), (6, .istore_n 2, 1), (7, .aload_n 0, 1), (8, .getfield 22, 3), (11, .tableswitch 130 0 4 #[33, 48, 71, 81, 96], 33), (44, .iload_n 2, 1), (45, .aload_n 0, 1), (46, .getfield 26, 3), (49, .aload_n 0, 1), (50, .getfield 19, 3), (53, .iconst 0, 1), (54, .iaload, 1), (55, .invokestatic 84, 3), (58, .ireturn, 1), (59, .iload_n 2, 1), (60, .aload_n 0, 1), (61, .getfield 19, 3), (64, .iconst 0, 1), (65, .iaload, 1), (66, .iconst 1, 1), (67, .iload_n 2, 1), (68, .ishl, 1), (69, .iand, 1), (70, .ifCond .eq 7, 3), (73, .iconst 1, 1), (74, .goto 4, 3), (77, .iconst 0, 1), (78, .invokestatic 88, 3), (81, .ireturn, 1), (82, .iload_n 2, 1), (83, .ifCond .ne 7, 3), (86, .iconst 1, 1), (87, .goto 4, 3), (90, .iconst 0, 1), (91, .ireturn, 1), (92, .iload_n 2, 1), (93, .aload_n 0, 1), (94, .getfield 26, 3), (97, .aload_n 0, 1), (98, .iload_n 1, 1), (99, .iconst 1, 1), (100, .invokevirtual 81, 3), (103, .invokestatic 84, 3), (106, .ireturn, 1), (107, .iload_n 2, 1), (108, .aload_n 0, 1), (109, .getfield 19, 3)]
def zi_9_1 : zIns := [(112, .iconst 0, 1), (113, .iaload, 1), (114, .ifCond .le 22, 3), (117, .iload_n 2, 1), (118, .aload_n 0, 1), (119, .getfield 19, 3), (122, .iconst 0, 1), (123, .iaload, 1), (124, .irem, 1), (125, .aload_n 0, 1), (126, .getfield 35, 3), (129, .if_icmp .ne 7, 3), (132, .iconst 1, 1), (133, .goto 4, 3), (136, .iconst 0, 1), (137, .invokestatic 88, 3), (140, .ireturn, 1), (141, .aload_n 0, 1), (142, .getfield 26, 3), (145, .ifCond .eq 11, 3), (148, .aload_n 0, 1), (149, .getfield 26, 3), (152, .iconst 2, 1), (153, .if_icmp .ne 11, 3), (156, .aload_n 0, 1), (157, .iload_n 1, 1), (158, .invokevirtual 92, 3), (161, .goto 8, 3), (164, .aload_n 0, 1), (165, .iload_n 1, 1), (166, .invokevirtual 95, 3), (169, .ireturn, 1)]
def zi_9 : zIns := zi_9_0 ++ (zi_9_1)
def zi_10 : zIns := [(0, .iload_n 1, 1), (1, .getstatic 98, 3), (4, .aload_n 0, 1), (5, .getfield 15, 3), (8, .iload_n 2, 1), (9, .iaload, 1), (10, .iaload, 1), (11, .idiv, 1), (12, .bipush 10, 2), (14, .irem, 1), (15, .ireturn, 1)]
def zi_11 : zIns := [(0, .iload_n 0, 1), (1, .ifCond .ne 5, 3), (4, .iconst 2, 1), (5, .ireturn, 1), (6, .iload_n 1, 1), (7, .ifCond .eq 7, 3), (10, .iconst 1, 1), (11, .goto 4, 3), (14, .iconst 0, 1), (15, .ireturn, 1)]
def zi_12 : zIns := [(0, .iconst 0, 1), (1, .istore_n 2, 1), (2, .iload_n 2, 1), (3, .aload_n 0, 1), (4, .getfield 41, 3), (7, .if_icmp .ge 52, 3), (10, .aload_n 0, 1), (11, .iload_n 1, 1), (12, .iload_n 2, 1), (13, .invokevirtual 81, 3), (16, .istore_n 3, 1), (17, .iload_n 3, 1), (18, .aload_n 0, 1), (19, .getfield 26, 3), (22, .aload_n 0, 1), (23, .getfield 19, 3), (26, .iload_n 2, 1), (27, .iaload, 1), (28, .invokestatic 84, 3), (31, .istore 4, 2), (33, .iload 4, 2), (35, .ifCond .eq 6, 3), (38, .iload 4, 2), (40, .ireturn, 1), (41, .iload_n 3, 1), (42, .aload_n 0, 1), (43, .getfield 19, 3), (46, .iload_n 2, 1), (47, .iaload, 1), (48, .if_icmp .eq 5, 3), (51, .iconst 0, 1), (52, .ireturn, 1), (53, .iinc 2 1, 3), (56, .goto (-54), 3), (59, .iconst 0, 1), (60, .ireturn, 1)]
def zi_13 : zIns := [(0, .iconst 1, 1), (1, .istore_n 2, 1), (2, .iconst 0, 1), (3, .istore_n 3, 1), (4, .iload_n 3, 1), (5, .aload_n 0, 1), (6, .getfield 41, 3), (9, .if_icmp .ge 50, 3), (12, .aload_n 0, 1), (13, .iload_n 1, 1), (14, .iload_n 3, 1), (15, .invokevirtual 81, 3), (18, .istore 4, 2), (20, .iload 4, 2), (22, .ifCond .eq 19, 3), (25, .iload 4, 2), (27, .aload_n 0, 1), (28, .getfield 19, 3), (31, .iload_n 3, 1), (32, .iaload, 1), (33, .if_icmp .eq 8, 3), (36, .iconst 0, 1), (37, .istore_n 2, 1), (38, .goto 15, 3), (41, .iload 4, 2), (43, .ifCond .ne 10, 3), (46, .iload_n 2, 1), (47, .iconst 1, 1), (48, .if_icmp .ne 5, 3), (51, .iconst 2, 1), (52, .istore_n 2, 1), (53, .iinc 3 1, 3), (56, .goto (-52), 3), (59, .aload_n 0, 1), (60, .getfield 26, 3), (63, .iconst 1, 1), (64, .if_icmp .ne 7, 3), (67, .iload_n 2, 1), (68, .goto 7, 3), (71, .iload_n 2, 1), (72, .invokestatic 101, 3), (75, .ireturn, 1)]
def zi_14 : zIns := [(0, .aload_n 0, 1), (1, .getfield 22, 3), (4, .tableswitch 87 6 8 #[28, 54, 82], 28), (32, .iload_n 1, 1), (33, .ifCond .eq 7, 3), (36, .iload_n 2, 1), (37, .ifCond .ne 5, 3), (40, .iconst 0, 1), (41, .ireturn, 1), (42, .iload_n 1, 1), (43, .iconst 2, 1), (44, .if_icmp .eq 8, 3), (47, .iload_n 2, 1), (48, .iconst 2, 1), (49, .if_icmp .ne 7, 3), (52, .iconst 2, 1), (53, .goto 4, 3), (56, .iconst 1, 1), (57, .ireturn, 1), (58, .iload_n 1, 1), (59, .iconst 1, 1), (60, .if_icmp .eq 8, 3), (63, .iload_n 2, 1), (64, .iconst 1, 1), (65, .if_icmp .ne 5, 3), (68, .iconst 1, 1), (69, .ireturn, 1), (70, .iload_n 1, 1), (71, .iconst 2, 1), (72, .if_icmp .eq 8, 3), (75, .iload_n 2, 1), (76, .iconst 2, 1), (77, .if_icmp .ne 7, 3), (80, .iconst 2, 1), (81, .goto 4, 3), (84, .iconst 0, 1), (85, .ireturn, 1), (86, .iload_n 1, 1), (87, .invokestatic 101, 3), (90, .ireturn, 1), (91, .iload_n 1, 1), (92, .iconst 1, 1), (93, .if_icmp .ne 7, 3), (96, .iconst 1, 1), (97, .goto 4, 3), (100, .iconst 0, 1), (101, .ireturn, 1)]
def zi_15 : zIns := [(0, .iload_n 0, 1), (1, .iconst 2, 1), (2, .if_icmp .ne 5, 3), (5, .iconst 2, 1), (6, .ireturn, 1), (7, .iload_n 0, 1), (8, .iconst 1, 1), (9, .if_icmp .ne 7, 3), (12, .iconst 0, 1), (13, .goto 4, 3), (16, .iconst 1, 1), (17, .ireturn, 1)]
def zi_16_0 : zIns := [(0, .iload_n 1, 1), (1, .tableswitch 140 0 5 #[39, 41, 55, 77, 101, 125], 39), (40, .iconst 1, 1), (41, .ireturn, 1), (42, .aload_n 0, 1), (43, .getfield 22, 3), (46, .iconst 5, 1), (47, .if_icmp .gt 7, 3), (50, .iconst 1, 1), (51, .goto 4, 3), (54, .iconst 0, 1), (55, .ireturn, 1), (56, .aload_n 0, 1), (57, .getfield 22, 3), (60, .iconst 4, 1), (61, .if_icmp .gt 15, 3), (64, .aload_n 0, 1), (65, .getfield 22, 3), (68, .iconst 3, 1), (69, .if_icmp .eq 7, 3), (72, .iconst 1, 1), (73, .goto 4, 3), (76, .iconst 0, 1), (77, .ireturn, 1), (78, .aload_n 0, 1), (79, .getfield 22, 3), (82, .bipush 6, 2), (84, .if_icmp .eq 12, 3), (87, .aload_n 0, 1), (88, .getfield 22, 3), (91, .bipush 7, 2), (93, .if_icmp .ne 7, 3), (96, .iconst 1, 1), (97, .goto 4, 3), (100, .iconst 0, 1), (101, .ireturn, 1), (102, .aload_n 0, 1), (103, .getfield 22, 3), (106, .bipush 8, 2), (108, .if_icmp .eq 12, 3), (111, .aload_n 0, 1), (112, .getfield 22, 3), (115, .bipush 9, 2), (117, .if_icmp .ne 7, 3), (120, .iconst 1, 1), (121, .goto 4, 3), (124, .iconst 0, 1), (125, .ireturn, 1), (126, .aload_n 0, 1), (127, .getfield 22, 3)]
def zi_16_1 : zIns := [(130, .bipush 6, 2), (132, .if_icmp .ne 7, 3), (135, .iconst 1, 1), (136, .goto 4, 3), (139, .iconst 0, 1), (140, .ireturn, 1), (141, .aload_n 0, 1), (142, .getfield 22, 3), (145, .iconst 5, 1), (146, .if_icmp .ne 7, 3), (149, .iconst 1, 1), (150, .goto 4, 3), (153, .iconst 0, 1), (154, .ireturn, 1)]
def zi_16 : zIns := zi_16_0 ++ (zi_16_1)
def zi_17 : zIns := [(0, .iload_n 1, 1), (1, .tableswitch 89 0 5 #[39, 45, 52, 63, 76, 81], 39), (40, .aload_n 0, 1), (41, .iconst 1, 1), (42, .invokevirtual 104, 3), (45, .ireturn, 1), (46, .aload_n 0, 1), (47, .getfield 15, 3), (50, .iconst 0, 1), (51, .iaload, 1), (52, .ireturn, 1), (53, .aload_n 0, 1), (54, .aload_n 0, 1), (55, .getfield 15, 3), (58, .iconst 0, 1), (59, .iaload, 1), (60, .invokevirtual 107, 3), (63, .ireturn, 1), (64, .bipush 100, 2), (66, .aload_n 0, 1), (67, .getfield 29, 3), (70, .imul, 1), (71, .aload_n 0, 1), (72, .getfield 32, 3), (75, .iadd, 1), (76, .ireturn, 1), (77, .aload_n 0, 1), (78, .getfield 29, 3), (81, .ireturn, 1), (82, .aload_n 0, 1), (83, .getfield 59, 3), (86, .invokestatic 110, 3), (89, .ireturn, 1), (90, .aload_n 0, 1), (91, .getfield 41, 3), (94, .ireturn, 1)]
def zi_18 : zIns := [(0, .iconst 0, 1), (1, .istore_n 2, 1), (2, .iconst 0, 1), (3, .istore_n 3, 1), (4, .iload_n 3, 1), (5, .sipush 1000, 3), (8, .if_icmp .ge 22, 3), (11, .aload_n 0, 1), (12, .getfield 9, 3), (15, .iload_n 3, 1), (16, .baload, 1), (17, .iload_n 1, 1), (18, .if_icmp .ne 6, 3), (21, .iinc 2 1, 3), (24, .iinc 3 1, 3), (27, .goto (-23), 3), (30, .iload_n 2, 1), (31, .ireturn, 1)]
def zi_19 : zIns := [(0, .iconst 0, 1), (1, .istore_n 2, 1), (2, .iconst 0, 1), (3, .istore_n 3, 1), (4, .iload_n 3, 1), (5, .sipush 1000, 3), (8, .if_icmp .ge 34, 3), (11, .aload_n 0, 1), (12, .getfield 9, 3), (15, .iload_n 3, 1), (16, .baload, 1), (17, .iconst 1, 1), (18, .if_icmp .ne 18, 3), (21, .iload_n 2, 1), (22, .iconst 1, 1), (23, .iload_n 3, 1), (24, .getstatic 98, 3), (27, .iload_n 1, 1), (28, .iaload, 1), (29, .idiv, 1), (30, .bipush 10, 2), (32, .irem, 1), (33, .ishl, 1), (34, .ior, 1), (35, .istore_n 2, 1), (36, .iinc 3 1, 3), (39, .goto (-35), 3), (42, .iload_n 2, 1), (43, .ireturn, 1)]
def zi_20 : zIns := [(0, .iconst 0, 1), (1, .istore_n 2, 1), (2, .iload_n 2, 1), (3, .sipush 1000, 3), (6, .if_icmp .ge 26, 3), (9, .aload_n 0, 1), (10, .getfield 9, 3), (13, .iload_n 2, 1), (14, .baload, 1), (15, .aload_n 1, 1), (16, .getfield 9, 3), (19, .iload_n 2, 1), (20, .baload, 1), (21, .if_icmp .eq 5, 3), (24, .iload_n 2, 1), (25, .ireturn, 1), (26, .iinc 2 1, 3), (29, .goto (-27), 3), (32, .iconst (-1), 1), (33, .ireturn, 1)]
def zi_21 : zIns := [(0, .aload_n 0, 1), (1, .invokespecial 3, 3), (4, .aload_n 0, 1), (5, .bipush 25, 2), (7, .anewarray 11, 3), (10, .putfield 13, 3), (13, .iconst 0, 1), (14, .istore_n 1, 1), (15, .iload_n 1, 1), (16, .bipush 24, 2), (18, .if_icmp .gt 22, 3), (21, .aload_n 0, 1), (22, .getfield 13, 3), (25, .iload_n 1, 1), (26, .new 11, 3), (29, .dup, 1), (30, .invokespecial 17, 3), (33, .aastore, 1), (34, .iinc 1 1, 3), (37, .goto (-22), 3), (40, .aload_n 0, 1), (41, .iconst 0, 1), (42, .putfield 18, 3), (45, .aload_n 0, 1), (46, .iconst 0, 1), (47, .putfield 22, 3), (50, .return_, 1)]
def zi_22 : zIns := [(0, .iconst 0, 1), (1, .istore_n 2, 1), (2, .iload_n 2, 1), (3, .aload_n 1, 1), (4, .getfield 18, 3), (7, .if_icmp .ge 24, 3), (10, .aload_n 0, 1), (11, .getfield 13, 3), (14, .iload_n 2, 1), (15, .aaload, 1), (16, .aload_n 1, 1), (17, .getfield 13, 3), (20, .iload_n 2, 1), (21, .aaload, 1), (22, .invokevirtual 25, 3), (25, .iinc 2 1, 3), (28, .goto (-26), 3), (31, .aload_n 0, 1), (32, .aload_n 1, 1), (33, .getfield 18, 3), (36, .putfield 18, 3), (39, .return_, 1)]
def zi_23 : zIns := [(0, .iload_n 1, 1), (1, .iconst 0, 1), (2, .aload_n 0, 1), (3, .getfield 18, 3), (6, .iconst 1, 1), (7, .isub, 1), (8, .invokestatic 29, 3), (11, .ireturn, 1)]
def zi_24 : zIns := [(0, .aload_n 0, 1), (1, .getfield 13, 3), (4, .iload_n 1, 1), (5, .iconst 0, 1), (6, .bipush 24, 2), (8, .invokestatic 29, 3), (11, .ifCond .eq 7, 3), (14, .iload_n 1, 1), (15, .goto 5, 3), (18, .bipush 24, 2), (20, .aaload, 1), (21, .areturn, 1)]
def zi_25 : zIns := [(0, .aload_n 0, 1), (1, .aload_n 0, 1), (2, .getfield 18, 3), (5, .aload_n 0, 1), (6, .getfield 22, 3), (9, .iadd, 1), (10, .invokevirtual 33, 3), (13, .astore_n 3, 1), (14, .aload_n 3, 1), (15, .iload_n 1, 1), (16, .iload_n 2, 1), (17, .iconst (-1), 1), (18, .iconst (-1), 1), (19, .invokevirtual 37, 3), (22, .aload_n 0, 1), (23, .dup, 1), (24, .getfield 22, 3), (27, .iconst 1, 1), (28, .iadd, 1), (29, .putfield 22, 3), (32, .aload_n 3, 1), (33, .areturn, 1)]
def zi_26 : zIns := [(0, .aload_n 0, 1), (1, .aload_n 0, 1), (2, .getfield 18, 3), (5, .aload_n 0, 1), (6, .getfield 22, 3), (9, .iadd, 1), (10, .invokevirtual 33, 3), (13, .astore 4, 2), (15, .aload 4, 2), (17, .iload_n 1, 1), (18, .iconst (-1), 1), (19, .iload_n 2, 1), (20, .iload_n 3, 1), (21, .invokevirtual 37, 3), (24, .aload_n 0, 1), (25, .dup, 1), (26, .getfield 22, 3), (29, .iconst 1, 1), (30, .iadd, 1), (31, .putfield 22, 3), (34, .return_, 1)]
def zi_27 : zIns := [(0, .aload_n 0, 1), (1, .getfield 18, 3), (4, .aload_n 0, 1), (5, .getfield 22, 3), (8, .iadd, 1), (9, .iconst 1, 1), (10, .isub, 1), (11, .ireturn, 1)]
def zi_28 : zIns := [(0, .aload_n 0, 1), (1, .getfield 18, 3), (4, .aload_n 0, 1), (5, .getfield 22, 3), (8, .iadd, 1), (9, .bipush 24, 2), (11, .if_icmp .gt 7, 3), (14, .iconst 1, 1), (15, .goto 4, 3), (18, .iconst 0, 1), (19, .ireturn, 1)]
def zi_29 : zIns := [(0, .aload_n 0, 1), (1, .iconst 0, 1), (2, .putfield 22, 3), (5, .return_, 1)]
def zi_30_0 : zIns := [(0, .aload_n 0, 1), (1, .getfield 18, 3), (4, .aload_n 0, 1), (5, .getfield 22, 3), (8, .iadd, 1), (9, .bipush 24, 2), (11, .invokestatic 41, 3), (14, .istore_n 1, 1), (15, .aload_n 0, 1), (16, .getfield 18, 3), (19, .istore_n 2, 1), (20, .iload_n 2, 1), (21, .iload_n 1, 1), (22, .if_icmp .ge 68, 3), (25, .aload_n 0, 1), (26, .getfield 13, 3), (29, .iload_n 2, 1), (30, .aaload, 1), (31, .astore_n 3, 1), (32, .aload_n 3, 1), (33, .getfield 47, 3), (36, .iconst 5, 1), (37, .if_icmp .gt 11, 3), (40, .aload_n 3, 1), (41, .iload_n 2, 1), (42, .invokevirtual 50, 3), (45, .goto 39, 3), (48, .aload_n 3, 1), (49, .iload_n 2, 1), (50, .aload_n 0, 1), (51, .aload_n 3, 1), (52, .getfield 54, 3), (55, .invokevirtual 33, 3), (58, .aload_n 0, 1), (59, .aload_n 3, 1), (60, .getfield 57, 3), (63, .iconst (-1), 1), (64, .if_icmp .ne 10, 3), (67, .aload_n 3, 1), (68, .getfield 54, 3), (71, .goto 7, 3), (74, .aload_n 3, 1), (75, .getfield 57, 3), (78, .invokevirtual 33, 3), (81, .invokevirtual 60, 3), (84, .iinc 2 1, 3), (87, .goto (-67), 3), (90, .aload_n 0, 1), (91, .iload_n 1, 1), (92, .putfield 18, 3)]
def zi_30_1 : zIns := [(95, .aload_n 0, 1), (96, .iconst 0, 1), (97, .putfield 22, 3), (100, .return_, 1)]
def zi_30 : zIns := zi_30_0 ++ (zi_30_1)
def zi_31 : zIns := [(0, .aload_n 0, 1), (1, .invokespecial 3, 3), (4, .aload_n 0, 1), (5, .sipush 180, 3), (8, .newarray .int, 2), (10, .putfield 11, 3), (13, .aload_n 0, 1), (14, .iconst 0, 1), (15, .putfield 15, 3), (18, .aload_n 0, 1), (19, .iconst 4, 1), (20, .putfield 19, 3), (23, .aload_n 0, 1), (24, .iconst 1, 1), (25, .putfield 22, 3), (28, .return_, 1)]
def zi_32 : zIns := [(0, .aload_n 1, 1), (1, .getfield 11, 3), (4, .iconst 0, 1), (5, .aload_n 0, 1), (6, .getfield 11, 3), (9, .iconst 0, 1), (10, .aload_n 0, 1), (11, .getfield 11, 3), (14, .arraylength, 1), (15, .invokestatic 25, 3), (18, .aload_n 0, 1), (19, .aload_n 1, 1), (20, .getfield 15, 3), (23, .putfield 15, 3), (26, .aload_n 0, 1), (27, .aload_n 1, 1), (28, .getfield 19, 3), (31, .putfield 19, 3), (34, .aload_n 0, 1), (35, .aload_n 1, 1), (36, .getfield 22, 3), (39, .putfield 22, 3), (42, .return_, 1)]
def zi_33 : zIns := [(0, .iload_n 1, 1), (1, .iconst 0, 1), (2, .aload_n 0, 1), (3, .getfield 15, 3), (6, .iconst 1, 1), (7, .isub, 1), (8, .invokestatic 31, 3), (11, .ireturn, 1)]
def zi_34 : zIns := [(0, .aload_n 0, 1), (1, .getfield 11, 3), (4, .iload_n 1, 1), (5, .iconst 3, 1), (6, .imul, 1), (7, .iload_n 2, 1), (8, .iadd, 1), (9, .iaload, 1), (10, .ireturn, 1)]
def zi_35 : zIns := [(0, .aload_n 0, 1), (1, .getfield 11, 3), (4, .iload_n 1, 1), (5, .iconst 3, 1), (6, .imul, 1), (7, .iload_n 2, 1), (8, .iadd, 1), (9, .iload_n 3, 1), (10, .iastore, 1), (11, .return_, 1)]
def zi_36 : zIns := [(0, .aload_n 0, 1), (1, .iload_n 1, 1), (2, .iconst 0, 1), (3, .iload_n 2, 1), (4, .invokevirtual 35, 3), (7, .aload_n 0, 1), (8, .iload_n 1, 1), (9, .iconst 1, 1), (10, .iload_n 3, 1), (11, .invokevirtual 35, 3), (14, .aload_n 0, 1), (15, .iload_n 1, 1), (16, .iconst 2, 1), (17, .iload 4, 2), (19, .invokevirtual 35, 3), (22, .return_, 1)]
def zi_37 : zIns := [(0, .aload_n 0, 1), (1, .getfield 15, 3), (4, .bipush 60, 2), (6, .if_icmp .ge 24, 3), (9, .aload_n 0, 1), (10, .aload_n 0, 1), (11, .getfield 15, 3), (14, .iload_n 1, 1), (15, .iload_n 2, 1), (16, .iload_n 3, 1), (17, .invokevirtual 39, 3), (20, .aload_n 0, 1), (21, .dup, 1), (22, .getfield 15, 3), (25, .iconst 1, 1), (26, .iadd, 1), (27, .putfield 15, 3), (30, .return_, 1)]
def zi_38 : zIns := [(0, .aload_n 0, 1), (1, .iload_n 1, 1), (2, .invokevirtual 43, 3), (5, .ifCond .eq 44, 3), (8, .iload_n 1, 1), (9, .iconst 1, 1), (10, .iadd, 1), (11, .iconst 3, 1), (12, .imul, 1), (13, .istore_n 2, 1), (14, .aload_n 0, 1), (15, .getfield 15, 3), (18, .iconst 3, 1), (19, .imul, 1), (20, .iload_n 2, 1), (21, .isub, 1), (22, .istore_n 3, 1), (23, .aload_n 0, 1), (24, .getfield 11, 3), (27, .iload_n 2, 1), (28, .aload_n 0, 1), (29, .getfield 11, 3), (32, .iload_n 2, 1), (33, .iconst 3, 1), (34, .isub, 1), (35, .iload_n 3, 1), (36, .invokestatic 25, 3), (39, .aload_n 0, 1), (40, .dup, 1), (41, .getfield 15, 3), (44, .iconst 1, 1), (45, .isub, 1), (46, .putfield 15, 3), (49, .return_, 1)]
def zi_39 : zIns := [(0, .iconst 3, 1), (1, .iload_n 2, 1), (2, .imul, 1), (3, .istore_n 3, 1), (4, .bipush 100, 2), (6, .aload_n 0, 1), (7, .iload_n 1, 1), (8, .getstatic 47, 3), (11, .iload_n 3, 1), (12, .iaload, 1), (13, .invokevirtual 50, 3), (16, .imul, 1), (17, .bipush 10, 2), (19, .aload_n 0, 1), (20, .iload_n 1, 1), (21, .getstatic 47, 3), (24, .iload_n 3, 1), (25, .iconst 1, 1), (26, .iadd, 1), (27, .iaload, 1), (28, .invokevirtual 50, 3), (31, .imul, 1), (32, .iadd, 1), (33, .aload_n 0, 1), (34, .iload_n 1, 1), (35, .getstatic 47, 3), (38, .iload_n 3, 1), (39, .iconst 2, 1), (40, .iadd, 1), (41, .iaload, 1), (42, .invokevirtual 50, 3), (45, .iadd, 1), (46, .ireturn, 1)]
def zi_40 : zIns := [(0, .aload_n 1, 1), (1, .getfield 54, 3), (4, .aload_n 0, 1), (5, .iload_n 2, 1), (6, .iconst 0, 1), (7, .invokevirtual 60, 3), (10, .baload, 1), (11, .ireturn, 1)]
def zi_41 : zIns := [(0, .iconst 0, 1), (1, .istore_n 3, 1), (2, .iconst 0, 1), (3, .istore 4, 2), (5, .iload 4, 2), (7, .aload_n 0, 1), (8, .getfield 15, 3), (11, .if_icmp .ge 23, 3), (14, .aload_n 0, 1), (15, .aload_n 1, 1), (16, .iload 4, 2), (18, .invokevirtual 63, 3), (21, .iload_n 2, 1), (22, .if_icmp .ne 6, 3), (25, .iinc 3 1, 3), (28, .iinc 4 1, 3), (31, .goto (-26), 3), (34, .iload_n 3, 1), (35, .ireturn, 1)]
def zi_42 : zIns := [(0, .iconst 0, 1), (1, .istore_n 3, 1), (2, .iconst 0, 1), (3, .istore 4, 2), (5, .iload 4, 2), (7, .aload_n 0, 1), (8, .getfield 15, 3), (11, .if_icmp .ge 23, 3), (14, .aload_n 0, 1), (15, .iload 4, 2), (17, .iload_n 1, 1), (18, .invokevirtual 50, 3), (21, .iload_n 2, 1), (22, .if_icmp .ne 6, 3), (25, .iinc 3 1, 3), (28, .iinc 4 1, 3), (31, .goto (-26), 3), (34, .iload_n 3, 1), (35, .ireturn, 1)]
def zi_43 : zIns := [(0, .aload_n 0, 1), (1, .bipush 10, 2), (3, .invokevirtual 67, 3), (6, .istore_n 1, 1), (7, .aload_n 0, 1), (8, .bipush 10, 2), (10, .invokevirtual 67, 3), (13, .istore_n 2, 1), (14, .aload_n 0, 1), (15, .bipush 10, 2), (17, .invokevirtual 67, 3), (20, .istore_n 3, 1), (21, .aload_n 0, 1), (22, .getfield 15, 3), (25, .bipush 60, 2), (27, .if_icmp .ge 13, 3), (30, .aload_n 0, 1), (31, .iload_n 1, 1), (32, .iload_n 2, 1), (33, .iload_n 3, 1), (34, .invokevirtual 71, 3), (37, .goto 16, 3), (40, .aload_n 0, 1), (41, .aload_n 0, 1), (42, .bipush 60, 2), (44, .invokevirtual 67, 3), (47, .iload_n 1, 1), (48, .iload_n 2, 1), (49, .iload_n 3, 1), (50, .invokevirtual 39, 3), (53, .aload_n 0, 1), (54, .bipush 8, 2), (56, .invokevirtual 67, 3), (59, .ifCond .ne 15, 3), (62, .aload_n 0, 1), (63, .aload_n 0, 1), (64, .aload_n 0, 1), (65, .getfield 15, 3), (68, .invokevirtual 67, 3), (71, .invokevirtual 74, 3), (74, .return_, 1)]
def zi_44 : zIns := [(0, .aload_n 0, 1), (1, .aload_n 0, 1), (2, .getfield 22, 3), (5, .ldc 78, 2), (7, .imul, 1), (8, .sipush 12345, 3), (11, .iadd, 1), (12, .putfield 22, 3), (15, .iload_n 1, 1), (16, .ifCond .le 15, 3), (19, .aload_n 0, 1), (20, .getfield 22, 3), (23, .bipush 16, 2), (25, .iushr, 1), (26, .iload_n 1, 1), (27, .irem, 1), (28, .goto 4, 3), (31, .iconst 0, 1), (32, .ireturn, 1)]
def zi_45 : zIns := [(0, .aload_n 0, 1), (1, .invokespecial 3, 3), (4, .aload_n 0, 1), (5, .bipush 60, 2), (7, .newarray .int, 2), (9, .putfield 11, 3), (12, .return_, 1)]
def zi_46 : zIns := [(0, .iload_n 1, 1), (1, .ifCond .ne 7, 3), (4, .iload_n 0, 1), (5, .goto 19, 3), (8, .iload_n 1, 1), (9, .iconst 1, 1), (10, .if_icmp .ne 10, 3), (13, .iload_n 0, 1), (14, .bipush 100, 2), (16, .irem, 1), (17, .goto 7, 3), (20, .iload_n 0, 1), (21, .bipush 10, 2), (23, .irem, 1), (24, .istore_n 3, 1), (25, .iload_n 3, 1), (26, .sipush 1000, 3), (29, .imul, 1), (30, .iload_n 0, 1), (31, .iadd, 1), (32, .bipush 100, 2), (34, .imul, 1), (35, .iload_n 2, 1), (36, .iadd, 1), (37, .ireturn, 1)]
def zi_47 : zIns := [(0, .aload_n 0, 1), (1, .iconst 0, 1), (2, .putfield 17, 3), (5, .iconst 0, 1), (6, .istore 5, 2), (8, .iload 5, 2), (10, .aload_n 1, 1), (11, .getfield 21, 3), (14, .if_icmp .ge 38, 3), (17, .aload_n 1, 1), (18, .aload_n 2, 1), (19, .iload 5, 2), (21, .invokevirtual 22, 3), (24, .iconst 1, 1), (25, .if_icmp .ne 21, 3), (28, .aload_n 0, 1), (29, .aload_n 1, 1), (30, .iload 5, 2), (32, .iload_n 3, 1), (33, .invokevirtual 26, 3), (36, .iload 4, 2), (38, .iload 5, 2), (40, .invokestatic 30, 3), (43, .invokevirtual 34, 3), (46, .iinc 5 1, 3), (49, .goto (-41), 3), (52, .return_, 1)]
def zi_48 : zIns := [(0, .aload_n 0, 1), (1, .getfield 17, 3), (4, .aload_n 0, 1), (5, .getfield 11, 3), (8, .arraylength, 1), (9, .if_icmp .lt 4, 3), (12, .return_, 1), (13, .aload_n 0, 1), (14, .getfield 17, 3), (17, .istore_n 2, 1), (18, .iload_n 2, 1), (19, .ifCond .le 35, 3), (22, .aload_n 0, 1), (23, .getfield 11, 3), (26, .iload_n 2, 1), (27, .iconst 1, 1), (28, .isub, 1), (29, .iaload, 1), (30, .iload_n 1, 1), (31, .if_icmp .le 23, 3), (34, .aload_n 0, 1), (35, .getfield 11, 3), (38, .iload_n 2, 1), (39, .aload_n 0, 1), (40, .getfield 11, 3), (43, .iload_n 2, 1), (44, .iconst 1, 1), (45, .isub, 1), (46, .iaload, 1), (47, .iastore, 1), (48, .iinc 2 (-1), 3), (51, .goto (-33), 3), (54, .aload_n 0, 1), (55, .getfield 11, 3), (58, .iload_n 2, 1), (59, .iload_n 1, 1), (60, .iastore, 1), (61, .aload_n 0, 1), (62, .dup, 1), (63, .getfield 17, 3), (66, .iconst 1, 1), (67, .iadd, 1), (68, .putfield 17, 3), (71, .return_, 1)]
def zi_49 : zIns := [(0, .aload_n 0, 1), (1, .getfield 11, 3), (4, .iload_n 1, 1), (5, .iaload, 1), (6, .bipush 100, 2), (8, .irem, 1), (9, .ireturn, 1)]
def zi_50 : zIns := [(0, .iconst 0, 1), (1, .istore_n 2, 1), (2, .iload_n 2, 1), (3, .aload_n 0, 1), (4, .getfield 17, 3), (7, .if_icmp .ge 25, 3), (10, .aload_n 0, 1), (11, .getfield 11, 3), (14, .iload_n 2, 1), (15, .iaload, 1), (16, .iload_n 1, 1), (17, .if_icmp .le 9, 3), (20, .aload_n 0, 1), (21, .iload_n 2, 1), (22, .invokevirtual 38, 3), (25, .ireturn, 1), (26, .iinc 2 1, 3), (29, .goto (-27), 3), (32, .iconst (-1), 1), (33, .ireturn, 1)]
def zi_51 : zIns := [(0, .aload_n 0, 1), (1, .invokespecial 3, 3), (4, .aload_n 0, 1), (5, .sipush 250, 3), (8, .newarray .int, 2), (10, .putfield 11, 3), (13, .aload_n 0, 1), (14, .sipush 250, 3), (17, .newarray .int, 2), (19, .putfield 17, 3), (22, .aload_n 0, 1), (23, .sipush 250, 3), (26, .newarray .int, 2), (28, .putfield 20, 3), (31, .return_, 1)]
def zi_52 : zIns := [(0, .aload_n 1, 1), (1, .invokevirtual 23, 3), (4, .aload_n 0, 1), (5, .iconst 0, 1), (6, .putfield 26, 3), (9, .iconst 0, 1), (10, .istore_n 2, 1), (11, .iload_n 2, 1), (12, .sipush 250, 3), (15, .if_icmp .gt 43, 3), (18, .aload_n 0, 1), (19, .aload_n 1, 1), (20, .invokevirtual 30, 3), (23, .ifCond .ne 5, 3), (26, .iconst 0, 1), (27, .ireturn, 1), (28, .aload_n 1, 1), (29, .invokevirtual 34, 3), (32, .istore_n 3, 1), (33, .iload_n 3, 1), (34, .iconst (-1), 1), (35, .if_icmp .ne 5, 3), (38, .iconst 1, 1), (39, .ireturn, 1), (40, .iload_n 3, 1), (41, .bipush 59, 2), (43, .if_icmp .eq 5, 3), (46, .iconst 0, 1), (47, .ireturn, 1), (48, .aload_n 1, 1), (49, .invokevirtual 38, 3), (52, .iinc 2 1, 3), (55, .goto (-44), 3), (58, .iconst 0, 1), (59, .ireturn, 1)]
def zi_53 : zIns := [(0, .iconst 0, 1), (1, .istore_n 2, 1), (2, .iload_n 2, 1), (3, .iconst 3, 1), (4, .if_icmp .ge 73, 3), (7, .aload_n 1, 1), (8, .invokevirtual 34, 3), (11, .bipush 46, 2), (13, .if_icmp .ne 7, 3), (16, .iconst 0, 1), (17, .goto 10, 3), (20, .aload_n 1, 1), (21, .iconst 1, 1), (22, .bipush 9, 2), (24, .invokevirtual 41, 3), (27, .istore_n 3, 1), (28, .iload_n 3, 1), (29, .iconst (-1), 1), (30, .if_icmp .eq 15, 3), (33, .aload_n 0, 1), (34, .getfield 26, 3), (37, .aload_n 0, 1), (38, .getfield 11, 3), (41, .arraylength, 1), (42, .if_icmp .lt 5, 3), (45, .iconst 0, 1), (46, .ireturn, 1), (47, .aload_n 0, 1), (48, .getfield 11, 3), (51, .aload_n 0, 1), (52, .getfield 26, 3), (55, .iload_n 3, 1), (56, .iastore, 1), (57, .aload_n 0, 1), (58, .dup, 1), (59, .getfield 26, 3), (62, .iconst 1, 1), (63, .iadd, 1), (64, .putfield 26, 3), (67, .aload_n 1, 1), (68, .invokevirtual 38, 3), (71, .iinc 2 1, 3), (74, .goto (-72), 3), (77, .iconst 1, 1), (78, .ireturn, 1)]
def zi_54 : zIns := [(0, .aload_n 0, 1), (1, .getfield 26, 3), (4, .iconst 3, 1), (5, .idiv, 1), (6, .ireturn, 1)]
def zi_55 : zIns := [(0, .iload_n 1, 1), (1, .iconst 3, 1), (2, .imul, 1), (3, .iload_n 2, 1), (4, .iadd, 1), (5, .istore_n 3, 1), (6, .iload_n 3, 1), (7, .iconst 0, 1), (8, .aload_n 0, 1), (9, .getfield 26, 3), (12, .iconst 1, 1), (13, .isub, 1), (14, .invokestatic 45, 3), (17, .ifCond .eq 12, 3), (20, .aload_n 0, 1), (21, .getfield 11, 3), (24, .iload_n 3, 1), (25, .iaload, 1), (26, .goto 4, 3), (29, .iconst 0, 1), (30, .ireturn, 1)]
def zi_56_0 : zIns := [(0, .aload_n 1, 1), (1, .invokevirtual 23, 3), (4, .aload_n 0, 1), (5, .iconst 0, 1), (6, .putfield 49, 3), (9, .aload_n 0, 1), (10, .iconst 0, 1), (11, .putfield 52, 3), (14, .iconst 1, 1), (15, .istore_n 3, 1), (16, .iconst 0, 1), (17, .istore 4, 2), (19, .iload 4, 2), (21, .sipush 250, 3), (24, .if_icmp .gt 123, 3), (27, .aload_n 1, 1), (28, .invokevirtual 34, 3), (31, .istore 5, 2), (33, .iload 5, 2), (35, .iconst (-1), 1), (36, .if_icmp .ne 21, 3), (39, .iload_n 3, 1), (40, .ifCond .ne 15, 3), (43, .aload_n 0, 1), (44, .aload_n 2, 1), (45, .invokevirtual 55, 3), (48, .ifCond .eq 7, 3), (51, .iconst 1, 1), (52, .goto 4, 3), (55, .iconst 0, 1), (56, .ireturn, 1), (57, .iload_n 3, 1), (58, .ifCond .eq 24, 3), (61, .iload 5, 2), (63, .invokestatic 59, 3), (66, .ifCond .eq 16, 3), (69, .aload_n 0, 1), (70, .iload 5, 2), (72, .invokevirtual 63, 3), (75, .aload_n 1, 1), (76, .invokevirtual 38, 3), (79, .goto 62, 3), (82, .iload_n 3, 1), (83, .ifCond .eq 32, 3), (86, .aload_n 1, 1), (87, .aload_n 2, 1), (88, .iconst 0, 1), (89, .iconst (-1), 1), (90, .invokevirtual 67, 3), (93, .invokestatic 73, 3)]
def zi_56_1 : zIns := [(96, .ifCond .ne 5, 3), (99, .iconst 0, 1), (100, .ireturn, 1), (101, .aload_n 0, 1), (102, .aload_n 2, 1), (103, .aload_n 2, 1), (104, .invokevirtual 77, 3), (107, .invokevirtual 80, 3), (110, .iconst 0, 1), (111, .istore_n 3, 1), (112, .goto 29, 3), (115, .aload_n 0, 1), (116, .aload_n 1, 1), (117, .aload_n 2, 1), (118, .iload 5, 2), (120, .invokevirtual 84, 3), (123, .ifCond .ne 5, 3), (126, .iconst 0, 1), (127, .ireturn, 1), (128, .iload 5, 2), (130, .bipush 41, 2), (132, .if_icmp .eq 7, 3), (135, .iconst 1, 1), (136, .goto 4, 3), (139, .iconst 0, 1), (140, .istore_n 3, 1), (141, .iinc 4 1, 3), (144, .goto (-125), 3), (147, .iconst 0, 1), (148, .ireturn, 1)]
def zi_56 : zIns := zi_56_0 ++ (zi_56_1)
def zi_57 : zIns := [(0, .iload_n 0, 1), (1, .bipush 45, 2), (3, .if_icmp .eq 15, 3), (6, .iload_n 0, 1), (7, .bipush 43, 2), (9, .if_icmp .eq 9, 3), (12, .iload_n 0, 1), (13, .bipush 40, 2), (15, .if_icmp .ne 7, 3), (18, .iconst 1, 1), (19, .goto 4, 3), (22, .iconst 0, 1), (23, .ireturn, 1)]
def zi_58 : zIns := [(0, .aload_n 0, 1), (1, .aload_n 1, 1), (2, .invokevirtual 88, 3), (5, .aload_n 0, 1), (6, .getfield 49, 3), (9, .ifCond .ne 7, 3), (12, .iconst 1, 1), (13, .goto 4, 3), (16, .iconst 0, 1), (17, .ireturn, 1)]
def zi_59 : zIns := [(0, .iload_n 3, 1), (1, .bipush 38, 2), (3, .if_icmp .ne 11, 3), (6, .aload_n 0, 1), (7, .iload_n 3, 1), (8, .invokevirtual 63, 3), (11, .goto 62, 3), (14, .iload_n 3, 1), (15, .bipush 124, 2), (17, .if_icmp .ne 16, 3), (20, .aload_n 0, 1), (21, .aload_n 2, 1), (22, .invokevirtual 88, 3), (25, .aload_n 0, 1), (26, .iload_n 3, 1), (27, .invokevirtual 63, 3), (30, .goto 43, 3), (33, .iload_n 3, 1), (34, .bipush 41, 2), (36, .if_icmp .ne 35, 3), (39, .aload_n 0, 1), (40, .aload_n 2, 1), (41, .invokevirtual 88, 3), (44, .aload_n 0, 1), (45, .invokevirtual 92, 3), (48, .bipush 40, 2), (50, .if_icmp .eq 5, 3), (53, .iconst 0, 1), (54, .ireturn, 1), (55, .aload_n 0, 1), (56, .invokevirtual 95, 3), (59, .aload_n 0, 1), (60, .aload_n 2, 1), (61, .aload_n 0, 1), (62, .invokevirtual 98, 3), (65, .invokevirtual 80, 3), (68, .goto 5, 3), (71, .iconst 0, 1), (72, .ireturn, 1), (73, .aload_n 1, 1), (74, .invokevirtual 38, 3), (77, .iconst 1, 1), (78, .ireturn, 1)]
def zi_60_0 : zIns := [(0, .iload_n 2, 1), (1, .istore_n 3, 1), (2, .aload_n 0, 1), (3, .getfield 49, 3), (6, .ifCond .le 61, 3), (9, .aload_n 0, 1), (10, .invokevirtual 92, 3), (13, .bipush 45, 2), (15, .if_icmp .eq 12, 3), (18, .aload_n 0, 1), (19, .invokevirtual 92, 3), (22, .bipush 43, 2), (24, .if_icmp .ne 43, 3), (27, .aload_n 1, 1), (28, .aload_n 0, 1), (29, .invokevirtual 92, 3), (32, .bipush 45, 2), (34, .if_icmp .ne 8, 3), (37, .bipush 8, 2), (39, .goto 5, 3), (42, .bipush 9, 2), (44, .iload_n 3, 1), (45, .iconst (-1), 1), (46, .invokevirtual 101, 3), (49, .aload_n 1, 1), (50, .invokevirtual 77, 3), (53, .istore_n 3, 1), (54, .aload_n 0, 1), (55, .dup, 1), (56, .getfield 49, 3), (59, .iconst 1, 1), (60, .isub, 1), (61, .putfield 49, 3), (64, .goto (-62), 3), (67, .aload_n 0, 1), (68, .invokevirtual 92, 3), (71, .bipush 38, 2), (73, .if_icmp .ne 23, 3), (76, .aload_n 0, 1), (77, .invokevirtual 95, 3), (80, .aload_n 1, 1), (81, .bipush 6, 2), (83, .aload_n 0, 1), (84, .invokevirtual 98, 3), (87, .iload_n 3, 1), (88, .invokevirtual 101, 3), (91, .aload_n 1, 1), (92, .invokevirtual 77, 3), (95, .istore_n 3, 1), (96, .aload_n 0, 1)]
def zi_60_1 : zIns := [(97, .iload_n 3, 1), (98, .invokevirtual 105, 3), (101, .return_, 1)]
def zi_60 : zIns := zi_60_0 ++ (zi_60_1)
def zi_61 : zIns := [(0, .aload_n 0, 1), (1, .invokevirtual 92, 3), (4, .bipush 124, 2), (6, .if_icmp .ne 41, 3), (9, .aload_n 0, 1), (10, .getfield 52, 3), (13, .iconst 2, 1), (14, .if_icmp .lt 33, 3), (17, .aload_n 0, 1), (18, .invokevirtual 95, 3), (21, .aload_n 0, 1), (22, .invokevirtual 98, 3), (25, .istore_n 2, 1), (26, .aload_n 0, 1), (27, .invokevirtual 98, 3), (30, .istore_n 3, 1), (31, .aload_n 1, 1), (32, .bipush 7, 2), (34, .iload_n 3, 1), (35, .iload_n 2, 1), (36, .invokevirtual 101, 3), (39, .aload_n 0, 1), (40, .aload_n 1, 1), (41, .invokevirtual 77, 3), (44, .invokevirtual 105, 3), (47, .return_, 1)]
def zi_62 : zIns := [(0, .aload_n 0, 1), (1, .getfield 49, 3), (4, .aload_n 0, 1), (5, .getfield 17, 3), (8, .arraylength, 1), (9, .if_icmp .ge 23, 3), (12, .aload_n 0, 1), (13, .getfield 17, 3), (16, .aload_n 0, 1), (17, .getfield 49, 3), (20, .iload_n 1, 1), (21, .iastore, 1), (22, .aload_n 0, 1), (23, .dup, 1), (24, .getfield 49, 3), (27, .iconst 1, 1), (28, .iadd, 1), (29, .putfield 49, 3), (32, .return_, 1)]
def zi_63 : zIns := [(0, .aload_n 0, 1), (1, .getfield 49, 3), (4, .ifCond .le 17, 3), (7, .aload_n 0, 1), (8, .getfield 17, 3), (11, .aload_n 0, 1), (12, .getfield 49, 3), (15, .iconst 1, 1), (16, .isub, 1), (17, .iaload, 1), (18, .goto 4, 3), (21, .iconst (-1), 1), (22, .ireturn, 1)]
def zi_64 : zIns := [(0, .aload_n 0, 1), (1, .getfield 49, 3), (4, .ifCond .le 13, 3), (7, .aload_n 0, 1), (8, .dup, 1), (9, .getfield 49, 3), (12, .iconst 1, 1), (13, .isub, 1), (14, .putfield 49, 3), (17, .return_, 1)]
def zi_65 : zIns := [(0, .aload_n 0, 1), (1, .getfield 52, 3), (4, .aload_n 0, 1), (5, .getfield 20, 3), (8, .arraylength, 1), (9, .if_icmp .ge 23, 3), (12, .aload_n 0, 1), (13, .getfield 20, 3), (16, .aload_n 0, 1), (17, .getfield 52, 3), (20, .iload_n 1, 1), (21, .iastore, 1), (22, .aload_n 0, 1), (23, .dup, 1), (24, .getfield 52, 3), (27, .iconst 1, 1), (28, .iadd, 1), (29, .putfield 52, 3), (32, .return_, 1)]
def zi_66 : zIns := [(0, .aload_n 0, 1), (1, .getfield 52, 3), (4, .ifCond .gt 5, 3), (7, .iconst (-1), 1), (8, .ireturn, 1), (9, .aload_n 0, 1), (10, .dup, 1), (11, .getfield 52, 3), (14, .iconst 1, 1), (15, .isub, 1), (16, .putfield 52, 3), (19, .aload_n 0, 1), (20, .getfield 20, 3), (23, .aload_n 0, 1), (24, .getfield 52, 3), (27, .iaload, 1), (28, .ireturn, 1)]
def zi_67 : zIns := [(0, .aload_n 0, 1), (1, .invokevirtual 108, 3), (4, .istore_n 2, 1), (5, .iload_n 2, 1), (6, .iconst (-1), 1), (7, .if_icmp .ne 5, 3), (10, .iconst 0, 1), (11, .ireturn, 1), (12, .aload_n 0, 1), (13, .invokevirtual 38, 3), (16, .aload_n 1, 1), (17, .iload_n 2, 1), (18, .iconst 0, 1), (19, .invokevirtual 111, 3), (22, .aload_n 0, 1), (23, .invokevirtual 117, 3), (26, .iconst (-1), 1), (27, .if_icmp .eq 9, 3), (30, .aload_n 0, 1), (31, .aload_n 1, 1), (32, .invokestatic 120, 3), (35, .ireturn, 1), (36, .aload_n 0, 1), (37, .invokevirtual 34, 3), (40, .lookupswitch 59 #[(37, 53), (63, 42), (91, 36)], 36), (76, .aload_n 0, 1), (77, .aload_n 1, 1), (78, .invokestatic 123, 3), (81, .ireturn, 1), (82, .aload_n 1, 1), (83, .iconst 2, 1), (84, .putfield 126, 3), (87, .aload_n 0, 1), (88, .invokevirtual 38, 3), (91, .iconst 1, 1), (92, .ireturn, 1), (93, .aload_n 0, 1), (94, .aload_n 1, 1), (95, .invokestatic 129, 3), (98, .ireturn, 1), (99, .aload_n 0, 1), (100, .aload_n 1, 1), (101, .invokestatic 132, 3), (104, .ireturn, 1)]
def zi_68 : zIns := [(0, .aload_n 1, 1), (1, .aload_n 0, 1), (2, .invokevirtual 117, 3), (5, .putfield 135, 3), (8, .aload_n 0, 1), (9, .invokevirtual 38, 3), (12, .aload_n 0, 1), (13, .iconst 1, 1), (14, .bipush 9, 2), (16, .invokevirtual 41, 3), (19, .istore_n 2, 1), (20, .aload_n 0, 1), (21, .invokevirtual 108, 3), (24, .istore_n 3, 1), (25, .iload_n 2, 1), (26, .iconst (-1), 1), (27, .if_icmp .eq 17, 3), (30, .aload_n 1, 1), (31, .iconst 0, 1), (32, .putfield 126, 3), (35, .aload_n 1, 1), (36, .iconst 0, 1), (37, .iload_n 2, 1), (38, .invokevirtual 138, 3), (41, .goto 32, 3), (44, .iload_n 3, 1), (45, .iconst (-1), 1), (46, .if_icmp .eq 25, 3), (49, .aload_n 1, 1), (50, .iload_n 3, 1), (51, .invokevirtual 141, 3), (54, .ifCond .ne 17, 3), (57, .aload_n 1, 1), (58, .iconst 3, 1), (59, .putfield 126, 3), (62, .aload_n 1, 1), (63, .iload_n 3, 1), (64, .iconst 0, 1), (65, .invokevirtual 111, 3), (68, .goto 5, 3), (71, .iconst 0, 1), (72, .ireturn, 1), (73, .aload_n 0, 1), (74, .invokevirtual 38, 3), (77, .iconst 1, 1), (78, .ireturn, 1)]
def zi_69_0 : zIns := [(0, .aload_n 1, 1), (1, .iconst 1, 1), (2, .putfield 126, 3), (5, .aload_n 0, 1), (6, .invokevirtual 38, 3), (9, .iconst 0, 1), (10, .istore_n 2, 1), (11, .aload_n 0, 1), (12, .iconst 1, 1), (13, .bipush 9, 2), (15, .invokevirtual 41, 3), (18, .istore_n 3, 1), (19, .iconst 0, 1), (20, .istore 4, 2), (22, .iload 4, 2), (24, .sipush 250, 3), (27, .if_icmp .ge 32, 3), (30, .iload_n 3, 1), (31, .iconst (-1), 1), (32, .if_icmp .eq 27, 3), (35, .iload_n 2, 1), (36, .iconst 1, 1), (37, .iload_n 3, 1), (38, .ishl, 1), (39, .ior, 1), (40, .istore_n 2, 1), (41, .aload_n 0, 1), (42, .invokevirtual 38, 3), (45, .aload_n 0, 1), (46, .iconst 1, 1), (47, .bipush 9, 2), (49, .invokevirtual 41, 3), (52, .istore_n 3, 1), (53, .iinc 4 1, 3), (56, .goto (-34), 3), (59, .iload_n 2, 1), (60, .ifCond .eq 12, 3), (63, .aload_n 0, 1), (64, .invokevirtual 34, 3), (67, .bipush 93, 2), (69, .if_icmp .eq 5, 3), (72, .iconst 0, 1), (73, .ireturn, 1), (74, .aload_n 1, 1), (75, .iconst 0, 1), (76, .iload_n 2, 1), (77, .invokevirtual 138, 3), (80, .aload_n 0, 1), (81, .invokevirtual 38, 3), (84, .iconst 1, 1)]
def zi_69_1 : zIns := [(85, .ireturn, 1)]
def zi_69 : zIns := zi_69_0 ++ (zi_69_1)
def zi_70 : zIns := [(0, .aload_n 1, 1), (1, .iconst 4, 1), (2, .putfield 126, 3), (5, .aload_n 0, 1), (6, .invokevirtual 38, 3), (9, .aload_n 0, 1), (10, .iconst 2, 1), (11, .bipush 9, 2), (13, .invokevirtual 41, 3), (16, .istore_n 2, 1), (17, .iload_n 2, 1), (18, .iconst (-1), 1), (19, .if_icmp .ne 5, 3), (22, .iconst 0, 1), (23, .ireturn, 1), (24, .aload_n 0, 1), (25, .invokevirtual 38, 3), (28, .aload_n 0, 1), (29, .iconst 0, 1), (30, .iload_n 2, 1), (31, .iconst 1, 1), (32, .isub, 1), (33, .invokevirtual 41, 3), (36, .istore_n 3, 1), (37, .iload_n 3, 1), (38, .iconst (-1), 1), (39, .if_icmp .ne 5, 3), (42, .iconst 0, 1), (43, .ireturn, 1), (44, .aload_n 0, 1), (45, .invokevirtual 38, 3), (48, .aload_n 1, 1), (49, .iconst 0, 1), (50, .iload_n 2, 1), (51, .invokevirtual 138, 3), (54, .aload_n 1, 1), (55, .iload_n 3, 1), (56, .putfield 144, 3), (59, .iconst 1, 1), (60, .ireturn, 1)]
def zi_71_0 : zIns := [(0, .aload_n 1, 1), (1, .iconst 5, 1), (2, .putfield 126, 3), (5, .aload_n 0, 1), (6, .invokevirtual 108, 3), (9, .istore_n 2, 1), (10, .iconst 1, 1), (11, .istore_n 3, 1), (12, .iload_n 3, 1), (13, .iconst 3, 1), (14, .if_icmp .ge 39, 3), (17, .iload_n 2, 1), (18, .iconst (-1), 1), (19, .if_icmp .eq 34, 3), (22, .aload_n 1, 1), (23, .iload_n 2, 1), (24, .invokevirtual 141, 3), (27, .ifCond .eq 5, 3), (30, .iconst 0, 1), (31, .ireturn, 1), (32, .aload_n 1, 1), (33, .iload_n 2, 1), (34, .iconst 0, 1), (35, .invokevirtual 111, 3), (38, .aload_n 0, 1), (39, .invokevirtual 38, 3), (42, .aload_n 0, 1), (43, .invokevirtual 108, 3), (46, .istore_n 2, 1), (47, .iinc 3 1, 3), (50, .goto (-38), 3), (53, .aload_n 1, 1), (54, .aload_n 0, 1), (55, .invokevirtual 117, 3), (58, .putfield 135, 3), (61, .aload_n 1, 1), (62, .invokevirtual 147, 3), (65, .iconst 2, 1), (66, .if_icmp .lt 11, 3), (69, .aload_n 1, 1), (70, .getfield 135, 3), (73, .iconst (-1), 1), (74, .if_icmp .ne 5, 3), (77, .iconst 0, 1), (78, .ireturn, 1), (79, .aload_n 0, 1), (80, .invokevirtual 38, 3), (83, .iconst 0, 1), (84, .istore_n 3, 1), (85, .iload_n 3, 1)]
def zi_71_1 : zIns := [(86, .aload_n 1, 1), (87, .invokevirtual 147, 3), (90, .if_icmp .ge 37, 3), (93, .aload_n 0, 1), (94, .iconst 1, 1), (95, .bipush 9, 2), (97, .invokevirtual 41, 3), (100, .istore 4, 2), (102, .iload 4, 2), (104, .iconst (-1), 1), (105, .if_icmp .ne 5, 3), (108, .iconst 0, 1), (109, .ireturn, 1), (110, .aload_n 1, 1), (111, .iload_n 3, 1), (112, .iload 4, 2), (114, .invokevirtual 138, 3), (117, .aload_n 0, 1), (118, .invokevirtual 38, 3), (121, .iinc 3 1, 3), (124, .goto (-39), 3), (127, .iconst 1, 1), (128, .ireturn, 1)]
def zi_71 : zIns := zi_71_0 ++ (zi_71_1)
def zi_72 : zIns := [(0, .aload_n 0, 1), (1, .invokespecial 3, 3), (4, .aload_n 0, 1), (5, .bipush 8, 2), (7, .newarray .int, 2), (9, .putfield 11, 3), (12, .aload_n 0, 1), (13, .bipush 8, 2), (15, .newarray .int, 2), (17, .putfield 15, 3), (20, .aload_n 0, 1), (21, .sipush 320, 3), (24, .newarray .long, 2), (26, .putfield 18, 3), (29, .iconst 0, 1), (30, .istore_n 1, 1), (31, .iload_n 1, 1), (32, .bipush 8, 2), (34, .if_icmp .ge 16, 3), (37, .aload_n 0, 1), (38, .getfield 11, 3), (41, .iload_n 1, 1), (42, .iconst (-1), 1), (43, .iastore, 1), (44, .iinc 1 1, 3), (47, .goto (-16), 3), (50, .return_, 1)]
def zi_73 : zIns := [(0, .iload_n 0, 1), (1, .iconst 0, 1), (2, .bipush 7, 2), (4, .invokestatic 22, 3), (7, .ireturn, 1)]
def zi_74 : zIns := [(0, .aload_n 0, 1), (1, .getfield 11, 3), (4, .iload_n 1, 1), (5, .iaload, 1), (6, .ireturn, 1)]
def zi_75 : zIns := [(0, .aload_n 0, 1), (1, .getfield 11, 3), (4, .iload_n 1, 1), (5, .iconst (-1), 1), (6, .iastore, 1), (7, .return_, 1)]
def zi_76 : zIns := [(0, .aload_n 0, 1), (1, .getfield 11, 3), (4, .iload_n 1, 1), (5, .bipush 10, 2), (7, .iload_n 2, 1), (8, .iadd, 1), (9, .iastore, 1), (10, .return_, 1)]
def zi_77 : zIns := [(0, .aload_n 0, 1), (1, .getfield 11, 3), (4, .iload_n 1, 1), (5, .iaload, 1), (6, .bipush 10, 2), (8, .if_icmp .lt 15, 3), (11, .aload_n 0, 1), (12, .getfield 11, 3), (15, .iload_n 1, 1), (16, .iaload, 1), (17, .bipush 10, 2), (19, .isub, 1), (20, .goto 4, 3), (23, .iconst (-1), 1), (24, .ireturn, 1)]
def zi_78 : zIns := [(0, .aload_n 0, 1), (1, .getfield 11, 3), (4, .iload_n 1, 1), (5, .iload_n 2, 1), (6, .iastore, 1), (7, .aload_n 0, 1), (8, .getfield 15, 3), (11, .iload_n 1, 1), (12, .iload_n 3, 1), (13, .iastore, 1), (14, .iconst 0, 1), (15, .istore 4, 2), (17, .iload 4, 2), (19, .iload_n 3, 1), (20, .if_icmp .ge 22, 3), (23, .aload_n 0, 1), (24, .getfield 18, 3), (27, .iload_n 1, 1), (28, .bipush 40, 2), (30, .imul, 1), (31, .iload 4, 2), (33, .iadd, 1), (34, .lconst 0, 1), (35, .lastore, 1), (36, .iinc 4 1, 3), (39, .goto (-22), 3), (42, .return_, 1)]
def zi_79 : zIns := [(0, .aload_n 0, 1), (1, .getfield 11, 3), (4, .iload_n 1, 1), (5, .iaload, 1), (6, .bipush 10, 2), (8, .if_icmp .lt 6, 3), (11, .bipush (-103), 2), (13, .ireturn, 1), (14, .aload_n 0, 1), (15, .getfield 11, 3), (18, .iload_n 1, 1), (19, .iaload, 1), (20, .iconst (-1), 1), (21, .if_icmp .ne 8, 3), (24, .bipush (-104), 2), (26, .goto 4, 3), (29, .iconst 0, 1), (30, .ireturn, 1)]
def zi_80 : zIns := [(0, .aload_n 0, 1), (1, .iload_n 1, 1), (2, .invokevirtual 26, 3), (5, .istore_n 3, 1), (6, .iload_n 3, 1), (7, .ifCond .ne 16, 3), (10, .aload_n 0, 1), (11, .getfield 15, 3), (14, .iload_n 1, 1), (15, .iaload, 1), (16, .iload_n 2, 1), (17, .if_icmp .ge 6, 3), (20, .bipush (-102), 2), (22, .ireturn, 1), (23, .iload_n 3, 1), (24, .ireturn, 1)]
def zi_81 : zIns := [(0, .aload_n 0, 1), (1, .iload_n 1, 1), (2, .invokevirtual 26, 3), (5, .istore_n 3, 1), (6, .aload_n 0, 1), (7, .iload_n 2, 1), (8, .invokevirtual 26, 3), (11, .istore 4, 2), (13, .iload_n 3, 1), (14, .bipush (-103), 2), (16, .if_icmp .eq 10, 3), (19, .iload 4, 2), (21, .bipush (-103), 2), (23, .if_icmp .ne 6, 3), (26, .bipush (-103), 2), (28, .ireturn, 1), (29, .iload_n 3, 1), (30, .bipush (-104), 2), (32, .if_icmp .eq 10, 3), (35, .iload 4, 2), (37, .bipush (-104), 2), (39, .if_icmp .ne 6, 3), (42, .bipush (-104), 2), (44, .ireturn, 1), (45, .aload_n 0, 1), (46, .getfield 11, 3), (49, .iload_n 1, 1), (50, .iaload, 1), (51, .aload_n 0, 1), (52, .getfield 11, 3), (55, .iload_n 2, 1), (56, .iaload, 1), (57, .if_icmp .ne 7, 3), (60, .iconst 0, 1), (61, .goto 5, 3), (64, .bipush (-103), 2), (66, .ireturn, 1)]
def zi_82 : zIns := [(0, .iload_n 2, 1), (1, .iconst 0, 1), (2, .aload_n 0, 1), (3, .getfield 15, 3), (6, .iload_n 1, 1), (7, .iaload, 1), (8, .iconst 1, 1), (9, .isub, 1), (10, .invokestatic 22, 3), (13, .ireturn, 1)]
def zi_83 : zIns := [(0, .iload_n 3, 1), (1, .iconst 0, 1), (2, .aload_n 0, 1), (3, .getfield 15, 3), (6, .iload_n 1, 1), (7, .iaload, 1), (8, .invokestatic 22, 3), (11, .ifCond .eq 23, 3), (14, .iload_n 2, 1), (15, .iconst 0, 1), (16, .aload_n 0, 1), (17, .getfield 15, 3), (20, .iload_n 1, 1), (21, .iaload, 1), (22, .iload_n 3, 1), (23, .isub, 1), (24, .invokestatic 22, 3), (27, .ifCond .eq 7, 3), (30, .iconst 1, 1), (31, .goto 4, 3), (34, .iconst 0, 1), (35, .ireturn, 1)]
def zi_84 : zIns := [(0, .aload_n 0, 1), (1, .getfield 18, 3), (4, .iload_n 1, 1), (5, .bipush 40, 2), (7, .imul, 1), (8, .iload_n 2, 1), (9, .iadd, 1), (10, .laload, 1), (11, .lreturn, 1)]
def zi_85 : zIns := [(0, .aload_n 0, 1), (1, .getfield 18, 3), (4, .iload_n 1, 1), (5, .bipush 40, 2), (7, .imul, 1), (8, .iload_n 2, 1), (9, .iadd, 1), (10, .aload_n 0, 1), (11, .getfield 11, 3), (14, .iload_n 1, 1), (15, .iaload, 1), (16, .lload_n 3, 1), (17, .invokestatic 30, 3), (20, .lastore, 1), (21, .return_, 1)]
def zi_86 : zIns := [(0, .aload_n 0, 1), (1, .getfield 18, 3), (4, .iload_n 1, 1), (5, .bipush 40, 2), (7, .imul, 1), (8, .iload_n 3, 1), (9, .iadd, 1), (10, .aload_n 0, 1), (11, .getfield 18, 3), (14, .iload_n 2, 1), (15, .bipush 40, 2), (17, .imul, 1), (18, .iload 4, 2), (20, .iadd, 1), (21, .iload 5, 2), (23, .invokestatic 34, 3), (26, .return_, 1)]
def zi_87 : zIns := [(0, .iload_n 0, 1), (1, .tableswitch 47 0 3 #[31, 36, 41, 45], 31), (32, .lload_n 1, 1), (33, .l2i, 1), (34, .i2b, 1), (35, .i2l, 1), (36, .lreturn, 1), (37, .lload_n 1, 1), (38, .l2i, 1), (39, .i2s, 1), (40, .i2l, 1), (41, .lreturn, 1), (42, .lload_n 1, 1), (43, .l2i, 1), (44, .i2l, 1), (45, .lreturn, 1), (46, .lload_n 1, 1), (47, .lreturn, 1), (48, .lload_n 1, 1), (49, .lconst 0, 1), (50, .lcmp, 1), (51, .ifCond .eq 7, 3), (54, .lconst 1, 1), (55, .goto 4, 3), (58, .lconst 0, 1), (59, .lreturn, 1)]
def zi_88 : zIns := [(0, .iconst 0, 1), (1, .istore_n 2, 1), (2, .iload_n 2, 1), (3, .bipush 8, 2), (5, .if_icmp .ge 25, 3), (8, .aload_n 0, 1), (9, .iload_n 2, 1), (10, .invokevirtual 40, 3), (13, .iload_n 1, 1), (14, .if_icmp .lt 10, 3), (17, .aload_n 0, 1), (18, .getfield 11, 3), (21, .iload_n 2, 1), (22, .iconst (-1), 1), (23, .iastore, 1), (24, .iinc 2 1, 3), (27, .goto (-25), 3), (30, .return_, 1)]
def zi_89 : zIns := [(0, .iconst 0, 1), (1, .istore_n 1, 1), (2, .iconst 0, 1), (3, .istore_n 2, 1), (4, .iload_n 2, 1), (5, .bipush 8, 2), (7, .if_icmp .ge 22, 3), (10, .aload_n 0, 1), (11, .getfield 11, 3), (14, .iload_n 2, 1), (15, .iaload, 1), (16, .iconst (-1), 1), (17, .if_icmp .eq 6, 3), (20, .iinc 1 1, 3), (23, .iinc 2 1, 3), (26, .goto (-22), 3), (29, .iload_n 1, 1), (30, .ireturn, 1)]
def zi_90 : zIns := [(0, .aload_n 0, 1), (1, .invokespecial 3, 3), (4, .aload_n 0, 1), (5, .sipush 1000, 3), (8, .newarray .byte, 2), (10, .putfield 9, 3), (13, .aload_n 0, 1), (14, .sipush 500, 3), (17, .newarray .int, 2), (19, .putfield 15, 3), (22, .aload_n 0, 1), (23, .sipush 500, 3), (26, .newarray .int, 2), (28, .putfield 19, 3), (31, .aload_n 0, 1), (32, .sipush 1000, 3), (35, .newarray .int, 2), (37, .putfield 22, 3), (40, .aload_n 0, 1), (41, .sipush 500, 3), (44, .newarray .int, 2), (46, .putfield 25, 3), (49, .aload_n 0, 1), (50, .sipush 1000, 3), (53, .newarray .int, 2), (55, .putfield 28, 3), (58, .aload_n 0, 1), (59, .sipush 500, 3), (62, .newarray .int, 2), (64, .putfield 31, 3), (67, .aload_n 0, 1), (68, .sipush 500, 3), (71, .newarray .boolean, 2), (73, .putfield 34, 3), (76, .aload_n 0, 1), (77, .sipush 500, 3), (80, .newarray .int, 2), (82, .putfield 38, 3), (85, .return_, 1)]
def zi_91_0 : zIns := [(0, .aload_n 0, 1), (1, .iconst 0, 1), (2, .putfield 41, 3), (5, .iconst 0, 1), (6, .istore_n 3, 1), (7, .iconst 0, 1), (8, .istore 4, 2), (10, .iload 4, 2), (12, .sipush 1000, 3), (15, .if_icmp .ge 124, 3), (18, .aload_n 0, 1), (19, .getfield 9, 3), (22, .iload 4, 2), (24, .aload_n 1, 1), (25, .getfield 45, 3), (28, .iload_n 2, 1), (29, .iload 4, 2), (31, .invokestatic 48, 3), (34, .baload, 1), (35, .bastore, 1), (36, .aload_n 0, 1), (37, .getfield 9, 3), (40, .iload 4, 2), (42, .baload, 1), (43, .iconst 1, 1), (44, .if_icmp .ne 7, 3), (47, .iconst 1, 1), (48, .goto 4, 3), (51, .iconst 0, 1), (52, .istore 5, 2), (54, .iload 5, 2), (56, .ifCond .eq 38, 3), (59, .iload_n 3, 1), (60, .ifCond .ne 34, 3), (63, .aload_n 0, 1), (64, .getfield 41, 3), (67, .sipush 500, 3), (70, .if_icmp .ge 24, 3), (73, .aload_n 0, 1), (74, .getfield 15, 3), (77, .aload_n 0, 1), (78, .getfield 41, 3), (81, .iload 4, 2), (83, .iastore, 1), (84, .aload_n 0, 1), (85, .dup, 1), (86, .getfield 41, 3), (89, .iconst 1, 1), (90, .iadd, 1), (91, .putfield 41, 3)]
def zi_91_1 : zIns := [(94, .iload 5, 2), (96, .ifCond .eq 23, 3), (99, .aload_n 0, 1), (100, .getfield 41, 3), (103, .ifCond .le 16, 3), (106, .aload_n 0, 1), (107, .getfield 19, 3), (110, .aload_n 0, 1), (111, .getfield 41, 3), (114, .iconst 1, 1), (115, .isub, 1), (116, .iload 4, 2), (118, .iastore, 1), (119, .aload_n 0, 1), (120, .getfield 22, 3), (123, .iload 4, 2), (125, .aload_n 0, 1), (126, .getfield 41, 3), (129, .iastore, 1), (130, .iload 5, 2), (132, .istore_n 3, 1), (133, .iinc 4 1, 3), (136, .goto (-126), 3), (139, .return_, 1)]
def zi_91 : zIns := zi_91_0 ++ (zi_91_1)
def zi_92 : zIns := [(0, .sipush 1000, 3), (3, .aload_n 0, 1), (4, .getfield 15, 3), (7, .iload_n 1, 1), (8, .iaload, 1), (9, .imul, 1), (10, .aload_n 0, 1), (11, .getfield 19, 3), (14, .iload_n 1, 1), (15, .iaload, 1), (16, .iadd, 1), (17, .ireturn, 1)]
def zi_93 : zIns := [(0, .aload_n 0, 1), (1, .getfield 41, 3), (4, .iload_n 1, 1), (5, .invokestatic 52, 3), (8, .ireturn, 1)]
def zi_94 : zIns := [(0, .aload_n 0, 1), (1, .getfield 15, 3), (4, .iload_n 1, 1), (5, .iconst 1, 1), (6, .iadd, 1), (7, .iaload, 1), (8, .aload_n 0, 1), (9, .getfield 19, 3), (12, .iload_n 1, 1), (13, .iaload, 1), (14, .isub, 1), (15, .iconst 1, 1), (16, .isub, 1), (17, .ireturn, 1)]
def zi_95_0 : zIns := [(0, .iconst 0, 1), (1, .istore_n 1, 1), (2, .iload_n 1, 1), (3, .sipush 1000, 3), (6, .if_icmp .ge 16, 3), (9, .aload_n 0, 1), (10, .getfield 28, 3), (13, .iload_n 1, 1), (14, .iconst (-1), 1), (15, .iastore, 1), (16, .iinc 1 1, 3), (19, .goto (-17), 3), (22, .aload_n 0, 1), (23, .getfield 41, 3), (26, .iconst 2, 1), (27, .isub, 1), (28, .istore_n 1, 1), (29, .iload_n 1, 1), (30, .ifCond .lt 34, 3), (33, .aload_n 0, 1), (34, .iload_n 1, 1), (35, .invokevirtual 57, 3), (38, .istore_n 2, 1), (39, .aload_n 0, 1), (40, .getfield 31, 3), (43, .iload_n 1, 1), (44, .aload_n 0, 1), (45, .getfield 28, 3), (48, .iload_n 2, 1), (49, .iaload, 1), (50, .iastore, 1), (51, .aload_n 0, 1), (52, .getfield 28, 3), (55, .iload_n 2, 1), (56, .iload_n 1, 1), (57, .iastore, 1), (58, .iinc 1 (-1), 3), (61, .goto (-32), 3), (64, .iconst 0, 1), (65, .istore_n 1, 1), (66, .iconst 0, 1), (67, .istore_n 2, 1), (68, .iload_n 2, 1), (69, .sipush 1000, 3), (72, .if_icmp .ge 51, 3), (75, .aload_n 0, 1), (76, .getfield 28, 3), (79, .iload_n 2, 1), (80, .iaload, 1), (81, .istore_n 3, 1)]
def zi_95_1 : zIns := [(82, .iload_n 3, 1), (83, .iconst (-1), 1), (84, .if_icmp .eq 33, 3), (87, .iload_n 1, 1), (88, .aload_n 0, 1), (89, .getfield 41, 3), (92, .iconst 1, 1), (93, .isub, 1), (94, .if_icmp .ge 23, 3), (97, .aload_n 0, 1), (98, .getfield 25, 3), (101, .iload_n 1, 1), (102, .iload_n 3, 1), (103, .iastore, 1), (104, .iinc 1 1, 3), (107, .aload_n 0, 1), (108, .getfield 31, 3), (111, .iload_n 3, 1), (112, .iaload, 1), (113, .istore_n 3, 1), (114, .goto (-32), 3), (117, .iinc 2 1, 3), (120, .goto (-52), 3), (123, .return_, 1)]
def zi_95 : zIns := zi_95_0 ++ (zi_95_1)
def zi_96 : zIns := [(0, .aload_n 0, 1), (1, .invokevirtual 61, 3), (4, .iconst 0, 1), (5, .istore_n 2, 1), (6, .iload_n 2, 1), (7, .aload_n 0, 1), (8, .getfield 41, 3), (11, .iconst 1, 1), (12, .isub, 1), (13, .if_icmp .ge 16, 3), (16, .aload_n 0, 1), (17, .getfield 34, 3), (20, .iload_n 2, 1), (21, .iconst 0, 1), (22, .bastore, 1), (23, .iinc 2 1, 3), (26, .goto (-20), 3), (29, .iconst 0, 1), (30, .istore_n 2, 1), (31, .iload_n 2, 1), (32, .aload_n 0, 1), (33, .getfield 41, 3), (36, .iload_n 1, 1), (37, .iconst 1, 1), (38, .invokestatic 64, 3), (41, .isub, 1), (42, .if_icmp .ge 21, 3), (45, .aload_n 0, 1), (46, .getfield 34, 3), (49, .aload_n 0, 1), (50, .getfield 25, 3), (53, .iload_n 2, 1), (54, .iaload, 1), (55, .iconst 1, 1), (56, .bastore, 1), (57, .iinc 2 1, 3), (60, .goto (-29), 3), (63, .return_, 1)]
def zi_97 : zIns := [(0, .iconst 0, 1), (1, .istore_n 2, 1), (2, .iconst 0, 1), (3, .istore_n 3, 1), (4, .iconst 0, 1), (5, .istore 4, 2), (7, .iload 4, 2), (9, .aload_n 0, 1), (10, .getfield 41, 3), (13, .if_icmp .ge 62, 3), (16, .iload 4, 2), (18, .aload_n 0, 1), (19, .getfield 41, 3), (22, .iconst 1, 1), (23, .isub, 1), (24, .if_icmp .eq 13, 3), (27, .aload_n 0, 1), (28, .getfield 34, 3), (31, .iload 4, 2), (33, .baload, 1), (34, .ifCond .ne 35, 3), (37, .iload_n 2, 1), (38, .iload_n 1, 1), (39, .if_icmp .ne 22, 3), (42, .sipush 1000, 3), (45, .aload_n 0, 1), (46, .getfield 15, 3), (49, .iload_n 3, 1), (50, .iaload, 1), (51, .imul, 1), (52, .aload_n 0, 1), (53, .getfield 19, 3), (56, .iload 4, 2), (58, .iaload, 1), (59, .iadd, 1), (60, .ireturn, 1), (61, .iinc 2 1, 3), (64, .iload 4, 2), (66, .iconst 1, 1), (67, .iadd, 1), (68, .istore_n 3, 1), (69, .iinc 4 1, 3), (72, .goto (-65), 3), (75, .iconst (-1), 1), (76, .ireturn, 1)]
def zi_98 : zIns := [(0, .aload_n 0, 1), (1, .getfield 22, 3), (4, .iload_n 1, 1), (5, .iaload, 1), (6, .iconst 1, 1), (7, .isub, 1), (8, .istore_n 2, 1), (9, .aload_n 0, 1), (10, .getfield 9, 3), (13, .iload_n 1, 1), (14, .baload, 1), (15, .iconst 1, 1), (16, .if_icmp .eq 21, 3), (19, .iload_n 2, 1), (20, .iconst 0, 1), (21, .aload_n 0, 1), (22, .getfield 41, 3), (25, .iconst 2, 1), (26, .isub, 1), (27, .invokestatic 67, 3), (30, .ifCond .eq 7, 3), (33, .iload_n 2, 1), (34, .goto 4, 3), (37, .iconst (-1), 1), (38, .ireturn, 1)]
def zi_99 : zIns := [(0, .aload_n 0, 1), (1, .iload_n 1, 1), (2, .invokevirtual 71, 3), (5, .istore_n 2, 1), (6, .aload_n 0, 1), (7, .getfield 9, 3), (10, .iload_n 1, 1), (11, .baload, 1), (12, .iconst 1, 1), (13, .if_icmp .eq 17, 3), (16, .iload_n 2, 1), (17, .iconst (-1), 1), (18, .if_icmp .eq 16, 3), (21, .aload_n 0, 1), (22, .getfield 34, 3), (25, .iload_n 2, 1), (26, .baload, 1), (27, .ifCond .eq 7, 3), (30, .iconst 1, 1), (31, .goto 4, 3), (34, .iconst 0, 1), (35, .ireturn, 1)]
def zi_100 : zIns := [(0, .iconst 0, 1), (1, .istore_n 1, 1), (2, .iconst 0, 1), (3, .istore_n 2, 1), (4, .iload_n 2, 1), (5, .aload_n 0, 1), (6, .getfield 41, 3), (9, .iconst 1, 1), (10, .isub, 1), (11, .if_icmp .ge 26, 3), (14, .aload_n 0, 1), (15, .getfield 34, 3), (18, .iload_n 2, 1), (19, .baload, 1), (20, .ifCond .eq 11, 3), (23, .iload_n 1, 1), (24, .aload_n 0, 1), (25, .iload_n 2, 1), (26, .invokevirtual 57, 3), (29, .iadd, 1), (30, .istore_n 1, 1), (31, .iinc 2 1, 3), (34, .goto (-30), 3), (37, .iload_n 1, 1), (38, .ireturn, 1)]
def zi_101 : zIns := [(0, .iconst 0, 1), (1, .istore_n 3, 1), (2, .iconst 0, 1), (3, .istore 4, 2), (5, .iload 4, 2), (7, .aload_n 1, 1), (8, .getfield 74, 3), (11, .if_icmp .ge 26, 3), (14, .aload_n 0, 1), (15, .aload_n 1, 1), (16, .iload 4, 2), (18, .iload_n 2, 1), (19, .invokevirtual 77, 3), (22, .invokevirtual 80, 3), (25, .ifCond .eq 6, 3), (28, .iinc 3 1, 3), (31, .iinc 4 1, 3), (34, .goto (-29), 3), (37, .iload_n 3, 1), (38, .ireturn, 1)]
def zi_102_0 : zIns := [(0, .aload_n 0, 1), (1, .invokevirtual 61, 3), (4, .aload_n 1, 1), (5, .getfield 84, 3), (8, .aload_n 0, 1), (9, .getfield 41, 3), (12, .imul, 1), (13, .aload_n 0, 1), (14, .aload_n 1, 1), (15, .iload_n 2, 1), (16, .invokevirtual 87, 3), (19, .iadd, 1), (20, .istore_n 3, 1), (21, .aload_n 0, 1), (22, .iconst 1, 1), (23, .putfield 91, 3), (26, .aload_n 0, 1), (27, .iload_n 3, 1), (28, .putfield 94, 3), (31, .iconst 0, 1), (32, .istore 4, 2), (34, .aload_n 0, 1), (35, .getfield 41, 3), (38, .istore 5, 2), (40, .iload 5, 2), (42, .iconst 1, 1), (43, .if_icmp .lt 74, 3), (46, .iload 5, 2), (48, .bipush 40, 2), (50, .if_icmp .gt 30, 3), (53, .iload 4, 2), (55, .ifCond .eq 11, 3), (58, .iload_n 3, 1), (59, .aload_n 0, 1), (60, .getfield 94, 3), (63, .if_icmp .gt 17, 3), (66, .iconst 1, 1), (67, .istore 4, 2), (69, .aload_n 0, 1), (70, .iload 5, 2), (72, .putfield 91, 3), (75, .aload_n 0, 1), (76, .iload_n 3, 1), (77, .putfield 94, 3), (80, .iload 5, 2), (82, .iconst 1, 1), (83, .if_icmp .le 28, 3), (86, .iload_n 3, 1), (87, .aload_n 0, 1), (88, .getfield 38, 3)]
def zi_102_1 : zIns := [(91, .aload_n 0, 1), (92, .getfield 25, 3), (95, .aload_n 0, 1), (96, .getfield 41, 3), (99, .iload 5, 2), (101, .isub, 1), (102, .iaload, 1), (103, .iaload, 1), (104, .aload_n 1, 1), (105, .getfield 84, 3), (108, .isub, 1), (109, .iadd, 1), (110, .istore_n 3, 1), (111, .iinc 5 (-1), 3), (114, .goto (-74), 3), (117, .return_, 1)]
def zi_102 : zIns := zi_102_0 ++ (zi_102_1)
def zi_103_0 : zIns := [(0, .iconst 0, 1), (1, .istore_n 3, 1), (2, .iload_n 3, 1), (3, .aload_n 0, 1), (4, .getfield 41, 3), (7, .iconst 1, 1), (8, .isub, 1), (9, .if_icmp .ge 16, 3), (12, .aload_n 0, 1), (13, .getfield 38, 3), (16, .iload_n 3, 1), (17, .iconst 0, 1), (18, .iastore, 1), (19, .iinc 3 1, 3), (22, .goto (-20), 3), (25, .iconst 0, 1), (26, .istore_n 3, 1), (27, .iconst 0, 1), (28, .istore 4, 2), (30, .iload 4, 2), (32, .aload_n 1, 1), (33, .getfield 74, 3), (36, .if_icmp .ge 60, 3), (39, .aload_n 1, 1), (40, .iload 4, 2), (42, .iload_n 2, 1), (43, .invokevirtual 77, 3), (46, .istore 5, 2), (48, .aload_n 0, 1), (49, .iload 5, 2), (51, .invokevirtual 71, 3), (54, .istore 6, 2), (56, .aload_n 0, 1), (57, .getfield 9, 3), (60, .iload 5, 2), (62, .baload, 1), (63, .iconst 1, 1), (64, .if_icmp .ne 9, 3), (67, .iinc 3 1, 3), (70, .goto 20, 3), (73, .iload 6, 2), (75, .iconst (-1), 1), (76, .if_icmp .eq 14, 3), (79, .aload_n 0, 1), (80, .getfield 38, 3), (83, .iload 6, 2), (85, .dup2, 1), (86, .iaload, 1), (87, .iconst 1, 1), (88, .iadd, 1)]
def zi_103_1 : zIns := [(89, .iastore, 1), (90, .iinc 4 1, 3), (93, .goto (-63), 3), (96, .iload_n 3, 1), (97, .ireturn, 1)]
def zi_103 : zIns := zi_103_0 ++ (zi_103_1)
def zi_104 : zIns := [(0, .aload_n 0, 1), (1, .invokespecial 3, 3), (4, .aload_n 0, 1), (5, .sipush 250, 3), (8, .newarray .int, 2), (10, .putfield 11, 3), (13, .aload_n 0, 1), (14, .iconst 0, 1), (15, .putfield 15, 3), (18, .aload_n 0, 1), (19, .iconst 0, 1), (20, .putfield 19, 3), (23, .return_, 1)]
def zi_105 : zIns := [(0, .aload_n 0, 1), (1, .getfield 15, 3), (4, .sipush 250, 3), (7, .if_icmp .ge 23, 3), (10, .aload_n 0, 1), (11, .getfield 11, 3), (14, .aload_n 0, 1), (15, .getfield 15, 3), (18, .iload_n 1, 1), (19, .iastore, 1), (20, .aload_n 0, 1), (21, .dup, 1), (22, .getfield 15, 3), (25, .iconst 1, 1), (26, .iadd, 1), (27, .putfield 15, 3), (30, .return_, 1)]
def zi_106 : zIns := [(0, .aload_n 0, 1), (1, .iconst 0, 1), (2, .putfield 15, 3), (5, .return_, 1)]
def zi_107 : zIns := [(0, .aload_n 0, 1), (1, .iconst 0, 1), (2, .putfield 19, 3), (5, .return_, 1)]
def zi_108 : zIns := [(0, .aload_n 0, 1), (1, .getfield 19, 3), (4, .aload_n 0, 1), (5, .getfield 15, 3), (8, .if_icmp .ge 30, 3), (11, .aload_n 0, 1), (12, .getfield 11, 3), (15, .aload_n 0, 1), (16, .getfield 19, 3), (19, .iaload, 1), (20, .bipush 32, 2), (22, .if_icmp .ne 16, 3), (25, .aload_n 0, 1), (26, .dup, 1), (27, .getfield 19, 3), (30, .iconst 1, 1), (31, .iadd, 1), (32, .putfield 19, 3), (35, .goto (-35), 3), (38, .aload_n 0, 1), (39, .getfield 19, 3), (42, .aload_n 0, 1), (43, .getfield 15, 3), (46, .if_icmp .ge 15, 3), (49, .aload_n 0, 1), (50, .getfield 11, 3), (53, .aload_n 0, 1), (54, .getfield 19, 3), (57, .iaload, 1), (58, .goto 4, 3), (61, .iconst (-1), 1), (62, .ireturn, 1)]
def zi_109 : zIns := [(0, .aload_n 0, 1), (1, .getfield 19, 3), (4, .aload_n 0, 1), (5, .getfield 15, 3), (8, .if_icmp .ge 13, 3), (11, .aload_n 0, 1), (12, .dup, 1), (13, .getfield 19, 3), (16, .iconst 1, 1), (17, .iadd, 1), (18, .putfield 19, 3), (21, .return_, 1)]
def zi_110 : zIns := [(0, .aload_n 0, 1), (1, .invokevirtual 22, 3), (4, .istore_n 1, 1), (5, .iload_n 1, 1), (6, .bipush 97, 2), (8, .bipush 99, 2), (10, .invokestatic 26, 3), (13, .ifCond .eq 10, 3), (16, .iload_n 1, 1), (17, .bipush 97, 2), (19, .isub, 1), (20, .goto 4, 3), (23, .iconst (-1), 1), (24, .ireturn, 1)]
def zi_111 : zIns := [(0, .aload_n 0, 1), (1, .invokevirtual 22, 3), (4, .lookupswitch 52 #[(60, 44), (61, 46), (62, 48), (126, 50)], 44), (48, .iconst 0, 1), (49, .ireturn, 1), (50, .iconst 1, 1), (51, .ireturn, 1), (52, .iconst 2, 1), (53, .ireturn, 1), (54, .iconst 3, 1), (55, .ireturn, 1), (56, .iconst (-1), 1), (57, .ireturn, 1)]
def zi_112 : zIns := [(0, .aload_n 0, 1), (1, .invokevirtual 22, 3), (4, .istore_n 3, 1), (5, .iload_n 3, 1), (6, .bipush 48, 2), (8, .iload_n 1, 1), (9, .iadd, 1), (10, .bipush 48, 2), (12, .iload_n 2, 1), (13, .iadd, 1), (14, .invokestatic 26, 3), (17, .ifCond .eq 10, 3), (20, .iload_n 3, 1), (21, .bipush 48, 2), (23, .isub, 1), (24, .goto 4, 3), (27, .iconst (-1), 1), (28, .ireturn, 1)]
def zi_113_0 : zIns := [(0, .aload_n 0, 1), (1, .invokespecial 1, 3), (4, .aload_n 0, 1), (5, .new 7, 3), (8, .dup, 1), (9, .invokespecial 9, 3), (12, .putfield 10, 3), (15, .aload_n 0, 1), (16, .new 7, 3), (19, .dup, 1), (20, .invokespecial 9, 3), (23, .putfield 16, 3), (26, .aload_n 0, 1), (27, .new 19, 3), (30, .dup, 1), (31, .invokespecial 21, 3), (34, .putfield 22, 3), (37, .aload_n 0, 1), (38, .new 19, 3), (41, .dup, 1), (42, .invokespecial 21, 3), (45, .putfield 26, 3), (48, .aload_n 0, 1), (49, .new 29, 3), (52, .dup, 1), (53, .invokespecial 31, 3), (56, .putfield 32, 3), (59, .aload_n 0, 1), (60, .new 36, 3), (63, .dup, 1), (64, .invokespecial 38, 3), (67, .putfield 39, 3), (70, .aload_n 0, 1), (71, .new 43, 3), (74, .dup, 1), (75, .invokespecial 45, 3), (78, .putfield 46, 3), (81, .aload_n 0, 1), (82, .new 50, 3), (85, .dup, 1), (86, .invokespecial 52, 3), (89, .putfield 53, 3), (92, .aload_n 0, 1), (93, .new 57, 3), (96, .dup, 1), (97, .invokespecial 59, 3), (100, .putfield 60, 3), (103, .aload_n 0, 1), (104, .iconst 5, 1), (105, .newarray .int, 2)]
def zi_113_1 : zIns := [(107, .putfield 64, 3), (110, .aload_n 0, 1), (111, .sipush 1000, 3), (114, .newarray .boolean, 2), (116, .putfield 68, 3), (119, .aload_n 0, 1), (120, .iconst 0, 1), (121, .putfield 72, 3), (124, .return_, 1)]
def zi_113 : zIns := zi_113_0 ++ (zi_113_1)
def zi_114 : zIns := [(0, .iload_n 1, 1), (1, .invokestatic 76, 3), (4, .ifCond .eq 22, 3), (7, .iload_n 2, 1), (8, .iconst 0, 1), (9, .iconst 4, 1), (10, .invokestatic 80, 3), (13, .ifCond .eq 13, 3), (16, .iload_n 3, 1), (17, .iconst 0, 1), (18, .bipush 40, 2), (20, .invokestatic 80, 3), (23, .ifCond .ne 10, 3), (26, .aload_n 0, 1), (27, .bipush (-102), 2), (29, .invokevirtual 84, 3), (32, .ireturn, 1), (33, .aload_n 0, 1), (34, .getfield 32, 3), (37, .iload_n 1, 1), (38, .iload_n 2, 1), (39, .iload_n 3, 1), (40, .invokevirtual 88, 3), (43, .iconst 1, 1), (44, .ireturn, 1)]
def zi_115 : zIns := [(0, .iload_n 1, 1), (1, .invokestatic 76, 3), (4, .ifCond .ne 10, 3), (7, .aload_n 0, 1), (8, .bipush (-102), 2), (10, .invokevirtual 84, 3), (13, .ireturn, 1), (14, .aload_n 0, 1), (15, .getfield 32, 3), (18, .iload_n 1, 1), (19, .invokevirtual 92, 3), (22, .istore 5, 2), (24, .iload 5, 2), (26, .ifCond .eq 10, 3), (29, .aload_n 0, 1), (30, .iload 5, 2), (32, .invokevirtual 84, 3), (35, .ireturn, 1), (36, .aload_n 0, 1), (37, .getfield 32, 3), (40, .iload_n 1, 1), (41, .iload_n 2, 1), (42, .invokevirtual 95, 3), (45, .ifCond .ne 10, 3), (48, .aload_n 0, 1), (49, .bipush (-102), 2), (51, .invokevirtual 84, 3), (54, .ireturn, 1), (55, .aload_n 0, 1), (56, .getfield 32, 3), (59, .iload_n 1, 1), (60, .iload_n 2, 1), (61, .lload_n 3, 1), (62, .invokevirtual 99, 3), (65, .iconst 1, 1), (66, .ireturn, 1)]
def zi_116 : zIns := [(0, .iload_n 1, 1), (1, .invokestatic 76, 3), (4, .ifCond .eq 10, 3), (7, .iload_n 2, 1), (8, .invokestatic 76, 3), (11, .ifCond .ne 10, 3), (14, .aload_n 0, 1), (15, .bipush (-102), 2), (17, .invokevirtual 84, 3), (20, .ireturn, 1), (21, .aload_n 0, 1), (22, .getfield 32, 3), (25, .iload_n 1, 1), (26, .iload_n 2, 1), (27, .invokevirtual 103, 3), (30, .istore 6, 2), (32, .iload 6, 2), (34, .ifCond .eq 10, 3), (37, .aload_n 0, 1), (38, .iload 6, 2), (40, .invokevirtual 84, 3), (43, .ireturn, 1), (44, .aload_n 0, 1), (45, .getfield 32, 3), (48, .iload_n 1, 1), (49, .iload_n 3, 1), (50, .iload 5, 2), (52, .invokevirtual 107, 3), (55, .ifCond .eq 18, 3), (58, .aload_n 0, 1), (59, .getfield 32, 3), (62, .iload_n 2, 1), (63, .iload 4, 2), (65, .iload 5, 2), (67, .invokevirtual 107, 3), (70, .ifCond .ne 10, 3), (73, .aload_n 0, 1), (74, .bipush (-102), 2), (76, .invokevirtual 84, 3), (79, .ireturn, 1), (80, .aload_n 0, 1), (81, .getfield 32, 3), (84, .iload_n 1, 1), (85, .iload_n 2, 1), (86, .iload_n 3, 1), (87, .iload 4, 2), (89, .iload 5, 2), (91, .invokevirtual 110, 3), (94, .iload 5, 2), (96, .ireturn, 1)]
def zi_117 : zIns := [(0, .iload_n 1, 1), (1, .invokestatic 76, 3), (4, .ifCond .eq 26, 3), (7, .aload_n 0, 1), (8, .getfield 32, 3), (11, .iload_n 1, 1), (12, .invokevirtual 92, 3), (15, .ifCond .ne 15, 3), (18, .aload_n 0, 1), (19, .getfield 32, 3), (22, .iload_n 1, 1), (23, .iload_n 2, 1), (24, .invokevirtual 95, 3), (27, .ifCond .ne 5, 3), (30, .lconst 0, 1), (31, .lreturn, 1), (32, .aload_n 0, 1), (33, .getfield 32, 3), (36, .iload_n 1, 1), (37, .iload_n 2, 1), (38, .invokevirtual 114, 3), (41, .lreturn, 1)]
def zi_118 : zIns := [(0, .iload_n 1, 1), (1, .invokestatic 76, 3), (4, .ifCond .eq 14, 3), (7, .aload_n 0, 1), (8, .getfield 32, 3), (11, .iload_n 1, 1), (12, .invokevirtual 118, 3), (15, .goto 4, 3), (18, .iconst (-1), 1), (19, .ireturn, 1)]
def zi_119 : zIns := [(0, .iload_n 1, 1), (1, .invokestatic 76, 3), (4, .ifCond .eq 19, 3), (7, .iload_n 2, 1), (8, .iconst (-1), 1), (9, .if_icmp .eq 21, 3), (12, .aload_n 0, 1), (13, .getfield 22, 3), (16, .iload_n 2, 1), (17, .invokevirtual 121, 3), (20, .ifCond .ne 10, 3), (23, .aload_n 0, 1), (24, .bipush (-102), 2), (26, .invokevirtual 84, 3), (29, .ireturn, 1), (30, .iload_n 2, 1), (31, .iconst (-1), 1), (32, .if_icmp .ne 14, 3), (35, .aload_n 0, 1), (36, .getfield 32, 3), (39, .iload_n 1, 1), (40, .invokevirtual 124, 3), (43, .goto 12, 3), (46, .aload_n 0, 1), (47, .getfield 32, 3), (50, .iload_n 1, 1), (51, .iload_n 2, 1), (52, .invokevirtual 128, 3), (55, .iconst 1, 1), (56, .ireturn, 1)]
def zi_120 : zIns := [(0, .iload_n 1, 1), (1, .invokestatic 76, 3), (4, .ifCond .eq 13, 3), (7, .iload_n 2, 1), (8, .iconst 0, 1), (9, .bipush 6, 2), (11, .invokestatic 80, 3), (14, .ifCond .ne 10, 3), (17, .aload_n 0, 1), (18, .bipush (-102), 2), (20, .invokevirtual 84, 3), (23, .ireturn, 1), (24, .aload_n 0, 1), (25, .getfield 32, 3), (28, .iload_n 1, 1), (29, .invokevirtual 118, 3), (32, .iconst (-1), 1), (33, .if_icmp .ne 10, 3), (36, .aload_n 0, 1), (37, .bipush (-104), 2), (39, .invokevirtual 84, 3), (42, .ireturn, 1), (43, .aload_n 0, 1), (44, .getfield 32, 3), (47, .iload_n 1, 1), (48, .invokevirtual 132, 3), (51, .istore_n 3, 1), (52, .aload_n 0, 1), (53, .getfield 22, 3), (56, .iload_n 3, 1), (57, .invokevirtual 121, 3), (60, .ifCond .eq 18, 3), (63, .aload_n 0, 1), (64, .getfield 22, 3), (67, .iload_n 3, 1), (68, .invokevirtual 135, 3), (71, .iload_n 2, 1), (72, .invokevirtual 139, 3), (75, .ifCond .ne 10, 3), (78, .aload_n 0, 1), (79, .bipush (-103), 2), (81, .invokevirtual 84, 3), (84, .ireturn, 1), (85, .aload_n 0, 1), (86, .getfield 22, 3), (89, .iload_n 3, 1), (90, .invokevirtual 135, 3), (93, .iload_n 2, 1), (94, .invokevirtual 144, 3), (97, .ireturn, 1)]
def zi_121 : zIns := [(0, .iload_n 1, 1), (1, .invokestatic 147, 3), (4, .ifCond .eq 17, 3), (7, .iload_n 2, 1), (8, .invokestatic 147, 3), (11, .ifCond .eq 10, 3), (14, .iload_n 3, 1), (15, .invokestatic 147, 3), (18, .ifCond .ne 10, 3), (21, .aload_n 0, 1), (22, .bipush (-102), 2), (24, .invokevirtual 84, 3), (27, .ireturn, 1), (28, .aload_n 0, 1), (29, .getfield 10, 3), (32, .getfield 150, 3), (35, .bipush 60, 2), (37, .if_icmp .lt 10, 3), (40, .aload_n 0, 1), (41, .bipush (-106), 2), (43, .invokevirtual 84, 3), (46, .ireturn, 1), (47, .aload_n 0, 1), (48, .getfield 10, 3), (51, .iload_n 1, 1), (52, .iload_n 2, 1), (53, .iload_n 3, 1), (54, .invokevirtual 154, 3), (57, .aload_n 0, 1), (58, .getfield 10, 3), (61, .getfield 150, 3), (64, .iconst 1, 1), (65, .isub, 1), (66, .ireturn, 1)]
def zi_122 : zIns := [(0, .aload_n 0, 1), (1, .getfield 10, 3), (4, .iload_n 1, 1), (5, .invokevirtual 157, 3), (8, .ifCond .eq 17, 3), (11, .iload_n 2, 1), (12, .invokestatic 158, 3), (15, .ifCond .eq 10, 3), (18, .iload_n 3, 1), (19, .invokestatic 147, 3), (22, .ifCond .ne 10, 3), (25, .aload_n 0, 1), (26, .bipush (-102), 2), (28, .invokevirtual 84, 3), (31, .ireturn, 1), (32, .aload_n 0, 1), (33, .getfield 10, 3), (36, .iload_n 1, 1), (37, .iload_n 2, 1), (38, .invokevirtual 161, 3), (41, .istore 4, 2), (43, .aload_n 0, 1), (44, .getfield 10, 3), (47, .iload_n 1, 1), (48, .iload_n 2, 1), (49, .iload_n 3, 1), (50, .invokevirtual 164, 3), (53, .iload 4, 2), (55, .ireturn, 1)]
def zi_123 : zIns := [(0, .aload_n 0, 1), (1, .getfield 10, 3), (4, .iload_n 1, 1), (5, .invokevirtual 157, 3), (8, .ifCond .ne 10, 3), (11, .aload_n 0, 1), (12, .bipush (-102), 2), (14, .invokevirtual 84, 3), (17, .ireturn, 1), (18, .aload_n 0, 1), (19, .getfield 10, 3), (22, .iload_n 1, 1), (23, .invokevirtual 166, 3), (26, .aload_n 0, 1), (27, .getfield 10, 3), (30, .getfield 150, 3), (33, .ireturn, 1)]
def zi_124 : zIns := [(0, .iload_n 1, 1), (1, .iconst 0, 1), (2, .bipush 20, 2), (4, .invokestatic 80, 3), (7, .ifCond .ne 10, 3), (10, .aload_n 0, 1), (11, .bipush (-102), 2), (13, .invokevirtual 84, 3), (16, .ireturn, 1), (17, .aload_n 0, 1), (18, .getfield 10, 3), (21, .getfield 169, 3), (24, .istore_n 2, 1), (25, .aload_n 0, 1), (26, .getfield 10, 3), (29, .iload_n 1, 1), (30, .putfield 169, 3), (33, .iload_n 2, 1), (34, .ireturn, 1)]
def zi_125 : zIns := [(0, .iload_n 1, 1), (1, .iconst 0, 1), (2, .sipush 255, 3), (5, .invokestatic 80, 3), (8, .ifCond .ne 10, 3), (11, .aload_n 0, 1), (12, .bipush (-102), 2), (14, .invokevirtual 84, 3), (17, .ireturn, 1), (18, .aload_n 0, 1), (19, .getfield 39, 3), (22, .getfield 172, 3), (25, .sipush 250, 3), (28, .if_icmp .lt 10, 3), (31, .aload_n 0, 1), (32, .bipush (-106), 2), (34, .invokevirtual 84, 3), (37, .ireturn, 1), (38, .aload_n 0, 1), (39, .getfield 39, 3), (42, .iload_n 1, 1), (43, .invokevirtual 175, 3), (46, .aload_n 0, 1), (47, .getfield 39, 3), (50, .getfield 172, 3), (53, .ireturn, 1)]
def zi_126 : zIns := [(0, .aload_n 0, 1), (1, .getfield 39, 3), (4, .getfield 172, 3), (7, .istore_n 1, 1), (8, .aload_n 0, 1), (9, .getfield 39, 3), (12, .invokevirtual 178, 3), (15, .iload_n 1, 1), (16, .ireturn, 1)]
def zi_127_0 : zIns := [(0, .aload_n 0, 1), (1, .getfield 46, 3), (4, .aload_n 0, 1), (5, .getfield 39, 3), (8, .invokevirtual 181, 3), (11, .istore_n 1, 1), (12, .aload_n 0, 1), (13, .getfield 39, 3), (16, .getfield 185, 3), (19, .istore_n 2, 1), (20, .aload_n 0, 1), (21, .getfield 39, 3), (24, .invokevirtual 178, 3), (27, .iload_n 1, 1), (28, .ifCond .ne 16, 3), (31, .aload_n 0, 1), (32, .bipush (-102), 2), (34, .invokevirtual 84, 3), (37, .pop, 1), (38, .sipush (-200), 3), (41, .iload_n 2, 1), (42, .isub, 1), (43, .ireturn, 1), (44, .aload_n 0, 1), (45, .getfield 46, 3), (48, .invokevirtual 188, 3), (51, .istore_n 3, 1), (52, .aload_n 0, 1), (53, .getfield 10, 3), (56, .getfield 150, 3), (59, .iload_n 3, 1), (60, .iadd, 1), (61, .bipush 60, 2), (63, .if_icmp .le 10, 3), (66, .aload_n 0, 1), (67, .bipush (-106), 2), (69, .invokevirtual 84, 3), (72, .ireturn, 1), (73, .iconst 0, 1), (74, .istore 4, 2), (76, .iload 4, 2), (78, .iload_n 3, 1), (79, .if_icmp .ge 46, 3), (82, .aload_n 0, 1), (83, .getfield 10, 3), (86, .aload_n 0, 1), (87, .getfield 46, 3), (90, .iload 4, 2), (92, .iconst 0, 1), (93, .invokevirtual 192, 3)]
def zi_127_1 : zIns := [(96, .aload_n 0, 1), (97, .getfield 46, 3), (100, .iload 4, 2), (102, .iconst 1, 1), (103, .invokevirtual 192, 3), (106, .aload_n 0, 1), (107, .getfield 46, 3), (110, .iload 4, 2), (112, .iconst 2, 1), (113, .invokevirtual 192, 3), (116, .invokevirtual 154, 3), (119, .iinc 4 1, 3), (122, .goto (-46), 3), (125, .iload_n 3, 1), (126, .ireturn, 1)]
def zi_127 : zIns := zi_127_0 ++ (zi_127_1)
def zi_128 : zIns := [(0, .aload_n 0, 1), (1, .getfield 46, 3), (4, .aload_n 0, 1), (5, .getfield 39, 3), (8, .aload_n 0, 1), (9, .getfield 22, 3), (12, .invokevirtual 195, 3), (15, .istore_n 1, 1), (16, .aload_n 0, 1), (17, .getfield 39, 3), (20, .getfield 185, 3), (23, .istore_n 2, 1), (24, .aload_n 0, 1), (25, .getfield 39, 3), (28, .invokevirtual 178, 3), (31, .iload_n 1, 1), (32, .ifCond .ne 23, 3), (35, .aload_n 0, 1), (36, .getfield 22, 3), (39, .invokevirtual 199, 3), (42, .aload_n 0, 1), (43, .bipush (-102), 2), (45, .invokevirtual 84, 3), (48, .pop, 1), (49, .sipush (-200), 3), (52, .iload_n 2, 1), (53, .isub, 1), (54, .ireturn, 1), (55, .aload_n 0, 1), (56, .invokevirtual 202, 3), (59, .ireturn, 1)]
def zi_129 : zIns := [(0, .iload_n 1, 1), (1, .invokestatic 158, 3), (4, .ifCond .eq 17, 3), (7, .iload_n 2, 1), (8, .invokestatic 205, 3), (11, .ifCond .eq 10, 3), (14, .iload_n 3, 1), (15, .invokestatic 208, 3), (18, .ifCond .ne 10, 3), (21, .aload_n 0, 1), (22, .bipush (-102), 2), (24, .invokevirtual 84, 3), (27, .ireturn, 1), (28, .aload_n 0, 1), (29, .getfield 22, 3), (32, .iconst 0, 1), (33, .iload_n 2, 1), (34, .invokevirtual 211, 3), (37, .iload_n 1, 1), (38, .iload_n 3, 1), (39, .invokevirtual 215, 3), (42, .aload_n 0, 1), (43, .invokevirtual 202, 3), (46, .ireturn, 1)]
def zi_130 : zIns := [(0, .iload_n 1, 1), (1, .invokestatic 158, 3), (4, .ifCond .eq 15, 3), (7, .iload_n 2, 1), (8, .ifCond .eq 11, 3), (11, .iload_n 2, 1), (12, .sipush (-1023), 3), (15, .iand, 1), (16, .ifCond .eq 10, 3), (19, .aload_n 0, 1), (20, .bipush (-102), 2), (22, .invokevirtual 84, 3), (25, .ireturn, 1), (26, .aload_n 0, 1), (27, .getfield 22, 3), (30, .iconst 1, 1), (31, .iconst (-1), 1), (32, .invokevirtual 211, 3), (35, .iload_n 1, 1), (36, .iload_n 2, 1), (37, .invokevirtual 215, 3), (40, .aload_n 0, 1), (41, .invokevirtual 202, 3), (44, .ireturn, 1)]
def zi_131 : zIns := [(0, .iload_n 1, 1), (1, .invokestatic 158, 3), (4, .ifCond .ne 10, 3), (7, .aload_n 0, 1), (8, .bipush (-102), 2), (10, .invokevirtual 84, 3), (13, .ireturn, 1), (14, .aload_n 0, 1), (15, .getfield 22, 3), (18, .iconst 2, 1), (19, .iconst (-1), 1), (20, .invokevirtual 211, 3), (23, .iload_n 1, 1), (24, .iconst 0, 1), (25, .invokevirtual 215, 3), (28, .aload_n 0, 1), (29, .invokevirtual 202, 3), (32, .ireturn, 1)]
def zi_132 : zIns := [(0, .iload_n 1, 1), (1, .invokestatic 158, 3), (4, .ifCond .eq 22, 3), (7, .iload_n 2, 1), (8, .invokestatic 205, 3), (11, .ifCond .eq 15, 3), (14, .iload_n 3, 1), (15, .invokestatic 158, 3), (18, .ifCond .eq 8, 3), (21, .iload_n 1, 1), (22, .iload_n 3, 1), (23, .if_icmp .ne 10, 3), (26, .aload_n 0, 1), (27, .bipush (-102), 2), (29, .invokevirtual 84, 3), (32, .ireturn, 1), (33, .aload_n 0, 1), (34, .getfield 22, 3), (37, .iconst 3, 1), (38, .iload_n 2, 1), (39, .invokevirtual 211, 3), (42, .astore 4, 2), (44, .aload 4, 2), (46, .iload_n 1, 1), (47, .iconst 0, 1), (48, .invokevirtual 215, 3), (51, .aload 4, 2), (53, .iload_n 3, 1), (54, .iconst 0, 1), (55, .invokevirtual 215, 3), (58, .aload_n 0, 1), (59, .invokevirtual 202, 3), (62, .ireturn, 1)]
def zi_133 : zIns := [(0, .iload_n 1, 1), (1, .invokestatic 158, 3), (4, .ifCond .eq 24, 3), (7, .iload_n 2, 1), (8, .iconst 2, 1), (9, .bipush 9, 2), (11, .invokestatic 80, 3), (14, .ifCond .eq 14, 3), (17, .iload_n 3, 1), (18, .iconst 0, 1), (19, .iload_n 2, 1), (20, .iconst 1, 1), (21, .isub, 1), (22, .invokestatic 80, 3), (25, .ifCond .ne 10, 3), (28, .aload_n 0, 1), (29, .bipush (-102), 2), (31, .invokevirtual 84, 3), (34, .ireturn, 1), (35, .aload_n 0, 1), (36, .getfield 22, 3), (39, .iconst 4, 1), (40, .iconst (-1), 1), (41, .invokevirtual 211, 3), (44, .astore 4, 2), (46, .aload 4, 2), (48, .iload_n 1, 1), (49, .iload_n 2, 1), (50, .invokevirtual 215, 3), (53, .aload 4, 2), (55, .iload_n 3, 1), (56, .putfield 218, 3), (59, .aload_n 0, 1), (60, .invokevirtual 202, 3), (63, .ireturn, 1)]
def zi_134_0 : zIns := [(0, .iload_n 1, 1), (1, .invokestatic 76, 3), (4, .ifCond .eq 19, 3), (7, .iload_n 3, 1), (8, .invokestatic 205, 3), (11, .ifCond .eq 12, 3), (14, .iload_n 2, 1), (15, .iconst 2, 1), (16, .iconst 3, 1), (17, .invokestatic 80, 3), (20, .ifCond .ne 10, 3), (23, .aload_n 0, 1), (24, .bipush (-102), 2), (26, .invokevirtual 84, 3), (29, .ireturn, 1), (30, .aload_n 0, 1), (31, .getfield 32, 3), (34, .iload_n 1, 1), (35, .iconst 2, 1), (36, .iload_n 2, 1), (37, .imul, 1), (38, .invokevirtual 221, 3), (41, .istore 4, 2), (43, .iload 4, 2), (45, .ifCond .eq 10, 3), (48, .aload_n 0, 1), (49, .iload 4, 2), (51, .invokevirtual 84, 3), (54, .ireturn, 1), (55, .aload_n 0, 1), (56, .iload_n 1, 1), (57, .iload_n 2, 1), (58, .invokevirtual 224, 3), (61, .ifCond .ne 10, 3), (64, .aload_n 0, 1), (65, .bipush (-105), 2), (67, .invokevirtual 84, 3), (70, .ireturn, 1), (71, .aload_n 0, 1), (72, .getfield 22, 3), (75, .iconst 5, 1), (76, .iload_n 3, 1), (77, .invokevirtual 211, 3), (80, .astore 5, 2), (82, .iconst 0, 1), (83, .istore 6, 2), (85, .iload 6, 2), (87, .iload_n 2, 1), (88, .if_icmp .ge 42, 3), (91, .aload 5, 2)]
def zi_134_1 : zIns := [(93, .aload_n 0, 1), (94, .getfield 32, 3), (97, .iload_n 1, 1), (98, .iconst 2, 1), (99, .iload 6, 2), (101, .imul, 1), (102, .invokevirtual 114, 3), (105, .l2i, 1), (106, .aload_n 0, 1), (107, .getfield 32, 3), (110, .iload_n 1, 1), (111, .iconst 2, 1), (112, .iload 6, 2), (114, .imul, 1), (115, .iconst 1, 1), (116, .iadd, 1), (117, .invokevirtual 114, 3), (120, .l2i, 1), (121, .invokevirtual 215, 3), (124, .iinc 6 1, 3), (127, .goto (-42), 3), (130, .aload_n 0, 1), (131, .invokevirtual 202, 3), (134, .ireturn, 1)]
def zi_134 : zIns := zi_134_0 ++ (zi_134_1)
def zi_135 : zIns := [(0, .iload_n 1, 1), (1, .bipush 6, 2), (3, .if_icmp .eq 9, 3), (6, .iload_n 1, 1), (7, .bipush 7, 2), (9, .if_icmp .ne 25, 3), (12, .aload_n 0, 1), (13, .getfield 22, 3), (16, .iload_n 2, 1), (17, .invokevirtual 121, 3), (20, .ifCond .eq 14, 3), (23, .aload_n 0, 1), (24, .getfield 22, 3), (27, .iload_n 3, 1), (28, .invokevirtual 121, 3), (31, .ifCond .ne 10, 3), (34, .aload_n 0, 1), (35, .bipush (-102), 2), (37, .invokevirtual 84, 3), (40, .ireturn, 1), (41, .aload_n 0, 1), (42, .getfield 22, 3), (45, .iload_n 1, 1), (46, .iload_n 2, 1), (47, .iload_n 3, 1), (48, .invokevirtual 227, 3), (51, .aload_n 0, 1), (52, .invokevirtual 202, 3), (55, .ireturn, 1)]
def zi_136 : zIns := [(0, .iload_n 1, 1), (1, .bipush 8, 2), (3, .if_icmp .eq 9, 3), (6, .iload_n 1, 1), (7, .bipush 9, 2), (9, .if_icmp .ne 14, 3), (12, .aload_n 0, 1), (13, .getfield 22, 3), (16, .iload_n 2, 1), (17, .invokevirtual 121, 3), (20, .ifCond .ne 10, 3), (23, .aload_n 0, 1), (24, .bipush (-102), 2), (26, .invokevirtual 84, 3), (29, .ireturn, 1), (30, .aload_n 0, 1), (31, .getfield 22, 3), (34, .iload_n 1, 1), (35, .iload_n 2, 1), (36, .iconst (-1), 1), (37, .invokevirtual 227, 3), (40, .aload_n 0, 1), (41, .invokevirtual 202, 3), (44, .ireturn, 1)]
def zi_137 : zIns := [(0, .aload_n 0, 1), (1, .getfield 22, 3), (4, .getfield 230, 3), (7, .ifCond .ne 10, 3), (10, .aload_n 0, 1), (11, .bipush (-105), 2), (13, .invokevirtual 84, 3), (16, .ireturn, 1), (17, .aload_n 0, 1), (18, .getfield 22, 3), (21, .dup, 1), (22, .getfield 230, 3), (25, .iconst 1, 1), (26, .isub, 1), (27, .putfield 230, 3), (30, .aload_n 0, 1), (31, .getfield 32, 3), (34, .aload_n 0, 1), (35, .getfield 22, 3), (38, .getfield 230, 3), (41, .invokevirtual 231, 3), (44, .aload_n 0, 1), (45, .getfield 22, 3), (48, .getfield 230, 3), (51, .ireturn, 1)]
def zi_138 : zIns := [(0, .aload_n 0, 1), (1, .getfield 22, 3), (4, .iload_n 1, 1), (5, .invokevirtual 121, 3), (8, .ifCond .ne 10, 3), (11, .aload_n 0, 1), (12, .bipush (-102), 2), (14, .invokevirtual 84, 3), (17, .ireturn, 1), (18, .aload_n 0, 1), (19, .getfield 22, 3), (22, .iload_n 1, 1), (23, .invokevirtual 135, 3), (26, .astore_n 3, 1), (27, .iload_n 2, 1), (28, .tableswitch 79 0 6 #[44, 49, 54, 59, 64, 69, 74], 44), (72, .aload_n 3, 1), (73, .getfield 234, 3), (76, .ireturn, 1), (77, .aload_n 3, 1), (78, .getfield 237, 3), (81, .ireturn, 1), (82, .aload_n 3, 1), (83, .getfield 240, 3), (86, .ireturn, 1), (87, .aload_n 3, 1), (88, .getfield 243, 3), (91, .ireturn, 1), (92, .aload_n 3, 1), (93, .getfield 246, 3), (96, .ireturn, 1), (97, .aload_n 3, 1), (98, .getfield 249, 3), (101, .ireturn, 1), (102, .aload_n 3, 1), (103, .getfield 252, 3), (106, .ireturn, 1), (107, .aload_n 0, 1), (108, .bipush (-102), 2), (110, .invokevirtual 84, 3), (113, .ireturn, 1)]
def zi_139 : zIns := [(0, .aload_n 0, 1), (1, .getfield 10, 3), (4, .iload_n 1, 1), (5, .invokevirtual 157, 3), (8, .ifCond .eq 10, 3), (11, .iload_n 2, 1), (12, .invokestatic 158, 3), (15, .ifCond .ne 10, 3), (18, .aload_n 0, 1), (19, .bipush (-102), 2), (21, .invokevirtual 84, 3), (24, .ireturn, 1), (25, .aload_n 0, 1), (26, .getfield 10, 3), (29, .iload_n 1, 1), (30, .iload_n 2, 1), (31, .invokevirtual 161, 3), (34, .ireturn, 1)]
def zi_140 : zIns := [(0, .aload_n 0, 1), (1, .getfield 10, 3), (4, .iload_n 1, 1), (5, .invokevirtual 157, 3), (8, .ifCond .eq 10, 3), (11, .iload_n 2, 1), (12, .invokestatic 255, 3), (15, .ifCond .ne 10, 3), (18, .aload_n 0, 1), (19, .bipush (-102), 2), (21, .invokevirtual 84, 3), (24, .ireturn, 1), (25, .aload_n 0, 1), (26, .getfield 10, 3), (29, .iload_n 1, 1), (30, .iload_n 2, 1), (31, .invokevirtual 258, 3), (34, .ireturn, 1)]
def zi_141 : zIns := [(0, .aload_n 0, 1), (1, .iload_n 1, 1), (2, .iload_n 2, 1), (3, .invokevirtual 261, 3), (6, .ifCond .eq 14, 3), (9, .iload_n 3, 1), (10, .iconst 0, 1), (11, .sipush 999, 3), (14, .invokestatic 80, 3), (17, .ifCond .ne 10, 3), (20, .aload_n 0, 1), (21, .bipush (-102), 2), (23, .invokevirtual 84, 3), (26, .ireturn, 1), (27, .aload_n 0, 1), (28, .getfield 22, 3), (31, .iload_n 1, 1), (32, .invokevirtual 135, 3), (35, .getfield 264, 3), (38, .iload_n 2, 1), (39, .iload_n 3, 1), (40, .invokestatic 268, 3), (43, .baload, 1), (44, .ireturn, 1)]
def zi_142 : zIns := [(0, .aload_n 0, 1), (1, .getfield 22, 3), (4, .iload_n 1, 1), (5, .invokevirtual 121, 3), (8, .ifCond .eq 10, 3), (11, .iload_n 2, 1), (12, .invokestatic 271, 3), (15, .ifCond .ne 10, 3), (18, .aload_n 0, 1), (19, .bipush (-102), 2), (21, .invokevirtual 84, 3), (24, .ireturn, 1), (25, .aload_n 0, 1), (26, .getfield 22, 3), (29, .iload_n 1, 1), (30, .invokevirtual 135, 3), (33, .iload_n 2, 1), (34, .invokevirtual 274, 3), (37, .ireturn, 1)]
def zi_143 : zIns := [(0, .aload_n 0, 1), (1, .getfield 22, 3), (4, .iload_n 1, 1), (5, .invokevirtual 121, 3), (8, .ifCond .eq 10, 3), (11, .iload_n 2, 1), (12, .invokestatic 271, 3), (15, .ifCond .ne 10, 3), (18, .aload_n 0, 1), (19, .bipush (-102), 2), (21, .invokevirtual 84, 3), (24, .ireturn, 1), (25, .aload_n 0, 1), (26, .getfield 10, 3), (29, .aload_n 0, 1), (30, .getfield 22, 3), (33, .iload_n 1, 1), (34, .invokevirtual 135, 3), (37, .iload_n 2, 1), (38, .invokevirtual 277, 3), (41, .ireturn, 1)]
def zi_144 : zIns := [(0, .aload_n 0, 1), (1, .getfield 22, 3), (4, .iload_n 1, 1), (5, .invokevirtual 121, 3), (8, .ifCond .eq 10, 3), (11, .iload_n 2, 1), (12, .invokestatic 158, 3), (15, .ifCond .ne 10, 3), (18, .aload_n 0, 1), (19, .bipush (-102), 2), (21, .invokevirtual 84, 3), (24, .ireturn, 1), (25, .aload_n 0, 1), (26, .getfield 22, 3), (29, .iload_n 1, 1), (30, .invokevirtual 135, 3), (33, .iload_n 2, 1), (34, .invokevirtual 281, 3), (37, .ireturn, 1)]
def zi_145 : zIns := [(0, .aload_n 0, 1), (1, .iload_n 1, 1), (2, .iload_n 2, 1), (3, .invokevirtual 261, 3), (6, .ifCond .ne 10, 3), (9, .aload_n 0, 1), (10, .bipush (-102), 2), (12, .invokevirtual 84, 3), (15, .ireturn, 1), (16, .aload_n 0, 1), (17, .getfield 53, 3), (20, .aload_n 0, 1), (21, .getfield 22, 3), (24, .iload_n 1, 1), (25, .invokevirtual 135, 3), (28, .iload_n 2, 1), (29, .invokevirtual 284, 3), (32, .aload_n 0, 1), (33, .getfield 53, 3), (36, .getfield 288, 3), (39, .ireturn, 1)]
def zi_146 : zIns := [(0, .aload_n 0, 1), (1, .iload_n 1, 1), (2, .iload_n 2, 1), (3, .invokevirtual 261, 3), (6, .ifCond .ne 10, 3), (9, .aload_n 0, 1), (10, .bipush (-102), 2), (12, .invokevirtual 84, 3), (15, .ireturn, 1), (16, .aload_n 0, 1), (17, .getfield 53, 3), (20, .aload_n 0, 1), (21, .getfield 22, 3), (24, .iload_n 1, 1), (25, .invokevirtual 135, 3), (28, .iload_n 2, 1), (29, .invokevirtual 284, 3), (32, .iload_n 3, 1), (33, .iconst 0, 1), (34, .aload_n 0, 1), (35, .getfield 53, 3), (38, .getfield 288, 3), (41, .iconst 1, 1), (42, .isub, 1), (43, .invokestatic 80, 3), (46, .ifCond .ne 10, 3), (49, .aload_n 0, 1), (50, .bipush (-102), 2), (52, .invokevirtual 84, 3), (55, .ireturn, 1), (56, .aload_n 0, 1), (57, .getfield 53, 3), (60, .iload_n 3, 1), (61, .invokevirtual 289, 3), (64, .ireturn, 1)]
def zi_147_0 : zIns := [(0, .aload_n 0, 1), (1, .iload_n 1, 1), (2, .iload_n 2, 1), (3, .invokevirtual 261, 3), (6, .ifCond .eq 13, 3), (9, .iload_n 3, 1), (10, .iconst 1, 1), (11, .bipush 40, 2), (13, .invokestatic 80, 3), (16, .ifCond .ne 10, 3), (19, .aload_n 0, 1), (20, .bipush (-102), 2), (22, .invokevirtual 84, 3), (25, .ireturn, 1), (26, .aload_n 0, 1), (27, .getfield 53, 3), (30, .aload_n 0, 1), (31, .getfield 22, 3), (34, .iload_n 1, 1), (35, .invokevirtual 135, 3), (38, .iload_n 2, 1), (39, .invokevirtual 284, 3), (42, .aload_n 0, 1), (43, .getfield 53, 3), (46, .iload_n 3, 1), (47, .invokevirtual 292, 3), (50, .istore 5, 2), (52, .iload 4, 2), (54, .iconst (-1), 1), (55, .if_icmp .ne 6, 3), (58, .iload 5, 2), (60, .ireturn, 1), (61, .iload 4, 2), (63, .iconst 0, 1), (64, .iload 5, 2), (66, .iconst 1, 1), (67, .isub, 1), (68, .invokestatic 80, 3), (71, .ifCond .ne 10, 3), (74, .aload_n 0, 1), (75, .bipush (-102), 2), (77, .invokevirtual 84, 3), (80, .ireturn, 1), (81, .aload_n 0, 1), (82, .getfield 53, 3), (85, .iload_n 3, 1), (86, .invokevirtual 295, 3), (89, .aload_n 0, 1), (90, .getfield 53, 3), (93, .iload 4, 2)]
def zi_147_1 : zIns := [(95, .invokevirtual 298, 3), (98, .ireturn, 1)]
def zi_147 : zIns := zi_147_0 ++ (zi_147_1)
def zi_148_0 : zIns := [(0, .aload_n 0, 1), (1, .iload_n 1, 1), (2, .iload_n 2, 1), (3, .invokevirtual 261, 3), (6, .ifCond .eq 23, 3), (9, .iload_n 3, 1), (10, .iconst 1, 1), (11, .bipush 40, 2), (13, .invokestatic 80, 3), (16, .ifCond .eq 13, 3), (19, .iload 4, 2), (21, .iconst 0, 1), (22, .iconst 4, 1), (23, .invokestatic 80, 3), (26, .ifCond .ne 10, 3), (29, .aload_n 0, 1), (30, .bipush (-102), 2), (32, .invokevirtual 84, 3), (35, .ireturn, 1), (36, .aload_n 0, 1), (37, .getfield 22, 3), (40, .iload_n 1, 1), (41, .invokevirtual 135, 3), (44, .astore 5, 2), (46, .aload_n 0, 1), (47, .getfield 53, 3), (50, .aload 5, 2), (52, .iload_n 2, 1), (53, .invokevirtual 284, 3), (56, .aload_n 0, 1), (57, .getfield 53, 3), (60, .iload_n 3, 1), (61, .invokevirtual 295, 3), (64, .iload 4, 2), (66, .tableswitch 105 0 3 #[30, 38, 51, 75], 30), (96, .aload_n 0, 1), (97, .getfield 53, 3), (100, .invokevirtual 301, 3), (103, .ireturn, 1), (104, .aload_n 0, 1), (105, .getfield 53, 3), (108, .aload_n 0, 1), (109, .getfield 10, 3), (112, .iload_n 2, 1), (113, .invokevirtual 304, 3), (116, .ireturn, 1), (117, .aload_n 0, 1), (118, .getfield 53, 3), (121, .aload_n 0, 1), (122, .getfield 10, 3)]
def zi_148_1 : zIns := [(125, .iload_n 2, 1), (126, .invokevirtual 304, 3), (129, .aload_n 0, 1), (130, .getfield 10, 3), (133, .aload 5, 2), (135, .iconst 1, 1), (136, .invokevirtual 277, 3), (139, .isub, 1), (140, .ireturn, 1), (141, .aload_n 0, 1), (142, .getfield 10, 3), (145, .getfield 169, 3), (148, .aload_n 0, 1), (149, .getfield 53, 3), (152, .iload_n 3, 1), (153, .invokevirtual 292, 3), (156, .imul, 1), (157, .aload_n 0, 1), (158, .getfield 53, 3), (161, .aload_n 0, 1), (162, .getfield 10, 3), (165, .iload_n 2, 1), (166, .invokevirtual 304, 3), (169, .iadd, 1), (170, .ireturn, 1), (171, .aload_n 0, 1), (172, .aload 5, 2), (174, .getfield 252, 3), (177, .iload_n 2, 1), (178, .invokevirtual 308, 3), (181, .ireturn, 1)]
def zi_148 : zIns := zi_148_0 ++ (zi_148_1)
def zi_149 : zIns := [(0, .aload_n 0, 1), (1, .iload_n 1, 1), (2, .iload_n 2, 1), (3, .invokevirtual 261, 3), (6, .ifCond .eq 12, 3), (9, .iload_n 3, 1), (10, .iconst 0, 1), (11, .iconst 1, 1), (12, .invokestatic 80, 3), (15, .ifCond .ne 10, 3), (18, .aload_n 0, 1), (19, .bipush (-102), 2), (21, .invokevirtual 84, 3), (24, .ireturn, 1), (25, .aload_n 0, 1), (26, .getfield 53, 3), (29, .aload_n 0, 1), (30, .getfield 22, 3), (33, .iload_n 1, 1), (34, .invokevirtual 135, 3), (37, .iload_n 2, 1), (38, .invokevirtual 284, 3), (41, .aload_n 0, 1), (42, .getfield 53, 3), (45, .aload_n 0, 1), (46, .getfield 10, 3), (49, .iload_n 2, 1), (50, .invokevirtual 311, 3), (53, .iload_n 3, 1), (54, .ifCond .ne 13, 3), (57, .aload_n 0, 1), (58, .getfield 53, 3), (61, .getfield 315, 3), (64, .goto 10, 3), (67, .aload_n 0, 1), (68, .getfield 53, 3), (71, .getfield 318, 3), (74, .ireturn, 1)]
def zi_150_0 : zIns := [(0, .aload_n 0, 1), (1, .getfield 22, 3), (4, .iload_n 1, 1), (5, .invokevirtual 121, 3), (8, .ifCond .eq 12, 3), (11, .iload_n 2, 1), (12, .iconst 0, 1), (13, .iconst 1, 1), (14, .invokestatic 80, 3), (17, .ifCond .ne 10, 3), (20, .aload_n 0, 1), (21, .bipush (-102), 2), (23, .invokevirtual 84, 3), (26, .ireturn, 1), (27, .iconst (-1), 1), (28, .istore_n 3, 1), (29, .iconst 0, 1), (30, .istore 4, 2), (32, .iconst 0, 1), (33, .istore 5, 2), (35, .iload 5, 2), (37, .bipush 6, 2), (39, .if_icmp .ge 68, 3), (42, .aload_n 0, 1), (43, .getfield 53, 3), (46, .aload_n 0, 1), (47, .getfield 22, 3), (50, .iload_n 1, 1), (51, .invokevirtual 135, 3), (54, .iload 5, 2), (56, .invokevirtual 284, 3), (59, .aload_n 0, 1), (60, .getfield 53, 3), (63, .aload_n 0, 1), (64, .getfield 10, 3), (67, .iload 5, 2), (69, .invokevirtual 311, 3), (72, .iload_n 3, 1), (73, .iconst (-1), 1), (74, .if_icmp .eq 15, 3), (77, .aload_n 0, 1), (78, .getfield 53, 3), (81, .getfield 318, 3), (84, .iload 4, 2), (86, .if_icmp .ge 15, 3), (89, .iload 5, 2), (91, .istore_n 3, 1), (92, .aload_n 0, 1), (93, .getfield 53, 3), (96, .getfield 318, 3)]
def zi_150_1 : zIns := [(99, .istore 4, 2), (101, .iinc 5 1, 3), (104, .goto (-69), 3), (107, .iload_n 2, 1), (108, .ifCond .ne 7, 3), (111, .iload_n 3, 1), (112, .goto 5, 3), (115, .iload 4, 2), (117, .ireturn, 1)]
def zi_150 : zIns := zi_150_0 ++ (zi_150_1)
def zi_151 : zIns := [(0, .aload_n 0, 1), (1, .iload_n 1, 1), (2, .iload_n 2, 1), (3, .invokevirtual 261, 3), (6, .ifCond .eq 13, 3), (9, .iload 4, 2), (11, .iconst 0, 1), (12, .iconst 1, 1), (13, .invokestatic 80, 3), (16, .ifCond .ne 10, 3), (19, .aload_n 0, 1), (20, .bipush (-102), 2), (22, .invokevirtual 84, 3), (25, .ireturn, 1), (26, .aload_n 0, 1), (27, .getfield 22, 3), (30, .iload_n 1, 1), (31, .invokevirtual 135, 3), (34, .astore 5, 2), (36, .iload 4, 2), (38, .ifCond .ne 13, 3), (41, .aload 5, 2), (43, .iload_n 2, 1), (44, .iload_n 3, 1), (45, .invokestatic 321, 3), (48, .goto 10, 3), (51, .aload 5, 2), (53, .iload_n 2, 1), (54, .iload_n 3, 1), (55, .invokestatic 325, 3), (58, .ireturn, 1)]
def zi_152_0 : zIns := [(0, .aload_n 0, 1), (1, .iload_n 1, 1), (2, .iload_n 2, 1), (3, .invokevirtual 261, 3), (6, .ifCond .eq 22, 3), (9, .iload_n 3, 1), (10, .iconst 1, 1), (11, .iconst 2, 1), (12, .invokestatic 80, 3), (15, .ifCond .eq 13, 3), (18, .iload 4, 2), (20, .iconst 0, 1), (21, .iconst 1, 1), (22, .invokestatic 80, 3), (25, .ifCond .ne 10, 3), (28, .aload_n 0, 1), (29, .bipush (-102), 2), (31, .invokevirtual 84, 3), (34, .ireturn, 1), (35, .aload_n 0, 1), (36, .getfield 22, 3), (39, .iload_n 1, 1), (40, .invokevirtual 135, 3), (43, .astore 5, 2), (45, .iload_n 3, 1), (46, .iconst 1, 1), (47, .if_icmp .ne 8, 3), (50, .bipush 100, 2), (52, .goto 5, 3), (55, .bipush 10, 2), (57, .istore 6, 2), (59, .aload_n 0, 1), (60, .invokevirtual 328, 3), (63, .iload 4, 2), (65, .ifCond .ne 50, 3), (68, .iconst 0, 1), (69, .istore 7, 2), (71, .iload 7, 2), (73, .sipush 1000, 3), (76, .if_icmp .ge 36, 3), (79, .aload 5, 2), (81, .getfield 264, 3), (84, .iload_n 2, 1), (85, .iload 7, 2), (87, .invokestatic 268, 3), (90, .baload, 1), (91, .iconst 1, 1), (92, .if_icmp .ne 14, 3), (95, .aload_n 0, 1), (96, .getfield 68, 3)]
def zi_152_1 : zIns := [(99, .iload 7, 2), (101, .iload 6, 2), (103, .idiv, 1), (104, .iconst 1, 1), (105, .bastore, 1), (106, .iinc 7 1, 3), (109, .goto (-38), 3), (112, .goto 58, 3), (115, .iconst 0, 1), (116, .istore 7, 2), (118, .iload 7, 2), (120, .aload_n 0, 1), (121, .getfield 10, 3), (124, .getfield 150, 3), (127, .if_icmp .ge 43, 3), (130, .aload_n 0, 1), (131, .getfield 10, 3), (134, .aload 5, 2), (136, .iload 7, 2), (138, .invokevirtual 331, 3), (141, .iconst 1, 1), (142, .if_icmp .ne 22, 3), (145, .aload_n 0, 1), (146, .getfield 68, 3), (149, .aload_n 0, 1), (150, .getfield 10, 3), (153, .iload 7, 2), (155, .iload_n 2, 1), (156, .invokevirtual 258, 3), (159, .iload 6, 2), (161, .idiv, 1), (162, .iconst 1, 1), (163, .bastore, 1), (164, .iinc 7 1, 3), (167, .goto (-49), 3), (170, .aload_n 0, 1), (171, .invokevirtual 334, 3), (174, .ireturn, 1)]
def zi_152 : zIns := zi_152_0 ++ (zi_152_1)
def zi_153 : zIns := [(0, .aload_n 0, 1), (1, .iload_n 1, 1), (2, .iload_n 2, 1), (3, .invokevirtual 261, 3), (6, .ifCond .ne 10, 3), (9, .aload_n 0, 1), (10, .bipush (-102), 2), (12, .invokevirtual 84, 3), (15, .ireturn, 1), (16, .aload_n 0, 1), (17, .getfield 60, 3), (20, .aload_n 0, 1), (21, .getfield 10, 3), (24, .aload_n 0, 1), (25, .getfield 22, 3), (28, .iload_n 1, 1), (29, .invokevirtual 135, 3), (32, .iload_n 2, 1), (33, .iconst 0, 1), (34, .invokevirtual 337, 3), (37, .iload_n 3, 1), (38, .iconst (-1), 1), (39, .if_icmp .ne 11, 3), (42, .aload_n 0, 1), (43, .getfield 60, 3), (46, .getfield 341, 3), (49, .ireturn, 1), (50, .iload_n 3, 1), (51, .iconst 0, 1), (52, .aload_n 0, 1), (53, .getfield 60, 3), (56, .getfield 341, 3), (59, .iconst 1, 1), (60, .isub, 1), (61, .invokestatic 80, 3), (64, .ifCond .eq 14, 3), (67, .aload_n 0, 1), (68, .getfield 60, 3), (71, .iload_n 3, 1), (72, .invokevirtual 342, 3), (75, .goto 9, 3), (78, .aload_n 0, 1), (79, .bipush (-102), 2), (81, .invokevirtual 84, 3), (84, .ireturn, 1)]
def zi_154 : zIns := [(0, .aload_n 0, 1), (1, .iload_n 1, 1), (2, .iload_n 2, 1), (3, .invokevirtual 261, 3), (6, .ifCond .eq 12, 3), (9, .iload_n 3, 1), (10, .iconst 0, 1), (11, .iconst 2, 1), (12, .invokestatic 80, 3), (15, .ifCond .ne 10, 3), (18, .aload_n 0, 1), (19, .bipush (-102), 2), (21, .invokevirtual 84, 3), (24, .ireturn, 1), (25, .aload_n 0, 1), (26, .getfield 60, 3), (29, .aload_n 0, 1), (30, .getfield 10, 3), (33, .aload_n 0, 1), (34, .getfield 22, 3), (37, .iload_n 1, 1), (38, .invokevirtual 135, 3), (41, .iload_n 2, 1), (42, .iload_n 3, 1), (43, .invokevirtual 337, 3), (46, .iload 4, 2), (48, .iconst 0, 1), (49, .aload_n 0, 1), (50, .getfield 60, 3), (53, .getfield 341, 3), (56, .iconst 1, 1), (57, .isub, 1), (58, .invokestatic 80, 3), (61, .ifCond .eq 15, 3), (64, .aload_n 0, 1), (65, .getfield 60, 3), (68, .iload 4, 2), (70, .invokevirtual 342, 3), (73, .goto 9, 3), (76, .aload_n 0, 1), (77, .bipush (-102), 2), (79, .invokevirtual 84, 3), (82, .ireturn, 1)]
def zi_155 : zIns := [(0, .aload_n 0, 1), (1, .iload_n 1, 1), (2, .iload_n 2, 1), (3, .invokevirtual 261, 3), (6, .ifCond .eq 14, 3), (9, .aload_n 0, 1), (10, .getfield 10, 3), (13, .iload_n 3, 1), (14, .invokevirtual 157, 3), (17, .ifCond .ne 10, 3), (20, .aload_n 0, 1), (21, .bipush (-102), 2), (23, .invokevirtual 84, 3), (26, .ireturn, 1), (27, .aload_n 0, 1), (28, .getfield 60, 3), (31, .aload_n 0, 1), (32, .getfield 10, 3), (35, .aload_n 0, 1), (36, .getfield 22, 3), (39, .iload_n 1, 1), (40, .invokevirtual 135, 3), (43, .iload_n 2, 1), (44, .iconst 0, 1), (45, .invokevirtual 337, 3), (48, .aload_n 0, 1), (49, .getfield 60, 3), (52, .aload_n 0, 1), (53, .getfield 10, 3), (56, .iload_n 3, 1), (57, .iload_n 2, 1), (58, .invokevirtual 258, 3), (61, .iconst 0, 1), (62, .iload_n 3, 1), (63, .invokestatic 345, 3), (66, .invokevirtual 349, 3), (69, .ireturn, 1)]
def zi_156 : zIns := [(0, .aload_n 0, 1), (1, .getfield 22, 3), (4, .iload_n 1, 1), (5, .invokevirtual 121, 3), (8, .ifCond .eq 14, 3), (11, .aload_n 0, 1), (12, .getfield 22, 3), (15, .iload_n 2, 1), (16, .invokevirtual 121, 3), (19, .ifCond .ne 10, 3), (22, .aload_n 0, 1), (23, .bipush (-102), 2), (25, .invokevirtual 84, 3), (28, .ireturn, 1), (29, .aload_n 0, 1), (30, .getfield 22, 3), (33, .iload_n 1, 1), (34, .invokevirtual 135, 3), (37, .astore_n 3, 1), (38, .aload_n 0, 1), (39, .getfield 22, 3), (42, .iload_n 2, 1), (43, .invokevirtual 135, 3), (46, .astore 4, 2), (48, .iconst 0, 1), (49, .istore 5, 2), (51, .iload 5, 2), (53, .sipush 1000, 3), (56, .if_icmp .ge 35, 3), (59, .aload_n 3, 1), (60, .getfield 264, 3), (63, .iload 5, 2), (65, .baload, 1), (66, .iconst 1, 1), (67, .if_icmp .ne 18, 3), (70, .aload 4, 2), (72, .getfield 264, 3), (75, .iload 5, 2), (77, .baload, 1), (78, .iconst 1, 1), (79, .if_icmp .eq 6, 3), (82, .iload 5, 2), (84, .ireturn, 1), (85, .iinc 5 1, 3), (88, .goto (-37), 3), (91, .iconst (-1), 1), (92, .ireturn, 1)]
def zi_157 : zIns := [(0, .aload_n 0, 1), (1, .getfield 22, 3), (4, .iload_n 1, 1), (5, .invokevirtual 121, 3), (8, .ifCond .eq 14, 3), (11, .aload_n 0, 1), (12, .getfield 22, 3), (15, .iload_n 2, 1), (16, .invokevirtual 121, 3), (19, .ifCond .ne 10, 3), (22, .aload_n 0, 1), (23, .bipush (-102), 2), (25, .invokevirtual 84, 3), (28, .ireturn, 1), (29, .aload_n 0, 1), (30, .getfield 22, 3), (33, .iload_n 1, 1), (34, .invokevirtual 135, 3), (37, .aload_n 0, 1), (38, .getfield 22, 3), (41, .iload_n 2, 1), (42, .invokevirtual 135, 3), (45, .invokevirtual 352, 3), (48, .ireturn, 1)]
def zi_158 : zIns := [(0, .aload_n 0, 1), (1, .getfield 22, 3), (4, .iload_n 1, 1), (5, .invokevirtual 121, 3), (8, .ifCond .ne 10, 3), (11, .aload_n 0, 1), (12, .bipush (-102), 2), (14, .invokevirtual 84, 3), (17, .ireturn, 1), (18, .iconst 0, 1), (19, .istore_n 2, 1), (20, .iload_n 2, 1), (21, .iload_n 1, 1), (22, .if_icmp .ge 34, 3), (25, .aload_n 0, 1), (26, .getfield 22, 3), (29, .iload_n 2, 1), (30, .invokevirtual 135, 3), (33, .aload_n 0, 1), (34, .getfield 22, 3), (37, .iload_n 1, 1), (38, .invokevirtual 135, 3), (41, .invokevirtual 352, 3), (44, .iconst (-1), 1), (45, .if_icmp .ne 5, 3), (48, .iload_n 2, 1), (49, .ireturn, 1), (50, .iinc 2 1, 3), (53, .goto (-33), 3), (56, .iload_n 1, 1), (57, .ireturn, 1)]
def zi_159_0 : zIns := [(0, .iload_n 1, 1), (1, .invokestatic 158, 3), (4, .ifCond .eq 28, 3), (7, .iload_n 2, 1), (8, .invokestatic 208, 3), (11, .ifCond .eq 21, 3), (14, .iload_n 3, 1), (15, .invokestatic 76, 3), (18, .ifCond .eq 14, 3), (21, .iload 4, 2), (23, .iconst 0, 1), (24, .bipush 20, 2), (26, .invokestatic 80, 3), (29, .ifCond .ne 10, 3), (32, .aload_n 0, 1), (33, .bipush (-102), 2), (35, .invokevirtual 84, 3), (38, .ireturn, 1), (39, .aload_n 0, 1), (40, .getfield 32, 3), (43, .iload_n 3, 1), (44, .iconst 2, 1), (45, .iload 4, 2), (47, .imul, 1), (48, .invokevirtual 221, 3), (51, .istore 5, 2), (53, .iload 5, 2), (55, .ifCond .eq 10, 3), (58, .aload_n 0, 1), (59, .iload 5, 2), (61, .invokevirtual 84, 3), (64, .ireturn, 1), (65, .aload_n 0, 1), (66, .iload_n 3, 1), (67, .iload 4, 2), (69, .invokevirtual 356, 3), (72, .ifCond .ne 10, 3), (75, .aload_n 0, 1), (76, .bipush (-105), 2), (78, .invokevirtual 84, 3), (81, .ireturn, 1), (82, .iconst 0, 1), (83, .istore 6, 2), (85, .iconst 0, 1), (86, .istore 7, 2), (88, .iload 7, 2), (90, .iconst 3, 1), (91, .if_icmp .gt 32, 3), (94, .aload_n 0, 1), (95, .iload_n 1, 1)]
def zi_159_1 : zIns := [(96, .iload 7, 2), (98, .iload_n 2, 1), (99, .iload_n 3, 1), (100, .iload 4, 2), (102, .invokevirtual 359, 3), (105, .ifCond .eq 12, 3), (108, .iload 6, 2), (110, .iconst 1, 1), (111, .iload 7, 2), (113, .ishl, 1), (114, .ior, 1), (115, .istore 6, 2), (117, .iinc 7 1, 3), (120, .goto (-32), 3), (123, .iload 6, 2), (125, .ireturn, 1)]
def zi_159 : zIns := zi_159_0 ++ (zi_159_1)
def zi_160_0 : zIns := [(0, .aload_n 0, 1), (1, .iload_n 1, 1), (2, .iload_n 2, 1), (3, .invokevirtual 261, 3), (6, .ifCond .eq 21, 3), (9, .iload_n 3, 1), (10, .invokestatic 76, 3), (13, .ifCond .eq 14, 3), (16, .iload 4, 2), (18, .iconst 0, 1), (19, .bipush 40, 2), (21, .invokestatic 80, 3), (24, .ifCond .ne 10, 3), (27, .aload_n 0, 1), (28, .bipush (-102), 2), (30, .invokevirtual 84, 3), (33, .ireturn, 1), (34, .aload_n 0, 1), (35, .getfield 32, 3), (38, .iload_n 3, 1), (39, .iload 4, 2), (41, .invokevirtual 221, 3), (44, .istore 5, 2), (46, .iload 5, 2), (48, .ifCond .eq 10, 3), (51, .aload_n 0, 1), (52, .iload 5, 2), (54, .invokevirtual 84, 3), (57, .ireturn, 1), (58, .aload_n 0, 1), (59, .getfield 60, 3), (62, .aload_n 0, 1), (63, .getfield 10, 3), (66, .aload_n 0, 1), (67, .getfield 22, 3), (70, .iload_n 1, 1), (71, .invokevirtual 135, 3), (74, .iload_n 2, 1), (75, .iconst 0, 1), (76, .invokevirtual 337, 3), (79, .iconst 0, 1), (80, .istore 6, 2), (82, .iload 6, 2), (84, .iload 4, 2), (86, .if_icmp .ge 48, 3), (89, .iload 6, 2), (91, .aload_n 0, 1), (92, .getfield 60, 3), (95, .getfield 341, 3), (98, .if_icmp .ge 27, 3)]
def zi_160_1 : zIns := [(101, .aload_n 0, 1), (102, .getfield 60, 3), (105, .iload 6, 2), (107, .invokevirtual 342, 3), (110, .i2l, 1), (111, .aload_n 0, 1), (112, .getfield 32, 3), (115, .iload_n 3, 1), (116, .iload 6, 2), (118, .invokevirtual 114, 3), (121, .lcmp, 1), (122, .ifCond .eq 6, 3), (125, .iload 6, 2), (127, .ireturn, 1), (128, .iinc 6 1, 3), (131, .goto (-49), 3), (134, .aload_n 0, 1), (135, .getfield 60, 3), (138, .getfield 341, 3), (141, .iload 4, 2), (143, .if_icmp .le 8, 3), (146, .iload 4, 2), (148, .goto 4, 3), (151, .iconst (-1), 1), (152, .ireturn, 1)]
def zi_160 : zIns := zi_160_0 ++ (zi_160_1)
def zi_161 : zIns := [(0, .iload_n 1, 1), (1, .invokestatic 158, 3), (4, .ifCond .eq 10, 3), (7, .iload_n 2, 1), (8, .invokestatic 147, 3), (11, .ifCond .ne 10, 3), (14, .aload_n 0, 1), (15, .bipush (-102), 2), (17, .invokevirtual 84, 3), (20, .ireturn, 1), (21, .aload_n 0, 1), (22, .getfield 10, 3), (25, .iload_n 1, 1), (26, .iload_n 2, 1), (27, .invokevirtual 363, 3), (30, .ireturn, 1)]
def zi_162_0 : zIns := [(0, .aload_n 0, 1), (1, .getfield 22, 3), (4, .iload_n 1, 1), (5, .invokevirtual 121, 3), (8, .ifCond .eq 29, 3), (11, .aload_n 0, 1), (12, .getfield 10, 3), (15, .iload_n 2, 1), (16, .invokevirtual 157, 3), (19, .ifCond .eq 18, 3), (22, .iload_n 3, 1), (23, .invokestatic 158, 3), (26, .ifCond .eq 11, 3), (29, .iload 4, 2), (31, .invokestatic 147, 3), (34, .ifCond .ne 10, 3), (37, .aload_n 0, 1), (38, .bipush (-102), 2), (40, .invokevirtual 84, 3), (43, .ireturn, 1), (44, .aload_n 0, 1), (45, .getfield 22, 3), (48, .iload_n 1, 1), (49, .invokevirtual 135, 3), (52, .astore 5, 2), (54, .aload_n 0, 1), (55, .getfield 10, 3), (58, .iload_n 2, 1), (59, .iload_n 3, 1), (60, .invokevirtual 161, 3), (63, .istore 6, 2), (65, .aload_n 0, 1), (66, .getfield 10, 3), (69, .iload_n 2, 1), (70, .iload_n 3, 1), (71, .iload 4, 2), (73, .invokevirtual 164, 3), (76, .aload_n 0, 1), (77, .getfield 10, 3), (80, .aload 5, 2), (82, .iconst 1, 1), (83, .invokevirtual 277, 3), (86, .istore 7, 2), (88, .aload_n 0, 1), (89, .getfield 10, 3), (92, .iload_n 2, 1), (93, .iload_n 3, 1), (94, .iload 6, 2), (96, .invokevirtual 164, 3), (99, .iload 7, 2)]
def zi_162_1 : zIns := [(101, .ireturn, 1)]
def zi_162 : zIns := zi_162_0 ++ (zi_162_1)
def zi_163 : zIns := [(0, .iload_n 1, 1), (1, .iconst 1, 1), (2, .bipush 60, 2), (4, .invokestatic 80, 3), (7, .ifCond .ne 10, 3), (10, .aload_n 0, 1), (11, .bipush (-102), 2), (13, .invokevirtual 84, 3), (16, .ireturn, 1), (17, .iconst 0, 1), (18, .istore_n 2, 1), (19, .iload_n 2, 1), (20, .iload_n 1, 1), (21, .if_icmp .ge 16, 3), (24, .aload_n 0, 1), (25, .getfield 10, 3), (28, .invokevirtual 366, 3), (31, .iinc 2 1, 3), (34, .goto (-15), 3), (37, .aload_n 0, 1), (38, .getfield 10, 3), (41, .getfield 150, 3), (44, .ireturn, 1)]
def zi_164 : zIns := [(0, .aload_n 0, 1), (1, .getfield 10, 3), (4, .getfield 369, 3), (7, .istore_n 2, 1), (8, .aload_n 0, 1), (9, .getfield 10, 3), (12, .iload_n 1, 1), (13, .putfield 369, 3), (16, .iload_n 2, 1), (17, .ireturn, 1)]
def zi_165 : zIns := [(0, .aload_n 0, 1), (1, .getfield 16, 3), (4, .aload_n 0, 1), (5, .getfield 10, 3), (8, .invokevirtual 372, 3), (11, .aload_n 0, 1), (12, .getfield 26, 3), (15, .aload_n 0, 1), (16, .getfield 22, 3), (19, .invokevirtual 376, 3), (22, .aload_n 0, 1), (23, .iconst 1, 1), (24, .putfield 72, 3), (27, .iconst 1, 1), (28, .ireturn, 1)]
def zi_166 : zIns := [(0, .aload_n 0, 1), (1, .getfield 72, 3), (4, .ifCond .ne 10, 3), (7, .aload_n 0, 1), (8, .bipush (-105), 2), (10, .invokevirtual 84, 3), (13, .ireturn, 1), (14, .aload_n 0, 1), (15, .getfield 10, 3), (18, .aload_n 0, 1), (19, .getfield 16, 3), (22, .invokevirtual 372, 3), (25, .aload_n 0, 1), (26, .getfield 22, 3), (29, .aload_n 0, 1), (30, .getfield 26, 3), (33, .invokevirtual 376, 3), (36, .aload_n 0, 1), (37, .getfield 32, 3), (40, .aload_n 0, 1), (41, .getfield 22, 3), (44, .getfield 230, 3), (47, .invokevirtual 231, 3), (50, .iconst 1, 1), (51, .ireturn, 1)]
def zi_167_0 : zIns := [(0, .iload_n 1, 1), (1, .tableswitch 130 0 7 #[47, 55, 63, 71, 76, 106, 114, 122], 47), (48, .aload_n 0, 1), (49, .getfield 10, 3), (52, .getfield 150, 3), (55, .ireturn, 1), (56, .aload_n 0, 1), (57, .getfield 22, 3), (60, .getfield 230, 3), (63, .ireturn, 1), (64, .aload_n 0, 1), (65, .getfield 10, 3), (68, .getfield 169, 3), (71, .ireturn, 1), (72, .aload_n 0, 1), (73, .invokevirtual 379, 3), (76, .ireturn, 1), (77, .aload_n 0, 1), (78, .getfield 10, 3), (81, .iconst 0, 1), (82, .iconst 0, 1), (83, .invokevirtual 363, 3), (86, .aload_n 0, 1), (87, .getfield 10, 3), (90, .iconst 1, 1), (91, .iconst 0, 1), (92, .invokevirtual 363, 3), (95, .iadd, 1), (96, .aload_n 0, 1), (97, .getfield 10, 3), (100, .iconst 2, 1), (101, .iconst 0, 1), (102, .invokevirtual 363, 3), (105, .iadd, 1), (106, .ireturn, 1), (107, .aload_n 0, 1), (108, .getfield 39, 3), (111, .getfield 172, 3), (114, .ireturn, 1), (115, .aload_n 0, 1), (116, .getfield 10, 3), (119, .getfield 369, 3), (122, .ireturn, 1), (123, .aload_n 0, 1), (124, .getfield 32, 3), (127, .invokevirtual 382, 3), (130, .ireturn, 1), (131, .iload_n 1, 1), (132, .bipush 12, 2), (134, .bipush 16, 2)]
def zi_167_1 : zIns := [(136, .invokestatic 80, 3), (139, .ifCond .eq 15, 3), (142, .aload_n 0, 1), (143, .getfield 64, 3), (146, .iload_n 1, 1), (147, .bipush 12, 2), (149, .isub, 1), (150, .iaload, 1), (151, .goto 4, 3), (154, .iconst (-1), 1), (155, .ireturn, 1)]
def zi_167 : zIns := zi_167_0 ++ (zi_167_1)
def zi_168 : zIns := [(0, .bipush (-102), 2), (2, .iload_n 1, 1), (3, .isub, 1), (4, .istore_n 2, 1), (5, .iload_n 2, 1), (6, .ifCond .lt 18, 3), (9, .iload_n 2, 1), (10, .iconst 5, 1), (11, .if_icmp .ge 13, 3), (14, .aload_n 0, 1), (15, .getfield 64, 3), (18, .iload_n 2, 1), (19, .dup2, 1), (20, .iaload, 1), (21, .iconst 1, 1), (22, .iadd, 1), (23, .iastore, 1), (24, .iload_n 1, 1), (25, .ireturn, 1)]
def zi_169 : zIns := [(0, .aload_n 0, 1), (1, .getfield 22, 3), (4, .invokevirtual 385, 3), (7, .ifCond .ne 17, 3), (10, .aload_n 0, 1), (11, .getfield 22, 3), (14, .invokevirtual 199, 3), (17, .aload_n 0, 1), (18, .bipush (-106), 2), (20, .invokevirtual 84, 3), (23, .ireturn, 1), (24, .aload_n 0, 1), (25, .getfield 22, 3), (28, .invokevirtual 389, 3), (31, .aload_n 0, 1), (32, .getfield 22, 3), (35, .getfield 230, 3), (38, .iconst 1, 1), (39, .isub, 1), (40, .ireturn, 1)]
def zi_170 : zIns := [(0, .aload_n 0, 1), (1, .getfield 22, 3), (4, .iload_n 1, 1), (5, .invokevirtual 121, 3), (8, .ifCond .eq 14, 3), (11, .iload_n 2, 1), (12, .invokestatic 255, 3), (15, .ifCond .eq 7, 3), (18, .iconst 1, 1), (19, .goto 4, 3), (22, .iconst 0, 1), (23, .ireturn, 1)]
def zi_171_0 : zIns := [(0, .iconst 0, 1), (1, .istore_n 3, 1), (2, .iconst 0, 1), (3, .istore 4, 2), (5, .iload 4, 2), (7, .iload_n 2, 1), (8, .if_icmp .ge 94, 3), (11, .aload_n 0, 1), (12, .getfield 32, 3), (15, .iload_n 1, 1), (16, .iconst 2, 1), (17, .iload 4, 2), (19, .imul, 1), (20, .invokevirtual 114, 3), (23, .lstore 5, 2), (25, .aload_n 0, 1), (26, .getfield 32, 3), (29, .iload_n 1, 1), (30, .iconst 2, 1), (31, .iload 4, 2), (33, .imul, 1), (34, .iconst 1, 1), (35, .iadd, 1), (36, .invokevirtual 114, 3), (39, .lstore 7, 2), (41, .lload 5, 2), (43, .lconst 0, 1), (44, .lcmp, 1), (45, .ifCond .lt 28, 3), (48, .lload 5, 2), (50, .ldc2_w 392, 3), (53, .lcmp, 1), (54, .ifCond .ge 19, 3), (57, .lload 7, 2), (59, .lconst 1, 1), (60, .lcmp, 1), (61, .ifCond .lt 12, 3), (64, .lload 7, 2), (66, .ldc2_w 394, 3), (69, .lcmp, 1), (70, .ifCond .le 5, 3), (73, .iconst 0, 1), (74, .ireturn, 1), (75, .iconst 1, 1), (76, .lload 5, 2), (78, .l2i, 1), (79, .ishl, 1), (80, .istore 9, 2), (82, .iload_n 3, 1), (83, .iload 9, 2)]
def zi_171_1 : zIns := [(85, .iand, 1), (86, .ifCond .eq 5, 3), (89, .iconst 0, 1), (90, .ireturn, 1), (91, .iload_n 3, 1), (92, .iload 9, 2), (94, .ior, 1), (95, .istore_n 3, 1), (96, .iinc 4 1, 3), (99, .goto (-94), 3), (102, .iconst 1, 1), (103, .ireturn, 1)]
def zi_171 : zIns := zi_171_0 ++ (zi_171_1)
def zi_172 : zIns := [(0, .iconst 0, 1), (1, .istore_n 3, 1), (2, .iload_n 3, 1), (3, .iload_n 2, 1), (4, .if_icmp .ge 74, 3), (7, .aload_n 0, 1), (8, .getfield 32, 3), (11, .iload_n 1, 1), (12, .iconst 2, 1), (13, .iload_n 3, 1), (14, .imul, 1), (15, .invokevirtual 114, 3), (18, .lstore 4, 2), (20, .aload_n 0, 1), (21, .getfield 32, 3), (24, .iload_n 1, 1), (25, .iconst 2, 1), (26, .iload_n 3, 1), (27, .imul, 1), (28, .iconst 1, 1), (29, .iadd, 1), (30, .invokevirtual 114, 3), (33, .lstore 6, 2), (35, .lload 4, 2), (37, .lconst 0, 1), (38, .lcmp, 1), (39, .ifCond .lt 31, 3), (42, .lload 4, 2), (44, .aload_n 0, 1), (45, .getfield 10, 3), (48, .getfield 150, 3), (51, .i2l, 1), (52, .lcmp, 1), (53, .ifCond .ge 17, 3), (56, .lload 6, 2), (58, .lconst 0, 1), (59, .lcmp, 1), (60, .ifCond .lt 10, 3), (63, .lload 6, 2), (65, .lconst 1, 1), (66, .lcmp, 1), (67, .ifCond .le 5, 3), (70, .iconst 0, 1), (71, .ireturn, 1), (72, .iinc 3 1, 3), (75, .goto (-73), 3), (78, .iconst 1, 1), (79, .ireturn, 1)]
def zi_173_0 : zIns := [(0, .iconst 0, 1), (1, .istore 6, 2), (3, .iload 6, 2), (5, .iload 5, 2), (7, .if_icmp .ge 83, 3), (10, .aload_n 0, 1), (11, .getfield 32, 3), (14, .iload 4, 2), (16, .iconst 2, 1), (17, .iload 6, 2), (19, .imul, 1), (20, .invokevirtual 114, 3), (23, .l2i, 1), (24, .istore 7, 2), (26, .aload_n 0, 1), (27, .getfield 32, 3), (30, .iload 4, 2), (32, .iconst 2, 1), (33, .iload 6, 2), (35, .imul, 1), (36, .iconst 1, 1), (37, .iadd, 1), (38, .invokevirtual 114, 3), (41, .lconst 1, 1), (42, .lcmp, 1), (43, .ifCond .ne 7, 3), (46, .iconst 1, 1), (47, .goto 4, 3), (50, .iconst 0, 1), (51, .istore 8, 2), (53, .aload_n 0, 1), (54, .getfield 10, 3), (57, .iload 7, 2), (59, .iload_n 1, 1), (60, .invokevirtual 161, 3), (63, .iload_n 2, 1), (64, .iload_n 3, 1), (65, .invokestatic 396, 3), (68, .iconst 1, 1), (69, .if_icmp .ne 7, 3), (72, .iconst 1, 1), (73, .goto 4, 3), (76, .iconst 0, 1), (77, .iload 8, 2), (79, .if_icmp .eq 5, 3), (82, .iconst 0, 1), (83, .ireturn, 1), (84, .iinc 6 1, 3), (87, .goto (-84), 3), (90, .iconst 1, 1)]
def zi_173_1 : zIns := [(91, .ireturn, 1)]
def zi_173 : zIns := zi_173_0 ++ (zi_173_1)
def zi_174 : zIns := [(0, .iconst 0, 1), (1, .istore_n 3, 1), (2, .iconst 0, 1), (3, .istore 4, 2), (5, .iload 4, 2), (7, .aload_n 0, 1), (8, .getfield 22, 3), (11, .getfield 230, 3), (14, .if_icmp .ge 42, 3), (17, .iload_n 1, 1), (18, .iconst 1, 1), (19, .iload 4, 2), (21, .ishl, 1), (22, .iand, 1), (23, .ifCond .eq 27, 3), (26, .aload_n 0, 1), (27, .aload_n 0, 1), (28, .getfield 22, 3), (31, .iload 4, 2), (33, .invokevirtual 135, 3), (36, .iload_n 2, 1), (37, .invokevirtual 399, 3), (40, .ifCond .ne 10, 3), (43, .iload_n 3, 1), (44, .iconst 1, 1), (45, .iload 4, 2), (47, .ishl, 1), (48, .ior, 1), (49, .istore_n 3, 1), (50, .iinc 4 1, 3), (53, .goto (-48), 3), (56, .iload_n 3, 1), (57, .ireturn, 1)]
def zi_175 : zIns := [(0, .iconst 0, 1), (1, .istore_n 3, 1), (2, .iload_n 3, 1), (3, .sipush 1000, 3), (6, .if_icmp .ge 36, 3), (9, .aload_n 0, 1), (10, .getfield 53, 3), (13, .iload_n 3, 1), (14, .invokevirtual 403, 3), (17, .ifCond .eq 19, 3), (20, .aload_n 1, 1), (21, .getfield 264, 3), (24, .iload_n 2, 1), (25, .iload_n 3, 1), (26, .invokestatic 268, 3), (29, .baload, 1), (30, .iconst 1, 1), (31, .if_icmp .eq 5, 3), (34, .iconst 0, 1), (35, .ireturn, 1), (36, .iinc 3 1, 3), (39, .goto (-37), 3), (42, .iconst 1, 1), (43, .ireturn, 1)]
def zi_176 : zIns := [(0, .iload_n 2, 1), (1, .iconst 0, 1), (2, .invokestatic 406, 3), (5, .istore_n 3, 1), (6, .iload_n 3, 1), (7, .sipush 1000, 3), (10, .if_icmp .ge 25, 3), (13, .aload_n 0, 1), (14, .getfield 264, 3), (17, .iload_n 1, 1), (18, .iload_n 3, 1), (19, .invokestatic 268, 3), (22, .baload, 1), (23, .iconst 1, 1), (24, .if_icmp .ne 5, 3), (27, .iload_n 3, 1), (28, .ireturn, 1), (29, .iinc 3 1, 3), (32, .goto (-26), 3), (35, .iconst (-1), 1), (36, .ireturn, 1)]
def zi_177 : zIns := [(0, .iload_n 2, 1), (1, .sipush 999, 3), (4, .invokestatic 411, 3), (7, .istore_n 3, 1), (8, .iload_n 3, 1), (9, .ifCond .lt 25, 3), (12, .aload_n 0, 1), (13, .getfield 264, 3), (16, .iload_n 1, 1), (17, .iload_n 3, 1), (18, .invokestatic 268, 3), (21, .baload, 1), (22, .iconst 1, 1), (23, .if_icmp .ne 5, 3), (26, .iload_n 3, 1), (27, .ireturn, 1), (28, .iinc 3 (-1), 3), (31, .goto (-23), 3), (34, .iconst (-1), 1), (35, .ireturn, 1)]
def zi_178 : zIns := [(0, .aload_n 0, 1), (1, .invokevirtual 328, 3), (4, .iconst 0, 1), (5, .istore_n 1, 1), (6, .iload_n 1, 1), (7, .aload_n 0, 1), (8, .getfield 10, 3), (11, .getfield 150, 3), (14, .if_icmp .ge 24, 3), (17, .aload_n 0, 1), (18, .getfield 68, 3), (21, .aload_n 0, 1), (22, .getfield 10, 3), (25, .iload_n 1, 1), (26, .iconst 0, 1), (27, .invokevirtual 258, 3), (30, .iconst 1, 1), (31, .bastore, 1), (32, .iinc 1 1, 3), (35, .goto (-29), 3), (38, .aload_n 0, 1), (39, .invokevirtual 334, 3), (42, .ireturn, 1)]
def zi_179 : zIns := [(0, .iconst 0, 1), (1, .istore_n 1, 1), (2, .iload_n 1, 1), (3, .aload_n 0, 1), (4, .getfield 68, 3), (7, .arraylength, 1), (8, .if_icmp .ge 16, 3), (11, .aload_n 0, 1), (12, .getfield 68, 3), (15, .iload_n 1, 1), (16, .iconst 0, 1), (17, .bastore, 1), (18, .iinc 1 1, 3), (21, .goto (-19), 3), (24, .return_, 1)]
def zi_180 : zIns := [(0, .iconst 0, 1), (1, .istore_n 1, 1), (2, .iconst 0, 1), (3, .istore_n 2, 1), (4, .iload_n 2, 1), (5, .aload_n 0, 1), (6, .getfield 68, 3), (9, .arraylength, 1), (10, .if_icmp .ge 21, 3), (13, .aload_n 0, 1), (14, .getfield 68, 3), (17, .iload_n 2, 1), (18, .baload, 1), (19, .ifCond .eq 6, 3), (22, .iinc 1 1, 3), (25, .iinc 2 1, 3), (28, .goto (-24), 3), (31, .iload_n 1, 1), (32, .ireturn, 1)]
def zi_181 : zIns := [(0, .iload_n 0, 1), (1, .iload_n 1, 1), (2, .if_icmp .lt 12, 3), (5, .iload_n 0, 1), (6, .iload_n 2, 1), (7, .if_icmp .gt 7, 3), (10, .iconst 1, 1), (11, .goto 4, 3), (14, .iconst 0, 1), (15, .ireturn, 1)]
def zi_182 : zIns := [(0, .iload_n 0, 1), (1, .iconst 0, 1), (2, .iconst 2, 1), (3, .invokestatic 80, 3), (6, .ireturn, 1)]
def zi_183 : zIns := [(0, .iload_n 0, 1), (1, .iconst 0, 1), (2, .iconst 5, 1), (3, .invokestatic 80, 3), (6, .ireturn, 1)]
def zi_184 : zIns := [(0, .iload_n 0, 1), (1, .iconst 0, 1), (2, .iconst 3, 1), (3, .invokestatic 80, 3), (6, .ireturn, 1)]
def zi_185 : zIns := [(0, .iload_n 0, 1), (1, .iconst 0, 1), (2, .iconst 2, 1), (3, .invokestatic 80, 3), (6, .ireturn, 1)]
def zi_186 : zIns := [(0, .iload_n 0, 1), (1, .iconst 0, 1), (2, .bipush 9, 2), (4, .invokestatic 80, 3), (7, .ireturn, 1)]
def zi_187 : zIns := [(0, .iload_n 0, 1), (1, .iconst 1, 1), (2, .bipush 9, 2), (4, .invokestatic 80, 3), (7, .ireturn, 1)]
def zi_188 : zIns := [(0, .iconst 3, 1), (1, .iload_n 0, 1), (2, .imul, 1), (3, .istore_n 2, 1), (4, .iload_n 1, 1), (5, .bipush 100, 2), (7, .idiv, 1), (8, .getstatic 414, 3), (11, .getstatic 417, 3), (14, .iload_n 2, 1), (15, .iaload, 1), (16, .iaload, 1), (17, .imul, 1), (18, .iload_n 1, 1), (19, .bipush 10, 2), (21, .idiv, 1), (22, .bipush 10, 2), (24, .irem, 1), (25, .getstatic 414, 3), (28, .getstatic 417, 3), (31, .iload_n 2, 1), (32, .iconst 1, 1), (33, .iadd, 1), (34, .iaload, 1), (35, .iaload, 1), (36, .imul, 1), (37, .iadd, 1), (38, .iload_n 1, 1), (39, .bipush 10, 2), (41, .irem, 1), (42, .getstatic 414, 3), (45, .getstatic 417, 3), (48, .iload_n 2, 1), (49, .iconst 2, 1), (50, .iadd, 1), (51, .iaload, 1), (52, .iaload, 1), (53, .imul, 1), (54, .iadd, 1), (55, .ireturn, 1)]
def zi_189 : zIns := [(0, .iload_n 0, 1), (1, .ifCond .eq 7, 3), (4, .iload_n 2, 1), (5, .ifCond .ne 5, 3), (8, .iconst 2, 1), (9, .ireturn, 1), (10, .iload_n 1, 1), (11, .tableswitch 67 0 2 #[25, 39, 53], 25), (36, .iload_n 0, 1), (37, .iload_n 2, 1), (38, .if_icmp .ge 7, 3), (41, .iconst 1, 1), (42, .goto 4, 3), (45, .iconst 0, 1), (46, .istore_n 3, 1), (47, .goto 42, 3), (50, .iload_n 0, 1), (51, .iload_n 2, 1), (52, .if_icmp .ne 7, 3), (55, .iconst 1, 1), (56, .goto 4, 3), (59, .iconst 0, 1), (60, .istore_n 3, 1), (61, .goto 28, 3), (64, .iload_n 0, 1), (65, .iload_n 2, 1), (66, .if_icmp .le 7, 3), (69, .iconst 1, 1), (70, .goto 4, 3), (73, .iconst 0, 1), (74, .istore_n 3, 1), (75, .goto 14, 3), (78, .iload_n 0, 1), (79, .iload_n 2, 1), (80, .if_icmp .eq 7, 3), (83, .iconst 1, 1), (84, .goto 4, 3), (87, .iconst 0, 1), (88, .istore_n 3, 1), (89, .iload_n 3, 1), (90, .ifCond .eq 7, 3), (93, .iconst 1, 1), (94, .goto 4, 3), (97, .iconst 0, 1), (98, .ireturn, 1)]
def zi_190_0 : zIns := [(0, .aload_n 0, 1), (1, .invokespecial 1, 3), (4, .aload_n 0, 1), (5, .bipush 8, 2), (7, .newarray .int, 2), (9, .putfield 7, 3), (12, .aload_n 0, 1), (13, .bipush 8, 2), (15, .newarray .int, 2), (17, .putfield 13, 3), (20, .aload_n 0, 1), (21, .bipush 8, 2), (23, .newarray .int, 2), (25, .putfield 16, 3), (28, .aload_n 0, 1), (29, .bipush 8, 2), (31, .bipush 40, 2), (33, .multianewarray 19 2, 4), (37, .putfield 21, 3), (40, .aload_n 0, 1), (41, .bipush 40, 2), (43, .newarray .long, 2), (45, .putfield 24, 3), (48, .aload_n 0, 1), (49, .bipush 8, 2), (51, .newarray .int, 2), (53, .putfield 28, 3), (56, .aload_n 0, 1), (57, .sipush 250, 3), (60, .newarray .int, 2), (62, .putfield 31, 3), (65, .aload_n 0, 1), (66, .bipush 8, 2), (68, .newarray .int, 2), (70, .putfield 34, 3), (73, .aload_n 0, 1), (74, .iconst 4, 1), (75, .putfield 37, 3), (78, .aload_n 0, 1), (79, .iconst 1, 1), (80, .putfield 41, 3), (83, .aload_n 0, 1), (84, .sipush 180, 3), (87, .newarray .int, 2), (89, .putfield 44, 3), (92, .aload_n 0, 1), (93, .bipush 24, 2), (95, .newarray .int, 2), (97, .putfield 47, 3), (100, .aload_n 0, 1)]
def zi_190_1 : zIns := [(101, .bipush 24, 2), (103, .newarray .int, 2), (105, .putfield 50, 3), (108, .aload_n 0, 1), (109, .sipush 192, 3), (112, .newarray .int, 2), (114, .putfield 53, 3), (117, .aload_n 0, 1), (118, .sipush 180, 3), (121, .newarray .int, 2), (123, .putfield 56, 3), (126, .aload_n 0, 1), (127, .bipush 24, 2), (129, .newarray .int, 2), (131, .putfield 59, 3), (134, .aload_n 0, 1), (135, .bipush 24, 2), (137, .newarray .int, 2), (139, .putfield 62, 3), (142, .aload_n 0, 1), (143, .sipush 192, 3), (146, .newarray .int, 2), (148, .putfield 65, 3), (151, .aload_n 0, 1), (152, .sipush 24000, 3), (155, .newarray .byte, 2), (157, .putfield 68, 3), (160, .aload_n 0, 1), (161, .bipush 24, 2), (163, .newarray .int, 2), (165, .putfield 72, 3), (168, .aload_n 0, 1), (169, .bipush 24, 2), (171, .newarray .int, 2), (173, .putfield 75, 3), (176, .aload_n 0, 1), (177, .bipush 24, 2), (179, .newarray .int, 2), (181, .putfield 78, 3), (184, .aload_n 0, 1), (185, .sipush 1000, 3), (188, .newarray .int, 2), (190, .putfield 81, 3), (193, .aload_n 0, 1), (194, .sipush 1000, 3), (197, .newarray .int, 2), (199, .putfield 84, 3), (202, .aload_n 0, 1), (203, .bipush 60, 2), (205, .newarray .int, 2)]
def zi_190_2 : zIns := [(207, .putfield 87, 3), (210, .aload_n 0, 1), (211, .bipush 8, 2), (213, .newarray .int, 2), (215, .putfield 90, 3), (218, .return_, 1)]
def zi_190 : zIns := zi_190_0 ++ (zi_190_1 ++ (zi_190_2))
def zi_191 : zIns := [(0, .aload_n 0, 1), (1, .getfield 34, 3), (4, .iload_n 1, 1), (5, .ineg, 1), (6, .bipush 100, 2), (8, .isub, 1), (9, .dup2, 1), (10, .iaload, 1), (11, .iconst 1, 1), (12, .iadd, 1), (13, .iastore, 1), (14, .iload_n 1, 1), (15, .ireturn, 1)]
def zi_192 : zIns := [(0, .lload_n 0, 1), (1, .lload_n 2, 1), (2, .lcmp, 1), (3, .ifCond .lt 14, 3), (6, .lload_n 0, 1), (7, .lload 4, 2), (9, .lcmp, 1), (10, .ifCond .gt 7, 3), (13, .iconst 1, 1), (14, .goto 4, 3), (17, .iconst 0, 1), (18, .ireturn, 1)]
def zi_193 : zIns := [(0, .iload_n 1, 1), (1, .i2l, 1), (2, .lconst 0, 1), (3, .aload_n 0, 1), (4, .getfield 93, 3), (7, .iconst 1, 1), (8, .isub, 1), (9, .i2l, 1), (10, .invokestatic 96, 3), (13, .ireturn, 1)]
def zi_194 : zIns := [(0, .iload_n 1, 1), (1, .i2l, 1), (2, .lconst 0, 1), (3, .aload_n 0, 1), (4, .getfield 100, 3), (7, .iconst 1, 1), (8, .isub, 1), (9, .i2l, 1), (10, .invokestatic 96, 3), (13, .ireturn, 1)]
def zi_195 : zIns := [(0, .iconst 0, 1), (1, .istore_n 1, 1), (2, .iload_n 0, 1), (3, .istore_n 2, 1), (4, .iload_n 2, 1), (5, .ifCond .eq 15, 3), (8, .iinc 1 1, 3), (11, .iload_n 2, 1), (12, .iload_n 2, 1), (13, .iconst 1, 1), (14, .isub, 1), (15, .iand, 1), (16, .istore_n 2, 1), (17, .goto (-13), 3), (20, .iload_n 1, 1), (21, .ireturn, 1)]
def zi_196_0 : zIns := [(0, .iload_n 1, 1), (1, .i2l, 1), (2, .lconst 0, 1), (3, .ldc2_w 103, 3), (6, .invokestatic 96, 3), (9, .ifCond .eq 27, 3), (12, .iload_n 2, 1), (13, .i2l, 1), (14, .lconst 0, 1), (15, .ldc2_w 105, 3), (18, .invokestatic 96, 3), (21, .ifCond .eq 15, 3), (24, .iload_n 3, 1), (25, .i2l, 1), (26, .lconst 0, 1), (27, .ldc2_w 107, 3), (30, .invokestatic 96, 3), (33, .ifCond .ne 10, 3), (36, .aload_n 0, 1), (37, .bipush (-102), 2), (39, .invokevirtual 109, 3), (42, .ireturn, 1), (43, .aload_n 0, 1), (44, .getfield 7, 3), (47, .iload_n 1, 1), (48, .iconst 1, 1), (49, .iastore, 1), (50, .aload_n 0, 1), (51, .getfield 13, 3), (54, .iload_n 1, 1), (55, .iload_n 2, 1), (56, .iastore, 1), (57, .aload_n 0, 1), (58, .getfield 16, 3), (61, .iload_n 1, 1), (62, .iload_n 3, 1), (63, .iastore, 1), (64, .iconst 0, 1), (65, .istore 4, 2), (67, .iload 4, 2), (69, .bipush 40, 2), (71, .if_icmp .ge 19, 3), (74, .aload_n 0, 1), (75, .getfield 21, 3), (78, .iload_n 1, 1), (79, .aaload, 1), (80, .iload 4, 2), (82, .lconst 0, 1), (83, .lastore, 1), (84, .iinc 4 1, 3)]
def zi_196_1 : zIns := [(87, .goto (-20), 3), (90, .iconst 1, 1), (91, .ireturn, 1)]
def zi_196 : zIns := zi_196_0 ++ (zi_196_1)
def zi_197 : zIns := [(0, .iload_n 0, 1), (1, .tableswitch 47 0 3 #[31, 36, 41, 45], 31), (32, .lload_n 1, 1), (33, .l2i, 1), (34, .i2b, 1), (35, .i2l, 1), (36, .lreturn, 1), (37, .lload_n 1, 1), (38, .l2i, 1), (39, .i2s, 1), (40, .i2l, 1), (41, .lreturn, 1), (42, .lload_n 1, 1), (43, .l2i, 1), (44, .i2l, 1), (45, .lreturn, 1), (46, .lload_n 1, 1), (47, .lreturn, 1), (48, .lload_n 1, 1), (49, .lconst 0, 1), (50, .lcmp, 1), (51, .ifCond .eq 7, 3), (54, .lconst 1, 1), (55, .goto 4, 3), (58, .lconst 0, 1), (59, .lreturn, 1)]
def zi_198 : zIns := [(0, .iload_n 1, 1), (1, .i2l, 1), (2, .lconst 0, 1), (3, .ldc2_w 103, 3), (6, .invokestatic 96, 3), (9, .ifCond .ne 10, 3), (12, .aload_n 0, 1), (13, .bipush (-102), 2), (15, .invokevirtual 109, 3), (18, .ireturn, 1), (19, .aload_n 0, 1), (20, .getfield 7, 3), (23, .iload_n 1, 1), (24, .iaload, 1), (25, .iconst 2, 1), (26, .if_icmp .ne 10, 3), (29, .aload_n 0, 1), (30, .bipush (-103), 2), (32, .invokevirtual 109, 3), (35, .ireturn, 1), (36, .aload_n 0, 1), (37, .getfield 7, 3), (40, .iload_n 1, 1), (41, .iaload, 1), (42, .ifCond .ne 12, 3), (45, .aload_n 0, 1), (46, .bipush (-104), 2), (48, .invokevirtual 109, 3), (51, .goto 4, 3), (54, .iconst 0, 1), (55, .ireturn, 1)]
def zi_199 : zIns := [(0, .aload_n 0, 1), (1, .iload_n 1, 1), (2, .invokevirtual 113, 3), (5, .istore 5, 2), (7, .iload 5, 2), (9, .ifCond .eq 6, 3), (12, .iload 5, 2), (14, .ireturn, 1), (15, .iload_n 2, 1), (16, .i2l, 1), (17, .lconst 0, 1), (18, .aload_n 0, 1), (19, .getfield 16, 3), (22, .iload_n 1, 1), (23, .iaload, 1), (24, .iconst 1, 1), (25, .isub, 1), (26, .i2l, 1), (27, .invokestatic 96, 3), (30, .ifCond .ne 10, 3), (33, .aload_n 0, 1), (34, .bipush (-102), 2), (36, .invokevirtual 109, 3), (39, .ireturn, 1), (40, .aload_n 0, 1), (41, .getfield 21, 3), (44, .iload_n 1, 1), (45, .aaload, 1), (46, .iload_n 2, 1), (47, .aload_n 0, 1), (48, .getfield 13, 3), (51, .iload_n 1, 1), (52, .iaload, 1), (53, .lload_n 3, 1), (54, .invokestatic 116, 3), (57, .lastore, 1), (58, .iconst 1, 1), (59, .ireturn, 1)]
def zi_200_0 : zIns := [(0, .iload_n 1, 1), (1, .i2l, 1), (2, .lconst 0, 1), (3, .ldc2_w 103, 3), (6, .invokestatic 96, 3), (9, .ifCond .eq 15, 3), (12, .iload_n 2, 1), (13, .i2l, 1), (14, .lconst 0, 1), (15, .ldc2_w 103, 3), (18, .invokestatic 96, 3), (21, .ifCond .ne 10, 3), (24, .aload_n 0, 1), (25, .bipush (-102), 2), (27, .invokevirtual 109, 3), (30, .ireturn, 1), (31, .aload_n 0, 1), (32, .getfield 7, 3), (35, .iload_n 1, 1), (36, .iaload, 1), (37, .iconst 2, 1), (38, .if_icmp .eq 48, 3), (41, .aload_n 0, 1), (42, .getfield 7, 3), (45, .iload_n 2, 1), (46, .iaload, 1), (47, .iconst 2, 1), (48, .if_icmp .eq 38, 3), (51, .aload_n 0, 1), (52, .getfield 7, 3), (55, .iload_n 1, 1), (56, .iaload, 1), (57, .iconst 1, 1), (58, .if_icmp .ne 35, 3), (61, .aload_n 0, 1), (62, .getfield 7, 3), (65, .iload_n 2, 1), (66, .iaload, 1), (67, .iconst 1, 1), (68, .if_icmp .ne 25, 3), (71, .aload_n 0, 1), (72, .getfield 13, 3), (75, .iload_n 1, 1), (76, .iaload, 1), (77, .aload_n 0, 1), (78, .getfield 13, 3), (81, .iload_n 2, 1), (82, .iaload, 1), (83, .if_icmp .eq 10, 3), (86, .aload_n 0, 1)]
def zi_200_1 : zIns := [(87, .bipush (-103), 2), (89, .invokevirtual 109, 3), (92, .ireturn, 1), (93, .aload_n 0, 1), (94, .getfield 7, 3), (97, .iload_n 1, 1), (98, .iaload, 1), (99, .ifCond .eq 12, 3), (102, .aload_n 0, 1), (103, .getfield 7, 3), (106, .iload_n 2, 1), (107, .iaload, 1), (108, .ifCond .ne 10, 3), (111, .aload_n 0, 1), (112, .bipush (-104), 2), (114, .invokevirtual 109, 3), (117, .ireturn, 1), (118, .iload 5, 2), (120, .ifCond .lt 61, 3), (123, .iload_n 3, 1), (124, .ifCond .lt 57, 3), (127, .iload 4, 2), (129, .ifCond .lt 52, 3), (132, .iload 5, 2), (134, .aload_n 0, 1), (135, .getfield 16, 3), (138, .iload_n 1, 1), (139, .iaload, 1), (140, .if_icmp .gt 41, 3), (143, .iload 5, 2), (145, .aload_n 0, 1), (146, .getfield 16, 3), (149, .iload_n 2, 1), (150, .iaload, 1), (151, .if_icmp .gt 30, 3), (154, .iload_n 3, 1), (155, .aload_n 0, 1), (156, .getfield 16, 3), (159, .iload_n 1, 1), (160, .iaload, 1), (161, .iload 5, 2), (163, .isub, 1), (164, .if_icmp .gt 17, 3), (167, .iload 4, 2), (169, .aload_n 0, 1), (170, .getfield 16, 3), (173, .iload_n 2, 1), (174, .iaload, 1), (175, .iload 5, 2), (177, .isub, 1)]
def zi_200_2 : zIns := [(178, .if_icmp .le 10, 3), (181, .aload_n 0, 1), (182, .bipush (-102), 2), (184, .invokevirtual 109, 3), (187, .ireturn, 1), (188, .iconst 0, 1), (189, .istore 6, 2), (191, .iload 6, 2), (193, .iload 5, 2), (195, .if_icmp .ge 27, 3), (198, .aload_n 0, 1), (199, .getfield 24, 3), (202, .iload 6, 2), (204, .aload_n 0, 1), (205, .getfield 21, 3), (208, .iload_n 1, 1), (209, .aaload, 1), (210, .iload_n 3, 1), (211, .iload 6, 2), (213, .iadd, 1), (214, .laload, 1), (215, .lastore, 1), (216, .iinc 6 1, 3), (219, .goto (-28), 3), (222, .iconst 0, 1), (223, .istore 6, 2), (225, .iload 6, 2), (227, .iload 5, 2), (229, .if_icmp .ge 28, 3), (232, .aload_n 0, 1), (233, .getfield 21, 3), (236, .iload_n 2, 1), (237, .aaload, 1), (238, .iload 4, 2), (240, .iload 6, 2), (242, .iadd, 1), (243, .aload_n 0, 1), (244, .getfield 24, 3), (247, .iload 6, 2), (249, .laload, 1), (250, .lastore, 1), (251, .iinc 6 1, 3), (254, .goto (-29), 3), (257, .iload 5, 2), (259, .ireturn, 1)]
def zi_200 : zIns := zi_200_0 ++ (zi_200_1 ++ (zi_200_2))
def zi_201 : zIns := [(0, .iload_n 1, 1), (1, .i2l, 1), (2, .lconst 0, 1), (3, .ldc2_w 103, 3), (6, .invokestatic 96, 3), (9, .ifCond .eq 42, 3), (12, .aload_n 0, 1), (13, .getfield 7, 3), (16, .iload_n 1, 1), (17, .iaload, 1), (18, .iconst 1, 1), (19, .if_icmp .ne 32, 3), (22, .iload_n 2, 1), (23, .i2l, 1), (24, .lconst 0, 1), (25, .aload_n 0, 1), (26, .getfield 16, 3), (29, .iload_n 1, 1), (30, .iaload, 1), (31, .iconst 1, 1), (32, .isub, 1), (33, .i2l, 1), (34, .invokestatic 96, 3), (37, .ifCond .eq 14, 3), (40, .aload_n 0, 1), (41, .getfield 21, 3), (44, .iload_n 1, 1), (45, .aaload, 1), (46, .iload_n 2, 1), (47, .laload, 1), (48, .goto 4, 3), (51, .lconst 0, 1), (52, .lreturn, 1)]
def zi_202 : zIns := [(0, .iload_n 1, 1), (1, .i2l, 1), (2, .lconst 0, 1), (3, .ldc2_w 103, 3), (6, .invokestatic 96, 3), (9, .ifCond .eq 12, 3), (12, .aload_n 0, 1), (13, .getfield 7, 3), (16, .iload_n 1, 1), (17, .iaload, 1), (18, .ifCond .ne 5, 3), (21, .iconst (-1), 1), (22, .ireturn, 1), (23, .aload_n 0, 1), (24, .getfield 7, 3), (27, .iload_n 1, 1), (28, .iaload, 1), (29, .iconst 1, 1), (30, .if_icmp .ne 12, 3), (33, .aload_n 0, 1), (34, .getfield 13, 3), (37, .iload_n 1, 1), (38, .iaload, 1), (39, .goto 12, 3), (42, .bipush 10, 2), (44, .aload_n 0, 1), (45, .getfield 28, 3), (48, .iload_n 1, 1), (49, .iaload, 1), (50, .iadd, 1), (51, .ireturn, 1)]
def zi_203 : zIns := [(0, .iload_n 1, 1), (1, .i2l, 1), (2, .lconst 0, 1), (3, .ldc2_w 103, 3), (6, .invokestatic 96, 3), (9, .ifCond .eq 16, 3), (12, .iload_n 2, 1), (13, .iconst (-1), 1), (14, .if_icmp .eq 18, 3), (17, .aload_n 0, 1), (18, .iload_n 2, 1), (19, .invokevirtual 120, 3), (22, .ifCond .ne 10, 3), (25, .aload_n 0, 1), (26, .bipush (-102), 2), (28, .invokevirtual 109, 3), (31, .ireturn, 1), (32, .aload_n 0, 1), (33, .getfield 7, 3), (36, .iload_n 1, 1), (37, .iload_n 2, 1), (38, .iconst (-1), 1), (39, .if_icmp .ne 7, 3), (42, .iconst 0, 1), (43, .goto 4, 3), (46, .iconst 2, 1), (47, .iastore, 1), (48, .aload_n 0, 1), (49, .getfield 28, 3), (52, .iload_n 1, 1), (53, .iload_n 2, 1), (54, .iastore, 1), (55, .iconst 1, 1), (56, .ireturn, 1)]
def zi_204_0 : zIns := [(0, .iload_n 1, 1), (1, .tableswitch 110 0 5 #[39, 41, 52, 68, 86, 98], 39), (40, .iconst 1, 1), (41, .ireturn, 1), (42, .iload_n 0, 1), (43, .iconst 5, 1), (44, .if_icmp .gt 7, 3), (47, .iconst 1, 1), (48, .goto 4, 3), (51, .iconst 0, 1), (52, .ireturn, 1), (53, .iload_n 0, 1), (54, .iconst 2, 1), (55, .if_icmp .le 8, 3), (58, .iload_n 0, 1), (59, .iconst 4, 1), (60, .if_icmp .ne 7, 3), (63, .iconst 1, 1), (64, .goto 4, 3), (67, .iconst 0, 1), (68, .ireturn, 1), (69, .iload_n 0, 1), (70, .bipush 6, 2), (72, .if_icmp .eq 9, 3), (75, .iload_n 0, 1), (76, .bipush 7, 2), (78, .if_icmp .ne 7, 3), (81, .iconst 1, 1), (82, .goto 4, 3), (85, .iconst 0, 1), (86, .ireturn, 1), (87, .iload_n 0, 1), (88, .bipush 8, 2), (90, .if_icmp .lt 7, 3), (93, .iconst 1, 1), (94, .goto 4, 3), (97, .iconst 0, 1), (98, .ireturn, 1), (99, .iload_n 0, 1), (100, .bipush 6, 2), (102, .if_icmp .ne 7, 3), (105, .iconst 1, 1), (106, .goto 4, 3), (109, .iconst 0, 1), (110, .ireturn, 1), (111, .iload_n 0, 1), (112, .iconst 5, 1), (113, .if_icmp .ne 7, 3), (116, .iconst 1, 1), (117, .goto 4, 3)]
def zi_204_1 : zIns := [(120, .iconst 0, 1), (121, .ireturn, 1)]
def zi_204 : zIns := zi_204_0 ++ (zi_204_1)
def zi_205_0 : zIns := [(0, .iload_n 1, 1), (1, .i2l, 1), (2, .lconst 0, 1), (3, .ldc2_w 103, 3), (6, .invokestatic 96, 3), (9, .ifCond .eq 15, 3), (12, .iload_n 2, 1), (13, .i2l, 1), (14, .lconst 0, 1), (15, .ldc2_w 124, 3), (18, .invokestatic 96, 3), (21, .ifCond .ne 10, 3), (24, .aload_n 0, 1), (25, .bipush (-102), 2), (27, .invokevirtual 109, 3), (30, .ireturn, 1), (31, .aload_n 0, 1), (32, .getfield 28, 3), (35, .iload_n 1, 1), (36, .iaload, 1), (37, .istore_n 3, 1), (38, .aload_n 0, 1), (39, .getfield 7, 3), (42, .iload_n 1, 1), (43, .iaload, 1), (44, .iconst 1, 1), (45, .if_icmp .eq 26, 3), (48, .aload_n 0, 1), (49, .getfield 7, 3), (52, .iload_n 1, 1), (53, .iaload, 1), (54, .iconst 2, 1), (55, .if_icmp .ne 23, 3), (58, .aload_n 0, 1), (59, .getfield 47, 3), (62, .iload_n 3, 1), (63, .iaload, 1), (64, .iload_n 2, 1), (65, .invokestatic 126, 3), (68, .ifCond .ne 10, 3), (71, .aload_n 0, 1), (72, .bipush (-103), 2), (74, .invokevirtual 109, 3), (77, .ireturn, 1), (78, .aload_n 0, 1), (79, .getfield 7, 3), (82, .iload_n 1, 1), (83, .iaload, 1), (84, .ifCond .ne 10, 3), (87, .aload_n 0, 1)]
def zi_205_1 : zIns := [(88, .bipush (-104), 2), (90, .invokevirtual 109, 3), (93, .ireturn, 1), (94, .iload_n 2, 1), (95, .tableswitch 138 0 5 #[37, 44, 78, 93, 118, 128], 37), (132, .aload_n 0, 1), (133, .iload_n 3, 1), (134, .iconst 1, 1), (135, .invokevirtual 130, 3), (138, .ireturn, 1), (139, .aload_n 0, 1), (140, .getfield 47, 3), (143, .iload_n 3, 1), (144, .iaload, 1), (145, .iconst 5, 1), (146, .if_icmp .ne 17, 3), (149, .aload_n 0, 1), (150, .getfield 53, 3), (153, .bipush 8, 2), (155, .iload_n 3, 1), (156, .imul, 1), (157, .iconst 1, 1), (158, .iadd, 1), (159, .iaload, 1), (160, .goto 12, 3), (163, .aload_n 0, 1), (164, .getfield 53, 3), (167, .bipush 8, 2), (169, .iload_n 3, 1), (170, .imul, 1), (171, .iaload, 1), (172, .ireturn, 1), (173, .aload_n 0, 1), (174, .iload_n 3, 1), (175, .aload_n 0, 1), (176, .getfield 53, 3), (179, .bipush 8, 2), (181, .iload_n 3, 1), (182, .imul, 1), (183, .iaload, 1), (184, .invokevirtual 134, 3), (187, .ireturn, 1), (188, .bipush 100, 2), (190, .aload_n 0, 1), (191, .getfield 53, 3), (194, .bipush 8, 2), (196, .iload_n 3, 1), (197, .imul, 1), (198, .iaload, 1), (199, .imul, 1)]
def zi_205_2 : zIns := [(200, .aload_n 0, 1), (201, .getfield 53, 3), (204, .bipush 8, 2), (206, .iload_n 3, 1), (207, .imul, 1), (208, .iconst 1, 1), (209, .iadd, 1), (210, .iaload, 1), (211, .iadd, 1), (212, .ireturn, 1), (213, .aload_n 0, 1), (214, .getfield 53, 3), (217, .bipush 8, 2), (219, .iload_n 3, 1), (220, .imul, 1), (221, .iaload, 1), (222, .ireturn, 1), (223, .aload_n 0, 1), (224, .getfield 78, 3), (227, .iload_n 3, 1), (228, .iaload, 1), (229, .invokestatic 137, 3), (232, .ireturn, 1), (233, .aload_n 0, 1), (234, .getfield 53, 3), (237, .bipush 8, 2), (239, .iload_n 3, 1), (240, .imul, 1), (241, .iaload, 1), (242, .ireturn, 1)]
def zi_205 : zIns := zi_205_0 ++ (zi_205_1 ++ (zi_205_2))
def zi_206 : zIns := [(0, .iload_n 0, 1), (1, .iconst 2, 1), (2, .idiv, 1), (3, .istore_n 2, 1), (4, .iload_n 2, 1), (5, .ifCond .ne 7, 3), (8, .iconst 1, 1), (9, .goto 4, 3), (12, .iconst 0, 1), (13, .istore_n 3, 1), (14, .iload_n 2, 1), (15, .iconst 2, 1), (16, .if_icmp .ne 7, 3), (19, .iconst 1, 1), (20, .goto 4, 3), (23, .iconst 2, 1), (24, .istore 4, 2), (26, .iload_n 1, 1), (27, .ifCond .ne 5, 3), (30, .iload_n 2, 1), (31, .ireturn, 1), (32, .iload_n 1, 1), (33, .iconst 1, 1), (34, .if_icmp .ne 7, 3), (37, .iconst 1, 1), (38, .goto 4, 3), (41, .iconst 0, 1), (42, .iload_n 0, 1), (43, .iconst 2, 1), (44, .irem, 1), (45, .ifCond .ne 7, 3), (48, .iconst 1, 1), (49, .goto 4, 3), (52, .iconst 0, 1), (53, .if_icmp .ne 7, 3), (56, .iload_n 3, 1), (57, .goto 5, 3), (60, .iload 4, 2), (62, .ireturn, 1)]
def zi_207 : zIns := [(0, .iload_n 1, 1), (1, .ifCond .ne 10, 3), (4, .iload_n 0, 1), (5, .bipush 100, 2), (7, .idiv, 1), (8, .goto 22, 3), (11, .iload_n 1, 1), (12, .iconst 1, 1), (13, .if_icmp .ne 13, 3), (16, .iload_n 0, 1), (17, .bipush 10, 2), (19, .idiv, 1), (20, .bipush 10, 2), (22, .irem, 1), (23, .goto 7, 3), (26, .iload_n 0, 1), (27, .bipush 10, 2), (29, .irem, 1), (30, .ireturn, 1)]
def zi_208 : zIns := [(0, .iload_n 0, 1), (1, .ifCond .ne 8, 3), (4, .bipush 100, 2), (6, .goto 14, 3), (9, .iload_n 0, 1), (10, .iconst 1, 1), (11, .if_icmp .ne 8, 3), (14, .bipush 10, 2), (16, .goto 4, 3), (19, .iconst 1, 1), (20, .ireturn, 1)]
def zi_209 : zIns := [(0, .iconst 0, 1), (1, .istore_n 2, 1), (2, .iconst 0, 1), (3, .istore_n 3, 1), (4, .iload_n 3, 1), (5, .iconst 3, 1), (6, .if_icmp .ge 26, 3), (9, .iload_n 2, 1), (10, .iload_n 0, 1), (11, .iload_n 3, 1), (12, .invokestatic 140, 3), (15, .invokestatic 143, 3), (18, .iload_n 1, 1), (19, .iload_n 3, 1), (20, .invokestatic 146, 3), (23, .imul, 1), (24, .iadd, 1), (25, .istore_n 2, 1), (26, .iinc 3 1, 3), (29, .goto (-25), 3), (32, .iload_n 2, 1), (33, .ireturn, 1)]
def zi_210 : zIns := [(0, .iconst 0, 1), (1, .istore_n 3, 1), (2, .iconst 0, 1), (3, .istore 4, 2), (5, .iload 4, 2), (7, .iconst 3, 1), (8, .if_icmp .ge 33, 3), (11, .iload_n 3, 1), (12, .iload 4, 2), (14, .invokestatic 143, 3), (17, .aload_n 0, 1), (18, .getfield 44, 3), (21, .iconst 3, 1), (22, .iload_n 1, 1), (23, .imul, 1), (24, .iload_n 2, 1), (25, .iload 4, 2), (27, .invokestatic 140, 3), (30, .iadd, 1), (31, .iaload, 1), (32, .imul, 1), (33, .iadd, 1), (34, .istore_n 3, 1), (35, .iinc 4 1, 3), (38, .goto (-33), 3), (41, .iload_n 3, 1), (42, .ireturn, 1)]
def zi_211 : zIns := [(0, .aload_n 0, 1), (1, .getfield 68, 3), (4, .iload_n 1, 1), (5, .sipush 1000, 3), (8, .imul, 1), (9, .iload_n 2, 1), (10, .iadd, 1), (11, .baload, 1), (12, .ireturn, 1)]
def zi_212 : zIns := [(0, .aload_n 0, 1), (1, .iload_n 1, 1), (2, .aload_n 0, 1), (3, .iload_n 2, 1), (4, .iconst 0, 1), (5, .invokevirtual 149, 3), (8, .invokevirtual 152, 3), (11, .ireturn, 1)]
def zi_213 : zIns := [(0, .iload_n 0, 1), (1, .ifCond .ne 16, 3), (4, .iload_n 1, 1), (5, .iload_n 2, 1), (6, .if_icmp .ge 7, 3), (9, .iconst 1, 1), (10, .goto 53, 3), (13, .iconst 0, 1), (14, .goto 49, 3), (17, .iload_n 0, 1), (18, .iconst 1, 1), (19, .if_icmp .ne 16, 3), (22, .iload_n 1, 1), (23, .iload_n 2, 1), (24, .if_icmp .ne 7, 3), (27, .iconst 1, 1), (28, .goto 35, 3), (31, .iconst 0, 1), (32, .goto 31, 3), (35, .iload_n 0, 1), (36, .iconst 2, 1), (37, .if_icmp .ne 16, 3), (40, .iload_n 1, 1), (41, .iload_n 2, 1), (42, .if_icmp .le 7, 3), (45, .iconst 1, 1), (46, .goto 17, 3), (49, .iconst 0, 1), (50, .goto 13, 3), (53, .iload_n 1, 1), (54, .iload_n 2, 1), (55, .if_icmp .eq 7, 3), (58, .iconst 1, 1), (59, .goto 4, 3), (62, .iconst 0, 1), (63, .istore_n 3, 1), (64, .iload_n 3, 1), (65, .ifCond .eq 7, 3), (68, .iconst 1, 1), (69, .goto 4, 3), (72, .iconst 0, 1), (73, .ireturn, 1)]
def zi_214_0 : zIns := [(0, .aload_n 0, 1), (1, .getfield 53, 3), (4, .bipush 8, 2), (6, .iload_n 1, 1), (7, .imul, 1), (8, .iaload, 1), (9, .istore_n 3, 1), (10, .aload_n 0, 1), (11, .getfield 50, 3), (14, .iload_n 1, 1), (15, .iaload, 1), (16, .istore 4, 2), (18, .iconst 1, 1), (19, .istore 5, 2), (21, .iconst 0, 1), (22, .istore 6, 2), (24, .iload 6, 2), (26, .iload_n 3, 1), (27, .if_icmp .ge 114, 3), (30, .iload_n 2, 1), (31, .aload_n 0, 1), (32, .getfield 53, 3), (35, .bipush 8, 2), (37, .iload_n 1, 1), (38, .imul, 1), (39, .iconst 1, 1), (40, .iadd, 1), (41, .iconst 2, 1), (42, .iload 6, 2), (44, .imul, 1), (45, .iadd, 1), (46, .iaload, 1), (47, .invokestatic 146, 3), (50, .istore 7, 2), (52, .aload_n 0, 1), (53, .getfield 53, 3), (56, .bipush 8, 2), (58, .iload_n 1, 1), (59, .imul, 1), (60, .iconst 2, 1), (61, .iadd, 1), (62, .iconst 2, 1), (63, .iload 6, 2), (65, .imul, 1), (66, .iadd, 1), (67, .iaload, 1), (68, .istore 8, 2), (70, .iload 4, 2), (72, .ifCond .eq 9, 3), (75, .iload 4, 2)]
def zi_214_1 : zIns := [(77, .iconst 2, 1), (78, .if_icmp .ne 27, 3), (81, .iload 7, 2), (83, .ifCond .ne 5, 3), (86, .iconst 2, 1), (87, .ireturn, 1), (88, .iload 7, 2), (90, .iload 8, 2), (92, .if_icmp .eq 43, 3), (95, .iload 4, 2), (97, .iload 7, 2), (99, .iload 8, 2), (101, .invokestatic 155, 3), (104, .ireturn, 1), (105, .iload 7, 2), (107, .ifCond .ne 9, 3), (110, .iconst 2, 1), (111, .istore 5, 2), (113, .goto 22, 3), (116, .iload 7, 2), (118, .iload 8, 2), (120, .if_icmp .eq 15, 3), (123, .iload 4, 2), (125, .iconst 1, 1), (126, .if_icmp .ne 7, 3), (129, .iconst 0, 1), (130, .goto 4, 3), (133, .iconst 1, 1), (134, .ireturn, 1), (135, .iinc 6 1, 3), (138, .goto (-114), 3), (141, .iload 4, 2), (143, .ifCond .eq 9, 3), (146, .iload 4, 2), (148, .iconst 2, 1), (149, .if_icmp .ne 7, 3), (152, .iconst 0, 1), (153, .goto 24, 3), (156, .iload 5, 2), (158, .iconst 2, 1), (159, .if_icmp .ne 7, 3), (162, .iconst 2, 1), (163, .goto 14, 3), (166, .iload 4, 2), (168, .iconst 1, 1), (169, .if_icmp .ne 7, 3), (172, .iconst 1, 1), (173, .goto 4, 3), (176, .iconst 0, 1), (177, .ireturn, 1)]
def zi_214 : zIns := zi_214_0 ++ (zi_214_1)
def zi_215_0 : zIns := [(0, .bipush 8, 2), (2, .iload_n 1, 1), (3, .imul, 1), (4, .istore_n 3, 1), (5, .aload_n 0, 1), (6, .getfield 47, 3), (9, .iload_n 1, 1), (10, .iaload, 1), (11, .iconst 5, 1), (12, .if_icmp .ne 7, 3), (15, .iconst 1, 1), (16, .goto 13, 3), (19, .iload_n 2, 1), (20, .aload_n 0, 1), (21, .getfield 53, 3), (24, .iload_n 3, 1), (25, .iaload, 1), (26, .invokestatic 146, 3), (29, .istore 4, 2), (31, .aload_n 0, 1), (32, .getfield 47, 3), (35, .iload_n 1, 1), (36, .iaload, 1), (37, .iconst 2, 1), (38, .if_icmp .ne 14, 3), (41, .iload 4, 2), (43, .ifCond .ne 7, 3), (46, .iconst 1, 1), (47, .goto 4, 3), (50, .iconst 0, 1), (51, .ireturn, 1), (52, .aload_n 0, 1), (53, .getfield 47, 3), (56, .iload_n 1, 1), (57, .iaload, 1), (58, .iconst 5, 1), (59, .if_icmp .ne 10, 3), (62, .aload_n 0, 1), (63, .iload_n 1, 1), (64, .iload_n 2, 1), (65, .invokevirtual 159, 3), (68, .ireturn, 1), (69, .iload 4, 2), (71, .ifCond .ne 5, 3), (74, .iconst 2, 1), (75, .ireturn, 1), (76, .aload_n 0, 1), (77, .getfield 47, 3), (80, .iload_n 1, 1), (81, .iaload, 1)]
def zi_215_1 : zIns := [(82, .tableswitch 101 0 3 #[30, 50, 101, 64], 30), (112, .aload_n 0, 1), (113, .getfield 50, 3), (116, .iload_n 1, 1), (117, .iaload, 1), (118, .iload 4, 2), (120, .aload_n 0, 1), (121, .getfield 53, 3), (124, .iload_n 3, 1), (125, .iconst 1, 1), (126, .iadd, 1), (127, .iaload, 1), (128, .invokestatic 155, 3), (131, .ireturn, 1), (132, .aload_n 0, 1), (133, .getfield 53, 3), (136, .iload_n 3, 1), (137, .iconst 1, 1), (138, .iadd, 1), (139, .iaload, 1), (140, .iload 4, 2), (142, .ishr, 1), (143, .iconst 1, 1), (144, .iand, 1), (145, .ireturn, 1), (146, .iload_n 2, 1), (147, .aload_n 0, 1), (148, .getfield 53, 3), (151, .iload_n 3, 1), (152, .iconst 1, 1), (153, .iadd, 1), (154, .iaload, 1), (155, .invokestatic 146, 3), (158, .istore 5, 2), (160, .iload 5, 2), (162, .ifCond .ne 7, 3), (165, .iconst 2, 1), (166, .goto 16, 3), (169, .aload_n 0, 1), (170, .getfield 50, 3), (173, .iload_n 1, 1), (174, .iaload, 1), (175, .iload 4, 2), (177, .iload 5, 2), (179, .invokestatic 155, 3), (182, .ireturn, 1), (183, .iload 4, 2), (185, .aload_n 0, 1), (186, .getfield 53, 3), (189, .iload_n 3, 1)]
def zi_215_2 : zIns := [(190, .iconst 1, 1), (191, .iadd, 1), (192, .iaload, 1), (193, .irem, 1), (194, .aload_n 0, 1), (195, .getfield 53, 3), (198, .iload_n 3, 1), (199, .iconst 2, 1), (200, .iadd, 1), (201, .iaload, 1), (202, .if_icmp .ne 7, 3), (205, .iconst 1, 1), (206, .goto 4, 3), (209, .iconst 0, 1), (210, .ireturn, 1)]
def zi_215 : zIns := zi_215_0 ++ (zi_215_1 ++ (zi_215_2))
def zi_216_0 : zIns := [(0, .aload_n 0, 1), (1, .getfield 47, 3), (4, .iload_n 1, 1), (5, .iaload, 1), (6, .iconst 5, 1), (7, .if_icmp .gt 10, 3), (10, .aload_n 0, 1), (11, .iload_n 1, 1), (12, .iload_n 2, 1), (13, .invokevirtual 162, 3), (16, .ireturn, 1), (17, .aload_n 0, 1), (18, .aload_n 0, 1), (19, .getfield 53, 3), (22, .bipush 8, 2), (24, .iload_n 1, 1), (25, .imul, 1), (26, .iaload, 1), (27, .iload_n 2, 1), (28, .invokevirtual 152, 3), (31, .istore_n 3, 1), (32, .aload_n 0, 1), (33, .getfield 47, 3), (36, .iload_n 1, 1), (37, .iaload, 1), (38, .bipush 7, 2), (40, .if_icmp .gt 22, 3), (43, .aload_n 0, 1), (44, .aload_n 0, 1), (45, .getfield 53, 3), (48, .bipush 8, 2), (50, .iload_n 1, 1), (51, .imul, 1), (52, .iconst 1, 1), (53, .iadd, 1), (54, .iaload, 1), (55, .iload_n 2, 1), (56, .invokevirtual 152, 3), (59, .goto 4, 3), (62, .iconst 0, 1), (63, .istore 4, 2), (65, .aload_n 0, 1), (66, .getfield 47, 3), (69, .iload_n 1, 1), (70, .iaload, 1), (71, .tableswitch 100 6 8 #[25, 55, 87], 25), (96, .iload_n 3, 1), (97, .ifCond .eq 8, 3), (100, .iload 4, 2), (102, .ifCond .ne 7, 3)]
def zi_216_1 : zIns := [(105, .iconst 0, 1), (106, .goto 19, 3), (109, .iload_n 3, 1), (110, .iconst 2, 1), (111, .if_icmp .eq 9, 3), (114, .iload 4, 2), (116, .iconst 2, 1), (117, .if_icmp .ne 7, 3), (120, .iconst 2, 1), (121, .goto 4, 3), (124, .iconst 1, 1), (125, .ireturn, 1), (126, .iload_n 3, 1), (127, .iconst 1, 1), (128, .if_icmp .eq 9, 3), (131, .iload 4, 2), (133, .iconst 1, 1), (134, .if_icmp .ne 7, 3), (137, .iconst 1, 1), (138, .goto 19, 3), (141, .iload_n 3, 1), (142, .iconst 2, 1), (143, .if_icmp .eq 9, 3), (146, .iload 4, 2), (148, .iconst 2, 1), (149, .if_icmp .ne 7, 3), (152, .iconst 2, 1), (153, .goto 4, 3), (156, .iconst 0, 1), (157, .ireturn, 1), (158, .iload_n 3, 1), (159, .iconst 2, 1), (160, .if_icmp .ne 7, 3), (163, .iconst 2, 1), (164, .goto 6, 3), (167, .iconst 1, 1), (168, .iload_n 3, 1), (169, .isub, 1), (170, .ireturn, 1), (171, .iload_n 3, 1), (172, .iconst 1, 1), (173, .if_icmp .ne 7, 3), (176, .iconst 1, 1), (177, .goto 4, 3), (180, .iconst 0, 1), (181, .ireturn, 1)]
def zi_216 : zIns := zi_216_0 ++ (zi_216_1)
def zi_217_0 : zIns := [(0, .bipush 8, 2), (2, .iload_n 1, 1), (3, .imul, 1), (4, .istore_n 2, 1), (5, .aload_n 0, 1), (6, .getfield 78, 3), (9, .iload_n 1, 1), (10, .iconst 1, 1), (11, .iload_n 1, 1), (12, .ishl, 1), (13, .iastore, 1), (14, .aload_n 0, 1), (15, .getfield 75, 3), (18, .iload_n 1, 1), (19, .iconst 0, 1), (20, .iastore, 1), (21, .aload_n 0, 1), (22, .getfield 72, 3), (25, .iload_n 1, 1), (26, .aload_n 0, 1), (27, .getfield 47, 3), (30, .iload_n 1, 1), (31, .iaload, 1), (32, .iconst 5, 1), (33, .if_icmp .ne 7, 3), (36, .iconst 0, 1), (37, .goto 11, 3), (40, .iconst 1, 1), (41, .aload_n 0, 1), (42, .getfield 53, 3), (45, .iload_n 2, 1), (46, .iaload, 1), (47, .ishl, 1), (48, .iastore, 1), (49, .aload_n 0, 1), (50, .getfield 47, 3), (53, .iload_n 1, 1), (54, .iaload, 1), (55, .iconst 3, 1), (56, .if_icmp .ne 22, 3), (59, .aload_n 0, 1), (60, .getfield 72, 3), (63, .iload_n 1, 1), (64, .dup2, 1), (65, .iaload, 1), (66, .iconst 1, 1), (67, .aload_n 0, 1), (68, .getfield 53, 3), (71, .iload_n 2, 1), (72, .iconst 1, 1)]
def zi_217_1 : zIns := [(73, .iadd, 1), (74, .iaload, 1), (75, .ishl, 1), (76, .ior, 1), (77, .iastore, 1), (78, .iconst 0, 1), (79, .istore_n 3, 1), (80, .aload_n 0, 1), (81, .getfield 47, 3), (84, .iload_n 1, 1), (85, .iaload, 1), (86, .iconst 5, 1), (87, .if_icmp .ne 42, 3), (90, .iload_n 3, 1), (91, .aload_n 0, 1), (92, .getfield 53, 3), (95, .iload_n 2, 1), (96, .iaload, 1), (97, .if_icmp .ge 32, 3), (100, .aload_n 0, 1), (101, .getfield 72, 3), (104, .iload_n 1, 1), (105, .dup2, 1), (106, .iaload, 1), (107, .iconst 1, 1), (108, .aload_n 0, 1), (109, .getfield 53, 3), (112, .iload_n 2, 1), (113, .iconst 1, 1), (114, .iadd, 1), (115, .iconst 2, 1), (116, .iload_n 3, 1), (117, .imul, 1), (118, .iadd, 1), (119, .iaload, 1), (120, .ishl, 1), (121, .ior, 1), (122, .iastore, 1), (123, .iinc 3 1, 3), (126, .goto (-46), 3), (129, .return_, 1)]
def zi_217 : zIns := zi_217_0 ++ (zi_217_1)
def zi_218_0 : zIns := [(0, .aload_n 0, 1), (1, .getfield 53, 3), (4, .bipush 8, 2), (6, .iload_n 1, 1), (7, .imul, 1), (8, .iaload, 1), (9, .istore_n 2, 1), (10, .aload_n 0, 1), (11, .getfield 47, 3), (14, .iload_n 1, 1), (15, .iaload, 1), (16, .bipush 7, 2), (18, .if_icmp .gt 17, 3), (21, .aload_n 0, 1), (22, .getfield 53, 3), (25, .bipush 8, 2), (27, .iload_n 1, 1), (28, .imul, 1), (29, .iconst 1, 1), (30, .iadd, 1), (31, .iaload, 1), (32, .goto 4, 3), (35, .iload_n 2, 1), (36, .istore_n 3, 1), (37, .aload_n 0, 1), (38, .getfield 78, 3), (41, .iload_n 1, 1), (42, .aload_n 0, 1), (43, .getfield 47, 3), (46, .iload_n 1, 1), (47, .iaload, 1), (48, .bipush 6, 2), (50, .if_icmp .ne 19, 3), (53, .aload_n 0, 1), (54, .getfield 78, 3), (57, .iload_n 2, 1), (58, .iaload, 1), (59, .aload_n 0, 1), (60, .getfield 78, 3), (63, .iload_n 3, 1), (64, .iaload, 1), (65, .ior, 1), (66, .goto 6, 3), (69, .iconst 1, 1), (70, .iload_n 1, 1), (71, .ishl, 1), (72, .iastore, 1), (73, .aload_n 0, 1), (74, .getfield 75, 3), (77, .iload_n 1, 1)]
def zi_218_1 : zIns := [(78, .iconst 1, 1), (79, .aload_n 0, 1), (80, .getfield 75, 3), (83, .iload_n 2, 1), (84, .iaload, 1), (85, .aload_n 0, 1), (86, .getfield 75, 3), (89, .iload_n 3, 1), (90, .iaload, 1), (91, .if_icmp .le 12, 3), (94, .aload_n 0, 1), (95, .getfield 75, 3), (98, .iload_n 2, 1), (99, .iaload, 1), (100, .goto 9, 3), (103, .aload_n 0, 1), (104, .getfield 75, 3), (107, .iload_n 3, 1), (108, .iaload, 1), (109, .iadd, 1), (110, .iastore, 1), (111, .aload_n 0, 1), (112, .getfield 72, 3), (115, .iload_n 1, 1), (116, .aload_n 0, 1), (117, .getfield 72, 3), (120, .iload_n 2, 1), (121, .iaload, 1), (122, .aload_n 0, 1), (123, .getfield 72, 3), (126, .iload_n 3, 1), (127, .iaload, 1), (128, .ior, 1), (129, .iastore, 1), (130, .return_, 1)]
def zi_218 : zIns := zi_218_0 ++ (zi_218_1)
def zi_219 : zIns := [(0, .iload_n 1, 1), (1, .istore_n 2, 1), (2, .iload_n 2, 1), (3, .aload_n 0, 1), (4, .getfield 93, 3), (7, .if_icmp .ge 66, 3), (10, .aload_n 0, 1), (11, .getfield 47, 3), (14, .iload_n 2, 1), (15, .iaload, 1), (16, .iconst 5, 1), (17, .if_icmp .gt 11, 3), (20, .aload_n 0, 1), (21, .iload_n 2, 1), (22, .invokevirtual 165, 3), (25, .goto 8, 3), (28, .aload_n 0, 1), (29, .iload_n 2, 1), (30, .invokevirtual 169, 3), (33, .iconst 0, 1), (34, .istore_n 3, 1), (35, .iload_n 3, 1), (36, .sipush 1000, 3), (39, .if_icmp .ge 28, 3), (42, .aload_n 0, 1), (43, .getfield 68, 3), (46, .iload_n 2, 1), (47, .sipush 1000, 3), (50, .imul, 1), (51, .iload_n 3, 1), (52, .iadd, 1), (53, .aload_n 0, 1), (54, .iload_n 2, 1), (55, .iload_n 3, 1), (56, .invokevirtual 172, 3), (59, .i2b, 1), (60, .bastore, 1), (61, .iinc 3 1, 3), (64, .goto (-29), 3), (67, .iinc 2 1, 3), (70, .goto (-68), 3), (73, .return_, 1)]
def zi_220 : zIns := [(0, .aload_n 0, 1), (1, .getfield 44, 3), (4, .iconst 3, 1), (5, .iload_n 1, 1), (6, .imul, 1), (7, .iload_n 2, 1), (8, .iastore, 1), (9, .aload_n 0, 1), (10, .getfield 44, 3), (13, .iconst 3, 1), (14, .iload_n 1, 1), (15, .imul, 1), (16, .iconst 1, 1), (17, .iadd, 1), (18, .iload_n 3, 1), (19, .iastore, 1), (20, .aload_n 0, 1), (21, .getfield 44, 3), (24, .iconst 3, 1), (25, .iload_n 1, 1), (26, .imul, 1), (27, .iconst 2, 1), (28, .iadd, 1), (29, .iload 4, 2), (31, .iastore, 1), (32, .return_, 1)]
def zi_221 : zIns := [(0, .iload_n 1, 1), (1, .i2l, 1), (2, .lconst 0, 1), (3, .ldc2_w 175, 3), (6, .invokestatic 96, 3), (9, .ifCond .eq 27, 3), (12, .iload_n 2, 1), (13, .i2l, 1), (14, .lconst 0, 1), (15, .ldc2_w 175, 3), (18, .invokestatic 96, 3), (21, .ifCond .eq 15, 3), (24, .iload_n 3, 1), (25, .i2l, 1), (26, .lconst 0, 1), (27, .ldc2_w 175, 3), (30, .invokestatic 96, 3), (33, .ifCond .ne 10, 3), (36, .aload_n 0, 1), (37, .bipush (-102), 2), (39, .invokevirtual 109, 3), (42, .ireturn, 1), (43, .aload_n 0, 1), (44, .getfield 100, 3), (47, .bipush 60, 2), (49, .if_icmp .ne 10, 3), (52, .aload_n 0, 1), (53, .bipush (-106), 2), (55, .invokevirtual 109, 3), (58, .ireturn, 1), (59, .aload_n 0, 1), (60, .aload_n 0, 1), (61, .getfield 100, 3), (64, .iload_n 1, 1), (65, .iload_n 2, 1), (66, .iload_n 3, 1), (67, .invokevirtual 177, 3), (70, .aload_n 0, 1), (71, .dup, 1), (72, .getfield 100, 3), (75, .dup_x1, 1), (76, .iconst 1, 1), (77, .iadd, 1), (78, .putfield 100, 3), (81, .ireturn, 1)]
def zi_222 : zIns := [(0, .aload_n 0, 1), (1, .iload_n 1, 1), (2, .invokevirtual 181, 3), (5, .ifCond .eq 27, 3), (8, .iload_n 2, 1), (9, .i2l, 1), (10, .lconst 0, 1), (11, .ldc2_w 184, 3), (14, .invokestatic 96, 3), (17, .ifCond .eq 15, 3), (20, .iload_n 3, 1), (21, .i2l, 1), (22, .lconst 0, 1), (23, .ldc2_w 175, 3), (26, .invokestatic 96, 3), (29, .ifCond .ne 10, 3), (32, .aload_n 0, 1), (33, .bipush (-102), 2), (35, .invokevirtual 109, 3), (38, .ireturn, 1), (39, .aload_n 0, 1), (40, .getfield 44, 3), (43, .iconst 3, 1), (44, .iload_n 1, 1), (45, .imul, 1), (46, .iload_n 2, 1), (47, .iadd, 1), (48, .iaload, 1), (49, .istore 4, 2), (51, .aload_n 0, 1), (52, .getfield 44, 3), (55, .iconst 3, 1), (56, .iload_n 1, 1), (57, .imul, 1), (58, .iload_n 2, 1), (59, .iadd, 1), (60, .iload_n 3, 1), (61, .iastore, 1), (62, .iload 4, 2), (64, .ireturn, 1)]
def zi_223 : zIns := [(0, .aload_n 0, 1), (1, .dup, 1), (2, .getfield 100, 3), (5, .iconst 1, 1), (6, .isub, 1), (7, .putfield 100, 3), (10, .iconst 3, 1), (11, .iload_n 1, 1), (12, .imul, 1), (13, .istore_n 2, 1), (14, .iload_n 2, 1), (15, .iconst 3, 1), (16, .aload_n 0, 1), (17, .getfield 100, 3), (20, .imul, 1), (21, .if_icmp .ge 23, 3), (24, .aload_n 0, 1), (25, .getfield 44, 3), (28, .iload_n 2, 1), (29, .aload_n 0, 1), (30, .getfield 44, 3), (33, .iload_n 2, 1), (34, .iconst 3, 1), (35, .iadd, 1), (36, .iaload, 1), (37, .iastore, 1), (38, .iinc 2 1, 3), (41, .goto (-27), 3), (44, .return_, 1)]
def zi_224 : zIns := [(0, .aload_n 0, 1), (1, .iload_n 1, 1), (2, .invokevirtual 181, 3), (5, .ifCond .ne 10, 3), (8, .aload_n 0, 1), (9, .bipush (-102), 2), (11, .invokevirtual 109, 3), (14, .ireturn, 1), (15, .aload_n 0, 1), (16, .iload_n 1, 1), (17, .invokevirtual 186, 3), (20, .aload_n 0, 1), (21, .getfield 100, 3), (24, .ireturn, 1)]
def zi_225 : zIns := [(0, .iload_n 1, 1), (1, .i2l, 1), (2, .lconst 0, 1), (3, .ldc2_w 189, 3), (6, .invokestatic 96, 3), (9, .ifCond .ne 10, 3), (12, .aload_n 0, 1), (13, .bipush (-102), 2), (15, .invokevirtual 109, 3), (18, .ireturn, 1), (19, .aload_n 0, 1), (20, .getfield 37, 3), (23, .istore_n 2, 1), (24, .aload_n 0, 1), (25, .iload_n 1, 1), (26, .putfield 37, 3), (29, .iload_n 2, 1), (30, .ireturn, 1)]
def zi_226 : zIns := [(0, .iload_n 1, 1), (1, .i2l, 1), (2, .lconst 0, 1), (3, .ldc2_w 191, 3), (6, .invokestatic 96, 3), (9, .ifCond .ne 10, 3), (12, .aload_n 0, 1), (13, .bipush (-102), 2), (15, .invokevirtual 109, 3), (18, .ireturn, 1), (19, .aload_n 0, 1), (20, .getfield 193, 3), (23, .sipush 250, 3), (26, .if_icmp .ne 10, 3), (29, .aload_n 0, 1), (30, .bipush (-106), 2), (32, .invokevirtual 109, 3), (35, .ireturn, 1), (36, .aload_n 0, 1), (37, .getfield 31, 3), (40, .aload_n 0, 1), (41, .dup, 1), (42, .getfield 193, 3), (45, .dup_x1, 1), (46, .iconst 1, 1), (47, .iadd, 1), (48, .putfield 193, 3), (51, .iload_n 1, 1), (52, .iastore, 1), (53, .aload_n 0, 1), (54, .getfield 193, 3), (57, .ireturn, 1)]
def zi_227 : zIns := [(0, .aload_n 0, 1), (1, .getfield 193, 3), (4, .istore_n 1, 1), (5, .aload_n 0, 1), (6, .iconst 0, 1), (7, .putfield 193, 3), (10, .iload_n 1, 1), (11, .ireturn, 1)]
def zi_228 : zIns := [(0, .iload_n 0, 1), (1, .bipush 46, 2), (3, .if_icmp .eq 17, 3), (6, .iload_n 0, 1), (7, .i2l, 1), (8, .ldc2_w 196, 3), (11, .ldc2_w 198, 3), (14, .invokestatic 96, 3), (17, .ifCond .eq 7, 3), (20, .iconst 1, 1), (21, .goto 4, 3), (24, .iconst 0, 1), (25, .ireturn, 1)]
def zi_229 : zIns := [(0, .iconst 0, 1), (1, .istore_n 1, 1), (2, .iconst 0, 1), (3, .istore_n 2, 1), (4, .iload_n 2, 1), (5, .aload_n 0, 1), (6, .getfield 193, 3), (9, .if_icmp .ge 61, 3), (12, .aload_n 0, 1), (13, .getfield 31, 3), (16, .iload_n 2, 1), (17, .iaload, 1), (18, .istore_n 3, 1), (19, .iload_n 3, 1), (20, .bipush 32, 2), (22, .if_icmp .ne 6, 3), (25, .goto 39, 3), (28, .iload_n 1, 1), (29, .iconst 3, 1), (30, .if_icmp .ne 12, 3), (33, .iload_n 3, 1), (34, .bipush 59, 2), (36, .if_icmp .eq 15, 3), (39, .goto 10, 3), (42, .iload_n 3, 1), (43, .invokestatic 200, 3), (46, .ifCond .ne 5, 3), (49, .iload_n 2, 1), (50, .ireturn, 1), (51, .iload_n 1, 1), (52, .iconst 3, 1), (53, .if_icmp .ne 7, 3), (56, .iconst 0, 1), (57, .goto 6, 3), (60, .iload_n 1, 1), (61, .iconst 1, 1), (62, .iadd, 1), (63, .istore_n 1, 1), (64, .iinc 2 1, 3), (67, .goto (-63), 3), (70, .iload_n 1, 1), (71, .iconst 3, 1), (72, .if_icmp .ne 7, 3), (75, .iconst (-1), 1), (76, .goto 7, 3), (79, .aload_n 0, 1), (80, .getfield 193, 3), (83, .ireturn, 1)]
def zi_230_0 : zIns := [(0, .aload_n 0, 1), (1, .invokevirtual 203, 3), (4, .istore_n 1, 1), (5, .aload_n 0, 1), (6, .getfield 193, 3), (9, .istore_n 2, 1), (10, .aload_n 0, 1), (11, .iconst 0, 1), (12, .putfield 193, 3), (15, .iload_n 1, 1), (16, .iconst (-1), 1), (17, .if_icmp .eq 16, 3), (20, .aload_n 0, 1), (21, .bipush (-102), 2), (23, .invokevirtual 109, 3), (26, .pop, 1), (27, .sipush (-200), 3), (30, .iload_n 1, 1), (31, .isub, 1), (32, .ireturn, 1), (33, .iconst 0, 1), (34, .istore_n 3, 1), (35, .iconst 0, 1), (36, .istore 4, 2), (38, .iload 4, 2), (40, .iload_n 2, 1), (41, .if_icmp .ge 30, 3), (44, .iload_n 3, 1), (45, .aload_n 0, 1), (46, .getfield 31, 3), (49, .iload 4, 2), (51, .iaload, 1), (52, .invokestatic 200, 3), (55, .ifCond .eq 7, 3), (58, .iconst 1, 1), (59, .goto 4, 3), (62, .iconst 0, 1), (63, .iadd, 1), (64, .istore_n 3, 1), (65, .iinc 4 1, 3), (68, .goto (-30), 3), (71, .aload_n 0, 1), (72, .getfield 100, 3), (75, .iload_n 3, 1), (76, .iconst 3, 1), (77, .idiv, 1), (78, .iadd, 1), (79, .bipush 60, 2), (81, .if_icmp .le 10, 3), (84, .aload_n 0, 1)]
def zi_230_1 : zIns := [(85, .bipush (-106), 2), (87, .invokevirtual 109, 3), (90, .ireturn, 1), (91, .iconst 3, 1), (92, .aload_n 0, 1), (93, .getfield 100, 3), (96, .imul, 1), (97, .istore 4, 2), (99, .iconst 0, 1), (100, .istore 5, 2), (102, .iload 5, 2), (104, .iload_n 2, 1), (105, .if_icmp .ge 58, 3), (108, .aload_n 0, 1), (109, .getfield 31, 3), (112, .iload 5, 2), (114, .iaload, 1), (115, .invokestatic 200, 3), (118, .ifCond .eq 39, 3), (121, .aload_n 0, 1), (122, .getfield 44, 3), (125, .iload 4, 2), (127, .iinc 4 1, 3), (130, .aload_n 0, 1), (131, .getfield 31, 3), (134, .iload 5, 2), (136, .iaload, 1), (137, .bipush 46, 2), (139, .if_icmp .ne 7, 3), (142, .iconst 0, 1), (143, .goto 13, 3), (146, .aload_n 0, 1), (147, .getfield 31, 3), (150, .iload 5, 2), (152, .iaload, 1), (153, .bipush 48, 2), (155, .isub, 1), (156, .iastore, 1), (157, .iinc 5 1, 3), (160, .goto (-58), 3), (163, .aload_n 0, 1), (164, .dup, 1), (165, .getfield 100, 3), (168, .iload_n 3, 1), (169, .iconst 3, 1), (170, .idiv, 1), (171, .iadd, 1), (172, .putfield 100, 3), (175, .iload_n 3, 1), (176, .iconst 3, 1)]
def zi_230_2 : zIns := [(177, .idiv, 1), (178, .ireturn, 1)]
def zi_230 : zIns := zi_230_0 ++ (zi_230_1 ++ (zi_230_2))
def zi_231 : zIns := [(0, .aload_n 0, 1), (1, .iconst (-1), 1), (2, .putfield 207, 3), (5, .iconst 0, 1), (6, .istore_n 1, 1), (7, .iload_n 1, 1), (8, .bipush 8, 2), (10, .if_icmp .ge 16, 3), (13, .aload_n 0, 1), (14, .getfield 90, 3), (17, .iload_n 1, 1), (18, .iconst (-1), 1), (19, .iastore, 1), (20, .iinc 1 1, 3), (23, .goto (-16), 3), (26, .return_, 1)]
def zi_232 : zIns := [(0, .aload_n 0, 1), (1, .getfield 210, 3), (4, .bipush 24, 2), (6, .if_icmp .ge 60, 3), (9, .aload_n 0, 1), (10, .getfield 47, 3), (13, .aload_n 0, 1), (14, .getfield 210, 3), (17, .iload_n 1, 1), (18, .iastore, 1), (19, .aload_n 0, 1), (20, .getfield 50, 3), (23, .aload_n 0, 1), (24, .getfield 210, 3), (27, .aload_n 0, 1), (28, .getfield 207, 3), (31, .iastore, 1), (32, .iconst 0, 1), (33, .istore_n 2, 1), (34, .iload_n 2, 1), (35, .bipush 8, 2), (37, .if_icmp .ge 29, 3), (40, .aload_n 0, 1), (41, .getfield 53, 3), (44, .bipush 8, 2), (46, .aload_n 0, 1), (47, .getfield 210, 3), (50, .imul, 1), (51, .iload_n 2, 1), (52, .iadd, 1), (53, .aload_n 0, 1), (54, .getfield 90, 3), (57, .iload_n 2, 1), (58, .iaload, 1), (59, .iastore, 1), (60, .iinc 2 1, 3), (63, .goto (-29), 3), (66, .aload_n 0, 1), (67, .dup, 1), (68, .getfield 210, 3), (71, .iconst 1, 1), (72, .iadd, 1), (73, .putfield 210, 3), (76, .aload_n 0, 1), (77, .getfield 210, 3), (80, .iconst 1, 1), (81, .isub, 1), (82, .ireturn, 1)]
def zi_233 : zIns := [(0, .aload_n 0, 1), (1, .invokevirtual 213, 3), (4, .aload_n 0, 1), (5, .getfield 90, 3), (8, .iconst 0, 1), (9, .iload_n 2, 1), (10, .iastore, 1), (11, .aload_n 0, 1), (12, .getfield 90, 3), (15, .iconst 1, 1), (16, .iload_n 3, 1), (17, .iastore, 1), (18, .aload_n 0, 1), (19, .iload_n 1, 1), (20, .invokevirtual 216, 3), (23, .ireturn, 1)]
def zi_234 : zIns := [(0, .aload_n 0, 1), (1, .getfield 219, 3), (4, .aload_n 0, 1), (5, .getfield 193, 3), (8, .if_icmp .ge 30, 3), (11, .aload_n 0, 1), (12, .getfield 31, 3), (15, .aload_n 0, 1), (16, .getfield 219, 3), (19, .iaload, 1), (20, .bipush 32, 2), (22, .if_icmp .ne 16, 3), (25, .aload_n 0, 1), (26, .dup, 1), (27, .getfield 219, 3), (30, .iconst 1, 1), (31, .iadd, 1), (32, .putfield 219, 3), (35, .goto (-35), 3), (38, .aload_n 0, 1), (39, .getfield 219, 3), (42, .aload_n 0, 1), (43, .getfield 193, 3), (46, .if_icmp .ge 15, 3), (49, .aload_n 0, 1), (50, .getfield 31, 3), (53, .aload_n 0, 1), (54, .getfield 219, 3), (57, .iaload, 1), (58, .goto 4, 3), (61, .iconst (-1), 1), (62, .ireturn, 1)]
def zi_235 : zIns := [(0, .aload_n 0, 1), (1, .getfield 222, 3), (4, .iconst (-1), 1), (5, .if_icmp .ne 15, 3), (8, .aload_n 0, 1), (9, .invokevirtual 225, 3), (12, .iload_n 1, 1), (13, .if_icmp .ne 7, 3), (16, .iconst 1, 1), (17, .goto 4, 3), (20, .iconst 0, 1), (21, .istore_n 2, 1), (22, .aload_n 0, 1), (23, .dup, 1), (24, .getfield 219, 3), (27, .iload_n 2, 1), (28, .ifCond .eq 7, 3), (31, .iconst 1, 1), (32, .goto 4, 3), (35, .iconst 0, 1), (36, .iadd, 1), (37, .putfield 219, 3), (40, .iload_n 2, 1), (41, .ireturn, 1)]
def zi_236 : zIns := [(0, .aload_n 0, 1), (1, .aload_n 0, 1), (2, .getfield 222, 3), (5, .iconst (-1), 1), (6, .if_icmp .ne 10, 3), (9, .aload_n 0, 1), (10, .getfield 219, 3), (13, .goto 7, 3), (16, .aload_n 0, 1), (17, .getfield 222, 3), (20, .putfield 222, 3), (23, .iconst 0, 1), (24, .ireturn, 1)]
def zi_237 : zIns := [(0, .aload_n 0, 1), (1, .getfield 222, 3), (4, .iconst (-1), 1), (5, .if_icmp .ne 16, 3), (8, .aload_n 0, 1), (9, .iload_n 1, 1), (10, .invokevirtual 228, 3), (13, .ifCond .ne 8, 3), (16, .aload_n 0, 1), (17, .invokevirtual 231, 3), (20, .pop, 1), (21, .return_, 1)]
def zi_238 : zIns := [(0, .iload_n 0, 1), (1, .bipush 60, 2), (3, .if_icmp .ne 7, 3), (6, .iconst 0, 1), (7, .goto 34, 3), (10, .iload_n 0, 1), (11, .bipush 61, 2), (13, .if_icmp .ne 7, 3), (16, .iconst 1, 1), (17, .goto 24, 3), (20, .iload_n 0, 1), (21, .bipush 62, 2), (23, .if_icmp .ne 7, 3), (26, .iconst 2, 1), (27, .goto 14, 3), (30, .iload_n 0, 1), (31, .bipush 126, 2), (33, .if_icmp .ne 7, 3), (36, .iconst 3, 1), (37, .goto 4, 3), (40, .iconst (-1), 1), (41, .ireturn, 1)]
def zi_239 : zIns := [(0, .aload_n 0, 1), (1, .getfield 222, 3), (4, .iconst (-1), 1), (5, .if_icmp .ne 24, 3), (8, .aload_n 0, 1), (9, .invokevirtual 225, 3), (12, .i2l, 1), (13, .bipush 48, 2), (15, .iload_n 1, 1), (16, .iadd, 1), (17, .i2l, 1), (18, .bipush 48, 2), (20, .iload_n 2, 1), (21, .iadd, 1), (22, .i2l, 1), (23, .invokestatic 96, 3), (26, .ifCond .ne 8, 3), (29, .aload_n 0, 1), (30, .invokevirtual 231, 3), (33, .ireturn, 1), (34, .aload_n 0, 1), (35, .getfield 31, 3), (38, .aload_n 0, 1), (39, .dup, 1), (40, .getfield 219, 3), (43, .dup_x1, 1), (44, .iconst 1, 1), (45, .iadd, 1), (46, .putfield 219, 3), (49, .iaload, 1), (50, .bipush 48, 2), (52, .isub, 1), (53, .ireturn, 1)]
def zi_240 : zIns := [(0, .aload_n 0, 1), (1, .aload_n 0, 1), (2, .getfield 222, 3), (5, .iconst (-1), 1), (6, .if_icmp .ne 13, 3), (9, .aload_n 0, 1), (10, .invokevirtual 225, 3), (13, .invokestatic 234, 3), (16, .goto 4, 3), (19, .iconst (-1), 1), (20, .putfield 207, 3), (23, .aload_n 0, 1), (24, .getfield 207, 3), (27, .iconst (-1), 1), (28, .if_icmp .ne 11, 3), (31, .aload_n 0, 1), (32, .invokevirtual 231, 3), (35, .pop, 1), (36, .goto 13, 3), (39, .aload_n 0, 1), (40, .dup, 1), (41, .getfield 219, 3), (44, .iconst 1, 1), (45, .iadd, 1), (46, .putfield 219, 3), (49, .return_, 1)]
def zi_241_0 : zIns := [(0, .aload_n 0, 1), (1, .getfield 90, 3), (4, .iconst 1, 1), (5, .iload_n 1, 1), (6, .iastore, 1), (7, .iconst 1, 1), (8, .istore_n 2, 1), (9, .iload_n 2, 1), (10, .iconst 3, 1), (11, .if_icmp .ge 85, 3), (14, .aload_n 0, 1), (15, .invokevirtual 225, 3), (18, .i2l, 1), (19, .ldc2_w 237, 3), (22, .ldc2_w 239, 3), (25, .invokestatic 96, 3), (28, .ifCond .eq 68, 3), (31, .aload_n 0, 1), (32, .getfield 31, 3), (35, .aload_n 0, 1), (36, .getfield 219, 3), (39, .iaload, 1), (40, .bipush 97, 2), (42, .isub, 1), (43, .istore_n 3, 1), (44, .iload_n 3, 1), (45, .iload_n 1, 1), (46, .if_icmp .eq 18, 3), (49, .iload_n 2, 1), (50, .iconst 2, 1), (51, .if_icmp .ne 18, 3), (54, .iload_n 3, 1), (55, .aload_n 0, 1), (56, .getfield 90, 3), (59, .iconst 3, 1), (60, .iaload, 1), (61, .if_icmp .ne 8, 3), (64, .aload_n 0, 1), (65, .invokevirtual 231, 3), (68, .ireturn, 1), (69, .aload_n 0, 1), (70, .getfield 90, 3), (73, .iconst 1, 1), (74, .iconst 2, 1), (75, .iload_n 2, 1), (76, .imul, 1), (77, .iadd, 1), (78, .iload_n 3, 1), (79, .iastore, 1), (80, .iinc 2 1, 3)]
def zi_241_1 : zIns := [(83, .aload_n 0, 1), (84, .dup, 1), (85, .getfield 219, 3), (88, .iconst 1, 1), (89, .iadd, 1), (90, .putfield 219, 3), (93, .goto (-84), 3), (96, .aload_n 0, 1), (97, .getfield 90, 3), (100, .iconst 0, 1), (101, .iload_n 2, 1), (102, .iastore, 1), (103, .aload_n 0, 1), (104, .invokevirtual 241, 3), (107, .iconst 0, 1), (108, .istore_n 3, 1), (109, .iload_n 3, 1), (110, .iload_n 2, 1), (111, .if_icmp .ge 26, 3), (114, .aload_n 0, 1), (115, .getfield 90, 3), (118, .iconst 2, 1), (119, .iconst 2, 1), (120, .iload_n 3, 1), (121, .imul, 1), (122, .iadd, 1), (123, .aload_n 0, 1), (124, .iconst 1, 1), (125, .bipush 9, 2), (127, .invokevirtual 244, 3), (130, .iastore, 1), (131, .iinc 3 1, 3), (134, .goto (-25), 3), (137, .aload_n 0, 1), (138, .getfield 222, 3), (141, .iconst (-1), 1), (142, .if_icmp .eq 7, 3), (145, .iconst 0, 1), (146, .goto 8, 3), (149, .aload_n 0, 1), (150, .iconst 5, 1), (151, .invokevirtual 216, 3), (154, .ireturn, 1)]
def zi_241 : zIns := zi_241_0 ++ (zi_241_1)
def zi_242_0 : zIns := [(0, .aload_n 0, 1), (1, .getfield 90, 3), (4, .iconst 0, 1), (5, .iload_n 1, 1), (6, .iastore, 1), (7, .aload_n 0, 1), (8, .getfield 90, 3), (11, .iconst 1, 1), (12, .iconst 1, 1), (13, .aload_n 0, 1), (14, .iconst 1, 1), (15, .bipush 9, 2), (17, .invokevirtual 244, 3), (20, .ishl, 1), (21, .iastore, 1), (22, .aload_n 0, 1), (23, .getfield 222, 3), (26, .iconst (-1), 1), (27, .if_icmp .ne 53, 3), (30, .aload_n 0, 1), (31, .invokevirtual 225, 3), (34, .i2l, 1), (35, .ldc2_w 196, 3), (38, .ldc2_w 198, 3), (41, .invokestatic 96, 3), (44, .ifCond .eq 36, 3), (47, .aload_n 0, 1), (48, .getfield 90, 3), (51, .iconst 1, 1), (52, .dup2, 1), (53, .iaload, 1), (54, .iconst 1, 1), (55, .aload_n 0, 1), (56, .getfield 31, 3), (59, .aload_n 0, 1), (60, .dup, 1), (61, .getfield 219, 3), (64, .dup_x1, 1), (65, .iconst 1, 1), (66, .iadd, 1), (67, .putfield 219, 3), (70, .iaload, 1), (71, .bipush 48, 2), (73, .isub, 1), (74, .ishl, 1), (75, .ior, 1), (76, .iastore, 1), (77, .goto (-55), 3), (80, .aload_n 0, 1), (81, .bipush 93, 2)]
def zi_242_1 : zIns := [(83, .invokevirtual 247, 3), (86, .aload_n 0, 1), (87, .getfield 222, 3), (90, .iconst (-1), 1), (91, .if_icmp .eq 7, 3), (94, .iconst 0, 1), (95, .goto 8, 3), (98, .aload_n 0, 1), (99, .iconst 1, 1), (100, .invokevirtual 216, 3), (103, .ireturn, 1)]
def zi_242 : zIns := zi_242_0 ++ (zi_242_1)
def zi_243_0 : zIns := [(0, .aload_n 0, 1), (1, .invokevirtual 213, 3), (4, .aload_n 0, 1), (5, .invokevirtual 225, 3), (8, .istore_n 2, 1), (9, .iload_n 2, 1), (10, .i2l, 1), (11, .ldc2_w 237, 3), (14, .ldc2_w 239, 3), (17, .invokestatic 96, 3), (20, .ifCond .eq 9, 3), (23, .aload_n 0, 1), (24, .iload_n 1, 1), (25, .invokevirtual 250, 3), (28, .ireturn, 1), (29, .aload_n 0, 1), (30, .getfield 90, 3), (33, .iconst 0, 1), (34, .iload_n 1, 1), (35, .iastore, 1), (36, .iload_n 2, 1), (37, .bipush 91, 2), (39, .if_icmp .ne 19, 3), (42, .aload_n 0, 1), (43, .dup, 1), (44, .getfield 219, 3), (47, .iconst 1, 1), (48, .iadd, 1), (49, .putfield 219, 3), (52, .aload_n 0, 1), (53, .iload_n 1, 1), (54, .invokevirtual 253, 3), (57, .ireturn, 1), (58, .iload_n 2, 1), (59, .bipush 63, 2), (61, .if_icmp .ne 19, 3), (64, .aload_n 0, 1), (65, .dup, 1), (66, .getfield 219, 3), (69, .iconst 1, 1), (70, .iadd, 1), (71, .putfield 219, 3), (74, .aload_n 0, 1), (75, .iconst 2, 1), (76, .invokevirtual 216, 3), (79, .ireturn, 1), (80, .iload_n 2, 1), (81, .bipush 37, 2), (83, .if_icmp .ne 63, 3), (86, .aload_n 0, 1)]
def zi_243_1 : zIns := [(87, .dup, 1), (88, .getfield 219, 3), (91, .iconst 1, 1), (92, .iadd, 1), (93, .putfield 219, 3), (96, .aload_n 0, 1), (97, .getfield 90, 3), (100, .iconst 1, 1), (101, .aload_n 0, 1), (102, .iconst 2, 1), (103, .bipush 9, 2), (105, .invokevirtual 244, 3), (108, .iastore, 1), (109, .aload_n 0, 1), (110, .getfield 90, 3), (113, .iconst 2, 1), (114, .aload_n 0, 1), (115, .iconst 0, 1), (116, .aload_n 0, 1), (117, .getfield 90, 3), (120, .iconst 1, 1), (121, .iaload, 1), (122, .iconst 1, 1), (123, .isub, 1), (124, .invokevirtual 244, 3), (127, .iastore, 1), (128, .aload_n 0, 1), (129, .getfield 222, 3), (132, .iconst (-1), 1), (133, .if_icmp .eq 7, 3), (136, .iconst 0, 1), (137, .goto 8, 3), (140, .aload_n 0, 1), (141, .iconst 4, 1), (142, .invokevirtual 216, 3), (145, .ireturn, 1), (146, .aload_n 0, 1), (147, .invokevirtual 241, 3), (150, .aload_n 0, 1), (151, .getfield 222, 3), (154, .iconst (-1), 1), (155, .if_icmp .ne 62, 3), (158, .aload_n 0, 1), (159, .invokevirtual 225, 3), (162, .i2l, 1), (163, .ldc2_w 237, 3), (166, .ldc2_w 239, 3), (169, .invokestatic 96, 3), (172, .ifCond .eq 45, 3), (175, .aload_n 0, 1)]
def zi_243_2 : zIns := [(176, .invokevirtual 225, 3), (179, .bipush 97, 2), (181, .iload_n 1, 1), (182, .iadd, 1), (183, .if_icmp .eq 34, 3), (186, .aload_n 0, 1), (187, .getfield 90, 3), (190, .iconst 1, 1), (191, .aload_n 0, 1), (192, .getfield 31, 3), (195, .aload_n 0, 1), (196, .dup, 1), (197, .getfield 219, 3), (200, .dup_x1, 1), (201, .iconst 1, 1), (202, .iadd, 1), (203, .putfield 219, 3), (206, .iaload, 1), (207, .bipush 97, 2), (209, .isub, 1), (210, .iastore, 1), (211, .aload_n 0, 1), (212, .iconst 3, 1), (213, .invokevirtual 216, 3), (216, .ireturn, 1), (217, .aload_n 0, 1), (218, .getfield 90, 3), (221, .iconst 1, 1), (222, .aload_n 0, 1), (223, .iconst 1, 1), (224, .bipush 9, 2), (226, .invokevirtual 244, 3), (229, .iastore, 1), (230, .aload_n 0, 1), (231, .getfield 222, 3), (234, .iconst (-1), 1), (235, .if_icmp .eq 7, 3), (238, .iconst 0, 1), (239, .goto 8, 3), (242, .aload_n 0, 1), (243, .iconst 0, 1), (244, .invokevirtual 216, 3), (247, .ireturn, 1)]
def zi_243 : zIns := zi_243_0 ++ (zi_243_1 ++ (zi_243_2))
def zi_244_0 : zIns := [(0, .aload_n 0, 1), (1, .bipush 45, 2), (3, .invokevirtual 228, 3), (6, .ifCond .ne 12, 3), (9, .aload_n 0, 1), (10, .bipush 43, 2), (12, .invokevirtual 228, 3), (15, .ifCond .eq 52, 3), (18, .aload_n 0, 1), (19, .getfield 31, 3), (22, .aload_n 0, 1), (23, .getfield 219, 3), (26, .iconst 1, 1), (27, .isub, 1), (28, .iaload, 1), (29, .bipush 45, 2), (31, .if_icmp .ne 8, 3), (34, .bipush 8, 2), (36, .goto 5, 3), (39, .bipush 9, 2), (41, .istore_n 1, 1), (42, .aload_n 0, 1), (43, .invokevirtual 256, 3), (46, .istore_n 2, 1), (47, .aload_n 0, 1), (48, .getfield 222, 3), (51, .iconst (-1), 1), (52, .if_icmp .eq 7, 3), (55, .iconst 0, 1), (56, .goto 10, 3), (59, .aload_n 0, 1), (60, .iload_n 1, 1), (61, .iload_n 2, 1), (62, .iconst (-1), 1), (63, .invokevirtual 259, 3), (66, .ireturn, 1), (67, .aload_n 0, 1), (68, .bipush 40, 2), (70, .invokevirtual 228, 3), (73, .ifCond .eq 16, 3), (76, .aload_n 0, 1), (77, .invokevirtual 262, 3), (80, .istore_n 1, 1), (81, .aload_n 0, 1), (82, .bipush 41, 2), (84, .invokevirtual 247, 3), (87, .iload_n 1, 1), (88, .ireturn, 1), (89, .aload_n 0, 1), (90, .getfield 222, 3)]
def zi_244_1 : zIns := [(93, .iconst (-1), 1), (94, .if_icmp .ne 20, 3), (97, .aload_n 0, 1), (98, .invokevirtual 225, 3), (101, .i2l, 1), (102, .ldc2_w 237, 3), (105, .ldc2_w 239, 3), (108, .invokestatic 96, 3), (111, .ifCond .ne 8, 3), (114, .aload_n 0, 1), (115, .invokevirtual 231, 3), (118, .ireturn, 1), (119, .aload_n 0, 1), (120, .dup, 1), (121, .getfield 219, 3), (124, .iconst 1, 1), (125, .iadd, 1), (126, .putfield 219, 3), (129, .aload_n 0, 1), (130, .aload_n 0, 1), (131, .getfield 31, 3), (134, .aload_n 0, 1), (135, .getfield 219, 3), (138, .iconst 1, 1), (139, .isub, 1), (140, .iaload, 1), (141, .bipush 97, 2), (143, .isub, 1), (144, .invokevirtual 265, 3), (147, .ireturn, 1)]
def zi_244 : zIns := zi_244_0 ++ (zi_244_1)
def zi_245 : zIns := [(0, .aload_n 0, 1), (1, .invokevirtual 256, 3), (4, .istore_n 1, 1), (5, .aload_n 0, 1), (6, .bipush 38, 2), (8, .invokevirtual 228, 3), (11, .ifCond .eq 32, 3), (14, .aload_n 0, 1), (15, .invokevirtual 256, 3), (18, .istore_n 2, 1), (19, .aload_n 0, 1), (20, .getfield 222, 3), (23, .iconst (-1), 1), (24, .if_icmp .eq 7, 3), (27, .iconst 0, 1), (28, .goto 11, 3), (31, .aload_n 0, 1), (32, .bipush 6, 2), (34, .iload_n 1, 1), (35, .iload_n 2, 1), (36, .invokevirtual 259, 3), (39, .istore_n 1, 1), (40, .goto (-35), 3), (43, .iload_n 1, 1), (44, .ireturn, 1)]
def zi_246 : zIns := [(0, .aload_n 0, 1), (1, .invokevirtual 268, 3), (4, .istore_n 1, 1), (5, .aload_n 0, 1), (6, .bipush 124, 2), (8, .invokevirtual 228, 3), (11, .ifCond .eq 32, 3), (14, .aload_n 0, 1), (15, .invokevirtual 268, 3), (18, .istore_n 2, 1), (19, .aload_n 0, 1), (20, .getfield 222, 3), (23, .iconst (-1), 1), (24, .if_icmp .eq 7, 3), (27, .iconst 0, 1), (28, .goto 11, 3), (31, .aload_n 0, 1), (32, .bipush 7, 2), (34, .iload_n 1, 1), (35, .iload_n 2, 1), (36, .invokevirtual 259, 3), (39, .istore_n 1, 1), (40, .goto (-35), 3), (43, .iload_n 1, 1), (44, .ireturn, 1)]
def zi_247_0 : zIns := [(0, .aload_n 0, 1), (1, .iconst 0, 1), (2, .putfield 219, 3), (5, .aload_n 0, 1), (6, .iconst (-1), 1), (7, .putfield 222, 3), (10, .aload_n 0, 1), (11, .aload_n 0, 1), (12, .getfield 93, 3), (15, .putfield 210, 3), (18, .aload_n 0, 1), (19, .invokevirtual 262, 3), (22, .pop, 1), (23, .aload_n 0, 1), (24, .getfield 222, 3), (27, .iconst (-1), 1), (28, .if_icmp .ne 16, 3), (31, .aload_n 0, 1), (32, .invokevirtual 225, 3), (35, .iconst (-1), 1), (36, .if_icmp .eq 8, 3), (39, .aload_n 0, 1), (40, .invokevirtual 231, 3), (43, .pop, 1), (44, .aload_n 0, 1), (45, .iconst 0, 1), (46, .putfield 193, 3), (49, .aload_n 0, 1), (50, .getfield 222, 3), (53, .iconst (-1), 1), (54, .if_icmp .eq 19, 3), (57, .aload_n 0, 1), (58, .bipush (-102), 2), (60, .invokevirtual 109, 3), (63, .pop, 1), (64, .sipush (-200), 3), (67, .aload_n 0, 1), (68, .getfield 222, 3), (71, .isub, 1), (72, .ireturn, 1), (73, .aload_n 0, 1), (74, .getfield 210, 3), (77, .bipush 24, 2), (79, .if_icmp .le 10, 3), (82, .aload_n 0, 1), (83, .bipush (-106), 2), (85, .invokevirtual 109, 3), (88, .ireturn, 1), (89, .aload_n 0, 1), (90, .invokevirtual 271, 3)]
def zi_247_1 : zIns := [(93, .ireturn, 1)]
def zi_247 : zIns := zi_247_0 ++ (zi_247_1)
def zi_248 : zIns := [(0, .aload_n 0, 1), (1, .getfield 93, 3), (4, .istore_n 1, 1), (5, .aload_n 0, 1), (6, .aload_n 0, 1), (7, .getfield 210, 3), (10, .putfield 93, 3), (13, .aload_n 0, 1), (14, .iload_n 1, 1), (15, .invokevirtual 274, 3), (18, .aload_n 0, 1), (19, .getfield 93, 3), (22, .iconst 1, 1), (23, .isub, 1), (24, .ireturn, 1)]
def zi_249 : zIns := [(0, .aload_n 0, 1), (1, .getfield 93, 3), (4, .bipush 24, 2), (6, .if_icmp .ne 10, 3), (9, .aload_n 0, 1), (10, .bipush (-106), 2), (12, .invokevirtual 109, 3), (15, .ireturn, 1), (16, .aload_n 0, 1), (17, .aload_n 0, 1), (18, .getfield 93, 3), (21, .putfield 210, 3), (24, .aload_n 0, 1), (25, .iload_n 1, 1), (26, .invokevirtual 216, 3), (29, .pop, 1), (30, .aload_n 0, 1), (31, .invokevirtual 271, 3), (34, .ireturn, 1)]
def zi_250 : zIns := [(0, .aload_n 0, 1), (1, .invokevirtual 213, 3), (4, .aload_n 0, 1), (5, .iload_n 2, 1), (6, .putfield 207, 3), (9, .aload_n 0, 1), (10, .getfield 90, 3), (13, .iconst 0, 1), (14, .iload_n 3, 1), (15, .iastore, 1), (16, .aload_n 0, 1), (17, .getfield 90, 3), (20, .iconst 1, 1), (21, .iload 4, 2), (23, .iastore, 1), (24, .aload_n 0, 1), (25, .getfield 90, 3), (28, .iconst 2, 1), (29, .iload 5, 2), (31, .iastore, 1), (32, .aload_n 0, 1), (33, .iload_n 1, 1), (34, .invokevirtual 277, 3), (37, .ireturn, 1)]
def zi_251 : zIns := [(0, .iload_n 0, 1), (1, .i2l, 1), (2, .lconst 0, 1), (3, .ldc2_w 184, 3), (6, .invokestatic 96, 3), (9, .ireturn, 1)]
def zi_252 : zIns := [(0, .iload_n 1, 1), (1, .invokestatic 280, 3), (4, .ifCond .eq 39, 3), (7, .iload_n 2, 1), (8, .i2l, 1), (9, .lconst 0, 1), (10, .ldc2_w 283, 3), (13, .invokestatic 96, 3), (16, .ifCond .eq 27, 3), (19, .iload_n 3, 1), (20, .i2l, 1), (21, .lconst 1, 1), (22, .ldc2_w 175, 3), (25, .invokestatic 96, 3), (28, .ifCond .eq 15, 3), (31, .aload_n 0, 1), (32, .iconst 0, 1), (33, .iload_n 2, 1), (34, .iload_n 1, 1), (35, .iload_n 3, 1), (36, .iconst (-1), 1), (37, .invokevirtual 285, 3), (40, .goto 9, 3), (43, .aload_n 0, 1), (44, .bipush (-102), 2), (46, .invokevirtual 109, 3), (49, .ireturn, 1)]
def zi_253 : zIns := [(0, .iload_n 1, 1), (1, .invokestatic 280, 3), (4, .ifCond .eq 27, 3), (7, .iload_n 2, 1), (8, .ifCond .eq 23, 3), (11, .iload_n 2, 1), (12, .sipush (-1023), 3), (15, .iand, 1), (16, .ifCond .ne 15, 3), (19, .aload_n 0, 1), (20, .iconst 1, 1), (21, .iconst (-1), 1), (22, .iload_n 1, 1), (23, .iload_n 2, 1), (24, .iconst (-1), 1), (25, .invokevirtual 285, 3), (28, .goto 9, 3), (31, .aload_n 0, 1), (32, .bipush (-102), 2), (34, .invokevirtual 109, 3), (37, .ireturn, 1)]
def zi_254 : zIns := [(0, .iload_n 1, 1), (1, .invokestatic 280, 3), (4, .ifCond .eq 15, 3), (7, .aload_n 0, 1), (8, .iconst 2, 1), (9, .iconst (-1), 1), (10, .iload_n 1, 1), (11, .iconst (-1), 1), (12, .iconst (-1), 1), (13, .invokevirtual 285, 3), (16, .goto 9, 3), (19, .aload_n 0, 1), (20, .bipush (-102), 2), (22, .invokevirtual 109, 3), (25, .ireturn, 1)]
def zi_255 : zIns := [(0, .iload_n 1, 1), (1, .invokestatic 280, 3), (4, .ifCond .eq 39, 3), (7, .iload_n 2, 1), (8, .i2l, 1), (9, .lconst 0, 1), (10, .ldc2_w 283, 3), (13, .invokestatic 96, 3), (16, .ifCond .eq 27, 3), (19, .iload_n 3, 1), (20, .invokestatic 280, 3), (23, .ifCond .eq 20, 3), (26, .iload_n 1, 1), (27, .iload_n 3, 1), (28, .if_icmp .eq 15, 3), (31, .aload_n 0, 1), (32, .iconst 3, 1), (33, .iload_n 2, 1), (34, .iload_n 1, 1), (35, .iload_n 3, 1), (36, .iconst (-1), 1), (37, .invokevirtual 285, 3), (40, .goto 9, 3), (43, .aload_n 0, 1), (44, .bipush (-102), 2), (46, .invokevirtual 109, 3), (49, .ireturn, 1)]
def zi_256 : zIns := [(0, .iload_n 1, 1), (1, .invokestatic 280, 3), (4, .ifCond .eq 42, 3), (7, .iload_n 2, 1), (8, .i2l, 1), (9, .ldc2_w 184, 3), (12, .ldc2_w 175, 3), (15, .invokestatic 96, 3), (18, .ifCond .eq 28, 3), (21, .iload_n 3, 1), (22, .i2l, 1), (23, .lconst 0, 1), (24, .iload_n 2, 1), (25, .iconst 1, 1), (26, .isub, 1), (27, .i2l, 1), (28, .invokestatic 96, 3), (31, .ifCond .eq 15, 3), (34, .aload_n 0, 1), (35, .iconst 4, 1), (36, .iconst (-1), 1), (37, .iload_n 1, 1), (38, .iload_n 2, 1), (39, .iload_n 3, 1), (40, .invokevirtual 285, 3), (43, .goto 9, 3), (46, .aload_n 0, 1), (47, .bipush (-102), 2), (49, .invokevirtual 109, 3), (52, .ireturn, 1)]
def zi_257 : zIns := [(0, .aload_n 0, 1), (1, .iload_n 1, 1), (2, .invokevirtual 113, 3), (5, .istore_n 3, 1), (6, .iload_n 3, 1), (7, .ifCond .eq 7, 3), (10, .iload_n 3, 1), (11, .goto 23, 3), (14, .iload_n 2, 1), (15, .aload_n 0, 1), (16, .getfield 16, 3), (19, .iload_n 1, 1), (20, .iaload, 1), (21, .if_icmp .le 12, 3), (24, .aload_n 0, 1), (25, .bipush (-102), 2), (27, .invokevirtual 109, 3), (30, .goto 4, 3), (33, .iconst 0, 1), (34, .ireturn, 1)]
def zi_258_0 : zIns := [(0, .iload_n 1, 1), (1, .i2l, 1), (2, .lconst 0, 1), (3, .ldc2_w 103, 3), (6, .invokestatic 96, 3), (9, .ifCond .eq 29, 3), (12, .iload_n 3, 1), (13, .i2l, 1), (14, .lconst 0, 1), (15, .ldc2_w 283, 3), (18, .invokestatic 96, 3), (21, .ifCond .eq 17, 3), (24, .iload_n 2, 1), (25, .i2l, 1), (26, .ldc2_w 184, 3), (29, .ldc2_w 283, 3), (32, .invokestatic 96, 3), (35, .ifCond .ne 10, 3), (38, .aload_n 0, 1), (39, .bipush (-102), 2), (41, .invokevirtual 109, 3), (44, .ireturn, 1), (45, .aload_n 0, 1), (46, .iload_n 1, 1), (47, .iconst 2, 1), (48, .iload_n 2, 1), (49, .imul, 1), (50, .invokevirtual 289, 3), (53, .istore 4, 2), (55, .iload 4, 2), (57, .ifCond .eq 6, 3), (60, .iload 4, 2), (62, .ireturn, 1), (63, .aload_n 0, 1), (64, .invokevirtual 213, 3), (67, .iconst 0, 1), (68, .istore 5, 2), (70, .iconst 0, 1), (71, .istore 6, 2), (73, .iload 6, 2), (75, .iload_n 2, 1), (76, .if_icmp .ge 118, 3), (79, .aload_n 0, 1), (80, .getfield 21, 3), (83, .iload_n 1, 1), (84, .aaload, 1), (85, .iconst 2, 1), (86, .iload 6, 2), (88, .imul, 1), (89, .laload, 1)]
def zi_258_1 : zIns := [(90, .lstore 7, 2), (92, .aload_n 0, 1), (93, .getfield 21, 3), (96, .iload_n 1, 1), (97, .aaload, 1), (98, .iconst 2, 1), (99, .iload 6, 2), (101, .imul, 1), (102, .iconst 1, 1), (103, .iadd, 1), (104, .laload, 1), (105, .lstore 9, 2), (107, .lload 7, 2), (109, .lconst 0, 1), (110, .ldc2_w 184, 3), (113, .invokestatic 96, 3), (116, .ifCond .eq 27, 3), (119, .iload 5, 2), (121, .lload 7, 2), (123, .l2i, 1), (124, .ishr, 1), (125, .iconst 1, 1), (126, .iand, 1), (127, .iconst 1, 1), (128, .if_icmp .eq 15, 3), (131, .lload 9, 2), (133, .lconst 1, 1), (134, .ldc2_w 175, 3), (137, .invokestatic 96, 3), (140, .ifCond .ne 10, 3), (143, .aload_n 0, 1), (144, .bipush (-105), 2), (146, .invokevirtual 109, 3), (149, .ireturn, 1), (150, .iload 5, 2), (152, .iconst 1, 1), (153, .lload 7, 2), (155, .l2i, 1), (156, .ishl, 1), (157, .ior, 1), (158, .istore 5, 2), (160, .aload_n 0, 1), (161, .getfield 90, 3), (164, .iconst 1, 1), (165, .iconst 2, 1), (166, .iload 6, 2), (168, .imul, 1), (169, .iadd, 1), (170, .lload 7, 2), (172, .l2i, 1)]
def zi_258_2 : zIns := [(173, .iastore, 1), (174, .aload_n 0, 1), (175, .getfield 90, 3), (178, .iconst 2, 1), (179, .iconst 2, 1), (180, .iload 6, 2), (182, .imul, 1), (183, .iadd, 1), (184, .lload 9, 2), (186, .l2i, 1), (187, .iastore, 1), (188, .iinc 6 1, 3), (191, .goto (-118), 3), (194, .aload_n 0, 1), (195, .getfield 90, 3), (198, .iconst 0, 1), (199, .iload_n 2, 1), (200, .iastore, 1), (201, .aload_n 0, 1), (202, .iload_n 3, 1), (203, .putfield 207, 3), (206, .aload_n 0, 1), (207, .iconst 5, 1), (208, .invokevirtual 277, 3), (211, .ireturn, 1)]
def zi_258 : zIns := zi_258_0 ++ (zi_258_1 ++ (zi_258_2))
def zi_259 : zIns := [(0, .iload_n 1, 1), (1, .i2l, 1), (2, .ldc2_w 124, 3), (5, .ldc2_w 103, 3), (8, .invokestatic 96, 3), (11, .ifCond .eq 31, 3), (14, .aload_n 0, 1), (15, .iload_n 2, 1), (16, .invokevirtual 120, 3), (19, .ifCond .eq 23, 3), (22, .aload_n 0, 1), (23, .iload_n 3, 1), (24, .invokevirtual 120, 3), (27, .ifCond .eq 15, 3), (30, .aload_n 0, 1), (31, .iload_n 1, 1), (32, .iconst (-1), 1), (33, .iload_n 2, 1), (34, .iload_n 3, 1), (35, .iconst (-1), 1), (36, .invokevirtual 285, 3), (39, .goto 9, 3), (42, .aload_n 0, 1), (43, .bipush (-102), 2), (45, .invokevirtual 109, 3), (48, .ireturn, 1)]
def zi_260 : zIns := [(0, .iload_n 1, 1), (1, .i2l, 1), (2, .ldc2_w 292, 3), (5, .ldc2_w 175, 3), (8, .invokestatic 96, 3), (11, .ifCond .eq 23, 3), (14, .aload_n 0, 1), (15, .iload_n 2, 1), (16, .invokevirtual 120, 3), (19, .ifCond .eq 15, 3), (22, .aload_n 0, 1), (23, .iload_n 1, 1), (24, .iconst (-1), 1), (25, .iload_n 2, 1), (26, .iconst (-1), 1), (27, .iconst (-1), 1), (28, .invokevirtual 285, 3), (31, .goto 9, 3), (34, .aload_n 0, 1), (35, .bipush (-102), 2), (37, .invokevirtual 109, 3), (40, .ireturn, 1)]
def zi_261 : zIns := [(0, .aload_n 0, 1), (1, .getfield 93, 3), (4, .ifCond .ne 10, 3), (7, .aload_n 0, 1), (8, .bipush (-105), 2), (10, .invokevirtual 109, 3), (13, .ireturn, 1), (14, .aload_n 0, 1), (15, .dup, 1), (16, .getfield 93, 3), (19, .iconst 1, 1), (20, .isub, 1), (21, .putfield 93, 3), (24, .iconst 0, 1), (25, .istore_n 1, 1), (26, .iload_n 1, 1), (27, .bipush 8, 2), (29, .if_icmp .ge 48, 3), (32, .aload_n 0, 1), (33, .getfield 7, 3), (36, .iload_n 1, 1), (37, .aload_n 0, 1), (38, .getfield 7, 3), (41, .iload_n 1, 1), (42, .iaload, 1), (43, .iconst 2, 1), (44, .if_icmp .ne 20, 3), (47, .aload_n 0, 1), (48, .getfield 28, 3), (51, .iload_n 1, 1), (52, .iaload, 1), (53, .aload_n 0, 1), (54, .getfield 93, 3), (57, .if_icmp .ne 7, 3), (60, .iconst 0, 1), (61, .goto 9, 3), (64, .aload_n 0, 1), (65, .getfield 7, 3), (68, .iload_n 1, 1), (69, .iaload, 1), (70, .iastore, 1), (71, .iinc 1 1, 3), (74, .goto (-48), 3), (77, .aload_n 0, 1), (78, .getfield 93, 3), (81, .ireturn, 1)]
def zi_262_0 : zIns := [(0, .aload_n 0, 1), (1, .iload_n 1, 1), (2, .invokevirtual 120, 3), (5, .ifCond .eq 15, 3), (8, .iload_n 2, 1), (9, .i2l, 1), (10, .lconst 0, 1), (11, .ldc2_w 124, 3), (14, .invokestatic 96, 3), (17, .ifCond .ne 10, 3), (20, .aload_n 0, 1), (21, .bipush (-102), 2), (23, .invokevirtual 109, 3), (26, .ireturn, 1), (27, .iload_n 2, 1), (28, .tableswitch 131 0 5 #[40, 47, 72, 110, 117, 124], 40), (68, .aload_n 0, 1), (69, .getfield 47, 3), (72, .iload_n 1, 1), (73, .iaload, 1), (74, .ireturn, 1), (75, .aload_n 0, 1), (76, .getfield 47, 3), (79, .iload_n 1, 1), (80, .iaload, 1), (81, .bipush 6, 2), (83, .if_icmp .lt 15, 3), (86, .aload_n 0, 1), (87, .getfield 53, 3), (90, .bipush 8, 2), (92, .iload_n 1, 1), (93, .imul, 1), (94, .iaload, 1), (95, .goto 4, 3), (98, .iconst (-1), 1), (99, .ireturn, 1), (100, .aload_n 0, 1), (101, .getfield 47, 3), (104, .iload_n 1, 1), (105, .iaload, 1), (106, .bipush 6, 2), (108, .if_icmp .eq 14, 3), (111, .aload_n 0, 1), (112, .getfield 47, 3), (115, .iload_n 1, 1), (116, .iaload, 1), (117, .bipush 7, 2), (119, .if_icmp .ne 17, 3), (122, .aload_n 0, 1), (123, .getfield 53, 3)]
def zi_262_1 : zIns := [(126, .bipush 8, 2), (128, .iload_n 1, 1), (129, .imul, 1), (130, .iconst 1, 1), (131, .iadd, 1), (132, .iaload, 1), (133, .goto 4, 3), (136, .iconst (-1), 1), (137, .ireturn, 1), (138, .aload_n 0, 1), (139, .getfield 72, 3), (142, .iload_n 1, 1), (143, .iaload, 1), (144, .ireturn, 1), (145, .aload_n 0, 1), (146, .getfield 50, 3), (149, .iload_n 1, 1), (150, .iaload, 1), (151, .ireturn, 1), (152, .aload_n 0, 1), (153, .getfield 75, 3), (156, .iload_n 1, 1), (157, .iaload, 1), (158, .ireturn, 1), (159, .aload_n 0, 1), (160, .getfield 78, 3), (163, .iload_n 1, 1), (164, .iaload, 1), (165, .ireturn, 1)]
def zi_262 : zIns := zi_262_0 ++ (zi_262_1)
def zi_263 : zIns := [(0, .aload_n 0, 1), (1, .iload_n 1, 1), (2, .invokevirtual 181, 3), (5, .ifCond .eq 23, 3), (8, .iload_n 2, 1), (9, .invokestatic 280, 3), (12, .ifCond .eq 16, 3), (15, .aload_n 0, 1), (16, .getfield 44, 3), (19, .iconst 3, 1), (20, .iload_n 1, 1), (21, .imul, 1), (22, .iload_n 2, 1), (23, .iadd, 1), (24, .iaload, 1), (25, .goto 9, 3), (28, .aload_n 0, 1), (29, .bipush (-102), 2), (31, .invokevirtual 109, 3), (34, .ireturn, 1)]
def zi_264 : zIns := [(0, .iload_n 0, 1), (1, .i2l, 1), (2, .lconst 0, 1), (3, .ldc2_w 294, 3), (6, .invokestatic 96, 3), (9, .ireturn, 1)]
def zi_265 : zIns := [(0, .aload_n 0, 1), (1, .iload_n 1, 1), (2, .invokevirtual 181, 3), (5, .ifCond .eq 19, 3), (8, .iload_n 2, 1), (9, .invokestatic 296, 3), (12, .ifCond .eq 12, 3), (15, .aload_n 0, 1), (16, .iload_n 1, 1), (17, .iload_n 2, 1), (18, .invokevirtual 149, 3), (21, .goto 9, 3), (24, .aload_n 0, 1), (25, .bipush (-102), 2), (27, .invokevirtual 109, 3), (30, .ireturn, 1)]
def zi_266 : zIns := [(0, .aload_n 0, 1), (1, .iload_n 1, 1), (2, .invokevirtual 120, 3), (5, .ifCond .eq 35, 3), (8, .iload_n 2, 1), (9, .invokestatic 296, 3), (12, .ifCond .eq 28, 3), (15, .iload_n 3, 1), (16, .i2l, 1), (17, .lconst 0, 1), (18, .ldc2_w 299, 3), (21, .invokestatic 96, 3), (24, .ifCond .eq 16, 3), (27, .aload_n 0, 1), (28, .iload_n 1, 1), (29, .iload_n 2, 1), (30, .iload_n 3, 1), (31, .invokestatic 301, 3), (34, .invokevirtual 152, 3), (37, .goto 9, 3), (40, .aload_n 0, 1), (41, .bipush (-102), 2), (43, .invokevirtual 109, 3), (46, .ireturn, 1)]
def zi_267 : zIns := [(0, .iconst 0, 1), (1, .istore_n 3, 1), (2, .iconst 0, 1), (3, .istore 4, 2), (5, .iload 4, 2), (7, .sipush 1000, 3), (10, .if_icmp .ge 28, 3), (13, .iload_n 3, 1), (14, .aload_n 0, 1), (15, .iload_n 1, 1), (16, .iload 4, 2), (18, .invokevirtual 152, 3), (21, .iload_n 2, 1), (22, .if_icmp .ne 7, 3), (25, .iconst 1, 1), (26, .goto 4, 3), (29, .iconst 0, 1), (30, .iadd, 1), (31, .istore_n 3, 1), (32, .iinc 4 1, 3), (35, .goto (-30), 3), (38, .iload_n 3, 1), (39, .ireturn, 1)]
def zi_268 : zIns := [(0, .aload_n 0, 1), (1, .iload_n 1, 1), (2, .invokevirtual 120, 3), (5, .ifCond .eq 24, 3), (8, .iload_n 2, 1), (9, .i2l, 1), (10, .lconst 0, 1), (11, .ldc2_w 184, 3), (14, .invokestatic 96, 3), (17, .ifCond .eq 12, 3), (20, .aload_n 0, 1), (21, .iload_n 1, 1), (22, .iload_n 2, 1), (23, .invokevirtual 130, 3), (26, .goto 9, 3), (29, .aload_n 0, 1), (30, .bipush (-102), 2), (32, .invokevirtual 109, 3), (35, .ireturn, 1)]
def zi_269 : zIns := [(0, .iconst 0, 1), (1, .istore_n 3, 1), (2, .iconst 0, 1), (3, .istore 4, 2), (5, .iload 4, 2), (7, .aload_n 0, 1), (8, .getfield 100, 3), (11, .if_icmp .ge 28, 3), (14, .iload_n 3, 1), (15, .aload_n 0, 1), (16, .iload_n 1, 1), (17, .iload 4, 2), (19, .invokevirtual 304, 3), (22, .iload_n 2, 1), (23, .if_icmp .ne 7, 3), (26, .iconst 1, 1), (27, .goto 4, 3), (30, .iconst 0, 1), (31, .iadd, 1), (32, .istore_n 3, 1), (33, .iinc 4 1, 3), (36, .goto (-31), 3), (39, .iload_n 3, 1), (40, .ireturn, 1)]
def zi_270 : zIns := [(0, .aload_n 0, 1), (1, .iload_n 1, 1), (2, .invokevirtual 120, 3), (5, .ifCond .eq 24, 3), (8, .iload_n 2, 1), (9, .i2l, 1), (10, .lconst 0, 1), (11, .ldc2_w 184, 3), (14, .invokestatic 96, 3), (17, .ifCond .eq 12, 3), (20, .aload_n 0, 1), (21, .iload_n 1, 1), (22, .iload_n 2, 1), (23, .invokevirtual 307, 3), (26, .goto 9, 3), (29, .aload_n 0, 1), (30, .bipush (-102), 2), (32, .invokevirtual 109, 3), (35, .ireturn, 1)]
def zi_271 : zIns := [(0, .iconst 0, 1), (1, .istore_n 3, 1), (2, .iconst 0, 1), (3, .istore 4, 2), (5, .iload 4, 2), (7, .sipush 1000, 3), (10, .if_icmp .ge 35, 3), (13, .iload_n 3, 1), (14, .aload_n 0, 1), (15, .iload_n 1, 1), (16, .iload 4, 2), (18, .invokevirtual 152, 3), (21, .iconst 1, 1), (22, .if_icmp .ne 14, 3), (25, .iconst 1, 1), (26, .iload 4, 2), (28, .iload_n 2, 1), (29, .invokestatic 146, 3), (32, .ishl, 1), (33, .goto 4, 3), (36, .iconst 0, 1), (37, .ior, 1), (38, .istore_n 3, 1), (39, .iinc 4 1, 3), (42, .goto (-37), 3), (45, .iload_n 3, 1), (46, .ireturn, 1)]
def zi_272 : zIns := [(0, .aload_n 0, 1), (1, .iload_n 1, 1), (2, .invokevirtual 120, 3), (5, .ifCond .eq 19, 3), (8, .iload_n 2, 1), (9, .invokestatic 280, 3), (12, .ifCond .eq 12, 3), (15, .aload_n 0, 1), (16, .iload_n 1, 1), (17, .iload_n 2, 1), (18, .invokevirtual 134, 3), (21, .goto 9, 3), (24, .aload_n 0, 1), (25, .bipush (-102), 2), (27, .invokevirtual 109, 3), (30, .ireturn, 1)]
def zi_273_0 : zIns := [(0, .aload_n 0, 1), (1, .iconst 0, 1), (2, .putfield 310, 3), (5, .iconst 0, 1), (6, .istore_n 3, 1), (7, .iconst 0, 1), (8, .istore 4, 2), (10, .iload 4, 2), (12, .sipush 1000, 3), (15, .if_icmp .ge 82, 3), (18, .aload_n 0, 1), (19, .iload_n 1, 1), (20, .iload_n 2, 1), (21, .iload 4, 2), (23, .invokestatic 301, 3), (26, .invokevirtual 152, 3), (29, .iconst 1, 1), (30, .if_icmp .ne 7, 3), (33, .iconst 1, 1), (34, .goto 4, 3), (37, .iconst 0, 1), (38, .istore 5, 2), (40, .iload 5, 2), (42, .ifCond .eq 28, 3), (45, .iload_n 3, 1), (46, .ifCond .ne 24, 3), (49, .aload_n 0, 1), (50, .getfield 81, 3), (53, .aload_n 0, 1), (54, .getfield 310, 3), (57, .iload 4, 2), (59, .iastore, 1), (60, .aload_n 0, 1), (61, .dup, 1), (62, .getfield 310, 3), (65, .iconst 1, 1), (66, .iadd, 1), (67, .putfield 310, 3), (70, .iload 5, 2), (72, .ifCond .eq 16, 3), (75, .aload_n 0, 1), (76, .getfield 84, 3), (79, .aload_n 0, 1), (80, .getfield 310, 3), (83, .iconst 1, 1), (84, .isub, 1), (85, .iload 4, 2), (87, .iastore, 1), (88, .iload 5, 2), (90, .istore_n 3, 1)]
def zi_273_1 : zIns := [(91, .iinc 4 1, 3), (94, .goto (-84), 3), (97, .return_, 1)]
def zi_273 : zIns := zi_273_0 ++ (zi_273_1)
def zi_274_0 : zIns := [(0, .iconst 0, 1), (1, .istore_n 1, 1), (2, .iconst 1, 1), (3, .istore_n 2, 1), (4, .iload_n 2, 1), (5, .iconst 1, 1), (6, .iadd, 1), (7, .aload_n 0, 1), (8, .getfield 310, 3), (11, .if_icmp .ge 48, 3), (14, .aload_n 0, 1), (15, .getfield 81, 3), (18, .iload_n 2, 1), (19, .iconst 1, 1), (20, .iadd, 1), (21, .iaload, 1), (22, .aload_n 0, 1), (23, .getfield 84, 3), (26, .iload_n 2, 1), (27, .iaload, 1), (28, .isub, 1), (29, .aload_n 0, 1), (30, .getfield 81, 3), (33, .iload_n 1, 1), (34, .iconst 1, 1), (35, .iadd, 1), (36, .iaload, 1), (37, .aload_n 0, 1), (38, .getfield 84, 3), (41, .iload_n 1, 1), (42, .iaload, 1), (43, .isub, 1), (44, .if_icmp .ge 7, 3), (47, .iload_n 2, 1), (48, .goto 4, 3), (51, .iload_n 1, 1), (52, .istore_n 1, 1), (53, .iinc 2 1, 3), (56, .goto (-52), 3), (59, .iload_n 1, 1), (60, .istore_n 2, 1), (61, .iload_n 2, 1), (62, .iconst 1, 1), (63, .iadd, 1), (64, .aload_n 0, 1), (65, .getfield 310, 3), (68, .if_icmp .ge 51, 3), (71, .aload_n 0, 1), (72, .getfield 84, 3), (75, .iload_n 2, 1)]
def zi_274_1 : zIns := [(76, .aload_n 0, 1), (77, .getfield 84, 3), (80, .iload_n 2, 1), (81, .iconst 1, 1), (82, .iadd, 1), (83, .iaload, 1), (84, .iastore, 1), (85, .aload_n 0, 1), (86, .getfield 81, 3), (89, .iload_n 2, 1), (90, .iload_n 2, 1), (91, .iload_n 1, 1), (92, .if_icmp .ne 12, 3), (95, .aload_n 0, 1), (96, .getfield 81, 3), (99, .iload_n 2, 1), (100, .iaload, 1), (101, .goto 11, 3), (104, .aload_n 0, 1), (105, .getfield 81, 3), (108, .iload_n 2, 1), (109, .iconst 1, 1), (110, .iadd, 1), (111, .iaload, 1), (112, .iastore, 1), (113, .iinc 2 1, 3), (116, .goto (-55), 3), (119, .aload_n 0, 1), (120, .dup, 1), (121, .getfield 310, 3), (124, .iconst 1, 1), (125, .isub, 1), (126, .putfield 310, 3), (129, .return_, 1)]
def zi_274 : zIns := zi_274_0 ++ (zi_274_1)
def zi_275 : zIns := [(0, .aload_n 0, 1), (1, .iload_n 1, 1), (2, .iload_n 2, 1), (3, .invokevirtual 313, 3), (6, .aload_n 0, 1), (7, .getfield 310, 3), (10, .iload_n 3, 1), (11, .if_icmp .le 10, 3), (14, .aload_n 0, 1), (15, .invokevirtual 317, 3), (18, .goto (-12), 3), (21, .return_, 1)]
def zi_276 : zIns := [(0, .sipush 1000, 3), (3, .aload_n 0, 1), (4, .getfield 81, 3), (7, .iload_n 1, 1), (8, .iaload, 1), (9, .imul, 1), (10, .aload_n 0, 1), (11, .getfield 84, 3), (14, .iload_n 1, 1), (15, .iaload, 1), (16, .iadd, 1), (17, .ireturn, 1)]
def zi_277 : zIns := [(0, .aload_n 0, 1), (1, .iload_n 1, 1), (2, .invokevirtual 120, 3), (5, .ifCond .eq 10, 3), (8, .iload_n 2, 1), (9, .invokestatic 296, 3), (12, .ifCond .ne 10, 3), (15, .aload_n 0, 1), (16, .bipush (-102), 2), (18, .invokevirtual 109, 3), (21, .ireturn, 1), (22, .aload_n 0, 1), (23, .iload_n 1, 1), (24, .iload_n 2, 1), (25, .invokevirtual 313, 3), (28, .aload_n 0, 1), (29, .getfield 310, 3), (32, .ireturn, 1)]
def zi_278 : zIns := [(0, .aload_n 0, 1), (1, .iload_n 1, 1), (2, .invokevirtual 120, 3), (5, .ifCond .eq 10, 3), (8, .iload_n 2, 1), (9, .invokestatic 296, 3), (12, .ifCond .ne 10, 3), (15, .aload_n 0, 1), (16, .bipush (-102), 2), (18, .invokevirtual 109, 3), (21, .ireturn, 1), (22, .aload_n 0, 1), (23, .iload_n 1, 1), (24, .iload_n 2, 1), (25, .invokevirtual 313, 3), (28, .iload_n 3, 1), (29, .i2l, 1), (30, .lconst 0, 1), (31, .aload_n 0, 1), (32, .getfield 310, 3), (35, .iconst 1, 1), (36, .isub, 1), (37, .i2l, 1), (38, .invokestatic 96, 3), (41, .ifCond .eq 11, 3), (44, .aload_n 0, 1), (45, .iload_n 3, 1), (46, .invokevirtual 320, 3), (49, .goto 9, 3), (52, .aload_n 0, 1), (53, .bipush (-102), 2), (55, .invokevirtual 109, 3), (58, .ireturn, 1)]
def zi_279 : zIns := [(0, .aload_n 0, 1), (1, .iload_n 1, 1), (2, .invokevirtual 120, 3), (5, .ifCond .eq 28, 3), (8, .iload_n 2, 1), (9, .invokestatic 296, 3), (12, .ifCond .eq 21, 3), (15, .iload_n 3, 1), (16, .i2l, 1), (17, .lconst 1, 1), (18, .ldc2_w 107, 3), (21, .invokestatic 96, 3), (24, .ifCond .eq 9, 3), (27, .iload 4, 2), (29, .iconst (-1), 1), (30, .if_icmp .ge 10, 3), (33, .aload_n 0, 1), (34, .bipush (-102), 2), (36, .invokevirtual 109, 3), (39, .ireturn, 1), (40, .aload_n 0, 1), (41, .iload_n 1, 1), (42, .iload_n 2, 1), (43, .iload_n 3, 1), (44, .invokevirtual 323, 3), (47, .iload 4, 2), (49, .iconst (-1), 1), (50, .if_icmp .ne 10, 3), (53, .aload_n 0, 1), (54, .getfield 310, 3), (57, .goto 27, 3), (60, .iload 4, 2), (62, .aload_n 0, 1), (63, .getfield 310, 3), (66, .if_icmp .ge 12, 3), (69, .aload_n 0, 1), (70, .iload 4, 2), (72, .invokevirtual 320, 3), (75, .goto 9, 3), (78, .aload_n 0, 1), (79, .bipush (-102), 2), (81, .invokevirtual 109, 3), (84, .ireturn, 1)]
def zi_280 : zIns := [(0, .iconst 0, 1), (1, .istore_n 2, 1), (2, .iload_n 2, 1), (3, .aload_n 0, 1), (4, .getfield 310, 3), (7, .if_icmp .ge 31, 3), (10, .aload_n 0, 1), (11, .getfield 81, 3), (14, .iload_n 2, 1), (15, .iaload, 1), (16, .iload_n 1, 1), (17, .if_icmp .gt 15, 3), (20, .iload_n 1, 1), (21, .aload_n 0, 1), (22, .getfield 84, 3), (25, .iload_n 2, 1), (26, .iaload, 1), (27, .if_icmp .gt 5, 3), (30, .iconst 1, 1), (31, .ireturn, 1), (32, .iinc 2 1, 3), (35, .goto (-33), 3), (38, .iconst 0, 1), (39, .ireturn, 1)]
def zi_281 : zIns := [(0, .iconst 0, 1), (1, .istore 4, 2), (3, .iconst 0, 1), (4, .istore 5, 2), (6, .iload 5, 2), (8, .aload_n 0, 1), (9, .getfield 100, 3), (12, .if_icmp .ge 48, 3), (15, .iload 4, 2), (17, .aload_n 0, 1), (18, .aload_n 0, 1), (19, .iload 5, 2), (21, .iload_n 2, 1), (22, .invokevirtual 149, 3), (25, .invokevirtual 327, 3), (28, .ifCond .eq 22, 3), (31, .iload_n 3, 1), (32, .ifCond .eq 14, 3), (35, .aload_n 0, 1), (36, .iload_n 1, 1), (37, .iload 5, 2), (39, .invokevirtual 304, 3), (42, .iconst 1, 1), (43, .if_icmp .eq 7, 3), (46, .iconst 1, 1), (47, .goto 4, 3), (50, .iconst 0, 1), (51, .iadd, 1), (52, .istore 4, 2), (54, .iinc 5 1, 3), (57, .goto (-51), 3), (60, .iload 4, 2), (62, .ireturn, 1)]
def zi_282 : zIns := [(0, .iconst 0, 1), (1, .istore_n 3, 1), (2, .iconst 0, 1), (3, .istore 4, 2), (5, .iload 4, 2), (7, .aload_n 0, 1), (8, .getfield 310, 3), (11, .if_icmp .ge 59, 3), (14, .aload_n 0, 1), (15, .getfield 81, 3), (18, .iload 4, 2), (20, .iaload, 1), (21, .istore 5, 2), (23, .iload 5, 2), (25, .aload_n 0, 1), (26, .getfield 84, 3), (29, .iload 4, 2), (31, .iaload, 1), (32, .if_icmp .gt 32, 3), (35, .iload_n 3, 1), (36, .aload_n 0, 1), (37, .iload_n 1, 1), (38, .iload_n 2, 1), (39, .iload 5, 2), (41, .invokestatic 301, 3), (44, .invokevirtual 152, 3), (47, .iconst 1, 1), (48, .if_icmp .ne 7, 3), (51, .iconst 0, 1), (52, .goto 4, 3), (55, .iconst 1, 1), (56, .iadd, 1), (57, .istore_n 3, 1), (58, .iinc 5 1, 3), (61, .goto (-38), 3), (64, .iinc 4 1, 3), (67, .goto (-62), 3), (70, .iload_n 3, 1), (71, .ireturn, 1)]
def zi_283 : zIns := [(0, .iconst 0, 1), (1, .istore_n 3, 1), (2, .iconst 0, 1), (3, .istore 4, 2), (5, .iload 4, 2), (7, .iload_n 1, 1), (8, .if_icmp .gt 41, 3), (11, .aload_n 0, 1), (12, .getfield 78, 3), (15, .iload_n 1, 1), (16, .iaload, 1), (17, .iload 4, 2), (19, .ishr, 1), (20, .iconst 1, 1), (21, .iand, 1), (22, .iconst 1, 1), (23, .if_icmp .ne 20, 3), (26, .aload_n 0, 1), (27, .iload 4, 2), (29, .iload_n 2, 1), (30, .invokevirtual 330, 3), (33, .ifCond .le 10, 3), (36, .iload_n 3, 1), (37, .iconst 1, 1), (38, .iload 4, 2), (40, .ishl, 1), (41, .ior, 1), (42, .istore_n 3, 1), (43, .iinc 4 1, 3), (46, .goto (-41), 3), (49, .iload_n 3, 1), (50, .ireturn, 1)]
def zi_284 : zIns := [(0, .aload_n 0, 1), (1, .getfield 37, 3), (4, .aload_n 0, 1), (5, .getfield 310, 3), (8, .imul, 1), (9, .aload_n 0, 1), (10, .iload_n 1, 1), (11, .iload_n 2, 1), (12, .iconst 0, 1), (13, .invokevirtual 333, 3), (16, .iadd, 1), (17, .ireturn, 1)]
def zi_285_0 : zIns := [(0, .aload_n 0, 1), (1, .iload_n 1, 1), (2, .invokevirtual 120, 3), (5, .ifCond .eq 35, 3), (8, .iload_n 2, 1), (9, .invokestatic 296, 3), (12, .ifCond .eq 28, 3), (15, .iload_n 3, 1), (16, .i2l, 1), (17, .lconst 1, 1), (18, .ldc2_w 107, 3), (21, .invokestatic 96, 3), (24, .ifCond .eq 16, 3), (27, .iload 4, 2), (29, .i2l, 1), (30, .lconst 0, 1), (31, .ldc2_w 105, 3), (34, .invokestatic 96, 3), (37, .ifCond .ne 10, 3), (40, .aload_n 0, 1), (41, .bipush (-102), 2), (43, .invokevirtual 109, 3), (46, .ireturn, 1), (47, .aload_n 0, 1), (48, .iload_n 1, 1), (49, .iload_n 2, 1), (50, .iload_n 3, 1), (51, .invokevirtual 323, 3), (54, .iload 4, 2), (56, .tableswitch 62 0 3 #[32, 39, 47, 55], 32), (88, .aload_n 0, 1), (89, .iload_n 1, 1), (90, .iload_n 2, 1), (91, .invokevirtual 330, 3), (94, .ireturn, 1), (95, .aload_n 0, 1), (96, .iload_n 1, 1), (97, .iload_n 2, 1), (98, .iconst 0, 1), (99, .invokevirtual 333, 3), (102, .ireturn, 1), (103, .aload_n 0, 1), (104, .iload_n 1, 1), (105, .iload_n 2, 1), (106, .iconst 1, 1), (107, .invokevirtual 333, 3), (110, .ireturn, 1), (111, .aload_n 0, 1), (112, .iload_n 1, 1), (113, .iload_n 2, 1)]
def zi_285_1 : zIns := [(114, .invokevirtual 337, 3), (117, .ireturn, 1), (118, .aload_n 0, 1), (119, .iload_n 1, 1), (120, .iload_n 2, 1), (121, .invokevirtual 340, 3), (124, .ireturn, 1)]
def zi_285 : zIns := zi_285_0 ++ (zi_285_1)
def zi_286 : zIns := [(0, .aload_n 0, 1), (1, .iload_n 1, 1), (2, .iload_n 2, 1), (3, .invokevirtual 313, 3), (6, .bipush 40, 2), (8, .istore_n 3, 1), (9, .aload_n 0, 1), (10, .iconst (-1), 1), (11, .putfield 343, 3), (14, .bipush 40, 2), (16, .istore 4, 2), (18, .iload 4, 2), (20, .iconst 1, 1), (21, .if_icmp .lt 59, 3), (24, .aload_n 0, 1), (25, .getfield 310, 3), (28, .iload 4, 2), (30, .if_icmp .le 10, 3), (33, .aload_n 0, 1), (34, .invokevirtual 317, 3), (37, .goto (-13), 3), (40, .aload_n 0, 1), (41, .iload_n 1, 1), (42, .iload_n 2, 1), (43, .invokevirtual 337, 3), (46, .istore 5, 2), (48, .aload_n 0, 1), (49, .getfield 343, 3), (52, .iconst (-1), 1), (53, .if_icmp .eq 12, 3), (56, .iload 5, 2), (58, .aload_n 0, 1), (59, .getfield 343, 3), (62, .if_icmp .gt 12, 3), (65, .aload_n 0, 1), (66, .iload 5, 2), (68, .putfield 343, 3), (71, .iload 4, 2), (73, .istore_n 3, 1), (74, .iinc 4 (-1), 3), (77, .goto (-59), 3), (80, .iload_n 3, 1), (81, .ireturn, 1)]
def zi_287 : zIns := [(0, .aload_n 0, 1), (1, .iload_n 1, 1), (2, .invokevirtual 120, 3), (5, .ifCond .eq 20, 3), (8, .iload_n 2, 1), (9, .invokestatic 296, 3), (12, .ifCond .eq 13, 3), (15, .iload_n 3, 1), (16, .i2l, 1), (17, .lconst 0, 1), (18, .lconst 1, 1), (19, .invokestatic 96, 3), (22, .ifCond .ne 10, 3), (25, .aload_n 0, 1), (26, .bipush (-102), 2), (28, .invokevirtual 109, 3), (31, .ireturn, 1), (32, .aload_n 0, 1), (33, .iload_n 1, 1), (34, .iload_n 2, 1), (35, .invokevirtual 346, 3), (38, .istore 4, 2), (40, .iload_n 3, 1), (41, .ifCond .ne 8, 3), (44, .iload 4, 2), (46, .goto 7, 3), (49, .aload_n 0, 1), (50, .getfield 343, 3), (53, .ireturn, 1)]
def zi_288 : zIns := [(0, .aload_n 0, 1), (1, .iload_n 1, 1), (2, .invokevirtual 120, 3), (5, .ifCond .eq 13, 3), (8, .iload_n 2, 1), (9, .i2l, 1), (10, .lconst 0, 1), (11, .lconst 1, 1), (12, .invokestatic 96, 3), (15, .ifCond .ne 10, 3), (18, .aload_n 0, 1), (19, .bipush (-102), 2), (21, .invokevirtual 109, 3), (24, .ireturn, 1), (25, .iconst (-1), 1), (26, .istore_n 3, 1), (27, .iconst (-1), 1), (28, .istore 4, 2), (30, .iconst 0, 1), (31, .istore 5, 2), (33, .iload 5, 2), (35, .bipush 6, 2), (37, .if_icmp .ge 40, 3), (40, .aload_n 0, 1), (41, .iload_n 1, 1), (42, .iload 5, 2), (44, .invokevirtual 346, 3), (47, .pop, 1), (48, .iload_n 3, 1), (49, .iconst (-1), 1), (50, .if_icmp .eq 12, 3), (53, .aload_n 0, 1), (54, .getfield 343, 3), (57, .iload 4, 2), (59, .if_icmp .ge 12, 3), (62, .iload 5, 2), (64, .istore_n 3, 1), (65, .aload_n 0, 1), (66, .getfield 343, 3), (69, .istore 4, 2), (71, .iinc 5 1, 3), (74, .goto (-41), 3), (77, .iload_n 2, 1), (78, .ifCond .ne 7, 3), (81, .iload_n 3, 1), (82, .goto 5, 3), (85, .iload 4, 2), (87, .ireturn, 1)]
def zi_289_0 : zIns := [(0, .aload_n 0, 1), (1, .iload_n 1, 1), (2, .invokevirtual 120, 3), (5, .ifCond .eq 21, 3), (8, .iload_n 2, 1), (9, .invokestatic 296, 3), (12, .ifCond .eq 14, 3), (15, .iload 4, 2), (17, .i2l, 1), (18, .lconst 0, 1), (19, .lconst 1, 1), (20, .invokestatic 96, 3), (23, .ifCond .ne 10, 3), (26, .aload_n 0, 1), (27, .bipush (-102), 2), (29, .invokevirtual 109, 3), (32, .ireturn, 1), (33, .iconst (-1), 1), (34, .istore 5, 2), (36, .iconst 0, 1), (37, .istore 6, 2), (39, .iload 6, 2), (41, .sipush 1000, 3), (44, .if_icmp .ge 74, 3), (47, .aload_n 0, 1), (48, .iload_n 1, 1), (49, .iload_n 2, 1), (50, .iload 6, 2), (52, .invokestatic 301, 3), (55, .invokevirtual 152, 3), (58, .iconst 1, 1), (59, .if_icmp .ne 7, 3), (62, .iconst 1, 1), (63, .goto 4, 3), (66, .iconst 0, 1), (67, .istore 7, 2), (69, .iload 4, 2), (71, .ifCond .ne 20, 3), (74, .iload 7, 2), (76, .ifCond .eq 15, 3), (79, .iload 6, 2), (81, .iload_n 3, 1), (82, .if_icmp .lt 9, 3), (85, .iload 5, 2), (87, .iconst (-1), 1), (88, .if_icmp .eq 20, 3), (91, .iload 4, 2), (93, .iconst 1, 1), (94, .if_icmp .ne 18, 3), (97, .iload 7, 2)]
def zi_289_1 : zIns := [(99, .ifCond .eq 13, 3), (102, .iload 6, 2), (104, .iload_n 3, 1), (105, .if_icmp .gt 7, 3), (108, .iload 6, 2), (110, .istore 5, 2), (112, .iinc 6 1, 3), (115, .goto (-76), 3), (118, .iload 5, 2), (120, .ireturn, 1)]
def zi_289 : zIns := zi_289_0 ++ (zi_289_1)
def zi_290_0 : zIns := [(0, .iload_n 3, 1), (1, .istore 6, 2), (3, .iload 5, 2), (5, .ifCond .ne 33, 3), (8, .iload 6, 2), (10, .iload 4, 2), (12, .if_icmp .ge 26, 3), (15, .aload_n 0, 1), (16, .iload_n 1, 1), (17, .iload_n 2, 1), (18, .iload 6, 2), (20, .invokestatic 301, 3), (23, .invokevirtual 152, 3), (26, .iconst 1, 1), (27, .if_icmp .ne 5, 3), (30, .iconst 1, 1), (31, .ireturn, 1), (32, .iinc 6 1, 3), (35, .goto (-32), 3), (38, .iconst 0, 1), (39, .istore 6, 2), (41, .iload 5, 2), (43, .ifCond .eq 52, 3), (46, .iload 6, 2), (48, .aload_n 0, 1), (49, .getfield 100, 3), (52, .if_icmp .ge 43, 3), (55, .aload_n 0, 1), (56, .iload 6, 2), (58, .iload_n 2, 1), (59, .invokevirtual 149, 3), (62, .i2l, 1), (63, .iload_n 3, 1), (64, .i2l, 1), (65, .iload 4, 2), (67, .iconst 1, 1), (68, .isub, 1), (69, .i2l, 1), (70, .invokestatic 96, 3), (73, .ifCond .eq 16, 3), (76, .aload_n 0, 1), (77, .iload_n 1, 1), (78, .iload 6, 2), (80, .invokevirtual 304, 3), (83, .iconst 1, 1), (84, .if_icmp .ne 5, 3), (87, .iconst 1, 1), (88, .ireturn, 1), (89, .iinc 6 1, 3), (92, .goto (-51), 3)]
def zi_290_1 : zIns := [(95, .iconst 0, 1), (96, .ireturn, 1)]
def zi_290 : zIns := zi_290_0 ++ (zi_290_1)
def zi_291_0 : zIns := [(0, .aload_n 0, 1), (1, .iload_n 1, 1), (2, .invokevirtual 120, 3), (5, .ifCond .eq 33, 3), (8, .iload_n 2, 1), (9, .invokestatic 296, 3), (12, .ifCond .eq 26, 3), (15, .iload_n 3, 1), (16, .i2l, 1), (17, .lconst 1, 1), (18, .ldc2_w 184, 3), (21, .invokestatic 96, 3), (24, .ifCond .eq 14, 3), (27, .iload 4, 2), (29, .i2l, 1), (30, .lconst 0, 1), (31, .lconst 1, 1), (32, .invokestatic 96, 3), (35, .ifCond .ne 10, 3), (38, .aload_n 0, 1), (39, .bipush (-102), 2), (41, .invokevirtual 109, 3), (44, .ireturn, 1), (45, .iload_n 3, 1), (46, .iconst 1, 1), (47, .if_icmp .ne 8, 3), (50, .bipush 100, 2), (52, .goto 5, 3), (55, .bipush 10, 2), (57, .istore 5, 2), (59, .iconst 0, 1), (60, .istore 6, 2), (62, .iconst 0, 1), (63, .istore 7, 2), (65, .iload 7, 2), (67, .sipush 1000, 3), (70, .if_icmp .ge 50, 3), (73, .iload 6, 2), (75, .aload_n 0, 1), (76, .iload_n 1, 1), (77, .iload_n 2, 1), (78, .iload 7, 2), (80, .iload 7, 2), (82, .iload 5, 2), (84, .iadd, 1), (85, .iload 4, 2), (87, .iconst 1, 1), (88, .if_icmp .ne 7, 3), (91, .iconst 1, 1), (92, .goto 4, 3)]
def zi_291_1 : zIns := [(95, .iconst 0, 1), (96, .invokevirtual 349, 3), (99, .ifCond .eq 7, 3), (102, .iconst 1, 1), (103, .goto 4, 3), (106, .iconst 0, 1), (107, .iadd, 1), (108, .istore 6, 2), (110, .iload 7, 2), (112, .iload 5, 2), (114, .iadd, 1), (115, .istore 7, 2), (117, .goto (-52), 3), (120, .iload 6, 2), (122, .ireturn, 1)]
def zi_291 : zIns := zi_291_0 ++ (zi_291_1)
def zi_292 : zIns := [(0, .iload_n 1, 1), (1, .ifCond .ne 7, 3), (4, .iload_n 0, 1), (5, .goto 19, 3), (8, .iload_n 1, 1), (9, .iconst 1, 1), (10, .if_icmp .ne 10, 3), (13, .iload_n 0, 1), (14, .bipush 100, 2), (16, .irem, 1), (17, .goto 7, 3), (20, .iload_n 0, 1), (21, .bipush 10, 2), (23, .irem, 1), (24, .ireturn, 1)]
def zi_293 : zIns := [(0, .aload_n 0, 1), (1, .iload_n 1, 1), (2, .iload_n 3, 1), (3, .invokevirtual 149, 3), (6, .istore 5, 2), (8, .aload_n 0, 1), (9, .iload_n 2, 1), (10, .iload_n 3, 1), (11, .invokevirtual 149, 3), (14, .istore 6, 2), (16, .iload 5, 2), (18, .iload 4, 2), (20, .invokestatic 353, 3), (23, .iload 6, 2), (25, .iload 4, 2), (27, .invokestatic 353, 3), (30, .if_icmp .eq 26, 3), (33, .iload 5, 2), (35, .iload 4, 2), (37, .invokestatic 353, 3), (40, .iload 6, 2), (42, .iload 4, 2), (44, .invokestatic 353, 3), (47, .if_icmp .ge 7, 3), (50, .iconst 1, 1), (51, .goto 4, 3), (54, .iconst 0, 1), (55, .ireturn, 1), (56, .iload 5, 2), (58, .iload 6, 2), (60, .if_icmp .eq 18, 3), (63, .iload 5, 2), (65, .iload 6, 2), (67, .if_icmp .ge 7, 3), (70, .iconst 1, 1), (71, .goto 17, 3), (74, .iconst 0, 1), (75, .goto 13, 3), (78, .iload_n 1, 1), (79, .iload_n 2, 1), (80, .if_icmp .ge 7, 3), (83, .iconst 1, 1), (84, .goto 4, 3), (87, .iconst 0, 1), (88, .ireturn, 1)]
def zi_294_0 : zIns := [(0, .aload_n 0, 1), (1, .aload_n 0, 1), (2, .iload_n 1, 1), (3, .iconst 1, 1), (4, .invokevirtual 307, 3), (7, .putfield 356, 3), (10, .iconst 0, 1), (11, .istore 4, 2), (13, .iload 4, 2), (15, .aload_n 0, 1), (16, .getfield 100, 3), (19, .if_icmp .ge 84, 3), (22, .iconst 0, 1), (23, .istore 5, 2), (25, .iconst 0, 1), (26, .istore 6, 2), (28, .iload 6, 2), (30, .aload_n 0, 1), (31, .getfield 100, 3), (34, .if_icmp .ge 43, 3), (37, .iload 5, 2), (39, .aload_n 0, 1), (40, .iload_n 1, 1), (41, .iload 6, 2), (43, .invokevirtual 304, 3), (46, .iconst 1, 1), (47, .if_icmp .ne 20, 3), (50, .aload_n 0, 1), (51, .iload 6, 2), (53, .iload 4, 2), (55, .iload_n 2, 1), (56, .iload_n 3, 1), (57, .invokevirtual 359, 3), (60, .ifCond .eq 7, 3), (63, .iconst 1, 1), (64, .goto 4, 3), (67, .iconst 0, 1), (68, .iadd, 1), (69, .istore 5, 2), (71, .iinc 6 1, 3), (74, .goto (-46), 3), (77, .aload_n 0, 1), (78, .iload_n 1, 1), (79, .iload 4, 2), (81, .invokevirtual 304, 3), (84, .iconst 1, 1), (85, .if_icmp .ne 12, 3), (88, .aload_n 0, 1), (89, .getfield 87, 3), (92, .iload 5, 2)]
def zi_294_1 : zIns := [(94, .iload 4, 2), (96, .iastore, 1), (97, .iinc 4 1, 3), (100, .goto (-87), 3), (103, .return_, 1)]
def zi_294 : zIns := zi_294_0 ++ (zi_294_1)
def zi_295 : zIns := [(0, .aload_n 0, 1), (1, .iload_n 1, 1), (2, .invokevirtual 120, 3), (5, .ifCond .eq 15, 3), (8, .iload_n 2, 1), (9, .invokestatic 296, 3), (12, .ifCond .eq 8, 3), (15, .iload_n 3, 1), (16, .iconst (-1), 1), (17, .if_icmp .ge 10, 3), (20, .aload_n 0, 1), (21, .bipush (-102), 2), (23, .invokevirtual 109, 3), (26, .ireturn, 1), (27, .aload_n 0, 1), (28, .iload_n 1, 1), (29, .iload_n 2, 1), (30, .iconst 0, 1), (31, .invokevirtual 363, 3), (34, .iload_n 3, 1), (35, .iconst (-1), 1), (36, .if_icmp .ne 10, 3), (39, .aload_n 0, 1), (40, .getfield 356, 3), (43, .goto 26, 3), (46, .iload_n 3, 1), (47, .aload_n 0, 1), (48, .getfield 356, 3), (51, .if_icmp .ge 12, 3), (54, .aload_n 0, 1), (55, .getfield 87, 3), (58, .iload_n 3, 1), (59, .iaload, 1), (60, .goto 9, 3), (63, .aload_n 0, 1), (64, .bipush (-102), 2), (66, .invokevirtual 109, 3), (69, .ireturn, 1)]
def zi_296 : zIns := [(0, .aload_n 0, 1), (1, .iload_n 1, 1), (2, .invokevirtual 120, 3), (5, .ifCond .eq 27, 3), (8, .iload_n 2, 1), (9, .invokestatic 296, 3), (12, .ifCond .eq 20, 3), (15, .iload_n 3, 1), (16, .i2l, 1), (17, .lconst 0, 1), (18, .ldc2_w 184, 3), (21, .invokestatic 96, 3), (24, .ifCond .eq 8, 3), (27, .iload 4, 2), (29, .ifCond .ge 10, 3), (32, .aload_n 0, 1), (33, .bipush (-102), 2), (35, .invokevirtual 109, 3), (38, .ireturn, 1), (39, .aload_n 0, 1), (40, .iload_n 1, 1), (41, .iload_n 2, 1), (42, .iload_n 3, 1), (43, .invokevirtual 363, 3), (46, .iload 4, 2), (48, .aload_n 0, 1), (49, .getfield 356, 3), (52, .if_icmp .ge 13, 3), (55, .aload_n 0, 1), (56, .getfield 87, 3), (59, .iload 4, 2), (61, .iaload, 1), (62, .goto 9, 3), (65, .aload_n 0, 1), (66, .bipush (-102), 2), (68, .invokevirtual 109, 3), (71, .ireturn, 1)]
def zi_297_0 : zIns := [(0, .aload_n 0, 1), (1, .iload_n 1, 1), (2, .invokevirtual 120, 3), (5, .ifCond .eq 18, 3), (8, .iload_n 2, 1), (9, .invokestatic 296, 3), (12, .ifCond .eq 11, 3), (15, .aload_n 0, 1), (16, .iload_n 3, 1), (17, .invokevirtual 181, 3), (20, .ifCond .ne 10, 3), (23, .aload_n 0, 1), (24, .bipush (-102), 2), (26, .invokevirtual 109, 3), (29, .ireturn, 1), (30, .iconst (-1), 1), (31, .istore 4, 2), (33, .iconst 0, 1), (34, .istore 5, 2), (36, .iload 5, 2), (38, .aload_n 0, 1), (39, .getfield 100, 3), (42, .if_icmp .ge 55, 3), (45, .aload_n 0, 1), (46, .iload_n 1, 1), (47, .iload 5, 2), (49, .invokevirtual 304, 3), (52, .iconst 1, 1), (53, .if_icmp .ne 38, 3), (56, .aload_n 0, 1), (57, .iload_n 3, 1), (58, .iload 5, 2), (60, .iload_n 2, 1), (61, .iconst 0, 1), (62, .invokevirtual 359, 3), (65, .ifCond .eq 26, 3), (68, .iload 4, 2), (70, .iconst (-1), 1), (71, .if_icmp .eq 16, 3), (74, .aload_n 0, 1), (75, .iload 5, 2), (77, .iload 4, 2), (79, .iload_n 2, 1), (80, .iconst 0, 1), (81, .invokevirtual 359, 3), (84, .ifCond .eq 7, 3), (87, .iload 5, 2), (89, .istore 4, 2), (91, .iinc 5 1, 3), (94, .goto (-58), 3)]
def zi_297_1 : zIns := [(97, .iload 4, 2), (99, .ireturn, 1)]
def zi_297 : zIns := zi_297_0 ++ (zi_297_1)
def zi_298 : zIns := [(0, .aload_n 0, 1), (1, .iload_n 1, 1), (2, .invokevirtual 120, 3), (5, .ifCond .eq 11, 3), (8, .aload_n 0, 1), (9, .iload_n 2, 1), (10, .invokevirtual 120, 3), (13, .ifCond .ne 10, 3), (16, .aload_n 0, 1), (17, .bipush (-102), 2), (19, .invokevirtual 109, 3), (22, .ireturn, 1), (23, .iconst 0, 1), (24, .istore_n 3, 1), (25, .iload_n 3, 1), (26, .sipush 1000, 3), (29, .if_icmp .ge 31, 3), (32, .aload_n 0, 1), (33, .iload_n 1, 1), (34, .iload_n 3, 1), (35, .invokevirtual 152, 3), (38, .iconst 1, 1), (39, .if_icmp .ne 15, 3), (42, .aload_n 0, 1), (43, .iload_n 2, 1), (44, .iload_n 3, 1), (45, .invokevirtual 152, 3), (48, .iconst 1, 1), (49, .if_icmp .eq 5, 3), (52, .iload_n 3, 1), (53, .ireturn, 1), (54, .iinc 3 1, 3), (57, .goto (-32), 3), (60, .iconst (-1), 1), (61, .ireturn, 1)]
def zi_299 : zIns := [(0, .iconst 0, 1), (1, .istore_n 3, 1), (2, .iload_n 3, 1), (3, .sipush 1000, 3), (6, .if_icmp .ge 26, 3), (9, .aload_n 0, 1), (10, .iload_n 1, 1), (11, .iload_n 3, 1), (12, .invokevirtual 152, 3), (15, .aload_n 0, 1), (16, .iload_n 2, 1), (17, .iload_n 3, 1), (18, .invokevirtual 152, 3), (21, .if_icmp .eq 5, 3), (24, .iload_n 3, 1), (25, .ireturn, 1), (26, .iinc 3 1, 3), (29, .goto (-27), 3), (32, .iconst (-1), 1), (33, .ireturn, 1)]
def zi_300 : zIns := [(0, .aload_n 0, 1), (1, .iload_n 1, 1), (2, .invokevirtual 120, 3), (5, .ifCond .eq 20, 3), (8, .aload_n 0, 1), (9, .iload_n 2, 1), (10, .invokevirtual 120, 3), (13, .ifCond .eq 12, 3), (16, .aload_n 0, 1), (17, .iload_n 1, 1), (18, .iload_n 2, 1), (19, .invokevirtual 366, 3), (22, .goto 9, 3), (25, .aload_n 0, 1), (26, .bipush (-102), 2), (28, .invokevirtual 109, 3), (31, .ireturn, 1)]
def zi_301 : zIns := [(0, .aload_n 0, 1), (1, .iload_n 1, 1), (2, .invokevirtual 120, 3), (5, .ifCond .ne 10, 3), (8, .aload_n 0, 1), (9, .bipush (-102), 2), (11, .invokevirtual 109, 3), (14, .ireturn, 1), (15, .iconst 0, 1), (16, .istore_n 2, 1), (17, .aload_n 0, 1), (18, .iload_n 2, 1), (19, .iload_n 1, 1), (20, .invokevirtual 366, 3), (23, .iconst (-1), 1), (24, .if_icmp .eq 9, 3), (27, .iinc 2 1, 3), (30, .goto (-13), 3), (33, .iload_n 2, 1), (34, .ireturn, 1)]
def zi_302_0 : zIns := [(0, .iconst 0, 1), (1, .istore 6, 2), (3, .iload 6, 2), (5, .iload 4, 2), (7, .if_icmp .ge 73, 3), (10, .aload_n 0, 1), (11, .getfield 44, 3), (14, .iconst 3, 1), (15, .aload_n 0, 1), (16, .getfield 21, 3), (19, .iload_n 3, 1), (20, .aaload, 1), (21, .iconst 2, 1), (22, .iload 6, 2), (24, .imul, 1), (25, .laload, 1), (26, .l2i, 1), (27, .imul, 1), (28, .iload_n 1, 1), (29, .iadd, 1), (30, .iaload, 1), (31, .istore 7, 2), (33, .iload 7, 2), (35, .ifCond .ne 7, 3), (38, .iconst 0, 1), (39, .goto 11, 3), (42, .iload 5, 2), (44, .iload 7, 2), (46, .iload_n 2, 1), (47, .invokestatic 155, 3), (50, .istore 8, 2), (52, .iload 8, 2), (54, .i2l, 1), (55, .aload_n 0, 1), (56, .getfield 21, 3), (59, .iload_n 3, 1), (60, .aaload, 1), (61, .iconst 2, 1), (62, .iload 6, 2), (64, .imul, 1), (65, .iconst 1, 1), (66, .iadd, 1), (67, .laload, 1), (68, .lcmp, 1), (69, .ifCond .eq 5, 3), (72, .iconst 0, 1), (73, .ireturn, 1), (74, .iinc 6 1, 3), (77, .goto (-74), 3), (80, .iconst 1, 1)]
def zi_302_1 : zIns := [(81, .ireturn, 1)]
def zi_302 : zIns := zi_302_0 ++ (zi_302_1)
def zi_303_0 : zIns := [(0, .iload_n 1, 1), (1, .invokestatic 280, 3), (4, .ifCond .eq 40, 3), (7, .iload_n 2, 1), (8, .i2l, 1), (9, .lconst 1, 1), (10, .ldc2_w 175, 3), (13, .invokestatic 96, 3), (16, .ifCond .eq 28, 3), (19, .iload_n 3, 1), (20, .i2l, 1), (21, .lconst 0, 1), (22, .ldc2_w 103, 3), (25, .invokestatic 96, 3), (28, .ifCond .eq 16, 3), (31, .iload 4, 2), (33, .i2l, 1), (34, .lconst 0, 1), (35, .ldc2_w 189, 3), (38, .invokestatic 96, 3), (41, .ifCond .ne 10, 3), (44, .aload_n 0, 1), (45, .bipush (-102), 2), (47, .invokevirtual 109, 3), (50, .ireturn, 1), (51, .aload_n 0, 1), (52, .iload_n 3, 1), (53, .iconst 2, 1), (54, .iload 4, 2), (56, .imul, 1), (57, .invokevirtual 289, 3), (60, .istore 5, 2), (62, .iload 5, 2), (64, .ifCond .eq 6, 3), (67, .iload 5, 2), (69, .ireturn, 1), (70, .iconst 0, 1), (71, .istore 6, 2), (73, .iload 6, 2), (75, .iload 4, 2), (77, .if_icmp .ge 62, 3), (80, .aload_n 0, 1), (81, .getfield 21, 3), (84, .iload_n 3, 1), (85, .aaload, 1), (86, .iconst 2, 1), (87, .iload 6, 2), (89, .imul, 1), (90, .laload, 1), (91, .lconst 0, 1)]
def zi_303_1 : zIns := [(92, .aload_n 0, 1), (93, .getfield 100, 3), (96, .iconst 1, 1), (97, .isub, 1), (98, .i2l, 1), (99, .invokestatic 96, 3), (102, .ifCond .eq 24, 3), (105, .aload_n 0, 1), (106, .getfield 21, 3), (109, .iload_n 3, 1), (110, .aaload, 1), (111, .iconst 2, 1), (112, .iload 6, 2), (114, .imul, 1), (115, .iconst 1, 1), (116, .iadd, 1), (117, .laload, 1), (118, .lconst 0, 1), (119, .lconst 1, 1), (120, .invokestatic 96, 3), (123, .ifCond .ne 10, 3), (126, .aload_n 0, 1), (127, .bipush (-105), 2), (129, .invokevirtual 109, 3), (132, .ireturn, 1), (133, .iinc 6 1, 3), (136, .goto (-63), 3), (139, .iconst 0, 1), (140, .istore 6, 2), (142, .iconst 0, 1), (143, .istore 7, 2), (145, .iload 7, 2), (147, .iconst 4, 1), (148, .if_icmp .ge 36, 3), (151, .iload 6, 2), (153, .aload_n 0, 1), (154, .iload_n 1, 1), (155, .iload_n 2, 1), (156, .iload_n 3, 1), (157, .iload 4, 2), (159, .iload 7, 2), (161, .invokevirtual 369, 3), (164, .ifCond .eq 10, 3), (167, .iconst 1, 1), (168, .iload 7, 2), (170, .ishl, 1), (171, .goto 4, 3), (174, .iconst 0, 1), (175, .ior, 1), (176, .istore 6, 2)]
def zi_303_2 : zIns := [(178, .iinc 7 1, 3), (181, .goto (-36), 3), (184, .iload 6, 2), (186, .ireturn, 1)]
def zi_303 : zIns := zi_303_0 ++ (zi_303_1 ++ (zi_303_2))
def zi_304_0 : zIns := [(0, .aload_n 0, 1), (1, .iload_n 1, 1), (2, .invokevirtual 120, 3), (5, .ifCond .eq 35, 3), (8, .iload_n 2, 1), (9, .invokestatic 296, 3), (12, .ifCond .eq 28, 3), (15, .iload_n 3, 1), (16, .i2l, 1), (17, .lconst 0, 1), (18, .ldc2_w 103, 3), (21, .invokestatic 96, 3), (24, .ifCond .eq 16, 3), (27, .iload 4, 2), (29, .i2l, 1), (30, .lconst 0, 1), (31, .ldc2_w 107, 3), (34, .invokestatic 96, 3), (37, .ifCond .ne 10, 3), (40, .aload_n 0, 1), (41, .bipush (-102), 2), (43, .invokevirtual 109, 3), (46, .ireturn, 1), (47, .aload_n 0, 1), (48, .iload_n 3, 1), (49, .iload 4, 2), (51, .invokevirtual 289, 3), (54, .istore 5, 2), (56, .iload 5, 2), (58, .ifCond .eq 6, 3), (61, .iload 5, 2), (63, .ireturn, 1), (64, .aload_n 0, 1), (65, .iload_n 1, 1), (66, .iload_n 2, 1), (67, .iconst 0, 1), (68, .invokevirtual 363, 3), (71, .iconst 0, 1), (72, .istore 6, 2), (74, .iload 6, 2), (76, .iload 4, 2), (78, .if_icmp .ge 42, 3), (81, .iload 6, 2), (83, .aload_n 0, 1), (84, .getfield 356, 3), (87, .if_icmp .ge 24, 3), (90, .aload_n 0, 1), (91, .getfield 21, 3), (94, .iload_n 3, 1), (95, .aaload, 1)]
def zi_304_1 : zIns := [(96, .iload 6, 2), (98, .laload, 1), (99, .aload_n 0, 1), (100, .getfield 87, 3), (103, .iload 6, 2), (105, .iaload, 1), (106, .i2l, 1), (107, .lcmp, 1), (108, .ifCond .eq 6, 3), (111, .iload 6, 2), (113, .ireturn, 1), (114, .iinc 6 1, 3), (117, .goto (-43), 3), (120, .aload_n 0, 1), (121, .getfield 356, 3), (124, .iload 4, 2), (126, .if_icmp .le 8, 3), (129, .iload 4, 2), (131, .goto 4, 3), (134, .iconst (-1), 1), (135, .ireturn, 1)]
def zi_304 : zIns := zi_304_0 ++ (zi_304_1)
def zi_305 : zIns := [(0, .iload_n 1, 1), (1, .invokestatic 280, 3), (4, .ifCond .eq 15, 3), (7, .iload_n 2, 1), (8, .i2l, 1), (9, .lconst 0, 1), (10, .ldc2_w 175, 3), (13, .invokestatic 96, 3), (16, .ifCond .ne 10, 3), (19, .aload_n 0, 1), (20, .bipush (-102), 2), (22, .invokevirtual 109, 3), (25, .ireturn, 1), (26, .iconst 0, 1), (27, .istore_n 3, 1), (28, .iconst 0, 1), (29, .istore 4, 2), (31, .iload 4, 2), (33, .aload_n 0, 1), (34, .getfield 100, 3), (37, .if_icmp .ge 32, 3), (40, .iload_n 3, 1), (41, .aload_n 0, 1), (42, .getfield 44, 3), (45, .iconst 3, 1), (46, .iload 4, 2), (48, .imul, 1), (49, .iload_n 1, 1), (50, .iadd, 1), (51, .iaload, 1), (52, .iload_n 2, 1), (53, .if_icmp .ne 7, 3), (56, .iconst 1, 1), (57, .goto 4, 3), (60, .iconst 0, 1), (61, .iadd, 1), (62, .istore_n 3, 1), (63, .iinc 4 1, 3), (66, .goto (-35), 3), (69, .iload_n 3, 1), (70, .ireturn, 1)]
def zi_306_0 : zIns := [(0, .aload_n 0, 1), (1, .iload_n 1, 1), (2, .invokevirtual 120, 3), (5, .ifCond .eq 31, 3), (8, .aload_n 0, 1), (9, .iload_n 2, 1), (10, .invokevirtual 181, 3), (13, .ifCond .eq 23, 3), (16, .iload_n 3, 1), (17, .invokestatic 280, 3), (20, .ifCond .eq 16, 3), (23, .iload 4, 2), (25, .i2l, 1), (26, .lconst 0, 1), (27, .ldc2_w 175, 3), (30, .invokestatic 96, 3), (33, .ifCond .ne 10, 3), (36, .aload_n 0, 1), (37, .bipush (-102), 2), (39, .invokevirtual 109, 3), (42, .ireturn, 1), (43, .aload_n 0, 1), (44, .getfield 44, 3), (47, .iconst 3, 1), (48, .iload_n 2, 1), (49, .imul, 1), (50, .iload_n 3, 1), (51, .iadd, 1), (52, .iaload, 1), (53, .istore 5, 2), (55, .aload_n 0, 1), (56, .getfield 44, 3), (59, .iconst 3, 1), (60, .iload_n 2, 1), (61, .imul, 1), (62, .iload_n 3, 1), (63, .iadd, 1), (64, .iload 4, 2), (66, .iastore, 1), (67, .aload_n 0, 1), (68, .iload_n 1, 1), (69, .iconst 1, 1), (70, .invokevirtual 307, 3), (73, .istore 6, 2), (75, .aload_n 0, 1), (76, .getfield 44, 3), (79, .iconst 3, 1), (80, .iload_n 2, 1), (81, .imul, 1), (82, .iload_n 3, 1)]
def zi_306_1 : zIns := [(83, .iadd, 1), (84, .iload 5, 2), (86, .iastore, 1), (87, .iload 6, 2), (89, .ireturn, 1)]
def zi_306 : zIns := zi_306_0 ++ (zi_306_1)
def zi_307 : zIns := [(0, .aload_n 0, 1), (1, .aload_n 0, 1), (2, .getfield 41, 3), (5, .ldc_w 373, 3), (8, .imul, 1), (9, .sipush 12345, 3), (12, .iadd, 1), (13, .putfield 41, 3), (16, .aload_n 0, 1), (17, .getfield 41, 3), (20, .bipush 16, 2), (22, .iushr, 1), (23, .iload_n 1, 1), (24, .irem, 1), (25, .ireturn, 1)]
def zi_308_0 : zIns := [(0, .iload_n 1, 1), (1, .i2l, 1), (2, .lconst 1, 1), (3, .ldc2_w 374, 3), (6, .invokestatic 96, 3), (9, .ifCond .ne 10, 3), (12, .aload_n 0, 1), (13, .bipush (-102), 2), (15, .invokevirtual 109, 3), (18, .ireturn, 1), (19, .iconst 0, 1), (20, .istore_n 2, 1), (21, .iload_n 2, 1), (22, .iload_n 1, 1), (23, .if_icmp .ge 95, 3), (26, .aload_n 0, 1), (27, .bipush 10, 2), (29, .invokevirtual 376, 3), (32, .istore_n 3, 1), (33, .aload_n 0, 1), (34, .bipush 10, 2), (36, .invokevirtual 376, 3), (39, .istore 4, 2), (41, .aload_n 0, 1), (42, .bipush 10, 2), (44, .invokevirtual 376, 3), (47, .istore 5, 2), (49, .aload_n 0, 1), (50, .getfield 100, 3), (53, .bipush 60, 2), (55, .if_icmp .ge 17, 3), (58, .aload_n 0, 1), (59, .dup, 1), (60, .getfield 100, 3), (63, .dup_x1, 1), (64, .iconst 1, 1), (65, .iadd, 1), (66, .putfield 100, 3), (69, .goto 9, 3), (72, .aload_n 0, 1), (73, .bipush 60, 2), (75, .invokevirtual 376, 3), (78, .istore 6, 2), (80, .aload_n 0, 1), (81, .iload 6, 2), (83, .iload_n 3, 1), (84, .iload 4, 2), (86, .iload 5, 2), (88, .invokevirtual 177, 3), (91, .aload_n 0, 1)]
def zi_308_1 : zIns := [(92, .bipush 8, 2), (94, .invokevirtual 376, 3), (97, .ifCond .ne 15, 3), (100, .aload_n 0, 1), (101, .aload_n 0, 1), (102, .aload_n 0, 1), (103, .getfield 100, 3), (106, .invokevirtual 376, 3), (109, .invokevirtual 186, 3), (112, .iinc 2 1, 3), (115, .goto (-94), 3), (118, .aload_n 0, 1), (119, .getfield 100, 3), (122, .ireturn, 1)]
def zi_308 : zIns := zi_308_0 ++ (zi_308_1)
def zi_309 : zIns := [(0, .aload_n 0, 1), (1, .getfield 41, 3), (4, .istore_n 2, 1), (5, .aload_n 0, 1), (6, .iload_n 1, 1), (7, .putfield 41, 3), (10, .iload_n 2, 1), (11, .ireturn, 1)]
def zi_310 : zIns := [(0, .iconst 0, 1), (1, .istore_n 2, 1), (2, .iload_n 2, 1), (3, .aload_n 1, 1), (4, .arraylength, 1), (5, .if_icmp .ge 15, 3), (8, .aload_n 1, 1), (9, .iload_n 2, 1), (10, .aload_n 0, 1), (11, .iload_n 2, 1), (12, .iaload, 1), (13, .iastore, 1), (14, .iinc 2 1, 3), (17, .goto (-15), 3), (20, .return_, 1)]
def zi_311 : zIns := [(0, .aload_n 0, 1), (1, .iconst 1, 1), (2, .putfield 379, 3), (5, .aload_n 0, 1), (6, .aload_n 0, 1), (7, .getfield 100, 3), (10, .putfield 383, 3), (13, .aload_n 0, 1), (14, .aload_n 0, 1), (15, .getfield 93, 3), (18, .putfield 386, 3), (21, .aload_n 0, 1), (22, .aload_n 0, 1), (23, .getfield 37, 3), (26, .putfield 389, 3), (29, .aload_n 0, 1), (30, .aload_n 0, 1), (31, .getfield 41, 3), (34, .putfield 392, 3), (37, .aload_n 0, 1), (38, .getfield 44, 3), (41, .aload_n 0, 1), (42, .getfield 56, 3), (45, .invokestatic 395, 3), (48, .aload_n 0, 1), (49, .getfield 47, 3), (52, .aload_n 0, 1), (53, .getfield 59, 3), (56, .invokestatic 395, 3), (59, .aload_n 0, 1), (60, .getfield 50, 3), (63, .aload_n 0, 1), (64, .getfield 62, 3), (67, .invokestatic 395, 3), (70, .aload_n 0, 1), (71, .getfield 53, 3), (74, .aload_n 0, 1), (75, .getfield 65, 3), (78, .invokestatic 395, 3), (81, .iconst 1, 1), (82, .ireturn, 1)]
def zi_312_0 : zIns := [(0, .aload_n 0, 1), (1, .getfield 379, 3), (4, .ifCond .ne 10, 3), (7, .aload_n 0, 1), (8, .bipush (-105), 2), (10, .invokevirtual 109, 3), (13, .ireturn, 1), (14, .aload_n 0, 1), (15, .aload_n 0, 1), (16, .getfield 383, 3), (19, .putfield 100, 3), (22, .aload_n 0, 1), (23, .aload_n 0, 1), (24, .getfield 386, 3), (27, .putfield 93, 3), (30, .aload_n 0, 1), (31, .aload_n 0, 1), (32, .getfield 389, 3), (35, .putfield 37, 3), (38, .aload_n 0, 1), (39, .aload_n 0, 1), (40, .getfield 392, 3), (43, .putfield 41, 3), (46, .aload_n 0, 1), (47, .getfield 56, 3), (50, .aload_n 0, 1), (51, .getfield 44, 3), (54, .invokestatic 395, 3), (57, .aload_n 0, 1), (58, .getfield 59, 3), (61, .aload_n 0, 1), (62, .getfield 47, 3), (65, .invokestatic 395, 3), (68, .aload_n 0, 1), (69, .getfield 62, 3), (72, .aload_n 0, 1), (73, .getfield 50, 3), (76, .invokestatic 395, 3), (79, .aload_n 0, 1), (80, .getfield 65, 3), (83, .aload_n 0, 1), (84, .getfield 53, 3), (87, .invokestatic 395, 3), (90, .aload_n 0, 1), (91, .iconst 0, 1), (92, .invokevirtual 274, 3), (95, .iconst 0, 1), (96, .istore_n 1, 1), (97, .iload_n 1, 1), (98, .bipush 8, 2)]
def zi_312_1 : zIns := [(100, .if_icmp .ge 48, 3), (103, .aload_n 0, 1), (104, .getfield 7, 3), (107, .iload_n 1, 1), (108, .aload_n 0, 1), (109, .getfield 7, 3), (112, .iload_n 1, 1), (113, .iaload, 1), (114, .iconst 2, 1), (115, .if_icmp .ne 20, 3), (118, .aload_n 0, 1), (119, .getfield 28, 3), (122, .iload_n 1, 1), (123, .iaload, 1), (124, .aload_n 0, 1), (125, .getfield 93, 3), (128, .if_icmp .lt 7, 3), (131, .iconst 0, 1), (132, .goto 9, 3), (135, .aload_n 0, 1), (136, .getfield 7, 3), (139, .iload_n 1, 1), (140, .iaload, 1), (141, .iastore, 1), (142, .iinc 1 1, 3), (145, .goto (-48), 3), (148, .iconst 1, 1), (149, .ireturn, 1)]
def zi_312 : zIns := zi_312_0 ++ (zi_312_1)
def zi_313 : zIns := [(0, .iconst 0, 1), (1, .istore_n 1, 1), (2, .iconst 0, 1), (3, .istore_n 2, 1), (4, .iload_n 2, 1), (5, .aload_n 0, 1), (6, .getfield 100, 3), (9, .if_icmp .ge 45, 3), (12, .iconst 0, 1), (13, .istore_n 3, 1), (14, .aload_n 0, 1), (15, .iload_n 3, 1), (16, .iconst 0, 1), (17, .invokevirtual 149, 3), (20, .aload_n 0, 1), (21, .iload_n 2, 1), (22, .iconst 0, 1), (23, .invokevirtual 149, 3), (26, .if_icmp .eq 9, 3), (29, .iinc 3 1, 3), (32, .goto (-18), 3), (35, .iload_n 1, 1), (36, .iload_n 3, 1), (37, .iload_n 2, 1), (38, .if_icmp .ne 7, 3), (41, .iconst 1, 1), (42, .goto 4, 3), (45, .iconst 0, 1), (46, .iadd, 1), (47, .istore_n 1, 1), (48, .iinc 2 1, 3), (51, .goto (-47), 3), (54, .iload_n 1, 1), (55, .ireturn, 1)]
def zi_314_0 : zIns := [(0, .iconst 0, 1), (1, .istore_n 2, 1), (2, .iload_n 1, 1), (3, .tableswitch 145 0 7 #[45, 50, 55, 60, 65, 102, 107, 112], 45), (48, .aload_n 0, 1), (49, .getfield 100, 3), (52, .ireturn, 1), (53, .aload_n 0, 1), (54, .getfield 93, 3), (57, .ireturn, 1), (58, .aload_n 0, 1), (59, .getfield 37, 3), (62, .ireturn, 1), (63, .aload_n 0, 1), (64, .invokevirtual 399, 3), (67, .ireturn, 1), (68, .iconst 0, 1), (69, .istore_n 3, 1), (70, .iload_n 3, 1), (71, .iconst 3, 1), (72, .aload_n 0, 1), (73, .getfield 100, 3), (76, .imul, 1), (77, .if_icmp .ge 26, 3), (80, .iload_n 2, 1), (81, .aload_n 0, 1), (82, .getfield 44, 3), (85, .iload_n 3, 1), (86, .iaload, 1), (87, .ifCond .ne 7, 3), (90, .iconst 1, 1), (91, .goto 4, 3), (94, .iconst 0, 1), (95, .iadd, 1), (96, .istore_n 2, 1), (97, .iinc 3 1, 3), (100, .goto (-30), 3), (103, .iload_n 2, 1), (104, .ireturn, 1), (105, .aload_n 0, 1), (106, .getfield 193, 3), (109, .ireturn, 1), (110, .aload_n 0, 1), (111, .getfield 41, 3), (114, .ireturn, 1), (115, .iconst 0, 1), (116, .istore_n 3, 1), (117, .iload_n 3, 1), (118, .bipush 8, 2), (120, .if_icmp .ge 26, 3)]
def zi_314_1 : zIns := [(123, .iload_n 2, 1), (124, .aload_n 0, 1), (125, .getfield 7, 3), (128, .iload_n 3, 1), (129, .iaload, 1), (130, .ifCond .eq 7, 3), (133, .iconst 1, 1), (134, .goto 4, 3), (137, .iconst 0, 1), (138, .iadd, 1), (139, .istore_n 2, 1), (140, .iinc 3 1, 3), (143, .goto (-26), 3), (146, .iload_n 2, 1), (147, .ireturn, 1), (148, .iload_n 1, 1), (149, .i2l, 1), (150, .ldc2_w 402, 3), (153, .ldc2_w 404, 3), (156, .invokestatic 96, 3), (159, .ifCond .eq 15, 3), (162, .aload_n 0, 1), (163, .getfield 34, 3), (166, .iload_n 1, 1), (167, .bipush 10, 2), (169, .isub, 1), (170, .iaload, 1), (171, .goto 4, 3), (174, .iconst (-1), 1), (175, .ireturn, 1)]
def zi_314 : zIns := zi_314_0 ++ (zi_314_1)
def zi_315 : zIns := [(0, .iload_n 0, 1), (1, .iload_n 0, 1), (2, .iconst 1, 1), (3, .iushr, 1), (4, .ldc_w 265, 3), (7, .iand, 1), (8, .isub, 1), (9, .istore_n 0, 1), (10, .iload_n 0, 1), (11, .ldc_w 266, 3), (14, .iand, 1), (15, .iload_n 0, 1), (16, .iconst 2, 1), (17, .iushr, 1), (18, .ldc_w 266, 3), (21, .iand, 1), (22, .iadd, 1), (23, .istore_n 0, 1), (24, .iload_n 0, 1), (25, .iload_n 0, 1), (26, .iconst 4, 1), (27, .iushr, 1), (28, .iadd, 1), (29, .ldc_w 267, 3), (32, .iand, 1), (33, .istore_n 0, 1), (34, .iload_n 0, 1), (35, .iload_n 0, 1), (36, .bipush 8, 2), (38, .iushr, 1), (39, .iadd, 1), (40, .istore_n 0, 1), (41, .iload_n 0, 1), (42, .iload_n 0, 1), (43, .bipush 16, 2), (45, .iushr, 1), (46, .iadd, 1), (47, .istore_n 0, 1), (48, .iload_n 0, 1), (49, .bipush 63, 2), (51, .iand, 1), (52, .ireturn, 1)]
def zi_316 : zIns := [(0, .iload_n 0, 1), (1, .iload_n 1, 1), (2, .if_icmp .lt 7, 3), (5, .iload_n 0, 1), (6, .goto 4, 3), (9, .iload_n 1, 1), (10, .ireturn, 1)]
def zi_317 : zIns := [(0, .iload_n 0, 1), (1, .iload_n 1, 1), (2, .if_icmp .gt 7, 3), (5, .iload_n 0, 1), (6, .goto 4, 3), (9, .iload_n 1, 1), (10, .ireturn, 1)]
def zi_318_0 : zIns := [(0, .new 7, 3), (3, .dup, 1), (4, .invokespecial 9, 3), (7, .astore_n 1, 1), (8, .new 10, 3), (11, .dup, 1), (12, .invokespecial 12, 3), (15, .astore_n 2, 1), (16, .iconst 0, 1), (17, .istore_n 3, 1), (18, .iload_n 3, 1), (19, .aload_n 0, 1), (20, .arraylength, 1), (21, .bipush 6, 2), (23, .isub, 1), (24, .if_icmp .gt 2179, 3), (27, .aload_n 0, 1), (28, .iload_n 3, 1), (29, .iaload, 1), (30, .bipush 63, 2), (32, .iand, 1), (33, .tableswitch 2164 0 53 #[231, 274, 347, 410, 444, 467, 500, 533, 576, 619, 642, 665, 688, 701, 714, 727, 770, 803, 826, 869, 912, 955, 998, 1031, 1044, 1077, 1110, 1143, 1186, 1219, 1252, 1285, 1318, 1361, 1414, 1467, 1510, 1543, 1596, 1649, 1692, 1745, 1788, 1821, 1854, 1877, 1930, 1983, 2016, 2069, 2092, 2115, 2128, 2141], 231), (264, .aload_n 1, 1), (265, .aload_n 0, 1), (266, .iload_n 3, 1), (267, .iconst 1, 1), (268, .iadd, 1), (269, .iaload, 1), (270, .aload_n 0, 1), (271, .iload_n 3, 1), (272, .iconst 2, 1), (273, .iadd, 1), (274, .iaload, 1), (275, .aload_n 0, 1), (276, .iload_n 3, 1), (277, .iconst 3, 1), (278, .iadd, 1), (279, .iaload, 1), (280, .invokevirtual 13, 3), (283, .aload_n 2, 1), (284, .aload_n 0, 1), (285, .iload_n 3, 1), (286, .iconst 1, 1), (287, .iadd, 1), (288, .iaload, 1), (289, .aload_n 0, 1), (290, .iload_n 3, 1), (291, .iconst 2, 1), (292, .iadd, 1), (293, .iaload, 1)]
def zi_318_1 : zIns := [(294, .aload_n 0, 1), (295, .iload_n 3, 1), (296, .iconst 3, 1), (297, .iadd, 1), (298, .iaload, 1), (299, .invokevirtual 17, 3), (302, .if_icmp .eq 1895, 3), (305, .iconst 0, 1), (306, .ireturn, 1), (307, .aload_n 1, 1), (308, .aload_n 0, 1), (309, .iload_n 3, 1), (310, .iconst 1, 1), (311, .iadd, 1), (312, .iaload, 1), (313, .aload_n 0, 1), (314, .iload_n 3, 1), (315, .iconst 2, 1), (316, .iadd, 1), (317, .iaload, 1), (318, .aload_n 0, 1), (319, .iload_n 3, 1), (320, .iconst 3, 1), (321, .iadd, 1), (322, .iaload, 1), (323, .i2l, 1), (324, .bipush 32, 2), (326, .lshl, 1), (327, .aload_n 0, 1), (328, .iload_n 3, 1), (329, .iconst 4, 1), (330, .iadd, 1), (331, .iaload, 1), (332, .i2l, 1), (333, .ldc2_w 18, 3), (336, .land, 1), (337, .lor, 1), (338, .invokevirtual 20, 3), (341, .aload_n 2, 1), (342, .aload_n 0, 1), (343, .iload_n 3, 1), (344, .iconst 1, 1), (345, .iadd, 1), (346, .iaload, 1), (347, .aload_n 0, 1), (348, .iload_n 3, 1), (349, .iconst 2, 1), (350, .iadd, 1), (351, .iaload, 1), (352, .aload_n 0, 1)]
def zi_318_2 : zIns := [(353, .iload_n 3, 1), (354, .iconst 3, 1), (355, .iadd, 1), (356, .iaload, 1), (357, .i2l, 1), (358, .bipush 32, 2), (360, .lshl, 1), (361, .aload_n 0, 1), (362, .iload_n 3, 1), (363, .iconst 4, 1), (364, .iadd, 1), (365, .iaload, 1), (366, .i2l, 1), (367, .ldc2_w 18, 3), (370, .land, 1), (371, .lor, 1), (372, .invokevirtual 24, 3), (375, .if_icmp .eq 1822, 3), (378, .iconst 0, 1), (379, .ireturn, 1), (380, .aload_n 1, 1), (381, .aload_n 0, 1), (382, .iload_n 3, 1), (383, .iconst 1, 1), (384, .iadd, 1), (385, .iaload, 1), (386, .aload_n 0, 1), (387, .iload_n 3, 1), (388, .iconst 2, 1), (389, .iadd, 1), (390, .iaload, 1), (391, .aload_n 0, 1), (392, .iload_n 3, 1), (393, .iconst 3, 1), (394, .iadd, 1), (395, .iaload, 1), (396, .aload_n 0, 1), (397, .iload_n 3, 1), (398, .iconst 4, 1), (399, .iadd, 1), (400, .iaload, 1), (401, .aload_n 0, 1), (402, .iload_n 3, 1), (403, .iconst 5, 1), (404, .iadd, 1), (405, .iaload, 1), (406, .invokevirtual 25, 3), (409, .aload_n 2, 1), (410, .aload_n 0, 1), (411, .iload_n 3, 1)]
def zi_318_3 : zIns := [(412, .iconst 1, 1), (413, .iadd, 1), (414, .iaload, 1), (415, .aload_n 0, 1), (416, .iload_n 3, 1), (417, .iconst 2, 1), (418, .iadd, 1), (419, .iaload, 1), (420, .aload_n 0, 1), (421, .iload_n 3, 1), (422, .iconst 3, 1), (423, .iadd, 1), (424, .iaload, 1), (425, .aload_n 0, 1), (426, .iload_n 3, 1), (427, .iconst 4, 1), (428, .iadd, 1), (429, .iaload, 1), (430, .aload_n 0, 1), (431, .iload_n 3, 1), (432, .iconst 5, 1), (433, .iadd, 1), (434, .iaload, 1), (435, .invokevirtual 29, 3), (438, .if_icmp .eq 1759, 3), (441, .iconst 0, 1), (442, .ireturn, 1), (443, .aload_n 1, 1), (444, .aload_n 0, 1), (445, .iload_n 3, 1), (446, .iconst 1, 1), (447, .iadd, 1), (448, .iaload, 1), (449, .aload_n 0, 1), (450, .iload_n 3, 1), (451, .iconst 2, 1), (452, .iadd, 1), (453, .iaload, 1), (454, .invokevirtual 30, 3), (457, .aload_n 2, 1), (458, .aload_n 0, 1), (459, .iload_n 3, 1), (460, .iconst 1, 1), (461, .iadd, 1), (462, .iaload, 1), (463, .aload_n 0, 1), (464, .iload_n 3, 1), (465, .iconst 2, 1), (466, .iadd, 1), (467, .iaload, 1)]
def zi_318_4 : zIns := [(468, .invokevirtual 34, 3), (471, .lcmp, 1), (472, .ifCond .eq 1725, 3), (475, .iconst 0, 1), (476, .ireturn, 1), (477, .aload_n 1, 1), (478, .aload_n 0, 1), (479, .iload_n 3, 1), (480, .iconst 1, 1), (481, .iadd, 1), (482, .iaload, 1), (483, .invokevirtual 35, 3), (486, .aload_n 2, 1), (487, .aload_n 0, 1), (488, .iload_n 3, 1), (489, .iconst 1, 1), (490, .iadd, 1), (491, .iaload, 1), (492, .invokevirtual 39, 3), (495, .if_icmp .eq 1702, 3), (498, .iconst 0, 1), (499, .ireturn, 1), (500, .aload_n 1, 1), (501, .aload_n 0, 1), (502, .iload_n 3, 1), (503, .iconst 1, 1), (504, .iadd, 1), (505, .iaload, 1), (506, .aload_n 0, 1), (507, .iload_n 3, 1), (508, .iconst 2, 1), (509, .iadd, 1), (510, .iaload, 1), (511, .invokevirtual 40, 3), (514, .aload_n 2, 1), (515, .aload_n 0, 1), (516, .iload_n 3, 1), (517, .iconst 1, 1), (518, .iadd, 1), (519, .iaload, 1), (520, .aload_n 0, 1), (521, .iload_n 3, 1), (522, .iconst 2, 1), (523, .iadd, 1), (524, .iaload, 1), (525, .invokevirtual 44, 3), (528, .if_icmp .eq 1669, 3), (531, .iconst 0, 1), (532, .ireturn, 1), (533, .aload_n 1, 1)]
def zi_318_5 : zIns := [(534, .aload_n 0, 1), (535, .iload_n 3, 1), (536, .iconst 1, 1), (537, .iadd, 1), (538, .iaload, 1), (539, .aload_n 0, 1), (540, .iload_n 3, 1), (541, .iconst 2, 1), (542, .iadd, 1), (543, .iaload, 1), (544, .invokevirtual 45, 3), (547, .aload_n 2, 1), (548, .aload_n 0, 1), (549, .iload_n 3, 1), (550, .iconst 1, 1), (551, .iadd, 1), (552, .iaload, 1), (553, .aload_n 0, 1), (554, .iload_n 3, 1), (555, .iconst 2, 1), (556, .iadd, 1), (557, .iaload, 1), (558, .invokevirtual 48, 3), (561, .if_icmp .eq 1636, 3), (564, .iconst 0, 1), (565, .ireturn, 1), (566, .aload_n 1, 1), (567, .aload_n 0, 1), (568, .iload_n 3, 1), (569, .iconst 1, 1), (570, .iadd, 1), (571, .iaload, 1), (572, .aload_n 0, 1), (573, .iload_n 3, 1), (574, .iconst 2, 1), (575, .iadd, 1), (576, .iaload, 1), (577, .aload_n 0, 1), (578, .iload_n 3, 1), (579, .iconst 3, 1), (580, .iadd, 1), (581, .iaload, 1), (582, .invokevirtual 49, 3), (585, .aload_n 2, 1), (586, .aload_n 0, 1), (587, .iload_n 3, 1), (588, .iconst 1, 1), (589, .iadd, 1), (590, .iaload, 1), (591, .aload_n 0, 1)]
def zi_318_6 : zIns := [(592, .iload_n 3, 1), (593, .iconst 2, 1), (594, .iadd, 1), (595, .iaload, 1), (596, .aload_n 0, 1), (597, .iload_n 3, 1), (598, .iconst 3, 1), (599, .iadd, 1), (600, .iaload, 1), (601, .invokevirtual 52, 3), (604, .if_icmp .eq 1593, 3), (607, .iconst 0, 1), (608, .ireturn, 1), (609, .aload_n 1, 1), (610, .aload_n 0, 1), (611, .iload_n 3, 1), (612, .iconst 1, 1), (613, .iadd, 1), (614, .iaload, 1), (615, .aload_n 0, 1), (616, .iload_n 3, 1), (617, .iconst 2, 1), (618, .iadd, 1), (619, .iaload, 1), (620, .aload_n 0, 1), (621, .iload_n 3, 1), (622, .iconst 3, 1), (623, .iadd, 1), (624, .iaload, 1), (625, .invokevirtual 53, 3), (628, .aload_n 2, 1), (629, .aload_n 0, 1), (630, .iload_n 3, 1), (631, .iconst 1, 1), (632, .iadd, 1), (633, .iaload, 1), (634, .aload_n 0, 1), (635, .iload_n 3, 1), (636, .iconst 2, 1), (637, .iadd, 1), (638, .iaload, 1), (639, .aload_n 0, 1), (640, .iload_n 3, 1), (641, .iconst 3, 1), (642, .iadd, 1), (643, .iaload, 1), (644, .invokevirtual 56, 3), (647, .if_icmp .eq 1550, 3), (650, .iconst 0, 1), (651, .ireturn, 1)]
def zi_318_7 : zIns := [(652, .aload_n 1, 1), (653, .aload_n 0, 1), (654, .iload_n 3, 1), (655, .iconst 1, 1), (656, .iadd, 1), (657, .iaload, 1), (658, .invokevirtual 57, 3), (661, .aload_n 2, 1), (662, .aload_n 0, 1), (663, .iload_n 3, 1), (664, .iconst 1, 1), (665, .iadd, 1), (666, .iaload, 1), (667, .invokevirtual 60, 3), (670, .if_icmp .eq 1527, 3), (673, .iconst 0, 1), (674, .ireturn, 1), (675, .aload_n 1, 1), (676, .aload_n 0, 1), (677, .iload_n 3, 1), (678, .iconst 1, 1), (679, .iadd, 1), (680, .iaload, 1), (681, .invokevirtual 61, 3), (684, .aload_n 2, 1), (685, .aload_n 0, 1), (686, .iload_n 3, 1), (687, .iconst 1, 1), (688, .iadd, 1), (689, .iaload, 1), (690, .invokevirtual 64, 3), (693, .if_icmp .eq 1504, 3), (696, .iconst 0, 1), (697, .ireturn, 1), (698, .aload_n 1, 1), (699, .aload_n 0, 1), (700, .iload_n 3, 1), (701, .iconst 1, 1), (702, .iadd, 1), (703, .iaload, 1), (704, .invokevirtual 65, 3), (707, .aload_n 2, 1), (708, .aload_n 0, 1), (709, .iload_n 3, 1), (710, .iconst 1, 1), (711, .iadd, 1), (712, .iaload, 1), (713, .invokevirtual 68, 3), (716, .if_icmp .eq 1481, 3), (719, .iconst 0, 1)]
def zi_318_8 : zIns := [(720, .ireturn, 1), (721, .aload_n 1, 1), (722, .invokevirtual 69, 3), (725, .aload_n 2, 1), (726, .invokevirtual 73, 3), (729, .if_icmp .eq 1468, 3), (732, .iconst 0, 1), (733, .ireturn, 1), (734, .aload_n 1, 1), (735, .invokevirtual 74, 3), (738, .aload_n 2, 1), (739, .invokevirtual 77, 3), (742, .if_icmp .eq 1455, 3), (745, .iconst 0, 1), (746, .ireturn, 1), (747, .aload_n 1, 1), (748, .invokevirtual 78, 3), (751, .aload_n 2, 1), (752, .invokevirtual 81, 3), (755, .if_icmp .eq 1442, 3), (758, .iconst 0, 1), (759, .ireturn, 1), (760, .aload_n 1, 1), (761, .aload_n 0, 1), (762, .iload_n 3, 1), (763, .iconst 1, 1), (764, .iadd, 1), (765, .iaload, 1), (766, .aload_n 0, 1), (767, .iload_n 3, 1), (768, .iconst 2, 1), (769, .iadd, 1), (770, .iaload, 1), (771, .aload_n 0, 1), (772, .iload_n 3, 1), (773, .iconst 3, 1), (774, .iadd, 1), (775, .iaload, 1), (776, .invokevirtual 82, 3), (779, .aload_n 2, 1), (780, .aload_n 0, 1), (781, .iload_n 3, 1), (782, .iconst 1, 1), (783, .iadd, 1), (784, .iaload, 1), (785, .aload_n 0, 1), (786, .iload_n 3, 1), (787, .iconst 2, 1), (788, .iadd, 1), (789, .iaload, 1)]
def zi_318_9 : zIns := [(790, .aload_n 0, 1), (791, .iload_n 3, 1), (792, .iconst 3, 1), (793, .iadd, 1), (794, .iaload, 1), (795, .invokevirtual 85, 3), (798, .if_icmp .eq 1399, 3), (801, .iconst 0, 1), (802, .ireturn, 1), (803, .aload_n 1, 1), (804, .aload_n 0, 1), (805, .iload_n 3, 1), (806, .iconst 1, 1), (807, .iadd, 1), (808, .iaload, 1), (809, .aload_n 0, 1), (810, .iload_n 3, 1), (811, .iconst 2, 1), (812, .iadd, 1), (813, .iaload, 1), (814, .invokevirtual 86, 3), (817, .aload_n 2, 1), (818, .aload_n 0, 1), (819, .iload_n 3, 1), (820, .iconst 1, 1), (821, .iadd, 1), (822, .iaload, 1), (823, .aload_n 0, 1), (824, .iload_n 3, 1), (825, .iconst 2, 1), (826, .iadd, 1), (827, .iaload, 1), (828, .invokevirtual 89, 3), (831, .if_icmp .eq 1366, 3), (834, .iconst 0, 1), (835, .ireturn, 1), (836, .aload_n 1, 1), (837, .aload_n 0, 1), (838, .iload_n 3, 1), (839, .iconst 1, 1), (840, .iadd, 1), (841, .iaload, 1), (842, .invokevirtual 90, 3), (845, .aload_n 2, 1), (846, .aload_n 0, 1), (847, .iload_n 3, 1), (848, .iconst 1, 1), (849, .iadd, 1), (850, .iaload, 1), (851, .invokevirtual 93, 3)]
def zi_318_10 : zIns := [(854, .if_icmp .eq 1343, 3), (857, .iconst 0, 1), (858, .ireturn, 1), (859, .aload_n 1, 1), (860, .aload_n 0, 1), (861, .iload_n 3, 1), (862, .iconst 1, 1), (863, .iadd, 1), (864, .iaload, 1), (865, .aload_n 0, 1), (866, .iload_n 3, 1), (867, .iconst 2, 1), (868, .iadd, 1), (869, .iaload, 1), (870, .aload_n 0, 1), (871, .iload_n 3, 1), (872, .iconst 3, 1), (873, .iadd, 1), (874, .iaload, 1), (875, .invokevirtual 94, 3), (878, .aload_n 2, 1), (879, .aload_n 0, 1), (880, .iload_n 3, 1), (881, .iconst 1, 1), (882, .iadd, 1), (883, .iaload, 1), (884, .aload_n 0, 1), (885, .iload_n 3, 1), (886, .iconst 2, 1), (887, .iadd, 1), (888, .iaload, 1), (889, .aload_n 0, 1), (890, .iload_n 3, 1), (891, .iconst 3, 1), (892, .iadd, 1), (893, .iaload, 1), (894, .invokevirtual 97, 3), (897, .if_icmp .eq 1300, 3), (900, .iconst 0, 1), (901, .ireturn, 1), (902, .aload_n 1, 1), (903, .aload_n 0, 1), (904, .iload_n 3, 1), (905, .iconst 1, 1), (906, .iadd, 1), (907, .iaload, 1), (908, .aload_n 0, 1), (909, .iload_n 3, 1), (910, .iconst 2, 1), (911, .iadd, 1)]
def zi_318_11 : zIns := [(912, .iaload, 1), (913, .aload_n 0, 1), (914, .iload_n 3, 1), (915, .iconst 3, 1), (916, .iadd, 1), (917, .iaload, 1), (918, .invokevirtual 98, 3), (921, .aload_n 2, 1), (922, .aload_n 0, 1), (923, .iload_n 3, 1), (924, .iconst 1, 1), (925, .iadd, 1), (926, .iaload, 1), (927, .aload_n 0, 1), (928, .iload_n 3, 1), (929, .iconst 2, 1), (930, .iadd, 1), (931, .iaload, 1), (932, .aload_n 0, 1), (933, .iload_n 3, 1), (934, .iconst 3, 1), (935, .iadd, 1), (936, .iaload, 1), (937, .invokevirtual 101, 3), (940, .if_icmp .eq 1257, 3), (943, .iconst 0, 1), (944, .ireturn, 1), (945, .aload_n 1, 1), (946, .aload_n 0, 1), (947, .iload_n 3, 1), (948, .iconst 1, 1), (949, .iadd, 1), (950, .iaload, 1), (951, .aload_n 0, 1), (952, .iload_n 3, 1), (953, .iconst 2, 1), (954, .iadd, 1), (955, .iaload, 1), (956, .aload_n 0, 1), (957, .iload_n 3, 1), (958, .iconst 3, 1), (959, .iadd, 1), (960, .iaload, 1), (961, .invokevirtual 102, 3), (964, .aload_n 2, 1), (965, .aload_n 0, 1), (966, .iload_n 3, 1), (967, .iconst 1, 1), (968, .iadd, 1), (969, .iaload, 1)]
def zi_318_12 : zIns := [(970, .aload_n 0, 1), (971, .iload_n 3, 1), (972, .iconst 2, 1), (973, .iadd, 1), (974, .iaload, 1), (975, .aload_n 0, 1), (976, .iload_n 3, 1), (977, .iconst 3, 1), (978, .iadd, 1), (979, .iaload, 1), (980, .invokevirtual 105, 3), (983, .if_icmp .eq 1214, 3), (986, .iconst 0, 1), (987, .ireturn, 1), (988, .aload_n 1, 1), (989, .aload_n 0, 1), (990, .iload_n 3, 1), (991, .iconst 1, 1), (992, .iadd, 1), (993, .iaload, 1), (994, .aload_n 0, 1), (995, .iload_n 3, 1), (996, .iconst 2, 1), (997, .iadd, 1), (998, .iaload, 1), (999, .aload_n 0, 1), (1000, .iload_n 3, 1), (1001, .iconst 3, 1), (1002, .iadd, 1), (1003, .iaload, 1), (1004, .invokevirtual 106, 3), (1007, .aload_n 2, 1), (1008, .aload_n 0, 1), (1009, .iload_n 3, 1), (1010, .iconst 1, 1), (1011, .iadd, 1), (1012, .iaload, 1), (1013, .aload_n 0, 1), (1014, .iload_n 3, 1), (1015, .iconst 2, 1), (1016, .iadd, 1), (1017, .iaload, 1), (1018, .aload_n 0, 1), (1019, .iload_n 3, 1), (1020, .iconst 3, 1), (1021, .iadd, 1), (1022, .iaload, 1), (1023, .invokevirtual 109, 3), (1026, .if_icmp .eq 1171, 3), (1029, .iconst 0, 1)]
def zi_318_13 : zIns := [(1030, .ireturn, 1), (1031, .aload_n 1, 1), (1032, .aload_n 0, 1), (1033, .iload_n 3, 1), (1034, .iconst 1, 1), (1035, .iadd, 1), (1036, .iaload, 1), (1037, .aload_n 0, 1), (1038, .iload_n 3, 1), (1039, .iconst 2, 1), (1040, .iadd, 1), (1041, .iaload, 1), (1042, .invokevirtual 110, 3), (1045, .aload_n 2, 1), (1046, .aload_n 0, 1), (1047, .iload_n 3, 1), (1048, .iconst 1, 1), (1049, .iadd, 1), (1050, .iaload, 1), (1051, .aload_n 0, 1), (1052, .iload_n 3, 1), (1053, .iconst 2, 1), (1054, .iadd, 1), (1055, .iaload, 1), (1056, .invokevirtual 113, 3), (1059, .if_icmp .eq 1138, 3), (1062, .iconst 0, 1), (1063, .ireturn, 1), (1064, .aload_n 1, 1), (1065, .invokevirtual 114, 3), (1068, .aload_n 2, 1), (1069, .invokevirtual 117, 3), (1072, .if_icmp .eq 1125, 3), (1075, .iconst 0, 1), (1076, .ireturn, 1), (1077, .aload_n 1, 1), (1078, .aload_n 0, 1), (1079, .iload_n 3, 1), (1080, .iconst 1, 1), (1081, .iadd, 1), (1082, .iaload, 1), (1083, .aload_n 0, 1), (1084, .iload_n 3, 1), (1085, .iconst 2, 1), (1086, .iadd, 1), (1087, .iaload, 1), (1088, .invokevirtual 118, 3), (1091, .aload_n 2, 1), (1092, .aload_n 0, 1), (1093, .iload_n 3, 1)]
def zi_318_14 : zIns := [(1094, .iconst 1, 1), (1095, .iadd, 1), (1096, .iaload, 1), (1097, .aload_n 0, 1), (1098, .iload_n 3, 1), (1099, .iconst 2, 1), (1100, .iadd, 1), (1101, .iaload, 1), (1102, .invokevirtual 121, 3), (1105, .if_icmp .eq 1092, 3), (1108, .iconst 0, 1), (1109, .ireturn, 1), (1110, .aload_n 1, 1), (1111, .aload_n 0, 1), (1112, .iload_n 3, 1), (1113, .iconst 1, 1), (1114, .iadd, 1), (1115, .iaload, 1), (1116, .aload_n 0, 1), (1117, .iload_n 3, 1), (1118, .iconst 2, 1), (1119, .iadd, 1), (1120, .iaload, 1), (1121, .invokevirtual 122, 3), (1124, .aload_n 2, 1), (1125, .aload_n 0, 1), (1126, .iload_n 3, 1), (1127, .iconst 1, 1), (1128, .iadd, 1), (1129, .iaload, 1), (1130, .aload_n 0, 1), (1131, .iload_n 3, 1), (1132, .iconst 2, 1), (1133, .iadd, 1), (1134, .iaload, 1), (1135, .invokevirtual 125, 3), (1138, .if_icmp .eq 1059, 3), (1141, .iconst 0, 1), (1142, .ireturn, 1), (1143, .aload_n 1, 1), (1144, .aload_n 0, 1), (1145, .iload_n 3, 1), (1146, .iconst 1, 1), (1147, .iadd, 1), (1148, .iaload, 1), (1149, .aload_n 0, 1), (1150, .iload_n 3, 1), (1151, .iconst 2, 1), (1152, .iadd, 1), (1153, .iaload, 1)]
def zi_318_15 : zIns := [(1154, .invokevirtual 126, 3), (1157, .aload_n 2, 1), (1158, .aload_n 0, 1), (1159, .iload_n 3, 1), (1160, .iconst 1, 1), (1161, .iadd, 1), (1162, .iaload, 1), (1163, .aload_n 0, 1), (1164, .iload_n 3, 1), (1165, .iconst 2, 1), (1166, .iadd, 1), (1167, .iaload, 1), (1168, .invokevirtual 129, 3), (1171, .if_icmp .eq 1026, 3), (1174, .iconst 0, 1), (1175, .ireturn, 1), (1176, .aload_n 1, 1), (1177, .aload_n 0, 1), (1178, .iload_n 3, 1), (1179, .iconst 1, 1), (1180, .iadd, 1), (1181, .iaload, 1), (1182, .aload_n 0, 1), (1183, .iload_n 3, 1), (1184, .iconst 2, 1), (1185, .iadd, 1), (1186, .iaload, 1), (1187, .aload_n 0, 1), (1188, .iload_n 3, 1), (1189, .iconst 3, 1), (1190, .iadd, 1), (1191, .iaload, 1), (1192, .invokevirtual 130, 3), (1195, .aload_n 2, 1), (1196, .aload_n 0, 1), (1197, .iload_n 3, 1), (1198, .iconst 1, 1), (1199, .iadd, 1), (1200, .iaload, 1), (1201, .aload_n 0, 1), (1202, .iload_n 3, 1), (1203, .iconst 2, 1), (1204, .iadd, 1), (1205, .iaload, 1), (1206, .aload_n 0, 1), (1207, .iload_n 3, 1), (1208, .iconst 3, 1), (1209, .iadd, 1), (1210, .iaload, 1), (1211, .invokevirtual 133, 3)]
def zi_318_16 : zIns := [(1214, .if_icmp .eq 983, 3), (1217, .iconst 0, 1), (1218, .ireturn, 1), (1219, .aload_n 1, 1), (1220, .aload_n 0, 1), (1221, .iload_n 3, 1), (1222, .iconst 1, 1), (1223, .iadd, 1), (1224, .iaload, 1), (1225, .aload_n 0, 1), (1226, .iload_n 3, 1), (1227, .iconst 2, 1), (1228, .iadd, 1), (1229, .iaload, 1), (1230, .invokevirtual 134, 3), (1233, .aload_n 2, 1), (1234, .aload_n 0, 1), (1235, .iload_n 3, 1), (1236, .iconst 1, 1), (1237, .iadd, 1), (1238, .iaload, 1), (1239, .aload_n 0, 1), (1240, .iload_n 3, 1), (1241, .iconst 2, 1), (1242, .iadd, 1), (1243, .iaload, 1), (1244, .invokevirtual 137, 3), (1247, .if_icmp .eq 950, 3), (1250, .iconst 0, 1), (1251, .ireturn, 1), (1252, .aload_n 1, 1), (1253, .aload_n 0, 1), (1254, .iload_n 3, 1), (1255, .iconst 1, 1), (1256, .iadd, 1), (1257, .iaload, 1), (1258, .aload_n 0, 1), (1259, .iload_n 3, 1), (1260, .iconst 2, 1), (1261, .iadd, 1), (1262, .iaload, 1), (1263, .invokevirtual 138, 3), (1266, .aload_n 2, 1), (1267, .aload_n 0, 1), (1268, .iload_n 3, 1), (1269, .iconst 1, 1), (1270, .iadd, 1), (1271, .iaload, 1), (1272, .aload_n 0, 1), (1273, .iload_n 3, 1)]
def zi_318_17 : zIns := [(1274, .iconst 2, 1), (1275, .iadd, 1), (1276, .iaload, 1), (1277, .invokevirtual 141, 3), (1280, .if_icmp .eq 917, 3), (1283, .iconst 0, 1), (1284, .ireturn, 1), (1285, .aload_n 1, 1), (1286, .aload_n 0, 1), (1287, .iload_n 3, 1), (1288, .iconst 1, 1), (1289, .iadd, 1), (1290, .iaload, 1), (1291, .aload_n 0, 1), (1292, .iload_n 3, 1), (1293, .iconst 2, 1), (1294, .iadd, 1), (1295, .iaload, 1), (1296, .invokevirtual 142, 3), (1299, .aload_n 2, 1), (1300, .aload_n 0, 1), (1301, .iload_n 3, 1), (1302, .iconst 1, 1), (1303, .iadd, 1), (1304, .iaload, 1), (1305, .aload_n 0, 1), (1306, .iload_n 3, 1), (1307, .iconst 2, 1), (1308, .iadd, 1), (1309, .iaload, 1), (1310, .invokevirtual 145, 3), (1313, .if_icmp .eq 884, 3), (1316, .iconst 0, 1), (1317, .ireturn, 1), (1318, .aload_n 1, 1), (1319, .aload_n 0, 1), (1320, .iload_n 3, 1), (1321, .iconst 1, 1), (1322, .iadd, 1), (1323, .iaload, 1), (1324, .aload_n 0, 1), (1325, .iload_n 3, 1), (1326, .iconst 2, 1), (1327, .iadd, 1), (1328, .iaload, 1), (1329, .invokevirtual 146, 3), (1332, .aload_n 2, 1), (1333, .aload_n 0, 1), (1334, .iload_n 3, 1), (1335, .iconst 1, 1)]
def zi_318_18 : zIns := [(1336, .iadd, 1), (1337, .iaload, 1), (1338, .aload_n 0, 1), (1339, .iload_n 3, 1), (1340, .iconst 2, 1), (1341, .iadd, 1), (1342, .iaload, 1), (1343, .invokevirtual 149, 3), (1346, .if_icmp .eq 851, 3), (1349, .iconst 0, 1), (1350, .ireturn, 1), (1351, .aload_n 1, 1), (1352, .aload_n 0, 1), (1353, .iload_n 3, 1), (1354, .iconst 1, 1), (1355, .iadd, 1), (1356, .iaload, 1), (1357, .aload_n 0, 1), (1358, .iload_n 3, 1), (1359, .iconst 2, 1), (1360, .iadd, 1), (1361, .iaload, 1), (1362, .aload_n 0, 1), (1363, .iload_n 3, 1), (1364, .iconst 3, 1), (1365, .iadd, 1), (1366, .iaload, 1), (1367, .invokevirtual 150, 3), (1370, .aload_n 2, 1), (1371, .aload_n 0, 1), (1372, .iload_n 3, 1), (1373, .iconst 1, 1), (1374, .iadd, 1), (1375, .iaload, 1), (1376, .aload_n 0, 1), (1377, .iload_n 3, 1), (1378, .iconst 2, 1), (1379, .iadd, 1), (1380, .iaload, 1), (1381, .aload_n 0, 1), (1382, .iload_n 3, 1), (1383, .iconst 3, 1), (1384, .iadd, 1), (1385, .iaload, 1), (1386, .invokevirtual 153, 3), (1389, .if_icmp .eq 808, 3), (1392, .iconst 0, 1), (1393, .ireturn, 1), (1394, .aload_n 1, 1), (1395, .aload_n 0, 1)]
def zi_318_19 : zIns := [(1396, .iload_n 3, 1), (1397, .iconst 1, 1), (1398, .iadd, 1), (1399, .iaload, 1), (1400, .aload_n 0, 1), (1401, .iload_n 3, 1), (1402, .iconst 2, 1), (1403, .iadd, 1), (1404, .iaload, 1), (1405, .aload_n 0, 1), (1406, .iload_n 3, 1), (1407, .iconst 3, 1), (1408, .iadd, 1), (1409, .iaload, 1), (1410, .aload_n 0, 1), (1411, .iload_n 3, 1), (1412, .iconst 4, 1), (1413, .iadd, 1), (1414, .iaload, 1), (1415, .invokevirtual 154, 3), (1418, .aload_n 2, 1), (1419, .aload_n 0, 1), (1420, .iload_n 3, 1), (1421, .iconst 1, 1), (1422, .iadd, 1), (1423, .iaload, 1), (1424, .aload_n 0, 1), (1425, .iload_n 3, 1), (1426, .iconst 2, 1), (1427, .iadd, 1), (1428, .iaload, 1), (1429, .aload_n 0, 1), (1430, .iload_n 3, 1), (1431, .iconst 3, 1), (1432, .iadd, 1), (1433, .iaload, 1), (1434, .aload_n 0, 1), (1435, .iload_n 3, 1), (1436, .iconst 4, 1), (1437, .iadd, 1), (1438, .iaload, 1), (1439, .invokevirtual 158, 3), (1442, .if_icmp .eq 755, 3), (1445, .iconst 0, 1), (1446, .ireturn, 1), (1447, .aload_n 1, 1), (1448, .aload_n 0, 1), (1449, .iload_n 3, 1), (1450, .iconst 1, 1), (1451, .iadd, 1)]
def zi_318_20 : zIns := [(1452, .iaload, 1), (1453, .aload_n 0, 1), (1454, .iload_n 3, 1), (1455, .iconst 2, 1), (1456, .iadd, 1), (1457, .iaload, 1), (1458, .aload_n 0, 1), (1459, .iload_n 3, 1), (1460, .iconst 3, 1), (1461, .iadd, 1), (1462, .iaload, 1), (1463, .aload_n 0, 1), (1464, .iload_n 3, 1), (1465, .iconst 4, 1), (1466, .iadd, 1), (1467, .iaload, 1), (1468, .invokevirtual 159, 3), (1471, .aload_n 2, 1), (1472, .aload_n 0, 1), (1473, .iload_n 3, 1), (1474, .iconst 1, 1), (1475, .iadd, 1), (1476, .iaload, 1), (1477, .aload_n 0, 1), (1478, .iload_n 3, 1), (1479, .iconst 2, 1), (1480, .iadd, 1), (1481, .iaload, 1), (1482, .aload_n 0, 1), (1483, .iload_n 3, 1), (1484, .iconst 3, 1), (1485, .iadd, 1), (1486, .iaload, 1), (1487, .aload_n 0, 1), (1488, .iload_n 3, 1), (1489, .iconst 4, 1), (1490, .iadd, 1), (1491, .iaload, 1), (1492, .invokevirtual 162, 3), (1495, .if_icmp .eq 702, 3), (1498, .iconst 0, 1), (1499, .ireturn, 1), (1500, .aload_n 1, 1), (1501, .aload_n 0, 1), (1502, .iload_n 3, 1), (1503, .iconst 1, 1), (1504, .iadd, 1), (1505, .iaload, 1), (1506, .aload_n 0, 1), (1507, .iload_n 3, 1)]
def zi_318_21 : zIns := [(1508, .iconst 2, 1), (1509, .iadd, 1), (1510, .iaload, 1), (1511, .aload_n 0, 1), (1512, .iload_n 3, 1), (1513, .iconst 3, 1), (1514, .iadd, 1), (1515, .iaload, 1), (1516, .invokevirtual 163, 3), (1519, .aload_n 2, 1), (1520, .aload_n 0, 1), (1521, .iload_n 3, 1), (1522, .iconst 1, 1), (1523, .iadd, 1), (1524, .iaload, 1), (1525, .aload_n 0, 1), (1526, .iload_n 3, 1), (1527, .iconst 2, 1), (1528, .iadd, 1), (1529, .iaload, 1), (1530, .aload_n 0, 1), (1531, .iload_n 3, 1), (1532, .iconst 3, 1), (1533, .iadd, 1), (1534, .iaload, 1), (1535, .invokevirtual 166, 3), (1538, .if_icmp .eq 659, 3), (1541, .iconst 0, 1), (1542, .ireturn, 1), (1543, .aload_n 1, 1), (1544, .aload_n 0, 1), (1545, .iload_n 3, 1), (1546, .iconst 1, 1), (1547, .iadd, 1), (1548, .iaload, 1), (1549, .aload_n 0, 1), (1550, .iload_n 3, 1), (1551, .iconst 2, 1), (1552, .iadd, 1), (1553, .iaload, 1), (1554, .invokevirtual 167, 3), (1557, .aload_n 2, 1), (1558, .aload_n 0, 1), (1559, .iload_n 3, 1), (1560, .iconst 1, 1), (1561, .iadd, 1), (1562, .iaload, 1), (1563, .aload_n 0, 1), (1564, .iload_n 3, 1), (1565, .iconst 2, 1)]
def zi_318_22 : zIns := [(1566, .iadd, 1), (1567, .iaload, 1), (1568, .invokevirtual 170, 3), (1571, .if_icmp .eq 626, 3), (1574, .iconst 0, 1), (1575, .ireturn, 1), (1576, .aload_n 1, 1), (1577, .aload_n 0, 1), (1578, .iload_n 3, 1), (1579, .iconst 1, 1), (1580, .iadd, 1), (1581, .iaload, 1), (1582, .aload_n 0, 1), (1583, .iload_n 3, 1), (1584, .iconst 2, 1), (1585, .iadd, 1), (1586, .iaload, 1), (1587, .aload_n 0, 1), (1588, .iload_n 3, 1), (1589, .iconst 3, 1), (1590, .iadd, 1), (1591, .iaload, 1), (1592, .aload_n 0, 1), (1593, .iload_n 3, 1), (1594, .iconst 4, 1), (1595, .iadd, 1), (1596, .iaload, 1), (1597, .invokevirtual 171, 3), (1600, .aload_n 2, 1), (1601, .aload_n 0, 1), (1602, .iload_n 3, 1), (1603, .iconst 1, 1), (1604, .iadd, 1), (1605, .iaload, 1), (1606, .aload_n 0, 1), (1607, .iload_n 3, 1), (1608, .iconst 2, 1), (1609, .iadd, 1), (1610, .iaload, 1), (1611, .aload_n 0, 1), (1612, .iload_n 3, 1), (1613, .iconst 3, 1), (1614, .iadd, 1), (1615, .iaload, 1), (1616, .aload_n 0, 1), (1617, .iload_n 3, 1), (1618, .iconst 4, 1), (1619, .iadd, 1), (1620, .iaload, 1), (1621, .invokevirtual 174, 3)]
def zi_318_23 : zIns := [(1624, .if_icmp .eq 573, 3), (1627, .iconst 0, 1), (1628, .ireturn, 1), (1629, .aload_n 1, 1), (1630, .aload_n 0, 1), (1631, .iload_n 3, 1), (1632, .iconst 1, 1), (1633, .iadd, 1), (1634, .iaload, 1), (1635, .aload_n 0, 1), (1636, .iload_n 3, 1), (1637, .iconst 2, 1), (1638, .iadd, 1), (1639, .iaload, 1), (1640, .aload_n 0, 1), (1641, .iload_n 3, 1), (1642, .iconst 3, 1), (1643, .iadd, 1), (1644, .iaload, 1), (1645, .aload_n 0, 1), (1646, .iload_n 3, 1), (1647, .iconst 4, 1), (1648, .iadd, 1), (1649, .iaload, 1), (1650, .invokevirtual 175, 3), (1653, .aload_n 2, 1), (1654, .aload_n 0, 1), (1655, .iload_n 3, 1), (1656, .iconst 1, 1), (1657, .iadd, 1), (1658, .iaload, 1), (1659, .aload_n 0, 1), (1660, .iload_n 3, 1), (1661, .iconst 2, 1), (1662, .iadd, 1), (1663, .iaload, 1), (1664, .aload_n 0, 1), (1665, .iload_n 3, 1), (1666, .iconst 3, 1), (1667, .iadd, 1), (1668, .iaload, 1), (1669, .aload_n 0, 1), (1670, .iload_n 3, 1), (1671, .iconst 4, 1), (1672, .iadd, 1), (1673, .iaload, 1), (1674, .invokevirtual 178, 3), (1677, .if_icmp .eq 520, 3), (1680, .iconst 0, 1), (1681, .ireturn, 1)]
def zi_318_24 : zIns := [(1682, .aload_n 1, 1), (1683, .aload_n 0, 1), (1684, .iload_n 3, 1), (1685, .iconst 1, 1), (1686, .iadd, 1), (1687, .iaload, 1), (1688, .aload_n 0, 1), (1689, .iload_n 3, 1), (1690, .iconst 2, 1), (1691, .iadd, 1), (1692, .iaload, 1), (1693, .aload_n 0, 1), (1694, .iload_n 3, 1), (1695, .iconst 3, 1), (1696, .iadd, 1), (1697, .iaload, 1), (1698, .invokevirtual 179, 3), (1701, .aload_n 2, 1), (1702, .aload_n 0, 1), (1703, .iload_n 3, 1), (1704, .iconst 1, 1), (1705, .iadd, 1), (1706, .iaload, 1), (1707, .aload_n 0, 1), (1708, .iload_n 3, 1), (1709, .iconst 2, 1), (1710, .iadd, 1), (1711, .iaload, 1), (1712, .aload_n 0, 1), (1713, .iload_n 3, 1), (1714, .iconst 3, 1), (1715, .iadd, 1), (1716, .iaload, 1), (1717, .invokevirtual 182, 3), (1720, .if_icmp .eq 477, 3), (1723, .iconst 0, 1), (1724, .ireturn, 1), (1725, .aload_n 1, 1), (1726, .aload_n 0, 1), (1727, .iload_n 3, 1), (1728, .iconst 1, 1), (1729, .iadd, 1), (1730, .iaload, 1), (1731, .aload_n 0, 1), (1732, .iload_n 3, 1), (1733, .iconst 2, 1), (1734, .iadd, 1), (1735, .iaload, 1), (1736, .aload_n 0, 1), (1737, .iload_n 3, 1)]
def zi_318_25 : zIns := [(1738, .iconst 3, 1), (1739, .iadd, 1), (1740, .iaload, 1), (1741, .aload_n 0, 1), (1742, .iload_n 3, 1), (1743, .iconst 4, 1), (1744, .iadd, 1), (1745, .iaload, 1), (1746, .invokevirtual 183, 3), (1749, .aload_n 2, 1), (1750, .aload_n 0, 1), (1751, .iload_n 3, 1), (1752, .iconst 1, 1), (1753, .iadd, 1), (1754, .iaload, 1), (1755, .aload_n 0, 1), (1756, .iload_n 3, 1), (1757, .iconst 2, 1), (1758, .iadd, 1), (1759, .iaload, 1), (1760, .aload_n 0, 1), (1761, .iload_n 3, 1), (1762, .iconst 3, 1), (1763, .iadd, 1), (1764, .iaload, 1), (1765, .aload_n 0, 1), (1766, .iload_n 3, 1), (1767, .iconst 4, 1), (1768, .iadd, 1), (1769, .iaload, 1), (1770, .invokevirtual 186, 3), (1773, .if_icmp .eq 424, 3), (1776, .iconst 0, 1), (1777, .ireturn, 1), (1778, .aload_n 1, 1), (1779, .aload_n 0, 1), (1780, .iload_n 3, 1), (1781, .iconst 1, 1), (1782, .iadd, 1), (1783, .iaload, 1), (1784, .aload_n 0, 1), (1785, .iload_n 3, 1), (1786, .iconst 2, 1), (1787, .iadd, 1), (1788, .iaload, 1), (1789, .aload_n 0, 1), (1790, .iload_n 3, 1), (1791, .iconst 3, 1), (1792, .iadd, 1), (1793, .iaload, 1)]
def zi_318_26 : zIns := [(1794, .invokevirtual 187, 3), (1797, .aload_n 2, 1), (1798, .aload_n 0, 1), (1799, .iload_n 3, 1), (1800, .iconst 1, 1), (1801, .iadd, 1), (1802, .iaload, 1), (1803, .aload_n 0, 1), (1804, .iload_n 3, 1), (1805, .iconst 2, 1), (1806, .iadd, 1), (1807, .iaload, 1), (1808, .aload_n 0, 1), (1809, .iload_n 3, 1), (1810, .iconst 3, 1), (1811, .iadd, 1), (1812, .iaload, 1), (1813, .invokevirtual 190, 3), (1816, .if_icmp .eq 381, 3), (1819, .iconst 0, 1), (1820, .ireturn, 1), (1821, .aload_n 1, 1), (1822, .aload_n 0, 1), (1823, .iload_n 3, 1), (1824, .iconst 1, 1), (1825, .iadd, 1), (1826, .iaload, 1), (1827, .aload_n 0, 1), (1828, .iload_n 3, 1), (1829, .iconst 2, 1), (1830, .iadd, 1), (1831, .iaload, 1), (1832, .invokevirtual 191, 3), (1835, .aload_n 2, 1), (1836, .aload_n 0, 1), (1837, .iload_n 3, 1), (1838, .iconst 1, 1), (1839, .iadd, 1), (1840, .iaload, 1), (1841, .aload_n 0, 1), (1842, .iload_n 3, 1), (1843, .iconst 2, 1), (1844, .iadd, 1), (1845, .iaload, 1), (1846, .invokevirtual 194, 3), (1849, .if_icmp .eq 348, 3), (1852, .iconst 0, 1), (1853, .ireturn, 1), (1854, .aload_n 1, 1), (1855, .aload_n 0, 1)]
def zi_318_27 : zIns := [(1856, .iload_n 3, 1), (1857, .iconst 1, 1), (1858, .iadd, 1), (1859, .iaload, 1), (1860, .aload_n 0, 1), (1861, .iload_n 3, 1), (1862, .iconst 2, 1), (1863, .iadd, 1), (1864, .iaload, 1), (1865, .invokevirtual 195, 3), (1868, .aload_n 2, 1), (1869, .aload_n 0, 1), (1870, .iload_n 3, 1), (1871, .iconst 1, 1), (1872, .iadd, 1), (1873, .iaload, 1), (1874, .aload_n 0, 1), (1875, .iload_n 3, 1), (1876, .iconst 2, 1), (1877, .iadd, 1), (1878, .iaload, 1), (1879, .invokevirtual 198, 3), (1882, .if_icmp .eq 315, 3), (1885, .iconst 0, 1), (1886, .ireturn, 1), (1887, .aload_n 1, 1), (1888, .aload_n 0, 1), (1889, .iload_n 3, 1), (1890, .iconst 1, 1), (1891, .iadd, 1), (1892, .iaload, 1), (1893, .invokevirtual 199, 3), (1896, .aload_n 2, 1), (1897, .aload_n 0, 1), (1898, .iload_n 3, 1), (1899, .iconst 1, 1), (1900, .iadd, 1), (1901, .iaload, 1), (1902, .invokevirtual 202, 3), (1905, .if_icmp .eq 292, 3), (1908, .iconst 0, 1), (1909, .ireturn, 1), (1910, .aload_n 1, 1), (1911, .aload_n 0, 1), (1912, .iload_n 3, 1), (1913, .iconst 1, 1), (1914, .iadd, 1), (1915, .iaload, 1), (1916, .aload_n 0, 1), (1917, .iload_n 3, 1)]
def zi_318_28 : zIns := [(1918, .iconst 2, 1), (1919, .iadd, 1), (1920, .iaload, 1), (1921, .aload_n 0, 1), (1922, .iload_n 3, 1), (1923, .iconst 3, 1), (1924, .iadd, 1), (1925, .iaload, 1), (1926, .aload_n 0, 1), (1927, .iload_n 3, 1), (1928, .iconst 4, 1), (1929, .iadd, 1), (1930, .iaload, 1), (1931, .invokevirtual 203, 3), (1934, .aload_n 2, 1), (1935, .aload_n 0, 1), (1936, .iload_n 3, 1), (1937, .iconst 1, 1), (1938, .iadd, 1), (1939, .iaload, 1), (1940, .aload_n 0, 1), (1941, .iload_n 3, 1), (1942, .iconst 2, 1), (1943, .iadd, 1), (1944, .iaload, 1), (1945, .aload_n 0, 1), (1946, .iload_n 3, 1), (1947, .iconst 3, 1), (1948, .iadd, 1), (1949, .iaload, 1), (1950, .aload_n 0, 1), (1951, .iload_n 3, 1), (1952, .iconst 4, 1), (1953, .iadd, 1), (1954, .iaload, 1), (1955, .invokevirtual 206, 3), (1958, .if_icmp .eq 239, 3), (1961, .iconst 0, 1), (1962, .ireturn, 1), (1963, .aload_n 1, 1), (1964, .aload_n 0, 1), (1965, .iload_n 3, 1), (1966, .iconst 1, 1), (1967, .iadd, 1), (1968, .iaload, 1), (1969, .aload_n 0, 1), (1970, .iload_n 3, 1), (1971, .iconst 2, 1), (1972, .iadd, 1), (1973, .iaload, 1)]
def zi_318_29 : zIns := [(1974, .aload_n 0, 1), (1975, .iload_n 3, 1), (1976, .iconst 3, 1), (1977, .iadd, 1), (1978, .iaload, 1), (1979, .aload_n 0, 1), (1980, .iload_n 3, 1), (1981, .iconst 4, 1), (1982, .iadd, 1), (1983, .iaload, 1), (1984, .invokevirtual 207, 3), (1987, .aload_n 2, 1), (1988, .aload_n 0, 1), (1989, .iload_n 3, 1), (1990, .iconst 1, 1), (1991, .iadd, 1), (1992, .iaload, 1), (1993, .aload_n 0, 1), (1994, .iload_n 3, 1), (1995, .iconst 2, 1), (1996, .iadd, 1), (1997, .iaload, 1), (1998, .aload_n 0, 1), (1999, .iload_n 3, 1), (2000, .iconst 3, 1), (2001, .iadd, 1), (2002, .iaload, 1), (2003, .aload_n 0, 1), (2004, .iload_n 3, 1), (2005, .iconst 4, 1), (2006, .iadd, 1), (2007, .iaload, 1), (2008, .invokevirtual 210, 3), (2011, .if_icmp .eq 186, 3), (2014, .iconst 0, 1), (2015, .ireturn, 1), (2016, .aload_n 1, 1), (2017, .aload_n 0, 1), (2018, .iload_n 3, 1), (2019, .iconst 1, 1), (2020, .iadd, 1), (2021, .iaload, 1), (2022, .aload_n 0, 1), (2023, .iload_n 3, 1), (2024, .iconst 2, 1), (2025, .iadd, 1), (2026, .iaload, 1), (2027, .invokevirtual 211, 3), (2030, .aload_n 2, 1), (2031, .aload_n 0, 1)]
def zi_318_30 : zIns := [(2032, .iload_n 3, 1), (2033, .iconst 1, 1), (2034, .iadd, 1), (2035, .iaload, 1), (2036, .aload_n 0, 1), (2037, .iload_n 3, 1), (2038, .iconst 2, 1), (2039, .iadd, 1), (2040, .iaload, 1), (2041, .invokevirtual 214, 3), (2044, .if_icmp .eq 153, 3), (2047, .iconst 0, 1), (2048, .ireturn, 1), (2049, .aload_n 1, 1), (2050, .aload_n 0, 1), (2051, .iload_n 3, 1), (2052, .iconst 1, 1), (2053, .iadd, 1), (2054, .iaload, 1), (2055, .aload_n 0, 1), (2056, .iload_n 3, 1), (2057, .iconst 2, 1), (2058, .iadd, 1), (2059, .iaload, 1), (2060, .aload_n 0, 1), (2061, .iload_n 3, 1), (2062, .iconst 3, 1), (2063, .iadd, 1), (2064, .iaload, 1), (2065, .aload_n 0, 1), (2066, .iload_n 3, 1), (2067, .iconst 4, 1), (2068, .iadd, 1), (2069, .iaload, 1), (2070, .invokevirtual 215, 3), (2073, .aload_n 2, 1), (2074, .aload_n 0, 1), (2075, .iload_n 3, 1), (2076, .iconst 1, 1), (2077, .iadd, 1), (2078, .iaload, 1), (2079, .aload_n 0, 1), (2080, .iload_n 3, 1), (2081, .iconst 2, 1), (2082, .iadd, 1), (2083, .iaload, 1), (2084, .aload_n 0, 1), (2085, .iload_n 3, 1), (2086, .iconst 3, 1), (2087, .iadd, 1)]
def zi_318_31 : zIns := [(2088, .iaload, 1), (2089, .aload_n 0, 1), (2090, .iload_n 3, 1), (2091, .iconst 4, 1), (2092, .iadd, 1), (2093, .iaload, 1), (2094, .invokevirtual 218, 3), (2097, .if_icmp .eq 100, 3), (2100, .iconst 0, 1), (2101, .ireturn, 1), (2102, .aload_n 1, 1), (2103, .aload_n 0, 1), (2104, .iload_n 3, 1), (2105, .iconst 1, 1), (2106, .iadd, 1), (2107, .iaload, 1), (2108, .invokevirtual 219, 3), (2111, .aload_n 2, 1), (2112, .aload_n 0, 1), (2113, .iload_n 3, 1), (2114, .iconst 1, 1), (2115, .iadd, 1), (2116, .iaload, 1), (2117, .invokevirtual 222, 3), (2120, .if_icmp .eq 77, 3), (2123, .iconst 0, 1), (2124, .ireturn, 1), (2125, .aload_n 1, 1), (2126, .aload_n 0, 1), (2127, .iload_n 3, 1), (2128, .iconst 1, 1), (2129, .iadd, 1), (2130, .iaload, 1), (2131, .invokevirtual 223, 3), (2134, .aload_n 2, 1), (2135, .aload_n 0, 1), (2136, .iload_n 3, 1), (2137, .iconst 1, 1), (2138, .iadd, 1), (2139, .iaload, 1), (2140, .invokevirtual 226, 3), (2143, .if_icmp .eq 54, 3), (2146, .iconst 0, 1), (2147, .ireturn, 1), (2148, .aload_n 1, 1), (2149, .invokevirtual 227, 3), (2152, .aload_n 2, 1), (2153, .invokevirtual 230, 3), (2156, .if_icmp .eq 41, 3), (2159, .iconst 0, 1)]
def zi_318_32 : zIns := [(2160, .ireturn, 1), (2161, .aload_n 1, 1), (2162, .invokevirtual 231, 3), (2165, .aload_n 2, 1), (2166, .invokevirtual 234, 3), (2169, .if_icmp .eq 28, 3), (2172, .iconst 0, 1), (2173, .ireturn, 1), (2174, .aload_n 1, 1), (2175, .aload_n 0, 1), (2176, .iload_n 3, 1), (2177, .iconst 1, 1), (2178, .iadd, 1), (2179, .iaload, 1), (2180, .invokevirtual 235, 3), (2183, .aload_n 2, 1), (2184, .aload_n 0, 1), (2185, .iload_n 3, 1), (2186, .iconst 1, 1), (2187, .iadd, 1), (2188, .iaload, 1), (2189, .invokevirtual 238, 3), (2192, .if_icmp .eq 5, 3), (2195, .iconst 0, 1), (2196, .ireturn, 1), (2197, .iinc 3 6, 3), (2200, .goto (-2182), 3), (2203, .iconst 1, 1), (2204, .ireturn, 1)]
def zi_318 : zIns := zi_318_0 ++ (zi_318_1 ++ (zi_318_2 ++ (zi_318_3 ++ (zi_318_4 ++ (zi_318_5 ++ (zi_318_6 ++ (zi_318_7 ++ (zi_318_8 ++ (zi_318_9 ++ (zi_318_10 ++ (zi_318_11 ++ (zi_318_12 ++ (zi_318_13 ++ (zi_318_14 ++ (zi_318_15 ++ (zi_318_16 ++ (zi_318_17 ++ (zi_318_18 ++ (zi_318_19 ++ (zi_318_20 ++ (zi_318_21 ++ (zi_318_22 ++ (zi_318_23 ++ (zi_318_24 ++ (zi_318_25 ++ (zi_318_26 ++ (zi_318_27 ++ (zi_318_28 ++ (zi_318_29 ++ (zi_318_30 ++ (zi_318_31 ++ (zi_318_32))))))))))))))))))))))))))))))))
def zI_0 : List zIns := [zi_0, zi_1, zi_2, zi_3, zi_4, zi_5, zi_6, zi_7, zi_8, zi_9, zi_10, zi_11, zi_12, zi_13, zi_14, zi_15, zi_16, zi_17, zi_18, zi_19, zi_20, zi_21, zi_22, zi_23, zi_24, zi_25, zi_26, zi_27, zi_28, zi_29, zi_30, zi_31, zi_32, zi_33, zi_34, zi_35, zi_36, zi_37, zi_38, zi_39]
def zI_1 : List zIns := [zi_40, zi_41, zi_42, zi_43, zi_44, zi_45, zi_46, zi_47, zi_48, zi_49, zi_50, zi_51, zi_52, zi_53, zi_54, zi_55, zi_56, zi_57, zi_58, zi_59, zi_60, zi_61, zi_62, zi_63, zi_64, zi_65, zi_66, zi_67, zi_68, zi_69, zi_70, zi_71, zi_72, zi_73, zi_74, zi_75, zi_76, zi_77, zi_78, zi_79]
def zI_2 : List zIns := [zi_80, zi_81, zi_82, zi_83, zi_84, zi_85, zi_86, zi_87, zi_88, zi_89, zi_90, zi_91, zi_92, zi_93, zi_94, zi_95, zi_96, zi_97, zi_98, zi_99, zi_100, zi_101, zi_102, zi_103, zi_104, zi_105, zi_106, zi_107, zi_108, zi_109, zi_110, zi_111, zi_112, zi_113, zi_114, zi_115, zi_116, zi_117, zi_118, zi_119]
def zI_3 : List zIns := [zi_120, zi_121, zi_122, zi_123, zi_124, zi_125, zi_126, zi_127, zi_128, zi_129, zi_130, zi_131, zi_132, zi_133, zi_134, zi_135, zi_136, zi_137, zi_138, zi_139, zi_140, zi_141, zi_142, zi_143, zi_144, zi_145, zi_146, zi_147, zi_148, zi_149, zi_150, zi_151, zi_152, zi_153, zi_154, zi_155, zi_156, zi_157, zi_158, zi_159]
def zI_4 : List zIns := [zi_160, zi_161, zi_162, zi_163, zi_164, zi_165, zi_166, zi_167, zi_168, zi_169, zi_170, zi_171, zi_172, zi_173, zi_174, zi_175, zi_176, zi_177, zi_178, zi_179, zi_180, zi_181, zi_182, zi_183, zi_184, zi_185, zi_186, zi_187, zi_188, zi_189, zi_190, zi_191, zi_192, zi_193, zi_194, zi_195, zi_196, zi_197, zi_198, zi_199]
def zI_5 : List zIns := [zi_200, zi_201, zi_202, zi_203, zi_204, zi_205, zi_206, zi_207, zi_208, zi_209, zi_210, zi_211, zi_212, zi_213, zi_214, zi_215, zi_216, zi_217, zi_218, zi_219, zi_220, zi_221, zi_222, zi_223, zi_224, zi_225, zi_226, zi_227, zi_228, zi_229, zi_230, zi_231, zi_232, zi_233, zi_234, zi_235, zi_236, zi_237, zi_238, zi_239]
def zI_6 : List zIns := [zi_240, zi_241, zi_242, zi_243, zi_244, zi_245, zi_246, zi_247, zi_248, zi_249, zi_250, zi_251, zi_252, zi_253, zi_254, zi_255, zi_256, zi_257, zi_258, zi_259, zi_260, zi_261, zi_262, zi_263, zi_264, zi_265, zi_266, zi_267, zi_268, zi_269, zi_270, zi_271, zi_272, zi_273, zi_274, zi_275, zi_276, zi_277, zi_278, zi_279]
def zI_7 : List zIns := [zi_280, zi_281, zi_282, zi_283, zi_284, zi_285, zi_286, zi_287, zi_288, zi_289, zi_290, zi_291, zi_292, zi_293, zi_294, zi_295, zi_296, zi_297, zi_298, zi_299, zi_300, zi_301, zi_302, zi_303, zi_304, zi_305, zi_306, zi_307, zi_308, zi_309, zi_310, zi_311, zi_312, zi_313, zi_314, zi_315, zi_316, zi_317, zi_318]
def zinsT (k : Nat) : zIns := match k / 40 with
  | 0 => (zI_0[k % 40]?).getD []
  | 1 => (zI_1[k % 40]?).getD []
  | 2 => (zI_2[k % 40]?).getD []
  | 3 => (zI_3[k % 40]?).getD []
  | 4 => (zI_4[k % 40]?).getD []
  | 5 => (zI_5[k % 40]?).getD []
  | 6 => (zI_6[k % 40]?).getD []
  | 7 => (zI_7[k % 40]?).getD []
  | _ => []
def zins (k pc : Nat) : Option (Instr × Nat) := zlk (zinsT k) pc
def zdok (b : ByteArray) (I : zIns) : Prop := ∀ q ∈ I, decode b q.1 = .ok q.2
theorem zdok_of {b : ByteArray} {I : zIns} (h : I.all (fun q => decide (decode b q.1 = .ok q.2)) = true) : zdok b I := fun q hq => of_decide_eq_true (List.all_eq_true.mp h q hq)
theorem zdok_app {b : ByteArray} {I J : zIns} (h : zdok b I) (k : zdok b J) : zdok b (I ++ J) := fun q hq => (List.mem_append.mp hq).elim (h q) (k q)
theorem zdok_0 : zdok prog_2_method_1_code zi_0 := zdok_of (by decide +kernel)
theorem zdok_1 : zdok prog_2_method_2_code zi_1 := zdok_of (by decide +kernel)
theorem zdok_2 : zdok prog_2_method_3_code zi_2 := zdok_of (by decide +kernel)
theorem zdok_3 : zdok prog_2_method_4_code zi_3 := zdok_of (by decide +kernel)
theorem zdok_4 : zdok prog_2_method_5_code zi_4 := zdok_of (by decide +kernel)
theorem zdok_5 : zdok prog_2_method_6_code zi_5 := zdok_of (by decide +kernel)
theorem zdok_6_0 : zdok prog_2_method_7_code zi_6_0 := zdok_of (by decide +kernel)
theorem zdok_6_1 : zdok prog_2_method_7_code zi_6_1 := zdok_of (by decide +kernel)
theorem zdok_6 : zdok prog_2_method_7_code zi_6 := zdok_app zdok_6_0 (zdok_6_1)
theorem zdok_7 : zdok prog_2_method_8_code zi_7 := zdok_of (by decide +kernel)
theorem zdok_8_0 : zdok prog_2_method_9_code zi_8_0 := zdok_of (by decide +kernel)
theorem zdok_8_1 : zdok prog_2_method_9_code zi_8_1 := zdok_of (by decide +kernel)
theorem zdok_8 : zdok prog_2_method_9_code zi_8 := zdok_app zdok_8_0 (zdok_8_1)
theorem zdok_9_0 : zdok prog_2_method_10_code zi_9_0 := zdok_of (by decide +kernel)
theorem zdok_9_1 : zdok prog_2_method_10_code zi_9_1 := zdok_of (by decide +kernel)
theorem zdok_9 : zdok prog_2_method_10_code zi_9 := zdok_app zdok_9_0 (zdok_9_1)
theorem zdok_10 : zdok prog_2_method_11_code zi_10 := zdok_of (by decide +kernel)
theorem zdok_11 : zdok prog_2_method_12_code zi_11 := zdok_of (by decide +kernel)
theorem zdok_12 : zdok prog_2_method_13_code zi_12 := zdok_of (by decide +kernel)
theorem zdok_13 : zdok prog_2_method_14_code zi_13 := zdok_of (by decide +kernel)
theorem zdok_14 : zdok prog_2_method_15_code zi_14 := zdok_of (by decide +kernel)
theorem zdok_15 : zdok prog_2_method_16_code zi_15 := zdok_of (by decide +kernel)
theorem zdok_16_0 : zdok prog_2_method_17_code zi_16_0 := zdok_of (by decide +kernel)
theorem zdok_16_1 : zdok prog_2_method_17_code zi_16_1 := zdok_of (by decide +kernel)
theorem zdok_16 : zdok prog_2_method_17_code zi_16 := zdok_app zdok_16_0 (zdok_16_1)
theorem zdok_17 : zdok prog_2_method_18_code zi_17 := zdok_of (by decide +kernel)
theorem zdok_18 : zdok prog_2_method_19_code zi_18 := zdok_of (by decide +kernel)
theorem zdok_19 : zdok prog_2_method_20_code zi_19 := zdok_of (by decide +kernel)
theorem zdok_20 : zdok prog_2_method_21_code zi_20 := zdok_of (by decide +kernel)
theorem zdok_21 : zdok prog_3_method_1_code zi_21 := zdok_of (by decide +kernel)
theorem zdok_22 : zdok prog_3_method_2_code zi_22 := zdok_of (by decide +kernel)
theorem zdok_23 : zdok prog_3_method_3_code zi_23 := zdok_of (by decide +kernel)
theorem zdok_24 : zdok prog_3_method_4_code zi_24 := zdok_of (by decide +kernel)
theorem zdok_25 : zdok prog_3_method_5_code zi_25 := zdok_of (by decide +kernel)
theorem zdok_26 : zdok prog_3_method_6_code zi_26 := zdok_of (by decide +kernel)
theorem zdok_27 : zdok prog_3_method_7_code zi_27 := zdok_of (by decide +kernel)
theorem zdok_28 : zdok prog_3_method_8_code zi_28 := zdok_of (by decide +kernel)
theorem zdok_29 : zdok prog_3_method_9_code zi_29 := zdok_of (by decide +kernel)
theorem zdok_30_0 : zdok prog_3_method_10_code zi_30_0 := zdok_of (by decide +kernel)
theorem zdok_30_1 : zdok prog_3_method_10_code zi_30_1 := zdok_of (by decide +kernel)
theorem zdok_30 : zdok prog_3_method_10_code zi_30 := zdok_app zdok_30_0 (zdok_30_1)
theorem zdok_31 : zdok prog_4_method_1_code zi_31 := zdok_of (by decide +kernel)
theorem zdok_32 : zdok prog_4_method_2_code zi_32 := zdok_of (by decide +kernel)
theorem zdok_33 : zdok prog_4_method_3_code zi_33 := zdok_of (by decide +kernel)
theorem zdok_34 : zdok prog_4_method_4_code zi_34 := zdok_of (by decide +kernel)
theorem zdok_35 : zdok prog_4_method_5_code zi_35 := zdok_of (by decide +kernel)
theorem zdok_36 : zdok prog_4_method_6_code zi_36 := zdok_of (by decide +kernel)
theorem zdok_37 : zdok prog_4_method_7_code zi_37 := zdok_of (by decide +kernel)
theorem zdok_38 : zdok prog_4_method_8_code zi_38 := zdok_of (by decide +kernel)
theorem zdok_39 : zdok prog_4_method_9_code zi_39 := zdok_of (by decide +kernel)
theorem zdok_40 : zdok prog_4_method_10_code zi_40 := zdok_of (by decide +kernel)
theorem zdok_41 : zdok prog_4_method_11_code zi_41 := zdok_of (by decide +kernel)
theorem zdok_42 : zdok prog_4_method_12_code zi_42 := zdok_of (by decide +kernel)
theorem zdok_43 : zdok prog_4_method_13_code zi_43 := zdok_of (by decide +kernel)
theorem zdok_44 : zdok prog_4_method_14_code zi_44 := zdok_of (by decide +kernel)
theorem zdok_45 : zdok prog_5_method_1_code zi_45 := zdok_of (by decide +kernel)
theorem zdok_46 : zdok prog_5_method_2_code zi_46 := zdok_of (by decide +kernel)
theorem zdok_47 : zdok prog_5_method_3_code zi_47 := zdok_of (by decide +kernel)
theorem zdok_48 : zdok prog_5_method_4_code zi_48 := zdok_of (by decide +kernel)
theorem zdok_49 : zdok prog_5_method_5_code zi_49 := zdok_of (by decide +kernel)
theorem zdok_50 : zdok prog_5_method_6_code zi_50 := zdok_of (by decide +kernel)
theorem zdok_51 : zdok prog_6_method_1_code zi_51 := zdok_of (by decide +kernel)
theorem zdok_52 : zdok prog_6_method_2_code zi_52 := zdok_of (by decide +kernel)
theorem zdok_53 : zdok prog_6_method_3_code zi_53 := zdok_of (by decide +kernel)
theorem zdok_54 : zdok prog_6_method_4_code zi_54 := zdok_of (by decide +kernel)
theorem zdok_55 : zdok prog_6_method_5_code zi_55 := zdok_of (by decide +kernel)
theorem zdok_56_0 : zdok prog_6_method_6_code zi_56_0 := zdok_of (by decide +kernel)
theorem zdok_56_1 : zdok prog_6_method_6_code zi_56_1 := zdok_of (by decide +kernel)
theorem zdok_56 : zdok prog_6_method_6_code zi_56 := zdok_app zdok_56_0 (zdok_56_1)
theorem zdok_57 : zdok prog_6_method_7_code zi_57 := zdok_of (by decide +kernel)
theorem zdok_58 : zdok prog_6_method_8_code zi_58 := zdok_of (by decide +kernel)
theorem zdok_59 : zdok prog_6_method_9_code zi_59 := zdok_of (by decide +kernel)
theorem zdok_60_0 : zdok prog_6_method_10_code zi_60_0 := zdok_of (by decide +kernel)
theorem zdok_60_1 : zdok prog_6_method_10_code zi_60_1 := zdok_of (by decide +kernel)
theorem zdok_60 : zdok prog_6_method_10_code zi_60 := zdok_app zdok_60_0 (zdok_60_1)
theorem zdok_61 : zdok prog_6_method_11_code zi_61 := zdok_of (by decide +kernel)
theorem zdok_62 : zdok prog_6_method_12_code zi_62 := zdok_of (by decide +kernel)
theorem zdok_63 : zdok prog_6_method_13_code zi_63 := zdok_of (by decide +kernel)
theorem zdok_64 : zdok prog_6_method_14_code zi_64 := zdok_of (by decide +kernel)
theorem zdok_65 : zdok prog_6_method_15_code zi_65 := zdok_of (by decide +kernel)
theorem zdok_66 : zdok prog_6_method_16_code zi_66 := zdok_of (by decide +kernel)
theorem zdok_67 : zdok prog_6_method_17_code zi_67 := zdok_of (by decide +kernel)
theorem zdok_68 : zdok prog_6_method_18_code zi_68 := zdok_of (by decide +kernel)
theorem zdok_69_0 : zdok prog_6_method_19_code zi_69_0 := zdok_of (by decide +kernel)
theorem zdok_69_1 : zdok prog_6_method_19_code zi_69_1 := zdok_of (by decide +kernel)
theorem zdok_69 : zdok prog_6_method_19_code zi_69 := zdok_app zdok_69_0 (zdok_69_1)
theorem zdok_70 : zdok prog_6_method_20_code zi_70 := zdok_of (by decide +kernel)
theorem zdok_71_0 : zdok prog_6_method_21_code zi_71_0 := zdok_of (by decide +kernel)
theorem zdok_71_1 : zdok prog_6_method_21_code zi_71_1 := zdok_of (by decide +kernel)
theorem zdok_71 : zdok prog_6_method_21_code zi_71 := zdok_app zdok_71_0 (zdok_71_1)
theorem zdok_72 : zdok prog_7_method_1_code zi_72 := zdok_of (by decide +kernel)
theorem zdok_73 : zdok prog_7_method_2_code zi_73 := zdok_of (by decide +kernel)
theorem zdok_74 : zdok prog_7_method_3_code zi_74 := zdok_of (by decide +kernel)
theorem zdok_75 : zdok prog_7_method_4_code zi_75 := zdok_of (by decide +kernel)
theorem zdok_76 : zdok prog_7_method_5_code zi_76 := zdok_of (by decide +kernel)
theorem zdok_77 : zdok prog_7_method_6_code zi_77 := zdok_of (by decide +kernel)
theorem zdok_78 : zdok prog_7_method_7_code zi_78 := zdok_of (by decide +kernel)
theorem zdok_79 : zdok prog_7_method_8_code zi_79 := zdok_of (by decide +kernel)
theorem zdok_80 : zdok prog_7_method_9_code zi_80 := zdok_of (by decide +kernel)
theorem zdok_81 : zdok prog_7_method_10_code zi_81 := zdok_of (by decide +kernel)
theorem zdok_82 : zdok prog_7_method_11_code zi_82 := zdok_of (by decide +kernel)
theorem zdok_83 : zdok prog_7_method_12_code zi_83 := zdok_of (by decide +kernel)
theorem zdok_84 : zdok prog_7_method_13_code zi_84 := zdok_of (by decide +kernel)
theorem zdok_85 : zdok prog_7_method_14_code zi_85 := zdok_of (by decide +kernel)
theorem zdok_86 : zdok prog_7_method_15_code zi_86 := zdok_of (by decide +kernel)
theorem zdok_87 : zdok prog_7_method_16_code zi_87 := zdok_of (by decide +kernel)
theorem zdok_88 : zdok prog_7_method_17_code zi_88 := zdok_of (by decide +kernel)
theorem zdok_89 : zdok prog_7_method_18_code zi_89 := zdok_of (by decide +kernel)
theorem zdok_90 : zdok prog_8_method_1_code zi_90 := zdok_of (by decide +kernel)
theorem zdok_91_0 : zdok prog_8_method_2_code zi_91_0 := zdok_of (by decide +kernel)
theorem zdok_91_1 : zdok prog_8_method_2_code zi_91_1 := zdok_of (by decide +kernel)
theorem zdok_91 : zdok prog_8_method_2_code zi_91 := zdok_app zdok_91_0 (zdok_91_1)
theorem zdok_92 : zdok prog_8_method_3_code zi_92 := zdok_of (by decide +kernel)
theorem zdok_93 : zdok prog_8_method_4_code zi_93 := zdok_of (by decide +kernel)
theorem zdok_94 : zdok prog_8_method_5_code zi_94 := zdok_of (by decide +kernel)
theorem zdok_95_0 : zdok prog_8_method_6_code zi_95_0 := zdok_of (by decide +kernel)
theorem zdok_95_1 : zdok prog_8_method_6_code zi_95_1 := zdok_of (by decide +kernel)
theorem zdok_95 : zdok prog_8_method_6_code zi_95 := zdok_app zdok_95_0 (zdok_95_1)
theorem zdok_96 : zdok prog_8_method_7_code zi_96 := zdok_of (by decide +kernel)
theorem zdok_97 : zdok prog_8_method_8_code zi_97 := zdok_of (by decide +kernel)
theorem zdok_98 : zdok prog_8_method_9_code zi_98 := zdok_of (by decide +kernel)
theorem zdok_99 : zdok prog_8_method_10_code zi_99 := zdok_of (by decide +kernel)
theorem zdok_100 : zdok prog_8_method_11_code zi_100 := zdok_of (by decide +kernel)
theorem zdok_101 : zdok prog_8_method_12_code zi_101 := zdok_of (by decide +kernel)
theorem zdok_102_0 : zdok prog_8_method_13_code zi_102_0 := zdok_of (by decide +kernel)
theorem zdok_102_1 : zdok prog_8_method_13_code zi_102_1 := zdok_of (by decide +kernel)
theorem zdok_102 : zdok prog_8_method_13_code zi_102 := zdok_app zdok_102_0 (zdok_102_1)
theorem zdok_103_0 : zdok prog_8_method_14_code zi_103_0 := zdok_of (by decide +kernel)
theorem zdok_103_1 : zdok prog_8_method_14_code zi_103_1 := zdok_of (by decide +kernel)
theorem zdok_103 : zdok prog_8_method_14_code zi_103 := zdok_app zdok_103_0 (zdok_103_1)
theorem zdok_104 : zdok prog_9_method_1_code zi_104 := zdok_of (by decide +kernel)
theorem zdok_105 : zdok prog_9_method_2_code zi_105 := zdok_of (by decide +kernel)
theorem zdok_106 : zdok prog_9_method_3_code zi_106 := zdok_of (by decide +kernel)
theorem zdok_107 : zdok prog_9_method_4_code zi_107 := zdok_of (by decide +kernel)
theorem zdok_108 : zdok prog_9_method_5_code zi_108 := zdok_of (by decide +kernel)
theorem zdok_109 : zdok prog_9_method_6_code zi_109 := zdok_of (by decide +kernel)
theorem zdok_110 : zdok prog_9_method_7_code zi_110 := zdok_of (by decide +kernel)
theorem zdok_111 : zdok prog_9_method_8_code zi_111 := zdok_of (by decide +kernel)
theorem zdok_112 : zdok prog_9_method_9_code zi_112 := zdok_of (by decide +kernel)
theorem zdok_113_0 : zdok prog_1_method_1_code zi_113_0 := zdok_of (by decide +kernel)
theorem zdok_113_1 : zdok prog_1_method_1_code zi_113_1 := zdok_of (by decide +kernel)
theorem zdok_113 : zdok prog_1_method_1_code zi_113 := zdok_app zdok_113_0 (zdok_113_1)
theorem zdok_114 : zdok prog_1_method_2_code zi_114 := zdok_of (by decide +kernel)
theorem zdok_115 : zdok prog_1_method_3_code zi_115 := zdok_of (by decide +kernel)
theorem zdok_116 : zdok prog_1_method_4_code zi_116 := zdok_of (by decide +kernel)
theorem zdok_117 : zdok prog_1_method_5_code zi_117 := zdok_of (by decide +kernel)
theorem zdok_118 : zdok prog_1_method_6_code zi_118 := zdok_of (by decide +kernel)
theorem zdok_119 : zdok prog_1_method_7_code zi_119 := zdok_of (by decide +kernel)
theorem zdok_120 : zdok prog_1_method_8_code zi_120 := zdok_of (by decide +kernel)
theorem zdok_121 : zdok prog_1_method_9_code zi_121 := zdok_of (by decide +kernel)
theorem zdok_122 : zdok prog_1_method_10_code zi_122 := zdok_of (by decide +kernel)
theorem zdok_123 : zdok prog_1_method_11_code zi_123 := zdok_of (by decide +kernel)
theorem zdok_124 : zdok prog_1_method_12_code zi_124 := zdok_of (by decide +kernel)
theorem zdok_125 : zdok prog_1_method_13_code zi_125 := zdok_of (by decide +kernel)
theorem zdok_126 : zdok prog_1_method_14_code zi_126 := zdok_of (by decide +kernel)
theorem zdok_127_0 : zdok prog_1_method_15_code zi_127_0 := zdok_of (by decide +kernel)
theorem zdok_127_1 : zdok prog_1_method_15_code zi_127_1 := zdok_of (by decide +kernel)
theorem zdok_127 : zdok prog_1_method_15_code zi_127 := zdok_app zdok_127_0 (zdok_127_1)
theorem zdok_128 : zdok prog_1_method_16_code zi_128 := zdok_of (by decide +kernel)
theorem zdok_129 : zdok prog_1_method_17_code zi_129 := zdok_of (by decide +kernel)
theorem zdok_130 : zdok prog_1_method_18_code zi_130 := zdok_of (by decide +kernel)
theorem zdok_131 : zdok prog_1_method_19_code zi_131 := zdok_of (by decide +kernel)
theorem zdok_132 : zdok prog_1_method_20_code zi_132 := zdok_of (by decide +kernel)
theorem zdok_133 : zdok prog_1_method_21_code zi_133 := zdok_of (by decide +kernel)
theorem zdok_134_0 : zdok prog_1_method_22_code zi_134_0 := zdok_of (by decide +kernel)
theorem zdok_134_1 : zdok prog_1_method_22_code zi_134_1 := zdok_of (by decide +kernel)
theorem zdok_134 : zdok prog_1_method_22_code zi_134 := zdok_app zdok_134_0 (zdok_134_1)
theorem zdok_135 : zdok prog_1_method_23_code zi_135 := zdok_of (by decide +kernel)
theorem zdok_136 : zdok prog_1_method_24_code zi_136 := zdok_of (by decide +kernel)
theorem zdok_137 : zdok prog_1_method_25_code zi_137 := zdok_of (by decide +kernel)
theorem zdok_138 : zdok prog_1_method_26_code zi_138 := zdok_of (by decide +kernel)
theorem zdok_139 : zdok prog_1_method_27_code zi_139 := zdok_of (by decide +kernel)
theorem zdok_140 : zdok prog_1_method_28_code zi_140 := zdok_of (by decide +kernel)
theorem zdok_141 : zdok prog_1_method_29_code zi_141 := zdok_of (by decide +kernel)
theorem zdok_142 : zdok prog_1_method_30_code zi_142 := zdok_of (by decide +kernel)
theorem zdok_143 : zdok prog_1_method_31_code zi_143 := zdok_of (by decide +kernel)
theorem zdok_144 : zdok prog_1_method_32_code zi_144 := zdok_of (by decide +kernel)
theorem zdok_145 : zdok prog_1_method_33_code zi_145 := zdok_of (by decide +kernel)
theorem zdok_146 : zdok prog_1_method_34_code zi_146 := zdok_of (by decide +kernel)
theorem zdok_147_0 : zdok prog_1_method_35_code zi_147_0 := zdok_of (by decide +kernel)
theorem zdok_147_1 : zdok prog_1_method_35_code zi_147_1 := zdok_of (by decide +kernel)
theorem zdok_147 : zdok prog_1_method_35_code zi_147 := zdok_app zdok_147_0 (zdok_147_1)
theorem zdok_148_0 : zdok prog_1_method_36_code zi_148_0 := zdok_of (by decide +kernel)
theorem zdok_148_1 : zdok prog_1_method_36_code zi_148_1 := zdok_of (by decide +kernel)
theorem zdok_148 : zdok prog_1_method_36_code zi_148 := zdok_app zdok_148_0 (zdok_148_1)
theorem zdok_149 : zdok prog_1_method_37_code zi_149 := zdok_of (by decide +kernel)
theorem zdok_150_0 : zdok prog_1_method_38_code zi_150_0 := zdok_of (by decide +kernel)
theorem zdok_150_1 : zdok prog_1_method_38_code zi_150_1 := zdok_of (by decide +kernel)
theorem zdok_150 : zdok prog_1_method_38_code zi_150 := zdok_app zdok_150_0 (zdok_150_1)
theorem zdok_151 : zdok prog_1_method_39_code zi_151 := zdok_of (by decide +kernel)
theorem zdok_152_0 : zdok prog_1_method_40_code zi_152_0 := zdok_of (by decide +kernel)
theorem zdok_152_1 : zdok prog_1_method_40_code zi_152_1 := zdok_of (by decide +kernel)
theorem zdok_152 : zdok prog_1_method_40_code zi_152 := zdok_app zdok_152_0 (zdok_152_1)
theorem zdok_153 : zdok prog_1_method_41_code zi_153 := zdok_of (by decide +kernel)
theorem zdok_154 : zdok prog_1_method_42_code zi_154 := zdok_of (by decide +kernel)
theorem zdok_155 : zdok prog_1_method_43_code zi_155 := zdok_of (by decide +kernel)
theorem zdok_156 : zdok prog_1_method_44_code zi_156 := zdok_of (by decide +kernel)
theorem zdok_157 : zdok prog_1_method_45_code zi_157 := zdok_of (by decide +kernel)
theorem zdok_158 : zdok prog_1_method_46_code zi_158 := zdok_of (by decide +kernel)
theorem zdok_159_0 : zdok prog_1_method_47_code zi_159_0 := zdok_of (by decide +kernel)
theorem zdok_159_1 : zdok prog_1_method_47_code zi_159_1 := zdok_of (by decide +kernel)
theorem zdok_159 : zdok prog_1_method_47_code zi_159 := zdok_app zdok_159_0 (zdok_159_1)
theorem zdok_160_0 : zdok prog_1_method_48_code zi_160_0 := zdok_of (by decide +kernel)
theorem zdok_160_1 : zdok prog_1_method_48_code zi_160_1 := zdok_of (by decide +kernel)
theorem zdok_160 : zdok prog_1_method_48_code zi_160 := zdok_app zdok_160_0 (zdok_160_1)
theorem zdok_161 : zdok prog_1_method_49_code zi_161 := zdok_of (by decide +kernel)
theorem zdok_162_0 : zdok prog_1_method_50_code zi_162_0 := zdok_of (by decide +kernel)
theorem zdok_162_1 : zdok prog_1_method_50_code zi_162_1 := zdok_of (by decide +kernel)
theorem zdok_162 : zdok prog_1_method_50_code zi_162 := zdok_app zdok_162_0 (zdok_162_1)
theorem zdok_163 : zdok prog_1_method_51_code zi_163 := zdok_of (by decide +kernel)
theorem zdok_164 : zdok prog_1_method_52_code zi_164 := zdok_of (by decide +kernel)
theorem zdok_165 : zdok prog_1_method_53_code zi_165 := zdok_of (by decide +kernel)
theorem zdok_166 : zdok prog_1_method_54_code zi_166 := zdok_of (by decide +kernel)
theorem zdok_167_0 : zdok prog_1_method_55_code zi_167_0 := zdok_of (by decide +kernel)
theorem zdok_167_1 : zdok prog_1_method_55_code zi_167_1 := zdok_of (by decide +kernel)
theorem zdok_167 : zdok prog_1_method_55_code zi_167 := zdok_app zdok_167_0 (zdok_167_1)
theorem zdok_168 : zdok prog_1_method_56_code zi_168 := zdok_of (by decide +kernel)
theorem zdok_169 : zdok prog_1_method_57_code zi_169 := zdok_of (by decide +kernel)
theorem zdok_170 : zdok prog_1_method_58_code zi_170 := zdok_of (by decide +kernel)
theorem zdok_171_0 : zdok prog_1_method_59_code zi_171_0 := zdok_of (by decide +kernel)
theorem zdok_171_1 : zdok prog_1_method_59_code zi_171_1 := zdok_of (by decide +kernel)
theorem zdok_171 : zdok prog_1_method_59_code zi_171 := zdok_app zdok_171_0 (zdok_171_1)
theorem zdok_172 : zdok prog_1_method_60_code zi_172 := zdok_of (by decide +kernel)
theorem zdok_173_0 : zdok prog_1_method_61_code zi_173_0 := zdok_of (by decide +kernel)
theorem zdok_173_1 : zdok prog_1_method_61_code zi_173_1 := zdok_of (by decide +kernel)
theorem zdok_173 : zdok prog_1_method_61_code zi_173 := zdok_app zdok_173_0 (zdok_173_1)
theorem zdok_174 : zdok prog_1_method_62_code zi_174 := zdok_of (by decide +kernel)
theorem zdok_175 : zdok prog_1_method_63_code zi_175 := zdok_of (by decide +kernel)
theorem zdok_176 : zdok prog_1_method_64_code zi_176 := zdok_of (by decide +kernel)
theorem zdok_177 : zdok prog_1_method_65_code zi_177 := zdok_of (by decide +kernel)
theorem zdok_178 : zdok prog_1_method_66_code zi_178 := zdok_of (by decide +kernel)
theorem zdok_179 : zdok prog_1_method_67_code zi_179 := zdok_of (by decide +kernel)
theorem zdok_180 : zdok prog_1_method_68_code zi_180 := zdok_of (by decide +kernel)
theorem zdok_181 : zdok prog_1_method_69_code zi_181 := zdok_of (by decide +kernel)
theorem zdok_182 : zdok prog_1_method_70_code zi_182 := zdok_of (by decide +kernel)
theorem zdok_183 : zdok prog_1_method_71_code zi_183 := zdok_of (by decide +kernel)
theorem zdok_184 : zdok prog_1_method_72_code zi_184 := zdok_of (by decide +kernel)
theorem zdok_185 : zdok prog_1_method_73_code zi_185 := zdok_of (by decide +kernel)
theorem zdok_186 : zdok prog_1_method_74_code zi_186 := zdok_of (by decide +kernel)
theorem zdok_187 : zdok prog_1_method_75_code zi_187 := zdok_of (by decide +kernel)
theorem zdok_188 : zdok prog_1_method_76_code zi_188 := zdok_of (by decide +kernel)
theorem zdok_189 : zdok prog_1_method_77_code zi_189 := zdok_of (by decide +kernel)
theorem zdok_190_0 : zdok prog_11_method_1_code zi_190_0 := zdok_of (by decide +kernel)
theorem zdok_190_1 : zdok prog_11_method_1_code zi_190_1 := zdok_of (by decide +kernel)
theorem zdok_190_2 : zdok prog_11_method_1_code zi_190_2 := zdok_of (by decide +kernel)
theorem zdok_190 : zdok prog_11_method_1_code zi_190 := zdok_app zdok_190_0 (zdok_app zdok_190_1 (zdok_190_2))
theorem zdok_191 : zdok prog_11_method_2_code zi_191 := zdok_of (by decide +kernel)
theorem zdok_192 : zdok prog_11_method_3_code zi_192 := zdok_of (by decide +kernel)
theorem zdok_193 : zdok prog_11_method_4_code zi_193 := zdok_of (by decide +kernel)
theorem zdok_194 : zdok prog_11_method_5_code zi_194 := zdok_of (by decide +kernel)
theorem zdok_195 : zdok prog_11_method_6_code zi_195 := zdok_of (by decide +kernel)
theorem zdok_196_0 : zdok prog_11_method_7_code zi_196_0 := zdok_of (by decide +kernel)
theorem zdok_196_1 : zdok prog_11_method_7_code zi_196_1 := zdok_of (by decide +kernel)
theorem zdok_196 : zdok prog_11_method_7_code zi_196 := zdok_app zdok_196_0 (zdok_196_1)
theorem zdok_197 : zdok prog_11_method_8_code zi_197 := zdok_of (by decide +kernel)
theorem zdok_198 : zdok prog_11_method_9_code zi_198 := zdok_of (by decide +kernel)
theorem zdok_199 : zdok prog_11_method_10_code zi_199 := zdok_of (by decide +kernel)
theorem zdok_200_0 : zdok prog_11_method_11_code zi_200_0 := zdok_of (by decide +kernel)
theorem zdok_200_1 : zdok prog_11_method_11_code zi_200_1 := zdok_of (by decide +kernel)
theorem zdok_200_2 : zdok prog_11_method_11_code zi_200_2 := zdok_of (by decide +kernel)
theorem zdok_200 : zdok prog_11_method_11_code zi_200 := zdok_app zdok_200_0 (zdok_app zdok_200_1 (zdok_200_2))
theorem zdok_201 : zdok prog_11_method_12_code zi_201 := zdok_of (by decide +kernel)
theorem zdok_202 : zdok prog_11_method_13_code zi_202 := zdok_of (by decide +kernel)
theorem zdok_203 : zdok prog_11_method_14_code zi_203 := zdok_of (by decide +kernel)
theorem zdok_204_0 : zdok prog_11_method_15_code zi_204_0 := zdok_of (by decide +kernel)
theorem zdok_204_1 : zdok prog_11_method_15_code zi_204_1 := zdok_of (by decide +kernel)
theorem zdok_204 : zdok prog_11_method_15_code zi_204 := zdok_app zdok_204_0 (zdok_204_1)
theorem zdok_205_0 : zdok prog_11_method_16_code zi_205_0 := zdok_of (by decide +kernel)
theorem zdok_205_1 : zdok prog_11_method_16_code zi_205_1 := zdok_of (by decide +kernel)
theorem zdok_205_2 : zdok prog_11_method_16_code zi_205_2 := zdok_of (by decide +kernel)
theorem zdok_205 : zdok prog_11_method_16_code zi_205 := zdok_app zdok_205_0 (zdok_app zdok_205_1 (zdok_205_2))
theorem zdok_206 : zdok prog_11_method_17_code zi_206 := zdok_of (by decide +kernel)
theorem zdok_207 : zdok prog_11_method_18_code zi_207 := zdok_of (by decide +kernel)
theorem zdok_208 : zdok prog_11_method_19_code zi_208 := zdok_of (by decide +kernel)
theorem zdok_209 : zdok prog_11_method_20_code zi_209 := zdok_of (by decide +kernel)
theorem zdok_210 : zdok prog_11_method_21_code zi_210 := zdok_of (by decide +kernel)
theorem zdok_211 : zdok prog_11_method_22_code zi_211 := zdok_of (by decide +kernel)
theorem zdok_212 : zdok prog_11_method_23_code zi_212 := zdok_of (by decide +kernel)
theorem zdok_213 : zdok prog_11_method_24_code zi_213 := zdok_of (by decide +kernel)
theorem zdok_214_0 : zdok prog_11_method_25_code zi_214_0 := zdok_of (by decide +kernel)
theorem zdok_214_1 : zdok prog_11_method_25_code zi_214_1 := zdok_of (by decide +kernel)
theorem zdok_214 : zdok prog_11_method_25_code zi_214 := zdok_app zdok_214_0 (zdok_214_1)
theorem zdok_215_0 : zdok prog_11_method_26_code zi_215_0 := zdok_of (by decide +kernel)
theorem zdok_215_1 : zdok prog_11_method_26_code zi_215_1 := zdok_of (by decide +kernel)
theorem zdok_215_2 : zdok prog_11_method_26_code zi_215_2 := zdok_of (by decide +kernel)
theorem zdok_215 : zdok prog_11_method_26_code zi_215 := zdok_app zdok_215_0 (zdok_app zdok_215_1 (zdok_215_2))
theorem zdok_216_0 : zdok prog_11_method_27_code zi_216_0 := zdok_of (by decide +kernel)
theorem zdok_216_1 : zdok prog_11_method_27_code zi_216_1 := zdok_of (by decide +kernel)
theorem zdok_216 : zdok prog_11_method_27_code zi_216 := zdok_app zdok_216_0 (zdok_216_1)
theorem zdok_217_0 : zdok prog_11_method_28_code zi_217_0 := zdok_of (by decide +kernel)
theorem zdok_217_1 : zdok prog_11_method_28_code zi_217_1 := zdok_of (by decide +kernel)
theorem zdok_217 : zdok prog_11_method_28_code zi_217 := zdok_app zdok_217_0 (zdok_217_1)
theorem zdok_218_0 : zdok prog_11_method_29_code zi_218_0 := zdok_of (by decide +kernel)
theorem zdok_218_1 : zdok prog_11_method_29_code zi_218_1 := zdok_of (by decide +kernel)
theorem zdok_218 : zdok prog_11_method_29_code zi_218 := zdok_app zdok_218_0 (zdok_218_1)
theorem zdok_219 : zdok prog_11_method_30_code zi_219 := zdok_of (by decide +kernel)
theorem zdok_220 : zdok prog_11_method_31_code zi_220 := zdok_of (by decide +kernel)
theorem zdok_221 : zdok prog_11_method_32_code zi_221 := zdok_of (by decide +kernel)
theorem zdok_222 : zdok prog_11_method_33_code zi_222 := zdok_of (by decide +kernel)
theorem zdok_223 : zdok prog_11_method_34_code zi_223 := zdok_of (by decide +kernel)
theorem zdok_224 : zdok prog_11_method_35_code zi_224 := zdok_of (by decide +kernel)
theorem zdok_225 : zdok prog_11_method_36_code zi_225 := zdok_of (by decide +kernel)
theorem zdok_226 : zdok prog_11_method_37_code zi_226 := zdok_of (by decide +kernel)
theorem zdok_227 : zdok prog_11_method_38_code zi_227 := zdok_of (by decide +kernel)
theorem zdok_228 : zdok prog_11_method_39_code zi_228 := zdok_of (by decide +kernel)
theorem zdok_229 : zdok prog_11_method_40_code zi_229 := zdok_of (by decide +kernel)
theorem zdok_230_0 : zdok prog_11_method_41_code zi_230_0 := zdok_of (by decide +kernel)
theorem zdok_230_1 : zdok prog_11_method_41_code zi_230_1 := zdok_of (by decide +kernel)
theorem zdok_230_2 : zdok prog_11_method_41_code zi_230_2 := zdok_of (by decide +kernel)
theorem zdok_230 : zdok prog_11_method_41_code zi_230 := zdok_app zdok_230_0 (zdok_app zdok_230_1 (zdok_230_2))
theorem zdok_231 : zdok prog_11_method_42_code zi_231 := zdok_of (by decide +kernel)
theorem zdok_232 : zdok prog_11_method_43_code zi_232 := zdok_of (by decide +kernel)
theorem zdok_233 : zdok prog_11_method_44_code zi_233 := zdok_of (by decide +kernel)
theorem zdok_234 : zdok prog_11_method_45_code zi_234 := zdok_of (by decide +kernel)
theorem zdok_235 : zdok prog_11_method_46_code zi_235 := zdok_of (by decide +kernel)
theorem zdok_236 : zdok prog_11_method_47_code zi_236 := zdok_of (by decide +kernel)
theorem zdok_237 : zdok prog_11_method_48_code zi_237 := zdok_of (by decide +kernel)
theorem zdok_238 : zdok prog_11_method_49_code zi_238 := zdok_of (by decide +kernel)
theorem zdok_239 : zdok prog_11_method_50_code zi_239 := zdok_of (by decide +kernel)
theorem zdok_240 : zdok prog_11_method_51_code zi_240 := zdok_of (by decide +kernel)
theorem zdok_241_0 : zdok prog_11_method_52_code zi_241_0 := zdok_of (by decide +kernel)
theorem zdok_241_1 : zdok prog_11_method_52_code zi_241_1 := zdok_of (by decide +kernel)
theorem zdok_241 : zdok prog_11_method_52_code zi_241 := zdok_app zdok_241_0 (zdok_241_1)
theorem zdok_242_0 : zdok prog_11_method_53_code zi_242_0 := zdok_of (by decide +kernel)
theorem zdok_242_1 : zdok prog_11_method_53_code zi_242_1 := zdok_of (by decide +kernel)
theorem zdok_242 : zdok prog_11_method_53_code zi_242 := zdok_app zdok_242_0 (zdok_242_1)
theorem zdok_243_0 : zdok prog_11_method_54_code zi_243_0 := zdok_of (by decide +kernel)
theorem zdok_243_1 : zdok prog_11_method_54_code zi_243_1 := zdok_of (by decide +kernel)
theorem zdok_243_2 : zdok prog_11_method_54_code zi_243_2 := zdok_of (by decide +kernel)
theorem zdok_243 : zdok prog_11_method_54_code zi_243 := zdok_app zdok_243_0 (zdok_app zdok_243_1 (zdok_243_2))
theorem zdok_244_0 : zdok prog_11_method_55_code zi_244_0 := zdok_of (by decide +kernel)
theorem zdok_244_1 : zdok prog_11_method_55_code zi_244_1 := zdok_of (by decide +kernel)
theorem zdok_244 : zdok prog_11_method_55_code zi_244 := zdok_app zdok_244_0 (zdok_244_1)
theorem zdok_245 : zdok prog_11_method_56_code zi_245 := zdok_of (by decide +kernel)
theorem zdok_246 : zdok prog_11_method_57_code zi_246 := zdok_of (by decide +kernel)
theorem zdok_247_0 : zdok prog_11_method_58_code zi_247_0 := zdok_of (by decide +kernel)
theorem zdok_247_1 : zdok prog_11_method_58_code zi_247_1 := zdok_of (by decide +kernel)
theorem zdok_247 : zdok prog_11_method_58_code zi_247 := zdok_app zdok_247_0 (zdok_247_1)
theorem zdok_248 : zdok prog_11_method_59_code zi_248 := zdok_of (by decide +kernel)
theorem zdok_249 : zdok prog_11_method_60_code zi_249 := zdok_of (by decide +kernel)
theorem zdok_250 : zdok prog_11_method_61_code zi_250 := zdok_of (by decide +kernel)
theorem zdok_251 : zdok prog_11_method_62_code zi_251 := zdok_of (by decide +kernel)
theorem zdok_252 : zdok prog_11_method_63_code zi_252 := zdok_of (by decide +kernel)
theorem zdok_253 : zdok prog_11_method_64_code zi_253 := zdok_of (by decide +kernel)
theorem zdok_254 : zdok prog_11_method_65_code zi_254 := zdok_of (by decide +kernel)
theorem zdok_255 : zdok prog_11_method_66_code zi_255 := zdok_of (by decide +kernel)
theorem zdok_256 : zdok prog_11_method_67_code zi_256 := zdok_of (by decide +kernel)
theorem zdok_257 : zdok prog_11_method_68_code zi_257 := zdok_of (by decide +kernel)
theorem zdok_258_0 : zdok prog_11_method_69_code zi_258_0 := zdok_of (by decide +kernel)
theorem zdok_258_1 : zdok prog_11_method_69_code zi_258_1 := zdok_of (by decide +kernel)
theorem zdok_258_2 : zdok prog_11_method_69_code zi_258_2 := zdok_of (by decide +kernel)
theorem zdok_258 : zdok prog_11_method_69_code zi_258 := zdok_app zdok_258_0 (zdok_app zdok_258_1 (zdok_258_2))
theorem zdok_259 : zdok prog_11_method_70_code zi_259 := zdok_of (by decide +kernel)
theorem zdok_260 : zdok prog_11_method_71_code zi_260 := zdok_of (by decide +kernel)
theorem zdok_261 : zdok prog_11_method_72_code zi_261 := zdok_of (by decide +kernel)
theorem zdok_262_0 : zdok prog_11_method_73_code zi_262_0 := zdok_of (by decide +kernel)
theorem zdok_262_1 : zdok prog_11_method_73_code zi_262_1 := zdok_of (by decide +kernel)
theorem zdok_262 : zdok prog_11_method_73_code zi_262 := zdok_app zdok_262_0 (zdok_262_1)
theorem zdok_263 : zdok prog_11_method_74_code zi_263 := zdok_of (by decide +kernel)
theorem zdok_264 : zdok prog_11_method_75_code zi_264 := zdok_of (by decide +kernel)
theorem zdok_265 : zdok prog_11_method_76_code zi_265 := zdok_of (by decide +kernel)
theorem zdok_266 : zdok prog_11_method_77_code zi_266 := zdok_of (by decide +kernel)
theorem zdok_267 : zdok prog_11_method_78_code zi_267 := zdok_of (by decide +kernel)
theorem zdok_268 : zdok prog_11_method_79_code zi_268 := zdok_of (by decide +kernel)
theorem zdok_269 : zdok prog_11_method_80_code zi_269 := zdok_of (by decide +kernel)
theorem zdok_270 : zdok prog_11_method_81_code zi_270 := zdok_of (by decide +kernel)
theorem zdok_271 : zdok prog_11_method_82_code zi_271 := zdok_of (by decide +kernel)
theorem zdok_272 : zdok prog_11_method_83_code zi_272 := zdok_of (by decide +kernel)
theorem zdok_273_0 : zdok prog_11_method_84_code zi_273_0 := zdok_of (by decide +kernel)
theorem zdok_273_1 : zdok prog_11_method_84_code zi_273_1 := zdok_of (by decide +kernel)
theorem zdok_273 : zdok prog_11_method_84_code zi_273 := zdok_app zdok_273_0 (zdok_273_1)
theorem zdok_274_0 : zdok prog_11_method_85_code zi_274_0 := zdok_of (by decide +kernel)
theorem zdok_274_1 : zdok prog_11_method_85_code zi_274_1 := zdok_of (by decide +kernel)
theorem zdok_274 : zdok prog_11_method_85_code zi_274 := zdok_app zdok_274_0 (zdok_274_1)
theorem zdok_275 : zdok prog_11_method_86_code zi_275 := zdok_of (by decide +kernel)
theorem zdok_276 : zdok prog_11_method_87_code zi_276 := zdok_of (by decide +kernel)
theorem zdok_277 : zdok prog_11_method_88_code zi_277 := zdok_of (by decide +kernel)
theorem zdok_278 : zdok prog_11_method_89_code zi_278 := zdok_of (by decide +kernel)
theorem zdok_279 : zdok prog_11_method_90_code zi_279 := zdok_of (by decide +kernel)
theorem zdok_280 : zdok prog_11_method_91_code zi_280 := zdok_of (by decide +kernel)
theorem zdok_281 : zdok prog_11_method_92_code zi_281 := zdok_of (by decide +kernel)
theorem zdok_282 : zdok prog_11_method_93_code zi_282 := zdok_of (by decide +kernel)
theorem zdok_283 : zdok prog_11_method_94_code zi_283 := zdok_of (by decide +kernel)
theorem zdok_284 : zdok prog_11_method_95_code zi_284 := zdok_of (by decide +kernel)
theorem zdok_285_0 : zdok prog_11_method_96_code zi_285_0 := zdok_of (by decide +kernel)
theorem zdok_285_1 : zdok prog_11_method_96_code zi_285_1 := zdok_of (by decide +kernel)
theorem zdok_285 : zdok prog_11_method_96_code zi_285 := zdok_app zdok_285_0 (zdok_285_1)
theorem zdok_286 : zdok prog_11_method_97_code zi_286 := zdok_of (by decide +kernel)
theorem zdok_287 : zdok prog_11_method_98_code zi_287 := zdok_of (by decide +kernel)
theorem zdok_288 : zdok prog_11_method_99_code zi_288 := zdok_of (by decide +kernel)
theorem zdok_289_0 : zdok prog_11_method_100_code zi_289_0 := zdok_of (by decide +kernel)
theorem zdok_289_1 : zdok prog_11_method_100_code zi_289_1 := zdok_of (by decide +kernel)
theorem zdok_289 : zdok prog_11_method_100_code zi_289 := zdok_app zdok_289_0 (zdok_289_1)
theorem zdok_290_0 : zdok prog_11_method_101_code zi_290_0 := zdok_of (by decide +kernel)
theorem zdok_290_1 : zdok prog_11_method_101_code zi_290_1 := zdok_of (by decide +kernel)
theorem zdok_290 : zdok prog_11_method_101_code zi_290 := zdok_app zdok_290_0 (zdok_290_1)
theorem zdok_291_0 : zdok prog_11_method_102_code zi_291_0 := zdok_of (by decide +kernel)
theorem zdok_291_1 : zdok prog_11_method_102_code zi_291_1 := zdok_of (by decide +kernel)
theorem zdok_291 : zdok prog_11_method_102_code zi_291 := zdok_app zdok_291_0 (zdok_291_1)
theorem zdok_292 : zdok prog_11_method_103_code zi_292 := zdok_of (by decide +kernel)
theorem zdok_293 : zdok prog_11_method_104_code zi_293 := zdok_of (by decide +kernel)
theorem zdok_294_0 : zdok prog_11_method_105_code zi_294_0 := zdok_of (by decide +kernel)
theorem zdok_294_1 : zdok prog_11_method_105_code zi_294_1 := zdok_of (by decide +kernel)
theorem zdok_294 : zdok prog_11_method_105_code zi_294 := zdok_app zdok_294_0 (zdok_294_1)
theorem zdok_295 : zdok prog_11_method_106_code zi_295 := zdok_of (by decide +kernel)
theorem zdok_296 : zdok prog_11_method_107_code zi_296 := zdok_of (by decide +kernel)
theorem zdok_297_0 : zdok prog_11_method_108_code zi_297_0 := zdok_of (by decide +kernel)
theorem zdok_297_1 : zdok prog_11_method_108_code zi_297_1 := zdok_of (by decide +kernel)
theorem zdok_297 : zdok prog_11_method_108_code zi_297 := zdok_app zdok_297_0 (zdok_297_1)
theorem zdok_298 : zdok prog_11_method_109_code zi_298 := zdok_of (by decide +kernel)
theorem zdok_299 : zdok prog_11_method_110_code zi_299 := zdok_of (by decide +kernel)
theorem zdok_300 : zdok prog_11_method_111_code zi_300 := zdok_of (by decide +kernel)
theorem zdok_301 : zdok prog_11_method_112_code zi_301 := zdok_of (by decide +kernel)
theorem zdok_302_0 : zdok prog_11_method_113_code zi_302_0 := zdok_of (by decide +kernel)
theorem zdok_302_1 : zdok prog_11_method_113_code zi_302_1 := zdok_of (by decide +kernel)
theorem zdok_302 : zdok prog_11_method_113_code zi_302 := zdok_app zdok_302_0 (zdok_302_1)
theorem zdok_303_0 : zdok prog_11_method_114_code zi_303_0 := zdok_of (by decide +kernel)
theorem zdok_303_1 : zdok prog_11_method_114_code zi_303_1 := zdok_of (by decide +kernel)
theorem zdok_303_2 : zdok prog_11_method_114_code zi_303_2 := zdok_of (by decide +kernel)
theorem zdok_303 : zdok prog_11_method_114_code zi_303 := zdok_app zdok_303_0 (zdok_app zdok_303_1 (zdok_303_2))
theorem zdok_304_0 : zdok prog_11_method_115_code zi_304_0 := zdok_of (by decide +kernel)
theorem zdok_304_1 : zdok prog_11_method_115_code zi_304_1 := zdok_of (by decide +kernel)
theorem zdok_304 : zdok prog_11_method_115_code zi_304 := zdok_app zdok_304_0 (zdok_304_1)
theorem zdok_305 : zdok prog_11_method_116_code zi_305 := zdok_of (by decide +kernel)
theorem zdok_306_0 : zdok prog_11_method_117_code zi_306_0 := zdok_of (by decide +kernel)
theorem zdok_306_1 : zdok prog_11_method_117_code zi_306_1 := zdok_of (by decide +kernel)
theorem zdok_306 : zdok prog_11_method_117_code zi_306 := zdok_app zdok_306_0 (zdok_306_1)
theorem zdok_307 : zdok prog_11_method_118_code zi_307 := zdok_of (by decide +kernel)
theorem zdok_308_0 : zdok prog_11_method_119_code zi_308_0 := zdok_of (by decide +kernel)
theorem zdok_308_1 : zdok prog_11_method_119_code zi_308_1 := zdok_of (by decide +kernel)
theorem zdok_308 : zdok prog_11_method_119_code zi_308 := zdok_app zdok_308_0 (zdok_308_1)
theorem zdok_309 : zdok prog_11_method_120_code zi_309 := zdok_of (by decide +kernel)
theorem zdok_310 : zdok prog_11_method_121_code zi_310 := zdok_of (by decide +kernel)
theorem zdok_311 : zdok prog_11_method_122_code zi_311 := zdok_of (by decide +kernel)
theorem zdok_312_0 : zdok prog_11_method_123_code zi_312_0 := zdok_of (by decide +kernel)
theorem zdok_312_1 : zdok prog_11_method_123_code zi_312_1 := zdok_of (by decide +kernel)
theorem zdok_312 : zdok prog_11_method_123_code zi_312 := zdok_app zdok_312_0 (zdok_312_1)
theorem zdok_313 : zdok prog_11_method_124_code zi_313 := zdok_of (by decide +kernel)
theorem zdok_314_0 : zdok prog_11_method_125_code zi_314_0 := zdok_of (by decide +kernel)
theorem zdok_314_1 : zdok prog_11_method_125_code zi_314_1 := zdok_of (by decide +kernel)
theorem zdok_314 : zdok prog_11_method_125_code zi_314 := zdok_app zdok_314_0 (zdok_314_1)
theorem zdok_315 : zdok prog_12_method_49_code zi_315 := zdok_of (by decide +kernel)
theorem zdok_316 : zdok prog_13_method_65_code zi_316 := zdok_of (by decide +kernel)
theorem zdok_317 : zdok prog_13_method_69_code zi_317 := zdok_of (by decide +kernel)
theorem zdok_318_0 : zdok code zi_318_0 := zdok_of (by decide +kernel)
theorem zdok_318_1 : zdok code zi_318_1 := zdok_of (by decide +kernel)
theorem zdok_318_2 : zdok code zi_318_2 := zdok_of (by decide +kernel)
theorem zdok_318_3 : zdok code zi_318_3 := zdok_of (by decide +kernel)
theorem zdok_318_4 : zdok code zi_318_4 := zdok_of (by decide +kernel)
theorem zdok_318_5 : zdok code zi_318_5 := zdok_of (by decide +kernel)
theorem zdok_318_6 : zdok code zi_318_6 := zdok_of (by decide +kernel)
theorem zdok_318_7 : zdok code zi_318_7 := zdok_of (by decide +kernel)
theorem zdok_318_8 : zdok code zi_318_8 := zdok_of (by decide +kernel)
theorem zdok_318_9 : zdok code zi_318_9 := zdok_of (by decide +kernel)
theorem zdok_318_10 : zdok code zi_318_10 := zdok_of (by decide +kernel)
theorem zdok_318_11 : zdok code zi_318_11 := zdok_of (by decide +kernel)
theorem zdok_318_12 : zdok code zi_318_12 := zdok_of (by decide +kernel)
theorem zdok_318_13 : zdok code zi_318_13 := zdok_of (by decide +kernel)
theorem zdok_318_14 : zdok code zi_318_14 := zdok_of (by decide +kernel)
theorem zdok_318_15 : zdok code zi_318_15 := zdok_of (by decide +kernel)
theorem zdok_318_16 : zdok code zi_318_16 := zdok_of (by decide +kernel)
theorem zdok_318_17 : zdok code zi_318_17 := zdok_of (by decide +kernel)
theorem zdok_318_18 : zdok code zi_318_18 := zdok_of (by decide +kernel)
theorem zdok_318_19 : zdok code zi_318_19 := zdok_of (by decide +kernel)
theorem zdok_318_20 : zdok code zi_318_20 := zdok_of (by decide +kernel)
theorem zdok_318_21 : zdok code zi_318_21 := zdok_of (by decide +kernel)
theorem zdok_318_22 : zdok code zi_318_22 := zdok_of (by decide +kernel)
theorem zdok_318_23 : zdok code zi_318_23 := zdok_of (by decide +kernel)
theorem zdok_318_24 : zdok code zi_318_24 := zdok_of (by decide +kernel)
theorem zdok_318_25 : zdok code zi_318_25 := zdok_of (by decide +kernel)
theorem zdok_318_26 : zdok code zi_318_26 := zdok_of (by decide +kernel)
theorem zdok_318_27 : zdok code zi_318_27 := zdok_of (by decide +kernel)
theorem zdok_318_28 : zdok code zi_318_28 := zdok_of (by decide +kernel)
theorem zdok_318_29 : zdok code zi_318_29 := zdok_of (by decide +kernel)
theorem zdok_318_30 : zdok code zi_318_30 := zdok_of (by decide +kernel)
theorem zdok_318_31 : zdok code zi_318_31 := zdok_of (by decide +kernel)
theorem zdok_318_32 : zdok code zi_318_32 := zdok_of (by decide +kernel)
theorem zdok_318 : zdok code zi_318 := zdok_app zdok_318_0 (zdok_app zdok_318_1 (zdok_app zdok_318_2 (zdok_app zdok_318_3 (zdok_app zdok_318_4 (zdok_app zdok_318_5 (zdok_app zdok_318_6 (zdok_app zdok_318_7 (zdok_app zdok_318_8 (zdok_app zdok_318_9 (zdok_app zdok_318_10 (zdok_app zdok_318_11 (zdok_app zdok_318_12 (zdok_app zdok_318_13 (zdok_app zdok_318_14 (zdok_app zdok_318_15 (zdok_app zdok_318_16 (zdok_app zdok_318_17 (zdok_app zdok_318_18 (zdok_app zdok_318_19 (zdok_app zdok_318_20 (zdok_app zdok_318_21 (zdok_app zdok_318_22 (zdok_app zdok_318_23 (zdok_app zdok_318_24 (zdok_app zdok_318_25 (zdok_app zdok_318_26 (zdok_app zdok_318_27 (zdok_app zdok_318_28 (zdok_app zdok_318_29 (zdok_app zdok_318_30 (zdok_app zdok_318_31 (zdok_318_32))))))))))))))))))))))))))))))))
end
section
-- ===== PART A: goes FIRST, ahead of the names: the tables' words, and 'selects' of the private methods out of them =====
/-- a private method of a class that the tables say can be made, by its rows of tables_1 -/
def lw_okq (q : MethodName × Nat) : Prop := (q.1.cls ≠ "java/lang/invoke/MethodHandle" ∧ q.1.cls ≠ "java/lang/invoke/VarHandle") ∧ Cond.instantiable q.1.cls q.2 ∈ tables_1 ∧ Cond.privateMethod q.1 ∈ tables_1 ∧ Cond.instanceMethod q.1 ∈ tables_1
theorem lw_p0 : lw_okq (⟨"SkippingKeys", "refuse", "(I)I"⟩, 12) := ⟨⟨by decide +kernel, by decide +kernel⟩, List.mem_of_getElem? (i := 15) (by decide +kernel), List.mem_of_getElem? (i := 297) (by decide +kernel), List.mem_of_getElem? (i := 298) (by decide +kernel)⟩
theorem lw_p1 : lw_okq (⟨"SkippingKeys$Lines", "putAll", "(IIII)V"⟩, 4) := ⟨⟨by decide +kernel, by decide +kernel⟩, List.mem_of_getElem? (i := 23) (by decide +kernel), List.mem_of_getElem? (i := 424) (by decide +kernel), List.mem_of_getElem? (i := 425) (by decide +kernel)⟩
theorem lw_p2 : lw_okq (⟨"SkippingKeys$Reader", "readLine", "(LSkippingKeys$Tape;)Z"⟩, 6) := ⟨⟨by decide +kernel, by decide +kernel⟩, List.mem_of_getElem? (i := 163) (by decide +kernel), List.mem_of_getElem? (i := 491) (by decide +kernel), List.mem_of_getElem? (i := 492) (by decide +kernel)⟩
theorem lw_p3 : lw_okq (⟨"SkippingKeys$Reader", "isClosed", "(LSkippingKeys$Conditions;)Z"⟩, 6) := ⟨⟨by decide +kernel, by decide +kernel⟩, List.mem_of_getElem? (i := 163) (by decide +kernel), List.mem_of_getElem? (i := 526) (by decide +kernel), List.mem_of_getElem? (i := 527) (by decide +kernel)⟩
theorem lw_p4 : lw_okq (⟨"SkippingKeys$Reader", "closeOr", "(LSkippingKeys$Conditions;)V"⟩, 6) := ⟨⟨by decide +kernel, by decide +kernel⟩, List.mem_of_getElem? (i := 163) (by decide +kernel), List.mem_of_getElem? (i := 530) (by decide +kernel), List.mem_of_getElem? (i := 531) (by decide +kernel)⟩
theorem lw_p5 : lw_okq (⟨"SkippingKeys$Reader", "topOpen", "()I"⟩, 6) := ⟨⟨by decide +kernel, by decide +kernel⟩, List.mem_of_getElem? (i := 163) (by decide +kernel), List.mem_of_getElem? (i := 534) (by decide +kernel), List.mem_of_getElem? (i := 535) (by decide +kernel)⟩
theorem lw_p6 : lw_okq (⟨"SkippingKeys$Reader", "popOpen", "()V"⟩, 6) := ⟨⟨by decide +kernel, by decide +kernel⟩, List.mem_of_getElem? (i := 163) (by decide +kernel), List.mem_of_getElem? (i := 538) (by decide +kernel), List.mem_of_getElem? (i := 539) (by decide +kernel)⟩
theorem lw_p7 : lw_okq (⟨"SkippingKeys$Reader", "popWhole", "()I"⟩, 6) := ⟨⟨by decide +kernel, by decide +kernel⟩, List.mem_of_getElem? (i := 163) (by decide +kernel), List.mem_of_getElem? (i := 542) (by decide +kernel), List.mem_of_getElem? (i := 543) (by decide +kernel)⟩
theorem lw_p8 : lw_okq (⟨"SkippingKeys$Reader", "pushWhole", "(I)V"⟩, 6) := ⟨⟨by decide +kernel, by decide +kernel⟩, List.mem_of_getElem? (i := 163) (by decide +kernel), List.mem_of_getElem? (i := 559) (by decide +kernel), List.mem_of_getElem? (i := 560) (by decide +kernel)⟩
theorem lw_p9 : lw_okq (⟨"SkippingKeys$Reader", "pushOpen", "(I)V"⟩, 6) := ⟨⟨by decide +kernel, by decide +kernel⟩, List.mem_of_getElem? (i := 163) (by decide +kernel), List.mem_of_getElem? (i := 566) (by decide +kernel), List.mem_of_getElem? (i := 567) (by decide +kernel)⟩
theorem lw_p10 : lw_okq (⟨"SkippingKeys$Reader", "turnIsWhole", "(LSkippingKeys$Conditions;I)V"⟩, 6) := ⟨⟨by decide +kernel, by decide +kernel⟩, List.mem_of_getElem? (i := 163) (by decide +kernel), List.mem_of_getElem? (i := 614) (by decide +kernel), List.mem_of_getElem? (i := 615) (by decide +kernel)⟩
theorem lw_p11 : lw_okq (⟨"SkippingKeys$Reader", "readBehindTurn", "(LSkippingKeys$Tape;LSkippingKeys$Conditions;I)Z"⟩, 6) := ⟨⟨by decide +kernel, by decide +kernel⟩, List.mem_of_getElem? (i := 163) (by decide +kernel), List.mem_of_getElem? (i := 618) (by decide +kernel), List.mem_of_getElem? (i := 619) (by decide +kernel)⟩
theorem lw_p12 : lw_okq (⟨"SkippingKeys", "settled", "()I"⟩, 12) := ⟨⟨by decide +kernel, by decide +kernel⟩, List.mem_of_getElem? (i := 15) (by decide +kernel), List.mem_of_getElem? (i := 626) (by decide +kernel), List.mem_of_getElem? (i := 627) (by decide +kernel)⟩
theorem lw_p13 : lw_okq (⟨"SkippingKeys$Condition", "leafTruth", "(I)I"⟩, 12) := ⟨⟨by decide +kernel, by decide +kernel⟩, List.mem_of_getElem? (i := 56) (by decide +kernel), List.mem_of_getElem? (i := 645) (by decide +kernel), List.mem_of_getElem? (i := 646) (by decide +kernel)⟩
theorem lw_p14 : lw_okq (⟨"SkippingKeys$Condition", "digitOf", "(II)I"⟩, 12) := ⟨⟨by decide +kernel, by decide +kernel⟩, List.mem_of_getElem? (i := 56) (by decide +kernel), List.mem_of_getElem? (i := 649) (by decide +kernel), List.mem_of_getElem? (i := 650) (by decide +kernel)⟩
theorem lw_p15 : lw_okq (⟨"SkippingKeys$Condition", "orderTruth", "(I)I"⟩, 12) := ⟨⟨by decide +kernel, by decide +kernel⟩, List.mem_of_getElem? (i := 56) (by decide +kernel), List.mem_of_getElem? (i := 659) (by decide +kernel), List.mem_of_getElem? (i := 660) (by decide +kernel)⟩
def lw_privs_1 : List (MethodName × Nat) := [(⟨"SkippingKeys", "refuse", "(I)I"⟩, 12), (⟨"SkippingKeys$Lines", "putAll", "(IIII)V"⟩, 4), (⟨"SkippingKeys$Reader", "readLine", "(LSkippingKeys$Tape;)Z"⟩, 6), (⟨"SkippingKeys$Reader", "isClosed", "(LSkippingKeys$Conditions;)Z"⟩, 6), (⟨"SkippingKeys$Reader", "closeOr", "(LSkippingKeys$Conditions;)V"⟩, 6), (⟨"SkippingKeys$Reader", "topOpen", "()I"⟩, 6), (⟨"SkippingKeys$Reader", "popOpen", "()V"⟩, 6), (⟨"SkippingKeys$Reader", "popWhole", "()I"⟩, 6), (⟨"SkippingKeys$Reader", "pushWhole", "(I)V"⟩, 6), (⟨"SkippingKeys$Reader", "pushOpen", "(I)V"⟩, 6), (⟨"SkippingKeys$Reader", "turnIsWhole", "(LSkippingKeys$Conditions;I)V"⟩, 6), (⟨"SkippingKeys$Reader", "readBehindTurn", "(LSkippingKeys$Tape;LSkippingKeys$Conditions;I)Z"⟩, 6), (⟨"SkippingKeys", "settled", "()I"⟩, 12), (⟨"SkippingKeys$Condition", "leafTruth", "(I)I"⟩, 12), (⟨"SkippingKeys$Condition", "digitOf", "(II)I"⟩, 12), (⟨"SkippingKeys$Condition", "orderTruth", "(I)I"⟩, 12)]
theorem lw_r1 : ∀ q ∈ lw_privs_1, lw_okq q := List.forall_mem_cons.mpr ⟨lw_p0, List.forall_mem_cons.mpr ⟨lw_p1, List.forall_mem_cons.mpr ⟨lw_p2, List.forall_mem_cons.mpr ⟨lw_p3, List.forall_mem_cons.mpr ⟨lw_p4, List.forall_mem_cons.mpr ⟨lw_p5, List.forall_mem_cons.mpr ⟨lw_p6, List.forall_mem_cons.mpr ⟨lw_p7, List.forall_mem_cons.mpr ⟨lw_p8, List.forall_mem_cons.mpr ⟨lw_p9, List.forall_mem_cons.mpr ⟨lw_p10, List.forall_mem_cons.mpr ⟨lw_p11, List.forall_mem_cons.mpr ⟨lw_p12, List.forall_mem_cons.mpr ⟨lw_p13, List.forall_mem_cons.mpr ⟨lw_p14, List.forall_mem_cons.mpr ⟨lw_p15, fun _ h => absurd h List.not_mem_nil⟩⟩⟩⟩⟩⟩⟩⟩⟩⟩⟩⟩⟩⟩⟩⟩
theorem lw_p16 : lw_okq (⟨"SkippingKeys$Condition", "equalTruth", "(I)I"⟩, 12) := ⟨⟨by decide +kernel, by decide +kernel⟩, List.mem_of_getElem? (i := 56) (by decide +kernel), List.mem_of_getElem? (i := 663) (by decide +kernel), List.mem_of_getElem? (i := 664) (by decide +kernel)⟩
theorem lw_p17 : lw_okq (⟨"SkippingKeys$Condition", "joinedTruth", "(II)I"⟩, 12) := ⟨⟨by decide +kernel, by decide +kernel⟩, List.mem_of_getElem? (i := 56) (by decide +kernel), List.mem_of_getElem? (i := 677) (by decide +kernel), List.mem_of_getElem? (i := 678) (by decide +kernel)⟩
theorem lw_p18 : lw_okq (⟨"SkippingKeys", "tellsSeveral", "(II)Z"⟩, 12) := ⟨⟨by decide +kernel, by decide +kernel⟩, List.mem_of_getElem? (i := 15) (by decide +kernel), List.mem_of_getElem? (i := 717) (by decide +kernel), List.mem_of_getElem? (i := 718) (by decide +kernel)⟩
theorem lw_p19 : lw_okq (⟨"SkippingKeys", "isCondAndIndex", "(II)Z"⟩, 12) := ⟨⟨by decide +kernel, by decide +kernel⟩, List.mem_of_getElem? (i := 15) (by decide +kernel), List.mem_of_getElem? (i := 767) (by decide +kernel), List.mem_of_getElem? (i := 768) (by decide +kernel)⟩
theorem lw_p20 : lw_okq (⟨"SkippingKeys$Spans", "orderGaps", "()V"⟩, 12) := ⟨⟨by decide +kernel, by decide +kernel⟩, List.mem_of_getElem? (i := 188) (by decide +kernel), List.mem_of_getElem? (i := 832) (by decide +kernel), List.mem_of_getElem? (i := 833) (by decide +kernel)⟩
theorem lw_p21 : lw_okq (⟨"SkippingKeys$Spans", "widthOf", "(I)I"⟩, 12) := ⟨⟨by decide +kernel, by decide +kernel⟩, List.mem_of_getElem? (i := 188) (by decide +kernel), List.mem_of_getElem? (i := 836) (by decide +kernel), List.mem_of_getElem? (i := 837) (by decide +kernel)⟩
theorem lw_p22 : lw_okq (⟨"SkippingKeys$Spans", "gapAt", "(I)I"⟩, 12) := ⟨⟨by decide +kernel, by decide +kernel⟩, List.mem_of_getElem? (i := 188) (by decide +kernel), List.mem_of_getElem? (i := 862) (by decide +kernel), List.mem_of_getElem? (i := 863) (by decide +kernel)⟩
theorem lw_p23 : lw_okq (⟨"SkippingKeys", "stillToTest", "(II)I"⟩, 12) := ⟨⟨by decide +kernel, by decide +kernel⟩, List.mem_of_getElem? (i := 15) (by decide +kernel), List.mem_of_getElem? (i := 867) (by decide +kernel), List.mem_of_getElem? (i := 868) (by decide +kernel)⟩
theorem lw_p24 : lw_okq (⟨"SkippingKeys", "isTrueInPlan", "(LSkippingKeys$Condition;I)Z"⟩, 12) := ⟨⟨by decide +kernel, by decide +kernel⟩, List.mem_of_getElem? (i := 15) (by decide +kernel), List.mem_of_getElem? (i := 871) (by decide +kernel), List.mem_of_getElem? (i := 872) (by decide +kernel)⟩
theorem lw_p25 : lw_okq (⟨"SkippingKeys$Spans", "countLinesByGap", "(LSkippingKeys$Lines;I)I"⟩, 12) := ⟨⟨by decide +kernel, by decide +kernel⟩, List.mem_of_getElem? (i := 188) (by decide +kernel), List.mem_of_getElem? (i := 884) (by decide +kernel), List.mem_of_getElem? (i := 885) (by decide +kernel)⟩
theorem lw_p26 : lw_okq (⟨"SkippingKeys", "clearSeen", "()V"⟩, 12) := ⟨⟨by decide +kernel, by decide +kernel⟩, List.mem_of_getElem? (i := 15) (by decide +kernel), List.mem_of_getElem? (i := 908) (by decide +kernel), List.mem_of_getElem? (i := 909) (by decide +kernel)⟩
theorem lw_p27 : lw_okq (⟨"SkippingKeys", "countSeen", "()I"⟩, 12) := ⟨⟨by decide +kernel, by decide +kernel⟩, List.mem_of_getElem? (i := 15) (by decide +kernel), List.mem_of_getElem? (i := 913) (by decide +kernel), List.mem_of_getElem? (i := 914) (by decide +kernel)⟩
theorem lw_p28 : lw_okq (⟨"SkippingKeys$Ranking", "insert", "(I)V"⟩, 2) := ⟨⟨by decide +kernel, by decide +kernel⟩, List.mem_of_getElem? (i := 235) (by decide +kernel), List.mem_of_getElem? (i := 930) (by decide +kernel), List.mem_of_getElem? (i := 931) (by decide +kernel)⟩
theorem lw_p29 : lw_okq (⟨"SkippingKeys", "tellsLines", "(II)Z"⟩, 12) := ⟨⟨by decide +kernel, by decide +kernel⟩, List.mem_of_getElem? (i := 15) (by decide +kernel), List.mem_of_getElem? (i := 972) (by decide +kernel), List.mem_of_getElem? (i := 973) (by decide +kernel)⟩
theorem lw_p30 : lw_okq (⟨"SkippingKeys", "fitsTold", "(IIIII)Z"⟩, 12) := ⟨⟨by decide +kernel, by decide +kernel⟩, List.mem_of_getElem? (i := 15) (by decide +kernel), List.mem_of_getElem? (i := 976) (by decide +kernel), List.mem_of_getElem? (i := 977) (by decide +kernel)⟩
theorem lw_p31 : lw_okq (⟨"SkippingKeys$Lines", "draw", "(I)I"⟩, 4) := ⟨⟨by decide +kernel, by decide +kernel⟩, List.mem_of_getElem? (i := 23) (by decide +kernel), List.mem_of_getElem? (i := 1005) (by decide +kernel), List.mem_of_getElem? (i := 1006) (by decide +kernel)⟩
def lw_privs_2 : List (MethodName × Nat) := [(⟨"SkippingKeys$Condition", "equalTruth", "(I)I"⟩, 12), (⟨"SkippingKeys$Condition", "joinedTruth", "(II)I"⟩, 12), (⟨"SkippingKeys", "tellsSeveral", "(II)Z"⟩, 12), (⟨"SkippingKeys", "isCondAndIndex", "(II)Z"⟩, 12), (⟨"SkippingKeys$Spans", "orderGaps", "()V"⟩, 12), (⟨"SkippingKeys$Spans", "widthOf", "(I)I"⟩, 12), (⟨"SkippingKeys$Spans", "gapAt", "(I)I"⟩, 12), (⟨"SkippingKeys", "stillToTest", "(II)I"⟩, 12), (⟨"SkippingKeys", "isTrueInPlan", "(LSkippingKeys$Condition;I)Z"⟩, 12), (⟨"SkippingKeys$Spans", "countLinesByGap", "(LSkippingKeys$Lines;I)I"⟩, 12), (⟨"SkippingKeys", "clearSeen", "()V"⟩, 12), (⟨"SkippingKeys", "countSeen", "()I"⟩, 12), (⟨"SkippingKeys$Ranking", "insert", "(I)V"⟩, 2), (⟨"SkippingKeys", "tellsLines", "(II)Z"⟩, 12), (⟨"SkippingKeys", "fitsTold", "(IIIII)Z"⟩, 12), (⟨"SkippingKeys$Lines", "draw", "(I)I"⟩, 4)]
theorem lw_r2 : ∀ q ∈ lw_privs_2, lw_okq q := List.forall_mem_cons.mpr ⟨lw_p16, List.forall_mem_cons.mpr ⟨lw_p17, List.forall_mem_cons.mpr ⟨lw_p18, List.forall_mem_cons.mpr ⟨lw_p19, List.forall_mem_cons.mpr ⟨lw_p20, List.forall_mem_cons.mpr ⟨lw_p21, List.forall_mem_cons.mpr ⟨lw_p22, List.forall_mem_cons.mpr ⟨lw_p23, List.forall_mem_cons.mpr ⟨lw_p24, List.forall_mem_cons.mpr ⟨lw_p25, List.forall_mem_cons.mpr ⟨lw_p26, List.forall_mem_cons.mpr ⟨lw_p27, List.forall_mem_cons.mpr ⟨lw_p28, List.forall_mem_cons.mpr ⟨lw_p29, List.forall_mem_cons.mpr ⟨lw_p30, List.forall_mem_cons.mpr ⟨lw_p31, fun _ h => absurd h List.not_mem_nil⟩⟩⟩⟩⟩⟩⟩⟩⟩⟩⟩⟩⟩⟩⟩⟩
theorem lw_p32 : lw_okq (⟨"SkippingKeys", "countDifferentKeys", "()I"⟩, 12) := ⟨⟨by decide +kernel, by decide +kernel⟩, List.mem_of_getElem? (i := 15) (by decide +kernel), List.mem_of_getElem? (i := 1043) (by decide +kernel), List.mem_of_getElem? (i := 1044) (by decide +kernel)⟩
theorem lw_p33 : lw_okq (⟨"SkippingKeysModel", "refuse", "(I)I"⟩, 41) := ⟨⟨by decide +kernel, by decide +kernel⟩, List.mem_of_getElem? (i := 1051) (by decide +kernel), List.mem_of_getElem? (i := 1193) (by decide +kernel), List.mem_of_getElem? (i := 1194) (by decide +kernel)⟩
theorem lw_p34 : lw_okq (⟨"SkippingKeysModel", "noRow", "(I)I"⟩, 41) := ⟨⟨by decide +kernel, by decide +kernel⟩, List.mem_of_getElem? (i := 1051) (by decide +kernel), List.mem_of_getElem? (i := 1201) (by decide +kernel), List.mem_of_getElem? (i := 1202) (by decide +kernel)⟩
theorem lw_p35 : lw_okq (⟨"SkippingKeysModel", "isCond", "(I)Z"⟩, 41) := ⟨⟨by decide +kernel, by decide +kernel⟩, List.mem_of_getElem? (i := 1051) (by decide +kernel), List.mem_of_getElem? (i := 1224) (by decide +kernel), List.mem_of_getElem? (i := 1225) (by decide +kernel)⟩
theorem lw_p36 : lw_okq (⟨"SkippingKeysModel", "keysOf", "(II)I"⟩, 41) := ⟨⟨by decide +kernel, by decide +kernel⟩, List.mem_of_getElem? (i := 1051) (by decide +kernel), List.mem_of_getElem? (i := 1236) (by decide +kernel), List.mem_of_getElem? (i := 1237) (by decide +kernel)⟩
theorem lw_p37 : lw_okq (⟨"SkippingKeysModel", "isAt", "(II)I"⟩, 41) := ⟨⟨by decide +kernel, by decide +kernel⟩, List.mem_of_getElem? (i := 1051) (by decide +kernel), List.mem_of_getElem? (i := 1240) (by decide +kernel), List.mem_of_getElem? (i := 1241) (by decide +kernel)⟩
theorem lw_p38 : lw_okq (⟨"SkippingKeysModel", "valuesOf", "(II)I"⟩, 41) := ⟨⟨by decide +kernel, by decide +kernel⟩, List.mem_of_getElem? (i := 1051) (by decide +kernel), List.mem_of_getElem? (i := 1244) (by decide +kernel), List.mem_of_getElem? (i := 1245) (by decide +kernel)⟩
theorem lw_p39 : lw_okq (⟨"SkippingKeysModel", "put", "(IIII)V"⟩, 41) := ⟨⟨by decide +kernel, by decide +kernel⟩, List.mem_of_getElem? (i := 1051) (by decide +kernel), List.mem_of_getElem? (i := 1259) (by decide +kernel), List.mem_of_getElem? (i := 1260) (by decide +kernel)⟩
theorem lw_p40 : lw_okq (⟨"SkippingKeysModel", "isLine", "(I)Z"⟩, 41) := ⟨⟨by decide +kernel, by decide +kernel⟩, List.mem_of_getElem? (i := 1051) (by decide +kernel), List.mem_of_getElem? (i := 1267) (by decide +kernel), List.mem_of_getElem? (i := 1268) (by decide +kernel)⟩
theorem lw_p41 : lw_okq (⟨"SkippingKeysModel", "strikeOut", "(I)V"⟩, 41) := ⟨⟨by decide +kernel, by decide +kernel⟩, List.mem_of_getElem? (i := 1051) (by decide +kernel), List.mem_of_getElem? (i := 1276) (by decide +kernel), List.mem_of_getElem? (i := 1277) (by decide +kernel)⟩
theorem lw_p42 : lw_okq (⟨"SkippingKeysModel", "tableFault", "()I"⟩, 41) := ⟨⟨by decide +kernel, by decide +kernel⟩, List.mem_of_getElem? (i := 1051) (by decide +kernel), List.mem_of_getElem? (i := 1298) (by decide +kernel), List.mem_of_getElem? (i := 1299) (by decide +kernel)⟩
theorem lw_p43 : lw_okq (⟨"SkippingKeysModel", "condHere", "()I"⟩, 41) := ⟨⟨by decide +kernel, by decide +kernel⟩, List.mem_of_getElem? (i := 1051) (by decide +kernel), List.mem_of_getElem? (i := 1311) (by decide +kernel), List.mem_of_getElem? (i := 1312) (by decide +kernel)⟩
theorem lw_p44 : lw_okq (⟨"SkippingKeysModel", "eachHere", "()I"⟩, 41) := ⟨⟨by decide +kernel, by decide +kernel⟩, List.mem_of_getElem? (i := 1051) (by decide +kernel), List.mem_of_getElem? (i := 1315) (by decide +kernel), List.mem_of_getElem? (i := 1316) (by decide +kernel)⟩
theorem lw_p45 : lw_okq (⟨"SkippingKeysModel", "turnHere", "()I"⟩, 41) := ⟨⟨by decide +kernel, by decide +kernel⟩, List.mem_of_getElem? (i := 1051) (by decide +kernel), List.mem_of_getElem? (i := 1319) (by decide +kernel), List.mem_of_getElem? (i := 1320) (by decide +kernel)⟩
theorem lw_p46 : lw_okq (⟨"SkippingKeysModel", "sees", "(I)Z"⟩, 41) := ⟨⟨by decide +kernel, by decide +kernel⟩, List.mem_of_getElem? (i := 1051) (by decide +kernel), List.mem_of_getElem? (i := 1323) (by decide +kernel), List.mem_of_getElem? (i := 1324) (by decide +kernel)⟩
theorem lw_p47 : lw_okq (⟨"SkippingKeysModel", "here", "()I"⟩, 41) := ⟨⟨by decide +kernel, by decide +kernel⟩, List.mem_of_getElem? (i := 1051) (by decide +kernel), List.mem_of_getElem? (i := 1327) (by decide +kernel), List.mem_of_getElem? (i := 1328) (by decide +kernel)⟩
def lw_privs_3 : List (MethodName × Nat) := [(⟨"SkippingKeys", "countDifferentKeys", "()I"⟩, 12), (⟨"SkippingKeysModel", "refuse", "(I)I"⟩, 41), (⟨"SkippingKeysModel", "noRow", "(I)I"⟩, 41), (⟨"SkippingKeysModel", "isCond", "(I)Z"⟩, 41), (⟨"SkippingKeysModel", "keysOf", "(II)I"⟩, 41), (⟨"SkippingKeysModel", "isAt", "(II)I"⟩, 41), (⟨"SkippingKeysModel", "valuesOf", "(II)I"⟩, 41), (⟨"SkippingKeysModel", "put", "(IIII)V"⟩, 41), (⟨"SkippingKeysModel", "isLine", "(I)Z"⟩, 41), (⟨"SkippingKeysModel", "strikeOut", "(I)V"⟩, 41), (⟨"SkippingKeysModel", "tableFault", "()I"⟩, 41), (⟨"SkippingKeysModel", "condHere", "()I"⟩, 41), (⟨"SkippingKeysModel", "eachHere", "()I"⟩, 41), (⟨"SkippingKeysModel", "turnHere", "()I"⟩, 41), (⟨"SkippingKeysModel", "sees", "(I)Z"⟩, 41), (⟨"SkippingKeysModel", "here", "()I"⟩, 41)]
theorem lw_r3 : ∀ q ∈ lw_privs_3, lw_okq q := List.forall_mem_cons.mpr ⟨lw_p32, List.forall_mem_cons.mpr ⟨lw_p33, List.forall_mem_cons.mpr ⟨lw_p34, List.forall_mem_cons.mpr ⟨lw_p35, List.forall_mem_cons.mpr ⟨lw_p36, List.forall_mem_cons.mpr ⟨lw_p37, List.forall_mem_cons.mpr ⟨lw_p38, List.forall_mem_cons.mpr ⟨lw_p39, List.forall_mem_cons.mpr ⟨lw_p40, List.forall_mem_cons.mpr ⟨lw_p41, List.forall_mem_cons.mpr ⟨lw_p42, List.forall_mem_cons.mpr ⟨lw_p43, List.forall_mem_cons.mpr ⟨lw_p44, List.forall_mem_cons.mpr ⟨lw_p45, List.forall_mem_cons.mpr ⟨lw_p46, List.forall_mem_cons.mpr ⟨lw_p47, fun _ h => absurd h List.not_mem_nil⟩⟩⟩⟩⟩⟩⟩⟩⟩⟩⟩⟩⟩⟩⟩⟩
theorem lw_p48 : lw_okq (⟨"SkippingKeysModel", "makeOver", "(III)I"⟩, 41) := ⟨⟨by decide +kernel, by decide +kernel⟩, List.mem_of_getElem? (i := 1051) (by decide +kernel), List.mem_of_getElem? (i := 1331) (by decide +kernel), List.mem_of_getElem? (i := 1332) (by decide +kernel)⟩
theorem lw_p49 : lw_okq (⟨"SkippingKeysModel", "clearTold", "()V"⟩, 41) := ⟨⟨by decide +kernel, by decide +kernel⟩, List.mem_of_getElem? (i := 1051) (by decide +kernel), List.mem_of_getElem? (i := 1335) (by decide +kernel), List.mem_of_getElem? (i := 1336) (by decide +kernel)⟩
theorem lw_p50 : lw_okq (⟨"SkippingKeysModel", "make", "(I)I"⟩, 41) := ⟨⟨by decide +kernel, by decide +kernel⟩, List.mem_of_getElem? (i := 1051) (by decide +kernel), List.mem_of_getElem? (i := 1339) (by decide +kernel), List.mem_of_getElem? (i := 1340) (by decide +kernel)⟩
theorem lw_p51 : lw_okq (⟨"SkippingKeysModel", "must", "(I)V"⟩, 41) := ⟨⟨by decide +kernel, by decide +kernel⟩, List.mem_of_getElem? (i := 1051) (by decide +kernel), List.mem_of_getElem? (i := 1343) (by decide +kernel), List.mem_of_getElem? (i := 1344) (by decide +kernel)⟩
theorem lw_p52 : lw_okq (⟨"SkippingKeysModel", "wrong", "()I"⟩, 41) := ⟨⟨by decide +kernel, by decide +kernel⟩, List.mem_of_getElem? (i := 1051) (by decide +kernel), List.mem_of_getElem? (i := 1347) (by decide +kernel), List.mem_of_getElem? (i := 1348) (by decide +kernel)⟩
theorem lw_p53 : lw_okq (⟨"SkippingKeysModel", "columnHere", "(I)I"⟩, 41) := ⟨⟨by decide +kernel, by decide +kernel⟩, List.mem_of_getElem? (i := 1051) (by decide +kernel), List.mem_of_getElem? (i := 1353) (by decide +kernel), List.mem_of_getElem? (i := 1354) (by decide +kernel)⟩
theorem lw_p54 : lw_okq (⟨"SkippingKeysModel", "severalHere", "(I)I"⟩, 41) := ⟨⟨by decide +kernel, by decide +kernel⟩, List.mem_of_getElem? (i := 1051) (by decide +kernel), List.mem_of_getElem? (i := 1357) (by decide +kernel), List.mem_of_getElem? (i := 1358) (by decide +kernel)⟩
theorem lw_p55 : lw_okq (⟨"SkippingKeysModel", "signHere", "()V"⟩, 41) := ⟨⟨by decide +kernel, by decide +kernel⟩, List.mem_of_getElem? (i := 1051) (by decide +kernel), List.mem_of_getElem? (i := 1361) (by decide +kernel), List.mem_of_getElem? (i := 1362) (by decide +kernel)⟩
theorem lw_p56 : lw_okq (⟨"SkippingKeysModel", "number", "(II)I"⟩, 41) := ⟨⟨by decide +kernel, by decide +kernel⟩, List.mem_of_getElem? (i := 1051) (by decide +kernel), List.mem_of_getElem? (i := 1368) (by decide +kernel), List.mem_of_getElem? (i := 1369) (by decide +kernel)⟩
theorem lw_p57 : lw_okq (⟨"SkippingKeysModel", "amongHere", "(I)I"⟩, 41) := ⟨⟨by decide +kernel, by decide +kernel⟩, List.mem_of_getElem? (i := 1051) (by decide +kernel), List.mem_of_getElem? (i := 1372) (by decide +kernel), List.mem_of_getElem? (i := 1373) (by decide +kernel)⟩
theorem lw_p58 : lw_okq (⟨"SkippingKeysModel", "added", "()I"⟩, 41) := ⟨⟨by decide +kernel, by decide +kernel⟩, List.mem_of_getElem? (i := 1051) (by decide +kernel), List.mem_of_getElem? (i := 1376) (by decide +kernel), List.mem_of_getElem? (i := 1377) (by decide +kernel)⟩
theorem lw_p59 : lw_okq (⟨"SkippingKeysModel", "workFrom", "(I)V"⟩, 41) := ⟨⟨by decide +kernel, by decide +kernel⟩, List.mem_of_getElem? (i := 1051) (by decide +kernel), List.mem_of_getElem? (i := 1380) (by decide +kernel), List.mem_of_getElem? (i := 1381) (by decide +kernel)⟩
theorem lw_p60 : lw_okq (⟨"SkippingKeysModel", "leafIn", "(I)V"⟩, 41) := ⟨⟨by decide +kernel, by decide +kernel⟩, List.mem_of_getElem? (i := 1051) (by decide +kernel), List.mem_of_getElem? (i := 1384) (by decide +kernel), List.mem_of_getElem? (i := 1385) (by decide +kernel)⟩
theorem lw_p61 : lw_okq (⟨"SkippingKeysModel", "overIn", "(I)V"⟩, 41) := ⟨⟨by decide +kernel, by decide +kernel⟩, List.mem_of_getElem? (i := 1051) (by decide +kernel), List.mem_of_getElem? (i := 1388) (by decide +kernel), List.mem_of_getElem? (i := 1389) (by decide +kernel)⟩
theorem lw_p62 : lw_okq (⟨"SkippingKeysModel", "worked", "(II)I"⟩, 41) := ⟨⟨by decide +kernel, by decide +kernel⟩, List.mem_of_getElem? (i := 1051) (by decide +kernel), List.mem_of_getElem? (i := 1392) (by decide +kernel), List.mem_of_getElem? (i := 1393) (by decide +kernel)⟩
theorem lw_p63 : lw_okq (⟨"SkippingKeysModel", "leafFor", "(II)I"⟩, 41) := ⟨⟨by decide +kernel, by decide +kernel⟩, List.mem_of_getElem? (i := 1051) (by decide +kernel), List.mem_of_getElem? (i := 1396) (by decide +kernel), List.mem_of_getElem? (i := 1397) (by decide +kernel)⟩
def lw_privs_4 : List (MethodName × Nat) := [(⟨"SkippingKeysModel", "makeOver", "(III)I"⟩, 41), (⟨"SkippingKeysModel", "clearTold", "()V"⟩, 41), (⟨"SkippingKeysModel", "make", "(I)I"⟩, 41), (⟨"SkippingKeysModel", "must", "(I)V"⟩, 41), (⟨"SkippingKeysModel", "wrong", "()I"⟩, 41), (⟨"SkippingKeysModel", "columnHere", "(I)I"⟩, 41), (⟨"SkippingKeysModel", "severalHere", "(I)I"⟩, 41), (⟨"SkippingKeysModel", "signHere", "()V"⟩, 41), (⟨"SkippingKeysModel", "number", "(II)I"⟩, 41), (⟨"SkippingKeysModel", "amongHere", "(I)I"⟩, 41), (⟨"SkippingKeysModel", "added", "()I"⟩, 41), (⟨"SkippingKeysModel", "workFrom", "(I)V"⟩, 41), (⟨"SkippingKeysModel", "leafIn", "(I)V"⟩, 41), (⟨"SkippingKeysModel", "overIn", "(I)V"⟩, 41), (⟨"SkippingKeysModel", "worked", "(II)I"⟩, 41), (⟨"SkippingKeysModel", "leafFor", "(II)I"⟩, 41)]
theorem lw_r4 : ∀ q ∈ lw_privs_4, lw_okq q := List.forall_mem_cons.mpr ⟨lw_p48, List.forall_mem_cons.mpr ⟨lw_p49, List.forall_mem_cons.mpr ⟨lw_p50, List.forall_mem_cons.mpr ⟨lw_p51, List.forall_mem_cons.mpr ⟨lw_p52, List.forall_mem_cons.mpr ⟨lw_p53, List.forall_mem_cons.mpr ⟨lw_p54, List.forall_mem_cons.mpr ⟨lw_p55, List.forall_mem_cons.mpr ⟨lw_p56, List.forall_mem_cons.mpr ⟨lw_p57, List.forall_mem_cons.mpr ⟨lw_p58, List.forall_mem_cons.mpr ⟨lw_p59, List.forall_mem_cons.mpr ⟨lw_p60, List.forall_mem_cons.mpr ⟨lw_p61, List.forall_mem_cons.mpr ⟨lw_p62, List.forall_mem_cons.mpr ⟨lw_p63, fun _ h => absurd h List.not_mem_nil⟩⟩⟩⟩⟩⟩⟩⟩⟩⟩⟩⟩⟩⟩⟩⟩
theorem lw_p64 : lw_okq (⟨"SkippingKeysModel", "severalFor", "(II)I"⟩, 41) := ⟨⟨by decide +kernel, by decide +kernel⟩, List.mem_of_getElem? (i := 1051) (by decide +kernel), List.mem_of_getElem? (i := 1400) (by decide +kernel), List.mem_of_getElem? (i := 1401) (by decide +kernel)⟩
theorem lw_p65 : lw_okq (⟨"SkippingKeysModel", "tell", "(IIIII)I"⟩, 41) := ⟨⟨by decide +kernel, by decide +kernel⟩, List.mem_of_getElem? (i := 1051) (by decide +kernel), List.mem_of_getElem? (i := 1415) (by decide +kernel), List.mem_of_getElem? (i := 1416) (by decide +kernel)⟩
theorem lw_p66 : lw_okq (⟨"SkippingKeysModel", "add", "(I)I"⟩, 41) := ⟨⟨by decide +kernel, by decide +kernel⟩, List.mem_of_getElem? (i := 1051) (by decide +kernel), List.mem_of_getElem? (i := 1419) (by decide +kernel), List.mem_of_getElem? (i := 1420) (by decide +kernel)⟩
theorem lw_p67 : lw_okq (⟨"SkippingKeysModel", "noRowOf", "(II)I"⟩, 41) := ⟨⟨by decide +kernel, by decide +kernel⟩, List.mem_of_getElem? (i := 1051) (by decide +kernel), List.mem_of_getElem? (i := 1443) (by decide +kernel), List.mem_of_getElem? (i := 1444) (by decide +kernel)⟩
theorem lw_p68 : lw_okq (⟨"SkippingKeysModel", "keyIn", "(II)I"⟩, 41) := ⟨⟨by decide +kernel, by decide +kernel⟩, List.mem_of_getElem? (i := 1051) (by decide +kernel), List.mem_of_getElem? (i := 1476) (by decide +kernel), List.mem_of_getElem? (i := 1477) (by decide +kernel)⟩
theorem lw_p69 : lw_okq (⟨"SkippingKeysModel", "linesOf", "(II)I"⟩, 41) := ⟨⟨by decide +kernel, by decide +kernel⟩, List.mem_of_getElem? (i := 1051) (by decide +kernel), List.mem_of_getElem? (i := 1502) (by decide +kernel), List.mem_of_getElem? (i := 1503) (by decide +kernel)⟩
theorem lw_p70 : lw_okq (⟨"SkippingKeysModel", "isFor", "(II)I"⟩, 41) := ⟨⟨by decide +kernel, by decide +kernel⟩, List.mem_of_getElem? (i := 1051) (by decide +kernel), List.mem_of_getElem? (i := 1506) (by decide +kernel), List.mem_of_getElem? (i := 1507) (by decide +kernel)⟩
theorem lw_p71 : lw_okq (⟨"SkippingKeysModel", "runsIn", "(II)V"⟩, 41) := ⟨⟨by decide +kernel, by decide +kernel⟩, List.mem_of_getElem? (i := 1051) (by decide +kernel), List.mem_of_getElem? (i := 1518) (by decide +kernel), List.mem_of_getElem? (i := 1519) (by decide +kernel)⟩
theorem lw_p72 : lw_okq (⟨"SkippingKeysModel", "spanAt", "(I)I"⟩, 41) := ⟨⟨by decide +kernel, by decide +kernel⟩, List.mem_of_getElem? (i := 1051) (by decide +kernel), List.mem_of_getElem? (i := 1526) (by decide +kernel), List.mem_of_getElem? (i := 1527) (by decide +kernel)⟩
theorem lw_p73 : lw_okq (⟨"SkippingKeysModel", "planIn", "(III)V"⟩, 41) := ⟨⟨by decide +kernel, by decide +kernel⟩, List.mem_of_getElem? (i := 1051) (by decide +kernel), List.mem_of_getElem? (i := 1534) (by decide +kernel), List.mem_of_getElem? (i := 1535) (by decide +kernel)⟩
theorem lw_p74 : lw_okq (⟨"SkippingKeysModel", "mergeOnce", "()V"⟩, 41) := ⟨⟨by decide +kernel, by decide +kernel⟩, List.mem_of_getElem? (i := 1051) (by decide +kernel), List.mem_of_getElem? (i := 1538) (by decide +kernel), List.mem_of_getElem? (i := 1539) (by decide +kernel)⟩
theorem lw_p75 : lw_okq (⟨"SkippingKeysModel", "otherKeys", "(II)I"⟩, 41) := ⟨⟨by decide +kernel, by decide +kernel⟩, List.mem_of_getElem? (i := 1051) (by decide +kernel), List.mem_of_getElem? (i := 1546) (by decide +kernel), List.mem_of_getElem? (i := 1547) (by decide +kernel)⟩
theorem lw_p76 : lw_okq (⟨"SkippingKeysModel", "readIn", "(IIZ)I"⟩, 41) := ⟨⟨by decide +kernel, by decide +kernel⟩, List.mem_of_getElem? (i := 1051) (by decide +kernel), List.mem_of_getElem? (i := 1550) (by decide +kernel), List.mem_of_getElem? (i := 1551) (by decide +kernel)⟩
theorem lw_p77 : lw_okq (⟨"SkippingKeysModel", "isRead", "(I)Z"⟩, 41) := ⟨⟨by decide +kernel, by decide +kernel⟩, List.mem_of_getElem? (i := 1051) (by decide +kernel), List.mem_of_getElem? (i := 1554) (by decide +kernel), List.mem_of_getElem? (i := 1555) (by decide +kernel)⟩
theorem lw_p78 : lw_okq (⟨"SkippingKeysModel", "costIn", "(II)I"⟩, 41) := ⟨⟨by decide +kernel, by decide +kernel⟩, List.mem_of_getElem? (i := 1051) (by decide +kernel), List.mem_of_getElem? (i := 1558) (by decide +kernel), List.mem_of_getElem? (i := 1559) (by decide +kernel)⟩
theorem lw_p79 : lw_okq (⟨"SkippingKeysModel", "still", "(II)I"⟩, 41) := ⟨⟨by decide +kernel, by decide +kernel⟩, List.mem_of_getElem? (i := 1051) (by decide +kernel), List.mem_of_getElem? (i := 1562) (by decide +kernel), List.mem_of_getElem? (i := 1563) (by decide +kernel)⟩
def lw_privs_5 : List (MethodName × Nat) := [(⟨"SkippingKeysModel", "severalFor", "(II)I"⟩, 41), (⟨"SkippingKeysModel", "tell", "(IIIII)I"⟩, 41), (⟨"SkippingKeysModel", "add", "(I)I"⟩, 41), (⟨"SkippingKeysModel", "noRowOf", "(II)I"⟩, 41), (⟨"SkippingKeysModel", "keyIn", "(II)I"⟩, 41), (⟨"SkippingKeysModel", "linesOf", "(II)I"⟩, 41), (⟨"SkippingKeysModel", "isFor", "(II)I"⟩, 41), (⟨"SkippingKeysModel", "runsIn", "(II)V"⟩, 41), (⟨"SkippingKeysModel", "spanAt", "(I)I"⟩, 41), (⟨"SkippingKeysModel", "planIn", "(III)V"⟩, 41), (⟨"SkippingKeysModel", "mergeOnce", "()V"⟩, 41), (⟨"SkippingKeysModel", "otherKeys", "(II)I"⟩, 41), (⟨"SkippingKeysModel", "readIn", "(IIZ)I"⟩, 41), (⟨"SkippingKeysModel", "isRead", "(I)Z"⟩, 41), (⟨"SkippingKeysModel", "costIn", "(II)I"⟩, 41), (⟨"SkippingKeysModel", "still", "(II)I"⟩, 41)]
theorem lw_r5 : ∀ q ∈ lw_privs_5, lw_okq q := List.forall_mem_cons.mpr ⟨lw_p64, List.forall_mem_cons.mpr ⟨lw_p65, List.forall_mem_cons.mpr ⟨lw_p66, List.forall_mem_cons.mpr ⟨lw_p67, List.forall_mem_cons.mpr ⟨lw_p68, List.forall_mem_cons.mpr ⟨lw_p69, List.forall_mem_cons.mpr ⟨lw_p70, List.forall_mem_cons.mpr ⟨lw_p71, List.forall_mem_cons.mpr ⟨lw_p72, List.forall_mem_cons.mpr ⟨lw_p73, List.forall_mem_cons.mpr ⟨lw_p74, List.forall_mem_cons.mpr ⟨lw_p75, List.forall_mem_cons.mpr ⟨lw_p76, List.forall_mem_cons.mpr ⟨lw_p77, List.forall_mem_cons.mpr ⟨lw_p78, List.forall_mem_cons.mpr ⟨lw_p79, fun _ h => absurd h List.not_mem_nil⟩⟩⟩⟩⟩⟩⟩⟩⟩⟩⟩⟩⟩⟩⟩⟩
theorem lw_p80 : lw_okq (⟨"SkippingKeysModel", "bestIn", "(II)I"⟩, 41) := ⟨⟨by decide +kernel, by decide +kernel⟩, List.mem_of_getElem? (i := 1051) (by decide +kernel), List.mem_of_getElem? (i := 1570) (by decide +kernel), List.mem_of_getElem? (i := 1571) (by decide +kernel)⟩
theorem lw_p81 : lw_okq (⟨"SkippingKeysModel", "leads", "(IIIIZ)Z"⟩, 41) := ⟨⟨by decide +kernel, by decide +kernel⟩, List.mem_of_getElem? (i := 1051) (by decide +kernel), List.mem_of_getElem? (i := 1586) (by decide +kernel), List.mem_of_getElem? (i := 1587) (by decide +kernel)⟩
theorem lw_p82 : lw_okq (⟨"SkippingKeysModel", "findIn", "(III)V"⟩, 41) := ⟨⟨by decide +kernel, by decide +kernel⟩, List.mem_of_getElem? (i := 1051) (by decide +kernel), List.mem_of_getElem? (i := 1594) (by decide +kernel), List.mem_of_getElem? (i := 1595) (by decide +kernel)⟩
theorem lw_p83 : lw_okq (⟨"SkippingKeysModel", "isAhead", "(IIII)Z"⟩, 41) := ⟨⟨by decide +kernel, by decide +kernel⟩, List.mem_of_getElem? (i := 1051) (by decide +kernel), List.mem_of_getElem? (i := 1598) (by decide +kernel), List.mem_of_getElem? (i := 1599) (by decide +kernel)⟩
theorem lw_p84 : lw_okq (⟨"SkippingKeysModel", "differ", "(II)I"⟩, 41) := ⟨⟨by decide +kernel, by decide +kernel⟩, List.mem_of_getElem? (i := 1051) (by decide +kernel), List.mem_of_getElem? (i := 1621) (by decide +kernel), List.mem_of_getElem? (i := 1622) (by decide +kernel)⟩
theorem lw_p85 : lw_okq (⟨"SkippingKeysModel", "isTold", "(IIIII)Z"⟩, 41) := ⟨⟨by decide +kernel, by decide +kernel⟩, List.mem_of_getElem? (i := 1051) (by decide +kernel), List.mem_of_getElem? (i := 1633) (by decide +kernel), List.mem_of_getElem? (i := 1634) (by decide +kernel)⟩
theorem lw_p86 : lw_okq (⟨"SkippingKeysModel", "draw", "(I)I"⟩, 41) := ⟨⟨by decide +kernel, by decide +kernel⟩, List.mem_of_getElem? (i := 1051) (by decide +kernel), List.mem_of_getElem? (i := 1654) (by decide +kernel), List.mem_of_getElem? (i := 1655) (by decide +kernel)⟩
theorem lw_p87 : lw_okq (⟨"SkippingKeysModel", "differentKeys", "()I"⟩, 41) := ⟨⟨by decide +kernel, by decide +kernel⟩, List.mem_of_getElem? (i := 1051) (by decide +kernel), List.mem_of_getElem? (i := 1678) (by decide +kernel), List.mem_of_getElem? (i := 1679) (by decide +kernel)⟩
def lw_privs_6 : List (MethodName × Nat) := [(⟨"SkippingKeysModel", "bestIn", "(II)I"⟩, 41), (⟨"SkippingKeysModel", "leads", "(IIIIZ)Z"⟩, 41), (⟨"SkippingKeysModel", "findIn", "(III)V"⟩, 41), (⟨"SkippingKeysModel", "isAhead", "(IIII)Z"⟩, 41), (⟨"SkippingKeysModel", "differ", "(II)I"⟩, 41), (⟨"SkippingKeysModel", "isTold", "(IIIII)Z"⟩, 41), (⟨"SkippingKeysModel", "draw", "(I)I"⟩, 41), (⟨"SkippingKeysModel", "differentKeys", "()I"⟩, 41)]
theorem lw_r6 : ∀ q ∈ lw_privs_6, lw_okq q := List.forall_mem_cons.mpr ⟨lw_p80, List.forall_mem_cons.mpr ⟨lw_p81, List.forall_mem_cons.mpr ⟨lw_p82, List.forall_mem_cons.mpr ⟨lw_p83, List.forall_mem_cons.mpr ⟨lw_p84, List.forall_mem_cons.mpr ⟨lw_p85, List.forall_mem_cons.mpr ⟨lw_p86, List.forall_mem_cons.mpr ⟨lw_p87, fun _ h => absurd h List.not_mem_nil⟩⟩⟩⟩⟩⟩⟩⟩
def lw_privs : List (MethodName × Nat) := lw_privs_1 ++ (lw_privs_2 ++ (lw_privs_3 ++ (lw_privs_4 ++ (lw_privs_5 ++ (lw_privs_6)))))
def lw_tbl : List Cond := k2_sels lw_privs ++ tables_1
theorem lw_privs_ok : ∀ q ∈ lw_privs, lw_okq q := by
  show ∀ q ∈ lw_privs_1 ++ (lw_privs_2 ++ (lw_privs_3 ++ (lw_privs_4 ++ (lw_privs_5 ++ (lw_privs_6))))), lw_okq q
  exact List.forall_mem_append.mpr ⟨lw_r1, List.forall_mem_append.mpr ⟨lw_r2, List.forall_mem_append.mpr ⟨lw_r3, List.forall_mem_append.mpr ⟨lw_r4, List.forall_mem_append.mpr ⟨lw_r5, lw_r6⟩⟩⟩⟩⟩

def RX0 : String := "SkippingKeys$Condition"
def RX1 : String := "SkippingKeys$Conditions"
def RX2 : String := "SkippingKeys$Lines"
def RX3 : String := "SkippingKeys$Ranking"
def RX4 : String := "SkippingKeys$Reader"
def RX5 : String := "SkippingKeys$Shelves"
def RX6 : String := "SkippingKeys$Spans"
def RX7 : String := "SkippingKeys$Tape"
def RX8 : String := "SkippingKeys"
def RX9 : String := "SkippingKeysModel"
def RJ6 : String := "java/lang/Integer"
def RJ9 : String := "java/lang/Math"
def RJ10 : String := "java/lang/System"
def RL : String := "SkippingKeysLaw"
def TX0 : u_T := fun k => match k with
  | 0 => ("SkippingKeys$Condition", "kind", "I", false)
  | 1 => ("SkippingKeys$Condition", "sign", "I", false)
  | 2 => ("SkippingKeys$Condition", "x", "I", false)
  | 3 => ("SkippingKeys$Condition", "y", "I", false)
  | 4 => ("SkippingKeys$Condition", "remainder", "I", false)
  | 5 => ("SkippingKeys$Condition", "columnBits", "I", false)
  | 6 => ("SkippingKeys$Condition", "deep", "I", false)
  | 7 => ("SkippingKeys$Condition", "parts", "I", false)
  | 8 => ("SkippingKeys$Condition", "truths", "[B", true)
  | 9 => ("SkippingKeys$Condition", "size", "I", false)
  | 10 => ("SkippingKeys$Condition", "columns", "[I", true)
  | _ => ("SkippingKeys$Condition", "wanted", "[I", true)
def tyX0 : Nat → FieldType := fun k => match k with
  | 0 => .int
  | 1 => .int
  | 2 => .int
  | 3 => .int
  | 4 => .int
  | 5 => .int
  | 6 => .int
  | 7 => .int
  | 8 => .array .byte
  | 9 => .int
  | 10 => .array .int
  | _ => .array .int
theorem nmX0 : ∀ a, a < 12 → ∀ b, b < 12 → a ≠ b → (TX0 a).2.1 ≠ (TX0 b).2.1 := by decide +kernel
theorem tyX0_ok : ∀ k, k < 12 → parseFieldDescriptor (TX0 k).2.2.1 = some (tyX0 k) := by decide +kernel
def TX1 : u_T := fun k => match k with
  | 0 => ("SkippingKeys$Conditions", "list", "[LSkippingKeys$Condition;", true)
  | 1 => ("SkippingKeys$Conditions", "count", "I", false)
  | _ => ("SkippingKeys$Conditions", "drafts", "I", false)
def tyX1 : Nat → FieldType := fun k => match k with
  | 0 => .array (.object "SkippingKeys$Condition")
  | 1 => .int
  | _ => .int
theorem nmX1 : ∀ a, a < 3 → ∀ b, b < 3 → a ≠ b → (TX1 a).2.1 ≠ (TX1 b).2.1 := by decide +kernel
theorem tyX1_ok : ∀ k, k < 3 → parseFieldDescriptor (TX1 k).2.2.1 = some (tyX1 k) := by decide +kernel
def TX2 : u_T := fun k => match k with
  | 0 => ("SkippingKeys$Lines", "places", "[I", true)
  | 1 => ("SkippingKeys$Lines", "count", "I", false)
  | 2 => ("SkippingKeys$Lines", "price", "I", false)
  | _ => ("SkippingKeys$Lines", "seed", "I", false)
def tyX2 : Nat → FieldType := fun k => match k with
  | 0 => .array .int
  | 1 => .int
  | 2 => .int
  | _ => .int
theorem nmX2 : ∀ a, a < 4 → ∀ b, b < 4 → a ≠ b → (TX2 a).2.1 ≠ (TX2 b).2.1 := by decide +kernel
theorem tyX2_ok : ∀ k, k < 4 → parseFieldDescriptor (TX2 k).2.2.1 = some (tyX2 k) := by decide +kernel
def TX3 : u_T := fun k => match k with
  | 0 => ("SkippingKeys$Ranking", "codes", "[I", true)
  | _ => ("SkippingKeys$Ranking", "count", "I", false)
def tyX3 : Nat → FieldType := fun k => match k with
  | 0 => .array .int
  | _ => .int
theorem nmX3 : ∀ a, a < 2 → ∀ b, b < 2 → a ≠ b → (TX3 a).2.1 ≠ (TX3 b).2.1 := by decide +kernel
theorem tyX3_ok : ∀ k, k < 2 → parseFieldDescriptor (TX3 k).2.2.1 = some (tyX3 k) := by decide +kernel
def TX4 : u_T := fun k => match k with
  | 0 => ("SkippingKeys$Reader", "values", "[I", true)
  | 1 => ("SkippingKeys$Reader", "valueCount", "I", false)
  | 2 => ("SkippingKeys$Reader", "open", "[I", true)
  | 3 => ("SkippingKeys$Reader", "openCount", "I", false)
  | 4 => ("SkippingKeys$Reader", "whole", "[I", true)
  | _ => ("SkippingKeys$Reader", "wholeCount", "I", false)
def tyX4 : Nat → FieldType := fun k => match k with
  | 0 => .array .int
  | 1 => .int
  | 2 => .array .int
  | 3 => .int
  | 4 => .array .int
  | _ => .int
theorem nmX4 : ∀ a, a < 6 → ∀ b, b < 6 → a ≠ b → (TX4 a).2.1 ≠ (TX4 b).2.1 := by decide +kernel
theorem tyX4_ok : ∀ k, k < 6 → parseFieldDescriptor (TX4 k).2.2.1 = some (tyX4 k) := by decide +kernel
def TX5 : u_T := fun k => match k with
  | 0 => ("SkippingKeys$Shelves", "held", "[I", true)
  | 1 => ("SkippingKeys$Shelves", "sizes", "[I", true)
  | _ => ("SkippingKeys$Shelves", "elements", "[J", true)
def tyX5 : Nat → FieldType := fun k => match k with
  | 0 => .array .int
  | 1 => .array .int
  | _ => .array .long
theorem nmX5 : ∀ a, a < 3 → ∀ b, b < 3 → a ≠ b → (TX5 a).2.1 ≠ (TX5 b).2.1 := by decide +kernel
theorem tyX5_ok : ∀ k, k < 3 → parseFieldDescriptor (TX5 k).2.2.1 = some (tyX5 k) := by decide +kernel
def TX6 : u_T := fun k => match k with
  | 0 => ("SkippingKeys$Spans", "truths", "[B", true)
  | 1 => ("SkippingKeys$Spans", "first", "[I", true)
  | 2 => ("SkippingKeys$Spans", "last", "[I", true)
  | 3 => ("SkippingKeys$Spans", "begun", "[I", true)
  | 4 => ("SkippingKeys$Spans", "gapOrder", "[I", true)
  | 5 => ("SkippingKeys$Spans", "firstOfWidth", "[I", true)
  | 6 => ("SkippingKeys$Spans", "nextOfWidth", "[I", true)
  | 7 => ("SkippingKeys$Spans", "joined", "[Z", true)
  | 8 => ("SkippingKeys$Spans", "linesInGap", "[I", true)
  | 9 => ("SkippingKeys$Spans", "count", "I", false)
  | 10 => ("SkippingKeys$Spans", "bestSize", "I", false)
  | _ => ("SkippingKeys$Spans", "bestCost", "I", false)
def tyX6 : Nat → FieldType := fun k => match k with
  | 0 => .array .byte
  | 1 => .array .int
  | 2 => .array .int
  | 3 => .array .int
  | 4 => .array .int
  | 5 => .array .int
  | 6 => .array .int
  | 7 => .array .boolean
  | 8 => .array .int
  | 9 => .int
  | 10 => .int
  | _ => .int
theorem nmX6 : ∀ a, a < 12 → ∀ b, b < 12 → a ≠ b → (TX6 a).2.1 ≠ (TX6 b).2.1 := by decide +kernel
theorem tyX6_ok : ∀ k, k < 12 → parseFieldDescriptor (TX6 k).2.2.1 = some (tyX6 k) := by decide +kernel
def TX7 : u_T := fun k => match k with
  | 0 => ("SkippingKeys$Tape", "bytes", "[I", true)
  | 1 => ("SkippingKeys$Tape", "size", "I", false)
  | _ => ("SkippingKeys$Tape", "place", "I", false)
def tyX7 : Nat → FieldType := fun k => match k with
  | 0 => .array .int
  | 1 => .int
  | _ => .int
theorem nmX7 : ∀ a, a < 3 → ∀ b, b < 3 → a ≠ b → (TX7 a).2.1 ≠ (TX7 b).2.1 := by decide +kernel
theorem tyX7_ok : ∀ k, k < 3 → parseFieldDescriptor (TX7 k).2.2.1 = some (tyX7 k) := by decide +kernel
def TX8 : u_T := fun k => match k with
  | 0 => ("SkippingKeys", "lines", "LSkippingKeys$Lines;", true)
  | 1 => ("SkippingKeys", "keptLines", "LSkippingKeys$Lines;", true)
  | 2 => ("SkippingKeys", "conditions", "LSkippingKeys$Conditions;", true)
  | 3 => ("SkippingKeys", "keptConditions", "LSkippingKeys$Conditions;", true)
  | 4 => ("SkippingKeys", "shelves", "LSkippingKeys$Shelves;", true)
  | 5 => ("SkippingKeys", "tape", "LSkippingKeys$Tape;", true)
  | 6 => ("SkippingKeys", "reader", "LSkippingKeys$Reader;", true)
  | 7 => ("SkippingKeys", "spans", "LSkippingKeys$Spans;", true)
  | 8 => ("SkippingKeys", "ranking", "LSkippingKeys$Ranking;", true)
  | 9 => ("SkippingKeys", "refusals", "[I", true)
  | 10 => ("SkippingKeys", "seen", "[Z", true)
  | _ => ("SkippingKeys", "hasImage", "Z", false)
def tyX8 : Nat → FieldType := fun k => match k with
  | 0 => .object "SkippingKeys$Lines"
  | 1 => .object "SkippingKeys$Lines"
  | 2 => .object "SkippingKeys$Conditions"
  | 3 => .object "SkippingKeys$Conditions"
  | 4 => .object "SkippingKeys$Shelves"
  | 5 => .object "SkippingKeys$Tape"
  | 6 => .object "SkippingKeys$Reader"
  | 7 => .object "SkippingKeys$Spans"
  | 8 => .object "SkippingKeys$Ranking"
  | 9 => .array .int
  | 10 => .array .boolean
  | _ => .boolean
theorem nmX8 : ∀ a, a < 12 → ∀ b, b < 12 → a ≠ b → (TX8 a).2.1 ≠ (TX8 b).2.1 := by decide +kernel
theorem tyX8_ok : ∀ k, k < 12 → parseFieldDescriptor (TX8 k).2.2.1 = some (tyX8 k) := by decide +kernel
def TX9 : u_T := fun k => match k with
  | 0 => ("SkippingKeysModel", "shelf", "[I", true)
  | 1 => ("SkippingKeysModel", "rowSort", "[I", true)
  | 2 => ("SkippingKeysModel", "rowSize", "[I", true)
  | 3 => ("SkippingKeysModel", "rows", "[[J", true)
  | 4 => ("SkippingKeysModel", "moved", "[J", true)
  | 5 => ("SkippingKeysModel", "shown", "[I", true)
  | 6 => ("SkippingKeysModel", "tape", "[I", true)
  | 7 => ("SkippingKeysModel", "tapeSize", "I", false)
  | 8 => ("SkippingKeysModel", "refused", "[I", true)
  | 9 => ("SkippingKeysModel", "lines", "I", false)
  | 10 => ("SkippingKeysModel", "conds", "I", false)
  | 11 => ("SkippingKeysModel", "price", "I", false)
  | 12 => ("SkippingKeysModel", "seed", "I", false)
  | 13 => ("SkippingKeysModel", "cells", "[I", true)
  | 14 => ("SkippingKeysModel", "kind", "[I", true)
  | 15 => ("SkippingKeysModel", "sign", "[I", true)
  | 16 => ("SkippingKeysModel", "said", "[I", true)
  | 17 => ("SkippingKeysModel", "isKept", "Z", false)
  | 18 => ("SkippingKeysModel", "keptLines", "I", false)
  | 19 => ("SkippingKeysModel", "keptConds", "I", false)
  | 20 => ("SkippingKeysModel", "keptPrice", "I", false)
  | 21 => ("SkippingKeysModel", "keptSeed", "I", false)
  | 22 => ("SkippingKeysModel", "keptCells", "[I", true)
  | 23 => ("SkippingKeysModel", "keptKind", "[I", true)
  | 24 => ("SkippingKeysModel", "keptSign", "[I", true)
  | 25 => ("SkippingKeysModel", "keptSaid", "[I", true)
  | 26 => ("SkippingKeysModel", "is", "[B", true)
  | 27 => ("SkippingKeysModel", "columnsIn", "[I", true)
  | 28 => ("SkippingKeysModel", "deep", "[I", true)
  | 29 => ("SkippingKeysModel", "parts", "[I", true)
  | 30 => ("SkippingKeysModel", "firsts", "[I", true)
  | 31 => ("SkippingKeysModel", "lasts", "[I", true)
  | 32 => ("SkippingKeysModel", "spans", "I", false)
  | 33 => ("SkippingKeysModel", "found", "[I", true)
  | 34 => ("SkippingKeysModel", "foundMany", "I", false)
  | 35 => ("SkippingKeysModel", "spot", "I", false)
  | 36 => ("SkippingKeysModel", "fault", "I", false)
  | 37 => ("SkippingKeysModel", "made", "I", false)
  | 38 => ("SkippingKeysModel", "told", "[I", true)
  | 39 => ("SkippingKeysModel", "toldSign", "I", false)
  | _ => ("SkippingKeysModel", "leastCost", "I", false)
def tyX9 : Nat → FieldType := fun k => match k with
  | 0 => .array .int
  | 1 => .array .int
  | 2 => .array .int
  | 3 => .array (.array .long)
  | 4 => .array .long
  | 5 => .array .int
  | 6 => .array .int
  | 7 => .int
  | 8 => .array .int
  | 9 => .int
  | 10 => .int
  | 11 => .int
  | 12 => .int
  | 13 => .array .int
  | 14 => .array .int
  | 15 => .array .int
  | 16 => .array .int
  | 17 => .boolean
  | 18 => .int
  | 19 => .int
  | 20 => .int
  | 21 => .int
  | 22 => .array .int
  | 23 => .array .int
  | 24 => .array .int
  | 25 => .array .int
  | 26 => .array .byte
  | 27 => .array .int
  | 28 => .array .int
  | 29 => .array .int
  | 30 => .array .int
  | 31 => .array .int
  | 32 => .int
  | 33 => .array .int
  | 34 => .int
  | 35 => .int
  | 36 => .int
  | 37 => .int
  | 38 => .array .int
  | 39 => .int
  | _ => .int
theorem nmX9 : ∀ a, a < 41 → ∀ b, b < 41 → a ≠ b → (TX9 a).2.1 ≠ (TX9 b).2.1 := by decide +kernel
theorem tyX9_ok : ∀ k, k < 41 → parseFieldDescriptor (TX9 k).2.2.1 = some (tyX9 k) := by decide +kernel
abbrev vwCl : List vw_C := [(RX0, TX0, 12), (RX1, TX1, 3), (RX2, TX2, 4), (RX3, TX3, 2), (RX4, TX4, 6), (RX5, TX5, 3), (RX6, TX6, 12), (RX7, TX7, 3), (RX8, TX8, 12), (RX9, TX9, 41)]
abbrev cX0_init : ByteArray := prog_2_method_1_code
def yX0_init : MethodName := ⟨RX0, "<init>", "()V"⟩
abbrev cX0_begin : ByteArray := prog_2_method_2_code
def yX0_begin : MethodName := ⟨RX0, "begin", "(IIII)V"⟩
abbrev cX0_addColumn : ByteArray := prog_2_method_3_code
def yX0_addColumn : MethodName := ⟨RX0, "addColumn", "(II)V"⟩
abbrev cX0_columnCount : ByteArray := prog_2_method_4_code
def yX0_columnCount : MethodName := ⟨RX0, "columnCount", "()I"⟩
abbrev cX0_want : ByteArray := prog_2_method_5_code
def yX0_want : MethodName := ⟨RX0, "want", "(II)V"⟩
abbrev cX0_names : ByteArray := prog_2_method_6_code
def yX0_names : MethodName := ⟨RX0, "names", "(I)Z"⟩
abbrev cX0_copyFrom : ByteArray := prog_2_method_7_code
def yX0_copyFrom : MethodName := ⟨RX0, "copyFrom", "(LSkippingKeys$Condition;)V"⟩
abbrev cX0_settleLeaf : ByteArray := prog_2_method_8_code
def yX0_settleLeaf : MethodName := ⟨RX0, "settleLeaf", "(I)V"⟩
abbrev cX0_settleOver : ByteArray := prog_2_method_9_code
def yX0_settleOver : MethodName := ⟨RX0, "settleOver", "(ILSkippingKeys$Condition;LSkippingKeys$Condition;)V"⟩
abbrev cX0_leafTruth : ByteArray := prog_2_method_10_code
def yX0_leafTruth : MethodName := ⟨RX0, "leafTruth", "(I)I"⟩
abbrev cX0_digitOf : ByteArray := prog_2_method_11_code
def yX0_digitOf : MethodName := ⟨RX0, "digitOf", "(II)I"⟩
abbrev cX0_orDoubt : ByteArray := prog_2_method_12_code
def yX0_orDoubt : MethodName := ⟨RX0, "orDoubt", "(IZ)I"⟩
abbrev cX0_orderTruth : ByteArray := prog_2_method_13_code
def yX0_orderTruth : MethodName := ⟨RX0, "orderTruth", "(I)I"⟩
abbrev cX0_equalTruth : ByteArray := prog_2_method_14_code
def yX0_equalTruth : MethodName := ⟨RX0, "equalTruth", "(I)I"⟩
abbrev cX0_joinedTruth : ByteArray := prog_2_method_15_code
def yX0_joinedTruth : MethodName := ⟨RX0, "joinedTruth", "(II)I"⟩
abbrev cX0_opposite : ByteArray := prog_2_method_16_code
def yX0_opposite : MethodName := ⟨RX0, "opposite", "(I)I"⟩
abbrev cX0_isOfSort : ByteArray := prog_2_method_17_code
def yX0_isOfSort : MethodName := ⟨RX0, "isOfSort", "(I)Z"⟩
abbrev cX0_toldAs : ByteArray := prog_2_method_18_code
def yX0_toldAs : MethodName := ⟨RX0, "toldAs", "(I)I"⟩
abbrev cX0_countKeys : ByteArray := prog_2_method_19_code
def yX0_countKeys : MethodName := ⟨RX0, "countKeys", "(I)I"⟩
abbrev cX0_valuesIn : ByteArray := prog_2_method_20_code
def yX0_valuesIn : MethodName := ⟨RX0, "valuesIn", "(I)I"⟩
abbrev cX0_firstUnlike : ByteArray := prog_2_method_21_code
def yX0_firstUnlike : MethodName := ⟨RX0, "firstUnlike", "(LSkippingKeys$Condition;)I"⟩
abbrev cX1_init : ByteArray := prog_3_method_1_code
def yX1_init : MethodName := ⟨RX1, "<init>", "()V"⟩
abbrev cX1_copyFrom : ByteArray := prog_3_method_2_code
def yX1_copyFrom : MethodName := ⟨RX1, "copyFrom", "(LSkippingKeys$Conditions;)V"⟩
abbrev cX1_has : ByteArray := prog_3_method_3_code
def yX1_has : MethodName := ⟨RX1, "has", "(I)Z"⟩
abbrev cX1_at : ByteArray := prog_3_method_4_code
def yX1_at : MethodName := ⟨RX1, "at", "(I)LSkippingKeys$Condition;"⟩
abbrev cX1_draft : ByteArray := prog_3_method_5_code
def yX1_draft : MethodName := ⟨RX1, "draft", "(II)LSkippingKeys$Condition;"⟩
abbrev cX1_draftOver : ByteArray := prog_3_method_6_code
def yX1_draftOver : MethodName := ⟨RX1, "draftOver", "(III)V"⟩
abbrev cX1_lastDraft : ByteArray := prog_3_method_7_code
def yX1_lastDraft : MethodName := ⟨RX1, "lastDraft", "()I"⟩
abbrev cX1_fitsDrafts : ByteArray := prog_3_method_8_code
def yX1_fitsDrafts : MethodName := ⟨RX1, "fitsDrafts", "()Z"⟩
abbrev cX1_forgetDrafts : ByteArray := prog_3_method_9_code
def yX1_forgetDrafts : MethodName := ⟨RX1, "forgetDrafts", "()V"⟩
abbrev cX1_settleDrafts : ByteArray := prog_3_method_10_code
def yX1_settleDrafts : MethodName := ⟨RX1, "settleDrafts", "()V"⟩
abbrev cX2_init : ByteArray := prog_4_method_1_code
def yX2_init : MethodName := ⟨RX2, "<init>", "()V"⟩
abbrev cX2_copyFrom : ByteArray := prog_4_method_2_code
def yX2_copyFrom : MethodName := ⟨RX2, "copyFrom", "(LSkippingKeys$Lines;)V"⟩
abbrev cX2_has : ByteArray := prog_4_method_3_code
def yX2_has : MethodName := ⟨RX2, "has", "(I)Z"⟩
abbrev cX2_valueOf : ByteArray := prog_4_method_4_code
def yX2_valueOf : MethodName := ⟨RX2, "valueOf", "(II)I"⟩
abbrev cX2_put : ByteArray := prog_4_method_5_code
def yX2_put : MethodName := ⟨RX2, "put", "(III)V"⟩
abbrev cX2_putAll : ByteArray := prog_4_method_6_code
def yX2_putAll : MethodName := ⟨RX2, "putAll", "(IIII)V"⟩
abbrev cX2_add : ByteArray := prog_4_method_7_code
def yX2_add : MethodName := ⟨RX2, "add", "(III)V"⟩
abbrev cX2_remove : ByteArray := prog_4_method_8_code
def yX2_remove : MethodName := ⟨RX2, "remove", "(I)V"⟩
abbrev cX2_keyIn : ByteArray := prog_4_method_9_code
def yX2_keyIn : MethodName := ⟨RX2, "keyIn", "(II)I"⟩
abbrev cX2_truthOf : ByteArray := prog_4_method_10_code
def yX2_truthOf : MethodName := ⟨RX2, "truthOf", "(LSkippingKeys$Condition;I)I"⟩
abbrev cX2_countOf : ByteArray := prog_4_method_11_code
def yX2_countOf : MethodName := ⟨RX2, "countOf", "(LSkippingKeys$Condition;I)I"⟩
abbrev cX2_countValue : ByteArray := prog_4_method_12_code
def yX2_countValue : MethodName := ⟨RX2, "countValue", "(II)I"⟩
abbrev cX2_liveDay : ByteArray := prog_4_method_13_code
def yX2_liveDay : MethodName := ⟨RX2, "liveDay", "()V"⟩
abbrev cX2_draw : ByteArray := prog_4_method_14_code
def yX2_draw : MethodName := ⟨RX2, "draw", "(I)I"⟩
abbrev cX3_init : ByteArray := prog_5_method_1_code
def yX3_init : MethodName := ⟨RX3, "<init>", "()V"⟩
abbrev cX3_codeOf : ByteArray := prog_5_method_2_code
def yX3_codeOf : MethodName := ⟨RX3, "codeOf", "(III)I"⟩
abbrev cX3_rank : ByteArray := prog_5_method_3_code
def yX3_rank : MethodName := ⟨RX3, "rank", "(LSkippingKeys$Lines;LSkippingKeys$Condition;II)V"⟩
abbrev cX3_insert : ByteArray := prog_5_method_4_code
def yX3_insert : MethodName := ⟨RX3, "insert", "(I)V"⟩
abbrev cX3_lineAt : ByteArray := prog_5_method_5_code
def yX3_lineAt : MethodName := ⟨RX3, "lineAt", "(I)I"⟩
abbrev cX3_firstBehind : ByteArray := prog_5_method_6_code
def yX3_firstBehind : MethodName := ⟨RX3, "firstBehind", "(I)I"⟩
abbrev cX4_init : ByteArray := prog_6_method_1_code
def yX4_init : MethodName := ⟨RX4, "<init>", "()V"⟩
abbrev cX4_readTable : ByteArray := prog_6_method_2_code
def yX4_readTable : MethodName := ⟨RX4, "readTable", "(LSkippingKeys$Tape;)Z"⟩
abbrev cX4_readLine : ByteArray := prog_6_method_3_code
def yX4_readLine : MethodName := ⟨RX4, "readLine", "(LSkippingKeys$Tape;)Z"⟩
abbrev cX4_lineCount : ByteArray := prog_6_method_4_code
def yX4_lineCount : MethodName := ⟨RX4, "lineCount", "()I"⟩
abbrev cX4_valueRead : ByteArray := prog_6_method_5_code
def yX4_valueRead : MethodName := ⟨RX4, "valueRead", "(II)I"⟩
abbrev cX4_readCondition : ByteArray := prog_6_method_6_code
def yX4_readCondition : MethodName := ⟨RX4, "readCondition", "(LSkippingKeys$Tape;LSkippingKeys$Conditions;)Z"⟩
abbrev cX4_isTurnSign : ByteArray := prog_6_method_7_code
def yX4_isTurnSign : MethodName := ⟨RX4, "isTurnSign", "(I)Z"⟩
abbrev cX4_isClosed : ByteArray := prog_6_method_8_code
def yX4_isClosed : MethodName := ⟨RX4, "isClosed", "(LSkippingKeys$Conditions;)Z"⟩
abbrev cX4_readBehindTurn : ByteArray := prog_6_method_9_code
def yX4_readBehindTurn : MethodName := ⟨RX4, "readBehindTurn", "(LSkippingKeys$Tape;LSkippingKeys$Conditions;I)Z"⟩
abbrev cX4_turnIsWhole : ByteArray := prog_6_method_10_code
def yX4_turnIsWhole : MethodName := ⟨RX4, "turnIsWhole", "(LSkippingKeys$Conditions;I)V"⟩
abbrev cX4_closeOr : ByteArray := prog_6_method_11_code
def yX4_closeOr : MethodName := ⟨RX4, "closeOr", "(LSkippingKeys$Conditions;)V"⟩
abbrev cX4_pushOpen : ByteArray := prog_6_method_12_code
def yX4_pushOpen : MethodName := ⟨RX4, "pushOpen", "(I)V"⟩
abbrev cX4_topOpen : ByteArray := prog_6_method_13_code
def yX4_topOpen : MethodName := ⟨RX4, "topOpen", "()I"⟩
abbrev cX4_popOpen : ByteArray := prog_6_method_14_code
def yX4_popOpen : MethodName := ⟨RX4, "popOpen", "()V"⟩
abbrev cX4_pushWhole : ByteArray := prog_6_method_15_code
def yX4_pushWhole : MethodName := ⟨RX4, "pushWhole", "(I)V"⟩
abbrev cX4_popWhole : ByteArray := prog_6_method_16_code
def yX4_popWhole : MethodName := ⟨RX4, "popWhole", "()I"⟩
abbrev cX4_readLeaf : ByteArray := prog_6_method_17_code
def yX4_readLeaf : MethodName := ⟨RX4, "readLeaf", "(LSkippingKeys$Tape;LSkippingKeys$Condition;)Z"⟩
abbrev cX4_readCompared : ByteArray := prog_6_method_18_code
def yX4_readCompared : MethodName := ⟨RX4, "readCompared", "(LSkippingKeys$Tape;LSkippingKeys$Condition;)Z"⟩
abbrev cX4_readAmong : ByteArray := prog_6_method_19_code
def yX4_readAmong : MethodName := ⟨RX4, "readAmong", "(LSkippingKeys$Tape;LSkippingKeys$Condition;)Z"⟩
abbrev cX4_readRest : ByteArray := prog_6_method_20_code
def yX4_readRest : MethodName := ⟨RX4, "readRest", "(LSkippingKeys$Tape;LSkippingKeys$Condition;)Z"⟩
abbrev cX4_readSeveral : ByteArray := prog_6_method_21_code
def yX4_readSeveral : MethodName := ⟨RX4, "readSeveral", "(LSkippingKeys$Tape;LSkippingKeys$Condition;)Z"⟩
abbrev cX5_init : ByteArray := prog_7_method_1_code
def yX5_init : MethodName := ⟨RX5, "<init>", "()V"⟩
abbrev cX5_isShelf : ByteArray := prog_7_method_2_code
def yX5_isShelf : MethodName := ⟨RX5, "isShelf", "(I)Z"⟩
abbrev cX5_heldBy : ByteArray := prog_7_method_3_code
def yX5_heldBy : MethodName := ⟨RX5, "heldBy", "(I)I"⟩
abbrev cX5_empty : ByteArray := prog_7_method_4_code
def yX5_empty : MethodName := ⟨RX5, "empty", "(I)V"⟩
abbrev cX5_holdCondition : ByteArray := prog_7_method_5_code
def yX5_holdCondition : MethodName := ⟨RX5, "holdCondition", "(II)V"⟩
abbrev cX5_conditionIn : ByteArray := prog_7_method_6_code
def yX5_conditionIn : MethodName := ⟨RX5, "conditionIn", "(I)I"⟩
abbrev cX5_layRow : ByteArray := prog_7_method_7_code
def yX5_layRow : MethodName := ⟨RX5, "layRow", "(III)V"⟩
abbrev cX5_whyNoRow : ByteArray := prog_7_method_8_code
def yX5_whyNoRow : MethodName := ⟨RX5, "whyNoRow", "(I)I"⟩
abbrev cX5_whyNoRowOf : ByteArray := prog_7_method_9_code
def yX5_whyNoRowOf : MethodName := ⟨RX5, "whyNoRowOf", "(II)I"⟩
abbrev cX5_whyNoTwoRows : ByteArray := prog_7_method_10_code
def yX5_whyNoTwoRows : MethodName := ⟨RX5, "whyNoTwoRows", "(II)I"⟩
abbrev cX5_hasElement : ByteArray := prog_7_method_11_code
def yX5_hasElement : MethodName := ⟨RX5, "hasElement", "(II)Z"⟩
abbrev cX5_hasPart : ByteArray := prog_7_method_12_code
def yX5_hasPart : MethodName := ⟨RX5, "hasPart", "(III)Z"⟩
abbrev cX5_elementAt : ByteArray := prog_7_method_13_code
def yX5_elementAt : MethodName := ⟨RX5, "elementAt", "(II)J"⟩
abbrev cX5_put : ByteArray := prog_7_method_14_code
def yX5_put : MethodName := ⟨RX5, "put", "(IIJ)V"⟩
abbrev cX5_carry : ByteArray := prog_7_method_15_code
def yX5_carry : MethodName := ⟨RX5, "carry", "(IIIII)V"⟩
abbrev cX5_kept : ByteArray := prog_7_method_16_code
def yX5_kept : MethodName := ⟨RX5, "kept", "(IJ)J"⟩
abbrev cX5_forgetConditionsFrom : ByteArray := prog_7_method_17_code
def yX5_forgetConditionsFrom : MethodName := ⟨RX5, "forgetConditionsFrom", "(I)V"⟩
abbrev cX5_countHolding : ByteArray := prog_7_method_18_code
def yX5_countHolding : MethodName := ⟨RX5, "countHolding", "()I"⟩
abbrev cX6_init : ByteArray := prog_8_method_1_code
def yX6_init : MethodName := ⟨RX6, "<init>", "()V"⟩
abbrev cX6_layOut : ByteArray := prog_8_method_2_code
def yX6_layOut : MethodName := ⟨RX6, "layOut", "(LSkippingKeys$Condition;I)V"⟩
abbrev cX6_runTold : ByteArray := prog_8_method_3_code
def yX6_runTold : MethodName := ⟨RX6, "runTold", "(I)I"⟩
abbrev cX6_planSize : ByteArray := prog_8_method_4_code
def yX6_planSize : MethodName := ⟨RX6, "planSize", "(I)I"⟩
abbrev cX6_widthOf : ByteArray := prog_8_method_5_code
def yX6_widthOf : MethodName := ⟨RX6, "widthOf", "(I)I"⟩
abbrev cX6_orderGaps : ByteArray := prog_8_method_6_code
def yX6_orderGaps : MethodName := ⟨RX6, "orderGaps", "()V"⟩
abbrev cX6_joinDownTo : ByteArray := prog_8_method_7_code
def yX6_joinDownTo : MethodName := ⟨RX6, "joinDownTo", "(I)V"⟩
abbrev cX6_spanTold : ByteArray := prog_8_method_8_code
def yX6_spanTold : MethodName := ⟨RX6, "spanTold", "(I)I"⟩
abbrev cX6_gapAt : ByteArray := prog_8_method_9_code
def yX6_gapAt : MethodName := ⟨RX6, "gapAt", "(I)I"⟩
abbrev cX6_planHas : ByteArray := prog_8_method_10_code
def yX6_planHas : MethodName := ⟨RX6, "planHas", "(I)Z"⟩
abbrev cX6_countKeysBetween : ByteArray := prog_8_method_11_code
def yX6_countKeysBetween : MethodName := ⟨RX6, "countKeysBetween", "()I"⟩
abbrev cX6_countRead : ByteArray := prog_8_method_12_code
def yX6_countRead : MethodName := ⟨RX6, "countRead", "(LSkippingKeys$Lines;I)I"⟩
abbrev cX6_findBest : ByteArray := prog_8_method_13_code
def yX6_findBest : MethodName := ⟨RX6, "findBest", "(LSkippingKeys$Lines;I)V"⟩
abbrev cX6_countLinesByGap : ByteArray := prog_8_method_14_code
def yX6_countLinesByGap : MethodName := ⟨RX6, "countLinesByGap", "(LSkippingKeys$Lines;I)I"⟩
abbrev cX7_init : ByteArray := prog_9_method_1_code
def yX7_init : MethodName := ⟨RX7, "<init>", "()V"⟩
abbrev cX7_append : ByteArray := prog_9_method_2_code
def yX7_append : MethodName := ⟨RX7, "append", "(I)V"⟩
abbrev cX7_wipeAll : ByteArray := prog_9_method_3_code
def yX7_wipeAll : MethodName := ⟨RX7, "wipeAll", "()V"⟩
abbrev cX7_rewind : ByteArray := prog_9_method_4_code
def yX7_rewind : MethodName := ⟨RX7, "rewind", "()V"⟩
abbrev cX7_ahead : ByteArray := prog_9_method_5_code
def yX7_ahead : MethodName := ⟨RX7, "ahead", "()I"⟩
abbrev cX7_take : ByteArray := prog_9_method_6_code
def yX7_take : MethodName := ⟨RX7, "take", "()V"⟩
abbrev cX7_columnAhead : ByteArray := prog_9_method_7_code
def yX7_columnAhead : MethodName := ⟨RX7, "columnAhead", "()I"⟩
abbrev cX7_signAhead : ByteArray := prog_9_method_8_code
def yX7_signAhead : MethodName := ⟨RX7, "signAhead", "()I"⟩
abbrev cX7_digitAhead : ByteArray := prog_9_method_9_code
def yX7_digitAhead : MethodName := ⟨RX7, "digitAhead", "(II)I"⟩
abbrev cX8_init : ByteArray := prog_1_method_1_code
def yX8_init : MethodName := ⟨RX8, "<init>", "()V"⟩
abbrev cX8_row : ByteArray := prog_1_method_2_code
def yX8_row : MethodName := ⟨RX8, "row", "(III)I"⟩
abbrev cX8_set : ByteArray := prog_1_method_3_code
def yX8_set : MethodName := ⟨RX8, "set", "(IIJ)I"⟩
abbrev cX8_copy : ByteArray := prog_1_method_4_code
def yX8_copy : MethodName := ⟨RX8, "copy", "(IIIII)I"⟩
abbrev cX8_element : ByteArray := prog_1_method_5_code
def yX8_element : MethodName := ⟨RX8, "element", "(II)J"⟩
abbrev cX8_holds : ByteArray := prog_1_method_6_code
def yX8_holds : MethodName := ⟨RX8, "holds", "(I)I"⟩
abbrev cX8_show : ByteArray := prog_1_method_7_code
def yX8_show : MethodName := ⟨RX8, "show", "(II)I"⟩
abbrev cX8_says : ByteArray := prog_1_method_8_code
def yX8_says : MethodName := ⟨RX8, "says", "(II)I"⟩
abbrev cX8_line : ByteArray := prog_1_method_9_code
def yX8_line : MethodName := ⟨RX8, "line", "(III)I"⟩
abbrev cX8_alter : ByteArray := prog_1_method_10_code
def yX8_alter : MethodName := ⟨RX8, "alter", "(III)I"⟩
abbrev cX8_strike : ByteArray := prog_1_method_11_code
def yX8_strike : MethodName := ⟨RX8, "strike", "(I)I"⟩
abbrev cX8_price : ByteArray := prog_1_method_12_code
def yX8_price : MethodName := ⟨RX8, "price", "(I)I"⟩
abbrev cX8_feed : ByteArray := prog_1_method_13_code
def yX8_feed : MethodName := ⟨RX8, "feed", "(I)I"⟩
abbrev cX8_wipe : ByteArray := prog_1_method_14_code
def yX8_wipe : MethodName := ⟨RX8, "wipe", "()I"⟩
abbrev cX8_table : ByteArray := prog_1_method_15_code
def yX8_table : MethodName := ⟨RX8, "table", "()I"⟩
abbrev cX8_cond : ByteArray := prog_1_method_16_code
def yX8_cond : MethodName := ⟨RX8, "cond", "()I"⟩
abbrev cX8_test : ByteArray := prog_1_method_17_code
def yX8_test : MethodName := ⟨RX8, "test", "(III)I"⟩
abbrev cX8_among : ByteArray := prog_1_method_18_code
def yX8_among : MethodName := ⟨RX8, "among", "(II)I"⟩
abbrev cX8_gone : ByteArray := prog_1_method_19_code
def yX8_gone : MethodName := ⟨RX8, "gone", "(I)I"⟩
abbrev cX8_columns : ByteArray := prog_1_method_20_code
def yX8_columns : MethodName := ⟨RX8, "columns", "(III)I"⟩
abbrev cX8_rest : ByteArray := prog_1_method_21_code
def yX8_rest : MethodName := ⟨RX8, "rest", "(III)I"⟩
abbrev cX8_several : ByteArray := prog_1_method_22_code
def yX8_several : MethodName := ⟨RX8, "several", "(III)I"⟩
abbrev cX8_pair : ByteArray := prog_1_method_23_code
def yX8_pair : MethodName := ⟨RX8, "pair", "(III)I"⟩
abbrev cX8_turn : ByteArray := prog_1_method_24_code
def yX8_turn : MethodName := ⟨RX8, "turn", "(II)I"⟩
abbrev cX8_drop : ByteArray := prog_1_method_25_code
def yX8_drop : MethodName := ⟨RX8, "drop", "()I"⟩
abbrev cX8_condOf : ByteArray := prog_1_method_26_code
def yX8_condOf : MethodName := ⟨RX8, "condOf", "(II)I"⟩
abbrev cX8_lineOf : ByteArray := prog_1_method_27_code
def yX8_lineOf : MethodName := ⟨RX8, "lineOf", "(II)I"⟩
abbrev cX8_keyOf : ByteArray := prog_1_method_28_code
def yX8_keyOf : MethodName := ⟨RX8, "keyOf", "(II)I"⟩
abbrev cX8_truth : ByteArray := prog_1_method_29_code
def yX8_truth : MethodName := ⟨RX8, "truth", "(III)I"⟩
abbrev cX8_keys : ByteArray := prog_1_method_30_code
def yX8_keys : MethodName := ⟨RX8, "keys", "(II)I"⟩
abbrev cX8_lines : ByteArray := prog_1_method_31_code
def yX8_lines : MethodName := ⟨RX8, "lines", "(II)I"⟩
abbrev cX8_values : ByteArray := prog_1_method_32_code
def yX8_values : MethodName := ⟨RX8, "values", "(II)I"⟩
abbrev cX8_runs : ByteArray := prog_1_method_33_code
def yX8_runs : MethodName := ⟨RX8, "runs", "(II)I"⟩
abbrev cX8_run : ByteArray := prog_1_method_34_code
def yX8_run : MethodName := ⟨RX8, "run", "(III)I"⟩
abbrev cX8_plan : ByteArray := prog_1_method_35_code
def yX8_plan : MethodName := ⟨RX8, "plan", "(IIII)I"⟩
abbrev cX8_of : ByteArray := prog_1_method_36_code
def yX8_of : MethodName := ⟨RX8, "of", "(IIII)I"⟩
abbrev cX8_best : ByteArray := prog_1_method_37_code
def yX8_best : MethodName := ⟨RX8, "best", "(III)I"⟩
abbrev cX8_bestIndex : ByteArray := prog_1_method_38_code
def yX8_bestIndex : MethodName := ⟨RX8, "bestIndex", "(II)I"⟩
abbrev cX8_seek : ByteArray := prog_1_method_39_code
def yX8_seek : MethodName := ⟨RX8, "seek", "(IIII)I"⟩
abbrev cX8_leaders : ByteArray := prog_1_method_40_code
def yX8_leaders : MethodName := ⟨RX8, "leaders", "(IIII)I"⟩
abbrev cX8_found : ByteArray := prog_1_method_41_code
def yX8_found : MethodName := ⟨RX8, "found", "(III)I"⟩
abbrev cX8_order : ByteArray := prog_1_method_42_code
def yX8_order : MethodName := ⟨RX8, "order", "(IIII)I"⟩
abbrev cX8_behind : ByteArray := prog_1_method_43_code
def yX8_behind : MethodName := ⟨RX8, "behind", "(III)I"⟩
abbrev cX8_implies : ByteArray := prog_1_method_44_code
def yX8_implies : MethodName := ⟨RX8, "implies", "(II)I"⟩
abbrev cX8_alike : ByteArray := prog_1_method_45_code
def yX8_alike : MethodName := ⟨RX8, "alike", "(II)I"⟩
abbrev cX8_same : ByteArray := prog_1_method_46_code
def yX8_same : MethodName := ⟨RX8, "same", "(I)I"⟩
abbrev cX8_signs : ByteArray := prog_1_method_47_code
def yX8_signs : MethodName := ⟨RX8, "signs", "(IIII)I"⟩
abbrev cX8_judge : ByteArray := prog_1_method_48_code
def yX8_judge : MethodName := ⟨RX8, "judge", "(IIII)I"⟩
abbrev cX8_many : ByteArray := prog_1_method_49_code
def yX8_many : MethodName := ⟨RX8, "many", "(II)I"⟩
abbrev cX8_whatIf : ByteArray := prog_1_method_50_code
def yX8_whatIf : MethodName := ⟨RX8, "whatIf", "(IIII)I"⟩
abbrev cX8_days : ByteArray := prog_1_method_51_code
def yX8_days : MethodName := ⟨RX8, "days", "(I)I"⟩
abbrev cX8_seed : ByteArray := prog_1_method_52_code
def yX8_seed : MethodName := ⟨RX8, "seed", "(I)I"⟩
abbrev cX8_image : ByteArray := prog_1_method_53_code
def yX8_image : MethodName := ⟨RX8, "image", "()I"⟩
abbrev cX8_back : ByteArray := prog_1_method_54_code
def yX8_back : MethodName := ⟨RX8, "back", "()I"⟩
abbrev cX8_status : ByteArray := prog_1_method_55_code
def yX8_status : MethodName := ⟨RX8, "status", "(I)I"⟩
abbrev cX8_refuse : ByteArray := prog_1_method_56_code
def yX8_refuse : MethodName := ⟨RX8, "refuse", "(I)I"⟩
abbrev cX8_settled : ByteArray := prog_1_method_57_code
def yX8_settled : MethodName := ⟨RX8, "settled", "()I"⟩
abbrev cX8_isCondAndIndex : ByteArray := prog_1_method_58_code
def yX8_isCondAndIndex : MethodName := ⟨RX8, "isCondAndIndex", "(II)Z"⟩
abbrev cX8_tellsSeveral : ByteArray := prog_1_method_59_code
def yX8_tellsSeveral : MethodName := ⟨RX8, "tellsSeveral", "(II)Z"⟩
abbrev cX8_tellsLines : ByteArray := prog_1_method_60_code
def yX8_tellsLines : MethodName := ⟨RX8, "tellsLines", "(II)Z"⟩
abbrev cX8_fitsTold : ByteArray := prog_1_method_61_code
def yX8_fitsTold : MethodName := ⟨RX8, "fitsTold", "(IIIII)Z"⟩
abbrev cX8_stillToTest : ByteArray := prog_1_method_62_code
def yX8_stillToTest : MethodName := ⟨RX8, "stillToTest", "(II)I"⟩
abbrev cX8_isTrueInPlan : ByteArray := prog_1_method_63_code
def yX8_isTrueInPlan : MethodName := ⟨RX8, "isTrueInPlan", "(LSkippingKeys$Condition;I)Z"⟩
abbrev cX8_seekUp : ByteArray := prog_1_method_64_code
def yX8_seekUp : MethodName := ⟨RX8, "seekUp", "(LSkippingKeys$Condition;II)I"⟩
abbrev cX8_seekDown : ByteArray := prog_1_method_65_code
def yX8_seekDown : MethodName := ⟨RX8, "seekDown", "(LSkippingKeys$Condition;II)I"⟩
abbrev cX8_countDifferentKeys : ByteArray := prog_1_method_66_code
def yX8_countDifferentKeys : MethodName := ⟨RX8, "countDifferentKeys", "()I"⟩
abbrev cX8_clearSeen : ByteArray := prog_1_method_67_code
def yX8_clearSeen : MethodName := ⟨RX8, "clearSeen", "()V"⟩
abbrev cX8_countSeen : ByteArray := prog_1_method_68_code
def yX8_countSeen : MethodName := ⟨RX8, "countSeen", "()I"⟩
abbrev cX8_isWithin : ByteArray := prog_1_method_69_code
def yX8_isWithin : MethodName := ⟨RX8, "isWithin", "(III)Z"⟩
abbrev cX8_isColumn : ByteArray := prog_1_method_70_code
def yX8_isColumn : MethodName := ⟨RX8, "isColumn", "(I)Z"⟩
abbrev cX8_isIndex : ByteArray := prog_1_method_71_code
def yX8_isIndex : MethodName := ⟨RX8, "isIndex", "(I)Z"⟩
abbrev cX8_isSign : ByteArray := prog_1_method_72_code
def yX8_isSign : MethodName := ⟨RX8, "isSign", "(I)Z"⟩
abbrev cX8_isTruth : ByteArray := prog_1_method_73_code
def yX8_isTruth : MethodName := ⟨RX8, "isTruth", "(I)Z"⟩
abbrev cX8_isDigit : ByteArray := prog_1_method_74_code
def yX8_isDigit : MethodName := ⟨RX8, "isDigit", "(I)Z"⟩
abbrev cX8_isValue : ByteArray := prog_1_method_75_code
def yX8_isValue : MethodName := ⟨RX8, "isValue", "(I)Z"⟩
abbrev cX8_placeOf : ByteArray := prog_1_method_76_code
def yX8_placeOf : MethodName := ⟨RX8, "placeOf", "(II)I"⟩
abbrev cX8_compared : ByteArray := prog_1_method_77_code
def yX8_compared : MethodName := ⟨RX8, "compared", "(III)I"⟩
abbrev cX9_init : ByteArray := prog_11_method_1_code
def yX9_init : MethodName := ⟨RX9, "<init>", "()V"⟩
abbrev cX9_refuse : ByteArray := prog_11_method_2_code
def yX9_refuse : MethodName := ⟨RX9, "refuse", "(I)I"⟩
abbrev cX9_in : ByteArray := prog_11_method_3_code
def yX9_in : MethodName := ⟨RX9, "in", "(JJJ)Z"⟩
abbrev cX9_isCond : ByteArray := prog_11_method_4_code
def yX9_isCond : MethodName := ⟨RX9, "isCond", "(I)Z"⟩
abbrev cX9_isLine : ByteArray := prog_11_method_5_code
def yX9_isLine : MethodName := ⟨RX9, "isLine", "(I)Z"⟩
abbrev cX9_bits : ByteArray := prog_11_method_6_code
def yX9_bits : MethodName := ⟨RX9, "bits", "(I)I"⟩
abbrev cX9_row : ByteArray := prog_11_method_7_code
def yX9_row : MethodName := ⟨RX9, "row", "(III)I"⟩
abbrev cX9_fit : ByteArray := prog_11_method_8_code
def yX9_fit : MethodName := ⟨RX9, "fit", "(IJ)J"⟩
abbrev cX9_noRow : ByteArray := prog_11_method_9_code
def yX9_noRow : MethodName := ⟨RX9, "noRow", "(I)I"⟩
abbrev cX9_set : ByteArray := prog_11_method_10_code
def yX9_set : MethodName := ⟨RX9, "set", "(IIJ)I"⟩
abbrev cX9_copy : ByteArray := prog_11_method_11_code
def yX9_copy : MethodName := ⟨RX9, "copy", "(IIIII)I"⟩
abbrev cX9_element : ByteArray := prog_11_method_12_code
def yX9_element : MethodName := ⟨RX9, "element", "(II)J"⟩
abbrev cX9_holds : ByteArray := prog_11_method_13_code
def yX9_holds : MethodName := ⟨RX9, "holds", "(I)I"⟩
abbrev cX9_show : ByteArray := prog_11_method_14_code
def yX9_show : MethodName := ⟨RX9, "show", "(II)I"⟩
abbrev cX9_isOf : ByteArray := prog_11_method_15_code
def yX9_isOf : MethodName := ⟨RX9, "isOf", "(II)Z"⟩
abbrev cX9_says : ByteArray := prog_11_method_16_code
def yX9_says : MethodName := ⟨RX9, "says", "(II)I"⟩
abbrev cX9_columnAt : ByteArray := prog_11_method_17_code
def yX9_columnAt : MethodName := ⟨RX9, "columnAt", "(II)I"⟩
abbrev cX9_digit : ByteArray := prog_11_method_18_code
def yX9_digit : MethodName := ⟨RX9, "digit", "(II)I"⟩
abbrev cX9_weight : ByteArray := prog_11_method_19_code
def yX9_weight : MethodName := ⟨RX9, "weight", "(I)I"⟩
abbrev cX9_plain : ByteArray := prog_11_method_20_code
def yX9_plain : MethodName := ⟨RX9, "plain", "(II)I"⟩
abbrev cX9_keyIn : ByteArray := prog_11_method_21_code
def yX9_keyIn : MethodName := ⟨RX9, "keyIn", "(II)I"⟩
abbrev cX9_isAt : ByteArray := prog_11_method_22_code
def yX9_isAt : MethodName := ⟨RX9, "isAt", "(II)I"⟩
abbrev cX9_isFor : ByteArray := prog_11_method_23_code
def yX9_isFor : MethodName := ⟨RX9, "isFor", "(II)I"⟩
abbrev cX9_holds_ : ByteArray := prog_11_method_24_code
def yX9_holds_ : MethodName := ⟨RX9, "holds", "(III)I"⟩
abbrev cX9_severalFor : ByteArray := prog_11_method_25_code
def yX9_severalFor : MethodName := ⟨RX9, "severalFor", "(II)I"⟩
abbrev cX9_leafFor : ByteArray := prog_11_method_26_code
def yX9_leafFor : MethodName := ⟨RX9, "leafFor", "(II)I"⟩
abbrev cX9_worked : ByteArray := prog_11_method_27_code
def yX9_worked : MethodName := ⟨RX9, "worked", "(II)I"⟩
abbrev cX9_leafIn : ByteArray := prog_11_method_28_code
def yX9_leafIn : MethodName := ⟨RX9, "leafIn", "(I)V"⟩
abbrev cX9_overIn : ByteArray := prog_11_method_29_code
def yX9_overIn : MethodName := ⟨RX9, "overIn", "(I)V"⟩
abbrev cX9_workFrom : ByteArray := prog_11_method_30_code
def yX9_workFrom : MethodName := ⟨RX9, "workFrom", "(I)V"⟩
abbrev cX9_put : ByteArray := prog_11_method_31_code
def yX9_put : MethodName := ⟨RX9, "put", "(IIII)V"⟩
abbrev cX9_line : ByteArray := prog_11_method_32_code
def yX9_line : MethodName := ⟨RX9, "line", "(III)I"⟩
abbrev cX9_alter : ByteArray := prog_11_method_33_code
def yX9_alter : MethodName := ⟨RX9, "alter", "(III)I"⟩
abbrev cX9_strikeOut : ByteArray := prog_11_method_34_code
def yX9_strikeOut : MethodName := ⟨RX9, "strikeOut", "(I)V"⟩
abbrev cX9_strike : ByteArray := prog_11_method_35_code
def yX9_strike : MethodName := ⟨RX9, "strike", "(I)I"⟩
abbrev cX9_price : ByteArray := prog_11_method_36_code
def yX9_price : MethodName := ⟨RX9, "price", "(I)I"⟩
abbrev cX9_feed : ByteArray := prog_11_method_37_code
def yX9_feed : MethodName := ⟨RX9, "feed", "(I)I"⟩
abbrev cX9_wipe : ByteArray := prog_11_method_38_code
def yX9_wipe : MethodName := ⟨RX9, "wipe", "()I"⟩
abbrev cX9_isCell : ByteArray := prog_11_method_39_code
def yX9_isCell : MethodName := ⟨RX9, "isCell", "(I)Z"⟩
abbrev cX9_tableFault : ByteArray := prog_11_method_40_code
def yX9_tableFault : MethodName := ⟨RX9, "tableFault", "()I"⟩
abbrev cX9_table : ByteArray := prog_11_method_41_code
def yX9_table : MethodName := ⟨RX9, "table", "()I"⟩
abbrev cX9_clearTold : ByteArray := prog_11_method_42_code
def yX9_clearTold : MethodName := ⟨RX9, "clearTold", "()V"⟩
abbrev cX9_make : ByteArray := prog_11_method_43_code
def yX9_make : MethodName := ⟨RX9, "make", "(I)I"⟩
abbrev cX9_makeOver : ByteArray := prog_11_method_44_code
def yX9_makeOver : MethodName := ⟨RX9, "makeOver", "(III)I"⟩
abbrev cX9_here : ByteArray := prog_11_method_45_code
def yX9_here : MethodName := ⟨RX9, "here", "()I"⟩
abbrev cX9_sees : ByteArray := prog_11_method_46_code
def yX9_sees : MethodName := ⟨RX9, "sees", "(I)Z"⟩
abbrev cX9_wrong : ByteArray := prog_11_method_47_code
def yX9_wrong : MethodName := ⟨RX9, "wrong", "()I"⟩
abbrev cX9_must : ByteArray := prog_11_method_48_code
def yX9_must : MethodName := ⟨RX9, "must", "(I)V"⟩
abbrev cX9_signOf : ByteArray := prog_11_method_49_code
def yX9_signOf : MethodName := ⟨RX9, "signOf", "(I)I"⟩
abbrev cX9_number : ByteArray := prog_11_method_50_code
def yX9_number : MethodName := ⟨RX9, "number", "(II)I"⟩
abbrev cX9_signHere : ByteArray := prog_11_method_51_code
def yX9_signHere : MethodName := ⟨RX9, "signHere", "()V"⟩
abbrev cX9_severalHere : ByteArray := prog_11_method_52_code
def yX9_severalHere : MethodName := ⟨RX9, "severalHere", "(I)I"⟩
abbrev cX9_amongHere : ByteArray := prog_11_method_53_code
def yX9_amongHere : MethodName := ⟨RX9, "amongHere", "(I)I"⟩
abbrev cX9_columnHere : ByteArray := prog_11_method_54_code
def yX9_columnHere : MethodName := ⟨RX9, "columnHere", "(I)I"⟩
abbrev cX9_turnHere : ByteArray := prog_11_method_55_code
def yX9_turnHere : MethodName := ⟨RX9, "turnHere", "()I"⟩
abbrev cX9_eachHere : ByteArray := prog_11_method_56_code
def yX9_eachHere : MethodName := ⟨RX9, "eachHere", "()I"⟩
abbrev cX9_condHere : ByteArray := prog_11_method_57_code
def yX9_condHere : MethodName := ⟨RX9, "condHere", "()I"⟩
abbrev cX9_cond : ByteArray := prog_11_method_58_code
def yX9_cond : MethodName := ⟨RX9, "cond", "()I"⟩
abbrev cX9_added : ByteArray := prog_11_method_59_code
def yX9_added : MethodName := ⟨RX9, "added", "()I"⟩
abbrev cX9_add : ByteArray := prog_11_method_60_code
def yX9_add : MethodName := ⟨RX9, "add", "(I)I"⟩
abbrev cX9_tell : ByteArray := prog_11_method_61_code
def yX9_tell : MethodName := ⟨RX9, "tell", "(IIIII)I"⟩
abbrev cX9_isColumn : ByteArray := prog_11_method_62_code
def yX9_isColumn : MethodName := ⟨RX9, "isColumn", "(I)Z"⟩
abbrev cX9_test : ByteArray := prog_11_method_63_code
def yX9_test : MethodName := ⟨RX9, "test", "(III)I"⟩
abbrev cX9_among : ByteArray := prog_11_method_64_code
def yX9_among : MethodName := ⟨RX9, "among", "(II)I"⟩
abbrev cX9_gone : ByteArray := prog_11_method_65_code
def yX9_gone : MethodName := ⟨RX9, "gone", "(I)I"⟩
abbrev cX9_columns : ByteArray := prog_11_method_66_code
def yX9_columns : MethodName := ⟨RX9, "columns", "(III)I"⟩
abbrev cX9_rest : ByteArray := prog_11_method_67_code
def yX9_rest : MethodName := ⟨RX9, "rest", "(III)I"⟩
abbrev cX9_noRowOf : ByteArray := prog_11_method_68_code
def yX9_noRowOf : MethodName := ⟨RX9, "noRowOf", "(II)I"⟩
abbrev cX9_several : ByteArray := prog_11_method_69_code
def yX9_several : MethodName := ⟨RX9, "several", "(III)I"⟩
abbrev cX9_pair : ByteArray := prog_11_method_70_code
def yX9_pair : MethodName := ⟨RX9, "pair", "(III)I"⟩
abbrev cX9_turn : ByteArray := prog_11_method_71_code
def yX9_turn : MethodName := ⟨RX9, "turn", "(II)I"⟩
abbrev cX9_drop : ByteArray := prog_11_method_72_code
def yX9_drop : MethodName := ⟨RX9, "drop", "()I"⟩
abbrev cX9_condOf : ByteArray := prog_11_method_73_code
def yX9_condOf : MethodName := ⟨RX9, "condOf", "(II)I"⟩
abbrev cX9_lineOf : ByteArray := prog_11_method_74_code
def yX9_lineOf : MethodName := ⟨RX9, "lineOf", "(II)I"⟩
abbrev cX9_isIndex : ByteArray := prog_11_method_75_code
def yX9_isIndex : MethodName := ⟨RX9, "isIndex", "(I)Z"⟩
abbrev cX9_keyOf : ByteArray := prog_11_method_76_code
def yX9_keyOf : MethodName := ⟨RX9, "keyOf", "(II)I"⟩
abbrev cX9_truth : ByteArray := prog_11_method_77_code
def yX9_truth : MethodName := ⟨RX9, "truth", "(III)I"⟩
abbrev cX9_keysOf : ByteArray := prog_11_method_78_code
def yX9_keysOf : MethodName := ⟨RX9, "keysOf", "(II)I"⟩
abbrev cX9_keys : ByteArray := prog_11_method_79_code
def yX9_keys : MethodName := ⟨RX9, "keys", "(II)I"⟩
abbrev cX9_linesOf : ByteArray := prog_11_method_80_code
def yX9_linesOf : MethodName := ⟨RX9, "linesOf", "(II)I"⟩
abbrev cX9_lines : ByteArray := prog_11_method_81_code
def yX9_lines : MethodName := ⟨RX9, "lines", "(II)I"⟩
abbrev cX9_valuesOf : ByteArray := prog_11_method_82_code
def yX9_valuesOf : MethodName := ⟨RX9, "valuesOf", "(II)I"⟩
abbrev cX9_values : ByteArray := prog_11_method_83_code
def yX9_values : MethodName := ⟨RX9, "values", "(II)I"⟩
abbrev cX9_runsIn : ByteArray := prog_11_method_84_code
def yX9_runsIn : MethodName := ⟨RX9, "runsIn", "(II)V"⟩
abbrev cX9_mergeOnce : ByteArray := prog_11_method_85_code
def yX9_mergeOnce : MethodName := ⟨RX9, "mergeOnce", "()V"⟩
abbrev cX9_planIn : ByteArray := prog_11_method_86_code
def yX9_planIn : MethodName := ⟨RX9, "planIn", "(III)V"⟩
abbrev cX9_spanAt : ByteArray := prog_11_method_87_code
def yX9_spanAt : MethodName := ⟨RX9, "spanAt", "(I)I"⟩
abbrev cX9_runs : ByteArray := prog_11_method_88_code
def yX9_runs : MethodName := ⟨RX9, "runs", "(II)I"⟩
abbrev cX9_run : ByteArray := prog_11_method_89_code
def yX9_run : MethodName := ⟨RX9, "run", "(III)I"⟩
abbrev cX9_plan : ByteArray := prog_11_method_90_code
def yX9_plan : MethodName := ⟨RX9, "plan", "(IIII)I"⟩
abbrev cX9_isRead : ByteArray := prog_11_method_91_code
def yX9_isRead : MethodName := ⟨RX9, "isRead", "(I)Z"⟩
abbrev cX9_readIn : ByteArray := prog_11_method_92_code
def yX9_readIn : MethodName := ⟨RX9, "readIn", "(IIZ)I"⟩
abbrev cX9_otherKeys : ByteArray := prog_11_method_93_code
def yX9_otherKeys : MethodName := ⟨RX9, "otherKeys", "(II)I"⟩
abbrev cX9_still : ByteArray := prog_11_method_94_code
def yX9_still : MethodName := ⟨RX9, "still", "(II)I"⟩
abbrev cX9_costIn : ByteArray := prog_11_method_95_code
def yX9_costIn : MethodName := ⟨RX9, "costIn", "(II)I"⟩
abbrev cX9_of : ByteArray := prog_11_method_96_code
def yX9_of : MethodName := ⟨RX9, "of", "(IIII)I"⟩
abbrev cX9_bestIn : ByteArray := prog_11_method_97_code
def yX9_bestIn : MethodName := ⟨RX9, "bestIn", "(II)I"⟩
abbrev cX9_best : ByteArray := prog_11_method_98_code
def yX9_best : MethodName := ⟨RX9, "best", "(III)I"⟩
abbrev cX9_bestIndex : ByteArray := prog_11_method_99_code
def yX9_bestIndex : MethodName := ⟨RX9, "bestIndex", "(II)I"⟩
abbrev cX9_seek : ByteArray := prog_11_method_100_code
def yX9_seek : MethodName := ⟨RX9, "seek", "(IIII)I"⟩
abbrev cX9_leads : ByteArray := prog_11_method_101_code
def yX9_leads : MethodName := ⟨RX9, "leads", "(IIIIZ)Z"⟩
abbrev cX9_leaders : ByteArray := prog_11_method_102_code
def yX9_leaders : MethodName := ⟨RX9, "leaders", "(IIII)I"⟩
abbrev cX9_without : ByteArray := prog_11_method_103_code
def yX9_without : MethodName := ⟨RX9, "without", "(II)I"⟩
abbrev cX9_isAhead : ByteArray := prog_11_method_104_code
def yX9_isAhead : MethodName := ⟨RX9, "isAhead", "(IIII)Z"⟩
abbrev cX9_findIn : ByteArray := prog_11_method_105_code
def yX9_findIn : MethodName := ⟨RX9, "findIn", "(III)V"⟩
abbrev cX9_found : ByteArray := prog_11_method_106_code
def yX9_found : MethodName := ⟨RX9, "found", "(III)I"⟩
abbrev cX9_order : ByteArray := prog_11_method_107_code
def yX9_order : MethodName := ⟨RX9, "order", "(IIII)I"⟩
abbrev cX9_behind : ByteArray := prog_11_method_108_code
def yX9_behind : MethodName := ⟨RX9, "behind", "(III)I"⟩
abbrev cX9_implies : ByteArray := prog_11_method_109_code
def yX9_implies : MethodName := ⟨RX9, "implies", "(II)I"⟩
abbrev cX9_differ : ByteArray := prog_11_method_110_code
def yX9_differ : MethodName := ⟨RX9, "differ", "(II)I"⟩
abbrev cX9_alike : ByteArray := prog_11_method_111_code
def yX9_alike : MethodName := ⟨RX9, "alike", "(II)I"⟩
abbrev cX9_same : ByteArray := prog_11_method_112_code
def yX9_same : MethodName := ⟨RX9, "same", "(I)I"⟩
abbrev cX9_isTold : ByteArray := prog_11_method_113_code
def yX9_isTold : MethodName := ⟨RX9, "isTold", "(IIIII)Z"⟩
abbrev cX9_signs : ByteArray := prog_11_method_114_code
def yX9_signs : MethodName := ⟨RX9, "signs", "(IIII)I"⟩
abbrev cX9_judge : ByteArray := prog_11_method_115_code
def yX9_judge : MethodName := ⟨RX9, "judge", "(IIII)I"⟩
abbrev cX9_many : ByteArray := prog_11_method_116_code
def yX9_many : MethodName := ⟨RX9, "many", "(II)I"⟩
abbrev cX9_whatIf : ByteArray := prog_11_method_117_code
def yX9_whatIf : MethodName := ⟨RX9, "whatIf", "(IIII)I"⟩
abbrev cX9_draw : ByteArray := prog_11_method_118_code
def yX9_draw : MethodName := ⟨RX9, "draw", "(I)I"⟩
abbrev cX9_days : ByteArray := prog_11_method_119_code
def yX9_days : MethodName := ⟨RX9, "days", "(I)I"⟩
abbrev cX9_seed : ByteArray := prog_11_method_120_code
def yX9_seed : MethodName := ⟨RX9, "seed", "(I)I"⟩
abbrev cX9_take : ByteArray := prog_11_method_121_code
def yX9_take : MethodName := ⟨RX9, "take", "([I[I)V"⟩
abbrev cX9_image : ByteArray := prog_11_method_122_code
def yX9_image : MethodName := ⟨RX9, "image", "()I"⟩
abbrev cX9_back : ByteArray := prog_11_method_123_code
def yX9_back : MethodName := ⟨RX9, "back", "()I"⟩
abbrev cX9_differentKeys : ByteArray := prog_11_method_124_code
def yX9_differentKeys : MethodName := ⟨RX9, "differentKeys", "()I"⟩
abbrev cX9_status : ByteArray := prog_11_method_125_code
def yX9_status : MethodName := ⟨RX9, "status", "(I)I"⟩
abbrev cJ6_bitCount_0f7a4 : ByteArray := prog_12_method_49_code
def yJ6_bitCount_0f7a4 : MethodName := ⟨RJ6, "bitCount", "(I)I"⟩
abbrev cJ9_max_7cf53 : ByteArray := prog_13_method_65_code
def yJ9_max_7cf53 : MethodName := ⟨RJ9, "max", "(II)I"⟩
abbrev cJ9_min_7cf53 : ByteArray := prog_13_method_69_code
def yJ9_min_7cf53 : MethodName := ⟨RJ9, "min", "(II)I"⟩
def yL_law : MethodName := ⟨RL, "law", "([I)Z"⟩
/-! ===== own tables: methods, links, by program out of the tables of the claim ===== -/
abbrev zPos : Type := Nat × Nat
abbrev zRow : Type := MethodName × ByteArray × Nat × Option FieldType × Nat × Nat × Nat × zPos × zPos × zPos × zPos
def zr_0 : zRow := (yX0_init, cX0_init, 1, none, 2, 0, 0, (1, 59), (1, 58), (1, 4), (99, 0))
def zr_1 : zRow := (yX0_begin, cX0_begin, 5, none, 1, 4, 0, (3, 73), (3, 71), (1, 4), (3, 72))
def zr_2 : zRow := (yX0_addColumn, cX0_addColumn, 3, none, 1, 2, 0, (3, 103), (3, 101), (1, 4), (3, 102))
def zr_3 : zRow := (yX0_columnCount, cX0_columnCount, 1, (some FieldType.int), 1, 0, 0, (3, 132), (3, 130), (1, 4), (3, 131))
def zr_4 : zRow := (yX0_want, cX0_want, 3, none, 1, 2, 0, (3, 114), (3, 112), (1, 4), (3, 113))
def zr_5 : zRow := (yX0_names, cX0_names, 2, (some FieldType.boolean), 1, 1, 0, (3, 119), (3, 117), (1, 4), (3, 118))
def zr_6 : zRow := (yX0_copyFrom, cX0_copyFrom, 3, none, 1, 1, 0, (5, 70), (5, 68), (1, 4), (5, 69))
def zr_7 : zRow := (yX0_settleLeaf, cX0_settleLeaf, 3, none, 1, 1, 0, (3, 163), (3, 161), (1, 4), (3, 162))
def zr_8 : zRow := (yX0_settleOver, cX0_settleOver, 5, none, 1, 3, 0, (3, 192), (3, 190), (1, 4), (3, 191))
def zr_9 : zRow := (yX0_leafTruth, cX0_leafTruth, 3, (some FieldType.int), 1, 1, 0, (3, 167), (3, 166), (1, 4), (0, 13))
def zr_10 : zRow := (yX0_digitOf, cX0_digitOf, 3, (some FieldType.int), 1, 2, 0, (3, 171), (3, 170), (1, 4), (0, 14))
def zr_11 : zRow := (yX0_orDoubt, cX0_orDoubt, 2, (some FieldType.int), 0, 2, 0, (3, 177), (3, 176), (1, 4), (99, 0))
def zr_12 : zRow := (yX0_orderTruth, cX0_orderTruth, 5, (some FieldType.int), 1, 1, 0, (3, 181), (3, 180), (1, 4), (0, 15))
def zr_13 : zRow := (yX0_equalTruth, cX0_equalTruth, 5, (some FieldType.int), 1, 1, 0, (3, 185), (3, 184), (1, 4), (0, 16))
def zr_14 : zRow := (yX0_joinedTruth, cX0_joinedTruth, 3, (some FieldType.int), 1, 2, 0, (3, 199), (3, 198), (1, 4), (0, 17))
def zr_15 : zRow := (yX0_opposite, cX0_opposite, 1, (some FieldType.int), 0, 1, 0, (3, 188), (3, 187), (1, 4), (99, 0))
def zr_16 : zRow := (yX0_isOfSort, cX0_isOfSort, 2, (some FieldType.boolean), 1, 1, 0, (2, 151), (2, 149), (1, 4), (2, 150))
def zr_17 : zRow := (yX0_toldAs, cX0_toldAs, 2, (some FieldType.int), 1, 1, 0, (2, 155), (2, 153), (1, 4), (2, 154))
def zr_18 : zRow := (yX0_countKeys, cX0_countKeys, 4, (some FieldType.int), 1, 1, 0, (2, 159), (2, 157), (1, 4), (2, 158))
def zr_19 : zRow := (yX0_valuesIn, cX0_valuesIn, 4, (some FieldType.int), 1, 1, 0, (2, 163), (2, 161), (1, 4), (2, 162))
def zr_20 : zRow := (yX0_firstUnlike, cX0_firstUnlike, 3, (some FieldType.int), 1, 1, 0, (5, 2), (5, 0), (1, 4), (5, 1))
def zr_21 : zRow := (yX1_init, cX1_init, 2, none, 2, 0, 1, (1, 52), (1, 51), (1, 3), (99, 0))
def zr_22 : zRow := (yX1_copyFrom, cX1_copyFrom, 3, none, 1, 1, 1, (5, 66), (5, 64), (1, 3), (5, 65))
def zr_23 : zRow := (yX1_has, cX1_has, 2, (some FieldType.boolean), 1, 1, 1, (2, 126), (2, 124), (1, 3), (2, 125))
def zr_24 : zRow := (yX1_at, cX1_at, 2, (some (FieldType.object "SkippingKeys$Condition")), 1, 1, 1, (2, 147), (2, 145), (1, 3), (2, 146))
def zr_25 : zRow := (yX1_draft, cX1_draft, 4, (some (FieldType.object "SkippingKeys$Condition")), 1, 2, 1, (3, 92), (3, 90), (1, 3), (3, 91))
def zr_26 : zRow := (yX1_draftOver, cX1_draftOver, 5, none, 1, 3, 1, (3, 68), (3, 66), (1, 3), (3, 67))
def zr_27 : zRow := (yX1_lastDraft, cX1_lastDraft, 1, (some FieldType.int), 1, 0, 1, (3, 77), (3, 75), (1, 3), (3, 76))
def zr_28 : zRow := (yX1_fitsDrafts, cX1_fitsDrafts, 1, (some FieldType.boolean), 1, 0, 1, (3, 152), (3, 150), (1, 3), (3, 151))
def zr_29 : zRow := (yX1_forgetDrafts, cX1_forgetDrafts, 1, none, 1, 0, 1, (3, 144), (3, 142), (1, 3), (3, 143))
def zr_30 : zRow := (yX1_settleDrafts, cX1_settleDrafts, 4, none, 1, 0, 1, (3, 156), (3, 154), (1, 3), (3, 155))
def zr_31 : zRow := (yX2_init, cX2_init, 1, none, 2, 0, 2, (1, 26), (1, 25), (1, 2), (99, 0))
def zr_32 : zRow := (yX2_copyFrom, cX2_copyFrom, 2, none, 1, 1, 2, (5, 62), (5, 60), (1, 2), (5, 61))
def zr_33 : zRow := (yX2_has, cX2_has, 2, (some FieldType.boolean), 1, 1, 2, (2, 198), (2, 196), (1, 2), (2, 197))
def zr_34 : zRow := (yX2_valueOf, cX2_valueOf, 3, (some FieldType.int), 1, 2, 2, (2, 206), (2, 204), (1, 2), (2, 205))
def zr_35 : zRow := (yX2_put, cX2_put, 4, none, 1, 3, 2, (2, 190), (2, 188), (1, 2), (2, 189))
def zr_36 : zRow := (yX2_putAll, cX2_putAll, 5, none, 1, 4, 2, (2, 186), (2, 185), (1, 2), (0, 1))
def zr_37 : zRow := (yX2_add, cX2_add, 4, none, 1, 3, 2, (2, 182), (2, 180), (1, 2), (2, 181))
def zr_38 : zRow := (yX2_remove, cX2_remove, 4, none, 1, 1, 2, (2, 215), (2, 213), (1, 2), (2, 214))
def zr_39 : zRow := (yX2_keyIn, cX2_keyIn, 4, (some FieldType.int), 1, 2, 2, (4, 38), (4, 36), (1, 2), (4, 37))
def zr_40 : zRow := (yX2_truthOf, cX2_truthOf, 3, (some FieldType.int), 1, 2, 2, (4, 74), (4, 72), (1, 2), (4, 73))
def zr_41 : zRow := (yX2_countOf, cX2_countOf, 5, (some FieldType.int), 1, 2, 2, (4, 70), (4, 68), (1, 2), (4, 69))
def zr_42 : zRow := (yX2_countValue, cX2_countValue, 5, (some FieldType.int), 1, 2, 2, (5, 31), (5, 29), (1, 2), (5, 30))
def zr_43 : zRow := (yX2_liveDay, cX2_liveDay, 4, none, 1, 0, 2, (5, 43), (5, 41), (1, 2), (5, 42))
def zr_44 : zRow := (yX2_draw, cX2_draw, 2, (some FieldType.int), 1, 1, 2, (5, 47), (5, 46), (1, 2), (0, 31))
def zr_45 : zRow := (yX3_init, cX3_init, 1, none, 2, 0, 3, (1, 238), (1, 237), (1, 9), (99, 0))
def zr_46 : zRow := (yX3_codeOf, cX3_codeOf, 4, (some FieldType.int), 0, 3, 3, (4, 208), (4, 207), (1, 9), (99, 0))
def zr_47 : zRow := (yX3_rank, cX3_rank, 6, none, 1, 4, 3, (4, 203), (4, 201), (1, 9), (4, 202))
def zr_48 : zRow := (yX3_insert, cX3_insert, 3, none, 1, 1, 3, (4, 212), (4, 211), (1, 9), (0, 28))
def zr_49 : zRow := (yX3_lineAt, cX3_lineAt, 2, (some FieldType.int), 1, 1, 3, (4, 216), (4, 214), (1, 9), (4, 215))
def zr_50 : zRow := (yX3_firstBehind, cX3_firstBehind, 3, (some FieldType.int), 1, 1, 3, (4, 229), (4, 227), (1, 9), (4, 228))
def zr_51 : zRow := (yX4_init, cX4_init, 1, none, 2, 0, 4, (1, 166), (1, 165), (1, 7), (99, 0))
def zr_52 : zRow := (yX4_readTable, cX4_readTable, 4, (some FieldType.boolean), 1, 1, 4, (3, 5), (3, 3), (1, 7), (3, 4))
def zr_53 : zRow := (yX4_readLine, cX4_readLine, 4, (some FieldType.boolean), 1, 1, 4, (3, 13), (3, 12), (1, 7), (0, 2))
def zr_54 : zRow := (yX4_lineCount, cX4_lineCount, 1, (some FieldType.int), 1, 0, 4, (3, 31), (3, 29), (1, 7), (3, 30))
def zr_55 : zRow := (yX4_valueRead, cX4_valueRead, 4, (some FieldType.int), 1, 2, 4, (3, 35), (3, 33), (1, 7), (3, 34))
def zr_56 : zRow := (yX4_readCondition, cX4_readCondition, 6, (some FieldType.boolean), 1, 2, 4, (3, 44), (3, 42), (1, 7), (3, 43))
def zr_57 : zRow := (yX4_isTurnSign, cX4_isTurnSign, 1, (some FieldType.boolean), 0, 1, 4, (3, 84), (3, 83), (1, 7), (99, 0))
def zr_58 : zRow := (yX4_isClosed, cX4_isClosed, 2, (some FieldType.boolean), 1, 1, 4, (3, 48), (3, 47), (1, 7), (0, 3))
def zr_59 : zRow := (yX4_readBehindTurn, cX4_readBehindTurn, 4, (some FieldType.boolean), 1, 3, 4, (3, 140), (3, 139), (1, 7), (0, 11))
def zr_60 : zRow := (yX4_turnIsWhole, cX4_turnIsWhole, 4, none, 1, 2, 4, (3, 136), (3, 135), (1, 7), (0, 10))
def zr_61 : zRow := (yX4_closeOr, cX4_closeOr, 4, none, 1, 1, 4, (3, 52), (3, 51), (1, 7), (0, 4))
def zr_62 : zRow := (yX4_pushOpen, cX4_pushOpen, 2, none, 1, 1, 4, (3, 88), (3, 87), (1, 7), (0, 9))
def zr_63 : zRow := (yX4_topOpen, cX4_topOpen, 1, (some FieldType.int), 1, 0, 4, (3, 56), (3, 55), (1, 7), (0, 5))
def zr_64 : zRow := (yX4_popOpen, cX4_popOpen, 1, none, 1, 0, 4, (3, 60), (3, 59), (1, 7), (0, 6))
def zr_65 : zRow := (yX4_pushWhole, cX4_pushWhole, 2, none, 1, 1, 4, (3, 81), (3, 80), (1, 7), (0, 8))
def zr_66 : zRow := (yX4_popWhole, cX4_popWhole, 1, (some FieldType.int), 1, 0, 4, (3, 64), (3, 63), (1, 7), (0, 7))
def zr_67 : zRow := (yX4_readLeaf, cX4_readLeaf, 3, (some FieldType.boolean), 0, 2, 4, (3, 95), (3, 94), (1, 7), (99, 0))
def zr_68 : zRow := (yX4_readCompared, cX4_readCompared, 4, (some FieldType.boolean), 0, 2, 4, (3, 110), (3, 109), (1, 7), (99, 0))
def zr_69 : zRow := (yX4_readAmong, cX4_readAmong, 5, (some FieldType.boolean), 0, 2, 4, (3, 122), (3, 121), (1, 7), (99, 0))
def zr_70 : zRow := (yX4_readRest, cX4_readRest, 4, (some FieldType.boolean), 0, 2, 4, (3, 125), (3, 124), (1, 7), (99, 0))
def zr_71 : zRow := (yX4_readSeveral, cX4_readSeveral, 5, (some FieldType.boolean), 0, 2, 4, (3, 128), (3, 127), (1, 7), (99, 0))
def zr_72 : zRow := (yX5_init, cX5_init, 2, none, 2, 0, 5, (1, 131), (1, 130), (1, 5), (99, 0))
def zr_73 : zRow := (yX5_isShelf, cX5_isShelf, 1, (some FieldType.boolean), 0, 1, 5, (2, 51), (2, 50), (1, 5), (99, 0))
def zr_74 : zRow := (yX5_heldBy, cX5_heldBy, 2, (some FieldType.int), 1, 1, 5, (2, 118), (2, 116), (1, 5), (2, 117))
def zr_75 : zRow := (yX5_empty, cX5_empty, 2, none, 1, 1, 5, (2, 131), (2, 129), (1, 5), (2, 130))
def zr_76 : zRow := (yX5_holdCondition, cX5_holdCondition, 3, none, 1, 2, 5, (2, 135), (2, 133), (1, 5), (2, 134))
def zr_77 : zRow := (yX5_conditionIn, cX5_conditionIn, 2, (some FieldType.int), 1, 1, 5, (2, 143), (2, 141), (1, 5), (2, 142))
def zr_78 : zRow := (yX5_layRow, cX5_layRow, 5, none, 1, 3, 5, (2, 63), (2, 61), (1, 5), (2, 62))
def zr_79 : zRow := (yX5_whyNoRow, cX5_whyNoRow, 2, (some FieldType.int), 1, 1, 5, (2, 71), (2, 69), (1, 5), (2, 70))
def zr_80 : zRow := (yX5_whyNoRowOf, cX5_whyNoRowOf, 4, (some FieldType.int), 1, 2, 5, (3, 235), (3, 233), (1, 5), (3, 234))
def zr_81 : zRow := (yX5_whyNoTwoRows, cX5_whyNoTwoRows, 5, (some FieldType.int), 1, 2, 5, (2, 90), (2, 88), (1, 5), (2, 89))
def zr_82 : zRow := (yX5_hasElement, cX5_hasElement, 3, (some FieldType.boolean), 1, 2, 5, (2, 75), (2, 73), (1, 5), (2, 74))
def zr_83 : zRow := (yX5_hasPart, cX5_hasPart, 4, (some FieldType.boolean), 1, 3, 5, (2, 95), (2, 93), (1, 5), (2, 94))
def zr_84 : zRow := (yX5_elementAt, cX5_elementAt, 3, (some FieldType.long), 1, 2, 5, (2, 110), (2, 108), (1, 5), (2, 109))
def zr_85 : zRow := (yX5_put, cX5_put, 5, none, 1, 3, 5, (2, 79), (2, 77), (1, 5), (2, 78))
def zr_86 : zRow := (yX5_carry, cX5_carry, 6, none, 1, 5, 5, (2, 99), (2, 97), (1, 5), (2, 98))
def zr_87 : zRow := (yX5_kept, cX5_kept, 3, (some FieldType.long), 0, 2, 5, (2, 82), (2, 81), (1, 5), (99, 0))
def zr_88 : zRow := (yX5_forgetConditionsFrom, cX5_forgetConditionsFrom, 3, none, 1, 1, 5, (4, 18), (4, 16), (1, 5), (4, 17))
def zr_89 : zRow := (yX5_countHolding, cX5_countHolding, 3, (some FieldType.int), 1, 0, 5, (5, 89), (5, 87), (1, 5), (5, 88))
def zr_90 : zRow := (yX6_init, cX6_init, 1, none, 2, 0, 6, (1, 191), (1, 190), (1, 8), (99, 0))
def zr_91 : zRow := (yX6_layOut, cX6_layOut, 6, none, 1, 2, 6, (4, 88), (4, 86), (1, 8), (4, 87))
def zr_92 : zRow := (yX6_runTold, cX6_runTold, 2, (some FieldType.int), 1, 1, 6, (4, 97), (4, 95), (1, 8), (4, 96))
def zr_93 : zRow := (yX6_planSize, cX6_planSize, 2, (some FieldType.int), 1, 1, 6, (4, 105), (4, 103), (1, 8), (4, 104))
def zr_94 : zRow := (yX6_widthOf, cX6_widthOf, 2, (some FieldType.int), 1, 1, 6, (4, 118), (4, 117), (1, 8), (0, 21))
def zr_95 : zRow := (yX6_orderGaps, cX6_orderGaps, 4, none, 1, 0, 6, (4, 114), (4, 113), (1, 8), (0, 20))
def zr_96 : zRow := (yX6_joinDownTo, cX6_joinDownTo, 3, none, 1, 1, 6, (4, 110), (4, 108), (1, 8), (4, 109))
def zr_97 : zRow := (yX6_spanTold, cX6_spanTold, 5, (some FieldType.int), 1, 1, 6, (4, 123), (4, 121), (1, 8), (4, 122))
def zr_98 : zRow := (yX6_gapAt, cX6_gapAt, 3, (some FieldType.int), 1, 1, 6, (4, 144), (4, 143), (1, 8), (0, 22))
def zr_99 : zRow := (yX6_planHas, cX6_planHas, 3, (some FieldType.boolean), 1, 1, 6, (4, 140), (4, 138), (1, 8), (4, 139))
def zr_100 : zRow := (yX6_countKeysBetween, cX6_countKeysBetween, 3, (some FieldType.int), 1, 0, 6, (4, 131), (4, 129), (1, 8), (4, 130))
def zr_101 : zRow := (yX6_countRead, cX6_countRead, 5, (some FieldType.int), 1, 2, 6, (4, 135), (4, 133), (1, 8), (4, 134))
def zr_102 : zRow := (yX6_findBest, cX6_findBest, 6, none, 1, 2, 6, (4, 162), (4, 160), (1, 8), (4, 161))
def zr_103 : zRow := (yX6_countLinesByGap, cX6_countLinesByGap, 7, (some FieldType.int), 1, 2, 6, (4, 166), (4, 165), (1, 8), (0, 25))
def zr_104 : zRow := (yX7_init, cX7_init, 1, none, 2, 0, 7, (1, 148), (1, 147), (1, 6), (99, 0))
def zr_105 : zRow := (yX7_append, cX7_append, 2, none, 1, 1, 7, (2, 229), (2, 227), (1, 6), (2, 228))
def zr_106 : zRow := (yX7_wipeAll, cX7_wipeAll, 1, none, 1, 0, 7, (2, 237), (2, 235), (1, 6), (2, 236))
def zr_107 : zRow := (yX7_rewind, cX7_rewind, 1, none, 1, 0, 7, (3, 9), (3, 7), (1, 6), (3, 8))
def zr_108 : zRow := (yX7_ahead, cX7_ahead, 1, (some FieldType.int), 1, 0, 7, (3, 17), (3, 15), (1, 6), (3, 16))
def zr_109 : zRow := (yX7_take, cX7_take, 1, none, 1, 0, 7, (3, 27), (3, 25), (1, 6), (3, 26))
def zr_110 : zRow := (yX7_columnAhead, cX7_columnAhead, 2, (some FieldType.int), 1, 0, 7, (3, 99), (3, 97), (1, 6), (3, 98))
def zr_111 : zRow := (yX7_signAhead, cX7_signAhead, 1, (some FieldType.int), 1, 0, 7, (3, 107), (3, 105), (1, 6), (3, 106))
def zr_112 : zRow := (yX7_digitAhead, cX7_digitAhead, 4, (some FieldType.int), 1, 2, 7, (3, 21), (3, 19), (1, 6), (3, 20))
def zr_113 : zRow := (yX8_init, cX8_init, 1, none, 2, 0, 8, (1, 18), (1, 17), (1, 1), (99, 0))
def zr_114 : zRow := (yX8_row, cX8_row, 4, (some FieldType.int), 1, 3, 8, (2, 48), (2, 46), (1, 1), (2, 47))
def zr_115 : zRow := (yX8_set, cX8_set, 6, (some FieldType.int), 1, 3, 8, (2, 67), (2, 65), (1, 1), (2, 66))
def zr_116 : zRow := (yX8_copy, cX8_copy, 7, (some FieldType.int), 1, 5, 8, (2, 86), (2, 84), (1, 1), (2, 85))
def zr_117 : zRow := (yX8_element, cX8_element, 3, (some FieldType.long), 1, 2, 8, (2, 106), (2, 104), (1, 1), (2, 105))
def zr_118 : zRow := (yX8_holds, cX8_holds, 2, (some FieldType.int), 1, 1, 8, (2, 114), (2, 112), (1, 1), (2, 113))
def zr_119 : zRow := (yX8_show, cX8_show, 3, (some FieldType.int), 1, 2, 8, (2, 122), (2, 120), (1, 1), (2, 121))
def zr_120 : zRow := (yX8_says, cX8_says, 4, (some FieldType.int), 1, 2, 8, (2, 139), (2, 137), (1, 1), (2, 138))
def zr_121 : zRow := (yX8_line, cX8_line, 4, (some FieldType.int), 1, 3, 8, (2, 175), (2, 173), (1, 1), (2, 174))
def zr_122 : zRow := (yX8_alter, cX8_alter, 5, (some FieldType.int), 1, 3, 8, (2, 194), (2, 192), (1, 1), (2, 193))
def zr_123 : zRow := (yX8_strike, cX8_strike, 2, (some FieldType.int), 1, 1, 8, (2, 211), (2, 209), (1, 1), (2, 210))
def zr_124 : zRow := (yX8_price, cX8_price, 3, (some FieldType.int), 1, 1, 8, (2, 221), (2, 219), (1, 1), (2, 220))
def zr_125 : zRow := (yX8_feed, cX8_feed, 2, (some FieldType.int), 1, 1, 8, (2, 225), (2, 223), (1, 1), (2, 224))
def zr_126 : zRow := (yX8_wipe, cX8_wipe, 2, (some FieldType.int), 1, 0, 8, (2, 233), (2, 231), (1, 1), (2, 232))
def zr_127 : zRow := (yX8_table, cX8_table, 5, (some FieldType.int), 1, 0, 8, (3, 1), (2, 239), (1, 1), (3, 0))
def zr_128 : zRow := (yX8_cond, cX8_cond, 3, (some FieldType.int), 1, 0, 8, (3, 40), (3, 38), (1, 1), (3, 39))
def zr_129 : zRow := (yX8_test, cX8_test, 4, (some FieldType.int), 1, 3, 8, (3, 203), (3, 201), (1, 1), (3, 202))
def zr_130 : zRow := (yX8_among, cX8_among, 3, (some FieldType.int), 1, 2, 8, (3, 215), (3, 213), (1, 1), (3, 214))
def zr_131 : zRow := (yX8_gone, cX8_gone, 2, (some FieldType.int), 1, 1, 8, (3, 219), (3, 217), (1, 1), (3, 218))
def zr_132 : zRow := (yX8_columns, cX8_columns, 5, (some FieldType.int), 1, 3, 8, (3, 223), (3, 221), (1, 1), (3, 222))
def zr_133 : zRow := (yX8_rest, cX8_rest, 5, (some FieldType.int), 1, 3, 8, (3, 227), (3, 225), (1, 1), (3, 226))
def zr_134 : zRow := (yX8_several, cX8_several, 7, (some FieldType.int), 1, 3, 8, (3, 231), (3, 229), (1, 1), (3, 230))
def zr_135 : zRow := (yX8_pair, cX8_pair, 4, (some FieldType.int), 1, 3, 8, (4, 5), (4, 3), (1, 1), (4, 4))
def zr_136 : zRow := (yX8_turn, cX8_turn, 3, (some FieldType.int), 1, 2, 8, (4, 10), (4, 8), (1, 1), (4, 9))
def zr_137 : zRow := (yX8_drop, cX8_drop, 1, (some FieldType.int), 1, 0, 8, (4, 14), (4, 12), (1, 1), (4, 13))
def zr_138 : zRow := (yX8_condOf, cX8_condOf, 4, (some FieldType.int), 1, 2, 8, (4, 23), (4, 21), (1, 1), (4, 22))
def zr_139 : zRow := (yX8_lineOf, cX8_lineOf, 3, (some FieldType.int), 1, 2, 8, (4, 27), (4, 25), (1, 1), (4, 26))
def zr_140 : zRow := (yX8_keyOf, cX8_keyOf, 3, (some FieldType.int), 1, 2, 8, (4, 31), (4, 29), (1, 1), (4, 30))
def zr_141 : zRow := (yX8_truth, cX8_truth, 4, (some FieldType.int), 1, 3, 8, (4, 45), (4, 43), (1, 1), (4, 44))
def zr_142 : zRow := (yX8_keys, cX8_keys, 3, (some FieldType.int), 1, 2, 8, (4, 58), (4, 56), (1, 1), (4, 57))
def zr_143 : zRow := (yX8_lines, cX8_lines, 3, (some FieldType.int), 1, 2, 8, (4, 66), (4, 64), (1, 1), (4, 65))
def zr_144 : zRow := (yX8_values, cX8_values, 3, (some FieldType.int), 1, 2, 8, (4, 79), (4, 77), (1, 1), (4, 78))
def zr_145 : zRow := (yX8_runs, cX8_runs, 3, (some FieldType.int), 1, 2, 8, (4, 84), (4, 82), (1, 1), (4, 83))
def zr_146 : zRow := (yX8_run, cX8_run, 4, (some FieldType.int), 1, 3, 8, (4, 93), (4, 91), (1, 1), (4, 92))
def zr_147 : zRow := (yX8_plan, cX8_plan, 6, (some FieldType.int), 1, 4, 8, (4, 101), (4, 99), (1, 1), (4, 100))
def zr_148 : zRow := (yX8_of, cX8_of, 6, (some FieldType.int), 1, 4, 8, (4, 127), (4, 125), (1, 1), (4, 126))
def zr_149 : zRow := (yX8_best, cX8_best, 4, (some FieldType.int), 1, 3, 8, (4, 158), (4, 156), (1, 1), (4, 157))
def zr_150 : zRow := (yX8_bestIndex, cX8_bestIndex, 6, (some FieldType.int), 1, 2, 8, (4, 170), (4, 168), (1, 1), (4, 169))
def zr_151 : zRow := (yX8_seek, cX8_seek, 6, (some FieldType.int), 1, 4, 8, (4, 174), (4, 172), (1, 1), (4, 173))
def zr_152 : zRow := (yX8_leaders, cX8_leaders, 8, (some FieldType.int), 1, 4, 8, (4, 186), (4, 184), (1, 1), (4, 185))
def zr_153 : zRow := (yX8_found, cX8_found, 4, (some FieldType.int), 1, 3, 8, (4, 199), (4, 197), (1, 1), (4, 198))
def zr_154 : zRow := (yX8_order, cX8_order, 5, (some FieldType.int), 1, 4, 8, (4, 220), (4, 218), (1, 1), (4, 219))
def zr_155 : zRow := (yX8_behind, cX8_behind, 4, (some FieldType.int), 1, 3, 8, (4, 224), (4, 222), (1, 1), (4, 223))
def zr_156 : zRow := (yX8_implies, cX8_implies, 6, (some FieldType.int), 1, 2, 8, (4, 234), (4, 232), (1, 1), (4, 233))
def zr_157 : zRow := (yX8_alike, cX8_alike, 3, (some FieldType.int), 1, 2, 8, (4, 238), (4, 236), (1, 1), (4, 237))
def zr_158 : zRow := (yX8_same, cX8_same, 3, (some FieldType.int), 1, 1, 8, (5, 6), (5, 4), (1, 1), (5, 5))
def zr_159 : zRow := (yX8_signs, cX8_signs, 8, (some FieldType.int), 1, 4, 8, (5, 10), (5, 8), (1, 1), (5, 9))
def zr_160 : zRow := (yX8_judge, cX8_judge, 7, (some FieldType.int), 1, 4, 8, (5, 23), (5, 21), (1, 1), (5, 22))
def zr_161 : zRow := (yX8_many, cX8_many, 3, (some FieldType.int), 1, 2, 8, (5, 27), (5, 25), (1, 1), (5, 26))
def zr_162 : zRow := (yX8_whatIf, cX8_whatIf, 8, (some FieldType.int), 1, 4, 8, (5, 35), (5, 33), (1, 1), (5, 34))
def zr_163 : zRow := (yX8_days, cX8_days, 3, (some FieldType.int), 1, 1, 8, (5, 39), (5, 37), (1, 1), (5, 38))
def zr_164 : zRow := (yX8_seed, cX8_seed, 3, (some FieldType.int), 1, 1, 8, (5, 54), (5, 52), (1, 1), (5, 53))
def zr_165 : zRow := (yX8_image, cX8_image, 1, (some FieldType.int), 1, 0, 8, (5, 58), (5, 56), (1, 1), (5, 57))
def zr_166 : zRow := (yX8_back, cX8_back, 1, (some FieldType.int), 1, 0, 8, (5, 77), (5, 75), (1, 1), (5, 76))
def zr_167 : zRow := (yX8_status, cX8_status, 2, (some FieldType.int), 1, 1, 8, (5, 81), (5, 79), (1, 1), (5, 80))
def zr_168 : zRow := (yX8_refuse, cX8_refuse, 3, (some FieldType.int), 1, 1, 8, (2, 59), (2, 58), (1, 1), (0, 0))
def zr_169 : zRow := (yX8_settled, cX8_settled, 1, (some FieldType.int), 1, 0, 8, (3, 148), (3, 147), (1, 1), (0, 12))
def zr_170 : zRow := (yX8_isCondAndIndex, cX8_isCondAndIndex, 3, (some FieldType.boolean), 1, 2, 8, (4, 49), (4, 48), (1, 1), (0, 19))
def zr_171 : zRow := (yX8_tellsSeveral, cX8_tellsSeveral, 10, (some FieldType.boolean), 1, 2, 8, (3, 239), (3, 238), (1, 1), (0, 18))
def zr_172 : zRow := (yX8_tellsLines, cX8_tellsLines, 8, (some FieldType.boolean), 1, 2, 8, (5, 14), (5, 13), (1, 1), (0, 29))
def zr_173 : zRow := (yX8_fitsTold, cX8_fitsTold, 9, (some FieldType.boolean), 1, 5, 8, (5, 18), (5, 17), (1, 1), (0, 30))
def zr_174 : zRow := (yX8_stillToTest, cX8_stillToTest, 5, (some FieldType.int), 1, 2, 8, (4, 149), (4, 148), (1, 1), (0, 23))
def zr_175 : zRow := (yX8_isTrueInPlan, cX8_isTrueInPlan, 4, (some FieldType.boolean), 1, 2, 8, (4, 153), (4, 152), (1, 1), (0, 24))
def zr_176 : zRow := (yX8_seekUp, cX8_seekUp, 4, (some FieldType.int), 0, 3, 8, (4, 177), (4, 176), (1, 1), (99, 0))
def zr_177 : zRow := (yX8_seekDown, cX8_seekDown, 4, (some FieldType.int), 0, 3, 8, (4, 181), (4, 180), (1, 1), (99, 0))
def zr_178 : zRow := (yX8_countDifferentKeys, cX8_countDifferentKeys, 2, (some FieldType.int), 1, 0, 8, (5, 85), (5, 84), (1, 1), (0, 32))
def zr_179 : zRow := (yX8_clearSeen, cX8_clearSeen, 2, none, 1, 0, 8, (4, 190), (4, 189), (1, 1), (0, 26))
def zr_180 : zRow := (yX8_countSeen, cX8_countSeen, 3, (some FieldType.int), 1, 0, 8, (4, 195), (4, 194), (1, 1), (0, 27))
def zr_181 : zRow := (yX8_isWithin, cX8_isWithin, 3, (some FieldType.boolean), 0, 3, 8, (2, 54), (2, 53), (1, 1), (99, 0))
def zr_182 : zRow := (yX8_isColumn, cX8_isColumn, 1, (some FieldType.boolean), 0, 1, 8, (2, 202), (2, 201), (1, 1), (99, 0))
def zr_183 : zRow := (yX8_isIndex, cX8_isIndex, 1, (some FieldType.boolean), 0, 1, 8, (4, 34), (4, 33), (1, 1), (99, 0))
def zr_184 : zRow := (yX8_isSign, cX8_isSign, 1, (some FieldType.boolean), 0, 1, 8, (3, 206), (3, 205), (1, 1), (99, 0))
def zr_185 : zRow := (yX8_isTruth, cX8_isTruth, 1, (some FieldType.boolean), 0, 1, 8, (4, 61), (4, 60), (1, 1), (99, 0))
def zr_186 : zRow := (yX8_isDigit, cX8_isDigit, 1, (some FieldType.boolean), 0, 1, 8, (2, 178), (2, 177), (1, 1), (99, 0))
def zr_187 : zRow := (yX8_isValue, cX8_isValue, 1, (some FieldType.boolean), 0, 1, 8, (3, 209), (3, 208), (1, 1), (99, 0))
def zr_188 : zRow := (yX8_placeOf, cX8_placeOf, 3, (some FieldType.int), 0, 2, 8, (4, 52), (4, 51), (1, 1), (99, 0))
def zr_189 : zRow := (yX8_compared, cX8_compared, 4, (some FieldType.int), 0, 3, 8, (3, 174), (3, 173), (1, 1), (99, 0))
def zr_190 : zRow := (yX9_init, cX9_init, 1, none, 2, 0, 9, (5, 94), (5, 93), (1, 10), (99, 0))
def zr_191 : zRow := (yX9_refuse, cX9_refuse, 2, (some FieldType.int), 1, 1, 9, (5, 235), (5, 234), (1, 10), (0, 33))
def zr_192 : zRow := (yX9_in, cX9_in, 6, (some FieldType.boolean), 0, 3, 9, (5, 229), (5, 228), (1, 10), (99, 0))
def zr_193 : zRow := (yX9_isCond, cX9_isCond, 2, (some FieldType.boolean), 1, 1, 9, (6, 26), (6, 25), (1, 10), (0, 35))
def zr_194 : zRow := (yX9_isLine, cX9_isLine, 2, (some FieldType.boolean), 1, 1, 9, (6, 69), (6, 68), (1, 10), (0, 40))
def zr_195 : zRow := (yX9_bits, cX9_bits, 3, (some FieldType.int), 0, 1, 9, (6, 52), (6, 51), (1, 10), (99, 0))
def zr_196 : zRow := (yX9_row, cX9_row, 5, (some FieldType.int), 1, 3, 9, (5, 225), (5, 223), (1, 10), (5, 224))
def zr_197 : zRow := (yX9_fit, cX9_fit, 3, (some FieldType.long), 0, 2, 9, (6, 6), (6, 5), (1, 10), (99, 0))
def zr_198 : zRow := (yX9_noRow, cX9_noRow, 2, (some FieldType.int), 1, 1, 9, (6, 3), (6, 2), (1, 10), (0, 34))
def zr_199 : zRow := (yX9_set, cX9_set, 6, (some FieldType.int), 1, 3, 9, (5, 239), (5, 237), (1, 10), (5, 238))
def zr_200 : zRow := (yX9_copy, cX9_copy, 7, (some FieldType.int), 1, 5, 9, (6, 10), (6, 8), (1, 10), (6, 9))
def zr_201 : zRow := (yX9_element, cX9_element, 3, (some FieldType.long), 1, 2, 9, (6, 14), (6, 12), (1, 10), (6, 13))
def zr_202 : zRow := (yX9_holds, cX9_holds, 2, (some FieldType.int), 1, 1, 9, (6, 18), (6, 16), (1, 10), (6, 17))
def zr_203 : zRow := (yX9_show, cX9_show, 3, (some FieldType.int), 1, 2, 9, (6, 22), (6, 20), (1, 10), (6, 21))
def zr_204 : zRow := (yX9_isOf, cX9_isOf, 2, (some FieldType.boolean), 0, 2, 9, (6, 34), (6, 33), (1, 10), (99, 0))
def zr_205 : zRow := (yX9_says, cX9_says, 4, (some FieldType.int), 1, 2, 9, (6, 30), (6, 28), (1, 10), (6, 29))
def zr_206 : zRow := (yX9_columnAt, cX9_columnAt, 5, (some FieldType.int), 0, 2, 9, (7, 44), (7, 43), (1, 10), (99, 0))
def zr_207 : zRow := (yX9_digit, cX9_digit, 2, (some FieldType.int), 0, 2, 9, (6, 49), (6, 48), (1, 10), (99, 0))
def zr_208 : zRow := (yX9_weight, cX9_weight, 1, (some FieldType.int), 0, 1, 9, (7, 41), (7, 40), (1, 10), (99, 0))
def zr_209 : zRow := (yX9_plain, cX9_plain, 4, (some FieldType.int), 0, 2, 9, (7, 52), (7, 51), (1, 10), (99, 0))
def zr_210 : zRow := (yX9_keyIn, cX9_keyIn, 5, (some FieldType.int), 1, 2, 9, (7, 38), (7, 37), (1, 10), (0, 68))
def zr_211 : zRow := (yX9_isAt, cX9_isAt, 3, (some FieldType.int), 1, 2, 9, (6, 42), (6, 41), (1, 10), (0, 37))
def zr_212 : zRow := (yX9_isFor, cX9_isFor, 3, (some FieldType.int), 1, 2, 9, (7, 68), (7, 67), (1, 10), (0, 70))
def zr_213 : zRow := (yX9_holds_, cX9_holds_, 4, (some FieldType.int), 0, 3, 9, (6, 205), (6, 204), (1, 10), (99, 0))
def zr_214 : zRow := (yX9_severalFor, cX9_severalFor, 9, (some FieldType.int), 1, 2, 9, (6, 202), (6, 201), (1, 10), (0, 64))
def zr_215 : zRow := (yX9_leafFor, cX9_leafFor, 6, (some FieldType.int), 1, 2, 9, (6, 198), (6, 197), (1, 10), (0, 63))
def zr_216 : zRow := (yX9_worked, cX9_worked, 5, (some FieldType.int), 1, 2, 9, (6, 194), (6, 193), (1, 10), (0, 62))
def zr_217 : zRow := (yX9_leafIn, cX9_leafIn, 4, none, 1, 1, 9, (6, 186), (6, 185), (1, 10), (0, 60))
def zr_218 : zRow := (yX9_overIn, cX9_overIn, 4, none, 1, 1, 9, (6, 190), (6, 189), (1, 10), (0, 61))
def zr_219 : zRow := (yX9_workFrom, cX9_workFrom, 4, none, 1, 1, 9, (6, 182), (6, 181), (1, 10), (0, 59))
def zr_220 : zRow := (yX9_put, cX9_put, 5, none, 1, 4, 9, (6, 61), (6, 60), (1, 10), (0, 39))
def zr_221 : zRow := (yX9_line, cX9_line, 4, (some FieldType.int), 1, 3, 9, (6, 56), (6, 54), (1, 10), (6, 55))
def zr_222 : zRow := (yX9_alter, cX9_alter, 5, (some FieldType.int), 1, 3, 9, (6, 65), (6, 63), (1, 10), (6, 64))
def zr_223 : zRow := (yX9_strikeOut, cX9_strikeOut, 3, none, 1, 1, 9, (6, 78), (6, 77), (1, 10), (0, 41))
def zr_224 : zRow := (yX9_strike, cX9_strike, 2, (some FieldType.int), 1, 1, 9, (6, 74), (6, 72), (1, 10), (6, 73))
def zr_225 : zRow := (yX9_price, cX9_price, 3, (some FieldType.int), 1, 1, 9, (6, 82), (6, 80), (1, 10), (6, 81))
def zr_226 : zRow := (yX9_feed, cX9_feed, 2, (some FieldType.int), 1, 1, 9, (6, 87), (6, 85), (1, 10), (6, 86))
def zr_227 : zRow := (yX9_wipe, cX9_wipe, 2, (some FieldType.int), 1, 0, 9, (6, 92), (6, 90), (1, 10), (6, 91))
def zr_228 : zRow := (yX9_isCell, cX9_isCell, 1, (some FieldType.boolean), 0, 1, 9, (6, 103), (6, 102), (1, 10), (99, 0))
def zr_229 : zRow := (yX9_tableFault, cX9_tableFault, 4, (some FieldType.int), 1, 0, 9, (6, 100), (6, 99), (1, 10), (0, 42))
def zr_230 : zRow := (yX9_table, cX9_table, 6, (some FieldType.int), 1, 0, 9, (6, 96), (6, 94), (1, 10), (6, 95))
def zr_231 : zRow := (yX9_clearTold, cX9_clearTold, 2, none, 1, 0, 9, (6, 137), (6, 136), (1, 10), (0, 49))
def zr_232 : zRow := (yX9_make, cX9_make, 3, (some FieldType.int), 1, 1, 9, (6, 141), (6, 140), (1, 10), (0, 50))
def zr_233 : zRow := (yX9_makeOver, cX9_makeOver, 4, (some FieldType.int), 1, 3, 9, (6, 133), (6, 132), (1, 10), (0, 48))
def zr_234 : zRow := (yX9_here, cX9_here, 1, (some FieldType.int), 1, 0, 9, (6, 129), (6, 128), (1, 10), (0, 47))
def zr_235 : zRow := (yX9_sees, cX9_sees, 3, (some FieldType.boolean), 1, 1, 9, (6, 125), (6, 124), (1, 10), (0, 46))
def zr_236 : zRow := (yX9_wrong, cX9_wrong, 1, (some FieldType.int), 1, 0, 9, (6, 149), (6, 148), (1, 10), (0, 52))
def zr_237 : zRow := (yX9_must, cX9_must, 2, none, 1, 1, 9, (6, 145), (6, 144), (1, 10), (0, 51))
def zr_238 : zRow := (yX9_signOf, cX9_signOf, 1, (some FieldType.int), 0, 1, 9, (6, 166), (6, 165), (1, 10), (99, 0))
def zr_239 : zRow := (yX9_number, cX9_number, 3, (some FieldType.int), 1, 2, 9, (6, 170), (6, 169), (1, 10), (0, 56))
def zr_240 : zRow := (yX9_signHere, cX9_signHere, 1, none, 1, 0, 9, (6, 163), (6, 162), (1, 10), (0, 55))
def zr_241 : zRow := (yX9_severalHere, cX9_severalHere, 4, (some FieldType.int), 1, 1, 9, (6, 159), (6, 158), (1, 10), (0, 54))
def zr_242 : zRow := (yX9_amongHere, cX9_amongHere, 2, (some FieldType.int), 1, 1, 9, (6, 174), (6, 173), (1, 10), (0, 57))
def zr_243 : zRow := (yX9_columnHere, cX9_columnHere, 3, (some FieldType.int), 1, 1, 9, (6, 155), (6, 154), (1, 10), (0, 53))
def zr_244 : zRow := (yX9_turnHere, cX9_turnHere, 3, (some FieldType.int), 1, 0, 9, (6, 121), (6, 120), (1, 10), (0, 45))
def zr_245 : zRow := (yX9_eachHere, cX9_eachHere, 3, (some FieldType.int), 1, 0, 9, (6, 117), (6, 116), (1, 10), (0, 44))
def zr_246 : zRow := (yX9_condHere, cX9_condHere, 3, (some FieldType.int), 1, 0, 9, (6, 113), (6, 112), (1, 10), (0, 43))
def zr_247 : zRow := (yX9_cond, cX9_cond, 1, (some FieldType.int), 1, 0, 9, (6, 109), (6, 107), (1, 10), (6, 108))
def zr_248 : zRow := (yX9_added, cX9_added, 2, (some FieldType.int), 1, 0, 9, (6, 178), (6, 177), (1, 10), (0, 58))
def zr_249 : zRow := (yX9_add, cX9_add, 2, (some FieldType.int), 1, 1, 9, (6, 221), (6, 220), (1, 10), (0, 66))
def zr_250 : zRow := (yX9_tell, cX9_tell, 6, (some FieldType.int), 1, 5, 9, (6, 217), (6, 216), (1, 10), (0, 65))
def zr_251 : zRow := (yX9_isColumn, cX9_isColumn, 1, (some FieldType.boolean), 0, 1, 9, (6, 212), (6, 211), (1, 10), (99, 0))
def zr_252 : zRow := (yX9_test, cX9_test, 4, (some FieldType.int), 1, 3, 9, (6, 209), (6, 207), (1, 10), (6, 208))
def zr_253 : zRow := (yX9_among, cX9_among, 3, (some FieldType.int), 1, 2, 9, (6, 225), (6, 223), (1, 10), (6, 224))
def zr_254 : zRow := (yX9_gone, cX9_gone, 2, (some FieldType.int), 1, 1, 9, (6, 229), (6, 227), (1, 10), (6, 228))
def zr_255 : zRow := (yX9_columns, cX9_columns, 4, (some FieldType.int), 1, 3, 9, (6, 233), (6, 231), (1, 10), (6, 232))
def zr_256 : zRow := (yX9_rest, cX9_rest, 4, (some FieldType.int), 1, 3, 9, (6, 237), (6, 235), (1, 10), (6, 236))
def zr_257 : zRow := (yX9_noRowOf, cX9_noRowOf, 4, (some FieldType.int), 1, 2, 9, (7, 5), (7, 4), (1, 10), (0, 67))
def zr_258 : zRow := (yX9_several, cX9_several, 11, (some FieldType.int), 1, 3, 9, (7, 1), (6, 239), (1, 10), (7, 0))
def zr_259 : zRow := (yX9_pair, cX9_pair, 4, (some FieldType.int), 1, 3, 9, (7, 9), (7, 7), (1, 10), (7, 8))
def zr_260 : zRow := (yX9_turn, cX9_turn, 3, (some FieldType.int), 1, 2, 9, (7, 13), (7, 11), (1, 10), (7, 12))
def zr_261 : zRow := (yX9_drop, cX9_drop, 2, (some FieldType.int), 1, 0, 9, (7, 18), (7, 16), (1, 10), (7, 17))
def zr_262 : zRow := (yX9_condOf, cX9_condOf, 3, (some FieldType.int), 1, 2, 9, (7, 22), (7, 20), (1, 10), (7, 21))
def zr_263 : zRow := (yX9_lineOf, cX9_lineOf, 3, (some FieldType.int), 1, 2, 9, (7, 26), (7, 24), (1, 10), (7, 25))
def zr_264 : zRow := (yX9_isIndex, cX9_isIndex, 1, (some FieldType.boolean), 0, 1, 9, (7, 33), (7, 32), (1, 10), (99, 0))
def zr_265 : zRow := (yX9_keyOf, cX9_keyOf, 3, (some FieldType.int), 1, 2, 9, (7, 30), (7, 28), (1, 10), (7, 29))
def zr_266 : zRow := (yX9_truth, cX9_truth, 4, (some FieldType.int), 1, 3, 9, (7, 48), (7, 46), (1, 10), (7, 47))
def zr_267 : zRow := (yX9_keysOf, cX9_keysOf, 5, (some FieldType.int), 1, 2, 9, (6, 38), (6, 37), (1, 10), (0, 36))
def zr_268 : zRow := (yX9_keys, cX9_keys, 3, (some FieldType.int), 1, 2, 9, (7, 56), (7, 54), (1, 10), (7, 55))
def zr_269 : zRow := (yX9_linesOf, cX9_linesOf, 5, (some FieldType.int), 1, 2, 9, (7, 64), (7, 63), (1, 10), (0, 69))
def zr_270 : zRow := (yX9_lines, cX9_lines, 3, (some FieldType.int), 1, 2, 9, (7, 60), (7, 58), (1, 10), (7, 59))
def zr_271 : zRow := (yX9_valuesOf, cX9_valuesOf, 5, (some FieldType.int), 1, 2, 9, (6, 46), (6, 45), (1, 10), (0, 38))
def zr_272 : zRow := (yX9_values, cX9_values, 3, (some FieldType.int), 1, 2, 9, (7, 72), (7, 70), (1, 10), (7, 71))
def zr_273 : zRow := (yX9_runsIn, cX9_runsIn, 6, none, 1, 2, 9, (7, 80), (7, 79), (1, 10), (0, 71))
def zr_274 : zRow := (yX9_mergeOnce, cX9_mergeOnce, 3, none, 1, 0, 9, (7, 100), (7, 99), (1, 10), (0, 74))
def zr_275 : zRow := (yX9_planIn, cX9_planIn, 4, none, 1, 3, 9, (7, 96), (7, 95), (1, 10), (0, 73))
def zr_276 : zRow := (yX9_spanAt, cX9_spanAt, 2, (some FieldType.int), 1, 1, 9, (7, 88), (7, 87), (1, 10), (0, 72))
def zr_277 : zRow := (yX9_runs, cX9_runs, 3, (some FieldType.int), 1, 2, 9, (7, 76), (7, 74), (1, 10), (7, 75))
def zr_278 : zRow := (yX9_run, cX9_run, 4, (some FieldType.int), 1, 3, 9, (7, 84), (7, 82), (1, 10), (7, 83))
def zr_279 : zRow := (yX9_plan, cX9_plan, 5, (some FieldType.int), 1, 4, 9, (7, 92), (7, 90), (1, 10), (7, 91))
def zr_280 : zRow := (yX9_isRead, cX9_isRead, 3, (some FieldType.boolean), 1, 1, 9, (7, 116), (7, 115), (1, 10), (0, 77))
def zr_281 : zRow := (yX9_readIn, cX9_readIn, 6, (some FieldType.int), 1, 3, 9, (7, 112), (7, 111), (1, 10), (0, 76))
def zr_282 : zRow := (yX9_otherKeys, cX9_otherKeys, 6, (some FieldType.int), 1, 2, 9, (7, 108), (7, 107), (1, 10), (0, 75))
def zr_283 : zRow := (yX9_still, cX9_still, 5, (some FieldType.int), 1, 2, 9, (7, 124), (7, 123), (1, 10), (0, 79))
def zr_284 : zRow := (yX9_costIn, cX9_costIn, 3, (some FieldType.int), 1, 2, 9, (7, 120), (7, 119), (1, 10), (0, 78))
def zr_285 : zRow := (yX9_of, cX9_of, 5, (some FieldType.int), 1, 4, 9, (7, 104), (7, 102), (1, 10), (7, 103))
def zr_286 : zRow := (yX9_bestIn, cX9_bestIn, 6, (some FieldType.int), 1, 2, 9, (7, 132), (7, 131), (1, 10), (0, 80))
def zr_287 : zRow := (yX9_best, cX9_best, 5, (some FieldType.int), 1, 3, 9, (7, 128), (7, 126), (1, 10), (7, 127))
def zr_288 : zRow := (yX9_bestIndex, cX9_bestIndex, 6, (some FieldType.int), 1, 2, 9, (7, 136), (7, 134), (1, 10), (7, 135))
def zr_289 : zRow := (yX9_seek, cX9_seek, 8, (some FieldType.int), 1, 4, 9, (7, 140), (7, 138), (1, 10), (7, 139))
def zr_290 : zRow := (yX9_leads, cX9_leads, 7, (some FieldType.boolean), 1, 5, 9, (7, 148), (7, 147), (1, 10), (0, 81))
def zr_291 : zRow := (yX9_leaders, cX9_leaders, 8, (some FieldType.int), 1, 4, 9, (7, 144), (7, 142), (1, 10), (7, 143))
def zr_292 : zRow := (yX9_without, cX9_without, 2, (some FieldType.int), 0, 2, 9, (7, 163), (7, 162), (1, 10), (99, 0))
def zr_293 : zRow := (yX9_isAhead, cX9_isAhead, 7, (some FieldType.boolean), 1, 4, 9, (7, 160), (7, 159), (1, 10), (0, 83))
def zr_294 : zRow := (yX9_findIn, cX9_findIn, 7, none, 1, 3, 9, (7, 156), (7, 155), (1, 10), (0, 82))
def zr_295 : zRow := (yX9_found, cX9_found, 4, (some FieldType.int), 1, 3, 9, (7, 152), (7, 150), (1, 10), (7, 151))
def zr_296 : zRow := (yX9_order, cX9_order, 5, (some FieldType.int), 1, 4, 9, (7, 167), (7, 165), (1, 10), (7, 166))
def zr_297 : zRow := (yX9_behind, cX9_behind, 6, (some FieldType.int), 1, 3, 9, (7, 171), (7, 169), (1, 10), (7, 170))
def zr_298 : zRow := (yX9_implies, cX9_implies, 4, (some FieldType.int), 1, 2, 9, (7, 175), (7, 173), (1, 10), (7, 174))
def zr_299 : zRow := (yX9_differ, cX9_differ, 4, (some FieldType.int), 1, 2, 9, (7, 183), (7, 182), (1, 10), (0, 84))
def zr_300 : zRow := (yX9_alike, cX9_alike, 3, (some FieldType.int), 1, 2, 9, (7, 179), (7, 177), (1, 10), (7, 178))
def zr_301 : zRow := (yX9_same, cX9_same, 3, (some FieldType.int), 1, 1, 9, (7, 187), (7, 185), (1, 10), (7, 186))
def zr_302 : zRow := (yX9_isTold, cX9_isTold, 9, (some FieldType.boolean), 1, 5, 9, (7, 195), (7, 194), (1, 10), (0, 85))
def zr_303 : zRow := (yX9_signs, cX9_signs, 8, (some FieldType.int), 1, 4, 9, (7, 191), (7, 189), (1, 10), (7, 190))
def zr_304 : zRow := (yX9_judge, cX9_judge, 7, (some FieldType.int), 1, 4, 9, (7, 199), (7, 197), (1, 10), (7, 198))
def zr_305 : zRow := (yX9_many, cX9_many, 5, (some FieldType.int), 1, 2, 9, (7, 203), (7, 201), (1, 10), (7, 202))
def zr_306 : zRow := (yX9_whatIf, cX9_whatIf, 7, (some FieldType.int), 1, 4, 9, (7, 207), (7, 205), (1, 10), (7, 206))
def zr_307 : zRow := (yX9_draw, cX9_draw, 2, (some FieldType.int), 1, 1, 9, (7, 216), (7, 215), (1, 10), (0, 86))
def zr_308 : zRow := (yX9_days, cX9_days, 7, (some FieldType.int), 1, 1, 9, (7, 211), (7, 209), (1, 10), (7, 210))
def zr_309 : zRow := (yX9_seed, cX9_seed, 3, (some FieldType.int), 1, 1, 9, (7, 221), (7, 219), (1, 10), (7, 220))
def zr_310 : zRow := (yX9_take, cX9_take, 3, none, 0, 2, 9, (7, 228), (7, 227), (1, 10), (99, 0))
def zr_311 : zRow := (yX9_image, cX9_image, 1, (some FieldType.int), 1, 0, 9, (7, 225), (7, 223), (1, 10), (7, 224))
def zr_312 : zRow := (yX9_back, cX9_back, 2, (some FieldType.int), 1, 0, 9, (7, 232), (7, 230), (1, 10), (7, 231))
def zr_313 : zRow := (yX9_differentKeys, cX9_differentKeys, 4, (some FieldType.int), 1, 0, 9, (8, 0), (7, 239), (1, 10), (0, 87))
def zr_314 : zRow := (yX9_status, cX9_status, 4, (some FieldType.int), 1, 1, 9, (7, 236), (7, 234), (1, 10), (7, 235))
def zr_315 : zRow := (yJ6_bitCount_0f7a4, cJ6_bitCount_0f7a4, 1, (some FieldType.int), 0, 1, 11, (2, 168), (2, 167), (1, 12), (99, 0))
def zr_316 : zRow := (yJ9_max_7cf53, cJ9_max_7cf53, 2, (some FieldType.int), 3, 2, 12, (3, 195), (99, 0), (1, 13), (99, 0))
def zr_317 : zRow := (yJ9_min_7cf53, cJ9_min_7cf53, 2, (some FieldType.int), 3, 2, 12, (3, 159), (99, 0), (1, 13), (99, 0))
def zr_318 : zRow := (yL_law, code, maxLocals, ret, 3, 1, 10, (99, 0), (99, 0), (99, 0), (99, 0))
def zT_0 : List zRow := [zr_0, zr_1, zr_2, zr_3, zr_4, zr_5, zr_6, zr_7, zr_8, zr_9, zr_10, zr_11, zr_12, zr_13, zr_14, zr_15, zr_16, zr_17, zr_18, zr_19, zr_20, zr_21, zr_22, zr_23, zr_24, zr_25, zr_26, zr_27, zr_28, zr_29, zr_30, zr_31, zr_32, zr_33, zr_34, zr_35, zr_36, zr_37, zr_38, zr_39]
def zT_1 : List zRow := [zr_40, zr_41, zr_42, zr_43, zr_44, zr_45, zr_46, zr_47, zr_48, zr_49, zr_50, zr_51, zr_52, zr_53, zr_54, zr_55, zr_56, zr_57, zr_58, zr_59, zr_60, zr_61, zr_62, zr_63, zr_64, zr_65, zr_66, zr_67, zr_68, zr_69, zr_70, zr_71, zr_72, zr_73, zr_74, zr_75, zr_76, zr_77, zr_78, zr_79]
def zT_2 : List zRow := [zr_80, zr_81, zr_82, zr_83, zr_84, zr_85, zr_86, zr_87, zr_88, zr_89, zr_90, zr_91, zr_92, zr_93, zr_94, zr_95, zr_96, zr_97, zr_98, zr_99, zr_100, zr_101, zr_102, zr_103, zr_104, zr_105, zr_106, zr_107, zr_108, zr_109, zr_110, zr_111, zr_112, zr_113, zr_114, zr_115, zr_116, zr_117, zr_118, zr_119]
def zT_3 : List zRow := [zr_120, zr_121, zr_122, zr_123, zr_124, zr_125, zr_126, zr_127, zr_128, zr_129, zr_130, zr_131, zr_132, zr_133, zr_134, zr_135, zr_136, zr_137, zr_138, zr_139, zr_140, zr_141, zr_142, zr_143, zr_144, zr_145, zr_146, zr_147, zr_148, zr_149, zr_150, zr_151, zr_152, zr_153, zr_154, zr_155, zr_156, zr_157, zr_158, zr_159]
def zT_4 : List zRow := [zr_160, zr_161, zr_162, zr_163, zr_164, zr_165, zr_166, zr_167, zr_168, zr_169, zr_170, zr_171, zr_172, zr_173, zr_174, zr_175, zr_176, zr_177, zr_178, zr_179, zr_180, zr_181, zr_182, zr_183, zr_184, zr_185, zr_186, zr_187, zr_188, zr_189, zr_190, zr_191, zr_192, zr_193, zr_194, zr_195, zr_196, zr_197, zr_198, zr_199]
def zT_5 : List zRow := [zr_200, zr_201, zr_202, zr_203, zr_204, zr_205, zr_206, zr_207, zr_208, zr_209, zr_210, zr_211, zr_212, zr_213, zr_214, zr_215, zr_216, zr_217, zr_218, zr_219, zr_220, zr_221, zr_222, zr_223, zr_224, zr_225, zr_226, zr_227, zr_228, zr_229, zr_230, zr_231, zr_232, zr_233, zr_234, zr_235, zr_236, zr_237, zr_238, zr_239]
def zT_6 : List zRow := [zr_240, zr_241, zr_242, zr_243, zr_244, zr_245, zr_246, zr_247, zr_248, zr_249, zr_250, zr_251, zr_252, zr_253, zr_254, zr_255, zr_256, zr_257, zr_258, zr_259, zr_260, zr_261, zr_262, zr_263, zr_264, zr_265, zr_266, zr_267, zr_268, zr_269, zr_270, zr_271, zr_272, zr_273, zr_274, zr_275, zr_276, zr_277, zr_278, zr_279]
def zT_7 : List zRow := [zr_280, zr_281, zr_282, zr_283, zr_284, zr_285, zr_286, zr_287, zr_288, zr_289, zr_290, zr_291, zr_292, zr_293, zr_294, zr_295, zr_296, zr_297, zr_298, zr_299, zr_300, zr_301, zr_302, zr_303, zr_304, zr_305, zr_306, zr_307, zr_308, zr_309, zr_310, zr_311, zr_312, zr_313, zr_314, zr_315, zr_316, zr_317, zr_318]
def zTn : Nat := 318
def zNone : zRow := (yL_law, code, maxLocals, ret, 9, 1, 99, (99, 0), (99, 0), (99, 0), (99, 0))
def zrow (k : Nat) : zRow := match k / 40 with
  | 0 => (zT_0[k % 40]?).getD zNone
  | 1 => (zT_1[k % 40]?).getD zNone
  | 2 => (zT_2[k % 40]?).getD zNone
  | 3 => (zT_3[k % 40]?).getD zNone
  | 4 => (zT_4[k % 40]?).getD zNone
  | 5 => (zT_5[k % 40]?).getD zNone
  | 6 => (zT_6[k % 40]?).getD zNone
  | 7 => (zT_7[k % 40]?).getD zNone
  | _ => zNone
def zcn (c : Nat) : String := match c with
  | 0 => RX0
  | 1 => RX1
  | 2 => RX2
  | 3 => RX3
  | 4 => RX4
  | 5 => RX5
  | 6 => RX6
  | 7 => RX7
  | 8 => RX8
  | 9 => RX9
  | 10 => RL
  | 11 => RJ6
  | 12 => RJ9
  | 13 => RJ10
  | _ => "-"
def zpart (i : Nat) : List Cond := match i with
  | 0 => k2_sels lw_privs
  | 1 => tables_1_1
  | 2 => tables_1_2
  | 3 => tables_1_3
  | 4 => tables_1_4
  | 5 => tables_1_5
  | 6 => tables_1_6
  | 7 => tables_1_7
  | 8 => tables_1_8
  | _ => []
def zMl_0 : List (Nat × (Nat × Nat × zPos)) := [(3, (1000, 0, (1, 60))), (44, (181, 1, (3, 115))), (48, (1, 0, (5, 71))), (52, (2, 0, (5, 72))), (62, (1001, 0, (5, 73))), (68, (9, 0, (3, 164))), (72, (1002, 0, (3, 193))), (78, (14, 0, (3, 196))), (81, (10, 0, (3, 168))), (84, (189, 1, (3, 172))), (88, (11, 0, (3, 175))), (92, (12, 0, (3, 178))), (95, (13, 0, (3, 182))), (101, (15, 0, (3, 186))), (104, (18, 0, (2, 156))), (107, (19, 0, (2, 160))), (110, (315, 0, (2, 166)))]
def zMl_1 : List (Nat × (Nat × Nat × zPos)) := [(3, (1000, 0, (1, 53))), (17, (0, 0, (1, 57))), (25, (6, 0, (5, 67))), (29, (181, 1, (2, 127))), (33, (24, 0, (3, 69))), (37, (1, 0, (3, 70))), (41, (1003, 0, (3, 157))), (50, (7, 0, (3, 160))), (60, (8, 0, (3, 189)))]
def zMl_2 : List (Nat × (Nat × Nat × zPos)) := [(3, (1000, 0, (1, 27))), (25, (1001, 0, (2, 217))), (31, (181, 1, (2, 199))), (35, (35, 0, (2, 187))), (39, (36, 0, (2, 183))), (43, (33, 0, (2, 216))), (50, (34, 0, (4, 41))), (60, (39, 0, (4, 75))), (63, (40, 0, (4, 71))), (67, (44, 0, (5, 44))), (71, (37, 0, (5, 49))), (74, (38, 0, (5, 50)))]
def zMl_3 : List (Nat × (Nat × Nat × zPos)) := [(3, (1000, 0, (1, 239))), (22, (40, 0, (4, 204))), (26, (39, 0, (4, 205))), (30, (46, 0, (4, 206))), (34, (48, 0, (4, 209))), (38, (49, 0, (4, 230)))]
def zMl_4 : List (Nat × (Nat × Nat × zPos)) := [(3, (1000, 0, (1, 167))), (23, (107, 0, (3, 6))), (30, (53, 0, (3, 10))), (34, (108, 0, (3, 14))), (38, (109, 0, (3, 24))), (41, (112, 0, (3, 18))), (45, (181, 1, (3, 36))), (55, (58, 0, (3, 45))), (59, (57, 0, (3, 82))), (63, (62, 0, (3, 85))), (67, (25, 0, (3, 89))), (73, (67, 0, (3, 93))), (77, (27, 0, (3, 74))), (80, (60, 0, (3, 133))), (84, (59, 0, (3, 137))), (88, (61, 0, (3, 49))), (92, (63, 0, (3, 53))), (95, (64, 0, (3, 57))), (98, (66, 0, (3, 61))), (101, (26, 0, (3, 65))), (105, (65, 0, (3, 78))), (108, (110, 0, (3, 96))), (111, (2, 0, (3, 100))), (117, (111, 0, (3, 104))), (120, (68, 0, (3, 108))), (123, (69, 0, (3, 120))), (129, (70, 0, (3, 123))), (132, (71, 0, (3, 126))), (138, (4, 0, (3, 111))), (141, (5, 0, (3, 116))), (147, (3, 0, (3, 129)))]
def zMl_5 : List (Nat × (Nat × Nat × zPos)) := [(3, (1000, 0, (1, 132))), (22, (181, 1, (2, 52))), (26, (79, 0, (2, 91))), (30, (87, 0, (2, 80))), (34, (1001, 0, (2, 100))), (40, (77, 0, (4, 19)))]
def zMl_6 : List (Nat × (Nat × Nat × zPos)) := [(3, (1000, 0, (1, 192))), (48, (188, 1, (4, 89))), (52, (1003, 0, (4, 106))), (57, (94, 0, (4, 115))), (61, (95, 0, (4, 111))), (64, (1002, 0, (4, 119))), (67, (181, 1, (4, 145))), (71, (98, 0, (4, 141))), (77, (39, 0, (4, 136))), (80, (99, 0, (4, 137))), (87, (103, 0, (4, 163)))]
def zMl_7 : List (Nat × (Nat × Nat × zPos)) := [(3, (1000, 0, (1, 149))), (22, (108, 0, (3, 22))), (26, (181, 1, (3, 23)))]
def zMl_8 : List (Nat × (Nat × Nat × zPos)) := [(1, (1000, 0, (1, 19))), (9, (31, 0, (1, 24))), (21, (21, 0, (1, 50))), (31, (72, 0, (1, 129))), (38, (104, 0, (1, 146))), (45, (51, 0, (1, 164))), (52, (90, 0, (1, 189))), (59, (45, 0, (1, 236))), (76, (73, 0, (2, 49))), (80, (181, 0, (2, 55))), (84, (168, 0, (2, 56))), (88, (78, 0, (2, 60))), (92, (79, 0, (2, 68))), (95, (82, 0, (2, 72))), (99, (85, 0, (2, 76))), (103, (81, 0, (2, 87))), (107, (83, 0, (2, 92))), (110, (86, 0, (2, 96))), (114, (84, 0, (2, 107))), (118, (74, 0, (2, 115))), (121, (23, 0, (2, 123))), (124, (75, 0, (2, 128))), (128, (76, 0, (2, 132))), (132, (77, 0, (2, 140))), (135, (24, 0, (2, 144))), (139, (16, 0, (2, 148))), (144, (17, 0, (2, 152))), (147, (186, 0, (2, 176))), (154, (37, 0, (2, 179))), (157, (33, 0, (2, 195))), (158, (182, 0, (2, 200))), (161, (34, 0, (2, 203))), (164, (35, 0, (2, 207))), (166, (38, 0, (2, 212))), (175, (105, 0, (2, 226))), (178, (106, 0, (2, 234))), (181, (52, 0, (3, 2))), (188, (54, 0, (3, 28))), (192, (55, 0, (3, 32))), (195, (56, 0, (3, 41))), (199, (29, 0, (3, 141))), (202, (169, 0, (3, 145))), (205, (184, 0, (3, 204))), (208, (187, 0, (3, 207))), (211, (25, 0, (3, 210))), (215, (2, 0, (3, 211))), (221, (80, 0, (3, 232))), (224, (171, 0, (3, 236))), (227, (26, 0, (4, 6))), (231, (88, 0, (4, 15))), (255, (183, 0, (4, 32))), (258, (39, 0, (4, 35))), (261, (170, 0, (4, 46))), (268, (188, 0, (4, 50))), (271, (185, 0, (4, 59))), (274, (18, 0, (4, 62))), (277, (41, 0, (4, 67))), (281, (19, 0, (4, 80))), (284, (91, 0, (4, 85))), (289, (92, 0, (4, 94))), (292, (93, 0, (4, 102))), (295, (96, 0, (4, 107))), (298, (97, 0, (4, 120))), (301, (100, 0, (4, 128))), (304, (101, 0, (4, 132))), (308, (174, 0, (4, 146))), (311, (102, 0, (4, 159))), (321, (176, 0, (4, 175))), (325, (177, 0, (4, 179))), (328, (179, 0, (4, 187))), (331, (40, 0, (4, 191))), (334, (180, 0, (4, 192))), (337, (47, 0, (4, 200))), (342, (49, 0, (4, 213))), (345, (46, 0, (4, 225))), (349, (50, 0, (4, 226))), (352, (20, 0, (4, 239))), (356, (172, 0, (5, 11))), (359, (173, 0, (5, 15))), (363, (42, 0, (5, 28))), (366, (43, 0, (5, 40))), (372, (32, 0, (5, 59))), (376, (22, 0, (5, 63))), (379, (178, 0, (5, 82))), (382, (89, 0, (5, 86))), (385, (28, 0, (3, 149))), (389, (30, 0, (3, 153))), (396, (189, 0, (5, 19))), (399, (175, 0, (4, 150))), (403, (99, 0, (4, 154))), (406, (1002, 0, (4, 178))), (411, (1003, 0, (4, 182)))]
def zMl_9 : List (Nat × (Nat × Nat × zPos)) := [(1, (1000, 0, (5, 95))), (96, (192, 0, (5, 227))), (109, (191, 0, (5, 232))), (113, (198, 0, (6, 0))), (116, (197, 0, (6, 4))), (120, (193, 0, (6, 23))), (126, (204, 0, (6, 32))), (130, (267, 0, (6, 35))), (134, (271, 0, (6, 43))), (137, (195, 0, (6, 50))), (140, (206, 0, (7, 42))), (143, (208, 0, (7, 39))), (146, (207, 0, (6, 47))), (149, (210, 0, (7, 35))), (152, (211, 0, (6, 39))), (155, (213, 0, (6, 203))), (159, (214, 0, (6, 199))), (162, (215, 0, (6, 195))), (165, (217, 0, (6, 183))), (169, (218, 0, (6, 187))), (172, (216, 0, (6, 191))), (177, (220, 0, (6, 58))), (181, (194, 0, (6, 66))), (186, (223, 0, (6, 75))), (200, (228, 0, (6, 101))), (203, (229, 0, (6, 97))), (213, (231, 0, (6, 134))), (216, (232, 0, (6, 138))), (225, (234, 0, (6, 126))), (228, (235, 0, (6, 122))), (231, (236, 0, (6, 146))), (234, (238, 0, (6, 164))), (241, (240, 0, (6, 160))), (244, (239, 0, (6, 167))), (247, (237, 0, (6, 142))), (250, (241, 0, (6, 156))), (253, (242, 0, (6, 171))), (256, (244, 0, (6, 118))), (259, (233, 0, (6, 130))), (262, (246, 0, (6, 110))), (265, (243, 0, (6, 152))), (268, (245, 0, (6, 114))), (271, (248, 0, (6, 175))), (274, (219, 0, (6, 179))), (277, (249, 0, (6, 218))), (280, (251, 0, (6, 210))), (285, (250, 0, (6, 214))), (289, (257, 0, (7, 2))), (296, (264, 0, (7, 31))), (301, (209, 0, (7, 50))), (304, (212, 0, (7, 65))), (307, (269, 0, (7, 61))), (313, (273, 0, (7, 77))), (317, (274, 0, (7, 97))), (320, (276, 0, (7, 85))), (323, (275, 0, (7, 93))), (327, (280, 0, (7, 113))), (330, (282, 0, (7, 105))), (333, (281, 0, (7, 109))), (337, (284, 0, (7, 117))), (340, (283, 0, (7, 121))), (346, (286, 0, (7, 129))), (349, (290, 0, (7, 145))), (353, (292, 0, (7, 161))), (359, (293, 0, (7, 157))), (363, (294, 0, (7, 153))), (366, (299, 0, (7, 180))), (369, (302, 0, (7, 192))), (376, (307, 0, (7, 213))), (395, (310, 0, (7, 226))), (399, (313, 0, (7, 237)))]
def zMl_10 : List (Nat × (Nat × Nat × zPos)) := [(9, (113, 0, (1, 16))), (12, (190, 0, (5, 92))), (13, (114, 0, (2, 45))), (17, (196, 0, (5, 222))), (20, (115, 0, (2, 64))), (24, (199, 0, (5, 236))), (25, (116, 0, (2, 83))), (29, (200, 0, (6, 7))), (30, (117, 0, (2, 103))), (34, (201, 0, (6, 11))), (35, (118, 0, (2, 111))), (39, (202, 0, (6, 15))), (40, (119, 0, (2, 119))), (44, (203, 0, (6, 19))), (45, (120, 0, (2, 136))), (48, (205, 0, (6, 27))), (49, (121, 0, (2, 172))), (52, (221, 0, (6, 53))), (53, (122, 0, (2, 191))), (56, (222, 0, (6, 62))), (57, (123, 0, (2, 208))), (60, (224, 0, (6, 71))), (61, (124, 0, (2, 218))), (64, (225, 0, (6, 79))), (65, (125, 0, (2, 222))), (68, (226, 0, (6, 84))), (69, (126, 0, (2, 230))), (73, (227, 0, (6, 89))), (74, (127, 0, (2, 238))), (77, (230, 0, (6, 93))), (78, (128, 0, (3, 37))), (81, (247, 0, (6, 106))), (82, (129, 0, (3, 200))), (85, (252, 0, (6, 206))), (86, (130, 0, (3, 212))), (89, (253, 0, (6, 222))), (90, (131, 0, (3, 216))), (93, (254, 0, (6, 226))), (94, (132, 0, (3, 220))), (97, (255, 0, (6, 230))), (98, (133, 0, (3, 224))), (101, (256, 0, (6, 234))), (102, (134, 0, (3, 228))), (105, (258, 0, (6, 238))), (106, (135, 0, (4, 2))), (109, (259, 0, (7, 6))), (110, (136, 0, (4, 7))), (113, (260, 0, (7, 10))), (114, (137, 0, (4, 11))), (117, (261, 0, (7, 15))), (118, (138, 0, (4, 20))), (121, (262, 0, (7, 19))), (122, (139, 0, (4, 24))), (125, (263, 0, (7, 23))), (126, (140, 0, (4, 28))), (129, (265, 0, (7, 27))), (130, (141, 0, (4, 42))), (133, (266, 0, (7, 45))), (134, (142, 0, (4, 55))), (137, (268, 0, (7, 53))), (138, (143, 0, (4, 63))), (141, (270, 0, (7, 57))), (142, (144, 0, (4, 76))), (145, (272, 0, (7, 69))), (146, (145, 0, (4, 81))), (149, (277, 0, (7, 73))), (150, (146, 0, (4, 90))), (153, (278, 0, (7, 81))), (154, (147, 0, (4, 98))), (158, (279, 0, (7, 89))), (159, (148, 0, (4, 124))), (162, (285, 0, (7, 101))), (163, (149, 0, (4, 155))), (166, (287, 0, (7, 125))), (167, (150, 0, (4, 167))), (170, (288, 0, (7, 133))), (171, (151, 0, (4, 171))), (174, (289, 0, (7, 137))), (175, (152, 0, (4, 183))), (178, (291, 0, (7, 141))), (179, (153, 0, (4, 196))), (182, (295, 0, (7, 149))), (183, (154, 0, (4, 217))), (186, (296, 0, (7, 164))), (187, (155, 0, (4, 221))), (190, (297, 0, (7, 168))), (191, (156, 0, (4, 231))), (194, (298, 0, (7, 172))), (195, (157, 0, (4, 235))), (198, (300, 0, (7, 176))), (199, (158, 0, (5, 3))), (202, (301, 0, (7, 184))), (203, (159, 0, (5, 7))), (206, (303, 0, (7, 188))), (207, (160, 0, (5, 20))), (210, (304, 0, (7, 196))), (211, (161, 0, (5, 24))), (214, (305, 0, (7, 200))), (215, (162, 0, (5, 32))), (218, (306, 0, (7, 204))), (219, (163, 0, (5, 36))), (222, (308, 0, (7, 208))), (223, (164, 0, (5, 51))), (226, (309, 0, (7, 218))), (227, (165, 0, (5, 55))), (230, (311, 0, (7, 222))), (231, (166, 0, (5, 74))), (234, (312, 0, (7, 229))), (235, (167, 0, (5, 78))), (238, (314, 0, (7, 233)))]
def zMl (c : Nat) : List (Nat × (Nat × Nat × zPos)) := match c with
  | 0 => zMl_0
  | 1 => zMl_1
  | 2 => zMl_2
  | 3 => zMl_3
  | 4 => zMl_4
  | 5 => zMl_5
  | 6 => zMl_6
  | 7 => zMl_7
  | 8 => zMl_8
  | 9 => zMl_9
  | 10 => zMl_10
  | _ => []
def zFl_0 : List (Nat × (Nat × Nat × zPos)) := [(9, (0, 8, (1, 83))), (15, (0, 10, (1, 88))), (19, (0, 11, (1, 89))), (22, (0, 0, (1, 61))), (26, (0, 1, (1, 65))), (29, (0, 2, (1, 68))), (32, (0, 3, (1, 71))), (35, (0, 4, (1, 74))), (38, (0, 5, (1, 77))), (41, (0, 9, (1, 87))), (56, (0, 6, (1, 79))), (59, (0, 7, (1, 81)))]
def zFl_1 : List (Nat × (Nat × Nat × zPos)) := [(13, (1, 0, (1, 116))), (18, (1, 1, (1, 117))), (22, (1, 2, (1, 119))), (47, (0, 0, (1, 62))), (54, (0, 2, (1, 69))), (57, (0, 3, (1, 72)))]
def zFl_2 : List (Nat × (Nat × Nat × zPos)) := [(11, (2, 0, (1, 28))), (15, (2, 1, (1, 29))), (19, (2, 2, (1, 33))), (22, (2, 3, (1, 36))), (54, (0, 8, (1, 85)))]
def zFl_3 : List (Nat × (Nat × Nat × zPos)) := [(11, (3, 0, (2, 0))), (17, (3, 1, (2, 1))), (21, (2, 1, (1, 30)))]
def zFl_4 : List (Nat × (Nat × Nat × zPos)) := [(11, (4, 0, (1, 168))), (17, (4, 2, (1, 170))), (20, (4, 4, (1, 172))), (26, (4, 1, (1, 169))), (49, (4, 3, (1, 171))), (52, (4, 5, (1, 173))), (126, (0, 0, (1, 63))), (135, (0, 1, (1, 66))), (144, (0, 4, (1, 75)))]
def zFl_5 : List (Nat × (Nat × Nat × zPos)) := [(11, (5, 0, (1, 133))), (15, (5, 1, (1, 134))), (18, (5, 2, (1, 135)))]
def zFl_6 : List (Nat × (Nat × Nat × zPos)) := [(9, (6, 0, (1, 193))), (15, (6, 1, (1, 194))), (19, (6, 2, (1, 195))), (22, (6, 3, (1, 196))), (25, (6, 4, (1, 197))), (28, (6, 5, (1, 198))), (31, (6, 6, (1, 199))), (34, (6, 7, (1, 200))), (38, (6, 8, (1, 201))), (41, (6, 9, (1, 202))), (45, (0, 8, (1, 84))), (74, (2, 1, (1, 32))), (84, (2, 2, (1, 35))), (91, (6, 10, (1, 204))), (94, (6, 11, (1, 206)))]
def zFl_7 : List (Nat × (Nat × Nat × zPos)) := [(11, (7, 0, (1, 150))), (15, (7, 1, (1, 151))), (19, (7, 2, (1, 153)))]
def zFl_8 : List (Nat × (Nat × Nat × zPos)) := [(10, (8, 0, (2, 8))), (16, (8, 1, (2, 9))), (22, (8, 2, (2, 10))), (26, (8, 3, (2, 11))), (32, (8, 4, (2, 12))), (39, (8, 5, (2, 13))), (46, (8, 6, (2, 14))), (53, (8, 7, (2, 15))), (60, (8, 8, (2, 16))), (64, (8, 9, (2, 17))), (68, (8, 10, (2, 18))), (72, (8, 11, (2, 19))), (150, (2, 1, (1, 31))), (169, (2, 2, (1, 34))), (172, (7, 1, (1, 152))), (185, (7, 2, (1, 154))), (218, (0, 4, (1, 76))), (230, (1, 1, (1, 118))), (234, (0, 0, (1, 64))), (237, (0, 2, (1, 70))), (240, (0, 3, (1, 73))), (243, (0, 5, (1, 78))), (246, (0, 1, (1, 67))), (249, (0, 6, (1, 80))), (252, (0, 7, (1, 82))), (264, (0, 8, (1, 86))), (288, (6, 9, (1, 203))), (315, (6, 10, (1, 205))), (318, (6, 11, (1, 207))), (341, (3, 1, (2, 2))), (369, (2, 3, (1, 37)))]
def zFl_9 : List (Nat × (Nat × Nat × zPos)) := [(7, (9, 0, (5, 98))), (13, (9, 1, (5, 99))), (16, (9, 2, (5, 100))), (21, (9, 3, (5, 101))), (24, (9, 4, (5, 102))), (28, (9, 5, (5, 103))), (31, (9, 6, (5, 104))), (34, (9, 8, (5, 106))), (37, (9, 11, (5, 109))), (41, (9, 12, (5, 110))), (44, (9, 13, (5, 111))), (47, (9, 14, (5, 112))), (50, (9, 15, (5, 113))), (53, (9, 16, (5, 114))), (56, (9, 22, (5, 120))), (59, (9, 23, (5, 121))), (62, (9, 24, (5, 122))), (65, (9, 25, (5, 123))), (68, (9, 26, (5, 124))), (72, (9, 27, (5, 125))), (75, (9, 28, (5, 126))), (78, (9, 29, (5, 127))), (81, (9, 30, (5, 128))), (84, (9, 31, (5, 129))), (87, (9, 33, (5, 131))), (90, (9, 38, (5, 136))), (93, (9, 10, (5, 108))), (100, (9, 9, (5, 107))), (193, (9, 7, (5, 105))), (207, (9, 39, (5, 137))), (210, (9, 37, (5, 135))), (219, (9, 35, (5, 133))), (222, (9, 36, (5, 134))), (310, (9, 32, (5, 130))), (343, (9, 40, (5, 138))), (356, (9, 34, (5, 132))), (379, (9, 17, (5, 115))), (383, (9, 18, (5, 116))), (386, (9, 19, (5, 117))), (389, (9, 20, (5, 118))), (392, (9, 21, (5, 119)))]
def zFl (c : Nat) : List (Nat × (Nat × Nat × zPos)) := match c with
  | 0 => zFl_0
  | 1 => zFl_1
  | 2 => zFl_2
  | 3 => zFl_3
  | 4 => zFl_4
  | 5 => zFl_5
  | 6 => zFl_6
  | 7 => zFl_7
  | 8 => zFl_8
  | 9 => zFl_9
  | _ => []
def zSl_0 : List (Nat × (Nat × Nat × zPos)) := [(98, (2, 1, (2, 164)))]
def zSl_2 : List (Nat × (Nat × Nat × zPos)) := [(47, (1, 1, (4, 39)))]
def zSl_8 : List (Nat × (Nat × Nat × zPos)) := [(414, (2, 0, (4, 53))), (417, (1, 0, (4, 54)))]
def zSl (c : Nat) : List (Nat × (Nat × Nat × zPos)) := match c with
  | 0 => zSl_0
  | 2 => zSl_2
  | 8 => zSl_8
  | _ => []
def zKl_2 : List (Nat × (Nat × Int × zPos)) := [(78, (0, 1103515245, (5, 48)))]
def zKl_8 : List (Nat × (Nat × Int × zPos)) := [(392, (1, 3, (4, 0))), (394, (1, 9, (4, 1)))]
def zKl_9 : List (Nat × (Nat × Int × zPos)) := [(103, (1, 7, (5, 226))), (105, (1, 4, (5, 230))), (107, (1, 40, (5, 231))), (124, (1, 6, (6, 31))), (175, (1, 9, (6, 57))), (184, (1, 2, (6, 70))), (189, (1, 20, (6, 83))), (191, (1, 255, (6, 88))), (196, (1, 49, (6, 104))), (198, (1, 57, (6, 105))), (237, (1, 97, (6, 150))), (239, (1, 99, (6, 151))), (283, (1, 3, (6, 213))), (292, (1, 8, (7, 14))), (294, (1, 5, (7, 34))), (299, (1, 999, (7, 49))), (373, (0, 1103515245, (7, 217))), (374, (1, 60, (7, 212))), (402, (1, 12, (8, 1))), (404, (1, 16, (8, 2)))]
def zKl_10 : List (Nat × (Nat × Int × zPos)) := [(18, (1, 4294967295, (8, 3)))]
def zKl_11 : List (Nat × (Nat × Int × zPos)) := [(265, (0, 1431655765, (2, 169))), (266, (0, 858993459, (2, 170))), (267, (0, 252645135, (2, 171)))]
def zKl (c : Nat) : List (Nat × (Nat × Int × zPos)) := match c with
  | 2 => zKl_2
  | 8 => zKl_8
  | 9 => zKl_9
  | 10 => zKl_10
  | 11 => zKl_11
  | _ => []
def zCl_1 : List (Nat × (Nat × zPos)) := [(11, (0, (1, 54)))]
def zCl_8 : List (Nat × (Nat × zPos)) := [(7, (2, (1, 22))), (19, (1, (1, 48))), (29, (5, (1, 127))), (36, (7, (1, 144))), (43, (4, (1, 162))), (50, (6, (1, 187))), (57, (3, (1, 234)))]
def zCl_9 : List (Nat × (Nat × zPos)) := [(19, (100, (5, 96)))]
def zCl_10 : List (Nat × (Nat × zPos)) := [(7, (8, (1, 14))), (10, (9, (5, 90)))]
def zCl (c : Nat) : List (Nat × (Nat × zPos)) := match c with
  | 1 => zCl_1
  | 8 => zCl_8
  | 9 => zCl_9
  | 10 => zCl_10
  | _ => []
def zCw_0 : List zPos := [(1, 90), (1, 92), (1, 94), (1, 96), (1, 98), (1, 100), (1, 102), (1, 104), (1, 106), (1, 108), (1, 110), (1, 112)]
def zCi_0 : zPos := (1, 56)
def zCw_1 : List zPos := [(1, 120), (1, 122), (1, 124)]
def zCi_1 : zPos := (1, 49)
def zCw_2 : List zPos := [(1, 38), (1, 40), (1, 42), (1, 44)]
def zCi_2 : zPos := (1, 23)
def zCw_3 : List zPos := [(2, 3), (2, 5)]
def zCi_3 : zPos := (1, 235)
def zCw_4 : List zPos := [(1, 174), (1, 176), (1, 178), (1, 180), (1, 182), (1, 184)]
def zCi_4 : zPos := (1, 163)
def zCw_5 : List zPos := [(1, 136), (1, 138), (1, 140)]
def zCi_5 : zPos := (1, 128)
def zCw_6 : List zPos := [(1, 208), (1, 210), (1, 212), (1, 214), (1, 216), (1, 218), (1, 220), (1, 222), (1, 224), (1, 226), (1, 228), (1, 230)]
def zCi_6 : zPos := (1, 188)
def zCw_7 : List zPos := [(1, 155), (1, 157), (1, 159)]
def zCi_7 : zPos := (1, 145)
def zCw_8 : List zPos := [(2, 20), (2, 22), (2, 24), (2, 26), (2, 28), (2, 30), (2, 32), (2, 34), (2, 36), (2, 38), (2, 40), (2, 42)]
def zCi_8 : zPos := (1, 15)
def zCw_9 : List zPos := [(5, 139), (5, 141), (5, 143), (5, 145), (5, 147), (5, 149), (5, 151), (5, 153), (5, 155), (5, 157), (5, 159), (5, 161), (5, 163), (5, 165), (5, 167), (5, 169), (5, 171), (5, 173), (5, 175), (5, 177), (5, 179), (5, 181), (5, 183), (5, 185), (5, 187), (5, 189), (5, 191), (5, 193), (5, 195), (5, 197), (5, 199), (5, 201), (5, 203), (5, 205), (5, 207), (5, 209), (5, 211), (5, 213), (5, 215), (5, 217), (5, 219)]
def zCi_9 : zPos := (5, 91)
end
section
def zcode (k : Nat) : ByteArray := (zrow k).2.1
def zpair : List zRow → List zIns → Prop
  | t :: T, i :: I => zdok t.2.1 i ∧ zpair T I
  | _, [] => True
  | [], _ :: _ => False
theorem zpair_use : ∀ {T : List zRow} {I : List zIns}, zpair T I → ∀ (j : Nat) (df : zRow), ∀ q ∈ (I[j]?).getD [], decode ((T[j]?).getD df).2.1 q.1 = .ok q.2
  | t :: T, i :: I, h, 0, df, q, hq => h.1 q hq
  | t :: T, i :: I, h, j + 1, df, q, hq => by
    rw [List.getElem?_cons_succ] at hq ⊢
    exact zpair_use h.2 j df q hq
  | [], [], _, j, df, q, hq => by simp at hq
  | _ :: _, [], _, j, df, q, hq => by simp at hq
  | [], _ :: _, h, _, _, _, _ => h.elim
theorem zchk_0 : zpair zT_0 zI_0 := ⟨zdok_0, zdok_1, zdok_2, zdok_3, zdok_4, zdok_5, zdok_6, zdok_7, zdok_8, zdok_9, zdok_10, zdok_11, zdok_12, zdok_13, zdok_14, zdok_15, zdok_16, zdok_17, zdok_18, zdok_19, zdok_20, zdok_21, zdok_22, zdok_23, zdok_24, zdok_25, zdok_26, zdok_27, zdok_28, zdok_29, zdok_30, zdok_31, zdok_32, zdok_33, zdok_34, zdok_35, zdok_36, zdok_37, zdok_38, zdok_39, trivial⟩
theorem zchk_1 : zpair zT_1 zI_1 := ⟨zdok_40, zdok_41, zdok_42, zdok_43, zdok_44, zdok_45, zdok_46, zdok_47, zdok_48, zdok_49, zdok_50, zdok_51, zdok_52, zdok_53, zdok_54, zdok_55, zdok_56, zdok_57, zdok_58, zdok_59, zdok_60, zdok_61, zdok_62, zdok_63, zdok_64, zdok_65, zdok_66, zdok_67, zdok_68, zdok_69, zdok_70, zdok_71, zdok_72, zdok_73, zdok_74, zdok_75, zdok_76, zdok_77, zdok_78, zdok_79, trivial⟩
theorem zchk_2 : zpair zT_2 zI_2 := ⟨zdok_80, zdok_81, zdok_82, zdok_83, zdok_84, zdok_85, zdok_86, zdok_87, zdok_88, zdok_89, zdok_90, zdok_91, zdok_92, zdok_93, zdok_94, zdok_95, zdok_96, zdok_97, zdok_98, zdok_99, zdok_100, zdok_101, zdok_102, zdok_103, zdok_104, zdok_105, zdok_106, zdok_107, zdok_108, zdok_109, zdok_110, zdok_111, zdok_112, zdok_113, zdok_114, zdok_115, zdok_116, zdok_117, zdok_118, zdok_119, trivial⟩
theorem zchk_3 : zpair zT_3 zI_3 := ⟨zdok_120, zdok_121, zdok_122, zdok_123, zdok_124, zdok_125, zdok_126, zdok_127, zdok_128, zdok_129, zdok_130, zdok_131, zdok_132, zdok_133, zdok_134, zdok_135, zdok_136, zdok_137, zdok_138, zdok_139, zdok_140, zdok_141, zdok_142, zdok_143, zdok_144, zdok_145, zdok_146, zdok_147, zdok_148, zdok_149, zdok_150, zdok_151, zdok_152, zdok_153, zdok_154, zdok_155, zdok_156, zdok_157, zdok_158, zdok_159, trivial⟩
theorem zchk_4 : zpair zT_4 zI_4 := ⟨zdok_160, zdok_161, zdok_162, zdok_163, zdok_164, zdok_165, zdok_166, zdok_167, zdok_168, zdok_169, zdok_170, zdok_171, zdok_172, zdok_173, zdok_174, zdok_175, zdok_176, zdok_177, zdok_178, zdok_179, zdok_180, zdok_181, zdok_182, zdok_183, zdok_184, zdok_185, zdok_186, zdok_187, zdok_188, zdok_189, zdok_190, zdok_191, zdok_192, zdok_193, zdok_194, zdok_195, zdok_196, zdok_197, zdok_198, zdok_199, trivial⟩
theorem zchk_5 : zpair zT_5 zI_5 := ⟨zdok_200, zdok_201, zdok_202, zdok_203, zdok_204, zdok_205, zdok_206, zdok_207, zdok_208, zdok_209, zdok_210, zdok_211, zdok_212, zdok_213, zdok_214, zdok_215, zdok_216, zdok_217, zdok_218, zdok_219, zdok_220, zdok_221, zdok_222, zdok_223, zdok_224, zdok_225, zdok_226, zdok_227, zdok_228, zdok_229, zdok_230, zdok_231, zdok_232, zdok_233, zdok_234, zdok_235, zdok_236, zdok_237, zdok_238, zdok_239, trivial⟩
theorem zchk_6 : zpair zT_6 zI_6 := ⟨zdok_240, zdok_241, zdok_242, zdok_243, zdok_244, zdok_245, zdok_246, zdok_247, zdok_248, zdok_249, zdok_250, zdok_251, zdok_252, zdok_253, zdok_254, zdok_255, zdok_256, zdok_257, zdok_258, zdok_259, zdok_260, zdok_261, zdok_262, zdok_263, zdok_264, zdok_265, zdok_266, zdok_267, zdok_268, zdok_269, zdok_270, zdok_271, zdok_272, zdok_273, zdok_274, zdok_275, zdok_276, zdok_277, zdok_278, zdok_279, trivial⟩
theorem zchk_7 : zpair zT_7 zI_7 := ⟨zdok_280, zdok_281, zdok_282, zdok_283, zdok_284, zdok_285, zdok_286, zdok_287, zdok_288, zdok_289, zdok_290, zdok_291, zdok_292, zdok_293, zdok_294, zdok_295, zdok_296, zdok_297, zdok_298, zdok_299, zdok_300, zdok_301, zdok_302, zdok_303, zdok_304, zdok_305, zdok_306, zdok_307, zdok_308, zdok_309, zdok_310, zdok_311, zdok_312, zdok_313, zdok_314, zdok_315, zdok_316, zdok_317, zdok_318, trivial⟩
theorem zrow_0 {k : Nat} (h : k / 40 = 0) : zrow k = (zT_0[k % 40]?).getD zNone := by
  unfold zrow
  simp only [h]
theorem zinsT_0 {k : Nat} (h : k / 40 = 0) : zinsT k = (zI_0[k % 40]?).getD [] := by
  unfold zinsT
  simp only [h]
theorem zrow_1 {k : Nat} (h : k / 40 = 1) : zrow k = (zT_1[k % 40]?).getD zNone := by
  unfold zrow
  simp only [h]
theorem zinsT_1 {k : Nat} (h : k / 40 = 1) : zinsT k = (zI_1[k % 40]?).getD [] := by
  unfold zinsT
  simp only [h]
theorem zrow_2 {k : Nat} (h : k / 40 = 2) : zrow k = (zT_2[k % 40]?).getD zNone := by
  unfold zrow
  simp only [h]
theorem zinsT_2 {k : Nat} (h : k / 40 = 2) : zinsT k = (zI_2[k % 40]?).getD [] := by
  unfold zinsT
  simp only [h]
theorem zrow_3 {k : Nat} (h : k / 40 = 3) : zrow k = (zT_3[k % 40]?).getD zNone := by
  unfold zrow
  simp only [h]
theorem zinsT_3 {k : Nat} (h : k / 40 = 3) : zinsT k = (zI_3[k % 40]?).getD [] := by
  unfold zinsT
  simp only [h]
theorem zrow_4 {k : Nat} (h : k / 40 = 4) : zrow k = (zT_4[k % 40]?).getD zNone := by
  unfold zrow
  simp only [h]
theorem zinsT_4 {k : Nat} (h : k / 40 = 4) : zinsT k = (zI_4[k % 40]?).getD [] := by
  unfold zinsT
  simp only [h]
theorem zrow_5 {k : Nat} (h : k / 40 = 5) : zrow k = (zT_5[k % 40]?).getD zNone := by
  unfold zrow
  simp only [h]
theorem zinsT_5 {k : Nat} (h : k / 40 = 5) : zinsT k = (zI_5[k % 40]?).getD [] := by
  unfold zinsT
  simp only [h]
theorem zrow_6 {k : Nat} (h : k / 40 = 6) : zrow k = (zT_6[k % 40]?).getD zNone := by
  unfold zrow
  simp only [h]
theorem zinsT_6 {k : Nat} (h : k / 40 = 6) : zinsT k = (zI_6[k % 40]?).getD [] := by
  unfold zinsT
  simp only [h]
theorem zrow_7 {k : Nat} (h : k / 40 = 7) : zrow k = (zT_7[k % 40]?).getD zNone := by
  unfold zrow
  simp only [h]
theorem zinsT_7 {k : Nat} (h : k / 40 = 7) : zinsT k = (zI_7[k % 40]?).getD [] := by
  unfold zinsT
  simp only [h]
theorem zrow_out {k : Nat} (h : 8 ≤ k / 40) : zrow k = zNone := by
  unfold zrow
  split
  · omega
  · omega
  · omega
  · omega
  · omega
  · omega
  · omega
  · omega
  · rfl
theorem zinsT_out {k : Nat} (h : 8 ≤ k / 40) : zinsT k = [] := by
  unfold zinsT
  split
  · omega
  · omega
  · omega
  · omega
  · omega
  · omega
  · omega
  · omega
  · rfl
theorem zins_ok {k pc : Nat} {q : Instr × Nat} (h : zins k pc = some q) : decode (zcode k) pc = .ok q := by
  have h1 : (pc, q) ∈ zinsT k := zlk_mem _ _ _ h
  have hc : zcode k = (zrow k).2.1 := rfl
  by_cases e0 : k / 40 = 0
  · rw [zinsT_0 e0] at h1
    rw [hc, zrow_0 e0]
    have h2 := zpair_use (T := zT_0) (I := zI_0) zchk_0 (k % 40) zNone (pc, q) h1
    exact h2
  by_cases e1 : k / 40 = 1
  · rw [zinsT_1 e1] at h1
    rw [hc, zrow_1 e1]
    have h2 := zpair_use (T := zT_1) (I := zI_1) zchk_1 (k % 40) zNone (pc, q) h1
    exact h2
  by_cases e2 : k / 40 = 2
  · rw [zinsT_2 e2] at h1
    rw [hc, zrow_2 e2]
    have h2 := zpair_use (T := zT_2) (I := zI_2) zchk_2 (k % 40) zNone (pc, q) h1
    exact h2
  by_cases e3 : k / 40 = 3
  · rw [zinsT_3 e3] at h1
    rw [hc, zrow_3 e3]
    have h2 := zpair_use (T := zT_3) (I := zI_3) zchk_3 (k % 40) zNone (pc, q) h1
    exact h2
  by_cases e4 : k / 40 = 4
  · rw [zinsT_4 e4] at h1
    rw [hc, zrow_4 e4]
    have h2 := zpair_use (T := zT_4) (I := zI_4) zchk_4 (k % 40) zNone (pc, q) h1
    exact h2
  by_cases e5 : k / 40 = 5
  · rw [zinsT_5 e5] at h1
    rw [hc, zrow_5 e5]
    have h2 := zpair_use (T := zT_5) (I := zI_5) zchk_5 (k % 40) zNone (pc, q) h1
    exact h2
  by_cases e6 : k / 40 = 6
  · rw [zinsT_6 e6] at h1
    rw [hc, zrow_6 e6]
    have h2 := zpair_use (T := zT_6) (I := zI_6) zchk_6 (k % 40) zNone (pc, q) h1
    exact h2
  by_cases e7 : k / 40 = 7
  · rw [zinsT_7 e7] at h1
    rw [hc, zrow_7 e7]
    have h2 := zpair_use (T := zT_7) (I := zI_7) zchk_7 (k % 40) zNone (pc, q) h1
    exact h2
  rw [zinsT_out (by omega)] at h1
  cases h1
def zhas (q : zPos) (w : Cond) : Bool := decide ((zpart q.1)[q.2]? = some w) && goodWord w
theorem zpart_in {i : Nat} {w : Cond} (h : w ∈ zpart i) : w ∈ lw_tbl := by
  unfold zpart at h
  unfold lw_tbl tables_1
  simp only [List.mem_append]
  split at h
  · simp only [h, true_or, or_true]
  · simp only [h, true_or, or_true]
  · simp only [h, true_or, or_true]
  · simp only [h, true_or, or_true]
  · simp only [h, true_or, or_true]
  · simp only [h, true_or, or_true]
  · simp only [h, true_or, or_true]
  · simp only [h, true_or, or_true]
  · simp only [h, true_or, or_true]
  · cases h
def zTs : List Cond := lw_tbl.filter goodWord
theorem zhas_in {q : zPos} {w : Cond} (h : zhas q w = true) : w ∈ zTs := by
  unfold zhas at h
  rw [Bool.and_eq_true] at h
  exact List.mem_filter.mpr ⟨zpart_in (List.mem_of_getElem? (of_decide_eq_true h.1)), h.2⟩
theorem zTs_good : ∀ w ∈ zTs, (w.onTables && w.keeps) = true ∨ ∃ ty, w = .arrayClass ty := fun _ h => good_of_word (List.mem_filter.mp h).2
def zmOk (t : zRow) : Bool := Nat.ble 3 t.2.2.2.2.1 || ((bif Nat.beq t.2.2.2.2.1 0 then zhas t.2.2.2.2.2.2.2.2.1 (.static t.1) else zhas t.2.2.2.2.2.2.2.2.1 (.instanceMethod t.1)) && zhas t.2.2.2.2.2.2.2.2.2.1 (.initialized t.1.cls) && (!(Nat.beq t.2.2.2.2.1 1) || zhas t.2.2.2.2.2.2.2.2.2.2 (.selects t.1.cls t.1 t.1)) && (!(Nat.beq t.2.2.2.2.1 2) || decide (t.1.name = "<init>")) && decide (t.1.cls ≠ "java/lang/invoke/MethodHandle" ∧ t.1.cls ≠ "java/lang/invoke/VarHandle" ∧ (parseMethodDescriptor t.1.desc).map (fun d => d.parameters.length) = some t.2.2.2.2.2.1) && plainName t.1.cls && Nat.ble t.2.2.1 40 && decide (t.1.cls = zcn t.2.2.2.2.2.2.1) && Nat.ble t.2.2.2.2.2.2.1 12 && (!(Nat.beq t.2.2.2.2.1 2) || decide (t.2.2.2.1 = none)))
def zmBoth (t : zRow) : Prop := zmOk t = true ∧ (3 ≤ t.2.2.2.2.1 ∨ (zpart t.2.2.2.2.2.2.2.1.1)[t.2.2.2.2.2.2.2.1.2]? = some (.code t.1 t.2.1 t.2.2.1 t.2.2.2.1))
def zmAll : List zRow → Prop
  | [] => True
  | t :: T => zmBoth t ∧ zmAll T
theorem zmAll_use : ∀ {T : List zRow}, zmAll T → ∀ j : Nat, zmBoth ((T[j]?).getD zNone)
  | [], _, j => by
    rw [List.getElem?_nil]
    exact ⟨rfl, Or.inl (by decide)⟩
  | t :: T, h, 0 => h.1
  | t :: T, h, j + 1 => by
    rw [List.getElem?_cons_succ]
    exact zmAll_use h.2 j
theorem zmr_0 : zmBoth zr_0 := ⟨by decide +kernel, Or.inr rfl⟩
theorem zmr_1 : zmBoth zr_1 := ⟨by decide +kernel, Or.inr rfl⟩
theorem zmr_2 : zmBoth zr_2 := ⟨by decide +kernel, Or.inr rfl⟩
theorem zmr_3 : zmBoth zr_3 := ⟨by decide +kernel, Or.inr rfl⟩
theorem zmr_4 : zmBoth zr_4 := ⟨by decide +kernel, Or.inr rfl⟩
theorem zmr_5 : zmBoth zr_5 := ⟨by decide +kernel, Or.inr rfl⟩
theorem zmr_6 : zmBoth zr_6 := ⟨by decide +kernel, Or.inr rfl⟩
theorem zmr_7 : zmBoth zr_7 := ⟨by decide +kernel, Or.inr rfl⟩
theorem zmr_8 : zmBoth zr_8 := ⟨by decide +kernel, Or.inr rfl⟩
theorem zmr_9 : zmBoth zr_9 := ⟨by decide +kernel, Or.inr rfl⟩
theorem zmr_10 : zmBoth zr_10 := ⟨by decide +kernel, Or.inr rfl⟩
theorem zmr_11 : zmBoth zr_11 := ⟨by decide +kernel, Or.inr rfl⟩
theorem zmr_12 : zmBoth zr_12 := ⟨by decide +kernel, Or.inr rfl⟩
theorem zmr_13 : zmBoth zr_13 := ⟨by decide +kernel, Or.inr rfl⟩
theorem zmr_14 : zmBoth zr_14 := ⟨by decide +kernel, Or.inr rfl⟩
theorem zmr_15 : zmBoth zr_15 := ⟨by decide +kernel, Or.inr rfl⟩
theorem zmr_16 : zmBoth zr_16 := ⟨by decide +kernel, Or.inr rfl⟩
theorem zmr_17 : zmBoth zr_17 := ⟨by decide +kernel, Or.inr rfl⟩
theorem zmr_18 : zmBoth zr_18 := ⟨by decide +kernel, Or.inr rfl⟩
theorem zmr_19 : zmBoth zr_19 := ⟨by decide +kernel, Or.inr rfl⟩
theorem zmr_20 : zmBoth zr_20 := ⟨by decide +kernel, Or.inr rfl⟩
theorem zmr_21 : zmBoth zr_21 := ⟨by decide +kernel, Or.inr rfl⟩
theorem zmr_22 : zmBoth zr_22 := ⟨by decide +kernel, Or.inr rfl⟩
theorem zmr_23 : zmBoth zr_23 := ⟨by decide +kernel, Or.inr rfl⟩
theorem zmr_24 : zmBoth zr_24 := ⟨by decide +kernel, Or.inr rfl⟩
theorem zmr_25 : zmBoth zr_25 := ⟨by decide +kernel, Or.inr rfl⟩
theorem zmr_26 : zmBoth zr_26 := ⟨by decide +kernel, Or.inr rfl⟩
theorem zmr_27 : zmBoth zr_27 := ⟨by decide +kernel, Or.inr rfl⟩
theorem zmr_28 : zmBoth zr_28 := ⟨by decide +kernel, Or.inr rfl⟩
theorem zmr_29 : zmBoth zr_29 := ⟨by decide +kernel, Or.inr rfl⟩
theorem zmr_30 : zmBoth zr_30 := ⟨by decide +kernel, Or.inr rfl⟩
theorem zmr_31 : zmBoth zr_31 := ⟨by decide +kernel, Or.inr rfl⟩
theorem zmr_32 : zmBoth zr_32 := ⟨by decide +kernel, Or.inr rfl⟩
theorem zmr_33 : zmBoth zr_33 := ⟨by decide +kernel, Or.inr rfl⟩
theorem zmr_34 : zmBoth zr_34 := ⟨by decide +kernel, Or.inr rfl⟩
theorem zmr_35 : zmBoth zr_35 := ⟨by decide +kernel, Or.inr rfl⟩
theorem zmr_36 : zmBoth zr_36 := ⟨by decide +kernel, Or.inr rfl⟩
theorem zmr_37 : zmBoth zr_37 := ⟨by decide +kernel, Or.inr rfl⟩
theorem zmr_38 : zmBoth zr_38 := ⟨by decide +kernel, Or.inr rfl⟩
theorem zmr_39 : zmBoth zr_39 := ⟨by decide +kernel, Or.inr rfl⟩
theorem zmr_40 : zmBoth zr_40 := ⟨by decide +kernel, Or.inr rfl⟩
theorem zmr_41 : zmBoth zr_41 := ⟨by decide +kernel, Or.inr rfl⟩
theorem zmr_42 : zmBoth zr_42 := ⟨by decide +kernel, Or.inr rfl⟩
theorem zmr_43 : zmBoth zr_43 := ⟨by decide +kernel, Or.inr rfl⟩
theorem zmr_44 : zmBoth zr_44 := ⟨by decide +kernel, Or.inr rfl⟩
theorem zmr_45 : zmBoth zr_45 := ⟨by decide +kernel, Or.inr rfl⟩
theorem zmr_46 : zmBoth zr_46 := ⟨by decide +kernel, Or.inr rfl⟩
theorem zmr_47 : zmBoth zr_47 := ⟨by decide +kernel, Or.inr rfl⟩
theorem zmr_48 : zmBoth zr_48 := ⟨by decide +kernel, Or.inr rfl⟩
theorem zmr_49 : zmBoth zr_49 := ⟨by decide +kernel, Or.inr rfl⟩
theorem zmr_50 : zmBoth zr_50 := ⟨by decide +kernel, Or.inr rfl⟩
theorem zmr_51 : zmBoth zr_51 := ⟨by decide +kernel, Or.inr rfl⟩
theorem zmr_52 : zmBoth zr_52 := ⟨by decide +kernel, Or.inr rfl⟩
theorem zmr_53 : zmBoth zr_53 := ⟨by decide +kernel, Or.inr rfl⟩
theorem zmr_54 : zmBoth zr_54 := ⟨by decide +kernel, Or.inr rfl⟩
theorem zmr_55 : zmBoth zr_55 := ⟨by decide +kernel, Or.inr rfl⟩
theorem zmr_56 : zmBoth zr_56 := ⟨by decide +kernel, Or.inr rfl⟩
theorem zmr_57 : zmBoth zr_57 := ⟨by decide +kernel, Or.inr rfl⟩
theorem zmr_58 : zmBoth zr_58 := ⟨by decide +kernel, Or.inr rfl⟩
theorem zmr_59 : zmBoth zr_59 := ⟨by decide +kernel, Or.inr rfl⟩
theorem zmr_60 : zmBoth zr_60 := ⟨by decide +kernel, Or.inr rfl⟩
theorem zmr_61 : zmBoth zr_61 := ⟨by decide +kernel, Or.inr rfl⟩
theorem zmr_62 : zmBoth zr_62 := ⟨by decide +kernel, Or.inr rfl⟩
theorem zmr_63 : zmBoth zr_63 := ⟨by decide +kernel, Or.inr rfl⟩
theorem zmr_64 : zmBoth zr_64 := ⟨by decide +kernel, Or.inr rfl⟩
theorem zmr_65 : zmBoth zr_65 := ⟨by decide +kernel, Or.inr rfl⟩
theorem zmr_66 : zmBoth zr_66 := ⟨by decide +kernel, Or.inr rfl⟩
theorem zmr_67 : zmBoth zr_67 := ⟨by decide +kernel, Or.inr rfl⟩
theorem zmr_68 : zmBoth zr_68 := ⟨by decide +kernel, Or.inr rfl⟩
theorem zmr_69 : zmBoth zr_69 := ⟨by decide +kernel, Or.inr rfl⟩
theorem zmr_70 : zmBoth zr_70 := ⟨by decide +kernel, Or.inr rfl⟩
theorem zmr_71 : zmBoth zr_71 := ⟨by decide +kernel, Or.inr rfl⟩
theorem zmr_72 : zmBoth zr_72 := ⟨by decide +kernel, Or.inr rfl⟩
theorem zmr_73 : zmBoth zr_73 := ⟨by decide +kernel, Or.inr rfl⟩
theorem zmr_74 : zmBoth zr_74 := ⟨by decide +kernel, Or.inr rfl⟩
theorem zmr_75 : zmBoth zr_75 := ⟨by decide +kernel, Or.inr rfl⟩
theorem zmr_76 : zmBoth zr_76 := ⟨by decide +kernel, Or.inr rfl⟩
theorem zmr_77 : zmBoth zr_77 := ⟨by decide +kernel, Or.inr rfl⟩
theorem zmr_78 : zmBoth zr_78 := ⟨by decide +kernel, Or.inr rfl⟩
theorem zmr_79 : zmBoth zr_79 := ⟨by decide +kernel, Or.inr rfl⟩
theorem zmr_80 : zmBoth zr_80 := ⟨by decide +kernel, Or.inr rfl⟩
theorem zmr_81 : zmBoth zr_81 := ⟨by decide +kernel, Or.inr rfl⟩
theorem zmr_82 : zmBoth zr_82 := ⟨by decide +kernel, Or.inr rfl⟩
theorem zmr_83 : zmBoth zr_83 := ⟨by decide +kernel, Or.inr rfl⟩
theorem zmr_84 : zmBoth zr_84 := ⟨by decide +kernel, Or.inr rfl⟩
theorem zmr_85 : zmBoth zr_85 := ⟨by decide +kernel, Or.inr rfl⟩
theorem zmr_86 : zmBoth zr_86 := ⟨by decide +kernel, Or.inr rfl⟩
theorem zmr_87 : zmBoth zr_87 := ⟨by decide +kernel, Or.inr rfl⟩
theorem zmr_88 : zmBoth zr_88 := ⟨by decide +kernel, Or.inr rfl⟩
theorem zmr_89 : zmBoth zr_89 := ⟨by decide +kernel, Or.inr rfl⟩
theorem zmr_90 : zmBoth zr_90 := ⟨by decide +kernel, Or.inr rfl⟩
theorem zmr_91 : zmBoth zr_91 := ⟨by decide +kernel, Or.inr rfl⟩
theorem zmr_92 : zmBoth zr_92 := ⟨by decide +kernel, Or.inr rfl⟩
theorem zmr_93 : zmBoth zr_93 := ⟨by decide +kernel, Or.inr rfl⟩
theorem zmr_94 : zmBoth zr_94 := ⟨by decide +kernel, Or.inr rfl⟩
theorem zmr_95 : zmBoth zr_95 := ⟨by decide +kernel, Or.inr rfl⟩
theorem zmr_96 : zmBoth zr_96 := ⟨by decide +kernel, Or.inr rfl⟩
theorem zmr_97 : zmBoth zr_97 := ⟨by decide +kernel, Or.inr rfl⟩
theorem zmr_98 : zmBoth zr_98 := ⟨by decide +kernel, Or.inr rfl⟩
theorem zmr_99 : zmBoth zr_99 := ⟨by decide +kernel, Or.inr rfl⟩
theorem zmr_100 : zmBoth zr_100 := ⟨by decide +kernel, Or.inr rfl⟩
theorem zmr_101 : zmBoth zr_101 := ⟨by decide +kernel, Or.inr rfl⟩
theorem zmr_102 : zmBoth zr_102 := ⟨by decide +kernel, Or.inr rfl⟩
theorem zmr_103 : zmBoth zr_103 := ⟨by decide +kernel, Or.inr rfl⟩
theorem zmr_104 : zmBoth zr_104 := ⟨by decide +kernel, Or.inr rfl⟩
theorem zmr_105 : zmBoth zr_105 := ⟨by decide +kernel, Or.inr rfl⟩
theorem zmr_106 : zmBoth zr_106 := ⟨by decide +kernel, Or.inr rfl⟩
theorem zmr_107 : zmBoth zr_107 := ⟨by decide +kernel, Or.inr rfl⟩
theorem zmr_108 : zmBoth zr_108 := ⟨by decide +kernel, Or.inr rfl⟩
theorem zmr_109 : zmBoth zr_109 := ⟨by decide +kernel, Or.inr rfl⟩
theorem zmr_110 : zmBoth zr_110 := ⟨by decide +kernel, Or.inr rfl⟩
theorem zmr_111 : zmBoth zr_111 := ⟨by decide +kernel, Or.inr rfl⟩
theorem zmr_112 : zmBoth zr_112 := ⟨by decide +kernel, Or.inr rfl⟩
theorem zmr_113 : zmBoth zr_113 := ⟨by decide +kernel, Or.inr rfl⟩
theorem zmr_114 : zmBoth zr_114 := ⟨by decide +kernel, Or.inr rfl⟩
theorem zmr_115 : zmBoth zr_115 := ⟨by decide +kernel, Or.inr rfl⟩
theorem zmr_116 : zmBoth zr_116 := ⟨by decide +kernel, Or.inr rfl⟩
theorem zmr_117 : zmBoth zr_117 := ⟨by decide +kernel, Or.inr rfl⟩
theorem zmr_118 : zmBoth zr_118 := ⟨by decide +kernel, Or.inr rfl⟩
theorem zmr_119 : zmBoth zr_119 := ⟨by decide +kernel, Or.inr rfl⟩
theorem zmr_120 : zmBoth zr_120 := ⟨by decide +kernel, Or.inr rfl⟩
theorem zmr_121 : zmBoth zr_121 := ⟨by decide +kernel, Or.inr rfl⟩
theorem zmr_122 : zmBoth zr_122 := ⟨by decide +kernel, Or.inr rfl⟩
theorem zmr_123 : zmBoth zr_123 := ⟨by decide +kernel, Or.inr rfl⟩
theorem zmr_124 : zmBoth zr_124 := ⟨by decide +kernel, Or.inr rfl⟩
theorem zmr_125 : zmBoth zr_125 := ⟨by decide +kernel, Or.inr rfl⟩
theorem zmr_126 : zmBoth zr_126 := ⟨by decide +kernel, Or.inr rfl⟩
theorem zmr_127 : zmBoth zr_127 := ⟨by decide +kernel, Or.inr rfl⟩
theorem zmr_128 : zmBoth zr_128 := ⟨by decide +kernel, Or.inr rfl⟩
theorem zmr_129 : zmBoth zr_129 := ⟨by decide +kernel, Or.inr rfl⟩
theorem zmr_130 : zmBoth zr_130 := ⟨by decide +kernel, Or.inr rfl⟩
theorem zmr_131 : zmBoth zr_131 := ⟨by decide +kernel, Or.inr rfl⟩
theorem zmr_132 : zmBoth zr_132 := ⟨by decide +kernel, Or.inr rfl⟩
theorem zmr_133 : zmBoth zr_133 := ⟨by decide +kernel, Or.inr rfl⟩
theorem zmr_134 : zmBoth zr_134 := ⟨by decide +kernel, Or.inr rfl⟩
theorem zmr_135 : zmBoth zr_135 := ⟨by decide +kernel, Or.inr rfl⟩
theorem zmr_136 : zmBoth zr_136 := ⟨by decide +kernel, Or.inr rfl⟩
theorem zmr_137 : zmBoth zr_137 := ⟨by decide +kernel, Or.inr rfl⟩
theorem zmr_138 : zmBoth zr_138 := ⟨by decide +kernel, Or.inr rfl⟩
theorem zmr_139 : zmBoth zr_139 := ⟨by decide +kernel, Or.inr rfl⟩
theorem zmr_140 : zmBoth zr_140 := ⟨by decide +kernel, Or.inr rfl⟩
theorem zmr_141 : zmBoth zr_141 := ⟨by decide +kernel, Or.inr rfl⟩
theorem zmr_142 : zmBoth zr_142 := ⟨by decide +kernel, Or.inr rfl⟩
theorem zmr_143 : zmBoth zr_143 := ⟨by decide +kernel, Or.inr rfl⟩
theorem zmr_144 : zmBoth zr_144 := ⟨by decide +kernel, Or.inr rfl⟩
theorem zmr_145 : zmBoth zr_145 := ⟨by decide +kernel, Or.inr rfl⟩
theorem zmr_146 : zmBoth zr_146 := ⟨by decide +kernel, Or.inr rfl⟩
theorem zmr_147 : zmBoth zr_147 := ⟨by decide +kernel, Or.inr rfl⟩
theorem zmr_148 : zmBoth zr_148 := ⟨by decide +kernel, Or.inr rfl⟩
theorem zmr_149 : zmBoth zr_149 := ⟨by decide +kernel, Or.inr rfl⟩
theorem zmr_150 : zmBoth zr_150 := ⟨by decide +kernel, Or.inr rfl⟩
theorem zmr_151 : zmBoth zr_151 := ⟨by decide +kernel, Or.inr rfl⟩
theorem zmr_152 : zmBoth zr_152 := ⟨by decide +kernel, Or.inr rfl⟩
theorem zmr_153 : zmBoth zr_153 := ⟨by decide +kernel, Or.inr rfl⟩
theorem zmr_154 : zmBoth zr_154 := ⟨by decide +kernel, Or.inr rfl⟩
theorem zmr_155 : zmBoth zr_155 := ⟨by decide +kernel, Or.inr rfl⟩
theorem zmr_156 : zmBoth zr_156 := ⟨by decide +kernel, Or.inr rfl⟩
theorem zmr_157 : zmBoth zr_157 := ⟨by decide +kernel, Or.inr rfl⟩
theorem zmr_158 : zmBoth zr_158 := ⟨by decide +kernel, Or.inr rfl⟩
theorem zmr_159 : zmBoth zr_159 := ⟨by decide +kernel, Or.inr rfl⟩
theorem zmr_160 : zmBoth zr_160 := ⟨by decide +kernel, Or.inr rfl⟩
theorem zmr_161 : zmBoth zr_161 := ⟨by decide +kernel, Or.inr rfl⟩
theorem zmr_162 : zmBoth zr_162 := ⟨by decide +kernel, Or.inr rfl⟩
theorem zmr_163 : zmBoth zr_163 := ⟨by decide +kernel, Or.inr rfl⟩
theorem zmr_164 : zmBoth zr_164 := ⟨by decide +kernel, Or.inr rfl⟩
theorem zmr_165 : zmBoth zr_165 := ⟨by decide +kernel, Or.inr rfl⟩
theorem zmr_166 : zmBoth zr_166 := ⟨by decide +kernel, Or.inr rfl⟩
theorem zmr_167 : zmBoth zr_167 := ⟨by decide +kernel, Or.inr rfl⟩
theorem zmr_168 : zmBoth zr_168 := ⟨by decide +kernel, Or.inr rfl⟩
theorem zmr_169 : zmBoth zr_169 := ⟨by decide +kernel, Or.inr rfl⟩
theorem zmr_170 : zmBoth zr_170 := ⟨by decide +kernel, Or.inr rfl⟩
theorem zmr_171 : zmBoth zr_171 := ⟨by decide +kernel, Or.inr rfl⟩
theorem zmr_172 : zmBoth zr_172 := ⟨by decide +kernel, Or.inr rfl⟩
theorem zmr_173 : zmBoth zr_173 := ⟨by decide +kernel, Or.inr rfl⟩
theorem zmr_174 : zmBoth zr_174 := ⟨by decide +kernel, Or.inr rfl⟩
theorem zmr_175 : zmBoth zr_175 := ⟨by decide +kernel, Or.inr rfl⟩
theorem zmr_176 : zmBoth zr_176 := ⟨by decide +kernel, Or.inr rfl⟩
theorem zmr_177 : zmBoth zr_177 := ⟨by decide +kernel, Or.inr rfl⟩
theorem zmr_178 : zmBoth zr_178 := ⟨by decide +kernel, Or.inr rfl⟩
theorem zmr_179 : zmBoth zr_179 := ⟨by decide +kernel, Or.inr rfl⟩
theorem zmr_180 : zmBoth zr_180 := ⟨by decide +kernel, Or.inr rfl⟩
theorem zmr_181 : zmBoth zr_181 := ⟨by decide +kernel, Or.inr rfl⟩
theorem zmr_182 : zmBoth zr_182 := ⟨by decide +kernel, Or.inr rfl⟩
theorem zmr_183 : zmBoth zr_183 := ⟨by decide +kernel, Or.inr rfl⟩
theorem zmr_184 : zmBoth zr_184 := ⟨by decide +kernel, Or.inr rfl⟩
theorem zmr_185 : zmBoth zr_185 := ⟨by decide +kernel, Or.inr rfl⟩
theorem zmr_186 : zmBoth zr_186 := ⟨by decide +kernel, Or.inr rfl⟩
theorem zmr_187 : zmBoth zr_187 := ⟨by decide +kernel, Or.inr rfl⟩
theorem zmr_188 : zmBoth zr_188 := ⟨by decide +kernel, Or.inr rfl⟩
theorem zmr_189 : zmBoth zr_189 := ⟨by decide +kernel, Or.inr rfl⟩
theorem zmr_190 : zmBoth zr_190 := ⟨by decide +kernel, Or.inr rfl⟩
theorem zmr_191 : zmBoth zr_191 := ⟨by decide +kernel, Or.inr rfl⟩
theorem zmr_192 : zmBoth zr_192 := ⟨by decide +kernel, Or.inr rfl⟩
theorem zmr_193 : zmBoth zr_193 := ⟨by decide +kernel, Or.inr rfl⟩
theorem zmr_194 : zmBoth zr_194 := ⟨by decide +kernel, Or.inr rfl⟩
theorem zmr_195 : zmBoth zr_195 := ⟨by decide +kernel, Or.inr rfl⟩
theorem zmr_196 : zmBoth zr_196 := ⟨by decide +kernel, Or.inr rfl⟩
theorem zmr_197 : zmBoth zr_197 := ⟨by decide +kernel, Or.inr rfl⟩
theorem zmr_198 : zmBoth zr_198 := ⟨by decide +kernel, Or.inr rfl⟩
theorem zmr_199 : zmBoth zr_199 := ⟨by decide +kernel, Or.inr rfl⟩
theorem zmr_200 : zmBoth zr_200 := ⟨by decide +kernel, Or.inr rfl⟩
theorem zmr_201 : zmBoth zr_201 := ⟨by decide +kernel, Or.inr rfl⟩
theorem zmr_202 : zmBoth zr_202 := ⟨by decide +kernel, Or.inr rfl⟩
theorem zmr_203 : zmBoth zr_203 := ⟨by decide +kernel, Or.inr rfl⟩
theorem zmr_204 : zmBoth zr_204 := ⟨by decide +kernel, Or.inr rfl⟩
theorem zmr_205 : zmBoth zr_205 := ⟨by decide +kernel, Or.inr rfl⟩
theorem zmr_206 : zmBoth zr_206 := ⟨by decide +kernel, Or.inr rfl⟩
theorem zmr_207 : zmBoth zr_207 := ⟨by decide +kernel, Or.inr rfl⟩
theorem zmr_208 : zmBoth zr_208 := ⟨by decide +kernel, Or.inr rfl⟩
theorem zmr_209 : zmBoth zr_209 := ⟨by decide +kernel, Or.inr rfl⟩
theorem zmr_210 : zmBoth zr_210 := ⟨by decide +kernel, Or.inr rfl⟩
theorem zmr_211 : zmBoth zr_211 := ⟨by decide +kernel, Or.inr rfl⟩
theorem zmr_212 : zmBoth zr_212 := ⟨by decide +kernel, Or.inr rfl⟩
theorem zmr_213 : zmBoth zr_213 := ⟨by decide +kernel, Or.inr rfl⟩
theorem zmr_214 : zmBoth zr_214 := ⟨by decide +kernel, Or.inr rfl⟩
theorem zmr_215 : zmBoth zr_215 := ⟨by decide +kernel, Or.inr rfl⟩
theorem zmr_216 : zmBoth zr_216 := ⟨by decide +kernel, Or.inr rfl⟩
theorem zmr_217 : zmBoth zr_217 := ⟨by decide +kernel, Or.inr rfl⟩
theorem zmr_218 : zmBoth zr_218 := ⟨by decide +kernel, Or.inr rfl⟩
theorem zmr_219 : zmBoth zr_219 := ⟨by decide +kernel, Or.inr rfl⟩
theorem zmr_220 : zmBoth zr_220 := ⟨by decide +kernel, Or.inr rfl⟩
theorem zmr_221 : zmBoth zr_221 := ⟨by decide +kernel, Or.inr rfl⟩
theorem zmr_222 : zmBoth zr_222 := ⟨by decide +kernel, Or.inr rfl⟩
theorem zmr_223 : zmBoth zr_223 := ⟨by decide +kernel, Or.inr rfl⟩
theorem zmr_224 : zmBoth zr_224 := ⟨by decide +kernel, Or.inr rfl⟩
theorem zmr_225 : zmBoth zr_225 := ⟨by decide +kernel, Or.inr rfl⟩
theorem zmr_226 : zmBoth zr_226 := ⟨by decide +kernel, Or.inr rfl⟩
theorem zmr_227 : zmBoth zr_227 := ⟨by decide +kernel, Or.inr rfl⟩
theorem zmr_228 : zmBoth zr_228 := ⟨by decide +kernel, Or.inr rfl⟩
theorem zmr_229 : zmBoth zr_229 := ⟨by decide +kernel, Or.inr rfl⟩
theorem zmr_230 : zmBoth zr_230 := ⟨by decide +kernel, Or.inr rfl⟩
theorem zmr_231 : zmBoth zr_231 := ⟨by decide +kernel, Or.inr rfl⟩
theorem zmr_232 : zmBoth zr_232 := ⟨by decide +kernel, Or.inr rfl⟩
theorem zmr_233 : zmBoth zr_233 := ⟨by decide +kernel, Or.inr rfl⟩
theorem zmr_234 : zmBoth zr_234 := ⟨by decide +kernel, Or.inr rfl⟩
theorem zmr_235 : zmBoth zr_235 := ⟨by decide +kernel, Or.inr rfl⟩
theorem zmr_236 : zmBoth zr_236 := ⟨by decide +kernel, Or.inr rfl⟩
theorem zmr_237 : zmBoth zr_237 := ⟨by decide +kernel, Or.inr rfl⟩
theorem zmr_238 : zmBoth zr_238 := ⟨by decide +kernel, Or.inr rfl⟩
theorem zmr_239 : zmBoth zr_239 := ⟨by decide +kernel, Or.inr rfl⟩
theorem zmr_240 : zmBoth zr_240 := ⟨by decide +kernel, Or.inr rfl⟩
theorem zmr_241 : zmBoth zr_241 := ⟨by decide +kernel, Or.inr rfl⟩
theorem zmr_242 : zmBoth zr_242 := ⟨by decide +kernel, Or.inr rfl⟩
theorem zmr_243 : zmBoth zr_243 := ⟨by decide +kernel, Or.inr rfl⟩
theorem zmr_244 : zmBoth zr_244 := ⟨by decide +kernel, Or.inr rfl⟩
theorem zmr_245 : zmBoth zr_245 := ⟨by decide +kernel, Or.inr rfl⟩
theorem zmr_246 : zmBoth zr_246 := ⟨by decide +kernel, Or.inr rfl⟩
theorem zmr_247 : zmBoth zr_247 := ⟨by decide +kernel, Or.inr rfl⟩
theorem zmr_248 : zmBoth zr_248 := ⟨by decide +kernel, Or.inr rfl⟩
theorem zmr_249 : zmBoth zr_249 := ⟨by decide +kernel, Or.inr rfl⟩
theorem zmr_250 : zmBoth zr_250 := ⟨by decide +kernel, Or.inr rfl⟩
theorem zmr_251 : zmBoth zr_251 := ⟨by decide +kernel, Or.inr rfl⟩
theorem zmr_252 : zmBoth zr_252 := ⟨by decide +kernel, Or.inr rfl⟩
theorem zmr_253 : zmBoth zr_253 := ⟨by decide +kernel, Or.inr rfl⟩
theorem zmr_254 : zmBoth zr_254 := ⟨by decide +kernel, Or.inr rfl⟩
theorem zmr_255 : zmBoth zr_255 := ⟨by decide +kernel, Or.inr rfl⟩
theorem zmr_256 : zmBoth zr_256 := ⟨by decide +kernel, Or.inr rfl⟩
theorem zmr_257 : zmBoth zr_257 := ⟨by decide +kernel, Or.inr rfl⟩
theorem zmr_258 : zmBoth zr_258 := ⟨by decide +kernel, Or.inr rfl⟩
theorem zmr_259 : zmBoth zr_259 := ⟨by decide +kernel, Or.inr rfl⟩
theorem zmr_260 : zmBoth zr_260 := ⟨by decide +kernel, Or.inr rfl⟩
theorem zmr_261 : zmBoth zr_261 := ⟨by decide +kernel, Or.inr rfl⟩
theorem zmr_262 : zmBoth zr_262 := ⟨by decide +kernel, Or.inr rfl⟩
theorem zmr_263 : zmBoth zr_263 := ⟨by decide +kernel, Or.inr rfl⟩
theorem zmr_264 : zmBoth zr_264 := ⟨by decide +kernel, Or.inr rfl⟩
theorem zmr_265 : zmBoth zr_265 := ⟨by decide +kernel, Or.inr rfl⟩
theorem zmr_266 : zmBoth zr_266 := ⟨by decide +kernel, Or.inr rfl⟩
theorem zmr_267 : zmBoth zr_267 := ⟨by decide +kernel, Or.inr rfl⟩
theorem zmr_268 : zmBoth zr_268 := ⟨by decide +kernel, Or.inr rfl⟩
theorem zmr_269 : zmBoth zr_269 := ⟨by decide +kernel, Or.inr rfl⟩
theorem zmr_270 : zmBoth zr_270 := ⟨by decide +kernel, Or.inr rfl⟩
theorem zmr_271 : zmBoth zr_271 := ⟨by decide +kernel, Or.inr rfl⟩
theorem zmr_272 : zmBoth zr_272 := ⟨by decide +kernel, Or.inr rfl⟩
theorem zmr_273 : zmBoth zr_273 := ⟨by decide +kernel, Or.inr rfl⟩
theorem zmr_274 : zmBoth zr_274 := ⟨by decide +kernel, Or.inr rfl⟩
theorem zmr_275 : zmBoth zr_275 := ⟨by decide +kernel, Or.inr rfl⟩
theorem zmr_276 : zmBoth zr_276 := ⟨by decide +kernel, Or.inr rfl⟩
theorem zmr_277 : zmBoth zr_277 := ⟨by decide +kernel, Or.inr rfl⟩
theorem zmr_278 : zmBoth zr_278 := ⟨by decide +kernel, Or.inr rfl⟩
theorem zmr_279 : zmBoth zr_279 := ⟨by decide +kernel, Or.inr rfl⟩
theorem zmr_280 : zmBoth zr_280 := ⟨by decide +kernel, Or.inr rfl⟩
theorem zmr_281 : zmBoth zr_281 := ⟨by decide +kernel, Or.inr rfl⟩
theorem zmr_282 : zmBoth zr_282 := ⟨by decide +kernel, Or.inr rfl⟩
theorem zmr_283 : zmBoth zr_283 := ⟨by decide +kernel, Or.inr rfl⟩
theorem zmr_284 : zmBoth zr_284 := ⟨by decide +kernel, Or.inr rfl⟩
theorem zmr_285 : zmBoth zr_285 := ⟨by decide +kernel, Or.inr rfl⟩
theorem zmr_286 : zmBoth zr_286 := ⟨by decide +kernel, Or.inr rfl⟩
theorem zmr_287 : zmBoth zr_287 := ⟨by decide +kernel, Or.inr rfl⟩
theorem zmr_288 : zmBoth zr_288 := ⟨by decide +kernel, Or.inr rfl⟩
theorem zmr_289 : zmBoth zr_289 := ⟨by decide +kernel, Or.inr rfl⟩
theorem zmr_290 : zmBoth zr_290 := ⟨by decide +kernel, Or.inr rfl⟩
theorem zmr_291 : zmBoth zr_291 := ⟨by decide +kernel, Or.inr rfl⟩
theorem zmr_292 : zmBoth zr_292 := ⟨by decide +kernel, Or.inr rfl⟩
theorem zmr_293 : zmBoth zr_293 := ⟨by decide +kernel, Or.inr rfl⟩
theorem zmr_294 : zmBoth zr_294 := ⟨by decide +kernel, Or.inr rfl⟩
theorem zmr_295 : zmBoth zr_295 := ⟨by decide +kernel, Or.inr rfl⟩
theorem zmr_296 : zmBoth zr_296 := ⟨by decide +kernel, Or.inr rfl⟩
theorem zmr_297 : zmBoth zr_297 := ⟨by decide +kernel, Or.inr rfl⟩
theorem zmr_298 : zmBoth zr_298 := ⟨by decide +kernel, Or.inr rfl⟩
theorem zmr_299 : zmBoth zr_299 := ⟨by decide +kernel, Or.inr rfl⟩
theorem zmr_300 : zmBoth zr_300 := ⟨by decide +kernel, Or.inr rfl⟩
theorem zmr_301 : zmBoth zr_301 := ⟨by decide +kernel, Or.inr rfl⟩
theorem zmr_302 : zmBoth zr_302 := ⟨by decide +kernel, Or.inr rfl⟩
theorem zmr_303 : zmBoth zr_303 := ⟨by decide +kernel, Or.inr rfl⟩
theorem zmr_304 : zmBoth zr_304 := ⟨by decide +kernel, Or.inr rfl⟩
theorem zmr_305 : zmBoth zr_305 := ⟨by decide +kernel, Or.inr rfl⟩
theorem zmr_306 : zmBoth zr_306 := ⟨by decide +kernel, Or.inr rfl⟩
theorem zmr_307 : zmBoth zr_307 := ⟨by decide +kernel, Or.inr rfl⟩
theorem zmr_308 : zmBoth zr_308 := ⟨by decide +kernel, Or.inr rfl⟩
theorem zmr_309 : zmBoth zr_309 := ⟨by decide +kernel, Or.inr rfl⟩
theorem zmr_310 : zmBoth zr_310 := ⟨by decide +kernel, Or.inr rfl⟩
theorem zmr_311 : zmBoth zr_311 := ⟨by decide +kernel, Or.inr rfl⟩
theorem zmr_312 : zmBoth zr_312 := ⟨by decide +kernel, Or.inr rfl⟩
theorem zmr_313 : zmBoth zr_313 := ⟨by decide +kernel, Or.inr rfl⟩
theorem zmr_314 : zmBoth zr_314 := ⟨by decide +kernel, Or.inr rfl⟩
theorem zmr_315 : zmBoth zr_315 := ⟨by decide +kernel, Or.inr rfl⟩
theorem zmr_316 : zmBoth zr_316 := ⟨by decide +kernel, Or.inl (by decide)⟩
theorem zmr_317 : zmBoth zr_317 := ⟨by decide +kernel, Or.inl (by decide)⟩
theorem zmr_318 : zmBoth zr_318 := ⟨by decide +kernel, Or.inl (by decide)⟩
theorem zm_0 : zmAll zT_0 := ⟨zmr_0, zmr_1, zmr_2, zmr_3, zmr_4, zmr_5, zmr_6, zmr_7, zmr_8, zmr_9, zmr_10, zmr_11, zmr_12, zmr_13, zmr_14, zmr_15, zmr_16, zmr_17, zmr_18, zmr_19, zmr_20, zmr_21, zmr_22, zmr_23, zmr_24, zmr_25, zmr_26, zmr_27, zmr_28, zmr_29, zmr_30, zmr_31, zmr_32, zmr_33, zmr_34, zmr_35, zmr_36, zmr_37, zmr_38, zmr_39, trivial⟩
theorem zm_1 : zmAll zT_1 := ⟨zmr_40, zmr_41, zmr_42, zmr_43, zmr_44, zmr_45, zmr_46, zmr_47, zmr_48, zmr_49, zmr_50, zmr_51, zmr_52, zmr_53, zmr_54, zmr_55, zmr_56, zmr_57, zmr_58, zmr_59, zmr_60, zmr_61, zmr_62, zmr_63, zmr_64, zmr_65, zmr_66, zmr_67, zmr_68, zmr_69, zmr_70, zmr_71, zmr_72, zmr_73, zmr_74, zmr_75, zmr_76, zmr_77, zmr_78, zmr_79, trivial⟩
theorem zm_2 : zmAll zT_2 := ⟨zmr_80, zmr_81, zmr_82, zmr_83, zmr_84, zmr_85, zmr_86, zmr_87, zmr_88, zmr_89, zmr_90, zmr_91, zmr_92, zmr_93, zmr_94, zmr_95, zmr_96, zmr_97, zmr_98, zmr_99, zmr_100, zmr_101, zmr_102, zmr_103, zmr_104, zmr_105, zmr_106, zmr_107, zmr_108, zmr_109, zmr_110, zmr_111, zmr_112, zmr_113, zmr_114, zmr_115, zmr_116, zmr_117, zmr_118, zmr_119, trivial⟩
theorem zm_3 : zmAll zT_3 := ⟨zmr_120, zmr_121, zmr_122, zmr_123, zmr_124, zmr_125, zmr_126, zmr_127, zmr_128, zmr_129, zmr_130, zmr_131, zmr_132, zmr_133, zmr_134, zmr_135, zmr_136, zmr_137, zmr_138, zmr_139, zmr_140, zmr_141, zmr_142, zmr_143, zmr_144, zmr_145, zmr_146, zmr_147, zmr_148, zmr_149, zmr_150, zmr_151, zmr_152, zmr_153, zmr_154, zmr_155, zmr_156, zmr_157, zmr_158, zmr_159, trivial⟩
theorem zm_4 : zmAll zT_4 := ⟨zmr_160, zmr_161, zmr_162, zmr_163, zmr_164, zmr_165, zmr_166, zmr_167, zmr_168, zmr_169, zmr_170, zmr_171, zmr_172, zmr_173, zmr_174, zmr_175, zmr_176, zmr_177, zmr_178, zmr_179, zmr_180, zmr_181, zmr_182, zmr_183, zmr_184, zmr_185, zmr_186, zmr_187, zmr_188, zmr_189, zmr_190, zmr_191, zmr_192, zmr_193, zmr_194, zmr_195, zmr_196, zmr_197, zmr_198, zmr_199, trivial⟩
theorem zm_5 : zmAll zT_5 := ⟨zmr_200, zmr_201, zmr_202, zmr_203, zmr_204, zmr_205, zmr_206, zmr_207, zmr_208, zmr_209, zmr_210, zmr_211, zmr_212, zmr_213, zmr_214, zmr_215, zmr_216, zmr_217, zmr_218, zmr_219, zmr_220, zmr_221, zmr_222, zmr_223, zmr_224, zmr_225, zmr_226, zmr_227, zmr_228, zmr_229, zmr_230, zmr_231, zmr_232, zmr_233, zmr_234, zmr_235, zmr_236, zmr_237, zmr_238, zmr_239, trivial⟩
theorem zm_6 : zmAll zT_6 := ⟨zmr_240, zmr_241, zmr_242, zmr_243, zmr_244, zmr_245, zmr_246, zmr_247, zmr_248, zmr_249, zmr_250, zmr_251, zmr_252, zmr_253, zmr_254, zmr_255, zmr_256, zmr_257, zmr_258, zmr_259, zmr_260, zmr_261, zmr_262, zmr_263, zmr_264, zmr_265, zmr_266, zmr_267, zmr_268, zmr_269, zmr_270, zmr_271, zmr_272, zmr_273, zmr_274, zmr_275, zmr_276, zmr_277, zmr_278, zmr_279, trivial⟩
theorem zm_7 : zmAll zT_7 := ⟨zmr_280, zmr_281, zmr_282, zmr_283, zmr_284, zmr_285, zmr_286, zmr_287, zmr_288, zmr_289, zmr_290, zmr_291, zmr_292, zmr_293, zmr_294, zmr_295, zmr_296, zmr_297, zmr_298, zmr_299, zmr_300, zmr_301, zmr_302, zmr_303, zmr_304, zmr_305, zmr_306, zmr_307, zmr_308, zmr_309, zmr_310, zmr_311, zmr_312, zmr_313, zmr_314, zmr_315, zmr_316, zmr_317, zmr_318, trivial⟩
theorem zm_ok (k : Nat) : zmBoth (zrow k) := by
  by_cases e0 : k / 40 = 0
  · rw [zrow_0 e0]; exact zmAll_use zm_0 _
  by_cases e1 : k / 40 = 1
  · rw [zrow_1 e1]; exact zmAll_use zm_1 _
  by_cases e2 : k / 40 = 2
  · rw [zrow_2 e2]; exact zmAll_use zm_2 _
  by_cases e3 : k / 40 = 3
  · rw [zrow_3 e3]; exact zmAll_use zm_3 _
  by_cases e4 : k / 40 = 4
  · rw [zrow_4 e4]; exact zmAll_use zm_4 _
  by_cases e5 : k / 40 = 5
  · rw [zrow_5 e5]; exact zmAll_use zm_5 _
  by_cases e6 : k / 40 = 6
  · rw [zrow_6 e6]; exact zmAll_use zm_6 _
  by_cases e7 : k / 40 = 7
  · rw [zrow_7 e7]; exact zmAll_use zm_7 _
  rw [zrow_out (by omega)]
  exact ⟨rfl, Or.inl (by decide)⟩
def zNs : List Cond := [(Cond.methodLinkNest "SkippingKeys$Shelves" (22 : Nat) ({ cls := "SkippingKeys", name := "isWithin", desc := "(III)Z" } : Jvm.MethodName) "SkippingKeys"), (Cond.methodLinkNest "SkippingKeys$Conditions" (29 : Nat) ({ cls := "SkippingKeys", name := "isWithin", desc := "(III)Z" } : Jvm.MethodName) "SkippingKeys"), (Cond.fieldLinkNest "SkippingKeys$Condition" (98 : Nat) "SkippingKeys" "WEIGHT" "[I" "SkippingKeys"), (Cond.methodLinkNest "SkippingKeys$Lines" (31 : Nat) ({ cls := "SkippingKeys", name := "isWithin", desc := "(III)Z" } : Jvm.MethodName) "SkippingKeys"), (Cond.methodLinkNest "SkippingKeys$Tape" (26 : Nat) ({ cls := "SkippingKeys", name := "isWithin", desc := "(III)Z" } : Jvm.MethodName) "SkippingKeys"), (Cond.methodLinkNest "SkippingKeys$Reader" (45 : Nat) ({ cls := "SkippingKeys", name := "isWithin", desc := "(III)Z" } : Jvm.MethodName) "SkippingKeys"), (Cond.methodLinkNest "SkippingKeys$Condition" (44 : Nat) ({ cls := "SkippingKeys", name := "isWithin", desc := "(III)Z" } : Jvm.MethodName) "SkippingKeys"), (Cond.methodLinkNest "SkippingKeys$Condition" (84 : Nat) ({ cls := "SkippingKeys", name := "compared", desc := "(III)I" } : Jvm.MethodName) "SkippingKeys"), (Cond.fieldLinkNest "SkippingKeys$Lines" (47 : Nat) "SkippingKeys" "COLUMN_AT" "[I" "SkippingKeys"), (Cond.methodLinkNest "SkippingKeys$Spans" (48 : Nat) ({ cls := "SkippingKeys", name := "placeOf", desc := "(II)I" } : Jvm.MethodName) "SkippingKeys"), (Cond.methodLinkNest "SkippingKeys$Spans" (67 : Nat) ({ cls := "SkippingKeys", name := "isWithin", desc := "(III)Z" } : Jvm.MethodName) "SkippingKeys")]
theorem zNs_in : ∀ w ∈ zNs, w ∈ lw_tbl := by
  intro w hw
  simp only [zNs, List.mem_cons, List.not_mem_nil, or_false] at hw
  rcases hw with rfl | rfl | rfl | rfl | rfl | rfl | rfl | rfl | rfl | rfl | rfl
  · exact zpart_in (i := 2) (List.mem_of_getElem? (i := 52) (by decide +kernel))
  · exact zpart_in (i := 2) (List.mem_of_getElem? (i := 127) (by decide +kernel))
  · exact zpart_in (i := 2) (List.mem_of_getElem? (i := 164) (by decide +kernel))
  · exact zpart_in (i := 2) (List.mem_of_getElem? (i := 199) (by decide +kernel))
  · exact zpart_in (i := 3) (List.mem_of_getElem? (i := 23) (by decide +kernel))
  · exact zpart_in (i := 3) (List.mem_of_getElem? (i := 36) (by decide +kernel))
  · exact zpart_in (i := 3) (List.mem_of_getElem? (i := 115) (by decide +kernel))
  · exact zpart_in (i := 3) (List.mem_of_getElem? (i := 172) (by decide +kernel))
  · exact zpart_in (i := 4) (List.mem_of_getElem? (i := 39) (by decide +kernel))
  · exact zpart_in (i := 4) (List.mem_of_getElem? (i := 89) (by decide +kernel))
  · exact zpart_in (i := 4) (List.mem_of_getElem? (i := 145) (by decide +kernel))
def zMlOk (c : Nat) (e : Nat × Nat × Nat × zPos) : Bool := bif Nat.beq e.2.1 1000 then zhas e.2.2.2 (.methodLink (zcn c) e.1 Lib.objectInit) && Nat.beq e.2.2.1 0 else bif Nat.beq e.2.1 1001 then zhas e.2.2.2 (.methodLink (zcn c) e.1 arraycopyName) && Nat.beq e.2.2.1 0 else bif Nat.beq e.2.1 1002 then zhas e.2.2.2 (.methodLink (zcn c) e.1 Lib.Math.max.name) && Nat.beq e.2.2.1 0 else bif Nat.beq e.2.1 1003 then zhas e.2.2.2 (.methodLink (zcn c) e.1 Lib.Math.min.name) && Nat.beq e.2.2.1 0 else bif Nat.beq e.2.2.1 0 then zhas e.2.2.2 (.methodLink (zcn c) e.1 (zrow e.2.1).1) else decide (Cond.methodLinkNest (zcn c) e.1 (zrow e.2.1).1 "SkippingKeys" ∈ zNs)
theorem zMl_ok_0 : (zMl_0).all (zMlOk 0) = true := by decide +kernel
theorem zMl_ok_1 : (zMl_1).all (zMlOk 1) = true := by decide +kernel
theorem zMl_ok_2 : (zMl_2).all (zMlOk 2) = true := by decide +kernel
theorem zMl_ok_3 : (zMl_3).all (zMlOk 3) = true := by decide +kernel
theorem zMl_ok_4 : (zMl_4).all (zMlOk 4) = true := by decide +kernel
theorem zMl_ok_5 : (zMl_5).all (zMlOk 5) = true := by decide +kernel
theorem zMl_ok_6 : (zMl_6).all (zMlOk 6) = true := by decide +kernel
theorem zMl_ok_7 : (zMl_7).all (zMlOk 7) = true := by decide +kernel
theorem zMl_ok_8 : (zMl_8).all (zMlOk 8) = true := by decide +kernel
theorem zMl_ok_9 : (zMl_9).all (zMlOk 9) = true := by decide +kernel
theorem zMl_ok_10 : (zMl_10).all (zMlOk 10) = true := by decide +kernel
theorem zMl_ok (c : Nat) : ∀ e ∈ zMl c, zMlOk c e = true := by
  intro e he
  unfold zMl at he
  split at he
  · exact List.all_eq_true.mp zMl_ok_0 e he
  · exact List.all_eq_true.mp zMl_ok_1 e he
  · exact List.all_eq_true.mp zMl_ok_2 e he
  · exact List.all_eq_true.mp zMl_ok_3 e he
  · exact List.all_eq_true.mp zMl_ok_4 e he
  · exact List.all_eq_true.mp zMl_ok_5 e he
  · exact List.all_eq_true.mp zMl_ok_6 e he
  · exact List.all_eq_true.mp zMl_ok_7 e he
  · exact List.all_eq_true.mp zMl_ok_8 e he
  · exact List.all_eq_true.mp zMl_ok_9 e he
  · exact List.all_eq_true.mp zMl_ok_10 e he
  · cases he
def zTX (c : Nat) : u_T := match c with
  | 0 => TX0
  | 1 => TX1
  | 2 => TX2
  | 3 => TX3
  | 4 => TX4
  | 5 => TX5
  | 6 => TX6
  | 7 => TX7
  | 8 => TX8
  | 9 => TX9
  | _ => TX0
def ztyX (c : Nat) : Nat → FieldType := match c with
  | 0 => tyX0
  | 1 => tyX1
  | 2 => tyX2
  | 3 => tyX3
  | 4 => tyX4
  | 5 => tyX5
  | 6 => tyX6
  | 7 => tyX7
  | 8 => tyX8
  | 9 => tyX9
  | _ => tyX0
def zNf (c : Nat) : Nat := match c with
  | 0 => 12
  | 1 => 3
  | 2 => 4
  | 3 => 2
  | 4 => 6
  | 5 => 3
  | 6 => 12
  | 7 => 3
  | 8 => 12
  | 9 => 41
  | _ => 0
def zFlOk (c : Nat) (e : Nat × Nat × Nat × zPos) : Bool := zhas e.2.2.2 (.fieldLink (zcn c) e.1 (zTX e.2.1 e.2.2.1).1 (zTX e.2.1 e.2.2.1).2.1 (zTX e.2.1 e.2.2.1).2.2.1) && Nat.blt e.2.2.1 (zNf e.2.1) && Nat.blt e.2.1 10
theorem zFl_ok_0 : (zFl_0).all (zFlOk 0) = true := by decide +kernel
theorem zFl_ok_1 : (zFl_1).all (zFlOk 1) = true := by decide +kernel
theorem zFl_ok_2 : (zFl_2).all (zFlOk 2) = true := by decide +kernel
theorem zFl_ok_3 : (zFl_3).all (zFlOk 3) = true := by decide +kernel
theorem zFl_ok_4 : (zFl_4).all (zFlOk 4) = true := by decide +kernel
theorem zFl_ok_5 : (zFl_5).all (zFlOk 5) = true := by decide +kernel
theorem zFl_ok_6 : (zFl_6).all (zFlOk 6) = true := by decide +kernel
theorem zFl_ok_7 : (zFl_7).all (zFlOk 7) = true := by decide +kernel
theorem zFl_ok_8 : (zFl_8).all (zFlOk 8) = true := by decide +kernel
theorem zFl_ok_9 : (zFl_9).all (zFlOk 9) = true := by decide +kernel
theorem zFl_ok (c : Nat) : ∀ e ∈ zFl c, zFlOk c e = true := by
  intro e he
  unfold zFl at he
  split at he
  · exact List.all_eq_true.mp zFl_ok_0 e he
  · exact List.all_eq_true.mp zFl_ok_1 e he
  · exact List.all_eq_true.mp zFl_ok_2 e he
  · exact List.all_eq_true.mp zFl_ok_3 e he
  · exact List.all_eq_true.mp zFl_ok_4 e he
  · exact List.all_eq_true.mp zFl_ok_5 e he
  · exact List.all_eq_true.mp zFl_ok_6 e he
  · exact List.all_eq_true.mp zFl_ok_7 e he
  · exact List.all_eq_true.mp zFl_ok_8 e he
  · exact List.all_eq_true.mp zFl_ok_9 e he
  · cases he
def zSn (i : Nat) : String := match i with
  | 1 => "COLUMN_AT"
  | _ => "WEIGHT"
def zSlOk (c : Nat) (e : Nat × Nat × Nat × zPos) : Bool := (bif Nat.beq e.2.2.1 0 then zhas e.2.2.2 (.fieldLink (zcn c) e.1 "SkippingKeys" (zSn e.2.1) "[I") else decide (Cond.fieldLinkNest (zcn c) e.1 "SkippingKeys" (zSn e.2.1) "[I" "SkippingKeys" ∈ zNs)) && (Nat.beq e.2.1 1 || Nat.beq e.2.1 2)
theorem zSl_ok_0 : (zSl_0).all (zSlOk 0) = true := by decide +kernel
theorem zSl_ok_2 : (zSl_2).all (zSlOk 2) = true := by decide +kernel
theorem zSl_ok_8 : (zSl_8).all (zSlOk 8) = true := by decide +kernel
theorem zSl_ok (c : Nat) : ∀ e ∈ zSl c, zSlOk c e = true := by
  intro e he
  unfold zSl at he
  split at he
  · exact List.all_eq_true.mp zSl_ok_0 e he
  · exact List.all_eq_true.mp zSl_ok_2 e he
  · exact List.all_eq_true.mp zSl_ok_8 e he
  · cases he
def zKlOk (c : Nat) (e : Nat × Nat × Int × zPos) : Bool := bif Nat.beq e.2.1 0 then zhas e.2.2.2 (.constant (zcn c) e.1 (Int32.ofInt e.2.2.1)) && decide (-2147483648 ≤ e.2.2.1 ∧ e.2.2.1 < 2147483648) else zhas e.2.2.2 (.constantLong (zcn c) e.1 (Int64.ofInt e.2.2.1)) && decide (-9223372036854775808 ≤ e.2.2.1 ∧ e.2.2.1 < 9223372036854775808)
theorem zKl_ok_2 : (zKl_2).all (zKlOk 2) = true := by decide +kernel
theorem zKl_ok_8 : (zKl_8).all (zKlOk 8) = true := by decide +kernel
theorem zKl_ok_9 : (zKl_9).all (zKlOk 9) = true := by decide +kernel
theorem zKl_ok_10 : (zKl_10).all (zKlOk 10) = true := by decide +kernel
theorem zKl_ok_11 : (zKl_11).all (zKlOk 11) = true := by decide +kernel
theorem zKl_ok (c : Nat) : ∀ e ∈ zKl c, zKlOk c e = true := by
  intro e he
  unfold zKl at he
  split at he
  · exact List.all_eq_true.mp zKl_ok_2 e he
  · exact List.all_eq_true.mp zKl_ok_8 e he
  · exact List.all_eq_true.mp zKl_ok_9 e he
  · exact List.all_eq_true.mp zKl_ok_10 e he
  · exact List.all_eq_true.mp zKl_ok_11 e he
  · cases he
def zClOk (c : Nat) (e : Nat × Nat × zPos) : Bool := zhas e.2.2 (.classLink (zcn c) e.1 (bif Nat.beq e.2.1 100 then "[[J" else zcn e.2.1)) && (Nat.beq e.2.1 100 || Nat.blt e.2.1 10)
theorem zCl_ok_1 : (zCl_1).all (zClOk 1) = true := by decide +kernel
theorem zCl_ok_8 : (zCl_8).all (zClOk 8) = true := by decide +kernel
theorem zCl_ok_9 : (zCl_9).all (zClOk 9) = true := by decide +kernel
theorem zCl_ok_10 : (zCl_10).all (zClOk 10) = true := by decide +kernel
theorem zCl_ok (c : Nat) : ∀ e ∈ zCl c, zClOk c e = true := by
  intro e he
  unfold zCl at he
  split at he
  · exact List.all_eq_true.mp zCl_ok_1 e he
  · exact List.all_eq_true.mp zCl_ok_8 e he
  · exact List.all_eq_true.mp zCl_ok_9 e he
  · exact List.all_eq_true.mp zCl_ok_10 e he
  · cases he
def zwAll : Nat → List Cond → List zPos → Bool
  | _, [], _ => true
  | n, w :: l, q :: m => zhas q w && zwAll n l m
  | _, _ :: _, [] => false
theorem zwAll_in : ∀ (n : Nat) (l : List Cond) (m : List zPos), zwAll n l m = true → ∀ w ∈ l, w ∈ zTs
  | _, [], _, _, w, h => by cases h
  | n, w :: l, q :: m, h, v, hv => by
    unfold zwAll at h
    rw [Bool.and_eq_true] at h
    rcases List.mem_cons.mp hv with rfl | h2
    · exact zhas_in h.1
    · exact zwAll_in n l m h.2 v h2
  | _, _ :: _, [], h, _, _ => by cases h
theorem zCw_in_0 : ∀ w ∈ u_ws RX0 TX0 12, w ∈ zTs := zwAll_in 0 _ zCw_0 (by decide +kernel)
theorem zCi_in_0 : Cond.instantiable RX0 12 ∈ zTs := zhas_in (q := zCi_0) (by decide +kernel)
theorem zCw_in_1 : ∀ w ∈ u_ws RX1 TX1 3, w ∈ zTs := zwAll_in 0 _ zCw_1 (by decide +kernel)
theorem zCi_in_1 : Cond.instantiable RX1 3 ∈ zTs := zhas_in (q := zCi_1) (by decide +kernel)
theorem zCw_in_2 : ∀ w ∈ u_ws RX2 TX2 4, w ∈ zTs := zwAll_in 0 _ zCw_2 (by decide +kernel)
theorem zCi_in_2 : Cond.instantiable RX2 4 ∈ zTs := zhas_in (q := zCi_2) (by decide +kernel)
theorem zCw_in_3 : ∀ w ∈ u_ws RX3 TX3 2, w ∈ zTs := zwAll_in 0 _ zCw_3 (by decide +kernel)
theorem zCi_in_3 : Cond.instantiable RX3 2 ∈ zTs := zhas_in (q := zCi_3) (by decide +kernel)
theorem zCw_in_4 : ∀ w ∈ u_ws RX4 TX4 6, w ∈ zTs := zwAll_in 0 _ zCw_4 (by decide +kernel)
theorem zCi_in_4 : Cond.instantiable RX4 6 ∈ zTs := zhas_in (q := zCi_4) (by decide +kernel)
theorem zCw_in_5 : ∀ w ∈ u_ws RX5 TX5 3, w ∈ zTs := zwAll_in 0 _ zCw_5 (by decide +kernel)
theorem zCi_in_5 : Cond.instantiable RX5 3 ∈ zTs := zhas_in (q := zCi_5) (by decide +kernel)
theorem zCw_in_6 : ∀ w ∈ u_ws RX6 TX6 12, w ∈ zTs := zwAll_in 0 _ zCw_6 (by decide +kernel)
theorem zCi_in_6 : Cond.instantiable RX6 12 ∈ zTs := zhas_in (q := zCi_6) (by decide +kernel)
theorem zCw_in_7 : ∀ w ∈ u_ws RX7 TX7 3, w ∈ zTs := zwAll_in 0 _ zCw_7 (by decide +kernel)
theorem zCi_in_7 : Cond.instantiable RX7 3 ∈ zTs := zhas_in (q := zCi_7) (by decide +kernel)
theorem zCw_in_8 : ∀ w ∈ u_ws RX8 TX8 12, w ∈ zTs := zwAll_in 0 _ zCw_8 (by decide +kernel)
theorem zCi_in_8 : Cond.instantiable RX8 12 ∈ zTs := zhas_in (q := zCi_8) (by decide +kernel)
theorem zCw_in_9 : ∀ w ∈ u_ws RX9 TX9 41, w ∈ zTs := zwAll_in 0 _ zCw_9 (by decide +kernel)
theorem zCi_in_9 : Cond.instantiable RX9 41 ∈ zTs := zhas_in (q := zCi_9) (by decide +kernel)
theorem zini_in_0 : Cond.initialized RX0 ∈ zTs := zhas_in (q := (1, 4)) (by decide +kernel)
theorem zini_in_1 : Cond.initialized RX1 ∈ zTs := zhas_in (q := (1, 3)) (by decide +kernel)
theorem zini_in_2 : Cond.initialized RX2 ∈ zTs := zhas_in (q := (1, 2)) (by decide +kernel)
theorem zini_in_3 : Cond.initialized RX3 ∈ zTs := zhas_in (q := (1, 9)) (by decide +kernel)
theorem zini_in_4 : Cond.initialized RX4 ∈ zTs := zhas_in (q := (1, 7)) (by decide +kernel)
theorem zini_in_5 : Cond.initialized RX5 ∈ zTs := zhas_in (q := (1, 5)) (by decide +kernel)
theorem zini_in_6 : Cond.initialized RX6 ∈ zTs := zhas_in (q := (1, 8)) (by decide +kernel)
theorem zini_in_7 : Cond.initialized RX7 ∈ zTs := zhas_in (q := (1, 6)) (by decide +kernel)
theorem zini_in_8 : Cond.initialized RX8 ∈ zTs := zhas_in (q := (1, 1)) (by decide +kernel)
theorem zini_in_9 : Cond.initialized RX9 ∈ zTs := zhas_in (q := (1, 10)) (by decide +kernel)
theorem zx_arrI : Cond.arrayClass .int ∈ zTs := zhas_in (q := (1, 47)) (by decide +kernel)
theorem zx_arrJ : Cond.arrayClass .long ∈ zTs := zhas_in (q := (1, 143)) (by decide +kernel)
theorem zx_arrB : Cond.arrayClass .byte ∈ zTs := zhas_in (q := (1, 115)) (by decide +kernel)
theorem zx_arrZ : Cond.arrayClass .boolean ∈ zTs := zhas_in (q := (1, 233)) (by decide +kernel)
theorem zx_over : Cond.arrayOver (.object RX0) ∈ lw_tbl := zpart_in (i := 1) (List.mem_of_getElem? (i := 55) (by decide +kernel))
theorem zx_overA : Cond.arrayOver (.array .long) ∈ lw_tbl := zpart_in (i := 5) (List.mem_of_getElem? (i := 97) (by decide +kernel))
theorem zx_acs : Cond.static arraycopyName ∈ zTs := zhas_in (q := (2, 101)) (by decide +kernel)
theorem zx_acn : Cond.native arraycopyName ∈ zTs := zhas_in (q := (2, 102)) (by decide +kernel)
theorem zx_aci : Cond.initialized "java/lang/System" ∈ zTs := zhas_in (q := (1, 11)) (by decide +kernel)
theorem zx_oii : Cond.instanceMethod Lib.objectInit ∈ zTs := zhas_in (q := (1, 20)) (by decide +kernel)
theorem zx_oic : Cond.code Lib.objectInit ⟨#[0xb1]⟩ 1 none ∈ zTs := zhas_in (q := (1, 21)) (by decide +kernel)
theorem zx_mxs : Cond.static Lib.Math.max.name ∈ zTs := zhas_in (q := (3, 194)) (by decide +kernel)
theorem zx_mxc : Cond.code Lib.Math.max.name Lib.Math.max.code 2 (some .int) ∈ zTs := zhas_in (q := (3, 195)) (by decide +kernel)
theorem zx_mns : Cond.static Lib.Math.min.name ∈ zTs := zhas_in (q := (3, 158)) (by decide +kernel)
theorem zx_mnc : Cond.code Lib.Math.min.name Lib.Math.min.code 2 (some .int) ∈ zTs := zhas_in (q := (3, 159)) (by decide +kernel)
theorem zx_mi : Cond.initialized "java/lang/Math" ∈ zTs := zhas_in (q := (1, 13)) (by decide +kernel)
theorem zx_st1 : Cond.laysStatic "SkippingKeys" "WEIGHT" "[I" ∈ lw_tbl := zpart_in (i := 2) (List.mem_of_getElem? (i := 165) (by decide +kernel))
theorem zx_st2 : Cond.laysStatic "SkippingKeys" "COLUMN_AT" "[I" ∈ lw_tbl := zpart_in (i := 4) (List.mem_of_getElem? (i := 40) (by decide +kernel))
end
section
/-! ===== the cells that the two constructors lay, in their order ===== -/
def zshL : List (Nat × Int) := [(18, 0), (12, 0), (0, 180), (12, 0), (0, 180), (11, 0), (4, 25), (10, 0), (2, 1000), (0, 3), (0, 3), (10, 0), (2, 1000), (0, 3), (0, 3), (10, 0), (2, 1000), (0, 3), (0, 3), (10, 0), (2, 1000), (0, 3), (0, 3), (10, 0), (2, 1000), (0, 3), (0, 3), (10, 0), (2, 1000), (0, 3), (0, 3), (10, 0), (2, 1000), (0, 3), (0, 3), (10, 0), (2, 1000), (0, 3), (0, 3), (10, 0), (2, 1000), (0, 3), (0, 3), (10, 0), (2, 1000), (0, 3), (0, 3), (10, 0), (2, 1000), (0, 3), (0, 3), (10, 0), (2, 1000), (0, 3), (0, 3), (10, 0), (2, 1000), (0, 3), (0, 3), (10, 0), (2, 1000), (0, 3), (0, 3), (10, 0), (2, 1000), (0, 3), (0, 3), (10, 0), (2, 1000), (0, 3), (0, 3), (10, 0), (2, 1000), (0, 3), (0, 3), (10, 0), (2, 1000), (0, 3), (0, 3), (10, 0), (2, 1000), (0, 3), (0, 3), (10, 0), (2, 1000), (0, 3), (0, 3), (10, 0), (2, 1000), (0, 3), (0, 3), (10, 0), (2, 1000), (0, 3), (0, 3), (10, 0), (2, 1000), (0, 3), (0, 3), (10, 0), (2, 1000), (0, 3), (0, 3), (10, 0), (2, 1000), (0, 3), (0, 3), (11, 0), (4, 25), (10, 0), (2, 1000), (0, 3), (0, 3), (10, 0), (2, 1000), (0, 3), (0, 3), (10, 0), (2, 1000), (0, 3), (0, 3), (10, 0), (2, 1000), (0, 3), (0, 3), (10, 0), (2, 1000), (0, 3), (0, 3), (10, 0), (2, 1000), (0, 3), (0, 3), (10, 0), (2, 1000), (0, 3), (0, 3), (10, 0), (2, 1000), (0, 3), (0, 3), (10, 0), (2, 1000), (0, 3), (0, 3), (10, 0), (2, 1000), (0, 3), (0, 3), (10, 0), (2, 1000), (0, 3), (0, 3), (10, 0), (2, 1000), (0, 3), (0, 3), (10, 0), (2, 1000), (0, 3), (0, 3), (10, 0), (2, 1000), (0, 3), (0, 3), (10, 0), (2, 1000), (0, 3), (0, 3), (10, 0), (2, 1000), (0, 3), (0, 3), (10, 0), (2, 1000), (0, 3), (0, 3), (10, 0), (2, 1000), (0, 3), (0, 3), (10, 0), (2, 1000), (0, 3), (0, 3), (10, 0), (2, 1000), (0, 3), (0, 3), (10, 0), (2, 1000), (0, 3), (0, 3), (10, 0), (2, 1000), (0, 3), (0, 3), (10, 0), (2, 1000), (0, 3), (0, 3), (10, 0), (2, 1000), (0, 3), (0, 3), (10, 0), (2, 1000), (0, 3), (0, 3), (15, 0), (0, 8), (0, 8), (1, 320), (17, 0), (0, 250), (14, 0), (0, 250), (0, 250), (0, 250), (16, 0), (2, 1000), (0, 500), (0, 500), (0, 1000), (0, 500), (0, 1000), (0, 500), (3, 500), (0, 500), (13, 0), (0, 60), (0, 5), (3, 1000), (19, 0), (0, 8), (0, 8), (0, 8), (5, 8), (1, 40), (1, 40), (1, 40), (1, 40), (1, 40), (1, 40), (1, 40), (1, 40), (1, 40), (0, 8), (0, 250), (0, 8), (0, 180), (0, 24), (0, 24), (0, 192), (0, 180), (0, 24), (0, 24), (0, 192), (2, 24000), (0, 24), (0, 24), (0, 24), (0, 1000), (0, 1000), (0, 60), (0, 8)]
/-! ===== the small machine: a memory of whole numbers by cell and place; ints, longs and references with a tag on the stack ===== -/
abbrev ZV : Type := Int ⊕ Int ⊕ Int
abbrev ZL : Type := List (Option ZV)
abbrev ZS : Type := List ZV
abbrev ZM : Type := Int → Int → Int
abbrev ZC : Type := Nat × ZL × ZS × ZM
abbrev zI (x : Int) : ZV := Sum.inl x
abbrev zJ (x : Int) : ZV := Sum.inr (Sum.inl x)
abbrev zA (x : Int) : ZV := Sum.inr (Sum.inr x)
def zset (M : ZM) (a j v : Int) : ZM := fun a' j' => if a' = a ∧ j' = j then v else M a' j'
def zb (z : Int) : Int := Int.bmod z 4294967296
def zand (x y : Int) : Int := (Int32.ofInt x &&& Int32.ofInt y).toInt
def zor (x y : Int) : Int := (Int32.ofInt x ||| Int32.ofInt y).toInt
def zshl (x y : Int) : Int := (Int32.ofInt x <<< (Int32.ofInt y &&& 31)).toInt
def zshr (x y : Int) : Int := (Int32.ofInt x >>> (Int32.ofInt y &&& 31)).toInt
def zushr (x y : Int) : Int := ((Int32.ofInt x).toUInt32 >>> ((Int32.ofInt y).toUInt32 &&& Int32.toUInt32 31)).toInt32.toInt
def zlshl (x y : Int) : Int := (Int64.ofInt x <<< ((Int32.ofInt y).toInt64 &&& 63)).toInt
def zland (x y : Int) : Int := (Int64.ofInt x &&& Int64.ofInt y).toInt
def zlor (x y : Int) : Int := (Int64.ofInt x ||| Int64.ofInt y).toInt
def zlcmp (x y : Int) : Int := if y < x then 1 else if x = y then 0 else -1
def zi2b (x : Int) : Int := (Int32.ofInt x).toInt8.toInt32.toInt
def zi2s (x : Int) : Int := (Int32.ofInt x).toInt16.toInt32.toInt
/-- the kinds of cells: 0 ints, 1 longs, 2 bytes, 3 booleans, 4 conditions, 5 rows of longs, 10 + c an object, 20 a table, 21 the script -/
def zsh (a : Int) : Nat × Int := if a < 3 then (if a = 0 then (21, 0) else if a = 1 then (20, 18) else if a = 2 then (20, 3) else (99, 0)) else (zshL[(a - 3).toNat]?).getD (99, 0)
def zcl (k : Nat) : Nat := (zrow k).2.2.2.2.2.2.1
def zkind (k : Nat) : Nat := (zrow k).2.2.2.2.1
def zmaxL (k : Nat) : Nat := (zrow k).2.2.1
def zret (k : Nat) : Option FieldType := (zrow k).2.2.2.1
def znp (k : Nat) : Nat := (zrow k).2.2.2.2.2.1
def zget (ls : ZL) (i : Nat) : Option ZV := match ls[i]? with
  | some (some v) => some v
  | _ => none
def z2 : ZV → Bool
  | .inr (.inl _) => true
  | _ => false
def zclr (ls : ZL) (i : Nat) : ZL := match i with
  | 0 => ls
  | j + 1 => match zget ls j with
    | some (.inr (.inl _)) => ls.set j none
    | _ => ls
def zput (ls : ZL) (i : Nat) (v : ZV) : ZL := match v with
  | .inr (.inl _) => ((zclr ls i).set i (some v)).set (i + 1) none
  | _ => (zclr ls i).set i (some v)
def zcat : ZS → Nat
  | [] => 0
  | .inr (.inl _) :: r => 2 + zcat r
  | _ :: r => 1 + zcat r
def zcmp (c : ClassFile.Cond) (x y : Int) : Bool := match c with
  | .eq => decide (x = y)
  | .ne => !decide (x = y)
  | .lt => decide (x < y)
  | .ge => !decide (x < y)
  | .gt => decide (y < x)
  | .le => decide (x ≤ y)
def zjump (pc : Nat) (off : Int) (ls : ZL) (st : ZS) (M : ZM) : Option ZC := if 0 ≤ (pc : Int) + off then some (((pc : Int) + off).toNat, ls, st, M) else none
def zbr (b : Bool) (pc : Nat) (off : Int) (ls : ZL) (st : ZS) (M : ZM) : Option ZC := if 0 ≤ (pc : Int) + off then (if b = true then some (((pc : Int) + off).toNat, ls, st, M) else some (pc + 3, ls, st, M)) else none
def zbin (f : Int → Int → Int) (pc : Nat) (ls : ZL) (st : ZS) (M : ZM) : Option ZC := match st with
  | .inl y :: .inl x :: r => some (pc, ls, .inl (f x y) :: r, M)
  | _ => none
def zldI (v : Option ZV) (pc : Nat) (ls : ZL) (st : ZS) (M : ZM) : Option ZC := match v with
  | some (.inl x) => some (pc, ls, .inl x :: st, M)
  | _ => none
def zldJ (v : Option ZV) (pc : Nat) (ls : ZL) (st : ZS) (M : ZM) : Option ZC := match v with
  | some (.inr (.inl x)) => some (pc, ls, zJ x :: st, M)
  | _ => none
def zldA (v : Option ZV) (pc : Nat) (ls : ZL) (st : ZS) (M : ZM) : Option ZC := match v with
  | some (.inr (.inr x)) => if 0 ≤ x then some (pc, ls, zA x :: st, M) else none
  | _ => none
def zstI (i pc : Nat) (ls : ZL) (st : ZS) (M : ZM) : Option ZC := match st with
  | .inl x :: r => if i < ls.length then some (pc, zput ls i (zI x), r, M) else none
  | _ => none
def zstJ (i pc : Nat) (ls : ZL) (st : ZS) (M : ZM) : Option ZC := match st with
  | .inr (.inl x) :: r => if i + 1 < ls.length then some (pc, zput ls i (zJ x), r, M) else none
  | _ => none
def zstA (i pc : Nat) (ls : ZL) (st : ZS) (M : ZM) : Option ZC := match st with
  | .inr (.inr x) :: r => if 0 ≤ x ∧ i < ls.length then some (pc, zput ls i (zA x), r, M) else none
  | _ => none
def ztag (ty : FieldType) (x : Int) : Option ZV := match ty with
  | .int => some (zI x)
  | .boolean => some (zI x)
  | .object _ => some (zA x)
  | .array _ => some (zA x)
  | _ => none
/-- may a field of this type get this value? its number, then -/
def zfit (ty : FieldType) (v : ZV) : Option Int := match ty, v with
  | .int, .inl x => some x
  | .boolean, .inl x => if 0 ≤ x ∧ x ≤ 1 then some x else none
  | .object _, .inr (.inr x) => if 0 ≤ x then some x else none
  | .array _, .inr (.inr x) => if 0 ≤ x then some x else none
  | _, _ => none
def zfin (k ci : Nat) (j : Nat) : Bool := !(zTX ci j).2.2.2 || (Nat.beq (zkind k) 2 && Nat.beq (zcl k) ci)
def zgetf (e : Option (Nat × Nat × zPos)) (pc : Nat) (ls : ZL) (st : ZS) (M : ZM) : Option ZC := match e, st with
  | some (ci, j, _), .inr (.inr a) :: r => if zsh a = (10 + ci, 0) then (match ztag (ztyX ci j) (M a j) with | some v => some (pc, ls, v :: r, M) | none => none) else none
  | _, _ => none
def zputf (k : Nat) (e : Option (Nat × Nat × zPos)) (pc : Nat) (ls : ZL) (st : ZS) (M : ZM) : Option ZC := match e, st with
  | some (ci, j, _), v :: .inr (.inr a) :: r => if zsh a = (10 + ci, 0) ∧ zfin k ci j = true then (match zfit (ztyX ci j) v with | some x => some (pc, ls, r, zset M a j x) | none => none) else none
  | _, _ => none
def zlen (M : ZM) (a : Int) : Int := if a = 0 then M 0 (-1) else (zsh a).2
def zaldI (pc : Nat) (ls : ZL) (st : ZS) (M : ZM) : Option ZC := match st with
  | .inl i :: .inr (.inr a) :: r => if ((zsh a).1 = 0 ∨ (zsh a).1 = 20 ∨ (zsh a).1 = 21) ∧ 0 ≤ i ∧ i < zlen M a then some (pc, ls, zI (M a i) :: r, M) else none
  | _ => none
def zaldB (pc : Nat) (ls : ZL) (st : ZS) (M : ZM) : Option ZC := match st with
  | .inl i :: .inr (.inr a) :: r => if ((zsh a).1 = 2 ∨ (zsh a).1 = 3) ∧ 0 ≤ i ∧ i < zlen M a then some (pc, ls, zI (M a i) :: r, M) else none
  | _ => none
def zaldJ (pc : Nat) (ls : ZL) (st : ZS) (M : ZM) : Option ZC := match st with
  | .inl i :: .inr (.inr a) :: r => if (zsh a).1 = 1 ∧ 0 ≤ i ∧ i < zlen M a then some (pc, ls, zJ (M a i) :: r, M) else none
  | _ => none
def zaldA (pc : Nat) (ls : ZL) (st : ZS) (M : ZM) : Option ZC := match st with
  | .inl i :: .inr (.inr a) :: r => if ((zsh a).1 = 4 ∨ (zsh a).1 = 5) ∧ 0 ≤ i ∧ i < zlen M a then some (pc, ls, zA (M a i) :: r, M) else none
  | _ => none
def zastI (pc : Nat) (ls : ZL) (st : ZS) (M : ZM) : Option ZC := match st with
  | .inl x :: .inl i :: .inr (.inr a) :: r => if (zsh a).1 = 0 ∧ 0 ≤ i ∧ i < zlen M a then some (pc, ls, r, zset M a i x) else none
  | _ => none
def zastB (pc : Nat) (ls : ZL) (st : ZS) (M : ZM) : Option ZC := match st with
  | .inl x :: .inl i :: .inr (.inr a) :: r => if (((zsh a).1 = 2 ∧ -128 ≤ x ∧ x ≤ 127) ∨ ((zsh a).1 = 3 ∧ 0 ≤ x ∧ x ≤ 1)) ∧ 0 ≤ i ∧ i < zlen M a then some (pc, ls, r, zset M a i x) else none
  | _ => none
def zastJ (pc : Nat) (ls : ZL) (st : ZS) (M : ZM) : Option ZC := match st with
  | .inr (.inl x) :: .inl i :: .inr (.inr a) :: r => if (zsh a).1 = 1 ∧ 0 ≤ i ∧ i < zlen M a then some (pc, ls, r, zset M a i x) else none
  | _ => none
def zastA (pc : Nat) (ls : ZL) (st : ZS) (M : ZM) : Option ZC := match st with
  | .inr (.inr x) :: .inl i :: .inr (.inr a) :: r => if (zsh a).1 = 4 ∧ zsh x = (10, 0) ∧ 0 ≤ i ∧ i < zlen M a then some (pc, ls, r, zset M a i x) else none
  | _ => none
def zalen (pc : Nat) (ls : ZL) (st : ZS) (M : ZM) : Option ZC := match st with
  | .inr (.inr a) :: r => if (zsh a).1 ≤ 5 ∨ (zsh a).1 = 21 then some (pc, ls, zI (zlen M a) :: r, M) else none
  | _ => none
/-- what a new cell holds at its places -/
def zdef (t : Nat) (j : Int) : Int := if t = 4 ∨ t = 5 then -1 else if 10 ≤ t then (match ztyX (t - 10) j.toNat with | .object _ => -1 | .array _ => -1 | _ => 0) else 0
def znx (M : ZM) : Int := M (-1) 0
def zmake (M : ZM) : ZM := fun a j => if a = -1 ∧ j = 0 then M (-1) 0 + 1 else if a = M (-1) 0 then zdef (zsh a).1 j else M a j
def znew (e : Option (Nat × zPos)) (pc : Nat) (ls : ZL) (st : ZS) (M : ZM) : Option ZC := match e with
  | some (ci, _) => if ci < 90 ∧ zsh (znx M) = (10 + ci, 0) then some (pc, ls, zA (znx M) :: st, zmake M) else none
  | none => none
def zatype : ArrayType → Nat
  | .int => 0
  | .long => 1
  | .byte => 2
  | .boolean => 3
  | _ => 98
def znewa (t : Nat) (pc : Nat) (ls : ZL) (st : ZS) (M : ZM) : Option ZC := match st with
  | .inl n :: r => if t ≤ 4 ∧ zsh (znx M) = (t, n) ∧ 0 ≤ n ∧ n ≤ 100000 then some (pc, ls, zA (znx M) :: r, zmake M) else none
  | _ => none
def zmakes : Nat → ZM → ZM
  | 0, M => M
  | n + 1, M => zmakes n (zmake M)
def znewm (pc : Nat) (ls : ZL) (st : ZS) (M : ZM) : Option ZC := match st with
  | .inl k :: .inl n :: r => if zsh (znx M) = (5, n) ∧ 0 ≤ n ∧ n ≤ 1000 ∧ 0 ≤ k ∧ k ≤ 1000 ∧ (∀ i : Nat, i < n.toNat → zsh (znx M + 1 + i) = (1, k)) then
      some (pc, ls, zA (znx M) :: r, (fun a j => if a = znx M ∧ 0 ≤ j ∧ j < n then znx M + 1 + j else zmakes n.toNat (zmake M) a j)) else none
  | _ => none
def zkon (long : Nat) (e : Option (Nat × Int × zPos)) (pc : Nat) (ls : ZL) (st : ZS) (M : ZM) : Option ZC := match e with
  | some (w, x, _) => if w = long then some (pc, ls, (if long = 0 then zI x else zJ x) :: st, M) else none
  | none => none
def zcopy (M : ZM) (b p a q n : Int) : ZM := fun x j => if x = a ∧ q ≤ j ∧ j < q + n then M b (p + (j - q)) else M x j
def zacopy (pc : Nat) (ls : ZL) (st : ZS) (M : ZM) : Option ZC := match st with
  | .inl n :: .inl q :: .inr (.inr a) :: .inl p :: .inr (.inr b) :: r => if (zsh a).1 ≤ 2 ∧ (zsh b).1 = (zsh a).1 ∧ 0 ≤ n ∧ 0 ≤ q ∧ 0 ≤ p ∧ p + n ≤ (zsh b).2 ∧ q + n ≤ (zsh a).2 ∧ zcat r ≤ 8 ∧ 3 + (zshL.length : Int) ≤ znx M then some (pc, ls, r, zcopy M b p a q n) else none
  | _ => none
def zmm (t pc : Nat) (ls : ZL) (st : ZS) (M : ZM) : Option ZC := match st with
  | .inl y :: .inl x :: r => if zcat r ≤ 8 then some (pc, ls, zI (if t = 1002 then (if x < y then y else x) else (if y < x then y else x)) :: r, M) else none
  | _ => none
def zlenOk (i : Instr) (n : Nat) : Bool := match i with
  | .tableswitch .. => true
  | .lookupswitch .. => true
  | .aload _ | .iload _ | .lload _ | .astore _ | .istore _ | .lstore _ | .bipush _ | .ldc _ | .newarray _ => Nat.beq n 2
  | .sipush _ | .ldc_w _ | .ldc2_w _ | .iinc .. | .getfield _ | .putfield _ | .getstatic _ | .invokevirtual _ | .invokestatic _ | .invokespecial _ | .goto _ | .ifCond .. | .if_icmp .. | .new _ | .anewarray _ => Nat.beq n 3
  | .multianewarray .. => Nat.beq n 4
  | _ => Nat.beq n 1
def zstep (k : Nat) (i : Instr) (pc : Nat) (ls : ZL) (st : ZS) (M : ZM) : Option ZC := match i with
  | .iconst v => if -32768 ≤ v ∧ v ≤ 32767 then some (pc + 1, ls, zI v :: st, M) else none
  | .bipush v => if -128 ≤ v ∧ v ≤ 127 then some (pc + 2, ls, zI v :: st, M) else none
  | .sipush v => if -32768 ≤ v ∧ v ≤ 32767 then some (pc + 3, ls, zI v :: st, M) else none
  | .lconst v => some (pc + 1, ls, zJ (v.val : Int) :: st, M)
  | .ldc n => zkon 0 (zlk (zKl (zcl k)) n) (pc + 2) ls st M
  | .ldc_w n => zkon 0 (zlk (zKl (zcl k)) n) (pc + 3) ls st M
  | .ldc2_w n => zkon 1 (zlk (zKl (zcl k)) n) (pc + 3) ls st M
  | .iload n => zldI (zget ls n) (pc + 2) ls st M
  | .iload_n n => zldI (zget ls n.val) (pc + 1) ls st M
  | .lload n => zldJ (zget ls n) (pc + 2) ls st M
  | .lload_n n => zldJ (zget ls n.val) (pc + 1) ls st M
  | .aload n => zldA (zget ls n) (pc + 2) ls st M
  | .aload_n n => zldA (zget ls n.val) (pc + 1) ls st M
  | .istore n => zstI n (pc + 2) ls st M
  | .istore_n n => zstI n.val (pc + 1) ls st M
  | .lstore n => zstJ n (pc + 2) ls st M
  | .astore n => zstA n (pc + 2) ls st M
  | .astore_n n => zstA n.val (pc + 1) ls st M
  | .iinc n v => match zget ls n with
    | some (.inl x) => if n < ls.length then some (pc + 3, zput ls n (zI (zb (x + v))), st, M) else none
    | _ => none
  | .iadd => zbin (fun x y => zb (x + y)) (pc + 1) ls st M
  | .isub => zbin (fun x y => zb (x - y)) (pc + 1) ls st M
  | .imul => zbin (fun x y => zb (x * y)) (pc + 1) ls st M
  | .idiv => match st with
    | .inl y :: .inl x :: r => if y = 0 then none else some (pc + 1, ls, zI (zb (Int.tdiv x y)) :: r, M)
    | _ => none
  | .irem => match st with
    | .inl y :: .inl x :: r => if y = 0 then none else some (pc + 1, ls, zI (Int.tmod x y) :: r, M)
    | _ => none
  | .ineg => match st with
    | .inl x :: r => some (pc + 1, ls, zI (zb (-x)) :: r, M)
    | _ => none
  | .iand => zbin zand (pc + 1) ls st M
  | .ior => zbin zor (pc + 1) ls st M
  | .ishl => zbin zshl (pc + 1) ls st M
  | .ishr => zbin zshr (pc + 1) ls st M
  | .iushr => zbin zushr (pc + 1) ls st M
  | .lshl => match st with
    | .inl y :: .inr (.inl x) :: r => some (pc + 1, ls, zJ (zlshl x y) :: r, M)
    | _ => none
  | .land => match st with
    | .inr (.inl y) :: .inr (.inl x) :: r => some (pc + 1, ls, zJ (zland x y) :: r, M)
    | _ => none
  | .lor => match st with
    | .inr (.inl y) :: .inr (.inl x) :: r => some (pc + 1, ls, zJ (zlor x y) :: r, M)
    | _ => none
  | .lcmp => match st with
    | .inr (.inl y) :: .inr (.inl x) :: r => some (pc + 1, ls, zI (zlcmp x y) :: r, M)
    | _ => none
  | .i2l => match st with
    | .inl x :: r => some (pc + 1, ls, zJ x :: r, M)
    | _ => none
  | .l2i => match st with
    | .inr (.inl x) :: r => some (pc + 1, ls, zI (zb x) :: r, M)
    | _ => none
  | .i2b => match st with
    | .inl x :: r => some (pc + 1, ls, zI (zi2b x) :: r, M)
    | _ => none
  | .i2s => match st with
    | .inl x :: r => some (pc + 1, ls, zI (zi2s x) :: r, M)
    | _ => none
  | .dup => match st with
    | v :: r => if z2 v = true then none else some (pc + 1, ls, v :: v :: r, M)
    | _ => none
  | .pop => match st with
    | v :: r => if z2 v = true then none else some (pc + 1, ls, r, M)
    | _ => none
  | .dup_x1 => match st with
    | v :: w :: r => if z2 v = true ∨ z2 w = true then none else some (pc + 1, ls, v :: w :: v :: r, M)
    | _ => none
  | .dup2 => match st with
    | v :: w :: r => if z2 v = true ∨ z2 w = true then none else some (pc + 1, ls, v :: w :: v :: w :: r, M)
    | _ => none
  | .goto off => zjump pc off ls st M
  | .ifCond c off => match st with
    | .inl x :: r => zbr (zcmp c x 0) pc off ls r M
    | _ => none
  | .if_icmp c off => match st with
    | .inl y :: .inl x :: r => zbr (zcmp c x y) pc off ls r M
    | _ => none
  | .tableswitch d lo hi offs => match st with
    | .inl x :: r => if x < lo ∨ hi < x then zjump pc d ls r M else (match offs[(x - lo).toNat]? with | some off => zjump pc off ls r M | none => none)
    | _ => none
  | .lookupswitch d ps => match st with
    | .inl x :: r => if (ps.toList.zip (ps.toList.drop 1)).all (fun (a, next) => a.1 < next.1) = true then zjump pc (Op.lookupswitch.offset ps.toList d x) ls r M else none
    | _ => none
  | .getfield n => zgetf (zlk (zFl (zcl k)) n) (pc + 3) ls st M
  | .putfield n => zputf k (zlk (zFl (zcl k)) n) (pc + 3) ls st M
  | .getstatic n => match zlk (zSl (zcl k)) n with
    | some (w, _) => some (pc + 3, ls, zA (w : Int) :: st, M)
    | none => none
  | .iaload => zaldI (pc + 1) ls st M
  | .baload => zaldB (pc + 1) ls st M
  | .laload => zaldJ (pc + 1) ls st M
  | .aaload => zaldA (pc + 1) ls st M
  | .iastore => zastI (pc + 1) ls st M
  | .bastore => zastB (pc + 1) ls st M
  | .lastore => zastJ (pc + 1) ls st M
  | .aastore => zastA (pc + 1) ls st M
  | .arraylength => zalen (pc + 1) ls st M
  | .new n => znew (zlk (zCl (zcl k)) n) (pc + 3) ls st M
  | .newarray t => if zatype t ≤ 3 then znewa (zatype t) (pc + 2) ls st M else none
  | .anewarray n => match zlk (zCl (zcl k)) n with
    | some (0, _) => znewa 4 (pc + 3) ls st M
    | _ => none
  | .multianewarray n m => match zlk (zCl (zcl k)) n with
    | some (w, _) => if w = 100 ∧ m = 2 then znewm (pc + 4) ls st M else none
    | _ => none
  | _ => none
def zslots : ZS → ZL
  | [] => []
  | .inr (.inl x) :: r => some (zJ x) :: none :: zslots r
  | v :: r => some v :: zslots r
def zentry (t : Nat) (args : ZS) : ZL := zslots args ++ List.replicate (zmaxL t - (zslots args).length) none
/-- what stands ready for a call of method t: its arguments, and the rest of the stack -/
def zready (kind : Nat) (t : Nat) (st : ZS) : Option (ZS × ZS) :=
  if zkind t = kind ∧ kind ≤ 2 then
    (let n := znp t + (if kind = 0 then 0 else 1)
     if n ≤ st.length ∧ zcat (st.drop n) ≤ 8 ∧ (zslots (st.take n).reverse).length ≤ zmaxL t then
       (match kind, (st.take n).reverse with
        | 0, args => some (args, st.drop n)
        | 1, .inr (.inr a) :: args => if zsh a = (10 + zcl t, 0) ∧ zcl t < 10 then some (.inr (.inr a) :: args, st.drop n) else none
        | 2, .inr (.inr a) :: args => if 0 ≤ a then some (.inr (.inr a) :: args, st.drop n) else none
        | _, _ => none)
     else none)
  else none
def zretI (k : Nat) (x : Int) : Bool := match zret k with
  | some .int => true
  | some .boolean => decide (0 ≤ x ∧ x ≤ 1)
  | _ => false
def zretA (k : Nat) : Bool := match zret k with
  | some (.object _) => true
  | some (.array _) => true
  | _ => false
def zbody : Nat → Nat → Nat → Nat → ZL → ZS → ZM → Option (Option ZV × ZM)
  | 0, _, _, _, _, _, _ => none
  | n + 1, d, k, pc, ls, st, M => match zins k pc with
    | none => none
    | some (i, m) => if zlenOk i m = true then (match i with
      | .ireturn => match st with
        | [.inl x] => if zretI k x = true then some (some (zI x), M) else none
        | _ => none
      | .lreturn => match st with
        | [.inr (.inl x)] => if zret k = some .long then some (some (zJ x), M) else none
        | _ => none
      | .areturn => match st with
        | [.inr (.inr a)] => if zretA k = true ∧ 0 ≤ a then some (some (zA a), M) else none
        | _ => none
      | .return_ => match st with
        | [] => if zret k = none then some (none, M) else none
        | _ => none
      | .invokespecial j => match zlk (zMl (zcl k)) j with
        | some (t, _, _) => if t = 1000 then (match st, d with
            | .inr (.inr a) :: r, _ + 1 => if 0 ≤ a ∧ zcat r ≤ 8 then zbody n d k (pc + 3) ls r M else none
            | _, _ => none)
          else (match zready 2 t st, d with
            | some (args, r), e + 1 => (match zbody n e t 0 (zentry t args) [] M with
              | some (v, M') => zbody n d k (pc + 3) ls (v.toList ++ r) M'
              | none => none)
            | _, _ => none)
        | none => none
      | .invokestatic j => match zlk (zMl (zcl k)) j with
        | some (t, _, _) => if t = 1001 then (match d, zacopy (pc + 3) ls st M with
            | _ + 1, some (pc', ls', st', M') => zbody n d k pc' ls' st' M'
            | _, _ => none)
          else if t = 1002 ∨ t = 1003 then (match d, zmm t (pc + 3) ls st M with
            | _ + 1, some (pc', ls', st', M') => zbody n d k pc' ls' st' M'
            | _, _ => none)
          else (match zready 0 t st, d with
            | some (args, r), e + 1 => (match zbody n e t 0 (zentry t args) [] M with
              | some (v, M') => zbody n d k (pc + 3) ls (v.toList ++ r) M'
              | none => none)
            | _, _ => none)
        | none => none
      | .invokevirtual j => match zlk (zMl (zcl k)) j with
        | some (t, _, _) => (match zready 1 t st, d with
            | some (args, r), e + 1 => (match zbody n e t 0 (zentry t args) [] M with
              | some (v, M') => zbody n d k (pc + 3) ls (v.toList ++ r) M'
              | none => none)
            | _, _ => none)
        | none => none
      | _ => match zstep k i pc ls st M with
        | some (pc', ls', st', M') => zbody n d k pc' ls' st' M'
        | none => none) else none
end
section
/-! ===== what the small machine's state says of the large one's ===== -/
abbrev zBs : Type := Nat × Nat × Nat × Nat
def zad (B : zBs) (a : Int) : Nat := if a = 0 then B.1 else if a = 1 then B.2.1 else if a = 2 then B.2.2.1 else B.2.2.2 + (a - 3).toNat
def zrv (B : zBs) (a : Int) : Value := if a < 0 then .null else .ref (zad B a)
def zenc (B : zBs) (v : ZV) : Value := match v with
  | .inl x => .int (Int32.ofInt x)
  | .inr (.inl x) => .long (Int64.ofInt x)
  | .inr (.inr a) => zrv B a
def zi32 (x : Int) : Prop := -2147483648 ≤ x ∧ x < 2147483648
def zi64 (x : Int) : Prop := -9223372036854775808 ≤ x ∧ x < 9223372036854775808
def zokV (n : Int) (v : ZV) : Prop := match v with
  | .inl x => zi32 x
  | .inr (.inl x) => zi64 x
  | .inr (.inr a) => -1 ≤ a ∧ a < n
def zty (aD : Nat → ClassId) : List (ClassId × FieldType) := [(aD 0, .int), (aD 1, .long), (aD 2, .byte), (aD 3, .boolean), (aD 4, .object RX0), (aD 5, .array .long)]
def zro (B : zBs) (a : Int) : Option Nat := if a < 0 then none else some (zad B a)
theorem zro_rf (B : zBs) (a : Int) : va_rf (zro B a) = zrv B a := by
  unfold zro zrv
  split <;> rfl
def zencF (B : zBs) (ty : FieldType) (x : Int) : Value := match ty with
  | .object _ => zrv B x
  | .array _ => zrv B x
  | _ => .int (Int32.ofInt x)
/-- the cell a of the memory, as the kit's worlds have it -/
def zent (B : zBs) (aD : Nat → ClassId) (M : ZM) (a : Int) : va_E :=
  if (zsh a).1 = 0 then .inl (aD 0, ((zsh a).2).toNat, .inl (fun j => Int32.ofInt (M a j)))
  else if (zsh a).1 = 1 then .inl (aD 1, ((zsh a).2).toNat, .inr (.inl (fun j => Int64.ofInt (M a j))))
  else if (zsh a).1 = 2 then .inl (aD 2, ((zsh a).2).toNat, .inl (fun j => Int32.ofInt (M a j)))
  else if (zsh a).1 = 3 then .inl (aD 3, ((zsh a).2).toNat, .inl (fun j => Int32.ofInt (M a j)))
  else if (zsh a).1 = 4 then .inl (aD 4, ((zsh a).2).toNat, .inr (.inr (.inr (.inr (fun j => zro B (M a j))))))
  else if (zsh a).1 = 5 then .inl (aD 5, ((zsh a).2).toNat, .inr (.inr (.inr (.inr (fun j => zro B (M a j))))))
  else .inr ((zsh a).1 - 10, (List.range (zNf ((zsh a).1 - 10))).map (fun j => zencF B (ztyX ((zsh a).1 - 10) j) (M a j)))
def zW (B : zBs) (aD : Nat → ClassId) (M : ZM) : va_W := (List.range (znx M - 3).toNat).map (fun q => (B.2.2.2 + q, zent B aD M ((q : Int) + 3)))
/-- the kind of place j of cell a: 0 an int, 1 a long, 2 a byte, 3 a truth, 4 a reference -/
def zpk (a : Int) (j : Int) : Nat := if (zsh a).1 < 4 then (zsh a).1 else if (zsh a).1 < 10 then 4 else match ztyX ((zsh a).1 - 10) j.toNat with
  | .object _ => 4
  | .array _ => 4
  | .boolean => 3
  | _ => 0
def zcnt (a : Int) : Int := if (zsh a).1 < 10 then (zsh a).2 else (zNf ((zsh a).1 - 10) : Nat)
def zin (n : Int) (k : Nat) (x : Int) : Prop := match k with
  | 0 => zi32 x
  | 1 => zi64 x
  | 2 => -128 ≤ x ∧ x ≤ 127
  | 3 => 0 ≤ x ∧ x ≤ 1
  | _ => -1 ≤ x ∧ x < n
def zokM (M : ZM) : Prop := ∀ a : Int, 3 ≤ a → a < znx M → ∀ j : Int, 0 ≤ j → j < zcnt a → zin (znx M) (zpk a j) (M a j)
abbrev zAq (B : zBs) : Nat → Prop := fun q => B.2.2.2 ≤ q
def zcol (j : Nat) : Int := match j with
  | 0 => 0 | 1 => 1 | 2 => 2 | 3 => 0 | 4 => 2 | 5 => 1 | 6 => 1 | 7 => 0 | 8 => 2 | 9 => 1 | 10 => 2 | 11 => 0 | 12 => 2 | 13 => 0 | 14 => 1 | 15 => 2 | 16 => 1 | _ => 0
def zwei (j : Nat) : Int := match j with
  | 0 => 100 | 1 => 10 | _ => 1
/-- what never changes: the script, the two tables -/
def zS (L : Nat) (xs : Nat → Int32) (M : ZM) : Prop := M 0 (-1) = (L : Int) ∧ (∀ j : Nat, j < L → M 0 j = (xs j).toInt) ∧ (∀ j : Nat, j < 18 → M 1 j = zcol j) ∧ ∀ j : Nat, j < 3 → M 2 j = zwei j
def zH (B : zBs) (D : va_G) (aD : Nat → ClassId) (M : ZM) (H : Heap) : Prop := 3 ≤ znx M ∧ (znx M < 3 + (zshL.length : Int) → H.size = B.2.2.2 + (znx M - 3).toNat) ∧ va_P D vwCl (zW B aD M) H ∧ zokM M
def zOv (U : State) : Prop := va_AO RX0 U ∧ (Cond.arrayOver (.array .long)).before #[] U = true
theorem zOvA {u U : State} (hvm : u.vm.Alike U.vm) (h : (Cond.arrayOver (.array .long)).before #[] u = true) : (Cond.arrayOver (.array .long)).before #[] U = true := by
  exact over_moved (a := #[]) (a' := #[]) hvm h
theorem zOv.moved {u U : State} (hvm : u.vm.Alike U.vm) (h : zOv u) : zOv U := ⟨h.1.moved hvm, zOvA hvm h.2⟩
def zU (B : zBs) (D : va_G) (aD : Nat → ClassId) (L : Nat) (xs : Nat → Int32) (U : State) : Prop := va_K D vwCl (zty aD) U ∧ va_X B.1 L xs U U.heap ∧ L ≤ 4000 ∧ B.1 < B.2.2.2 ∧ B.2.2.2 ≤ U.heap.size ∧
  va_Z "SkippingKeys" "COLUMN_AT" "[I" (.ref B.2.1) (zAq B) U U.heap ∧ va_Z "SkippingKeys" "WEIGHT" "[I" (.ref B.2.2.1) (zAq B) U U.heap ∧
  va_T .int B.2.1 18 (fun j => .int (Int32.ofInt (zcol j))) (zAq B) U U.heap ∧ va_T .int B.2.2.1 3 (fun j => .int (Int32.ofInt (zwei j))) (zAq B) U U.heap ∧ (∀ w ∈ zNs, va_Nw w U) ∧ zOv U
def zlr (B : zBs) (n : Int) (N : Nat) (ls : ZL) (LS : Array Slot) : Prop := ls.length = N ∧ LS.size = N ∧ lv_wf LS ∧ ∀ (i : Nat) (v : ZV), zget ls i = some v → LS[i]? = some (.val (zenc B v)) ∧ zokV n v
/-- numbers -/
theorem zi32_of (x : Int) (h : zi32 x) : (Int32.ofInt x).toInt = x := by
  rw [Int32.toInt_ofInt]
  obtain ⟨h1, h2⟩ := h
  show Int.bmod x 4294967296 = x
  exact Int.bmod_eq_of_le (by omega) (by omega)
theorem zi64_of (x : Int) (h : zi64 x) : (Int64.ofInt x).toInt = x := by
  rw [Int64.toInt_ofInt]
  obtain ⟨h1, h2⟩ := h
  show Int.bmod x 18446744073709551616 = x
  exact Int.bmod_eq_of_le (by omega) (by omega)
theorem zi32_r (v : Int32) : zi32 v.toInt := ⟨by have := Int32.le_toInt v; omega, by have := Int32.toInt_lt v; omega⟩
theorem zi64_r (v : Int64) : zi64 v.toInt := ⟨by have := Int64.le_toInt v; omega, by have := Int64.toInt_lt v; omega⟩
theorem zb_eq (z : Int) : zb z = (Int32.ofInt z).toInt := by
  rw [Int32.toInt_ofInt]
  rfl
theorem zb_r (z : Int) : zi32 (zb z) := by rw [zb_eq]; exact zi32_r _
theorem zb_of (z : Int) : Int32.ofInt (zb z) = Int32.ofInt z := by rw [zb_eq, Int32.ofInt_toInt]
theorem zb_id {z : Int} (h : -2147483648 ≤ z) (h2 : z < 2147483648) : zb z = z := by rw [zb_eq, zi32_of z ⟨h, h2⟩]
theorem zlt32 {x y : Int} (hx : zi32 x) (hy : zi32 y) : Int32.ofInt x < Int32.ofInt y ↔ x < y := by
  rw [Int32.lt_iff_toInt_lt, zi32_of x hx, zi32_of y hy]
theorem zle32 {x y : Int} (hx : zi32 x) (hy : zi32 y) : Int32.ofInt x ≤ Int32.ofInt y ↔ x ≤ y := by
  rw [Int32.le_iff_toInt_le, zi32_of x hx, zi32_of y hy]
theorem zeq32 {x y : Int} (hx : zi32 x) (hy : zi32 y) : Int32.ofInt x = Int32.ofInt y ↔ x = y := by
  rw [← Int32.toInt_inj, zi32_of x hx, zi32_of y hy]
theorem z032 : zi32 0 := ⟨by decide, by decide⟩
theorem z0of : Int32.ofInt 0 = 0 := rfl
theorem znc {i : Int} (h0 : 0 ≤ i) (h : zi32 i) : (Int32.ofInt i).toNatClampNeg = i.toNat := by
  show (Int32.ofInt i).toInt.toNat = i.toNat
  rw [zi32_of i h]
theorem zvp {i : Int} {n : Nat} (h0 : 0 ≤ i) (h : zi32 i) (h1 : i < (n : Int)) : vp_in (Int32.ofInt i) n := by
  unfold vp_in
  rw [← z0of, zlt32 h z032, znc h0 h]
  omega
/-- worlds -/
theorem zW_len (B : zBs) (aD : Nat → ClassId) (M : ZM) : (zW B aD M).length = (znx M - 3).toNat := by simp [zW]
theorem zW_get {B : zBs} {aD : Nat → ClassId} {M : ZM} {a : Int} (h3 : 3 ≤ a) (hn : a < znx M) : (zW B aD M)[(a - 3).toNat]? = some (zad B a, zent B aD M a) := by
  have hl : (a - 3).toNat < (znx M - 3).toNat := by omega
  have e1 : ((a - 3).toNat : Int) + 3 = a := by omega
  have e2 : B.2.2.2 + (a - 3).toNat = zad B a := by
    unfold zad
    rw [if_neg (by omega), if_neg (by omega), if_neg (by omega)]
  simp only [zW, List.getElem?_map, List.getElem?_range hl, Option.map_some, e1, e2]
theorem zW_set {B : zBs} {aD : Nat → ClassId} {M M' : ZM} {a : Int} {e : va_E} (h3 : 3 ≤ a) (hn : a < znx M) (hx : znx M' = znx M) (he : zent B aD M' a = e) (ho : ∀ a' : Int, a' ≠ a → zent B aD M' a' = zent B aD M a') : (zW B aD M).set (a - 3).toNat (zad B a, e) = zW B aD M' := by
  apply List.ext_getElem?
  intro q
  by_cases hq : q = (a - 3).toNat
  · subst hq
    rw [List.getElem?_set_self (by rw [zW_len]; omega), ← he]
    exact (zW_get h3 (by rw [hx]; exact hn)).symm
  · rw [List.getElem?_set_ne (fun h => hq h.symm)]
    by_cases hl : q < (znx M - 3).toNat
    · have g1 := zW_get (B := B) (aD := aD) (M := M) (a := (q : Int) + 3) (by omega) (by omega)
      have g2 := zW_get (B := B) (aD := aD) (M := M') (a := (q : Int) + 3) (by omega) (by rw [hx]; omega)
      rw [show ((q : Int) + 3 - 3).toNat = q by omega] at g1 g2
      rw [g1, g2, ho _ (by omega)]
    · rw [List.getElem?_eq_none (by rw [zW_len]; omega), List.getElem?_eq_none (by rw [zW_len, hx]; omega)]
theorem zW_D {B : zBs} {aD : Nat → ClassId} {M : ZM} : va_D (zAq B) (zW B aD M) := by
  have key : ∀ (i : Nat) (p : Nat × va_E), (zW B aD M)[i]? = some p → p.1 = B.2.2.2 + i := by
    intro i p h
    unfold zW at h
    rw [List.getElem?_map] at h
    cases hr : (List.range (znx M - 3).toNat)[i]? with
    | none => rw [hr] at h; cases h
    | some q =>
      rw [hr] at h
      have hq : i < (List.range (znx M - 3).toNat).length := (List.getElem?_eq_some_iff.mp hr).1
      rw [List.getElem?_range (by simpa using hq)] at hr
      cases hr
      cases h
      rfl
  refine ⟨fun i j p q hp hq h => ?_, fun k q hq => ?_⟩
  · have h1 := key i p hp
    have h2 := key j q hq
    omega
  · show B.2.2.2 ≤ q.1
    rw [key k q hq]
    omega
end
section
/-! ===== one step of the small machine is one of the large one: what changes no cell ===== -/
def zCtx (B : zBs) (D : va_G) (aD : Nat → ClassId) (L : Nat) (xs : Nat → Int32) (k : Nat) (p : Program) (s : State) (m : MethodId) (args : Array Value) (meth : Method) (c : Code) : Prop :=
  p.tables.exec = Jvm.exec ∧ c.code = zcode k ∧ c.maxLocals = zmaxL k ∧ s.vm.findClass (zcn (zcl k)) = some m.cls ∧ (∀ w ∈ zTs, w.before args s = true) ∧ (zkind k = 2 → meth.name = "<init>") ∧ zU B D aD L xs s
def zSt (B : zBs) (D : va_G) (aD : Nat → ClassId) (L : Nat) (xs : Nat → Int32) (k : Nat) (s : State) (H : Heap) (locs : List Loc) (ls : ZL) (LS : Array Slot) (st : ZS) (M : ZM) : Prop :=
  zH B D aD M H ∧ zS L xs M ∧ va_S (zAq B) s.heap H locs ∧ zlr B (znx M) (zmaxL k) ls LS ∧ ∀ v ∈ st, zokV (znx M) v
theorem zSt.to {B : zBs} {D : va_G} {aD : Nat → ClassId} {L : Nat} {xs : Nat → Int32} {k : Nat} {s : State} {H : Heap} {locs : List Loc} {ls : ZL} {LS : Array Slot} {st st' : ZS} {M : ZM} (S : zSt B D aD L xs k s H locs ls LS st M) (h : ∀ v ∈ st', zokV (znx M) v) : zSt B D aD L xs k s H locs ls LS st' M :=
  ⟨S.1, S.2.1, S.2.2.1, S.2.2.2.1, h⟩
theorem zget_some {ls : ZL} {i : Nat} {v : ZV} (h : zget ls i = some v) : ls[i]? = some (some v) := by
  unfold zget at h
  split at h
  · next w e => cases h; exact e
  · cases h
theorem zget_lt {ls : ZL} {i : Nat} {v : ZV} (h : zget ls i = some v) : i < ls.length := (List.getElem?_eq_some_iff.mp (zget_some h)).1
def zll (B : zBs) (ls : ZL) : List (Nat × Value) := (List.range ls.length).filterMap (fun i => (zget ls i).map (fun v => (i, zenc B v)))
theorem zll_mem {B : zBs} {ls : ZL} {q : Nat × Value} : q ∈ zll B ls ↔ ∃ v, zget ls q.1 = some v ∧ q.2 = zenc B v := by
  unfold zll
  rw [List.mem_filterMap]
  constructor
  · rintro ⟨i, -, h⟩
    cases hz : zget ls i with
    | none => rw [hz] at h; cases h
    | some v => rw [hz] at h; cases h; exact ⟨v, hz, rfl⟩
  · rintro ⟨v, h1, h2⟩
    refine ⟨q.1, List.mem_range.mpr (zget_lt h1), ?_⟩
    rw [h1]
    show some (q.1, zenc B v) = some q
    rw [← h2]
theorem zlr.has {B : zBs} {n : Int} {N : Nat} {ls : ZL} {LS : Array Slot} (h : zlr B n N ls LS) : lv_has LS N (zll B ls) := by
  refine ⟨h.2.1, h.2.2.1, fun q hq => ?_⟩
  obtain ⟨v, h1, h2⟩ := zll_mem.mp hq
  rw [h2]
  exact (h.2.2.2 q.1 v h1).1
theorem zget_set {ls : ZL} {i j : Nat} {x : Option ZV} {v : ZV} (h : zget (ls.set i x) j = some v) : (j = i ∧ x = some v) ∨ (j ≠ i ∧ zget ls j = some v) := by
  have h1 := zget_some h
  by_cases e : j = i
  · subst e
    have hl : j < (ls.set j x).length := zget_lt h
    rw [List.getElem?_set_self (by simpa using hl)] at h1
    exact Or.inl ⟨rfl, Option.some.inj h1⟩
  · rw [List.getElem?_set_ne (fun q => e q.symm)] at h1
    refine Or.inr ⟨e, ?_⟩
    unfold zget
    rw [h1]
theorem zget_clr {ls : ZL} {i j : Nat} {v : ZV} (h : zget (zclr ls i) j = some v) : zget ls j = some v ∧ ¬ (j + 1 = i ∧ z2 v = true) := by
  unfold zclr at h
  split at h
  · exact ⟨h, fun q => by omega⟩
  · next i2 =>
    split at h
    · next x e =>
      rcases zget_set h with ⟨h1, h2⟩ | ⟨h1, h2⟩
      · cases h2
      · exact ⟨h2, fun q => h1 (by omega)⟩
    · next hn =>
      refine ⟨h, fun q => ?_⟩
      have ej : j = i2 := by omega
      subst ej
      obtain ⟨-, q2⟩ := q
      match v, h, q2 with
      | .inr (.inl x), h, _ => exact hn x h
      | .inl x, _, q2 => cases q2
      | .inr (.inr x), _, q2 => cases q2
theorem zclr_len (ls : ZL) (i : Nat) : (zclr ls i).length = ls.length := by
  unfold zclr
  split
  · rfl
  · split
    · simp
    · rfl
theorem zput_len (ls : ZL) (i : Nat) (v : ZV) : (zput ls i v).length = ls.length := by
  unfold zput
  split <;> simp [zclr_len]
theorem z2_cat {B : zBs} (v : ZV) : (zenc B v).category = 2 ↔ z2 v = true := by
  match v with
  | .inl x => simp [zenc, Value.category, z2]
  | .inr (.inl x) => simp [zenc, Value.category, z2]
  | .inr (.inr x) =>
    simp only [zenc, zrv, z2]
    split <;> simp [Value.category]
/-- storing a value of one slot -/
theorem zlr.put1 {B : zBs} {n : Int} {N : Nat} {ls : ZL} {LS LS' : Array Slot} {i : Nat} {v : ZV} (h : zlr B n N ls LS) (hv : zokV n v) (h2 : z2 v = false)
    (g : lv_has LS' N ((i, zenc B v) :: (zll B ls).filter (fun q => !(q.1 == i) && !(q.1 + 1 == i && q.2.category == 2)))) : zlr B n N (zput ls i v) LS' := by
  have e : zput ls i v = (zclr ls i).set i (some v) := by
    match v, h2 with
    | .inl x, _ => rfl
    | .inr (.inr x), _ => rfl
  refine ⟨(zput_len ls i v).trans h.1, g.1, g.2.1, fun j w hw => ?_⟩
  rw [e] at hw
  rcases zget_set hw with ⟨h3, h4⟩ | ⟨h3, h4⟩
  · cases h4
    subst h3
    exact ⟨g.2.2 (j, zenc B v) List.mem_cons_self, hv⟩
  · obtain ⟨h5, h6⟩ := zget_clr h4
    refine ⟨g.2.2 (j, zenc B w) (List.mem_cons_of_mem _ (List.mem_filter.mpr ⟨zll_mem.mpr ⟨w, h5, rfl⟩, ?_⟩)), (h.2.2.2 j w h5).2⟩
    simp only [Bool.and_eq_true, Bool.not_eq_true', beq_eq_false_iff_ne, ne_eq, Bool.and_eq_false_iff]
    refine ⟨h3, ?_⟩
    by_cases q : j + 1 = i
    · right
      intro q2
      exact h6 ⟨q, z2_cat w |>.mp q2⟩
    · exact Or.inl q
theorem zlr.put2 {B : zBs} {n : Int} {N : Nat} {ls : ZL} {LS LS' : Array Slot} {i : Nat} {x : Int} (h : zlr B n N ls LS) (hv : zi64 x)
    (g : lv_has LS' N ((i, Value.long (Int64.ofInt x)) :: (zll B ls).filter (fun q => !(q.1 == i) && (!(q.1 == i + 1) && !(q.1 + 1 == i && q.2.category == 2))))) : zlr B n N (zput ls i (zJ x)) LS' := by
  have e : zput ls i (zJ x) = ((zclr ls i).set i (some (zJ x))).set (i + 1) none := rfl
  refine ⟨(zput_len ls i _).trans h.1, g.1, g.2.1, fun j w hw => ?_⟩
  rw [e] at hw
  rcases zget_set hw with ⟨-, h4⟩ | ⟨h0, hw⟩
  · cases h4
  rcases zget_set hw with ⟨h3, h4⟩ | ⟨h3, h4⟩
  · cases h4
    subst h3
    exact ⟨g.2.2 (j, zenc B (zJ x)) List.mem_cons_self, hv⟩
  · obtain ⟨h5, h6⟩ := zget_clr h4
    refine ⟨g.2.2 (j, zenc B w) (List.mem_cons_of_mem _ (List.mem_filter.mpr ⟨zll_mem.mpr ⟨w, h5, rfl⟩, ?_⟩)), (h.2.2.2 j w h5).2⟩
    simp only [Bool.and_eq_true, Bool.not_eq_true', beq_eq_false_iff_ne, ne_eq, Bool.and_eq_false_iff]
    refine ⟨h3, h0, ?_⟩
    by_cases q : j + 1 = i
    · right
      intro q2
      exact h6 ⟨q, z2_cat w |>.mp q2⟩
    · exact Or.inl q
theorem zsome {α β γ δ : Type} {a a' : α} {b b' : β} {c c' : γ} {d d' : δ} (h : some (a, b, c, d) = some (a', b', c', d')) : a = a' ∧ b = b' ∧ c = c' ∧ d = d' := by
  cases h
  exact ⟨rfl, rfl, rfl, rfl⟩
section ZSTEP
variable {p : Program} {l : Launch} {e : Env} {R : Room} {s : State} {m : MethodId} {args : Array Value} {below : List Frame} {meth : Method} {c : Code} {H : Heap} {locs : List Loc} {cells slots : Nat} {Q : State → Prop}
variable {B : zBs} {D : va_G} {aD : Nat → ClassId} {L : Nat} {xs : Nat → Int32} {k : Nat} {pc pc' : Nat} {ls ls' : ZL} {st st' : ZS} {M M' : ZM} {LS : Array Slot}
theorem zs_kon (S : zSt B D aD L xs k s H locs ls LS st M) {v : ZV} {n : Nat} (hv : zokV (znx M) v) (h : some (pc + n, ls, v :: st, M) = some (pc', ls', st', M'))
    (row : W p l e R s m args below meth c H locs cells slots Q (F0 m (pc + n) LS (zenc B v :: st.map (zenc B))) → W p l e R s m args below meth c H locs cells slots Q (F0 m pc LS (st.map (zenc B))))
    (kk : ∀ LS', zSt B D aD L xs k s H locs ls' LS' st' M' → M' = M → W p l e R s m args below meth c H locs cells slots Q (F0 m pc' LS' (st'.map (zenc B)))) : W p l e R s m args below meth c H locs cells slots Q (F0 m pc LS (st.map (zenc B))) := by
  obtain ⟨rfl, rfl, rfl, rfl⟩ := zsome h
  exact row (kk LS (S.to fun w hw => (List.mem_cons.mp hw).elim (fun e => e ▸ hv) (S.2.2.2.2 w)) rfl)
theorem zs_bin (S : zSt B D aD L xs k s H locs ls LS st M) {f : Int → Int → Int} {g : Int32 → Int32 → Int32} (hfg : ∀ x y : Int, zi32 x → zi32 y → Int32.ofInt (f x y) = g (Int32.ofInt x) (Int32.ofInt y) ∧ zi32 (f x y)) (h : zbin f (pc + 1) ls st M = some (pc', ls', st', M'))
    (row : ∀ (x y : Int32) (rest : List Value), W p l e R s m args below meth c H locs cells slots Q (F0 m (pc + 1) LS (.int (g x y) :: rest)) → W p l e R s m args below meth c H locs cells slots Q (F0 m pc LS (.int y :: .int x :: rest)))
    (kk : ∀ LS', zSt B D aD L xs k s H locs ls' LS' st' M' → M' = M → W p l e R s m args below meth c H locs cells slots Q (F0 m pc' LS' (st'.map (zenc B)))) : W p l e R s m args below meth c H locs cells slots Q (F0 m pc LS (st.map (zenc B))) := by
  unfold zbin at h
  split at h
  · next y x r =>
    obtain ⟨rfl, rfl, rfl, rfl⟩ := zsome h
    have hx : zi32 x := S.2.2.2.2 (.inl x) (List.mem_cons_of_mem _ List.mem_cons_self)
    have hy : zi32 y := S.2.2.2.2 (.inl y) List.mem_cons_self
    obtain ⟨e1, e2⟩ := hfg x y hx hy
    refine row (Int32.ofInt x) (Int32.ofInt y) (r.map (zenc B)) ?_
    rw [← e1]
    exact kk LS (S.to fun w hw => (List.mem_cons.mp hw).elim (fun e => e ▸ e2) (fun h => S.2.2.2.2 w (List.mem_cons_of_mem _ (List.mem_cons_of_mem _ h)))) rfl
  · cases h
theorem zs_un (S : zSt B D aD L xs k s H locs ls LS st M) {v w : ZV} {r : ZS} (hst : st = v :: r) (hw : zokV (znx M) v → zokV (znx M) w) {n : Nat} (h : some (pc + n, ls, w :: r, M) = some (pc', ls', st', M'))
    (row : zokV (znx M) v → W p l e R s m args below meth c H locs cells slots Q (F0 m (pc + n) LS (zenc B w :: r.map (zenc B))) → W p l e R s m args below meth c H locs cells slots Q (F0 m pc LS (zenc B v :: r.map (zenc B))))
    (kk : ∀ LS', zSt B D aD L xs k s H locs ls' LS' st' M' → M' = M → W p l e R s m args below meth c H locs cells slots Q (F0 m pc' LS' (st'.map (zenc B)))) : W p l e R s m args below meth c H locs cells slots Q (F0 m pc LS (st.map (zenc B))) := by
  subst hst
  obtain ⟨rfl, rfl, rfl, rfl⟩ := zsome h
  have hv : zokV (znx M) v := S.2.2.2.2 v List.mem_cons_self
  exact row hv (kk LS (S.to fun u hu => (List.mem_cons.mp hu).elim (fun e => e ▸ hw hv) (fun h => S.2.2.2.2 u (List.mem_cons_of_mem _ h))) rfl)
theorem zs_bi (S : zSt B D aD L xs k s H locs ls LS st M) {v1 v2 w : ZV} {r : ZS} (hst : st = v1 :: v2 :: r) (hw : zokV (znx M) v1 → zokV (znx M) v2 → zokV (znx M) w) {n : Nat} (h : some (pc + n, ls, w :: r, M) = some (pc', ls', st', M'))
    (row : zokV (znx M) v1 → zokV (znx M) v2 → W p l e R s m args below meth c H locs cells slots Q (F0 m (pc + n) LS (zenc B w :: r.map (zenc B))) → W p l e R s m args below meth c H locs cells slots Q (F0 m pc LS (zenc B v1 :: zenc B v2 :: r.map (zenc B))))
    (kk : ∀ LS', zSt B D aD L xs k s H locs ls' LS' st' M' → M' = M → W p l e R s m args below meth c H locs cells slots Q (F0 m pc' LS' (st'.map (zenc B)))) : W p l e R s m args below meth c H locs cells slots Q (F0 m pc LS (st.map (zenc B))) := by
  subst hst
  obtain ⟨rfl, rfl, rfl, rfl⟩ := zsome h
  have hv1 : zokV (znx M) v1 := S.2.2.2.2 v1 List.mem_cons_self
  have hv2 : zokV (znx M) v2 := S.2.2.2.2 v2 (List.mem_cons_of_mem _ List.mem_cons_self)
  exact row hv1 hv2 (kk LS (S.to fun u hu => (List.mem_cons.mp hu).elim (fun e => e ▸ hw hv1 hv2) (fun h => S.2.2.2.2 u (List.mem_cons_of_mem _ (List.mem_cons_of_mem _ h)))) rfl)
theorem zjump_at {off : Int} (h : zjump pc off ls st M = some (pc', ls', st', M')) : (pc : Int) + off = (pc' : Int) ∧ ls' = ls ∧ st' = st ∧ M' = M := by
  unfold zjump at h
  split at h
  · next h0 =>
    obtain ⟨rfl, rfl, rfl, rfl⟩ := zsome h
    exact ⟨(Int.toNat_of_nonneg h0).symm, rfl, rfl, rfl⟩
  · cases h
theorem zbr_at {b : Bool} {off : Int} (h : zbr b pc off ls st M = some (pc', ls', st', M')) : ∃ tgt : Nat, (pc : Int) + off = (tgt : Int) ∧ pc' = (if b = true then tgt else pc + 3) ∧ ls' = ls ∧ st' = st ∧ M' = M := by
  unfold zbr at h
  split at h
  · next h0 =>
    refine ⟨((pc : Int) + off).toNat, (Int.toNat_of_nonneg h0).symm, ?_⟩
    split at h
    · next hb =>
      obtain ⟨rfl, rfl, rfl, rfl⟩ := zsome h
      exact ⟨by rw [if_pos hb], rfl, rfl, rfl⟩
    · next hb =>
      obtain ⟨rfl, rfl, rfl, rfl⟩ := zsome h
      exact ⟨by rw [if_neg hb], rfl, rfl, rfl⟩
  · cases h
theorem zs_if2 (S : zSt B D aD L xs k s H locs ls LS st M) (hx : p.tables.exec = Jvm.exec) (hb : c.code = zcode k) {cm : ClassFile.Cond} {off : Int} (hd : decode (zcode k) pc = .ok (.if_icmp cm off, 3)) {x y : Int} {r : ZS} (hst : st = .inl y :: .inl x :: r)
    (h : zbr (zcmp cm x y) pc off ls r M = some (pc', ls', st', M'))
    (kk : ∀ LS', zSt B D aD L xs k s H locs ls' LS' st' M' → M' = M → W p l e R s m args below meth c H locs cells slots Q (F0 m pc' LS' (st'.map (zenc B)))) : W p l e R s m args below meth c H locs cells slots Q (F0 m pc LS (st.map (zenc B))) := by
  subst hst
  have hx2 : zi32 x := S.2.2.2.2 (.inl x) (List.mem_cons_of_mem _ List.mem_cons_self)
  have hy : zi32 y := S.2.2.2.2 (.inl y) List.mem_cons_self
  obtain ⟨tgt, ht, rfl, rfl, rfl, rfl⟩ := zbr_at h
  have w := kk LS (S.to fun u hu => S.2.2.2.2 u (List.mem_cons_of_mem _ (List.mem_cons_of_mem _ hu))) rfl
  show W p l e R s m args below meth c H locs cells slots Q (F0 m pc LS (.int (Int32.ofInt y) :: .int (Int32.ofInt x) :: st'.map (zenc B)))
  cases cm <;> simp only [zcmp, decide_eq_true_eq, Bool.not_eq_true', decide_eq_false_iff_not] at w
  · refine lv_icmp_eq hx hb hd ht (fun z => ?_) (fun z => ?_)
    · rw [if_pos ((zeq32 hx2 hy).mp z)] at w; exact w
    · rw [if_neg (fun u => z ((zeq32 hx2 hy).mpr u))] at w; exact w
  · refine lv_icmp_ne hx hb hd ht (fun z => ?_) (fun z => ?_)
    · rw [if_pos ((not_congr (zeq32 hx2 hy)).mp z)] at w; exact w
    · rw [if_neg (fun u => u ((zeq32 hx2 hy).mp z))] at w; exact w
  · refine lv_icmp_lt hx hb hd ht (fun z => ?_) (fun z => ?_)
    · rw [if_pos ((zlt32 hx2 hy).mp z)] at w; exact w
    · rw [if_neg (fun u => z ((zlt32 hx2 hy).mpr u))] at w; exact w
  · refine lv_icmp_ge hx hb hd ht (fun z => ?_) (fun z => ?_)
    · rw [if_pos (((zle32 hy hx2).trans (Int.not_lt).symm).mp z)] at w; exact w
    · rw [if_neg (fun u => z (((zle32 hy hx2).trans (Int.not_lt).symm).mpr u))] at w; exact w
  · refine lv_icmp_gt hx hb hd ht (fun z => ?_) (fun z => ?_)
    · rw [if_pos ((zlt32 hy hx2).mp z)] at w; exact w
    · rw [if_neg (fun u => z ((zlt32 hy hx2).mpr u))] at w; exact w
  · refine lv_icmp_le hx hb hd ht (fun z => ?_) (fun z => ?_)
    · rw [if_pos ((zle32 hx2 hy).mp z)] at w; exact w
    · rw [if_neg (fun u => z ((zle32 hx2 hy).mpr u))] at w; exact w
theorem zs_if1 (S : zSt B D aD L xs k s H locs ls LS st M) (hx : p.tables.exec = Jvm.exec) (hb : c.code = zcode k) {cm : ClassFile.Cond} {off : Int} (hd : decode (zcode k) pc = .ok (.ifCond cm off, 3)) {x : Int} {r : ZS} (hst : st = .inl x :: r)
    (h : zbr (zcmp cm x 0) pc off ls r M = some (pc', ls', st', M'))
    (kk : ∀ LS', zSt B D aD L xs k s H locs ls' LS' st' M' → M' = M → W p l e R s m args below meth c H locs cells slots Q (F0 m pc' LS' (st'.map (zenc B)))) : W p l e R s m args below meth c H locs cells slots Q (F0 m pc LS (st.map (zenc B))) := by
  subst hst
  have hx2 : zi32 x := S.2.2.2.2 (.inl x) List.mem_cons_self
  obtain ⟨tgt, ht, rfl, rfl, rfl, rfl⟩ := zbr_at h
  have w := kk LS (S.to fun u hu => S.2.2.2.2 u (List.mem_cons_of_mem _ hu)) rfl
  show W p l e R s m args below meth c H locs cells slots Q (F0 m pc LS (.int (Int32.ofInt x) :: st'.map (zenc B)))
  cases cm <;> simp only [zcmp, decide_eq_true_eq, Bool.not_eq_true', decide_eq_false_iff_not] at w
  · refine lv_if_eq hx hb hd ht (fun z => ?_) (fun z => ?_)
    · rw [if_pos ((zeq32 hx2 z032).mp z)] at w; exact w
    · rw [if_neg (fun u => z ((zeq32 hx2 z032).mpr u))] at w; exact w
  · refine lv_if_ne hx hb hd ht (fun z => ?_) (fun z => ?_)
    · rw [if_pos ((not_congr (zeq32 hx2 z032)).mp z)] at w; exact w
    · rw [if_neg (fun u => u ((zeq32 hx2 z032).mp z))] at w; exact w
  · refine lv_if_lt hx hb hd ht (fun z => ?_) (fun z => ?_)
    · rw [if_pos ((zlt32 hx2 z032).mp z)] at w; exact w
    · rw [if_neg (fun u => z ((zlt32 hx2 z032).mpr u))] at w; exact w
  · refine lv_if_ge hx hb hd ht (fun z => ?_) (fun z => ?_)
    · rw [if_pos (((zle32 z032 hx2).trans (Int.not_lt).symm).mp z)] at w; exact w
    · rw [if_neg (fun u => z (((zle32 z032 hx2).trans (Int.not_lt).symm).mpr u))] at w; exact w
  · refine lv_if_gt hx hb hd ht (fun z => ?_) (fun z => ?_)
    · rw [if_pos ((zlt32 z032 hx2).mp z)] at w; exact w
    · rw [if_neg (fun u => z ((zlt32 z032 hx2).mpr u))] at w; exact w
  · refine lv_if_le hx hb hd ht (fun z => ?_) (fun z => ?_)
    · rw [if_pos ((zle32 hx2 z032).mp z)] at w; exact w
    · rw [if_neg (fun u => z ((zle32 hx2 z032).mpr u))] at w; exact w
end ZSTEP
end
section
/-! ===== one step: loads, stores, fields, arrays ===== -/
theorem zshL_kinds : zshL.all (fun q => (Nat.ble q.1 5 || (Nat.ble 10 q.1 && Nat.ble q.1 19)) && decide (0 ≤ q.2 ∧ q.2 ≤ 100000)) = true := by decide +kernel
theorem zshL_not (i : Nat) {t : Nat} (ht : t = 20 ∨ t = 21) : ((zshL[i]?).getD (99, 0)).1 ≠ t := by
  cases e : zshL[i]? with
  | none =>
    intro h
    rcases ht with rfl | rfl <;> cases h
  | some q =>
    have h := List.all_eq_true.mp zshL_kinds q (List.mem_of_getElem? e)
    simp only [Bool.and_eq_true, Bool.or_eq_true, decide_eq_true_eq] at h
    intro h2
    have h3 : q.1 = t := h2
    rcases h.1 with h4 | ⟨h4, h5⟩
    · have := Nat.le_of_ble_eq_true h4
      omega
    · have := Nat.le_of_ble_eq_true h5
      omega
theorem zsh_low {a : Int} (h : (zsh a).1 ≠ 20) (h1 : (zsh a).1 ≠ 21) (h2 : (zsh a).1 ≠ 99) : 3 ≤ a := by
  by_cases q : a < 3
  · exfalso
    unfold zsh at h h1 h2
    rw [if_pos q] at h h1 h2
    by_cases a0 : a = 0
    · rw [if_pos a0] at h1; exact h1 rfl
    · rw [if_neg a0] at h h2
      by_cases a1 : a = 1
      · rw [if_pos a1] at h; exact h rfl
      · rw [if_neg a1] at h h2
        by_cases a2 : a = 2
        · rw [if_pos a2] at h; exact h rfl
        · rw [if_neg a2] at h2; exact h2 rfl
  · omega
theorem zsh_20 {a : Int} (h : (zsh a).1 = 20) : a = 1 ∨ a = 2 := by
  by_cases q : a < 3
  · unfold zsh at h
    rw [if_pos q] at h
    by_cases a0 : a = 0
    · rw [if_pos a0] at h; cases h
    · by_cases a1 : a = 1
      · exact Or.inl a1
      · by_cases a2 : a = 2
        · exact Or.inr a2
        · rw [if_neg a0, if_neg a1, if_neg a2] at h; cases h
  · exfalso
    unfold zsh at h
    rw [if_neg q] at h
    exact absurd h (zshL_not _ (by decide))
theorem zsh_21 {a : Int} (h : (zsh a).1 = 21) : a = 0 := by
  by_cases q : a < 3
  · unfold zsh at h
    rw [if_pos q] at h
    by_cases a0 : a = 0
    · exact a0
    · rw [if_neg a0] at h
      by_cases a1 : a = 1
      · rw [if_pos a1] at h; cases h
      · rw [if_neg a1] at h
        by_cases a2 : a = 2
        · rw [if_pos a2] at h; cases h
        · rw [if_neg a2] at h; cases h
  · exfalso
    unfold zsh at h
    rw [if_neg q] at h
    exact absurd h (zshL_not _ (by decide))
theorem zent_congr {B : zBs} {aD : Nat → ClassId} {M M' : ZM} {a : Int} (h : ∀ j, M' a j = M a j) : zent B aD M' a = zent B aD M a := by
  unfold zent
  simp only [h]
theorem zset_ne {M : ZM} {a a' j v : Int} (h : a' ≠ a) (x : Int) : zset M a j v a' x = M a' x := by
  unfold zset
  rw [if_neg (fun q => h q.1)]
theorem zset_nj {M : ZM} {a j v : Int} {x : Int} (h : x ≠ j) : zset M a j v a x = M a x := by
  unfold zset
  rw [if_neg (fun q => h q.2)]
theorem zset_eq (M : ZM) (a j v : Int) : zset M a j v a j = v := by
  unfold zset
  rw [if_pos ⟨rfl, rfl⟩]
theorem znx_set {M : ZM} {a j v : Int} (h : 3 ≤ a) : znx (zset M a j v) = znx M := zset_ne (by omega) 0
theorem zokM.set {M : ZM} {a j v : Int} (h : zokM M) (h3 : 3 ≤ a) (hv : zin (znx M) (zpk a j) v) : zokM (zset M a j v) := by
  intro a' h1 h2 j' h4 h5
  rw [znx_set h3] at h2 ⊢
  by_cases q : a' = a ∧ j' = j
  · obtain ⟨rfl, rfl⟩ := q
    rw [zset_eq]
    exact hv
  · have e : zset M a j v a' j' = M a' j' := by unfold zset; rw [if_neg q]
    rw [e]
    exact h a' h1 h2 j' h4 h5
theorem zS.set {L : Nat} {xs : Nat → Int32} {M : ZM} {a j v : Int} (h : zS L xs M) (h3 : 3 ≤ a) : zS L xs (zset M a j v) := by
  obtain ⟨h1, h2, h4, h5⟩ := h
  exact ⟨by rw [zset_ne (by omega)]; exact h1, fun j hj => by rw [zset_ne (by omega)]; exact h2 j hj, fun j hj => by rw [zset_ne (by omega)]; exact h4 j hj, fun j hj => by rw [zset_ne (by omega)]; exact h5 j hj⟩
theorem zP_set {B : zBs} {D : va_G} {aD : Nat → ClassId} {M M' : ZM} {a : Int} {H H1 : Heap} (hP : va_P D vwCl (zW B aD M) H) (h3 : 3 ≤ a) (hn : a < znx M) (hx : znx M' = znx M) (ho : ∀ a' : Int, a' ≠ a → ∀ j, M' a' j = M a' j) (he : va_at D vwCl (zad B a, zent B aD M' a) H1) (oq : ∀ q : Nat, q ≠ zad B a → H1[q]? = H[q]?) : va_P D vwCl (zW B aD M') H1 := by
  have h := hP.set zW_D (zW_get h3 hn) he oq
  rw [zW_set h3 hn hx rfl (fun a' h => zent_congr (ho a' h))] at h
  exact h
theorem zad_base {B : zBs} {a : Int} (h : 3 ≤ a) : B.2.2.2 ≤ zad B a := by
  unfold zad
  rw [if_neg (by omega), if_neg (by omega), if_neg (by omega)]
  omega
/-- a place of an own cell written: the new state -/
theorem zSt.set {B : zBs} {D : va_G} {aD : Nat → ClassId} {L : Nat} {xs : Nat → Int32} {k : Nat} {s : State} {H H1 : Heap} {locs locs1 : List Loc} {ls : ZL} {LS : Array Slot} {st st' : ZS} {M : ZM} {a j v : Int} (S : zSt B D aD L xs k s H locs ls LS st M) (h3 : 3 ≤ a) (hn : a < znx M) (hv : zin (znx M) (zpk a j) v) (hst : ∀ w ∈ st', w ∈ st)
    (he : va_at D vwCl (zad B a, zent B aD (zset M a j v) a) H1) (z : H1.size = H.size) (oq : ∀ q : Nat, q ≠ zad B a → H1[q]? = H[q]?) (hl : ∀ q ∈ locs1, q ∈ locs ∨ q.base = zad B a) : zSt B D aD L xs k s H1 locs1 ls LS st' (zset M a j v) := by
  obtain ⟨⟨g1, g2, g3, g4⟩, g5, g6, g7, g8⟩ := S
  refine ⟨⟨by rw [znx_set h3]; exact g1, by rw [z, znx_set h3]; exact g2, zP_set g3 h3 hn (znx_set h3) (fun a' h j' => zset_ne h j') he oq, g4.set h3 hv⟩, g5.set h3, ⟨by rw [z]; exact g6.1, fun q h1 h2 => ?_, fun q hq => ?_⟩, ?_, fun w hw => ?_⟩
  · rw [oq q (fun e => h2 (by rw [e]; exact zad_base h3))]
    exact g6.2.1 q h1 h2
  · rcases hl q hq with h | h
    · exact g6.2.2 q h
    · show B.2.2.2 ≤ q.base
      rw [h]
      exact zad_base h3
  · rw [znx_set h3]; exact g7
  · rw [znx_set h3]; exact g8 w (hst w hw)
theorem zrv_ref {B : zBs} {a : Int} (h : 0 ≤ a) : zrv B a = .ref (zad B a) := by
  unfold zrv
  rw [if_neg (by omega)]
theorem zcol_r (j : Nat) : zi32 (zcol j) := by
  unfold zcol
  split <;> exact ⟨by decide, by decide⟩
theorem zwei_r (j : Nat) : zi32 (zwei j) := by
  unfold zwei
  split <;> exact ⟨by decide, by decide⟩
theorem zsh_sz {a : Int} (h3 : 3 ≤ a) : (zsh a).1 = 99 ∨ (((zsh a).1 ≤ 5 ∨ (10 ≤ (zsh a).1 ∧ (zsh a).1 ≤ 19)) ∧ 0 ≤ (zsh a).2 ∧ (zsh a).2 ≤ 100000) := by
  unfold zsh
  rw [if_neg (by omega)]
  cases e : zshL[(a - 3).toNat]? with
  | none => exact Or.inl rfl
  | some q =>
    right
    have h := List.all_eq_true.mp zshL_kinds q (List.mem_of_getElem? e)
    simp only [Bool.and_eq_true, Bool.or_eq_true, decide_eq_true_eq] at h
    refine ⟨?_, h.2⟩
    rcases h.1 with h4 | ⟨h4, h5⟩
    · exact Or.inl (Nat.le_of_ble_eq_true h4)
    · exact Or.inr ⟨Nat.le_of_ble_eq_true h4, Nat.le_of_ble_eq_true h5⟩
theorem zsh_lt {a : Int} (h3 : 3 ≤ a) (h : (zsh a).1 ≠ 99) : a < 3 + (zshL.length : Int) := by
  unfold zsh at h
  rw [if_neg (by omega)] at h
  cases e : zshL[(a - 3).toNat]? with
  | none => rw [e] at h; exact absurd rfl h
  | some q =>
    have := (List.getElem?_eq_some_iff.mp e).1
    omega
section ZARR
variable {p : Program} {l : Launch} {e : Env} {R : Room} {s : State} {m : MethodId} {args : Array Value} {below : List Frame} {meth : Method} {c : Code} {H : Heap} {locs : List Loc} {cells slots : Nat} {Q : State → Prop}
variable {B : zBs} {D : va_G} {aD : Nat → ClassId} {L : Nat} {xs : Nat → Int32} {k : Nat} {pc pc' : Nat} {ls ls' : ZL} {st st' : ZS} {M M' : ZM} {LS : Array Slot}
theorem zs_iald (S : zSt B D aD L xs k s H locs ls LS st M) (C : zCtx B D aD L xs k p s m args meth c) (hd : decode (zcode k) pc = .ok (.iaload, 1)) (h : zaldI (pc + 1) ls st M = some (pc', ls', st', M'))
    (kk : ∀ LS', zSt B D aD L xs k s H locs ls' LS' st' M' → M' = M → W p l e R s m args below meth c H locs cells slots Q (F0 m pc' LS' (st'.map (zenc B)))) : W p l e R s m args below meth c H locs cells slots Q (F0 m pc LS (st.map (zenc B))) := by
  obtain ⟨hx, hb, -, -, -, -, hK, hX, hL4, hbl, hbs, -, -, hT1, hT2, -⟩ := C
  unfold zaldI at h
  split at h
  · next i a r =>
    split at h
    · next hc =>
      obtain ⟨rfl, rfl, rfl, rfl⟩ := zsome h
      obtain ⟨hk, hi0, hi1⟩ := hc
      have hi : zi32 i := S.2.2.2.2 (.inl i) List.mem_cons_self
      have ha : -1 ≤ a ∧ a < znx M := S.2.2.2.2 (.inr (.inr a)) (List.mem_cons_of_mem _ List.mem_cons_self)
      have hi2 : ((i.toNat : Nat) : Int) = i := Int.toNat_of_nonneg hi0
      have go : zi32 (M a i) → W p l e R s m args below meth c H locs cells slots Q (F0 m (pc + 1) LS (.int (Int32.ofInt (M a i)) :: r.map (zenc B))) := fun hv =>
        kk LS (S.to fun w hw => (List.mem_cons.mp hw).elim (fun e => e ▸ hv) (fun h => S.2.2.2.2 w (List.mem_cons_of_mem _ (List.mem_cons_of_mem _ h)))) rfl
      show W p l e R s m args below meth c H locs cells slots Q (F0 m pc LS (.int (Int32.ofInt i) :: zrv B a :: r.map (zenc B)))
      rcases hk with t | t | t
      · have h3 : 3 ≤ a := zsh_low (by omega) (by omega) (by omega)
        rw [zrv_ref (by omega)]
        have hg := zW_get (B := B) (aD := aD) h3 ha.2
        have he : zent B aD M a = .inl (aD 0, ((zsh a).2).toNat, .inl (fun j => Int32.ofInt (M a j))) := by unfold zent; rw [if_pos t]
        rw [he] at hg
        have e0 : zlen M a = (zsh a).2 := by unfold zlen; rw [if_neg (by omega)]
        refine va_iald hx hb hK S.1.2.2.1 _ 0 hg rfl (zvp hi0 hi (by omega)) hd ?_
        rw [znc hi0 hi, hi2]
        refine go ?_
        have hz := S.1.2.2.2 a h3 ha.2 i hi0 (by unfold zcnt; rw [if_pos (by omega)]; omega)
        unfold zpk at hz
        rw [if_pos (by omega), t] at hz
        exact hz
      · have e0 : zlen M a = (zsh a).2 := by
          unfold zlen
          rcases zsh_20 t with rfl | rfl <;> rw [if_neg (by decide)]
        rcases zsh_20 t with rfl | rfl
        · have e1 : (zsh 1).2 = 18 := by decide
          have hv : M 1 i = zcol i.toNat := by
            have := S.2.1.2.2.1 i.toNat (by omega)
            rw [hi2] at this
            exact this
          rw [zrv_ref (by decide)]
          refine va_ti hx hb hT1 S.2.2.1 (zvp hi0 hi (by omega)) (v := .int (Int32.ofInt (M 1 i))) (by rw [znc hi0 hi, hv]) hd (go (by rw [hv]; exact zcol_r _))
        · have e1 : (zsh 2).2 = 3 := by decide
          have hv : M 2 i = zwei i.toNat := by
            have := S.2.1.2.2.2 i.toNat (by omega)
            rw [hi2] at this
            exact this
          rw [zrv_ref (by decide)]
          refine va_ti hx hb hT2 S.2.2.1 (zvp hi0 hi (by omega)) (v := .int (Int32.ofInt (M 2 i))) (by rw [znc hi0 hi, hv]) hd (go (by rw [hv]; exact zwei_r _))
      · have a0 := zsh_21 t
        subst a0
        have e0 : zlen M 0 = (L : Int) := by
          unfold zlen
          rw [if_pos rfl]
          exact S.2.1.1
        have hv : M 0 i = (xs i.toNat).toInt := by
          have := S.2.1.2.1 i.toNat (by omega)
          rw [hi2] at this
          exact this
        rw [zrv_ref (by decide)]
        refine va_sld hx hb hX (by omega) (show ¬ B.2.2.2 ≤ B.1 by omega) S.2.2.1 (zvp hi0 hi (by omega)) hd ?_
        rw [znc hi0 hi]
        have := go (by rw [hv]; exact zi32_r _)
        rw [hv, Int32.ofInt_toInt] at this
        exact this
    · cases h
  · cases h
end ZARR
end
section
/-! ===== one step: the other arrays ===== -/
theorem zcat_sum {B : zBs} : ∀ r : ZS, ((r.map (zenc B)).map fun v => v.category).sum = zcat r
  | [] => rfl
  | .inr (.inl x) :: r => by
    simp only [List.map_cons, List.sum_cons, zcat, zcat_sum r]
    rfl
  | .inl x :: r => by
    simp only [List.map_cons, List.sum_cons, zcat, zcat_sum r]
    rfl
  | .inr (.inr x) :: r => by
    simp only [List.map_cons, List.sum_cons, zcat, zcat_sum r]
    congr 1
    have : (zenc B (.inr (.inr x))).category ≠ 2 := fun q => by have := (z2_cat (B := B) (.inr (.inr x))).mp q; cases this
    rcases lv_cat (zenc B (.inr (.inr x))) with h | h
    · exact h
    · exact absurd h this
section ZARR2
variable {p : Program} {l : Launch} {e : Env} {R : Room} {s : State} {m : MethodId} {args : Array Value} {below : List Frame} {meth : Method} {c : Code} {H : Heap} {locs : List Loc} {cells slots : Nat} {Q : State → Prop}
variable {B : zBs} {D : va_G} {aD : Nat → ClassId} {L : Nat} {xs : Nat → Int32} {k : Nat} {pc pc' : Nat} {ls ls' : ZL} {st st' : ZS} {M M' : ZM} {LS : Array Slot}
theorem zlen_own {M : ZM} {a : Int} (h : 3 ≤ a) : zlen M a = (zsh a).2 := by
  unfold zlen
  rw [if_neg (by omega)]
theorem zok_at (S : zSt B D aD L xs k s H locs ls LS st M) {a i : Int} {t : Nat} (h3 : 3 ≤ a) (hn : a < znx M) (ht : (zsh a).1 = t) (ht5 : t ≤ 5) (h0 : 0 ≤ i) (h1 : i < (zsh a).2) : zin (znx M) (if t < 4 then t else 4) (M a i) := by
  have hz := S.1.2.2.2 a h3 hn i h0 (by unfold zcnt; rw [if_pos (by omega)]; exact h1)
  unfold zpk at hz
  rw [ht] at hz
  by_cases q : t < 4
  · rw [if_pos q] at hz ⊢
    exact hz
  · rw [if_neg q, if_pos (by omega)] at hz
    rw [if_neg q]
    exact hz
theorem zpk_at {a i : Int} {t : Nat} (ht : (zsh a).1 = t) (ht5 : t ≤ 5) : zpk a i = if t < 4 then t else 4 := by
  unfold zpk
  rw [ht]
  by_cases q : t < 4
  · rw [if_pos q, if_pos q]
  · rw [if_neg q, if_neg q, if_pos (by omega)]
theorem zs_bald (S : zSt B D aD L xs k s H locs ls LS st M) (C : zCtx B D aD L xs k p s m args meth c) (hd : decode (zcode k) pc = .ok (.baload, 1)) (h : zaldB (pc + 1) ls st M = some (pc', ls', st', M'))
    (kk : ∀ LS', zSt B D aD L xs k s H locs ls' LS' st' M' → M' = M → W p l e R s m args below meth c H locs cells slots Q (F0 m pc' LS' (st'.map (zenc B)))) : W p l e R s m args below meth c H locs cells slots Q (F0 m pc LS (st.map (zenc B))) := by
  obtain ⟨hx, hb, -, -, -, -, hK, -⟩ := C
  unfold zaldB at h
  split at h
  · next i a r =>
    split at h
    · next hc =>
      obtain ⟨rfl, rfl, rfl, rfl⟩ := zsome h
      obtain ⟨hk, hi0, hi1⟩ := hc
      have hi : zi32 i := S.2.2.2.2 (.inl i) List.mem_cons_self
      have ha : -1 ≤ a ∧ a < znx M := S.2.2.2.2 (.inr (.inr a)) (List.mem_cons_of_mem _ List.mem_cons_self)
      have hi2 : ((i.toNat : Nat) : Int) = i := Int.toNat_of_nonneg hi0
      have h3 : 3 ≤ a := zsh_low (by omega) (by omega) (by omega)
      rw [zlen_own h3] at hi1
      have hg := zW_get (B := B) (aD := aD) h3 ha.2
      have go : zi32 (M a i) → W p l e R s m args below meth c H locs cells slots Q (F0 m (pc + 1) LS (.int (Int32.ofInt (M a i)) :: r.map (zenc B))) := fun hv =>
        kk LS (S.to fun w hw => (List.mem_cons.mp hw).elim (fun e => e ▸ hv) (fun h => S.2.2.2.2 w (List.mem_cons_of_mem _ (List.mem_cons_of_mem _ h)))) rfl
      show W p l e R s m args below meth c H locs cells slots Q (F0 m pc LS (.int (Int32.ofInt i) :: zrv B a :: r.map (zenc B)))
      rw [zrv_ref (by omega)]
      rcases hk with t | t
      · have he : zent B aD M a = .inl (aD 2, ((zsh a).2).toNat, .inl (fun j => Int32.ofInt (M a j))) := by unfold zent; rw [if_neg (by omega), if_neg (by omega), if_pos t]
        rw [he] at hg
        refine va_bald hx hb hK S.1.2.2.1 _ 2 hg rfl (zvp hi0 hi (by omega)) hd ?_
        rw [znc hi0 hi, hi2]
        have hz : -128 ≤ M a i ∧ M a i ≤ 127 := zok_at S h3 ha.2 t (by decide) hi0 hi1
        exact go ⟨by omega, by omega⟩
      · have he : zent B aD M a = .inl (aD 3, ((zsh a).2).toNat, .inl (fun j => Int32.ofInt (M a j))) := by unfold zent; rw [if_neg (by omega), if_neg (by omega), if_neg (by omega), if_pos t]
        rw [he] at hg
        refine va_zald hx hb hK S.1.2.2.1 _ 3 hg rfl (zvp hi0 hi (by omega)) hd ?_
        rw [znc hi0 hi, hi2]
        have hz : 0 ≤ M a i ∧ M a i ≤ 1 := zok_at S h3 ha.2 t (by decide) hi0 hi1
        exact go ⟨by omega, by omega⟩
    · cases h
  · cases h
theorem zs_lald (S : zSt B D aD L xs k s H locs ls LS st M) (C : zCtx B D aD L xs k p s m args meth c) (hd : decode (zcode k) pc = .ok (.laload, 1)) (h : zaldJ (pc + 1) ls st M = some (pc', ls', st', M'))
    (kk : ∀ LS', zSt B D aD L xs k s H locs ls' LS' st' M' → M' = M → W p l e R s m args below meth c H locs cells slots Q (F0 m pc' LS' (st'.map (zenc B)))) : W p l e R s m args below meth c H locs cells slots Q (F0 m pc LS (st.map (zenc B))) := by
  obtain ⟨hx, hb, -, -, -, -, hK, -⟩ := C
  unfold zaldJ at h
  split at h
  · next i a r =>
    split at h
    · next hc =>
      obtain ⟨rfl, rfl, rfl, rfl⟩ := zsome h
      obtain ⟨t, hi0, hi1⟩ := hc
      have hi : zi32 i := S.2.2.2.2 (.inl i) List.mem_cons_self
      have ha : -1 ≤ a ∧ a < znx M := S.2.2.2.2 (.inr (.inr a)) (List.mem_cons_of_mem _ List.mem_cons_self)
      have hi2 : ((i.toNat : Nat) : Int) = i := Int.toNat_of_nonneg hi0
      have h3 : 3 ≤ a := zsh_low (by omega) (by omega) (by omega)
      rw [zlen_own h3] at hi1
      have hg := zW_get (B := B) (aD := aD) h3 ha.2
      have go : zi64 (M a i) → W p l e R s m args below meth c H locs cells slots Q (F0 m (pc + 1) LS (.long (Int64.ofInt (M a i)) :: r.map (zenc B))) := fun hv =>
        kk LS (S.to fun w hw => (List.mem_cons.mp hw).elim (fun e => e ▸ hv) (fun h => S.2.2.2.2 w (List.mem_cons_of_mem _ (List.mem_cons_of_mem _ h)))) rfl
      show W p l e R s m args below meth c H locs cells slots Q (F0 m pc LS (.int (Int32.ofInt i) :: zrv B a :: r.map (zenc B)))
      rw [zrv_ref (by omega)]
      have he : zent B aD M a = .inl (aD 1, ((zsh a).2).toNat, .inr (.inl (fun j => Int64.ofInt (M a j)))) := by unfold zent; rw [if_neg (by omega), if_pos t]
      rw [he] at hg
      refine va_lald hx hb hK S.1.2.2.1 _ 1 hg rfl (zvp hi0 hi (by omega)) hd ?_
      rw [znc hi0 hi, hi2]
      exact go (zok_at S h3 ha.2 t (by decide) hi0 hi1)
    · cases h
  · cases h
theorem zs_aald (S : zSt B D aD L xs k s H locs ls LS st M) (C : zCtx B D aD L xs k p s m args meth c) (hd : decode (zcode k) pc = .ok (.aaload, 1)) (h : zaldA (pc + 1) ls st M = some (pc', ls', st', M'))
    (kk : ∀ LS', zSt B D aD L xs k s H locs ls' LS' st' M' → M' = M → W p l e R s m args below meth c H locs cells slots Q (F0 m pc' LS' (st'.map (zenc B)))) : W p l e R s m args below meth c H locs cells slots Q (F0 m pc LS (st.map (zenc B))) := by
  obtain ⟨hx, hb, -, -, -, -, hK, -⟩ := C
  unfold zaldA at h
  split at h
  · next i a r =>
    split at h
    · next hc =>
      obtain ⟨rfl, rfl, rfl, rfl⟩ := zsome h
      obtain ⟨hk, hi0, hi1⟩ := hc
      have hi : zi32 i := S.2.2.2.2 (.inl i) List.mem_cons_self
      have ha : -1 ≤ a ∧ a < znx M := S.2.2.2.2 (.inr (.inr a)) (List.mem_cons_of_mem _ List.mem_cons_self)
      have hi2 : ((i.toNat : Nat) : Int) = i := Int.toNat_of_nonneg hi0
      have h3 : 3 ≤ a := zsh_low (by omega) (by omega) (by omega)
      rw [zlen_own h3] at hi1
      have hg := zW_get (B := B) (aD := aD) h3 ha.2
      have go : (-1 ≤ M a i ∧ M a i < znx M) → W p l e R s m args below meth c H locs cells slots Q (F0 m (pc + 1) LS (zrv B (M a i) :: r.map (zenc B))) := fun hv =>
        kk LS (S.to fun w hw => (List.mem_cons.mp hw).elim (fun e => e ▸ hv) (fun h => S.2.2.2.2 w (List.mem_cons_of_mem _ (List.mem_cons_of_mem _ h)))) rfl
      show W p l e R s m args below meth c H locs cells slots Q (F0 m pc LS (.int (Int32.ofInt i) :: zrv B a :: r.map (zenc B)))
      rw [zrv_ref (by omega)]
      rcases hk with t | t
      · have he : zent B aD M a = .inl (aD 4, ((zsh a).2).toNat, .inr (.inr (.inr (.inr (fun j => zro B (M a j)))))) := by unfold zent; rw [if_neg (by omega), if_neg (by omega), if_neg (by omega), if_neg (by omega), if_pos t]
        rw [he] at hg
        refine va_aldq hx hb hK S.1.2.2.1 _ 4 hg rfl (zvp hi0 hi (by omega)) hd ?_
        rw [znc hi0 hi, hi2, zro_rf]
        exact go (zok_at S h3 ha.2 t (by decide) hi0 hi1)
      · have he : zent B aD M a = .inl (aD 5, ((zsh a).2).toNat, .inr (.inr (.inr (.inr (fun j => zro B (M a j)))))) := by unfold zent; rw [if_neg (by omega), if_neg (by omega), if_neg (by omega), if_neg (by omega), if_neg (by omega), if_pos t]
        rw [he] at hg
        have hin := zvp hi0 hi (n := ((zsh a).2).toNat) (by omega)
        have hlt : (Int32.ofInt i).toNatClampNeg < ((zsh a).2).toNat := Nat.not_le.mp fun q => hin (Or.inr q)
        refine W.aald (v := zrv B (M a i)) (ty := .array .long) hx hb (S.1.2.2.1 _ _ hg) ((hK.2 5 _ rfl).1 ((zsh a).2).toNat (fun j => va_rf (zro B (M a j)))) rfl (fun q => by cases q) (by show ¬ (_ < 0 ∨ (arrV _ _ _).slots.size ≤ _); rw [arrV_size]; exact hin) (by show (arrV _ _ _).slots[_]? = _; rw [arrV_read _ _ hlt, znc hi0 hi]; show some (va_rf (zro B (M a ((i.toNat : Nat) : Int)))) = _; rw [hi2, zro_rf]) rfl rfl hd ?_
        exact go (zok_at S h3 ha.2 t (by decide) hi0 hi1)
    · cases h
  · cases h
theorem zupd_fun {α : Type} (g : Int → α) {M : ZM} {a i x : Int} (hi0 : 0 ≤ i) : (fun j : Nat => g (zset M a i x a j)) = fun j : Nat => if j = i.toNat then g x else g (M a j) := by
  funext j
  by_cases q : j = i.toNat
  · subst q
    rw [if_pos rfl, Int.toNat_of_nonneg hi0, zset_eq]
  · rw [if_neg q, zset_nj (by omega)]
theorem zarr_set {α : Type} (mk : α → Value) (cA : ClassId) (n : Nat) (f : Nat → α) (i : Nat) (x : α) : arrV cA n (updV (fun j => mk (f j)) i (mk x)) = arrV cA n (fun j => mk (if j = i then x else f j)) := by
  congr 1
  funext j
  unfold updV
  split <;> rfl
theorem zarr_st {g : Int → Value} {M : ZM} {a i x : Int} (cA : ClassId) (n : Nat) (hi0 : 0 ≤ i) : (arrV cA n (fun j : Nat => g (M a j))).setSlot i.toNat (g x) = arrV cA n (fun j : Nat => g (zset M a i x a j)) := by
  rw [arrV_store]
  congr 1
  funext j
  unfold updV
  by_cases q : j = i.toNat
  · subst q
    rw [if_pos rfl, Int.toNat_of_nonneg hi0, zset_eq]
  · rw [if_neg q, zset_nj (by omega)]
theorem zs_iast (S : zSt B D aD L xs k s H locs ls LS st M) (C : zCtx B D aD L xs k p s m args meth c) (hd : decode (zcode k) pc = .ok (.iastore, 1)) (h : zastI (pc + 1) ls st M = some (pc', ls', st', M'))
    (kk : ∀ H1 locs1, zSt B D aD L xs k s H1 locs1 ls' LS st' M' → znx M' = znx M → W p l e R s m args below meth c H1 locs1 cells slots Q (F0 m pc' LS (st'.map (zenc B)))) : W p l e R s m args below meth c H locs cells slots Q (F0 m pc LS (st.map (zenc B))) := by
  obtain ⟨hx, hb, -, -, -, -, hK, -⟩ := C
  unfold zastI at h
  split at h
  · next x i a r =>
    split at h
    · next hc =>
      obtain ⟨rfl, rfl, rfl, rfl⟩ := zsome h
      obtain ⟨t, hi0, hi1⟩ := hc
      have hxr : zi32 x := S.2.2.2.2 (.inl x) List.mem_cons_self
      have hi : zi32 i := S.2.2.2.2 (.inl i) (List.mem_cons_of_mem _ List.mem_cons_self)
      have ha : -1 ≤ a ∧ a < znx M := S.2.2.2.2 (.inr (.inr a)) (List.mem_cons_of_mem _ (List.mem_cons_of_mem _ List.mem_cons_self))
      have h3 : 3 ≤ a := zsh_low (by omega) (by omega) (by omega)
      rw [zlen_own h3] at hi1
      have hg := zW_get (B := B) (aD := aD) h3 ha.2
      have he : ∀ M : ZM, zent B aD M a = .inl (aD 0, ((zsh a).2).toNat, .inl (fun j => Int32.ofInt (M a j))) := fun M => by unfold zent; rw [if_pos t]
      rw [he] at hg
      have hin := zvp hi0 hi (n := ((zsh a).2).toNat) (by omega)
      show W p l e R s m args below meth c H locs cells slots Q (F0 m pc LS (.int (Int32.ofInt x) :: .int (Int32.ofInt i) :: zrv B a :: r.map (zenc B)))
      rw [zrv_ref (by omega)]
      refine W.iast hx hb (S.1.2.2.1 _ _ hg) ((hK.2 0 _ rfl).1 ((zsh a).2).toNat (fun j => .int (Int32.ofInt (M a j)))) (fun q => by cases q) (by show ¬ (_ < 0 ∨ (arrV _ _ _).slots.size ≤ _); rw [arrV_size]; exact hin) rfl rfl hd fun H1 e z oq => ?_
      refine kk H1 _ (S.set h3 ha.2 (by rw [zpk_at t (by decide)]; exact hxr) (fun w hw => List.mem_cons_of_mem _ (List.mem_cons_of_mem _ (List.mem_cons_of_mem _ hw))) ?_ z oq (fun q hq => (List.mem_append.mp hq).imp id (fun h => by rw [List.mem_singleton.mp h]))) (znx_set h3)
      rw [he]
      show H1[zad B a]? = some (vp_cell _ _)
      refine e.trans ?_
      rw [znc hi0 hi]
      exact congrArg some (zarr_st (g := fun z => Value.int (Int32.ofInt z)) (aD 0) _ hi0)
    · cases h
  · cases h
theorem zs_last (S : zSt B D aD L xs k s H locs ls LS st M) (C : zCtx B D aD L xs k p s m args meth c) (hd : decode (zcode k) pc = .ok (.lastore, 1)) (h : zastJ (pc + 1) ls st M = some (pc', ls', st', M'))
    (kk : ∀ H1 locs1, zSt B D aD L xs k s H1 locs1 ls' LS st' M' → znx M' = znx M → W p l e R s m args below meth c H1 locs1 cells slots Q (F0 m pc' LS (st'.map (zenc B)))) : W p l e R s m args below meth c H locs cells slots Q (F0 m pc LS (st.map (zenc B))) := by
  obtain ⟨hx, hb, -, -, -, -, hK, -⟩ := C
  unfold zastJ at h
  split at h
  · next x i a r =>
    split at h
    · next hc =>
      obtain ⟨rfl, rfl, rfl, rfl⟩ := zsome h
      obtain ⟨t, hi0, hi1⟩ := hc
      have hxr : zi64 x := S.2.2.2.2 (.inr (.inl x)) List.mem_cons_self
      have hi : zi32 i := S.2.2.2.2 (.inl i) (List.mem_cons_of_mem _ List.mem_cons_self)
      have ha : -1 ≤ a ∧ a < znx M := S.2.2.2.2 (.inr (.inr a)) (List.mem_cons_of_mem _ (List.mem_cons_of_mem _ List.mem_cons_self))
      have h3 : 3 ≤ a := zsh_low (by omega) (by omega) (by omega)
      rw [zlen_own h3] at hi1
      have hg := zW_get (B := B) (aD := aD) h3 ha.2
      have he : ∀ M : ZM, zent B aD M a = .inl (aD 1, ((zsh a).2).toNat, .inr (.inl (fun j => Int64.ofInt (M a j)))) := fun M => by unfold zent; rw [if_neg (by omega), if_pos t]
      rw [he] at hg
      have hin := zvp hi0 hi (n := ((zsh a).2).toNat) (by omega)
      show W p l e R s m args below meth c H locs cells slots Q (F0 m pc LS (.long (Int64.ofInt x) :: .int (Int32.ofInt i) :: zrv B a :: r.map (zenc B)))
      rw [zrv_ref (by omega)]
      refine W.last hx hb (S.1.2.2.1 _ _ hg) ((hK.2 1 _ rfl).1 ((zsh a).2).toNat (fun j => .long (Int64.ofInt (M a j)))) (fun q => by cases q) (by show ¬ (_ < 0 ∨ (arrV _ _ _).slots.size ≤ _); rw [arrV_size]; exact hin) rfl rfl hd fun H1 e z oq => ?_
      refine kk H1 _ (S.set h3 ha.2 (by rw [zpk_at t (by decide)]; exact hxr) (fun w hw => List.mem_cons_of_mem _ (List.mem_cons_of_mem _ (List.mem_cons_of_mem _ hw))) ?_ z oq (fun q hq => (List.mem_append.mp hq).imp id (fun h => by rw [List.mem_singleton.mp h]))) (znx_set h3)
      rw [he]
      show H1[zad B a]? = some (vp_cell _ _)
      refine e.trans ?_
      rw [znc hi0 hi]
      exact congrArg some (zarr_st (g := fun z => Value.long (Int64.ofInt z)) (aD 1) _ hi0)
    · cases h
  · cases h
theorem znar_b {x : Int} (h : -128 ≤ x ∧ x ≤ 127) : narrow .byte (.int (Int32.ofInt x)) = .int (Int32.ofInt x) := by
  show Value.int _ = Value.int _
  congr 1
  apply Int32.toInt_inj.mp
  rw [zi32_of x ⟨by omega, by omega⟩]
  show (Int32.ofInt x).toInt8.toInt32.toInt = x
  rw [Int8.toInt_toInt32, Int32.toInt_toInt8, zi32_of x ⟨by omega, by omega⟩]
  exact Int.bmod_eq_of_le (by omega) (by omega)
theorem zfits_b {x : Int} (h : -128 ≤ x ∧ x ≤ 127) : fits .byte (.int (Int32.ofInt x)) = true := by
  show (decide (-128 ≤ Int32.ofInt x) && decide (Int32.ofInt x ≤ 127)) = true
  rw [Bool.and_eq_true]
  have hx : zi32 x := ⟨by omega, by omega⟩
  exact ⟨decide_eq_true ((zle32 (x := -128) ⟨by decide, by decide⟩ hx).mpr h.1), decide_eq_true ((zle32 (y := 127) hx ⟨by decide, by decide⟩).mpr h.2)⟩
theorem znar_z {x : Int} (h : 0 ≤ x ∧ x ≤ 1) : narrow .boolean (.int (Int32.ofInt x)) = .int (Int32.ofInt x) := by
  have : x = 0 ∨ x = 1 := by omega
  rcases this with rfl | rfl <;> rfl
theorem zs_bast (S : zSt B D aD L xs k s H locs ls LS st M) (C : zCtx B D aD L xs k p s m args meth c) (hd : decode (zcode k) pc = .ok (.bastore, 1)) (h : zastB (pc + 1) ls st M = some (pc', ls', st', M'))
    (kk : ∀ H1 locs1, zSt B D aD L xs k s H1 locs1 ls' LS st' M' → znx M' = znx M → W p l e R s m args below meth c H1 locs1 cells slots Q (F0 m pc' LS (st'.map (zenc B)))) : W p l e R s m args below meth c H locs cells slots Q (F0 m pc LS (st.map (zenc B))) := by
  obtain ⟨hx, hb, -, -, -, -, hK, -⟩ := C
  unfold zastB at h
  split at h
  · next x i a r =>
    split at h
    · next hc =>
      obtain ⟨rfl, rfl, rfl, rfl⟩ := zsome h
      obtain ⟨hk, hi0, hi1⟩ := hc
      have hi : zi32 i := S.2.2.2.2 (.inl i) (List.mem_cons_of_mem _ List.mem_cons_self)
      have ha : -1 ≤ a ∧ a < znx M := S.2.2.2.2 (.inr (.inr a)) (List.mem_cons_of_mem _ (List.mem_cons_of_mem _ List.mem_cons_self))
      have h3 : 3 ≤ a := zsh_low (by omega) (by omega) (by omega)
      rw [zlen_own h3] at hi1
      have hg := zW_get (B := B) (aD := aD) h3 ha.2
      have hin := zvp hi0 hi (n := ((zsh a).2).toNat) (by omega)
      show W p l e R s m args below meth c H locs cells slots Q (F0 m pc LS (.int (Int32.ofInt x) :: .int (Int32.ofInt i) :: zrv B a :: r.map (zenc B)))
      rw [zrv_ref (by omega)]
      rcases hk with ⟨t, hxr⟩ | ⟨t, hxr⟩
      · have he : ∀ M : ZM, zent B aD M a = .inl (aD 2, ((zsh a).2).toNat, .inl (fun j => Int32.ofInt (M a j))) := fun M => by unfold zent; rw [if_neg (by omega), if_neg (by omega), if_pos t]
        rw [he] at hg
        refine W.bast hx hb (S.1.2.2.1 _ _ hg) ((hK.2 2 _ rfl).1 ((zsh a).2).toNat (fun j => .int (Int32.ofInt (M a j)))) (fun q => by cases q) (by show ¬ (_ < 0 ∨ (arrV _ _ _).slots.size ≤ _); rw [arrV_size]; exact hin) rfl rfl hd fun H1 e z oq => ?_
        refine kk H1 _ (S.set h3 ha.2 (by rw [zpk_at t (by decide)]; exact hxr) (fun w hw => List.mem_cons_of_mem _ (List.mem_cons_of_mem _ (List.mem_cons_of_mem _ hw))) ?_ z oq (fun q hq => (List.mem_append.mp hq).imp id (fun h => by rw [List.mem_singleton.mp h]))) (znx_set h3)
        rw [he]
        show H1[zad B a]? = some (vp_cell _ _)
        rw [znar_b hxr] at e
        refine e.trans ?_
        rw [znc hi0 hi]
        exact congrArg some (zarr_st (g := fun z => Value.int (Int32.ofInt z)) (aD 2) _ hi0)
      · have he : ∀ M : ZM, zent B aD M a = .inl (aD 3, ((zsh a).2).toNat, .inl (fun j => Int32.ofInt (M a j))) := fun M => by unfold zent; rw [if_neg (by omega), if_neg (by omega), if_neg (by omega), if_pos t]
        rw [he] at hg
        refine W.zast hx hb (S.1.2.2.1 _ _ hg) ((hK.2 3 _ rfl).1 ((zsh a).2).toNat (fun j => .int (Int32.ofInt (M a j)))) (fun q => by cases q) (by show ¬ (_ < 0 ∨ (arrV _ _ _).slots.size ≤ _); rw [arrV_size]; exact hin) rfl rfl hd fun H1 e z oq => ?_
        refine kk H1 _ (S.set h3 ha.2 (by rw [zpk_at t (by decide)]; exact hxr) (fun w hw => List.mem_cons_of_mem _ (List.mem_cons_of_mem _ (List.mem_cons_of_mem _ hw))) ?_ z oq (fun q hq => (List.mem_append.mp hq).imp id (fun h => by rw [List.mem_singleton.mp h]))) (znx_set h3)
        rw [he]
        show H1[zad B a]? = some (vp_cell _ _)
        rw [znar_z hxr] at e
        refine e.trans ?_
        rw [znc hi0 hi]
        exact congrArg some (zarr_st (g := fun z => Value.int (Int32.ofInt z)) (aD 3) _ hi0)
    · cases h
  · cases h
theorem zs_alen (S : zSt B D aD L xs k s H locs ls LS st M) (C : zCtx B D aD L xs k p s m args meth c) (hd : decode (zcode k) pc = .ok (.arraylength, 1)) (h : zalen (pc + 1) ls st M = some (pc', ls', st', M'))
    (kk : ∀ LS', zSt B D aD L xs k s H locs ls' LS' st' M' → M' = M → W p l e R s m args below meth c H locs cells slots Q (F0 m pc' LS' (st'.map (zenc B)))) : W p l e R s m args below meth c H locs cells slots Q (F0 m pc LS (st.map (zenc B))) := by
  obtain ⟨hx, hb, -, -, -, -, hK, hX, hL4, hbl, hbs, -, -, hT1, hT2, -⟩ := C
  unfold zalen at h
  split at h
  · next a r =>
    split at h
    · next hc =>
      obtain ⟨rfl, rfl, rfl, rfl⟩ := zsome h
      have ha : -1 ≤ a ∧ a < znx M := S.2.2.2.2 (.inr (.inr a)) List.mem_cons_self
      have go : zi32 (zlen M a) → W p l e R s m args below meth c H locs cells slots Q (F0 m (pc + 1) LS (.int (Int32.ofInt (zlen M a)) :: r.map (zenc B))) := fun hv =>
        kk LS (S.to fun w hw => (List.mem_cons.mp hw).elim (fun e => e ▸ hv) (fun h => S.2.2.2.2 w (List.mem_cons_of_mem _ h))) rfl
      show W p l e R s m args below meth c H locs cells slots Q (F0 m pc LS (zrv B a :: r.map (zenc B)))
      rcases hc with t | t
      · have h3 : 3 ≤ a := zsh_low (by omega) (by omega) (by omega)
        rw [zrv_ref (by omega)]
        have hg := zW_get (B := B) (aD := aD) h3 ha.2
        have hz := zsh_sz h3
        have h0 : 0 ≤ (zsh a).2 ∧ (zsh a).2 ≤ 100000 := by
          rcases hz with h | h
          · omega
          · exact h.2
        have hgo := go (by rw [zlen_own h3]; exact ⟨by omega, by omega⟩)
        rw [zlen_own h3] at hgo
        have hv : ∀ x : vp_A, x.1 = ((zsh a).2).toNat → Int32.ofNat x.1 = Int32.ofInt (zsh a).2 := fun x hx => by
          rw [hx]
          show Int32.ofInt (((zsh a).2).toNat : Int) = _
          rw [Int.toNat_of_nonneg h0.1]
        have key : ∃ (t0 : Nat) (cA : ClassId) (x : vp_A) (ty : FieldType), (zty aD)[t0]? = some (cA, ty) ∧ zent B aD M a = .inl (cA, x) ∧ x.1 = ((zsh a).2).toNat := by
          unfold zent
          by_cases q0 : (zsh a).1 = 0
          · rw [if_pos q0]; exact ⟨0, _, _, _, rfl, rfl, rfl⟩
          rw [if_neg q0]
          by_cases q1 : (zsh a).1 = 1
          · rw [if_pos q1]; exact ⟨1, _, _, _, rfl, rfl, rfl⟩
          rw [if_neg q1]
          by_cases q2 : (zsh a).1 = 2
          · rw [if_pos q2]; exact ⟨2, _, _, _, rfl, rfl, rfl⟩
          rw [if_neg q2]
          by_cases q3 : (zsh a).1 = 3
          · rw [if_pos q3]; exact ⟨3, _, _, _, rfl, rfl, rfl⟩
          rw [if_neg q3]
          by_cases q4 : (zsh a).1 = 4
          · rw [if_pos q4]; exact ⟨4, _, _, _, rfl, rfl, rfl⟩
          rw [if_neg q4, if_pos (by omega)]
          exact ⟨5, _, _, _, rfl, rfl, rfl⟩
        obtain ⟨t0, cA, x, ty, k1, k2, k3⟩ := key
        rw [k2] at hg
        exact va_alen hx hb hK S.1.2.2.1 _ t0 hg k1 (hv x k3) hd hgo
      · have a0 := zsh_21 t
        subst a0
        have e0 : zlen M 0 = (L : Int) := by
          unfold zlen
          rw [if_pos rfl]
          exact S.2.1.1
        rw [zrv_ref (by decide)]
        rw [e0] at go
        exact va_slen hx hb hX (show B.1 < s.heap.size by omega) (show ¬ B.2.2.2 ≤ B.1 by omega) S.2.2.1 hd (go ⟨by omega, by omega⟩)
    · cases h
  · cases h
theorem zs_aast (S : zSt B D aD L xs k s H locs ls LS st M) (C : zCtx B D aD L xs k p s m args meth c) (hd : decode (zcode k) pc = .ok (.aastore, 1)) (h : zastA (pc + 1) ls st M = some (pc', ls', st', M'))
    (kk : ∀ H1 locs1, zSt B D aD L xs k s H1 locs1 ls' LS st' M' → znx M' = znx M → W p l e R s m args below meth c H1 locs1 cells slots Q (F0 m pc' LS (st'.map (zenc B)))) : W p l e R s m args below meth c H locs cells slots Q (F0 m pc LS (st.map (zenc B))) := by
  obtain ⟨hx, hb, -, -, -, -, hK, -⟩ := C
  unfold zastA at h
  split at h
  · next x i a r =>
    split at h
    · next hc =>
      obtain ⟨rfl, rfl, rfl, rfl⟩ := zsome h
      obtain ⟨t, hxs, hi0, hi1⟩ := hc
      have hxr : -1 ≤ x ∧ x < znx M := S.2.2.2.2 (.inr (.inr x)) List.mem_cons_self
      have hi : zi32 i := S.2.2.2.2 (.inl i) (List.mem_cons_of_mem _ List.mem_cons_self)
      have ha : -1 ≤ a ∧ a < znx M := S.2.2.2.2 (.inr (.inr a)) (List.mem_cons_of_mem _ (List.mem_cons_of_mem _ List.mem_cons_self))
      have h3 : 3 ≤ a := zsh_low (by omega) (by omega) (by omega)
      have hx3 : 3 ≤ x := zsh_low (by rw [hxs]; decide) (by rw [hxs]; decide) (by rw [hxs]; decide)
      rw [zlen_own h3] at hi1
      have hg := zW_get (B := B) (aD := aD) h3 ha.2
      have hgx := zW_get (B := B) (aD := aD) hx3 hxr.2
      rw [show zent B aD M x = .inr (0, (List.range (zNf 0)).map (fun j => zencF B (ztyX 0 j) (M x j))) by unfold zent; rw [hxs]; rfl] at hgx
      have he : ∀ M : ZM, zent B aD M a = .inl (aD 4, ((zsh a).2).toNat, .inr (.inr (.inr (.inr (fun j => zro B (M a j)))))) := fun M => by unfold zent; rw [if_neg (by omega), if_neg (by omega), if_neg (by omega), if_neg (by omega), if_pos t]
      rw [he] at hg
      have hin := zvp hi0 hi (n := ((zsh a).2).toNat) (by omega)
      have hlt : (Int32.ofInt i).toNatClampNeg < ((zsh a).2).toNat := Nat.not_le.mp fun q => hin (Or.inr q)
      have hi00 : ¬ Int32.ofInt i < 0 := fun q => hin (Or.inl q)
      obtain ⟨r', hr', cellV, g1, g2, g3, -⟩ := S.1.2.2.1 _ _ hgx
      have hcls := (hK.1 0 (RX0, TX0, 12) rfl).2
      obtain ⟨kA, comp, k1, k2, k3, -⟩ : ∃ (kA : Class) (comp : ClassId), s.vm.classes[aD 4]? = some kA ∧ kA.kind = .array comp (.object RX0) ∧ s.vm.findClass RX0 = some comp ∧ s.vm.findClass ("[" ++ (FieldType.object RX0).toString) = some (aD 4) := (hK.2 4 _ rfl).2
      have hcomp : comp = D.1 0 := Option.some.inj (k3.symm.trans hcls.1)
      subst hcomp
      have hasn := va_assign hcls
      obtain ⟨kC, hkC, -⟩ := hcls.2
      show W p l e R s m args below meth c H locs cells slots Q (F0 m pc LS (zrv B x :: .int (Int32.ofInt i) :: zrv B a :: r.map (zenc B)))
      rw [zrv_ref (by omega), zrv_ref (by omega)]
      refine W.aast hx hb (S.1.2.2.1 _ _ hg) (fun q h => by cases h) (fun h => by cases h) k1 k2 rfl hkC ⟨hi00, by show _ < (arrV _ _ _).slots.size; rw [arrV_size]; exact hlt⟩ g1 (fun q h => by rw [g3] at h; cases h) (by rw [g2]; exact hkC) (by rw [g2]; exact hasn) rfl rfl hd fun H1 e z oq => ?_
      refine kk H1 _ (S.set h3 ha.2 (by rw [zpk_at t (by decide)]; exact hxr) (fun w hw => List.mem_cons_of_mem _ (List.mem_cons_of_mem _ (List.mem_cons_of_mem _ hw))) ?_ z oq (fun q hq => (List.mem_append.mp hq).imp id (fun h => by rw [List.mem_singleton.mp h]))) (znx_set h3)
      rw [he]
      show H1[zad B a]? = some (vp_cell _ _)
      rw [e, vp_cell_q, vp_cell_q, arrV_store]
      congr 2
      funext j
      have := congrFun (zupd_fun (zro B) (M := M) (a := a) (i := i) (x := x) hi0) j
      rw [this, znc hi0 hi]
      unfold updV
      split
      · rw [zro_rf, zrv_ref (by omega)]
      · rfl
    · cases h
  · cases h
theorem zs_copy (S : zSt B D aD L xs k s H locs ls LS st M) (C : zCtx B D aD L xs k p s m args meth c) {j : Nat} (hd : decode (zcode k) pc = .ok (.invokestatic j, 3)) (hl : Cond.methodLink (zcn (zcl k)) j arraycopyName ∈ zTs) (h : zacopy (pc + 3) ls st M = some (pc', ls', st', M')) (hfr : 1 ≤ R.frames) (hlo : 64 ≤ R.locals)
    (kk : ∀ H1 locs1, zSt B D aD L xs k s H1 locs1 ls' LS st' M' → znx M' = znx M → W p l e R s m args below meth c H1 locs1 cells slots Q (F0 m pc' LS (st'.map (zenc B)))) : W p l e R s m args below meth c H locs cells slots Q (F0 m pc LS (st.map (zenc B))) := by
  obtain ⟨hx, hb, hml, hown, hts, -, hK, -⟩ := C
  unfold zacopy at h
  split at h
  · next n q a sp b r =>
    split at h
    · next hc =>
      obtain ⟨rfl, rfl, rfl, rfl⟩ := zsome h
      obtain ⟨ta, tb, hn0, hq0, hp0, hp1, hq1, hcat, hfull⟩ := hc
      have hn : zi32 n := S.2.2.2.2 (.inl n) List.mem_cons_self
      have hq : zi32 q := S.2.2.2.2 (.inl q) (List.mem_cons_of_mem _ List.mem_cons_self)
      have ha : -1 ≤ a ∧ a < znx M := S.2.2.2.2 (.inr (.inr a)) (List.mem_cons_of_mem _ (List.mem_cons_of_mem _ List.mem_cons_self))
      have hp : zi32 sp := S.2.2.2.2 (.inl sp) (List.mem_cons_of_mem _ (List.mem_cons_of_mem _ (List.mem_cons_of_mem _ List.mem_cons_self)))
      have hb' : -1 ≤ b ∧ b < znx M := S.2.2.2.2 (.inr (.inr b)) (List.mem_cons_of_mem _ (List.mem_cons_of_mem _ (List.mem_cons_of_mem _ (List.mem_cons_of_mem _ List.mem_cons_self))))
      have h3 : 3 ≤ a := zsh_low (by omega) (by omega) (by omega)
      have hb3 : 3 ≤ b := zsh_low (by omega) (by omega) (by omega)
      have hga := zW_get (B := B) (aD := aD) h3 ha.2
      have hgb := zW_get (B := B) (aD := aD) hb3 hb'.2
      have hcp : ∀ (a' : Int), a' ≠ a → ∀ j, zcopy M b sp a q n a' j = M a' j := fun a' h j => by unfold zcopy; rw [if_neg (fun z => h z.1)]
      have hnx : znx (zcopy M b sp a q n) = znx M := hcp (-1) (by omega) 0
      have hM : ∀ j : Nat, zcopy M b sp a q n a j = if q.toNat ≤ j ∧ j < q.toNat + n.toNat then M b (((sp.toNat + (j - q.toNat) : Nat) : Int)) else M a j := fun j => by
        unfold zcopy
        by_cases z : q.toNat ≤ j ∧ j < q.toNat + n.toNat
        · rw [if_pos z, if_pos ⟨rfl, by omega, by omega⟩]
          congr 1
          omega
        · rw [if_neg z, if_neg (fun w => z ⟨by omega, by omega⟩)]
      have hokM : zokM (zcopy M b sp a q n) := by
        intro a' h1 h2 j' h4 h5
        rw [hnx] at h2 ⊢
        by_cases z : a' = a
        · subst z
          unfold zcopy
          by_cases w : q ≤ j' ∧ j' < q + n
          · rw [if_pos ⟨rfl, w⟩]
            have hz := S.1.2.2.2 b hb3 hb'.2 (sp + (j' - q)) (by omega) (by unfold zcnt; rw [if_pos (by omega)]; omega)
            rw [zpk_at tb (by omega)] at hz
            rw [zpk_at (t := (zsh a').1) rfl (by omega)]
            exact hz
          · rw [if_neg (fun v => w v.2)]
            exact S.1.2.2.2 a' h1 h2 j' h4 h5
        · rw [hcp a' z]
          exact S.1.2.2.2 a' h1 h2 j' h4 h5
      have hS2 : zS L xs (zcopy M b sp a q n) := by
        obtain ⟨s1, s2, s3, s4⟩ := S.2.1
        exact ⟨by rw [hcp 0 (by omega)]; exact s1, fun j hj => by rw [hcp 0 (by omega)]; exact s2 j hj, fun j hj => by rw [hcp 1 (by omega)]; exact s3 j hj, fun j hj => by rw [hcp 2 (by omega)]; exact s4 j hj⟩
      have fin : ∀ (e' : va_E) (H1 : Heap) (locs1 : List Loc), zent B aD (zcopy M b sp a q n) a = e' → va_P D vwCl ((zW B aD M).set (a - 3).toNat (zad B a, e')) H1 → va_S (zAq B) s.heap H1 locs1 → W p l e R s m args below meth c H1 locs1 cells slots Q (F0 m (pc + 3) LS (r.map (zenc B))) := by
        intro e' H1 locs1 he hP hF
        rw [zW_set h3 ha.2 hnx he (fun a' h => zent_congr (hcp a' h))] at hP
        refine kk H1 locs1 ⟨⟨by rw [hnx]; exact S.1.1, fun z => by rw [hnx] at z; omega, hP, hokM⟩, hS2, hF, by rw [hnx]; exact S.2.2.2.1, fun w hw => ?_⟩ hnx
        rw [hnx]
        exact S.2.2.2.2 w (List.mem_cons_of_mem _ (List.mem_cons_of_mem _ (List.mem_cons_of_mem _ (List.mem_cons_of_mem _ (List.mem_cons_of_mem _ hw)))))
      show W p l e R s m args below meth c H locs cells slots Q (F0 m pc LS (.int (Int32.ofInt n) :: .int (Int32.ofInt q) :: zrv B a :: .int (Int32.ofInt sp) :: zrv B b :: r.map (zenc B)))
      rw [zrv_ref (by omega), zrv_ref (by omega)]
      have hloc : ((r.map (zenc B)).map fun v => v.category).sum + (nativeFrameWords "java/lang/System" "arraycopy" 5 + 11) ≤ R.locals := by
        rw [zcat_sum]
        have : nativeFrameWords "java/lang/System" "arraycopy" 5 = 7 := by decide
        omega
      have n1 : ¬ Int32.ofInt sp < 0 := by rw [← z0of, zlt32 hp z032]; omega
      have n2 : ¬ Int32.ofInt q < 0 := by rw [← z0of, zlt32 hq z032]; omega
      have n3 : ¬ Int32.ofInt n < 0 := by rw [← z0of, zlt32 hn z032]; omega
      have c1 := znc hn0 hn
      have c2 := znc hq0 hq
      have c3 := znc hp0 hp
      have hca : (zsh a).1 = 0 ∨ (zsh a).1 = 1 ∨ (zsh a).1 = 2 := by omega
      rcases hca with t | t | t
      · have ea : ∀ M : ZM, zent B aD M a = .inl (aD 0, ((zsh a).2).toNat, .inl (fun j => Int32.ofInt (M a j))) := fun M => by unfold zent; rw [if_pos t]
        have eb : zent B aD M b = .inl (aD 0, ((zsh b).2).toNat, .inl (fun j => Int32.ofInt (M b j))) := by unfold zent; rw [if_pos (by omega)]
        rw [ea] at hga
        rw [eb] at hgb
        refine va_copyi hx hb (by rw [hml]; exact S.2.2.2.1.2.1.symm) hown (hts _ hl) (hts _ zx_acn) (hts _ zx_acs) (hts _ zx_aci) hK S.1.2.2.1 zW_D S.2.2.1 _ _ 0 0 hgb hga rfl rfl rfl n1 n2 n3 (by rw [c1, c3]; omega) (by rw [c1, c2]; omega) (fun i _ => rfl) hfr hloc hd (fun H1 locs1 p1 _ p3 => fin _ H1 locs1 ?_ p1 p3)
        rw [ea, c1, c2, c3]
        congr 4
        funext j
        rw [hM j]
        unfold va_cpy
        split <;> rfl
      · have ea : ∀ M : ZM, zent B aD M a = .inl (aD 1, ((zsh a).2).toNat, .inr (.inl (fun j => Int64.ofInt (M a j)))) := fun M => by unfold zent; rw [if_neg (by omega), if_pos t]
        have eb : zent B aD M b = .inl (aD 1, ((zsh b).2).toNat, .inr (.inl (fun j => Int64.ofInt (M b j)))) := by unfold zent; rw [if_neg (by omega), if_pos (by omega)]
        rw [ea] at hga
        rw [eb] at hgb
        refine va_copyl hx hb (by rw [hml]; exact S.2.2.2.1.2.1.symm) hown (hts _ hl) (hts _ zx_acn) (hts _ zx_acs) (hts _ zx_aci) hK S.1.2.2.1 zW_D S.2.2.1 _ _ 1 1 hgb hga rfl rfl rfl n1 n2 n3 (by rw [c1, c3]; omega) (by rw [c1, c2]; omega) (fun i _ => rfl) hfr hloc hd (fun H1 locs1 p1 _ p3 => fin _ H1 locs1 ?_ p1 p3)
        rw [ea, c1, c2, c3]
        congr 5
        funext j
        rw [hM j]
        unfold va_cpy
        split <;> rfl
      · have ea : ∀ M : ZM, zent B aD M a = .inl (aD 2, ((zsh a).2).toNat, .inl (fun j => Int32.ofInt (M a j))) := fun M => by unfold zent; rw [if_neg (by omega), if_neg (by omega), if_pos t]
        have eb : zent B aD M b = .inl (aD 2, ((zsh b).2).toNat, .inl (fun j => Int32.ofInt (M b j))) := by unfold zent; rw [if_neg (by omega), if_neg (by omega), if_pos (by omega)]
        rw [ea] at hga
        rw [eb] at hgb
        refine va_copyi hx hb (by rw [hml]; exact S.2.2.2.1.2.1.symm) hown (hts _ hl) (hts _ zx_acn) (hts _ zx_acs) (hts _ zx_aci) hK S.1.2.2.1 zW_D S.2.2.1 _ _ 2 2 hgb hga rfl rfl rfl n1 n2 n3 (by rw [c1, c3]; omega) (by rw [c1, c2]; omega) (fun i hi => ?_) hfr hloc hd (fun H1 locs1 p1 _ p3 => fin _ H1 locs1 ?_ p1 p3)
        · rw [c3]
          have hz := zok_at S hb3 hb'.2 (t := 2) (by omega) (by decide) (i := ((sp.toNat + i : Nat) : Int)) (by omega) (by rw [c1] at hi; omega)
          have hz : -128 ≤ M b ((sp.toNat + i : Nat) : Int) ∧ M b ((sp.toNat + i : Nat) : Int) ≤ 127 := hz
          exact zfits_b hz
        · rw [ea, c1, c2, c3]
          congr 4
          funext j
          rw [hM j]
          unfold va_cpy
          split <;> rfl
    · cases h
  · cases h
end ZARR2
end
section
/-! ===== one step: fields, statics, constants, the stack ===== -/
theorem zvw {ci : Nat} (h : ci < 10) : vwCl[ci]? = some (zcn ci, zTX ci, zNf ci) := by
  match ci, h with
  | 0, _ => rfl
  | 1, _ => rfl
  | 2, _ => rfl
  | 3, _ => rfl
  | 4, _ => rfl
  | 5, _ => rfl
  | 6, _ => rfl
  | 7, _ => rfl
  | 8, _ => rfl
  | 9, _ => rfl
  | n + 10, h => exact absurd h (by omega)
theorem zcw_in {ci : Nat} (h : ci < 10) : ∀ w ∈ u_ws (zcn ci) (zTX ci) (zNf ci), w ∈ zTs := by
  match ci, h with
  | 0, _ => exact zCw_in_0
  | 1, _ => exact zCw_in_1
  | 2, _ => exact zCw_in_2
  | 3, _ => exact zCw_in_3
  | 4, _ => exact zCw_in_4
  | 5, _ => exact zCw_in_5
  | 6, _ => exact zCw_in_6
  | 7, _ => exact zCw_in_7
  | 8, _ => exact zCw_in_8
  | 9, _ => exact zCw_in_9
  | n + 10, h => exact absurd h (by omega)
theorem zci_in {ci : Nat} (h : ci < 10) : Cond.instantiable (zcn ci) (zNf ci) ∈ zTs := by
  match ci, h with
  | 0, _ => exact zCi_in_0
  | 1, _ => exact zCi_in_1
  | 2, _ => exact zCi_in_2
  | 3, _ => exact zCi_in_3
  | 4, _ => exact zCi_in_4
  | 5, _ => exact zCi_in_5
  | 6, _ => exact zCi_in_6
  | 7, _ => exact zCi_in_7
  | 8, _ => exact zCi_in_8
  | 9, _ => exact zCi_in_9
  | n + 10, h => exact absurd h (by omega)
theorem zty_ok {ci : Nat} (h : ci < 10) : ∀ j, j < zNf ci → parseFieldDescriptor (zTX ci j).2.2.1 = some (ztyX ci j) := by
  match ci, h with
  | 0, _ => exact tyX0_ok
  | 1, _ => exact tyX1_ok
  | 2, _ => exact tyX2_ok
  | 3, _ => exact tyX3_ok
  | 4, _ => exact tyX4_ok
  | 5, _ => exact tyX5_ok
  | 6, _ => exact tyX6_ok
  | 7, _ => exact tyX7_ok
  | 8, _ => exact tyX8_ok
  | 9, _ => exact tyX9_ok
  | n + 10, h => exact absurd h (by omega)
theorem znm {ci : Nat} (h : ci < 10) : ∀ a, a < zNf ci → ∀ b, b < zNf ci → a ≠ b → (zTX ci a).2.1 ≠ (zTX ci b).2.1 := by
  match ci, h with
  | 0, _ => exact nmX0
  | 1, _ => exact nmX1
  | 2, _ => exact nmX2
  | 3, _ => exact nmX3
  | 4, _ => exact nmX4
  | 5, _ => exact nmX5
  | 6, _ => exact nmX6
  | 7, _ => exact nmX7
  | 8, _ => exact nmX8
  | 9, _ => exact nmX9
  | n + 10, h => exact absurd h (by omega)
theorem zown_ok : ∀ ci, ci < 10 → ∀ j, j < zNf ci → (zTX ci j).1 = zcn ci := by decide +kernel
theorem zty_nl : ∀ ci, ci < 10 → ∀ j, j < zNf ci → (ztyX ci j = .int ∨ ztyX ci j = .boolean ∨ (∃ n, ztyX ci j = .object n) ∨ ∃ t, ztyX ci j = .array t) := by
  intro ci h j hj
  have key : ∀ ci, ci < 10 → ∀ j, j < zNf ci → (match ztyX ci j with | .int => true | .boolean => true | .object _ => true | .array _ => true | _ => false) = true := by decide +kernel
  have h1 := key ci h j hj
  cases e : ztyX ci j <;> rw [e] at h1 <;> first | exact Or.inl rfl | exact Or.inr (Or.inl rfl) | exact Or.inr (Or.inr (Or.inl ⟨_, rfl⟩)) | exact Or.inr (Or.inr (Or.inr ⟨_, rfl⟩)) | cases h1
theorem zent_obj {B : zBs} {aD : Nat → ClassId} {M : ZM} {a : Int} {ci : Nat} (h : zsh a = (10 + ci, 0)) : zent B aD M a = .inr (ci, (List.range (zNf ci)).map (fun j => zencF B (ztyX ci j) (M a j))) := by
  unfold zent
  rw [h]
  simp only [show (10 + ci = 0) = False from by simp, show ¬ 10 + ci = 0 from by omega, show ¬ 10 + ci = 1 from by omega, show ¬ 10 + ci = 2 from by omega, show ¬ 10 + ci = 3 from by omega, show ¬ 10 + ci = 4 from by omega, show ¬ 10 + ci = 5 from by omega, if_false, Nat.add_sub_cancel_left]
theorem ztag_enc {B : zBs} {ty : FieldType} {x : Int} {v : ZV} (h : ztag ty x = some v) : zencF B ty x = zenc B v := by
  unfold ztag at h
  split at h
  · cases h; rfl
  · cases h; rfl
  · cases h; rfl
  · cases h; rfl
  · cases h
theorem zpk_obj {a : Int} {ci j : Nat} (h : zsh a = (10 + ci, 0)) : zpk a j = match ztyX ci j with
  | .object _ => 4
  | .array _ => 4
  | .boolean => 3
  | _ => 0 := by
  unfold zpk
  rw [h]
  simp only [show ¬ 10 + ci < 4 from by omega, show ¬ 10 + ci < 10 from by omega, if_false, Nat.add_sub_cancel_left, Int.toNat_natCast]
  cases ztyX ci j <;> rfl
theorem zcnt_obj {a : Int} {ci : Nat} (h : zsh a = (10 + ci, 0)) : zcnt a = (zNf ci : Nat) := by
  unfold zcnt
  rw [h]
  simp only [show ¬ 10 + ci < 10 from by omega, if_false, Nat.add_sub_cancel_left]
theorem ztag_ok {a : Int} {ci j : Nat} {n x : Int} {v : ZV} (h : zsh a = (10 + ci, 0)) (hz : zin n (zpk a j) x) (ht : ztag (ztyX ci j) x = some v) : zokV n v := by
  rw [zpk_obj h] at hz
  unfold ztag at ht
  split at ht
  · next e => rw [e] at hz; cases ht; exact hz
  · next e =>
    rw [e] at hz
    cases ht
    have hz : 0 ≤ x ∧ x ≤ 1 := hz
    exact ⟨by omega, by omega⟩
  · next e => rw [e] at hz; cases ht; exact hz
  · next e => rw [e] at hz; cases ht; exact hz
  · cases ht
theorem zfit_ok {a : Int} {ci j : Nat} {n x : Int} {v : ZV} (h : zsh a = (10 + ci, 0)) (hv : zokV n v) (ht : zfit (ztyX ci j) v = some x) : zin n (zpk a j) x := by
  rw [zpk_obj h]
  unfold zfit at ht
  split at ht
  · next e => rw [e]; cases ht; exact hv
  · next e =>
    rw [e]
    split at ht
    · next q => cases ht; exact q
    · cases ht
  · next e =>
    rw [e]
    split at ht
    · next q => cases ht; exact hv
    · cases ht
  · next e =>
    rw [e]
    split at ht
    · next q => cases ht; exact hv
    · cases ht
  · cases ht
theorem zfit_enc {B : zBs} {ty : FieldType} {x n : Int} {v : ZV} (ht : zfit ty v = some x) (hv : zokV n v) : zencF B ty x = zenc B v ∧ narrow ty (zenc B v) = zenc B v ∧ fits ty (zenc B v) = true := by
  unfold zfit at ht
  split at ht
  · cases ht; exact ⟨rfl, rfl, rfl⟩
  · next z =>
    split at ht
    · next q =>
      have hz := Option.some.inj ht
      subst hz
      refine ⟨rfl, znar_z q, ?_⟩
      have h01 : z = 0 ∨ z = 1 := by omega
      rcases h01 with rfl | rfl <;> rfl
    · cases ht
  · next z =>
    split at ht
    · next q =>
      have hz := Option.some.inj ht
      subst hz
      refine ⟨rfl, ?_, ?_⟩
      · show narrow _ (zrv B z) = zrv B z
        rw [zrv_ref q]; rfl
      · show fits _ (zrv B z) = true
        rw [zrv_ref q]; rfl
    · cases ht
  · next z =>
    split at ht
    · next q =>
      have hz := Option.some.inj ht
      subst hz
      refine ⟨rfl, ?_, ?_⟩
      · show narrow _ (zrv B z) = zrv B z
        rw [zrv_ref q]; rfl
      · show fits _ (zrv B z) = true
        rw [zrv_ref q]; rfl
    · cases ht
  · cases ht
section ZFLD
variable {p : Program} {l : Launch} {e : Env} {R : Room} {s : State} {m : MethodId} {args : Array Value} {below : List Frame} {meth : Method} {c : Code} {H : Heap} {locs : List Loc} {cells slots : Nat} {Q : State → Prop}
variable {B : zBs} {D : va_G} {aD : Nat → ClassId} {L : Nat} {xs : Nat → Int32} {k : Nat} {pc pc' : Nat} {ls ls' : ZL} {st st' : ZS} {M M' : ZM} {LS : Array Slot}
theorem zfl_at {n ci j : Nat} {q : zPos} (h : zlk (zFl (zcl k)) n = some (ci, j, q)) : Cond.fieldLink (zcn (zcl k)) n (zTX ci j).1 (zTX ci j).2.1 (zTX ci j).2.2.1 ∈ zTs ∧ j < zNf ci ∧ ci < 10 := by
  have h1 := zFl_ok (zcl k) _ (zlk_mem _ _ _ h)
  unfold zFlOk at h1
  simp only [Bool.and_eq_true] at h1
  exact ⟨zhas_in h1.1.1, Nat.lt_of_lt_of_le (Nat.lt_succ_self _) (Nat.le_of_ble_eq_true h1.1.2), Nat.lt_of_lt_of_le (Nat.lt_succ_self _) (Nat.le_of_ble_eq_true h1.2)⟩
theorem zs_getf (S : zSt B D aD L xs k s H locs ls LS st M) (C : zCtx B D aD L xs k p s m args meth c) {n : Nat} (hd : decode (zcode k) pc = .ok (.getfield n, 3)) (h : zgetf (zlk (zFl (zcl k)) n) (pc + 3) ls st M = some (pc', ls', st', M'))
    (kk : ∀ LS', zSt B D aD L xs k s H locs ls' LS' st' M' → M' = M → W p l e R s m args below meth c H locs cells slots Q (F0 m pc' LS' (st'.map (zenc B)))) : W p l e R s m args below meth c H locs cells slots Q (F0 m pc LS (st.map (zenc B))) := by
  obtain ⟨hx, hb, -, hown, hts, -, hK, -⟩ := C
  unfold zgetf at h
  split at h
  · next ci j q a r eq =>
    split at h
    · next hsh =>
      split at h
      · next v hv =>
        obtain ⟨rfl, rfl, rfl, rfl⟩ := zsome h
        obtain ⟨hlk, hj, hci⟩ := zfl_at eq
        have ha : -1 ≤ a ∧ a < znx M := S.2.2.2.2 (.inr (.inr a)) List.mem_cons_self
        have h3 : 3 ≤ a := zsh_low (by rw [hsh]; show 10 + ci ≠ 20; omega) (by rw [hsh]; show 10 + ci ≠ 21; omega) (by rw [hsh]; show 10 + ci ≠ 99; omega)
        have hg := zW_get (B := B) (aD := aD) h3 ha.2
        rw [zent_obj hsh] at hg
        show W p l e R s m args below meth c H locs cells slots Q (F0 m pc LS (zrv B a :: r.map (zenc B)))
        rw [zrv_ref (by omega)]
        refine va_get hx hb hts (zcw_in hci) hown hK S.1.2.2.1 _ hg (zvw hci) j hj (hts _ hlk) (fun _ h => h) (v := zenc B v) ?_ hd ?_
        · rw [List.getElem?_map, List.getElem?_range hj]
          show some (zencF B (ztyX ci j) (M a j)) = _
          rw [ztag_enc hv]
        · have hz := S.1.2.2.2 a h3 ha.2 (j : Int) (by omega) (by rw [zcnt_obj hsh]; omega)
          exact kk LS (S.to fun w hw => (List.mem_cons.mp hw).elim (fun e => e ▸ ztag_ok hsh hz hv) (fun h => S.2.2.2.2 w (List.mem_cons_of_mem _ h))) rfl
      · cases h
    · cases h
  · cases h
theorem zobj_set {B : zBs} {D : va_G} {aD : Nat → ClassId} {M : ZM} {a x : Int} {ci j : Nat} {v : Value} {cell : Cell} {H1 : Heap} (hci : ci < 10) (hsh : zsh a = (10 + ci, 0)) (hj : j < zNf ci) (hv : zencF B (ztyX ci j) x = v)
    (q2 : cell.cls = D.1 ci) (q3 : cell.vm = .none) (q4 : ∀ i, i < zNf ci → cell.slots[D.2 ci i]? = some (vp_V ((List.range (zNf ci)).map (fun j => zencF B (ztyX ci j) (M a j))) i)) (hap : ∀ x y, x < zNf ci → y < zNf ci → x ≠ y → (D.2 ci) x ≠ (D.2 ci) y)
    (e1 : H1[zad B a]? = some (cell.setSlot (D.2 ci j) v)) : va_at D vwCl (zad B a, zent B aD (zset M a j x) a) H1 := by
  rw [zent_obj hsh]
  refine ⟨(zcn ci, zTX ci, zNf ci), zvw hci, t_OB.to (V := updV (vp_V ((List.range (zNf ci)).map (fun j => zencF B (ztyX ci j) (M a j)))) j v) ⟨_, e1, q2, q3, t_set q4 hap hj v⟩ (fun i hi => ?_)⟩
  unfold updV vp_V
  rw [List.getD_eq_getElem?_getD, List.getD_eq_getElem?_getD, List.getElem?_map, List.getElem?_map, List.getElem?_range hi]
  show (if i = j then v else zencF B (ztyX ci i) (M a i)) = zencF B (ztyX ci i) (zset M a j x a i)
  by_cases q : i = j
  · subst q
    rw [if_pos rfl, zset_eq, hv]
  · rw [if_neg q, zset_nj (by omega)]
theorem zs_putf (S : zSt B D aD L xs k s H locs ls LS st M) (C : zCtx B D aD L xs k p s m args meth c) {n : Nat} (hd : decode (zcode k) pc = .ok (.putfield n, 3)) (h : zputf k (zlk (zFl (zcl k)) n) (pc + 3) ls st M = some (pc', ls', st', M'))
    (kk : ∀ H1 locs1, zSt B D aD L xs k s H1 locs1 ls' LS st' M' → znx M' = znx M → W p l e R s m args below meth c H1 locs1 cells slots Q (F0 m pc' LS (st'.map (zenc B)))) : W p l e R s m args below meth c H locs cells slots Q (F0 m pc LS (st.map (zenc B))) := by
  obtain ⟨hx, hb, -, hown, hts, hinit, hK, -⟩ := C
  unfold zputf at h
  split at h
  · next ci j q v a r eq =>
    split at h
    · next hsh =>
      obtain ⟨hsh, hfin⟩ := hsh
      split at h
      · next x hv =>
        obtain ⟨rfl, rfl, rfl, rfl⟩ := zsome h
        obtain ⟨hlk, hj, hci⟩ := zfl_at eq
        have hvo : zokV (znx M) v := S.2.2.2.2 v List.mem_cons_self
        have ha : -1 ≤ a ∧ a < znx M := S.2.2.2.2 (.inr (.inr a)) (List.mem_cons_of_mem _ List.mem_cons_self)
        have h3 : 3 ≤ a := zsh_low (by rw [hsh]; show 10 + ci ≠ 20; omega) (by rw [hsh]; show 10 + ci ≠ 21; omega) (by rw [hsh]; show 10 + ci ≠ 99; omega)
        have hg := zW_get (B := B) (aD := aD) h3 ha.2
        rw [zent_obj hsh] at hg
        show W p l e R s m args below meth c H locs cells slots Q (F0 m pc LS (zenc B v :: zrv B a :: r.map (zenc B)))
        rw [zrv_ref (by omega)]
        obtain ⟨f1, f2, f3⟩ := zfit_enc (B := B) hv hvo
        have hap := va_apart (own := zcn (zcl k)) hts (zcw_in hci) (ztyX ci) (zty_ok hci) (znm hci) hK (zvw hci)
        obtain ⟨r', h1, cell, q1, q2, q3, q4⟩ := S.1.2.2.1 _ _ hg
        have hr : r' = (zcn ci, zTX ci, zNf ci) := Option.some.inj (h1.symm.trans (zvw hci))
        subst hr
        obtain ⟨hSl, hfc, kC, hkC, hkind⟩ := hK.1 ci _ (zvw hci)
        obtain ⟨cf, kf, fi, f, hi, hsl⟩ := hSl j hj
        have hlays := u_lays hts (zcw_in hci) hj
        have hst := (u_facts hfc hkC hlays hi).1
        have h6 := u_fits hfc hkC hkind hlays hi (zty_ok hci j hj) f2 f3
        have hf : hasFlag f.accessFlags Acc.final = false ∨ (m.cls = cf ∧ meth.name = "<init>") := by
          have hlay := hts _ (zcw_in hci _ (u_in_lay hj))
          unfold u_lay at hlay
          unfold zfin at hfin
          by_cases hF : (zTX ci j).2.2.2 = true
          · rw [if_pos hF] at hlay
            rw [hF] at hfin
            simp only [Bool.not_true, Bool.false_or, Bool.and_eq_true] at hfin
            have e1 := Nat.eq_of_beq_eq_true hfin.1
            have e2 := Nat.eq_of_beq_eq_true hfin.2
            refine Or.inr ⟨?_, hinit e1⟩
            obtain ⟨_, _, c', _, _, _, -, -, hf', -, -, -, hown2, -⟩ := Cond.laysFinal_spec hlay
            have e3 : c' = cf := by have := hi.symm.trans hf'; simp at this; exact this.1.symm
            rw [zown_ok ci hci j hj, ← e2] at hown2
            rw [← e3]
            exact Option.some.inj (hown.symm.trans hown2)
          · rw [if_neg hF] at hlay
            exact Or.inl (u_store hfc hkC hkind hlay hi (zty_ok hci j hj) f2 f3).1
        refine W.putf hx hb hown (hts _ hlk) hi hst hf q1 (by rw [q3]; intro z; cases z) (by rw [hsl]; exact k2_hasslot (q4 j hj)) h6.1 (by rw [q2, q3]; exact h6.2) rfl rfl hd ?_
        have hlt : zad B a < H.size := (Array.getElem?_eq_some_iff.mp q1).1
        refine kk _ _ (S.set h3 ha.2 (zfit_ok hsh hvo hv) (fun w hw => List.mem_cons_of_mem _ (List.mem_cons_of_mem _ hw)) (zobj_set hci hsh hj f1 q2 q3 q4 hap ?_) (by simp) (fun q hq => by simp [Array.getElem?_setIfInBounds, Ne.symm hq]) (fun q hq => (List.mem_append.mp hq).imp id (fun h => by rw [List.mem_singleton.mp h]))) (znx_set h3)
        rw [← hsl]
        simp [Array.getElem?_setIfInBounds, hlt]
      · cases h
    · cases h
  · cases h
theorem zs_gets (S : zSt B D aD L xs k s H locs ls LS st M) (C : zCtx B D aD L xs k p s m args meth c) {n : Nat} (hd : decode (zcode k) pc = .ok (.getstatic n, 3)) (h : (match zlk (zSl (zcl k)) n with | some (w, _) => some (pc + 3, ls, zA (w : Int) :: st, M) | none => none) = some (pc', ls', st', M'))
    (kk : ∀ LS', zSt B D aD L xs k s H locs ls' LS' st' M' → M' = M → W p l e R s m args below meth c H locs cells slots Q (F0 m pc' LS' (st'.map (zenc B)))) : W p l e R s m args below meth c H locs cells slots Q (F0 m pc LS (st.map (zenc B))) := by
  obtain ⟨hx, hb, -, hown, hts, -, hK, -, -, -, -, hZ1, hZ2, -, -, hN, -⟩ := C
  split at h
  · next w nest eq =>
    obtain ⟨rfl, rfl, rfl, rfl⟩ := zsome h
    have h1 := zSl_ok (zcl k) _ (zlk_mem _ _ _ eq)
    unfold zSlOk at h1
    simp only [Bool.and_eq_true, Bool.or_eq_true] at h1
    obtain ⟨h2, h3⟩ := h1
    have h3 : w = 1 ∨ w = 2 := h3.imp Nat.eq_of_beq_eq_true Nat.eq_of_beq_eq_true
    have go : W p l e R s m args below meth c H locs cells slots Q (F0 m (pc + 3) LS (zrv B (w : Int) :: st.map (zenc B))) :=
      kk LS (S.to fun v hv => (List.mem_cons.mp hv).elim (fun e => e ▸ (show -1 ≤ (w : Int) ∧ (w : Int) < znx M from ⟨by omega, by have := S.1.1; omega⟩)) (S.2.2.2.2 v)) rfl
    have hZ : va_Z "SkippingKeys" (zSn w) "[I" (zrv B (w : Int)) (zAq B) s s.heap := by
      rcases h3 with rfl | rfl
      · rw [zrv_ref (by decide)]; exact hZ1
      · rw [zrv_ref (by decide)]; exact hZ2
    cases hn : Nat.beq nest.1 0 with
    | true =>
      rw [hn] at h2
      exact va_gets hx hb hZ S.2.2.1 hown (hts _ (zhas_in h2)) (fun _ h => h) hd go
    | false =>
      rw [hn] at h2
      exact va_getsN hx hb hZ S.2.2.1 hown (va_Nw.use rfl (hN _ (of_decide_eq_true h2))) (fun _ h => h) hd go
  · cases h
theorem zkl_at {n w : Nat} {x : Int} {q : zPos} (h : zlk (zKl (zcl k)) n = some (w, x, q)) : (w = 0 → Cond.constant (zcn (zcl k)) n (Int32.ofInt x) ∈ zTs ∧ zi32 x) ∧ (w ≠ 0 → Cond.constantLong (zcn (zcl k)) n (Int64.ofInt x) ∈ zTs ∧ zi64 x) := by
  have h1 := zKl_ok (zcl k) _ (zlk_mem _ _ _ h)
  unfold zKlOk at h1
  constructor
  · intro hw
    subst hw
    have h2 : (zhas q (.constant (zcn (zcl k)) n (Int32.ofInt x)) && decide (-2147483648 ≤ x ∧ x < 2147483648)) = true := h1
    rw [Bool.and_eq_true] at h2
    have h3 : -2147483648 ≤ x ∧ x < 2147483648 := of_decide_eq_true h2.2
    exact ⟨zhas_in h2.1, h3⟩
  · intro hw
    have h0 : Nat.beq w 0 = false := by cases w with | zero => exact absurd rfl hw | succ w => rfl
    have h2 : (bif Nat.beq w 0 then (zhas q (.constant (zcn (zcl k)) n (Int32.ofInt x)) && decide (-2147483648 ≤ x ∧ x < 2147483648)) else (zhas q (.constantLong (zcn (zcl k)) n (Int64.ofInt x)) && decide (-9223372036854775808 ≤ x ∧ x < 9223372036854775808))) = true := h1
    rw [h0] at h2
    have h2 : (zhas q (.constantLong (zcn (zcl k)) n (Int64.ofInt x)) && decide (-9223372036854775808 ≤ x ∧ x < 9223372036854775808)) = true := h2
    rw [Bool.and_eq_true] at h2
    have h3 : -9223372036854775808 ≤ x ∧ x < 9223372036854775808 := of_decide_eq_true h2.2
    exact ⟨zhas_in h2.1, h3⟩
theorem zs_ld (S : zSt B D aD L xs k s H locs ls LS st M) {i n : Nat} {v : ZV} (hv : zget ls i = some v) (h : some (pc + n, ls, v :: st, M) = some (pc', ls', st', M'))
    (row : LS[i]? = some (.val (zenc B v)) → W p l e R s m args below meth c H locs cells slots Q (F0 m (pc + n) LS (zenc B v :: st.map (zenc B))) → W p l e R s m args below meth c H locs cells slots Q (F0 m pc LS (st.map (zenc B))))
    (kk : ∀ LS', zSt B D aD L xs k s H locs ls' LS' st' M' → M' = M → W p l e R s m args below meth c H locs cells slots Q (F0 m pc' LS' (st'.map (zenc B)))) : W p l e R s m args below meth c H locs cells slots Q (F0 m pc LS (st.map (zenc B))) := by
  obtain ⟨h1, h2⟩ := S.2.2.2.1.2.2.2 i v hv
  exact zs_kon S h2 h (row h1) kk
theorem zs_stv (S : zSt B D aD L xs k s H locs ls LS st M) {i n : Nat} {v : ZV} {r : ZS} (hst : st = v :: r) (h : some (pc + n, zput ls i v, r, M) = some (pc', ls', st', M')) (hi : i < ls.length) (h2 : z2 v = false)
    (row : ∀ lv' : List (Nat × Value), lv_has LS (zmaxL k) (zll B ls) → i < zmaxL k → (i, zenc B v) :: (zll B ls).filter (fun q => !(q.1 == i) && !(q.1 + 1 == i && q.2.category == 2)) = lv' →
      (∀ LS' : Array Slot, lv_has LS' (zmaxL k) lv' → W p l e R s m args below meth c H locs cells slots Q (F0 m (pc + n) LS' (r.map (zenc B)))) → W p l e R s m args below meth c H locs cells slots Q (F0 m pc LS (zenc B v :: r.map (zenc B))))
    (kk : ∀ LS', zSt B D aD L xs k s H locs ls' LS' st' M' → M' = M → W p l e R s m args below meth c H locs cells slots Q (F0 m pc' LS' (st'.map (zenc B)))) : W p l e R s m args below meth c H locs cells slots Q (F0 m pc LS (st.map (zenc B))) := by
  subst hst
  obtain ⟨rfl, rfl, rfl, rfl⟩ := zsome h
  have hv : zokV (znx M) v := S.2.2.2.2 v List.mem_cons_self
  refine row _ S.2.2.2.1.has (by rw [← S.2.2.2.1.1]; exact hi) rfl (fun LS' g => ?_)
  exact kk LS' ⟨S.1, S.2.1, S.2.2.1, S.2.2.2.1.put1 hv h2 g, fun w hw => S.2.2.2.2 w (List.mem_cons_of_mem _ hw)⟩ rfl
end ZFLD
end
section
/-! ===== calls ===== -/
def zy (k : Nat) : MethodName := (zrow k).1
def zws (k : Nat) : List Cond := Cond.code (zy k) (zcode k) (zmaxL k) (zret k) :: zTs
def zsz (a : Int) : Nat := if (zsh a).1 < 10 then ((zsh a).2).toNat else zNf ((zsh a).1 - 10)
def zsum : Nat → Nat
  | 0 => 0
  | n + 1 => zsum n + zsz ((n : Int) + 3)
def zsl (M : ZM) : Nat := zsum (znx M - 3).toNat
theorem zsum_mono {a b : Nat} (h : a ≤ b) : zsum a ≤ zsum b := by
  induction b with
  | zero => rw [Nat.le_zero.mp h]; exact Nat.le_refl _
  | succ b ih =>
    by_cases q : a = b + 1
    · rw [q]; exact Nat.le_refl _
    · exact Nat.le_trans (ih (by omega)) (Nat.le_add_right _ _)
def zdc (M M' : ZM) : Nat := (znx M').toNat - (znx M).toNat
def zds (M M' : ZM) : Nat := zsl M' - zsl M
theorem zdc_self {M M' : ZM} (h : znx M' = znx M) : zdc M M' = 0 := by unfold zdc; rw [h]; exact Nat.sub_self _
theorem zds_self {M M' : ZM} (h : znx M' = znx M) : zds M M' = 0 := by unfold zds zsl; rw [h]; exact Nat.sub_self _
def zroom (d : Nat) (M M' : ZM) : Room := { frames := d, cells := zdc M M', slots := zds M M', locals := 64 * d }
def zPc (B : zBs) (D : va_G) (aD : Nat → ClassId) (L : Nat) (xs : Nat → Int32) (av : ZS) (M : ZM) : Array Value → State → Prop := fun v U => v = (av.map (zenc B)).toArray ∧ zU B D aD L xs U ∧ zH B D aD M U.heap ∧ zS L xs M ∧ ∀ x ∈ av, zokV (znx M) x
def zQc (B : zBs) (D : va_G) (aD : Nat → ClassId) (L : Nat) (xs : Nat → Int32) (r : Option ZV) (M' : ZM) : Array Value → State → Outcome → State → Prop := fun _ st o t => o = .returned (r.map (zenc B)) ∧ zH B D aD M' t.heap ∧ zS L xs M' ∧ (∀ v, r = some v → zokV (znx M') v) ∧ va_F (zAq B) st t
def zRet (B : zBs) (k pc : Nat) (r : Option ZV) (ST : List Value) : Prop := match r with
  | none => decode (zcode k) pc = .ok (.return_, 1) ∧ ST = [] ∧ zret k = none
  | some (.inl x) => decode (zcode k) pc = .ok (.ireturn, 1) ∧ ST = [.int (Int32.ofInt x)] ∧ (zret k = some .int ∨ (zret k = some .boolean ∧ 0 ≤ x ∧ x ≤ 1))
  | some (.inr (.inl x)) => decode (zcode k) pc = .ok (.lreturn, 1) ∧ ST = [.long (Int64.ofInt x)] ∧ zret k = some .long
  | some (.inr (.inr a)) => decode (zcode k) pc = .ok (.areturn, 1) ∧ ST = [zrv B a] ∧ 0 ≤ a ∧ ((∃ n, zret k = some (.object n)) ∨ ∃ t, zret k = some (.array t))
def zSnd (l : Launch) (B : zBs) (D : va_G) (aD : Nat → ClassId) (L : Nat) (xs : Nat → Int32) (n : Nat) : Prop :=
  ∀ (d k pc : Nat) (ls : ZL) (st : ZS) (M : ZM) (r : Option ZV) (M' : ZM), zbody n d k pc ls st M = some (r, M') →
    ∀ (p : Program) (e : Env) (R : Room) (s : State) (m : MethodId) (args : Array Value) (below : List Frame) (meth : Method) (c : Code), zCtx B D aD L xs k p s m args meth c → d ≤ R.frames → 64 * d ≤ R.locals →
    ∀ (H : Heap) (locs : List Loc) (LS : Array Slot) (cells slots : Nat) (Q : State → Prop), zSt B D aD L xs k s H locs ls LS st M → cells + zdc M M' ≤ R.cells → slots + zds M M' ≤ R.slots →
      (∀ (H1 : Heap) (locs1 : List Loc) (LS1 : Array Slot) (pc1 : Nat) (ST : List Value), zH B D aD M' H1 → zS L xs M' → va_S (zAq B) s.heap H1 locs1 → (∀ v, r = some v → zokV (znx M') v) → zRet B k pc1 r ST → W p l e R s m args below meth c H1 locs1 (cells + zdc M M') (slots + zds M M') Q (F0 m pc1 LS1 ST)) →
      W p l e R s m args below meth c H locs cells slots Q (F0 m pc LS (st.map (zenc B)))
theorem zNs_on : ∀ w ∈ zNs, w.onTables = true := by
  intro w hw
  have h : zNs.all (fun w => w.onTables) = true := by decide +kernel
  exact List.all_eq_true.mp h w hw
theorem zNs_warm {s U : State} (hW : s.WarmedH U.vm) : ∀ w ∈ zNs, va_Nw w s → va_Nw w U := by
  intro w hw h
  simp only [zNs, List.mem_cons, List.not_mem_nil, or_false] at hw
  rcases hw with rfl | rfl | rfl | rfl | rfl | rfl | rfl | rfl | rfl | rfl | rfl <;> first | exact va_Nw.warmM hW h | exact va_Nw.warmF hW h
theorem zU.moved {B : zBs} {D : va_G} {aD : Nat → ClassId} {L : Nat} {xs : Nat → Int32} {u U : State} (h : zU B D aD L xs u) (hvm : u.vm.Alike U.vm) (hN : ∀ w ∈ zNs, va_Nw w u → va_Nw w U) (hs : u.heap.size ≤ U.heap.size) (hk : ∀ q : Nat, q < u.heap.size → ¬ zAq B q → U.heap[q]? = u.heap[q]?) : zU B D aD L xs U := by
  obtain ⟨h1, h2, h3, h4, h5, h6, h7, h8, h9, h10, h11⟩ := h
  refine ⟨va_K.moved hvm h1, (h2.moved hvm).kept (hk _ (by omega) (show ¬ B.2.2.2 ≤ B.1 by omega)), h3, h4, by omega, (h6.moved hvm).kept hk, (h7.moved hvm).kept hk, (h8.moved hvm).kept hk, (h9.moved hvm).kept hk, fun w hw => hN w hw (h10 w hw), h11.moved hvm⟩
/-- the rows of the method tables, read -/
theorem zmf {k : Nat} (h : zkind k ≤ 2) : Cond.code (zy k) (zcode k) (zmaxL k) (zret k) ∈ zTs ∧ (zkind k = 0 → Cond.static (zy k) ∈ zTs) ∧ (zkind k ≠ 0 → Cond.instanceMethod (zy k) ∈ zTs) ∧ Cond.initialized (zy k).cls ∈ zTs ∧ (zkind k = 1 → Cond.selects (zy k).cls (zy k) (zy k) ∈ zTs) ∧ (zkind k = 2 → (zy k).name = "<init>") ∧
    ((zy k).cls ≠ "java/lang/invoke/MethodHandle" ∧ (zy k).cls ≠ "java/lang/invoke/VarHandle" ∧ (parseMethodDescriptor (zy k).desc).map (fun d => d.parameters.length) = some (znp k)) ∧ plainName (zy k).cls = true ∧ zmaxL k ≤ 40 ∧ (zy k).cls = zcn (zcl k) ∧ zcl k ≤ 12 ∧ (zkind k = 2 → zret k = none) := by
  obtain ⟨h1, h2⟩ := zm_ok k
  have h2 : (zpart (zrow k).2.2.2.2.2.2.2.1.1)[(zrow k).2.2.2.2.2.2.2.1.2]? = some (.code (zy k) (zcode k) (zmaxL k) (zret k)) := h2.resolve_left (by unfold zkind at h; omega)
  unfold zmOk at h1
  rw [Bool.or_eq_true] at h1
  rcases h1 with h1 | h1
  · have := Nat.le_of_ble_eq_true h1
    unfold zkind at h
    omega
  · simp only [Bool.and_eq_true] at h1
    obtain ⟨⟨⟨⟨⟨⟨⟨⟨⟨h3, h4⟩, h5⟩, h6⟩, h7⟩, h8⟩, h9⟩, h10⟩, h11⟩, h12⟩ := h1
    refine ⟨List.mem_filter.mpr ⟨zpart_in (List.mem_of_getElem? h2), rfl⟩, fun q => ?_, fun q => ?_, zhas_in h4, fun q => ?_, fun q => ?_, of_decide_eq_true h7, h8, Nat.le_of_ble_eq_true h9, of_decide_eq_true h10, Nat.le_of_ble_eq_true h11, fun q => ?_⟩
    · have e : Nat.beq (zrow k).2.2.2.2.1 0 = true := by rw [show (zrow k).2.2.2.2.1 = 0 from q]; rfl
      rw [e] at h3
      exact zhas_in h3
    · have e : Nat.beq (zrow k).2.2.2.2.1 0 = false := by
        cases z : (zrow k).2.2.2.2.1 with
        | zero => exact absurd z q
        | succ n => rfl
      rw [e] at h3
      exact zhas_in h3
    · have e : Nat.beq (zrow k).2.2.2.2.1 1 = true := by rw [show (zrow k).2.2.2.2.1 = 1 from q]; rfl
      rw [e] at h5
      simp only [Bool.not_true, Bool.false_or] at h5
      exact zhas_in h5
    · have e : Nat.beq (zrow k).2.2.2.2.1 2 = true := by rw [show (zrow k).2.2.2.2.1 = 2 from q]; rfl
      rw [e] at h6
      simp only [Bool.not_true, Bool.false_or] at h6
      exact of_decide_eq_true h6
    · have e : Nat.beq (zrow k).2.2.2.2.1 2 = true := by rw [show (zrow k).2.2.2.2.1 = 2 from q]; rfl
      rw [e] at h12
      simp only [Bool.not_true, Bool.false_or] at h12
      exact of_decide_eq_true h12
theorem zslots_at {B : zBs} : ∀ (av : ZS) (i : Nat) (v : ZV), (zslots av)[i]? = some (some v) → (lg_sl (av.map (zenc B)))[i]? = some (.val (zenc B v)) ∧ v ∈ av
  | [], i, v, h => by simp [zslots] at h
  | .inr (.inl x) :: r, i, v, h => by
    have e : lg_sl ((((.inr (.inl x) : ZV) :: r).map (zenc B))) = .val (.long (Int64.ofInt x)) :: .second :: lg_sl (r.map (zenc B)) := rfl
    rw [e]
    unfold zslots at h
    match i, h with
    | 0, h => cases h; exact ⟨rfl, List.mem_cons_self⟩
    | 1, h => cases h
    | i + 2, h =>
      have h2 := zslots_at (B := B) r i v h
      exact ⟨h2.1, List.mem_cons_of_mem _ h2.2⟩
  | .inl x :: r, i, v, h => by
    have e : lg_sl ((((.inl x : ZV) :: r).map (zenc B))) = .val (.int (Int32.ofInt x)) :: lg_sl (r.map (zenc B)) := rfl
    rw [e]
    unfold zslots at h
    match i, h with
    | 0, h => cases h; exact ⟨rfl, List.mem_cons_self⟩
    | i + 1, h =>
      have h2 := zslots_at (B := B) r i v h
      exact ⟨h2.1, List.mem_cons_of_mem _ h2.2⟩
  | .inr (.inr x) :: r, i, v, h => by
    have e : lg_sl ((((.inr (.inr x) : ZV) :: r).map (zenc B))) = .val (zrv B x) :: lg_sl (r.map (zenc B)) := by
      show lg_sl (zrv B x :: r.map (zenc B)) = _
      have : (zrv B x).category ≠ 2 := fun q => by have := (z2_cat (B := B) (.inr (.inr x))).mp q; cases this
      simp only [lg_sl, List.flatMap_cons, if_neg this, List.singleton_append]
    rw [e]
    unfold zslots at h
    match i, h with
    | 0, h => cases h; exact ⟨rfl, List.mem_cons_self⟩
    | i + 1, h =>
      have h2 := zslots_at (B := B) r i v h
      exact ⟨h2.1, List.mem_cons_of_mem _ h2.2⟩
theorem zslots_len {B : zBs} : ∀ (av : ZS), (lg_sl (av.map (zenc B))).length = (zslots av).length
  | [] => rfl
  | .inr (.inl x) :: r => by
    have e : lg_sl ((((.inr (.inl x) : ZV) :: r).map (zenc B))) = .val (.long (Int64.ofInt x)) :: .second :: lg_sl (r.map (zenc B)) := rfl
    rw [e]
    simp only [zslots, List.length_cons, zslots_len r]
  | .inl x :: r => by
    have e : lg_sl ((((.inl x : ZV) :: r).map (zenc B))) = .val (.int (Int32.ofInt x)) :: lg_sl (r.map (zenc B)) := rfl
    rw [e]
    simp only [zslots, List.length_cons, zslots_len r]
  | .inr (.inr x) :: r => by
    have e : lg_sl ((((.inr (.inr x) : ZV) :: r).map (zenc B))) = .val (zrv B x) :: lg_sl (r.map (zenc B)) := by
      show lg_sl (zrv B x :: r.map (zenc B)) = _
      have : (zrv B x).category ≠ 2 := fun q => by have := (z2_cat (B := B) (.inr (.inr x))).mp q; cases this
      simp only [lg_sl, List.flatMap_cons, if_neg this, List.singleton_append]
    rw [e]
    simp only [zslots, List.length_cons, zslots_len r]
theorem zentry_lr {B : zBs} {n : Int} {t : Nat} {av : ZS} (hl : (zslots av).length ≤ zmaxL t) (hv : ∀ x ∈ av, zokV n x) : zlr B n (zmaxL t) (zentry t av) ((lg_sl (av.map (zenc B)) ++ List.replicate (zmaxL t - (lg_sl (av.map (zenc B))).length) Slot.unset).toArray) := by
  have g := lv_entry (av.map (zenc B)) (n := zmaxL t) (by rw [zslots_len]; exact hl)
  refine ⟨by unfold zentry; simp; omega, g.1, g.2.1, fun i v h => ?_⟩
  have h1 := zget_some h
  unfold zentry at h1
  by_cases q : i < (zslots av).length
  · rw [List.getElem?_append_left q] at h1
    obtain ⟨h2, h3⟩ := zslots_at (B := B) av i v h1
    refine ⟨?_, hv v h3⟩
    rw [List.getElem?_toArray, List.getElem?_append_left (by rw [zslots_len]; exact q)]
    exact h2
  · rw [List.getElem?_append_right (by omega)] at h1
    have h2 := List.mem_of_getElem? h1
    have h3 := List.eq_of_mem_replicate h2
    cases h3
theorem zmet {l : Launch} {B : zBs} {D : va_G} {aD : Nat → ClassId} {L : Nat} {xs : Nat → Int32} {n : Nat} (hS : zSnd l B D aD L xs n) {d t : Nat} {av : ZS} {M M' : ZM} {r : Option ZV} (hrun : zbody n d t 0 (zentry t av) [] M = some (r, M')) (hk : zkind t ≤ 2) (hlen : (zslots av).length ≤ zmaxL t) :
    Met l (zy t) (zws t) (zroom d M M') (zPc B D aD L xs av M) (zQc B D aD L xs r M') (zdc M M') (zds M M') (zAq B) := by
  obtain ⟨f1, f2, f3, f4, f5, f6, f7, f8, f9, f10, f11, f12⟩ := zmf hk
  refine Met.ofW (cc := zcode t) (maxL := zmaxL t) (ret := zret t) f8 rfl ?_
  intro p e s m args below meth c s₁ Bd hml hv
  obtain ⟨rfl, hU, hH, hSS, hav⟩ := hv
  have hts0 := atoms_spec (ws := zws t) Bd.pre
  have hts : ∀ w ∈ zTs, w.before ((av.map (zenc B)).toArray) s = true := fun w hw => hts0 w (List.mem_cons_of_mem _ hw)
  have hown : s.vm.findClass (zcn (zcl t)) = some m.cls := by rw [← f10]; exact findClass_of_methodNamed Bd.named
  have hlocks := Bd.notSynchronized
  have hr := Bd.returns
  have hx := Bd.exec
  have hb := Bd.bytes
  have hin : zkind t = 2 → meth.name = "<init>" := fun q => by rw [(name_of_methodNamed Bd.named Bd.method).1, f6 q]
  rw [lg_entry_eq]
  refine hS d t 0 (zentry t av) [] M r M' hrun p e _ s m _ below meth c ⟨hx, hb, hml, hown, hts, hin, hU⟩ (Nat.le_refl _) (Nat.le_refl _) s.heap [] _ 0 0 _ ⟨hH, hSS, va_S.rf, zentry_lr hlen hav, fun v hv => by cases hv⟩ (by rw [Nat.zero_add]; exact Nat.le_refl _) (by rw [Nat.zero_add]; exact Nat.le_refl _) ?_
  intro H1 locs1 LS1 pc1 ST hH1 hS1 hF hr1 hR
  rw [Nat.zero_add, Nat.zero_add]
  match r, hR, hr1 with
  | none, hR, hr1 =>
    obtain ⟨q1, rfl, q3⟩ := hR
    exact W.vret hx hb (hr.trans q3) (fun t ht hW => ⟨rfl, by rw [ht]; exact hH1, hS1, hr1, hF.F ht⟩) hF.2.2 q1
  | some (.inl x), hR, hr1 =>
    obtain ⟨q1, rfl, q3⟩ := hR
    rcases q3 with q3 | ⟨q3, q4⟩
    · exact W.iret hx hb (hr.trans q3) (fun t ht hW => ⟨rfl, by rw [ht]; exact hH1, hS1, hr1, hF.F ht⟩) hF.2.2 q1
    · exact W.zret hx hb (hr.trans q3) (znar_z q4) (fun t ht hW => ⟨rfl, by rw [ht]; exact hH1, hS1, hr1, hF.F ht⟩) hF.2.2 q1
  | some (.inr (.inl x)), hR, hr1 =>
    obtain ⟨q1, rfl, q3⟩ := hR
    exact W.lret hx hb (hr.trans q3) (fun t ht hW => ⟨rfl, by rw [ht]; exact hH1, hS1, hr1, hF.F ht⟩) hF.2.2 q1
  | some (.inr (.inr a)), hR, hr1 =>
    obtain ⟨q1, rfl, q3, q4⟩ := hR
    have hv : zrv B a = .null ∨ ∃ b, zrv B a = .ref b := Or.inr ⟨_, zrv_ref q3⟩
    rcases q4 with ⟨n, q4⟩ | ⟨ty, q4⟩
    · exact W.aret hx hb (hr.trans q4) (Or.inl ⟨_, rfl⟩) hv (fun t ht hW => ⟨rfl, by rw [ht]; exact hH1, hS1, hr1, hF.F ht⟩) hF.2.2 q1
    · exact W.aret hx hb (hr.trans q4) (Or.inr ⟨_, rfl⟩) hv (fun t ht hW => ⟨rfl, by rw [ht]; exact hH1, hS1, hr1, hF.F ht⟩) hF.2.2 q1
theorem zPc_blind {B : zBs} {D : va_G} {aD : Nat → ClassId} {L : Nat} {xs : Nat → Int32} {av : ZS} {M : ZM} : FrameBlind (zPc B D aD L xs av M) := by
  intro a U g mk h
  obtain ⟨h1, h2, h3⟩ := h
  exact ⟨h1, h2.moved (u := U) (U := U.calling g mk a) (Vm.Alike.refl U.vm) (fun w hw h => va_Nw.same (u := U) (U := U.calling g mk a) (zNs_on w hw) rfl h) (Nat.le_refl _) (fun _ _ _ => rfl), h3⟩
theorem zready_at {kind t : Nat} {st args r : ZS} (h : zready kind t st = some (args, r)) : zkind t = kind ∧ kind ≤ 2 ∧ zcat r ≤ 8 ∧ (zslots args).length ≤ zmaxL t ∧ st = args.reverse ++ r ∧ args.length = znp t + (if kind = 0 then 0 else 1) ∧ (kind = 1 → ∃ a rest, args = .inr (.inr a) :: rest ∧ zsh a = (10 + zcl t, 0) ∧ zcl t < 10) ∧ (kind = 2 → ∃ a rest, args = .inr (.inr a) :: rest ∧ 0 ≤ a) := by
  unfold zready at h
  by_cases hk : zkind t = kind ∧ kind ≤ 2
  · rw [if_pos hk] at h
    dsimp only at h
    by_cases hc : znp t + (if kind = 0 then 0 else 1) ≤ st.length ∧ zcat (st.drop (znp t + (if kind = 0 then 0 else 1))) ≤ 8 ∧ (zslots (st.take (znp t + (if kind = 0 then 0 else 1))).reverse).length ≤ zmaxL t
    · rw [if_pos hc] at h
      obtain ⟨c1, c2, c3⟩ := hc
      obtain ⟨hk1, hk2⟩ := hk
      have key : ∀ args r : ZS, (st.take (znp t + (if kind = 0 then 0 else 1))).reverse = args → st.drop (znp t + (if kind = 0 then 0 else 1)) = r → zcat r ≤ 8 ∧ (zslots args).length ≤ zmaxL t ∧ st = args.reverse ++ r ∧ args.length = znp t + (if kind = 0 then 0 else 1) := by
        intro args r e1 e2
        subst e1
        subst e2
        refine ⟨c2, c3, ?_, ?_⟩
        · rw [List.reverse_reverse, List.take_append_drop]
        · rw [List.length_reverse, List.length_take]
          omega
      have h3 : kind = 0 ∨ kind = 1 ∨ kind = 2 := by omega
      rcases h3 with rfl | rfl | rfl
      · cases h
        obtain ⟨g1, g2, g3, g4⟩ := key _ _ rfl rfl
        exact ⟨hk1, hk2, g1, g2, g3, g4, fun q => absurd q (by decide), fun q => absurd q (by decide)⟩
      · generalize e : (st.take (znp t + (if 1 = 0 then 0 else 1))).reverse = ta at h key
        match ta, h with
        | .inr (.inr a) :: av, h =>
          have h : (if zsh a = (10 + zcl t, 0) ∧ zcl t < 10 then some (.inr (.inr a) :: av, st.drop (znp t + (if 1 = 0 then 0 else 1))) else none) = some (args, r) := h
          split at h
          · next hs =>
            cases h
            obtain ⟨g1, g2, g3, g4⟩ := key _ _ rfl rfl
            exact ⟨hk1, hk2, g1, g2, g3, g4, fun _ => ⟨a, av, rfl, hs⟩, fun q => absurd q (by decide)⟩
          · cases h
        | .inr (.inl a) :: av, h => cases h
        | .inl a :: av, h => cases h
        | [], h => cases h
      · generalize e : (st.take (znp t + (if 2 = 0 then 0 else 1))).reverse = ta at h key
        match ta, h with
        | .inr (.inr a) :: av, h =>
          have h : (if 0 ≤ a then some (.inr (.inr a) :: av, st.drop (znp t + (if 2 = 0 then 0 else 1))) else none) = some (args, r) := h
          split at h
          · next hs =>
            cases h
            obtain ⟨g1, g2, g3, g4⟩ := key _ _ rfl rfl
            exact ⟨hk1, hk2, g1, g2, g3, g4, fun q => absurd q (by decide), fun _ => ⟨a, av, rfl, hs⟩⟩
          · cases h
        | .inr (.inl a) :: av, h => cases h
        | .inl a :: av, h => cases h
        | [], h => cases h
    · rw [if_neg hc] at h
      cases h
  · rw [if_neg hk] at h
    cases h
end
section
/-! ===== calls, and what is made ===== -/
theorem zokV.mono {n n' : Int} {v : ZV} (h : zokV n v) (hn : n ≤ n') : zokV n' v := by
  match v, h with
  | .inl x, h => exact h
  | .inr (.inl x), h => exact h
  | .inr (.inr a), h =>
    have h : -1 ≤ a ∧ a < n := h
    exact ⟨h.1, by omega⟩
theorem zlr.mono {B : zBs} {n n' : Int} {N : Nat} {ls : ZL} {LS : Array Slot} (h : zlr B n N ls LS) (hn : n ≤ n') : zlr B n' N ls LS := ⟨h.1, h.2.1, h.2.2.1, fun i v hv => ⟨(h.2.2.2 i v hv).1, (h.2.2.2 i v hv).2.mono hn⟩⟩
theorem zgood_ws {t : Nat} (hk : zkind t ≤ 2) : GoodIn zTs (zws t) := fun w hw => by
  have hm : w ∈ zTs := (List.mem_cons.mp hw).elim (fun e => e ▸ (zmf hk).1) id
  exact ⟨hm, zTs_good w hm⟩
def zinv (kind j : Nat) : Instr := match kind with
  | 0 => .invokestatic j
  | 1 => .invokevirtual j
  | _ => .invokespecial j
section ZCALL
variable {p : Program} {l : Launch} {e : Env} {R : Room} {s : State} {m : MethodId} {args : Array Value} {below : List Frame} {meth : Method} {c : Code} {H : Heap} {locs : List Loc} {cells slots : Nat} {Q : State → Prop}
variable {B : zBs} {D : va_G} {aD : Nat → ClassId} {L : Nat} {xs : Nat → Int32} {k : Nat} {pc pc' : Nat} {ls ls' : ZL} {st st' : ZS} {M M' : ZM} {LS : Array Slot}
theorem zs_run {r : Option ZV} {a : Array Value} {mc ms : Nat} {st0 rest : List Value} (hr : va_Run p l e R s m args below meth c H locs cells slots mc ms (F0 m pc LS st0) rest (zQc B D aD L xs r M' a) (zAq B)) (hS : va_S (zAq B) s.heap H locs)
    (kk : ∀ (H1 : Heap) (locs1 : List Loc), zH B D aD M' H1 → zS L xs M' → va_S (zAq B) s.heap H1 locs1 → (∀ v, r = some v → zokV (znx M') v) → W p l e R s m args below meth c H1 locs1 (cells + mc) (slots + ms) Q (F0 m (pc + 3) LS ((r.map (zenc B)).toList ++ rest))) : W p l e R s m args below meth c H locs cells slots Q (F0 m pc LS st0) := by
  intro T hT X
  obtain ⟨v, st₀, t, T', L2, h0, X', hL, e1, e2, ⟨hv, hH, hSS, hok, hz, hk⟩, st⟩ := hr T hT X
  have hv : v = r.map (zenc B) := Outcome.returned.inj hv
  subst hv
  rw [h0] at hz hk
  obtain ⟨t2, a1, b1⟩ := kk T'.heap (locs ++ L2) (by rw [e1]; exact hH) hSS ⟨Nat.le_trans hS.1 (by rw [e1]; exact hz), fun q h1 h2 => by rw [e1, hk q (Nat.lt_of_lt_of_le h1 hS.1) h2]; exact hS.2.1 q h1 h2, fun q hq => by
      rcases List.mem_append.mp hq with h | h
      · exact hS.2.2 q h
      · exact hL q h⟩ hok T' rfl X'
  exact ⟨t2, st t2 a1, b1⟩
theorem zs_pre (S : zSt B D aD L xs k s H locs ls LS st M) (C : zCtx B D aD L xs k p s m args meth c) {av : ZS} (hav : ∀ x ∈ av, x ∈ st) : PreS s H (zPc B D aD L xs av M) (av.map (zenc B)) := by
  obtain ⟨-, -, -, -, -, -, hU⟩ := C
  exact ⟨zPc_blind, fun U hU1 hW => ⟨rfl, hU.moved hW.alike (zNs_warm hW) (by rw [hU1]; exact S.2.2.1.1) (fun q h1 h2 => by rw [hU1]; exact S.2.2.1.2.1 q h1 h2), by rw [hU1]; exact S.1, S.2.1, fun x hx => S.2.2.2.2 x (hav x hx)⟩⟩
/-- a call of method t, by whichever instruction: what its words say, and it goes on -/
theorem zs_call {n d t kind j : Nat} {q : Nat × zPos} (hS : zSnd l B D aD L xs n) (S : zSt B D aD L xs k s H locs ls LS st M) (C : zCtx B D aD L xs k p s m args meth c) (hlk : zlk (zMl (zcl k)) j = some (t, q)) {av r : ZS} (hrd : zready kind t st = some (av, r)) {v : Option ZV}
    (hrun : zbody n d t 0 (zentry t av) [] M = some (v, M')) (hnx : znx M ≤ znx M') (hfr : d + 1 ≤ R.frames) (hlo : 64 * (d + 1) ≤ R.locals) (hc : cells + zdc M M' ≤ R.cells) (hs : slots + zds M M' ≤ R.slots)
    (hd : decode (zcode k) pc = .ok (zinv kind j, 3))
    (kk : ∀ (H1 : Heap) (locs1 : List Loc), zSt B D aD L xs k s H1 locs1 ls LS (v.toList ++ r) M' → W p l e R s m args below meth c H1 locs1 (cells + zdc M M') (slots + zds M M') Q (F0 m (pc + 3) LS ((v.toList ++ r).map (zenc B)))) : W p l e R s m args below meth c H locs cells slots Q (F0 m pc LS (st.map (zenc B))) := by
  obtain ⟨g1, g2, g3, g4, g5, g6, g7, g8⟩ := zready_at hrd
  have hk2 : zkind t ≤ 2 := by omega
  have hM := zmet hS hrun hk2 g4
  obtain ⟨f1, f2, f3, f4, f5, f6, ⟨fa, fb, fc⟩, f8, f9, f10, f11, f12⟩ := zmf hk2
  have hC := C
  obtain ⟨hx, hb, hml, hown, hts, hinit, hU⟩ := C
  have hl0 := zMl_ok (zcl k) _ (zlk_mem _ _ _ hlk)
  have hlink : zhas q.2 (.methodLink (zcn (zcl k)) j (zy t)) = true ∨ Cond.methodLinkNest (zcn (zcl k)) j (zy t) "SkippingKeys" ∈ zNs := by
    unfold zMlOk at hl0
    have nb : ∀ u : Nat, zkind u = 9 → Nat.beq t u = false := fun u hu => by
      cases z : Nat.beq t u with
      | true =>
        have e := Nat.eq_of_beq_eq_true z
        rw [e] at hk2
        omega
      | false => rfl
    dsimp only at hl0
    rw [nb 1000 (by decide), nb 1001 (by decide), nb 1002 (by decide), nb 1003 (by decide)] at hl0
    cases z : Nat.beq q.1 0 with
    | true => rw [z] at hl0; exact Or.inl hl0
    | false => rw [z] at hl0; exact Or.inr (of_decide_eq_true hl0)
  have hst : st.map (zenc B) = (av.map (zenc B)).reverse ++ r.map (zenc B) := by rw [g5, List.map_append, List.map_reverse]
  have hmem : ∀ x ∈ av, x ∈ st := fun x hx => by rw [g5]; exact List.mem_append_left _ (List.mem_reverse.mpr hx)
  have hroom : (zroom d M M').frames + 1 ≤ R.frames ∧ 8 + (zmaxL t + 11) + (zroom d M M').locals ≤ R.locals := ⟨hfr, by show 8 + (zmaxL t + 11) + 64 * d ≤ R.locals; omega⟩
  have hn : ∀ sig, parseMethodDescriptor (zy t).desc = some sig → znp t = sig.parameters.length := fun sig h => by
    rw [h] at fc
    exact (Option.some.inj fc).symm
  have hcb : (zroom d M M').cells = zdc M M' ∧ (zroom d M M').slots = zds M M' ∧ (zroom d M M').frames + 1 ≤ R.frames ∧ 8 + (zmaxL t + 11) + (zroom d M M').locals ≤ R.locals ∧ (∀ w ∈ zws t, ∀ (a' : Array Value) (U : State), s.WarmedH U.vm → w.before a' U = true) ∧ Cond.code (zy t) (zcode t) (zmaxL t) (zret t) ∈ zws t := ⟨rfl, rfl, hroom.1, hroom.2, pay_in hts (zgood_ws hk2), List.mem_cons_self⟩
  have hfix : CallFix p m c (zcode k) (zmaxL k) s args zTs (zcn (zcl k)) := ⟨hx, hb, hml, hown, hts⟩
  have hcat : 2 * (F0 m pc LS (st.map (zenc B))).monitorRoom + ((r.map (zenc B)).map fun v => v.category).sum ≤ 8 := by
    rw [zcat_sum]
    show 2 * 0 + zcat r ≤ 8
    omega
  have go : ∀ {a : Array Value}, va_Run p l e R s m args below meth c H locs cells slots (zdc M M') (zds M M') (F0 m pc LS (st.map (zenc B))) (r.map (zenc B)) (zQc B D aD L xs v M' a) (zAq B) → W p l e R s m args below meth c H locs cells slots Q (F0 m pc LS (st.map (zenc B))) := by
    intro a hr
    refine zs_run hr S.2.2.1 (fun H1 locs1 q1 q2 q3 q4 => ?_)
    have e1 : (v.map (zenc B)).toList ++ r.map (zenc B) = (v.toList ++ r).map (zenc B) := by
      rw [List.map_append]
      cases v <;> rfl
    rw [e1]
    refine kk H1 locs1 ⟨q1, q2, q3, S.2.2.2.1.mono hnx, fun w hw => ?_⟩
    rcases List.mem_append.mp hw with h | h
    · exact q4 w (by cases v with
        | none => cases h
        | some z => rw [List.mem_singleton.mp h])
    · exact (S.2.2.2.2 w (by rw [g5]; exact List.mem_append_right _ h)).mono hnx
  have hk3 : kind = 0 ∨ kind = 1 ∨ kind = 2 := by omega
  rcases hk3 with rfl | rfl | rfl
  · rw [if_pos rfl, Nat.add_zero] at g6
    have hpre := zs_pre S hC hmem
    rcases hlink with hl | hl
    · exact go (va_runS (n := znp t) (bytes := zcode t) (maxL := zmaxL t) (ret := zret t) hfix hM ⟨⟨hcb.1, hcb.2.1, hcb.2.2.1, hcb.2.2.2.1, hcb.2.2.2.2.1, hcb.2.2.2.2.2, hts _ f1, hts _ f4, ⟨fa, fb⟩, hn, hts _ (zhas_in hl)⟩, hts _ (f2 g1)⟩ hpre rfl (by rw [List.length_map]; exact g6) S.2.2.2.1.2.1 hst hcat hd ⟨hc, hs⟩)
    · exact go (va_runSN (n := znp t) (bytes := zcode t) (maxL := zmaxL t) (ret := zret t) hfix hM ⟨⟨hcb, hts _ f1, hts _ f4, ⟨fa, fb⟩, hn, va_Nw.use rfl (hU.2.2.2.2.2.2.2.2.2.1 _ hl)⟩, hts _ (f2 g1), trivial⟩ hpre rfl (by rw [List.length_map]; exact g6) S.2.2.2.1.2.1 hst hcat hd ⟨hc, hs⟩)
  · obtain ⟨a, av2, rfl, hsh, hci⟩ := g7 rfl
    have hpre := zs_pre S hC hmem
    have ha : -1 ≤ a ∧ a < znx M := S.2.2.2.2 (.inr (.inr a)) (hmem _ List.mem_cons_self)
    have h3 : 3 ≤ a := zsh_low (by rw [hsh]; show 10 + zcl t ≠ 20; omega) (by rw [hsh]; show 10 + zcl t ≠ 21; omega) (by rw [hsh]; show 10 + zcl t ≠ 99; omega)
    have hg := zW_get (B := B) (aD := aD) h3 ha.2
    rw [zent_obj hsh] at hg
    obtain ⟨cellB, r1, r2, r3⟩ := va_recv hU.1 S.1.2.2.1 (zvw hci) hg
    have hst2 : st.map (zenc B) = (av2.map (zenc B)).reverse ++ .ref (zad B a) :: r.map (zenc B) := by
      rw [hst]
      show (zrv B a :: av2.map (zenc B)).reverse ++ _ = _
      rw [zrv_ref (by omega), List.reverse_cons, List.append_assoc]
      rfl
    have hpv : PreV s H (zcn (zcl t)) (zad B a) (zPc B D aD L xs (.inr (.inr a) :: av2) M) (av2.map (zenc B)) := by
      refine ⟨hpre.1, ⟨cellB, r1, r2, r3⟩, fun U h1 h2 => ?_⟩
      have := hpre.2 U h1 h2
      have e2 : (.ref (zad B a) :: av2.map (zenc B)) = (((.inr (.inr a) : ZV) :: av2).map (zenc B)) := by
        show _ = zrv B a :: av2.map (zenc B)
        rw [zrv_ref (by omega)]
      rw [e2]
      exact this
    have hn2 : (av2.map (zenc B)).length = znp t := by
      rw [List.length_map]
      have : av2.length + 1 = znp t + 1 := g6
      omega
    have fcls : (zy t).cls = zcn (zcl t) := f10
    have hsel : (Cond.selects (zcn (zcl t)) (zy t) (zy t)).before args s = true := by rw [← fcls]; exact hts _ (f5 g1)
    rcases hlink with hl | hl
    · exact go (va_runV (n := znp t) (bytes := zcode t) (maxL := zmaxL t) (ret := zret t) hfix hM ⟨⟨hcb.1, hcb.2.1, hcb.2.2.1, hcb.2.2.2.1, hcb.2.2.2.2.1, hcb.2.2.2.2.2, hts _ f1, hts _ f4, ⟨fa, fb⟩, hn, hts _ (zhas_in hl)⟩, hts _ (f3 (by omega)), hsel⟩ hpv rfl hn2 S.2.2.2.1.2.1 hst2 hcat hd ⟨hc, hs⟩)
    · exact go (va_runVN (n := znp t) (bytes := zcode t) (maxL := zmaxL t) (ret := zret t) hfix hM ⟨⟨hcb, hts _ f1, hts _ f4, ⟨fa, fb⟩, hn, va_Nw.use rfl (hU.2.2.2.2.2.2.2.2.2.1 _ hl)⟩, hts _ (f3 (by omega)), hsel⟩ hpv rfl hn2 S.2.2.2.1.2.1 hst2 hcat hd ⟨hc, hs⟩)
  · obtain ⟨a, av2, rfl, ha0⟩ := g8 rfl
    have hpre := zs_pre S hC hmem
    have hst2 : st.map (zenc B) = (av2.map (zenc B)).reverse ++ .ref (zad B a) :: r.map (zenc B) := by
      rw [hst]
      show (zrv B a :: av2.map (zenc B)).reverse ++ _ = _
      rw [zrv_ref ha0, List.reverse_cons, List.append_assoc]
      rfl
    have hpi : PreS s H (zPc B D aD L xs (.inr (.inr a) :: av2) M) (.ref (zad B a) :: av2.map (zenc B)) := by
      have e2 : (.ref (zad B a) :: av2.map (zenc B)) = (((.inr (.inr a) : ZV) :: av2).map (zenc B)) := by
        show _ = zrv B a :: av2.map (zenc B)
        rw [zrv_ref ha0]
      rw [e2]
      exact hpre
    have hn2 : (av2.map (zenc B)).length = znp t := by
      rw [List.length_map]
      have : av2.length + 1 = znp t + 1 := g6
      omega
    have hrn : zret t = none := f12 g1
    rw [hrn] at hcb f1
    rcases hlink with hl | hl
    · exact go (va_runI (n := znp t) (bytes := zcode t) (maxL := zmaxL t) hfix hM ⟨⟨hcb.1, hcb.2.1, hcb.2.2.1, hcb.2.2.2.1, hcb.2.2.2.2.1, hcb.2.2.2.2.2, hts _ f1, hts _ f4, ⟨fa, fb⟩, hn, hts _ (zhas_in hl)⟩, f6 g1, hts _ (f3 (by omega))⟩ hpi rfl hn2 S.2.2.2.1.2.1 hst2 hcat hd ⟨hc, hs⟩)
    · exact go (va_runIN (n := znp t) (bytes := zcode t) (maxL := zmaxL t) hfix hM ⟨⟨hcb, hts _ f1, hts _ f4, ⟨fa, fb⟩, hn, va_Nw.use rfl (hU.2.2.2.2.2.2.2.2.2.1 _ hl)⟩, f6 g1, hts _ (f3 (by omega))⟩ hpi rfl hn2 S.2.2.2.1.2.1 hst2 hcat hd ⟨hc, hs⟩)
theorem zs_mm {t j : Nat} {q : Nat × zPos} (S : zSt B D aD L xs k s H locs ls LS st M) (C : zCtx B D aD L xs k p s m args meth c) (hd : decode (zcode k) pc = .ok (.invokestatic j, 3)) (hlk : zlk (zMl (zcl k)) j = some (t, q)) (ht : t = 1002 ∨ t = 1003) (h : zmm t (pc + 3) ls st M = some (pc', ls', st', M')) (hfr : 1 ≤ R.frames) (hlo : 64 ≤ R.locals) (hcl : cells ≤ R.cells) (hsl : slots ≤ R.slots)
    (kk : ∀ LS', zSt B D aD L xs k s H locs ls' LS' st' M' → M' = M → W p l e R s m args below meth c H locs cells slots Q (F0 m pc' LS' (st'.map (zenc B)))) : W p l e R s m args below meth c H locs cells slots Q (F0 m pc LS (st.map (zenc B))) := by
  obtain ⟨hx, hb, hml, hown, hts, hinit, hU⟩ := C
  have hl0 := zMl_ok (zcl k) _ (zlk_mem _ _ _ hlk)
  unfold zMlOk at hl0
  unfold zmm at h
  split at h
  · next y x r =>
    split at h
    · next hcat =>
      obtain ⟨rfl, rfl, rfl, rfl⟩ := zsome h
      have hy : zi32 y := S.2.2.2.2 (.inl y) List.mem_cons_self
      have hxx : zi32 x := S.2.2.2.2 (.inl x) (List.mem_cons_of_mem _ List.mem_cons_self)
      have hS : ∀ w ∈ r, zokV (znx M) w := fun w hw => S.2.2.2.2 w (List.mem_cons_of_mem _ (List.mem_cons_of_mem _ hw))
      have hsum : ((r.map (zenc B)).map fun v => v.category).sum + 13 ≤ R.locals := by rw [zcat_sum]; omega
      have hsz : c.maxLocals = LS.size := by rw [hml]; exact S.2.2.2.1.2.1.symm
      show W p l e R s m args below meth c H locs cells slots Q (F0 m pc LS (.int (Int32.ofInt y) :: .int (Int32.ofInt x) :: r.map (zenc B)))
      rcases ht with rfl | rfl
      · have hl : (zhas q.2 (.methodLink (zcn (zcl k)) j Lib.Math.max.name) && Nat.beq q.1 0) = true := hl0
        rw [Bool.and_eq_true] at hl
        refine va_mmax hx hb hsz hown (hts _ (zhas_in hl.1)) (hts _ zx_mxs) (hts _ zx_mi) (hts _ zx_mxc) hfr hsum hcl hsl hd ?_
        have g : zokV (znx M) (zI (if x < y then y else x)) := by
          show zi32 (if x < y then y else x)
          split
          · exact hy
          · exact hxx
        have w := kk LS (S.to (st' := zI (if x < y then y else x) :: r) fun v hv => (List.mem_cons.mp hv).elim (fun e => e ▸ g) (hS v)) rfl
        have e1 : (if Int32.ofInt x < Int32.ofInt y then Int32.ofInt y else Int32.ofInt x) = Int32.ofInt (if x < y then y else x) := by
          by_cases z : x < y
          · rw [if_pos z, if_pos ((zlt32 hxx hy).mpr z)]
          · rw [if_neg z, if_neg (fun u => z ((zlt32 hxx hy).mp u))]
        rw [e1]
        exact w
      · have hl : (zhas q.2 (.methodLink (zcn (zcl k)) j Lib.Math.min.name) && Nat.beq q.1 0) = true := hl0
        rw [Bool.and_eq_true] at hl
        refine va_mmin hx hb hsz hown (hts _ (zhas_in hl.1)) (hts _ zx_mns) (hts _ zx_mi) (hts _ zx_mnc) hfr hsum hcl hsl hd ?_
        have g : zokV (znx M) (zI (if y < x then y else x)) := by
          show zi32 (if y < x then y else x)
          split
          · exact hy
          · exact hxx
        have w := kk LS (S.to (st' := zI (if y < x then y else x) :: r) fun v hv => (List.mem_cons.mp hv).elim (fun e => e ▸ g) (hS v)) rfl
        have e1 : (if Int32.ofInt y < Int32.ofInt x then Int32.ofInt y else Int32.ofInt x) = Int32.ofInt (if y < x then y else x) := by
          by_cases z : y < x
          · rw [if_pos z, if_pos ((zlt32 hy hxx).mpr z)]
          · rw [if_neg z, if_neg (fun u => z ((zlt32 hy hxx).mp u))]
        rw [e1]
        exact w
    · cases h
  · cases h
end ZCALL
end
section
/-! ===== what is made ===== -/
theorem zini_in {ci : Nat} (h : ci < 10) : Cond.initialized (zcn ci) ∈ zTs := by
  match ci, h with
  | 0, _ => exact zini_in_0
  | 1, _ => exact zini_in_1
  | 2, _ => exact zini_in_2
  | 3, _ => exact zini_in_3
  | 4, _ => exact zini_in_4
  | 5, _ => exact zini_in_5
  | 6, _ => exact zini_in_6
  | 7, _ => exact zini_in_7
  | 8, _ => exact zini_in_8
  | 9, _ => exact zini_in_9
  | n + 10, h => exact absurd h (by omega)
theorem zmake_old {M : ZM} {a : Int} (h1 : a ≠ -1) (h2 : a ≠ znx M) (j : Int) : zmake M a j = M a j := by
  unfold zmake
  rw [if_neg (fun q => h1 q.1), if_neg (show ¬ a = M (-1) 0 from h2)]
theorem zmake_nx (M : ZM) : znx (zmake M) = znx M + 1 := by
  show zmake M (-1) 0 = _
  unfold zmake
  rw [if_pos ⟨rfl, rfl⟩]
  rfl
theorem zmake_new {M : ZM} (h : 3 ≤ znx M) (j : Int) : zmake M (znx M) j = zdef (zsh (znx M)).1 j := by
  unfold zmake
  rw [if_neg (fun q => by have := q.1; omega), if_pos (show znx M = M (-1) 0 from rfl)]
theorem zin_mono {n n' : Int} {k : Nat} {x : Int} (h : zin n k x) (hn : n ≤ n') : zin n' k x := by
  unfold zin at h ⊢
  split
  · exact h
  · exact h
  · exact h
  · exact h
  · next h0 h1 h2 h3 =>
    split at h
    · exact absurd rfl h0
    · exact absurd rfl h1
    · exact absurd rfl h2
    · exact absurd rfl h3
    · exact ⟨h.1, by omega⟩
theorem zdef_in {n : Int} (hn : 0 ≤ n) (a j : Int) (h5 : (zsh a).1 ≤ 5 ∨ 10 ≤ (zsh a).1) : zin n (zpk a j) (zdef (zsh a).1 j) := by
  unfold zpk zdef
  rcases h5 with h5 | h5
  · by_cases q : (zsh a).1 < 4
    · rw [if_pos q, if_neg (by omega), if_neg (by omega)]
      have : (zsh a).1 = 0 ∨ (zsh a).1 = 1 ∨ (zsh a).1 = 2 ∨ (zsh a).1 = 3 := by omega
      rcases this with e | e | e | e <;> rw [e]
      · exact ⟨by decide, by decide⟩
      · exact ⟨by decide, by decide⟩
      · exact ⟨by decide, by decide⟩
      · exact ⟨by decide, by decide⟩
    · rw [if_neg q, if_pos (by omega), if_pos (by omega)]
      exact ⟨by omega, by omega⟩
  · rw [if_neg (by omega), if_neg (by omega), if_neg (by omega), if_pos h5]
    cases ztyX ((zsh a).1 - 10) j.toNat <;> first | exact (⟨by omega, by omega⟩ : (-1 : Int) ≤ -1 ∧ (-1 : Int) < n) | exact (⟨by decide, by decide⟩ : zi32 0) | exact (⟨by decide, by decide⟩ : (0 : Int) ≤ 0 ∧ (0 : Int) ≤ 1)
theorem zP_push {B : zBs} {D : va_G} {aD : Nat → ClassId} {M M' : ZM} {H H1 : Heap} (hP : va_P D vwCl (zW B aD M) H) (h3 : 3 ≤ znx M) (hx : znx M' = znx M + 1) (ho : ∀ a : Int, 3 ≤ a → a < znx M → ∀ j, M' a j = M a j) (he : va_at D vwCl (zad B (znx M), zent B aD M' (znx M)) H1) (o1 : ∀ q : Nat, q < H.size → H1[q]? = H[q]?) : va_P D vwCl (zW B aD M') H1 := by
  intro i q hq
  have hl : i < (znx M' - 3).toNat := by
    have := (List.getElem?_eq_some_iff.mp hq).1
    rw [zW_len] at this
    exact this
  have g2 := zW_get (B := B) (aD := aD) (M := M') (a := (i : Int) + 3) (by omega) (by omega)
  rw [show ((i : Int) + 3 - 3).toNat = i by omega] at g2
  cases g2.symm.trans hq
  by_cases e : (i : Int) + 3 = znx M
  · rw [e]
    exact he
  · have g1 := zW_get (B := B) (aD := aD) (M := M) (a := (i : Int) + 3) (by omega) (by omega)
    rw [show ((i : Int) + 3 - 3).toNat = i by omega] at g1
    have h := hP i _ g1
    rw [zent_congr (ho _ (by omega) (by omega))]
    exact h.kept (o1 _ h.lt)
theorem zsz_arr {a n : Int} {t : Nat} (h : zsh a = (t, n)) (ht : t < 10) : zsz a = n.toNat := by
  unfold zsz
  rw [h]
  exact if_pos ht
theorem zsl_push {M M' : ZM} (h3 : 3 ≤ znx M) (hx : znx M' = znx M + 1) : zds M M' = zsz (znx M) ∧ zdc M M' = 1 := by
  unfold zds zsl zdc
  rw [hx, show (znx M + 1 - 3).toNat = (znx M - 3).toNat + 1 by omega]
  have e : zsum ((znx M - 3).toNat + 1) = zsum (znx M - 3).toNat + zsz ((((znx M - 3).toNat : Nat) : Int) + 3) := rfl
  rw [e, show (((znx M - 3).toNat : Nat) : Int) + 3 = znx M by omega]
  exact ⟨by omega, by omega⟩
theorem znq {a n : Int} {t u : Nat} (h : zsh a = (t, n)) (d : t ≠ u) : ¬ (zsh a).1 = u := by rw [h]; exact d
theorem zad_nx {B : zBs} {M : ZM} {H : Heap} (h3 : 3 ≤ znx M) (hz : znx M < 3 + (zshL.length : Int) → H.size = B.2.2.2 + (znx M - 3).toNat) (h99 : (zsh (znx M)).1 ≠ 99) : H.size = zad B (znx M) := by
  have hz := hz (zsh_lt h3 h99)
  unfold zad
  rw [if_neg (by omega), if_neg (by omega), if_neg (by omega)]
  exact hz
/-- a cell more: the new state -/
theorem zSt.push {B : zBs} {D : va_G} {aD : Nat → ClassId} {L : Nat} {xs : Nat → Int32} {k : Nat} {s : State} {H H1 : Heap} {locs : List Loc} {ls : ZL} {LS : Array Slot} {st st' : ZS} {M : ZM} (S : zSt B D aD L xs k s H locs ls LS st M) (h5 : (zsh (znx M)).1 ≤ 5 ∨ 10 ≤ (zsh (znx M)).1) (h99 : (zsh (znx M)).1 ≠ 99)
    (hst : ∀ w ∈ st', w ∈ st ∨ w = zA (znx M)) (he : va_at D vwCl (zad B (znx M), zent B aD (zmake M) (znx M)) H1) (z : H1.size = H.size + 1) (o1 : ∀ q : Nat, q < H.size → H1[q]? = H[q]?) : zSt B D aD L xs k s H1 locs ls LS st' (zmake M) := by
  obtain ⟨⟨g1, g2, g3, g4⟩, ⟨s1, s2, s3, s4⟩, g6, g7, g8⟩ := S
  have hold : ∀ a : Int, a ≠ -1 → a < znx M → ∀ j, zmake M a j = M a j := fun a h1 h2 j => zmake_old h1 (by omega) j
  refine ⟨⟨by rw [zmake_nx]; omega, fun _ => by rw [z, g2 (zsh_lt g1 h99), zmake_nx]; omega, zP_push g3 g1 (zmake_nx M) (fun a h1 h2 j => hold a (by omega) h2 j) he o1, ?_⟩, ⟨by rw [hold 0 (by decide) (by omega)]; exact s1, fun j hj => by rw [hold 0 (by decide) (by omega)]; exact s2 j hj, fun j hj => by rw [hold 1 (by decide) (by omega)]; exact s3 j hj, fun j hj => by rw [hold 2 (by decide) (by omega)]; exact s4 j hj⟩, ⟨by rw [z]; exact Nat.le_succ_of_le g6.1, fun q h1 h2 => (o1 q (Nat.lt_of_lt_of_le h1 g6.1)).trans (g6.2.1 q h1 h2), g6.2.2⟩, by rw [zmake_nx]; exact g7.mono (by omega), fun w hw => ?_⟩
  · intro a h1 h2 j h4 h5'
    rw [zmake_nx] at h2 ⊢
    by_cases q : a = znx M
    · subst q
      rw [zmake_new g1]
      exact zdef_in (by omega) _ j h5
    · rw [hold a (by omega) (by omega)]
      exact zin_mono (g4 a h1 (by omega) j h4 h5') (by omega)
  · rw [zmake_nx]
    rcases hst w hw with h | rfl
    · exact (g8 w h).mono (by omega)
    · exact ⟨by omega, by omega⟩
section ZNEW
variable {p : Program} {l : Launch} {e : Env} {R : Room} {s : State} {m : MethodId} {args : Array Value} {below : List Frame} {meth : Method} {c : Code} {H : Heap} {locs : List Loc} {cells slots : Nat} {Q : State → Prop}
variable {B : zBs} {D : va_G} {aD : Nat → ClassId} {L : Nat} {xs : Nat → Int32} {k : Nat} {pc pc' : Nat} {ls ls' : ZL} {st st' : ZS} {M M' : ZM} {LS : Array Slot}
theorem zcl_at {n w : Nat} {q : zPos} (h : zlk (zCl (zcl k)) n = some (w, q)) : Cond.classLink (zcn (zcl k)) n (bif Nat.beq w 100 then "[[J" else zcn w) ∈ zTs ∧ (w = 100 ∨ w < 10) := by
  have h1 := zCl_ok (zcl k) _ (zlk_mem _ _ _ h)
  unfold zClOk at h1
  rw [Bool.and_eq_true, Bool.or_eq_true] at h1
  exact ⟨zhas_in h1.1, h1.2.imp Nat.eq_of_beq_eq_true (fun q => Nat.lt_of_lt_of_le (Nat.lt_succ_self _) (Nat.le_of_ble_eq_true q))⟩
theorem zs_new (S : zSt B D aD L xs k s H locs ls LS st M) (C : zCtx B D aD L xs k p s m args meth c) {n : Nat} (hd : decode (zcode k) pc = .ok (.new n, 3)) (h : znew (zlk (zCl (zcl k)) n) (pc + 3) ls st M = some (pc', ls', st', M')) (hc : cells + zdc M M' ≤ R.cells) (hs : slots + zds M M' ≤ R.slots)
    (kk : ∀ H1 locs1, zSt B D aD L xs k s H1 locs1 ls' LS st' M' → W p l e R s m args below meth c H1 locs1 (cells + zdc M M') (slots + zds M M') Q (F0 m pc' LS (st'.map (zenc B)))) : W p l e R s m args below meth c H locs cells slots Q (F0 m pc LS (st.map (zenc B))) := by
  obtain ⟨hx, hb, -, hown, hts, -, hK, -⟩ := C
  unfold znew at h
  split at h
  · next ci q eq =>
    split at h
    · next hcc =>
      obtain ⟨rfl, rfl, rfl, rfl⟩ := zsome h
      obtain ⟨hc90, hsh⟩ := hcc
      obtain ⟨hlk, hci⟩ := zcl_at eq
      have hci : ci < 10 := by omega
      have e0 : Nat.beq ci 100 = false := by
        cases z : Nat.beq ci 100 with
        | true => have := Nat.eq_of_beq_eq_true z; omega
        | false => rfl
      rw [e0] at hlk
      have h3 := S.1.1
      have h99 : (zsh (znx M)).1 ≠ 99 := by rw [hsh]; show 10 + ci ≠ 99; omega
      obtain ⟨z1, z2⟩ := zsl_push h3 (zmake_nx M)
      have z3 : zsz (znx M) = zNf ci := by
        unfold zsz
        rw [hsh]
        simp only [show ¬ 10 + ci < 10 from by omega, if_false, Nat.add_sub_cancel_left]
      rw [z1, z2, z3] at kk
      rw [z1, z3] at hs
      rw [z2] at hc
      have hKn := hK.1 ci _ (zvw hci)
      refine W.newcK hx hb hown (hts _ hlk) (hts _ (zci_in hci)) (hts _ (zini_in hci)) rfl hd hc hs hKn.2.1 (zad_nx h3 S.1.2.1 h99) fun H1 kC hkC e1 z1 o1 => ?_
      have hz : zad B (znx M) = H.size := (zad_nx h3 S.1.2.1 h99).symm
      have step := kk H1 locs (S.push (st' := zA (znx M) :: st) (H1 := H1) (by rw [hsh]; right; show 10 ≤ 10 + ci; omega) h99 (fun w hw => (List.mem_cons.mp hw).elim Or.inr Or.inl) ?_ (by rw [z1, hz]) (fun q hq => o1 q (by rw [hz]; exact hq)))
      · show W p l e R s m args below meth c H1 locs (cells + 1) (slots + zNf ci) Q (F0 m (pc + 3) LS (.ref (zad B (znx M)) :: st.map (zenc B)))
        rw [← zrv_ref (B := B) (a := znx M) (by omega)]
        exact step
      · rw [zent_obj hsh]
        refine ⟨(zcn ci, zTX ci, zNf ci), zvw hci, (u_born (ztyX ci) hts (zcw_in hci) hKn hkC e1 (zty_ok hci)).to (fun j hj => ?_)⟩
        unfold vp_V
        rw [List.getD_eq_getElem?_getD, List.getElem?_map, List.getElem?_range hj]
        show defaultValue (ztyX ci j) = zencF B (ztyX ci j) (zmake M (znx M) j)
        rw [zmake_new h3, hsh]
        unfold zdef
        rw [if_neg (show ¬ (10 + ci = 4 ∨ 10 + ci = 5) by omega), if_pos (show 10 ≤ 10 + ci by omega), Nat.add_sub_cancel_left, Int.toNat_natCast]
        rcases zty_nl ci hci j hj with e | e | ⟨n, e⟩ | ⟨t, e⟩ <;> rw [e] <;> rfl
    · cases h
  · cases h
theorem zs_newa (S : zSt B D aD L xs k s H locs ls LS st M) (C : zCtx B D aD L xs k p s m args meth c) {at' : ArrayType} (hd : decode (zcode k) pc = .ok (.newarray at', 2)) (ha3 : zatype at' ≤ 3) (h : znewa (zatype at') (pc + 2) ls st M = some (pc', ls', st', M')) (hc : cells + zdc M M' ≤ R.cells) (hs : slots + zds M M' ≤ R.slots)
    (kk : ∀ H1 locs1, zSt B D aD L xs k s H1 locs1 ls' LS st' M' → W p l e R s m args below meth c H1 locs1 (cells + zdc M M') (slots + zds M M') Q (F0 m pc' LS (st'.map (zenc B)))) : W p l e R s m args below meth c H locs cells slots Q (F0 m pc LS (st.map (zenc B))) := by
  obtain ⟨hx, hb, -, hown, hts, -, hK, -⟩ := C
  unfold znewa at h
  split at h
  · next n r =>
    split at h
    · next hcc =>
      obtain ⟨rfl, rfl, rfl, rfl⟩ := zsome h
      obtain ⟨-, hsh, hn0, hn1⟩ := hcc
      have h3 := S.1.1
      have h99 : (zsh (znx M)).1 ≠ 99 := by rw [hsh]; show zatype at' ≠ 99; omega
      obtain ⟨z1, z2⟩ := zsl_push h3 (zmake_nx M)
      have z3 : zsz (znx M) = n.toNat := zsz_arr hsh (by omega)
      rw [z1, z2, z3] at kk
      rw [z1, z3] at hs
      rw [z2] at hc
      have hni : zi32 n := ⟨by omega, by omega⟩
      have hz : zad B (znx M) = H.size := (zad_nx h3 S.1.2.1 h99).symm
      have hnn : ¬ Int32.ofInt n < 0 := by rw [← z0of, zlt32 hni z032]; omega
      have key : Cond.arrayClass (newarray.typeOf at') ∈ zTs ∧ n.toNat * componentBytes (newarray.typeOf at') ≤ 536870912 ∧ ∀ (H1 : Heap) (cA : ClassId), H1[zad B (znx M)]? = some (arrV cA n.toNat (fun _ => defaultValue (newarray.typeOf at'))) → s.vm.findClass ("[" ++ (newarray.typeOf at').toString) = some cA → va_at D vwCl (zad B (znx M), zent B aD (zmake M) (znx M)) H1 := by
        have hnew : ∀ j : Nat, zmake M (znx M) j = zdef (zatype at') j := fun j => by rw [zmake_new h3, hsh]
        have hd0 : ∀ j : Int, zdef (zatype at') j = 0 := fun j => by unfold zdef; rw [if_neg (by omega), if_neg (by omega)]
        have e1 : (zsh (znx M)).2.toNat = n.toNat := by rw [hsh]
        cases at' with
        | int =>
          refine ⟨zx_arrI, by show n.toNat * 4 ≤ _; omega, fun H1 cA e f => ?_⟩
          have eA : aD 0 = cA := Option.some.inj (((hK.2 0 _ rfl).2 : s.vm.findClass _ = some (aD 0)).symm.trans f)
          unfold zent
          rw [if_pos (by rw [hsh]; rfl)]
          show H1[_]? = some (vp_cell _ _)
          rw [e, vp_cell_i, eA, e1]
          congr 2
          funext j
          rw [hnew, hd0]; rfl
        | long =>
          refine ⟨zx_arrJ, by show n.toNat * 8 ≤ _; omega, fun H1 cA e f => ?_⟩
          have eA : aD 1 = cA := Option.some.inj (((hK.2 1 _ rfl).2 : s.vm.findClass _ = some (aD 1)).symm.trans f)
          unfold zent
          rw [if_neg (znq hsh (by decide)), if_pos (by rw [hsh]; rfl)]
          show H1[_]? = some (vp_cell _ _)
          rw [e, vp_cell_l, eA, e1]
          congr 2
          funext j
          rw [hnew, hd0]; rfl
        | byte =>
          refine ⟨zx_arrB, by show n.toNat * 1 ≤ _; omega, fun H1 cA e f => ?_⟩
          have eA : aD 2 = cA := Option.some.inj (((hK.2 2 _ rfl).2 : s.vm.findClass _ = some (aD 2)).symm.trans f)
          unfold zent
          rw [if_neg (znq hsh (by decide)), if_neg (znq hsh (by decide)), if_pos (by rw [hsh]; rfl)]
          show H1[_]? = some (vp_cell _ _)
          rw [e, vp_cell_i, eA, e1]
          congr 2
          funext j
          rw [hnew, hd0]; rfl
        | boolean =>
          refine ⟨zx_arrZ, by show n.toNat * 1 ≤ _; omega, fun H1 cA e f => ?_⟩
          have eA : aD 3 = cA := Option.some.inj (((hK.2 3 _ rfl).2 : s.vm.findClass _ = some (aD 3)).symm.trans f)
          unfold zent
          rw [if_neg (znq hsh (by decide)), if_neg (znq hsh (by decide)), if_neg (znq hsh (by decide)), if_pos (by rw [hsh]; rfl)]
          show H1[_]? = some (vp_cell _ _)
          rw [e, vp_cell_i, eA, e1]
          congr 2
          funext j
          rw [hnew, hd0]; rfl
        | char => exact absurd ha3 (by decide)
        | float => exact absurd ha3 (by decide)
        | double => exact absurd ha3 (by decide)
        | short => exact absurd ha3 (by decide)
      obtain ⟨k1, k2, k3⟩ := key
      show W p l e R s m args below meth c H locs cells slots Q (F0 m pc LS (.int (Int32.ofInt n) :: r.map (zenc B)))
      refine va_newaK hx hb (hts _ k1) rfl hd rfl hnn (znc hn0 hni) k2 hc hs (zad_nx h3 S.1.2.1 h99) (fun H1 cA e1 z1 o1 _ f => ?_)
      have step := kk H1 locs (S.push (st' := zA (znx M) :: r) (H1 := H1) (by rw [hsh]; left; show zatype at' ≤ 5; omega) h99 (fun w hw => (List.mem_cons.mp hw).elim Or.inr (fun h => Or.inl (List.mem_cons_of_mem _ h))) (k3 H1 cA e1 f) (by rw [z1, hz]) (fun q hq => o1 q (by rw [hz]; exact hq)))
      show W p l e R s m args below meth c H1 locs (cells + 1) (slots + n.toNat) Q (F0 m (pc + 2) LS (.ref (zad B (znx M)) :: r.map (zenc B)))
      rw [← zrv_ref (B := B) (a := znx M) (by omega)]
      exact step
    · cases h
  · cases h
theorem zs_newq (S : zSt B D aD L xs k s H locs ls LS st M) (C : zCtx B D aD L xs k p s m args meth c) {i : Nat} {q : zPos} (eq : zlk (zCl (zcl k)) i = some (0, q)) (hd : decode (zcode k) pc = .ok (.anewarray i, 3)) (h : znewa 4 (pc + 3) ls st M = some (pc', ls', st', M')) (hc : cells + zdc M M' ≤ R.cells) (hs : slots + zds M M' ≤ R.slots)
    (kk : ∀ H1 locs1, zSt B D aD L xs k s H1 locs1 ls' LS st' M' → W p l e R s m args below meth c H1 locs1 (cells + zdc M M') (slots + zds M M') Q (F0 m pc' LS (st'.map (zenc B)))) : W p l e R s m args below meth c H locs cells slots Q (F0 m pc LS (st.map (zenc B))) := by
  obtain ⟨hx, hb, -, hown, hts, -, hU⟩ := C
  have hK := hU.1
  have hOv := hU.2.2.2.2.2.2.2.2.2.2
  unfold znewa at h
  split at h
  · next n r =>
    split at h
    · next hcc =>
      obtain ⟨rfl, rfl, rfl, rfl⟩ := zsome h
      obtain ⟨-, hsh, hn0, hn1⟩ := hcc
      have h3 := S.1.1
      have h99 : (zsh (znx M)).1 ≠ 99 := znq hsh (by decide)
      obtain ⟨z1, z2⟩ := zsl_push h3 (zmake_nx M)
      have z3 : zsz (znx M) = n.toNat := zsz_arr hsh (by omega)
      rw [z1, z2, z3] at kk
      rw [z1, z3] at hs
      rw [z2] at hc
      have hni : zi32 n := ⟨by omega, by omega⟩
      have hz : zad B (znx M) = H.size := (zad_nx h3 S.1.2.1 h99).symm
      have hnn : ¬ Int32.ofInt n < 0 := by rw [← z0of, zlt32 hni z032]; omega
      have hnc := znc hn0 hni
      show W p l e R s m args below meth c H locs cells slots Q (F0 m pc LS (.int (Int32.ofInt n) :: r.map (zenc B)))
      refine W.anew hx hb hown (C := RX0) (hts _ (zcl_at eq).1) (va_AO.use hOv.1) rfl hd rfl hnn (by rw [hnc]; omega) hc (by rw [hnc]; exact hs) fun cA kA comp f1 f2 f3 f4 => ?_
      rw [hnc]
      generalize hH1 : H.push ({ cls := cA, slots := Array.replicate n.toNat .null, vm := .none } : Cell) = H1
      have z1 : H1.size = H.size + 1 := by rw [← hH1, Array.size_push]
      have e1 : H1[H.size]? = some (arrV cA n.toNat (fun _ => .null)) := by rw [← hH1, Array.getElem?_push_size, ← arrV_new]
      have o1 : ∀ q : Nat, q < H.size → H1[q]? = H[q]? := fun q hq => by rw [← hH1, Array.getElem?_push, if_neg (Nat.ne_of_lt hq)]
      have eA : aD 4 = cA := by
        obtain ⟨kA', comp', g1, g2, g3, g4⟩ : ∃ (kA : Class) (comp : ClassId), s.vm.classes[aD 4]? = some kA ∧ kA.kind = .array comp (.object RX0) ∧ s.vm.findClass RX0 = some comp ∧ s.vm.findClass ("[" ++ (FieldType.object RX0).toString) = some (aD 4) := (hK.2 4 _ rfl).2
        exact Option.some.inj (g4.symm.trans f1)
      have step := kk H1 locs (S.push (st' := zA (znx M) :: r) (H1 := H1) (by rw [hsh]; left; show 4 ≤ 5; decide) h99 (fun w hw => (List.mem_cons.mp hw).elim Or.inr (fun h => Or.inl (List.mem_cons_of_mem _ h))) ?_ z1 o1)
      · show W p l e R s m args below meth c H1 locs (cells + 1) (slots + n.toNat) Q (F0 m (pc + 3) LS (.ref H.size :: r.map (zenc B)))
        rw [← hz, ← zrv_ref (B := B) (a := znx M) (by omega)]
        exact step
      · unfold zent
        rw [if_neg (znq hsh (by decide)), if_neg (znq hsh (by decide)), if_neg (znq hsh (by decide)), if_neg (znq hsh (by decide)), if_pos (by rw [hsh])]
        show H1[zad B (znx M)]? = some (vp_cell _ _)
        rw [hz, e1, vp_cell_q, eA, hsh]
        congr 2
        funext j
        rw [zmake_new h3, hsh]
        rfl
    · cases h
  · cases h
end ZNEW
end
section
/-! ===== rows of rows ===== -/
theorem zmakes_nx : ∀ (n : Nat) (M : ZM), znx (zmakes n M) = znx M + n
  | 0, M => by simp [zmakes]
  | n + 1, M => by
    show znx (zmakes n (zmake M)) = _
    rw [zmakes_nx n, zmake_nx]
    omega
theorem zmakes_old : ∀ (n : Nat) (M : ZM) (a : Int), a ≠ -1 → a < znx M → ∀ j, zmakes n M a j = M a j
  | 0, M, a, h1, h2, j => rfl
  | n + 1, M, a, h1, h2, j => by
    show zmakes n (zmake M) a j = _
    rw [zmakes_old n _ a h1 (by rw [zmake_nx]; omega), zmake_old h1 (by omega)]
theorem zmakes_new : ∀ (n : Nat) (M : ZM) (a : Int), 3 ≤ znx M → znx M ≤ a → a < znx M + n → ∀ j, zmakes n M a j = zdef (zsh a).1 j
  | 0, M, a, h0, h1, h2, j => by omega
  | n + 1, M, a, h0, h1, h2, j => by
    show zmakes n (zmake M) a j = _
    by_cases q : a = znx M
    · subst q
      rw [zmakes_old n _ _ (by omega) (by rw [zmake_nx]; omega), zmake_new h0]
    · exact zmakes_new n _ a (by rw [zmake_nx]; omega) (by rw [zmake_nx]; omega) (by rw [zmake_nx]; omega) j
theorem zsum_rows {k : Int} : ∀ (n N : Nat), (∀ i : Nat, i < n → zsh ((N : Int) + 3 + i) = (1, k)) → zsum (N + n) = zsum N + n * k.toNat
  | 0, N, _ => by simp
  | n + 1, N, h => by
    show zsum (N + n) + zsz (((N + n : Nat) : Int) + 3) = _
    rw [zsum_rows n N (fun i hi => h i (by omega)), zsz_arr (n := k) (t := 1) (by have := h n (by omega); rw [show ((N + n : Nat) : Int) + 3 = (N : Int) + 3 + n by omega]; exact this) (by decide), Nat.add_mul, Nat.one_mul]
    omega
theorem zouter (c : ClassId) (N h0 : Nat) : ∀ i : Nat, Jvm.Free.Multi.outerC c N h0 i = arrV c N (fun j => if j < i then .ref (h0 + 1 + j) else .null)
  | 0 => by
    show ({ cls := c, slots := Array.replicate N .null, vm := .none } : Cell) = _
    rw [arrV_new]
    congr 1
  | i + 1 => by
    show (Jvm.Free.Multi.outerC c N h0 i).setSlot i (.ref (h0 + 1 + i)) = _
    rw [zouter c N h0 i, arrV_store]
    congr 1
    funext j
    unfold updV
    by_cases e : j = i
    · subst e
      rw [if_pos rfl, if_pos (Nat.lt_succ_self _)]
    · rw [if_neg e]
      by_cases h : j < i
      · show (if j < i then _ else _) = _
        rw [if_pos h, if_pos (by omega)]
      · show (if j < i then _ else _) = _
        rw [if_neg h, if_neg (by omega)]
section ZNEWM
variable {p : Program} {l : Launch} {e : Env} {R : Room} {s : State} {m : MethodId} {args : Array Value} {below : List Frame} {meth : Method} {c : Code} {H : Heap} {locs : List Loc} {cells slots : Nat} {Q : State → Prop}
variable {B : zBs} {D : va_G} {aD : Nat → ClassId} {L : Nat} {xs : Nat → Int32} {k : Nat} {pc pc' : Nat} {ls ls' : ZL} {st st' : ZS} {M M' : ZM} {LS : Array Slot}
theorem zs_newm (S : zSt B D aD L xs k s H locs ls LS st M) (C : zCtx B D aD L xs k p s m args meth c) {i : Nat} {q : zPos} (eq : zlk (zCl (zcl k)) i = some (100, q)) (hd : decode (zcode k) pc = .ok (.multianewarray i 2, 4)) (h : znewm (pc + 4) ls st M = some (pc', ls', st', M')) (hc : cells + zdc M M' ≤ R.cells) (hs : slots + zds M M' ≤ R.slots)
    (kk : ∀ H1 locs1, zSt B D aD L xs k s H1 locs1 ls' LS st' M' → W p l e R s m args below meth c H1 locs1 (cells + zdc M M') (slots + zds M M') Q (F0 m pc' LS (st'.map (zenc B)))) : W p l e R s m args below meth c H locs cells slots Q (F0 m pc LS (st.map (zenc B))) := by
  obtain ⟨hx, hb, -, hown, hts, -, hU⟩ := C
  have hK := hU.1
  have hOv := hU.2.2.2.2.2.2.2.2.2.2
  unfold znewm at h
  split at h
  · next w n r =>
    split at h
    · next hcc =>
      obtain ⟨rfl, rfl, rfl, rfl⟩ := zsome h
      obtain ⟨hsh, hn0, hn1, hw0, hw1, hrows⟩ := hcc
      have h3 := S.1.1
      have hn2 : ((n.toNat : Nat) : Int) = n := Int.toNat_of_nonneg hn0
      generalize hM' : (fun a j => if a = znx M ∧ 0 ≤ j ∧ j < n then znx M + 1 + j else zmakes n.toNat (zmake M) a j) = M' at *
      have hnx : znx M' = znx M + 1 + n := by
        show M' (-1) 0 = _
        rw [← hM']
        show (if (-1 : Int) = znx M ∧ _ then _ else _) = _
        rw [if_neg (fun q => by have := q.1; omega)]
        show znx (zmakes n.toNat (zmake M)) = _
        rw [zmakes_nx, zmake_nx, hn2]
      have hold : ∀ a : Int, a ≠ -1 → a < znx M → ∀ j, M' a j = M a j := fun a h1 h2 j => by
        rw [← hM']
        show (if a = znx M ∧ _ then _ else _) = _
        rw [if_neg (fun q => by have := q.1; omega), zmakes_old _ _ a h1 (by rw [zmake_nx]; omega), zmake_old h1 (by omega)]
      have hin : ∀ a : Int, znx M < a → a < znx M + 1 + n → ∀ j, M' a j = zdef (zsh a).1 j := fun a h1 h2 j => by
        rw [← hM']
        show (if a = znx M ∧ _ then _ else _) = _
        rw [if_neg (fun q => by have := q.1; omega), zmakes_new _ _ a (by rw [zmake_nx]; omega) (by rw [zmake_nx]; omega) (by rw [zmake_nx]; omega)]
      have hout : ∀ j : Int, M' (znx M) j = if 0 ≤ j ∧ j < n then znx M + 1 + j else -1 := fun j => by
        rw [← hM']
        show (if znx M = znx M ∧ 0 ≤ j ∧ j < n then _ else _) = _
        by_cases qj : 0 ≤ j ∧ j < n
        · rw [if_pos ⟨rfl, qj⟩, if_pos qj]
        · rw [if_neg (fun q => qj q.2), if_neg qj, zmakes_old _ _ _ (by omega) (by rw [zmake_nx]; omega), zmake_new h3, hsh]
          rfl
      have z2 : zdc M M' = 1 + n.toNat := by unfold zdc; rw [hnx]; omega
      have z1 : zds M M' = n.toNat + n.toNat * w.toNat := by
        unfold zds zsl
        rw [hnx, show (znx M + 1 + n - 3).toNat = ((znx M - 3).toNat + 1) + n.toNat by omega, zsum_rows n.toNat _ (k := w) (fun i hi => by
          have := hrows i hi
          rw [show ((((znx M - 3).toNat + 1 : Nat) : Int) + 3 + i) = znx M + 1 + i by omega]
          exact this)]
        show zsum (znx M - 3).toNat + zsz ((((znx M - 3).toNat : Nat) : Int) + 3) + _ - _ = _
        rw [show (((znx M - 3).toNat : Nat) : Int) + 3 = znx M by omega, zsz_arr hsh (by decide)]
        omega
      rw [z1, z2] at kk
      rw [z1] at hs
      rw [z2] at hc
      have hni : zi32 n := ⟨by omega, by omega⟩
      have hwi : zi32 w := ⟨by omega, by omega⟩
      have hz : H.size = zad B (znx M) := zad_nx h3 S.1.2.1 (znq hsh (by decide))
      have hnn : ¬ Int32.ofInt n < 0 := by rw [← z0of, zlt32 hni z032]; omega
      have hww : ¬ Int32.ofInt w < 0 := by rw [← z0of, zlt32 hwi z032]; omega
      have hnc := znc hn0 hni
      have hwc := znc hw0 hwi
      show W p l e R s m args below meth c H locs cells slots Q (F0 m pc LS (.int (Int32.ofInt w) :: .int (Int32.ofInt n) :: r.map (zenc B)))
      intro T hT Xs
      obtain ⟨vm₁, cA, comp, -, fA, fC, hO, hI, X', step⟩ := Xs.multianewarray2F hx (ty := .long) hown (hts _ (zcl_at eq).1) hOv.2 (hts _ zx_arrJ) (g := F0 m pc LS (.int (Int32.ofInt w) :: .int (Int32.ofInt n) :: r.map (zenc B))) rfl (by rw [hb]; exact hd) rfl hnn hww (by rw [hnc]; omega) (by rw [hwc]; show w.toNat * 8 ≤ _; omega) (by rw [hwc]; omega) rfl rfl (by rw [hnc]; exact hc) (by rw [hnc, hwc]; exact hs)
      rw [hnc, hwc] at X' step
      generalize hF : Jvm.Free.Multi.fill (T.setVm vm₁) cA comp n.toNat w.toNat (defaultValue .long) n.toNat = F at X' step
      have hTh : (T.setVm vm₁).heap = H := hT
      obtain ⟨f1, f2, -, -⟩ := Jvm.Free.Multi.fill_facts (T.setVm vm₁) cA comp n.toNat w.toNat (defaultValue .long) n.toNat
      rw [hF, hTh] at f1 f2
      have fold : ∀ x : Nat, x < H.size → F.heap[x]? = H[x]? := fun x hx => by
        have := Jvm.Free.Multi.fill_old (T.setVm vm₁) cA comp n.toNat w.toNat (defaultValue .long) (a := x) (by rw [hTh]; exact hx) n.toNat
        rw [hF, hTh] at this
        exact this
      have frow : ∀ j : Nat, j < n.toNat → F.heap[H.size + 1 + j]? = some (Jvm.Free.Multi.innerC comp w.toNat (defaultValue .long)) := fun j hj => by
        have := Jvm.Free.Multi.fill_inner (T.setVm vm₁) cA comp n.toNat w.toNat (defaultValue .long) n.toNat j hj
        rw [hF, hTh] at this
        exact this
      have eA5 : aD 5 = cA := Option.some.inj (((hK.2 5 _ rfl).2 : s.vm.findClass _ = some (aD 5)).symm.trans fA)
      have eA1 : aD 1 = comp := Option.some.inj (((hK.2 1 _ rfl).2 : s.vm.findClass _ = some (aD 1)).symm.trans fC)
      have hP' : va_P D vwCl (zW B aD M') F.heap := by
        intro i q hq
        have hl : i < (znx M' - 3).toNat := by
          have := (List.getElem?_eq_some_iff.mp hq).1
          rw [zW_len] at this
          exact this
        have g2 := zW_get (B := B) (aD := aD) (M := M') (a := (i : Int) + 3) (by omega) (by omega)
        rw [show ((i : Int) + 3 - 3).toNat = i by omega] at g2
        cases g2.symm.trans hq
        by_cases e1 : (i : Int) + 3 < znx M
        · have g1 := zW_get (B := B) (aD := aD) (M := M) (a := (i : Int) + 3) (by omega) e1
          rw [show ((i : Int) + 3 - 3).toNat = i by omega] at g1
          have h := S.1.2.2.1 i _ g1
          rw [zent_congr (hold _ (by omega) e1)]
          exact h.kept (fold _ h.lt)
        · by_cases e2 : (i : Int) + 3 = znx M
          · rw [e2]
            unfold zent
            rw [if_neg (znq hsh (by decide)), if_neg (znq hsh (by decide)), if_neg (znq hsh (by decide)), if_neg (znq hsh (by decide)), if_neg (znq hsh (by decide)), if_pos (by rw [hsh])]
            show F.heap[zad B (znx M)]? = some (vp_cell _ _)
            rw [← hz, f2, vp_cell_q, eA5, hsh, zouter]
            congr 2
            funext j
            rw [zro_rf, hout j]
            by_cases qj : j < n.toNat
            · rw [if_pos qj, if_pos ⟨by omega, by omega⟩, zrv_ref (by omega)]
              have ez : zad B (znx M + 1 + (j : Int)) = H.size + 1 + j := by
                rw [hz]
                unfold zad
                rw [if_neg (by omega), if_neg (by omega), if_neg (by omega), if_neg (by omega), if_neg (by omega), if_neg (by omega)]
                omega
              rw [ez]
            · rw [if_neg qj, if_neg (fun q => qj (by omega))]
              rfl
          · have e3 : (i : Int) + 3 < znx M + 1 + n := by omega
            have hsi := hrows ((i : Int) + 3 - (znx M + 1)).toNat (by omega)
            rw [show znx M + 1 + ((((i : Int) + 3 - (znx M + 1)).toNat : Nat) : Int) = (i : Int) + 3 by omega] at hsi
            have ea : zad B ((i : Int) + 3) = H.size + 1 + ((i : Int) + 3 - (znx M + 1)).toNat := by
              rw [hz]
              unfold zad
              rw [if_neg (by omega), if_neg (by omega), if_neg (by omega), if_neg (by omega), if_neg (by omega), if_neg (by omega)]
              omega
            unfold zent
            rw [if_neg (znq hsi (by decide)), if_pos (by rw [hsi])]
            show F.heap[zad B ((i : Int) + 3)]? = some (vp_cell _ _)
            rw [ea, frow _ (by omega), vp_cell_l, eA1, hsi]
            show some ({ cls := comp, slots := Array.replicate w.toNat (defaultValue .long), vm := .none } : Cell) = _
            rw [arrV_new]
            congr 2
            funext j
            rw [hin _ (by omega) e3, hsi]
            rfl
      have hS2 : zSt B D aD L xs k s F.heap locs ls LS (zA (znx M) :: r) M' := by
        refine ⟨⟨by omega, fun _ => by rw [f1, S.1.2.1 (zsh_lt h3 (znq hsh (by decide))), hnx]; omega, hP', ?_⟩, ?_, ⟨by rw [f1]; have := S.2.2.1.1; omega, fun x g1 g2 => (fold x (Nat.lt_of_lt_of_le g1 S.2.2.1.1)).trans (S.2.2.1.2.1 x g1 g2), S.2.2.1.2.2⟩, S.2.2.2.1.mono (by omega), fun v hv => ?_⟩
        · intro a g1 g2 j g4 g5
          by_cases e1 : a < znx M
          · rw [hold a (by omega) e1]
            exact zin_mono (S.1.2.2.2 a g1 e1 j g4 g5) (by omega)
          · by_cases e2 : a = znx M
            · subst e2
              rw [hout j, zpk_at (t := 5) (by rw [hsh]) (by decide)]
              show -1 ≤ _ ∧ _ < znx M'
              split <;> omega
            · rw [hin a (by omega) (by omega)]
              have hsi := hrows (a - (znx M + 1)).toNat (by omega)
              rw [show znx M + 1 + (((a - (znx M + 1)).toNat : Nat) : Int) = a by omega] at hsi
              exact zdef_in (by omega) a j (Or.inl (by rw [hsi]; exact (by decide : (1 : Nat) ≤ 5)))
        · obtain ⟨s1, s2, s3, s4⟩ := S.2.1
          exact ⟨by rw [hold 0 (by decide) (by omega)]; exact s1, fun j hj => by rw [hold 0 (by decide) (by omega)]; exact s2 j hj, fun j hj => by rw [hold 1 (by decide) (by omega)]; exact s3 j hj, fun j hj => by rw [hold 2 (by decide) (by omega)]; exact s4 j hj⟩
        · rcases List.mem_cons.mp hv with rfl | hv
          · exact ⟨by omega, by omega⟩
          · exact (S.2.2.2.2 v (List.mem_cons_of_mem _ (List.mem_cons_of_mem _ hv))).mono (by omega)
      rw [Nat.add_assoc, Nat.add_assoc] at X'
      obtain ⟨t, a1, b1⟩ := kk F.heap locs hS2 F rfl X'
      refine ⟨t, step t ?_, b1⟩
      have e9 : (zA (znx M) :: r).map (zenc B) = .ref T.heap.size :: r.map (zenc B) := by
        show zrv B (znx M) :: _ = _
        rw [zrv_ref (by omega), hT, hz]
      rw [e9] at a1
      exact a1
    · cases h
  · cases h
end ZNEWM
end
section
/-! ===== one step, whole ===== -/
section ZSTEPS
variable {p : Program} {l : Launch} {e : Env} {R : Room} {s : State} {m : MethodId} {args : Array Value} {below : List Frame} {meth : Method} {c : Code} {H : Heap} {locs : List Loc} {cells slots : Nat} {Q : State → Prop}
variable {B : zBs} {D : va_G} {aD : Nat → ClassId} {L : Nat} {xs : Nat → Int32} {k : Nat} {pc pc' : Nat} {ls ls' : ZL} {st st' : ZS} {M M' : ZM} {LS : Array Slot}
theorem zs_stI (S : zSt B D aD L xs k s H locs ls LS st M) {i n : Nat} (h : zstI i (pc + n) ls st M = some (pc', ls', st', M'))
    (row : ∀ (x : Int32) (rest : List Value) (lv' : List (Nat × Value)), lv_has LS (zmaxL k) (zll B ls) → i < zmaxL k → (i, Value.int x) :: (zll B ls).filter (fun q => !(q.1 == i) && !(q.1 + 1 == i && q.2.category == 2)) = lv' →
      (∀ LS' : Array Slot, lv_has LS' (zmaxL k) lv' → W p l e R s m args below meth c H locs cells slots Q (F0 m (pc + n) LS' rest)) → W p l e R s m args below meth c H locs cells slots Q (F0 m pc LS (.int x :: rest)))
    (kk : ∀ LS', zSt B D aD L xs k s H locs ls' LS' st' M' → M' = M → W p l e R s m args below meth c H locs cells slots Q (F0 m pc' LS' (st'.map (zenc B)))) : W p l e R s m args below meth c H locs cells slots Q (F0 m pc LS (st.map (zenc B))) := by
  unfold zstI at h
  split at h
  · next x r =>
    split at h
    · next hi => exact zs_stv S rfl h hi rfl (fun lv' a b c' d => row (Int32.ofInt x) _ lv' a b c' d) kk
    · cases h
  · cases h
theorem zs_stA (S : zSt B D aD L xs k s H locs ls LS st M) {i n : Nat} (h : zstA i (pc + n) ls st M = some (pc', ls', st', M'))
    (row : ∀ (x : Nat) (rest : List Value) (lv' : List (Nat × Value)), lv_has LS (zmaxL k) (zll B ls) → i < zmaxL k → (i, Value.ref x) :: (zll B ls).filter (fun q => !(q.1 == i) && !(q.1 + 1 == i && q.2.category == 2)) = lv' →
      (∀ LS' : Array Slot, lv_has LS' (zmaxL k) lv' → W p l e R s m args below meth c H locs cells slots Q (F0 m (pc + n) LS' rest)) → W p l e R s m args below meth c H locs cells slots Q (F0 m pc LS (.ref x :: rest)))
    (kk : ∀ LS', zSt B D aD L xs k s H locs ls' LS' st' M' → M' = M → W p l e R s m args below meth c H locs cells slots Q (F0 m pc' LS' (st'.map (zenc B)))) : W p l e R s m args below meth c H locs cells slots Q (F0 m pc LS (st.map (zenc B))) := by
  unfold zstA at h
  split at h
  · next x r =>
    split at h
    · next hi =>
      refine zs_stv S rfl h hi.2 rfl (fun lv' a b c' d => ?_) kk
      have e1 : zenc B (.inr (.inr x)) = .ref (zad B x) := zrv_ref hi.1
      rw [e1] at c' ⊢
      exact row (zad B x) _ lv' a b c' d
    · cases h
  · cases h
theorem zs_stJ (S : zSt B D aD L xs k s H locs ls LS st M) (hx : p.tables.exec = Jvm.exec) (hb : c.code = zcode k) {i : Nat} (hd : decode (zcode k) pc = .ok (.lstore i, 2)) (h : zstJ i (pc + 2) ls st M = some (pc', ls', st', M'))
    (kk : ∀ LS', zSt B D aD L xs k s H locs ls' LS' st' M' → M' = M → W p l e R s m args below meth c H locs cells slots Q (F0 m pc' LS' (st'.map (zenc B)))) : W p l e R s m args below meth c H locs cells slots Q (F0 m pc LS (st.map (zenc B))) := by
  unfold zstJ at h
  split at h
  · next x r =>
    split at h
    · next hi =>
      obtain ⟨rfl, rfl, rfl, rfl⟩ := zsome h
      have hv : zi64 x := S.2.2.2.2 (.inr (.inl x)) List.mem_cons_self
      show W p l e R s m args below meth c H locs cells slots Q (F0 m pc LS (.long (Int64.ofInt x) :: r.map (zenc B)))
      refine lv_lstore hx hb hd S.2.2.2.1.has (by rw [← S.2.2.2.1.1]; exact hi) rfl (fun LS' g => ?_)
      exact kk LS' ⟨S.1, S.2.1, S.2.2.1, S.2.2.2.1.put2 hv g, fun w hw => S.2.2.2.2 w (List.mem_cons_of_mem _ hw)⟩ rfl
    · cases h
  · cases h
theorem zs_iinc (S : zSt B D aD L xs k s H locs ls LS st M) (hx : p.tables.exec = Jvm.exec) (hb : c.code = zcode k) {i : Nat} {v : Int} (hd : decode (zcode k) pc = .ok (.iinc i v, 3)) (h : (match (generalizing := false) zget ls i with | some (.inl x) => if i < ls.length then some (pc + 3, zput ls i (zI (zb (x + v))), st, M) else none | _ => none) = some (pc', ls', st', M'))
    (kk : ∀ LS', zSt B D aD L xs k s H locs ls' LS' st' M' → M' = M → W p l e R s m args below meth c H locs cells slots Q (F0 m pc' LS' (st'.map (zenc B)))) : W p l e R s m args below meth c H locs cells slots Q (F0 m pc LS (st.map (zenc B))) := by
  split at h
  · next x eq =>
    split at h
    · next hi =>
      obtain ⟨rfl, rfl, rfl, rfl⟩ := zsome h
      obtain ⟨q, hq⟩ := List.getElem?_of_mem (zll_mem.mpr ⟨.inl x, eq, rfl⟩ : (i, zenc B (.inl x)) ∈ zll B ls)
      refine lv_iinc (v := Int32.ofInt (zb (x + v))) hx hb hd S.2.2.2.1.has hq (by rw [zb_of, Int32.ofInt_add]) (by rw [← S.2.2.2.1.1]; exact hi) rfl (fun LS' g => ?_)
      exact kk LS' ⟨S.1, S.2.1, S.2.2.1, S.2.2.2.1.put1 (zb_r _) rfl g, S.2.2.2.2⟩ rfl
    · cases h
  · cases h
theorem zs_tsw (S : zSt B D aD L xs k s H locs ls LS st M) (hx : p.tables.exec = Jvm.exec) (hb : c.code = zcode k) {d lo hi : Int} {offs : Array Int} {n : Nat} (hd : decode (zcode k) pc = .ok (.tableswitch d lo hi offs, n))
    (h : (match (generalizing := false) st with | .inl x :: r => if x < lo ∨ hi < x then zjump pc d ls r M else (match offs[(x - lo).toNat]? with | some off => zjump pc off ls r M | none => none) | _ => none) = some (pc', ls', st', M'))
    (kk : ∀ LS', zSt B D aD L xs k s H locs ls' LS' st' M' → M' = M → W p l e R s m args below meth c H locs cells slots Q (F0 m pc' LS' (st'.map (zenc B)))) : W p l e R s m args below meth c H locs cells slots Q (F0 m pc LS (st.map (zenc B))) := by
  split at h
  · next x r =>
    have hxr : zi32 x := S.2.2.2.2 (.inl x) List.mem_cons_self
    have hS : ∀ w ∈ r, zokV (znx M) w := fun w hw => S.2.2.2.2 w (List.mem_cons_of_mem _ hw)
    show W p l e R s m args below meth c H locs cells slots Q (F0 m pc LS (.int (Int32.ofInt x) :: r.map (zenc B)))
    split at h
    · next hc =>
      obtain ⟨h1, rfl, rfl, rfl⟩ := zjump_at h
      exact lv_tableOut hx hb hd (by rw [zi32_of x hxr]; exact hc) h1 (kk LS (S.to hS) rfl)
    · next hc =>
      split at h
      · next off ho =>
        obtain ⟨h1, rfl, rfl, rfl⟩ := zjump_at h
        exact lv_tableIn hx hb hd (by rw [zi32_of x hxr]; omega) (by rw [zi32_of x hxr]; omega) (by rw [zi32_of x hxr]; exact ho) h1 (kk LS (S.to hS) rfl)
      · cases h
  · cases h
theorem zs_lsw (S : zSt B D aD L xs k s H locs ls LS st M) (hx : p.tables.exec = Jvm.exec) (hb : c.code = zcode k) {d : Int} {ps : Array (Int × Int)} {n : Nat} (hd : decode (zcode k) pc = .ok (.lookupswitch d ps, n))
    (h : (match (generalizing := false) st with | .inl x :: r => if (ps.toList.zip (ps.toList.drop 1)).all (fun (a, next) => a.1 < next.1) = true then zjump pc (Op.lookupswitch.offset ps.toList d x) ls r M else none | _ => none) = some (pc', ls', st', M'))
    (kk : ∀ LS', zSt B D aD L xs k s H locs ls' LS' st' M' → M' = M → W p l e R s m args below meth c H locs cells slots Q (F0 m pc' LS' (st'.map (zenc B)))) : W p l e R s m args below meth c H locs cells slots Q (F0 m pc LS (st.map (zenc B))) := by
  split at h
  · next x r =>
    have hxr : zi32 x := S.2.2.2.2 (.inl x) List.mem_cons_self
    have hS : ∀ w ∈ r, zokV (znx M) w := fun w hw => S.2.2.2.2 w (List.mem_cons_of_mem _ hw)
    show W p l e R s m args below meth c H locs cells slots Q (F0 m pc LS (.int (Int32.ofInt x) :: r.map (zenc B)))
    split at h
    · next hc =>
      obtain ⟨h1, rfl, rfl, rfl⟩ := zjump_at h
      exact lv_lookup hx hb hd hc (by rw [zi32_of x hxr]) h1 (kk LS (S.to hS) rfl)
    · cases h
  · cases h
theorem zcat1 {v : ZV} (h : z2 v = false) : (zenc B v).category = 1 := by
  rcases lv_cat (zenc B v) with h1 | h1
  · exact h1
  · rw [(z2_cat v).mp h1] at h
    cases h
theorem zjdiv (x y : Int) (hx : zi32 x) (hy : zi32 y) : Int32.ofInt (zb (Int.tdiv x y)) = Int32.ofInt x / Int32.ofInt y := by
  apply Int32.toInt_inj.mp
  rw [zb_of, Int32.toInt_ofInt, Int32.toInt_div, zi32_of x hx, zi32_of y hy]
theorem zjmod (x y : Int) (hx : zi32 x) (hy : zi32 y) : Int32.ofInt (Int.tmod x y) = Int32.ofInt x % Int32.ofInt y ∧ zi32 (Int.tmod x y) := by
  have h := Int32.toInt_mod (Int32.ofInt x) (Int32.ofInt y)
  rw [zi32_of x hx, zi32_of y hy] at h
  rw [← h]
  exact ⟨(Int32.ofInt_toInt _), zi32_r _⟩
theorem zjrem (x y : Int) (hx : zi32 x) (hy : zi32 y) : Int32.ofInt (Int.tmod x y) = Int32.ofInt x - Int32.ofInt x / Int32.ofInt y * Int32.ofInt y := by
  rw [← zjdiv x y hx hy, zb_of, ← Int32.ofInt_mul, ← Int32.ofInt_sub, Int.tmod_def, Int.mul_comm]
theorem zjlcmp (x y : Int) (hx : zi64 x) (hy : zi64 y) : Int32.ofInt (zlcmp x y) = lg_cmp (Int64.ofInt x) (Int64.ofInt y) ∧ zi32 (zlcmp x y) := by
  have h1 : (Int64.ofInt x > Int64.ofInt y) ↔ y < x := by
    show Int64.ofInt y < Int64.ofInt x ↔ _
    rw [Int64.lt_iff_toInt_lt, zi64_of x hx, zi64_of y hy]
  have h2 : (Int64.ofInt x = Int64.ofInt y) ↔ x = y := by rw [← Int64.toInt_inj, zi64_of x hx, zi64_of y hy]
  unfold zlcmp lg_cmp
  by_cases q1 : y < x
  · rw [if_pos q1, if_pos (h1.mpr q1)]; exact ⟨rfl, ⟨by decide, by decide⟩⟩
  · rw [if_neg q1, if_neg (fun z => q1 (h1.mp z))]
    by_cases q2 : x = y
    · rw [if_pos q2, if_pos (h2.mpr q2)]; exact ⟨rfl, ⟨by decide, by decide⟩⟩
    · rw [if_neg q2, if_neg (fun z => q2 (h2.mp z))]; exact ⟨rfl, ⟨by decide, by decide⟩⟩
theorem zstep_sound {i : Instr} {n : Nat} (S : zSt B D aD L xs k s H locs ls LS st M) (C : zCtx B D aD L xs k p s m args meth c) (hd : decode (zcode k) pc = .ok (i, n)) (hn : zlenOk i n = true) (h : zstep k i pc ls st M = some (pc', ls', st', M')) (hc : cells + zdc M M' ≤ R.cells) (hs : slots + zds M M' ≤ R.slots)
    (kk0 : ∀ H1 locs1 LS', zSt B D aD L xs k s H1 locs1 ls' LS' st' M' → W p l e R s m args below meth c H1 locs1 (cells + zdc M M') (slots + zds M M') Q (F0 m pc' LS' (st'.map (zenc B)))) : W p l e R s m args below meth c H locs cells slots Q (F0 m pc LS (st.map (zenc B))) := by
  have hx := C.1
  have hb := C.2.1
  have hown := C.2.2.2.1
  have hts := C.2.2.2.2.1
  have kk : ∀ LS', zSt B D aD L xs k s H locs ls' LS' st' M' → M' = M → W p l e R s m args below meth c H locs cells slots Q (F0 m pc' LS' (st'.map (zenc B))) := fun LS' h1 h2 => by
    have := kk0 H locs LS' h1
    rw [zdc_self (by rw [h2]), zds_self (by rw [h2])] at this
    exact this
  have kh : ∀ H1 locs1, zSt B D aD L xs k s H1 locs1 ls' LS st' M' → znx M' = znx M → W p l e R s m args below meth c H1 locs1 cells slots Q (F0 m pc' LS (st'.map (zenc B))) := fun H1 locs1 h1 h2 => by
    have := kk0 H1 locs1 LS h1
    rw [zdc_self h2, zds_self h2] at this
    exact this
  have kn : ∀ H1 locs1, zSt B D aD L xs k s H1 locs1 ls' LS st' M' → W p l e R s m args below meth c H1 locs1 (cells + zdc M M') (slots + zds M M') Q (F0 m pc' LS (st'.map (zenc B))) := fun H1 locs1 h1 => kk0 H1 locs1 LS h1
  cases i
  case iconst v =>
    cases Nat.eq_of_beq_eq_true hn
    have h : (if -32768 ≤ v ∧ v ≤ 32767 then some (pc + 1, ls, zI v :: st, M) else none) = some (pc', ls', st', M') := h
    split at h
    · next hv => exact zs_kon S (n := 1) (v := zI v) (show zi32 v from ⟨by omega, by omega⟩) h (fun w => lv_iconst hx hb hd rfl w) kk
    · cases h
  case bipush v =>
    cases Nat.eq_of_beq_eq_true hn
    have h : (if -128 ≤ v ∧ v ≤ 127 then some (pc + 2, ls, zI v :: st, M) else none) = some (pc', ls', st', M') := h
    split at h
    · next hv =>
      refine zs_kon S (n := 2) (v := zI v) (show zi32 v from ⟨by omega, by omega⟩) h (fun w => lv_bipush hx hb hd ?_ w) kk
      apply Int32.toInt_inj.mp
      rw [Int8.toInt_toInt32, Int8.toInt_ofInt, zi32_of v ⟨by omega, by omega⟩]
      have e8 : ((Int8.size : Nat) : Int) = 256 := rfl
      exact Int.bmod_eq_of_le (by omega) (by omega)
    · cases h
  case sipush v =>
    cases Nat.eq_of_beq_eq_true hn
    have h : (if -32768 ≤ v ∧ v ≤ 32767 then some (pc + 3, ls, zI v :: st, M) else none) = some (pc', ls', st', M') := h
    split at h
    · next hv =>
      refine zs_kon S (n := 3) (v := zI v) (show zi32 v from ⟨by omega, by omega⟩) h (fun w => lv_sipush hx hb hd ?_ w) kk
      apply Int32.toInt_inj.mp
      rw [Int16.toInt_toInt32, Int16.toInt_ofInt, zi32_of v ⟨by omega, by omega⟩]
      have e8 : ((Int16.size : Nat) : Int) = 65536 := rfl
      exact Int.bmod_eq_of_le (by omega) (by omega)
    · cases h
  case lconst v =>
    cases Nat.eq_of_beq_eq_true hn
    exact zs_kon S (n := 1) (v := zJ (v.val : Int)) (show zi64 (v.val : Int) from ⟨by omega, by omega⟩) h (fun w => lv_lconst hx hb hd rfl w) kk
  case ldc j =>
    cases Nat.eq_of_beq_eq_true hn
    have h : zkon 0 (zlk (zKl (zcl k)) j) (pc + 2) ls st M = some (pc', ls', st', M') := h
    unfold zkon at h
    split at h
    · next w x q eq =>
      split at h
      · next hw =>
        subst hw
        obtain ⟨h1, h2⟩ := (zkl_at eq).1 rfl
        exact zs_kon S (n := 2) (v := zI x) h2 h (fun w => lv_ldc hx hb hown (hts _ h1) hd w) kk
      · cases h
    · cases h
  case ldc_w j =>
    cases Nat.eq_of_beq_eq_true hn
    have h : zkon 0 (zlk (zKl (zcl k)) j) (pc + 3) ls st M = some (pc', ls', st', M') := h
    unfold zkon at h
    split at h
    · next w x q eq =>
      split at h
      · next hw =>
        subst hw
        obtain ⟨h1, h2⟩ := (zkl_at eq).1 rfl
        exact zs_kon S (n := 3) (v := zI x) h2 h (fun w => lv_ldcw hx hb hown (hts _ h1) hd w) kk
      · cases h
    · cases h
  case ldc2_w j =>
    cases Nat.eq_of_beq_eq_true hn
    have h : zkon 1 (zlk (zKl (zcl k)) j) (pc + 3) ls st M = some (pc', ls', st', M') := h
    unfold zkon at h
    split at h
    · next w x q eq =>
      split at h
      · next hw =>
        subst hw
        obtain ⟨h1, h2⟩ := (zkl_at eq).2 (by decide)
        exact zs_kon S (n := 3) (v := zJ x) h2 h (fun w => lv_ldc2 hx hb hown (hts _ h1) hd w) kk
      · cases h
    · cases h
  case iload j =>
    cases Nat.eq_of_beq_eq_true hn
    have h : zldI (zget ls j) (pc + 2) ls st M = some (pc', ls', st', M') := h
    unfold zldI at h
    split at h
    · next x eq => exact zs_ld S eq h (fun g w => lv_iload hx hb hd g w) kk
    · cases h
  case iload_n j =>
    cases Nat.eq_of_beq_eq_true hn
    have h : zldI (zget ls j.val) (pc + 1) ls st M = some (pc', ls', st', M') := h
    unfold zldI at h
    split at h
    · next x eq => exact zs_ld S eq h (fun g w => lv_iload_n hx hb hd rfl g w) kk
    · cases h
  case lload j =>
    cases Nat.eq_of_beq_eq_true hn
    have h : zldJ (zget ls j) (pc + 2) ls st M = some (pc', ls', st', M') := h
    unfold zldJ at h
    split at h
    · next x eq => exact zs_ld S eq h (fun g w => lv_lload hx hb hd g w) kk
    · cases h
  case lload_n j =>
    cases Nat.eq_of_beq_eq_true hn
    have h : zldJ (zget ls j.val) (pc + 1) ls st M = some (pc', ls', st', M') := h
    unfold zldJ at h
    split at h
    · next x eq => exact zs_ld S eq h (fun g w => lv_lload_n hx hb hd rfl g w) kk
    · cases h
  case aload j =>
    cases Nat.eq_of_beq_eq_true hn
    have h : zldA (zget ls j) (pc + 2) ls st M = some (pc', ls', st', M') := h
    unfold zldA at h
    split at h
    · next x eq =>
      split at h
      · next h0 =>
        refine zs_ld S eq h (fun g w => ?_) kk
        have e1 : zenc B (.inr (.inr x)) = .ref (zad B x) := zrv_ref h0
        rw [e1] at g w
        exact lv_aload hx hb hd g w
      · cases h
    · cases h
  case aload_n j =>
    cases Nat.eq_of_beq_eq_true hn
    have h : zldA (zget ls j.val) (pc + 1) ls st M = some (pc', ls', st', M') := h
    unfold zldA at h
    split at h
    · next x eq =>
      split at h
      · next h0 =>
        refine zs_ld S eq h (fun g w => ?_) kk
        have e1 : zenc B (.inr (.inr x)) = .ref (zad B x) := zrv_ref h0
        rw [e1] at g w
        exact lv_aload_n hx hb hd rfl g w
      · cases h
    · cases h
  case istore j =>
    cases Nat.eq_of_beq_eq_true hn
    exact zs_stI S h (fun x rest lv' a b c' d => lv_istore hx hb hd a b c' d) kk
  case istore_n j =>
    cases Nat.eq_of_beq_eq_true hn
    exact zs_stI S h (fun x rest lv' a b c' d => lv_istore_n hx hb hd rfl a b c' d) kk
  case lstore j =>
    cases Nat.eq_of_beq_eq_true hn
    exact zs_stJ S hx hb hd h kk
  case astore j =>
    cases Nat.eq_of_beq_eq_true hn
    exact zs_stA S h (fun x rest lv' a b c' d => lv_astore hx hb hd a b c' d) kk
  case astore_n j =>
    cases Nat.eq_of_beq_eq_true hn
    exact zs_stA S h (fun x rest lv' a b c' d => lv_astore_n hx hb hd rfl a b c' d) kk
  case iinc j v =>
    cases Nat.eq_of_beq_eq_true hn
    exact zs_iinc S hx hb hd h kk
  case iadd =>
    cases Nat.eq_of_beq_eq_true hn
    exact zs_bin S (f := fun x y => zb (x + y)) (g := fun x y => x + y) (fun x y _ _ => ⟨by rw [zb_of, Int32.ofInt_add], zb_r _⟩) h (fun x y rest w => lv_iadd hx hb hd w) kk
  case isub =>
    cases Nat.eq_of_beq_eq_true hn
    exact zs_bin S (f := fun x y => zb (x - y)) (g := fun x y => x - y) (fun x y _ _ => ⟨by rw [zb_of, Int32.ofInt_sub], zb_r _⟩) h (fun x y rest w => lv_isub hx hb hd w) kk
  case imul =>
    cases Nat.eq_of_beq_eq_true hn
    exact zs_bin S (f := fun x y => zb (x * y)) (g := fun x y => x * y) (fun x y _ _ => ⟨by rw [zb_of, Int32.ofInt_mul], zb_r _⟩) h (fun x y rest w => lv_imul hx hb hd w) kk
  case iand =>
    cases Nat.eq_of_beq_eq_true hn
    exact zs_bin S (f := zand) (g := fun x y => x &&& y) (fun x y _ _ => ⟨(Int32.ofInt_toInt _), zi32_r _⟩) h (fun x y rest w => lv_iand hx hb hd w) kk
  case ior =>
    cases Nat.eq_of_beq_eq_true hn
    exact zs_bin S (f := zor) (g := fun x y => x ||| y) (fun x y _ _ => ⟨(Int32.ofInt_toInt _), zi32_r _⟩) h (fun x y rest w => lv_ior hx hb hd w) kk
  case ishl =>
    cases Nat.eq_of_beq_eq_true hn
    exact zs_bin S (f := zshl) (g := fun x y => x <<< (y &&& 31)) (fun x y _ _ => ⟨(Int32.ofInt_toInt _), zi32_r _⟩) h (fun x y rest w => lv_ishl hx hb hd w) kk
  case ishr =>
    cases Nat.eq_of_beq_eq_true hn
    exact zs_bin S (f := zshr) (g := fun x y => x >>> (y &&& 31)) (fun x y _ _ => ⟨(Int32.ofInt_toInt _), zi32_r _⟩) h (fun x y rest w => lv_ishr hx hb hd w) kk
  case iushr =>
    cases Nat.eq_of_beq_eq_true hn
    exact zs_bin S (f := zushr) (g := fun x y => (x.toUInt32 >>> (y.toUInt32 &&& Int32.toUInt32 31)).toInt32) (fun x y _ _ => ⟨(Int32.ofInt_toInt _), zi32_r _⟩) h (fun x y rest w => lv_iushr hx hb hd rfl w) kk
  case idiv =>
    cases Nat.eq_of_beq_eq_true hn
    replace h : (match (generalizing := false) st with | .inl y :: .inl x :: r => if y = 0 then none else some (pc + 1, ls, zI (zb (Int.tdiv x y)) :: r, M) | _ => none) = some (pc', ls', st', M') := h
    split at h
    · next y x r =>
      split at h
      · cases h
      · next hy0 =>
        refine zs_bi S (n := 1) (w := zI (zb (Int.tdiv x y))) rfl (fun _ _ => zb_r _) h (fun hy hx2 w => ?_) kk
        have e1 : zenc B (zI (zb (Int.tdiv x y))) = .int (Int32.ofInt x / Int32.ofInt y) := congrArg Value.int (zjdiv x y hx2 hy)
        rw [e1] at w
        exact lv_idiv hx hb hd (fun z => hy0 ((zeq32 hy z032).mp z)) w
    · cases h
  case irem =>
    cases Nat.eq_of_beq_eq_true hn
    replace h : (match (generalizing := false) st with | .inl y :: .inl x :: r => if y = 0 then none else some (pc + 1, ls, zI (Int.tmod x y) :: r, M) | _ => none) = some (pc', ls', st', M') := h
    split at h
    · next y x r =>
      split at h
      · cases h
      · next hy0 =>
        refine zs_bi S (n := 1) (w := zI (Int.tmod x y)) rfl (fun hy hx2 => (zjmod x y hx2 hy).2) h (fun hy hx2 w => ?_) kk
        have e1 : zenc B (zI (Int.tmod x y)) = .int (Int32.ofInt x - Int32.ofInt x / Int32.ofInt y * Int32.ofInt y) := congrArg Value.int (zjrem x y hx2 hy)
        rw [e1] at w
        exact lv_irem hx hb hd (fun z => hy0 ((zeq32 hy z032).mp z)) w
    · cases h
  case ineg =>
    cases Nat.eq_of_beq_eq_true hn
    replace h : (match (generalizing := false) st with | .inl x :: r => some (pc + 1, ls, zI (zb (-x)) :: r, M) | _ => none) = some (pc', ls', st', M') := h
    split at h
    · next x r =>
      refine zs_un S (n := 1) (v := .inl x) (w := zI (zb (-x))) rfl (fun _ => zb_r _) h (fun _ w => ?_) kk
      have e1 : zenc B (zI (zb (-x))) = .int (- Int32.ofInt x) := congrArg Value.int (by rw [zb_of, Int32.ofInt_neg])
      rw [e1] at w
      exact lv_ineg hx hb hd w
    · cases h
  case lshl =>
    cases Nat.eq_of_beq_eq_true hn
    replace h : (match (generalizing := false) st with | .inl y :: .inr (.inl x) :: r => some (pc + 1, ls, zJ (zlshl x y) :: r, M) | _ => none) = some (pc', ls', st', M') := h
    split at h
    · next y x r => exact zs_bi S (n := 1) (w := zJ (zlshl x y)) rfl (fun _ _ => zi64_r _) h (fun _ _ w => lv_lshl hx hb hd (by rw [show Int64.ofInt (zlshl x y) = _ from (Int64.ofInt_toInt _)]) w) kk
    · cases h
  case land =>
    cases Nat.eq_of_beq_eq_true hn
    replace h : (match (generalizing := false) st with | .inr (.inl y) :: .inr (.inl x) :: r => some (pc + 1, ls, zJ (zland x y) :: r, M) | _ => none) = some (pc', ls', st', M') := h
    split at h
    · next y x r =>
      refine zs_bi S (n := 1) (w := zJ (zland x y)) rfl (fun _ _ => zi64_r _) h (fun _ _ w => ?_) kk
      have e1 : zenc B (zJ (zland x y)) = .long (Int64.ofInt x &&& Int64.ofInt y) := congrArg Value.long (Int64.ofInt_toInt _)
      rw [e1] at w
      exact lv_land hx hb hd w
    · cases h
  case lor =>
    cases Nat.eq_of_beq_eq_true hn
    replace h : (match (generalizing := false) st with | .inr (.inl y) :: .inr (.inl x) :: r => some (pc + 1, ls, zJ (zlor x y) :: r, M) | _ => none) = some (pc', ls', st', M') := h
    split at h
    · next y x r =>
      refine zs_bi S (n := 1) (w := zJ (zlor x y)) rfl (fun _ _ => zi64_r _) h (fun _ _ w => ?_) kk
      have e1 : zenc B (zJ (zlor x y)) = .long (Int64.ofInt x ||| Int64.ofInt y) := congrArg Value.long (Int64.ofInt_toInt _)
      rw [e1] at w
      exact lv_lor hx hb hd w
    · cases h
  case lcmp =>
    cases Nat.eq_of_beq_eq_true hn
    replace h : (match (generalizing := false) st with | .inr (.inl y) :: .inr (.inl x) :: r => some (pc + 1, ls, zI (zlcmp x y) :: r, M) | _ => none) = some (pc', ls', st', M') := h
    split at h
    · next y x r =>
      refine zs_bi S (n := 1) (w := zI (zlcmp x y)) rfl (fun hy hx2 => (zjlcmp x y hx2 hy).2) h (fun hy hx2 w => ?_) kk
      have e1 : zenc B (zI (zlcmp x y)) = .int (lg_cmp (Int64.ofInt x) (Int64.ofInt y)) := congrArg Value.int (zjlcmp x y hx2 hy).1
      rw [e1] at w
      exact W.lcmp hx hb hd w
    · cases h
  case i2l =>
    cases Nat.eq_of_beq_eq_true hn
    replace h : (match (generalizing := false) st with | .inl x :: r => some (pc + 1, ls, zJ x :: r, M) | _ => none) = some (pc', ls', st', M') := h
    split at h
    · next x r =>
      refine zs_un S (n := 1) (v := .inl x) (w := zJ x) rfl (fun (hv : zi32 x) => (⟨by have := hv.1; omega, by have := hv.2; omega⟩ : zi64 x)) h (fun hv w => lv_i2l hx hb hd ?_ w) kk
      apply Int64.toInt_inj.mp
      rw [Int32.toInt_toInt64, zi32_of x hv, zi64_of x ⟨by have := hv.1; omega, by have := hv.2; omega⟩]
    · cases h
  case l2i =>
    cases Nat.eq_of_beq_eq_true hn
    replace h : (match (generalizing := false) st with | .inr (.inl x) :: r => some (pc + 1, ls, zI (zb x) :: r, M) | _ => none) = some (pc', ls', st', M') := h
    split at h
    · next x r =>
      refine zs_un S (n := 1) (v := .inr (.inl x)) (w := zI (zb x)) rfl (fun _ => zb_r _) h (fun hv w => lv_l2i hx hb hd ?_ w) kk
      apply Int32.toInt_inj.mp
      rw [zb_of, Int64.toInt_toInt32, Int32.toInt_ofInt, zi64_of x hv]
    · cases h
  case i2b =>
    cases Nat.eq_of_beq_eq_true hn
    replace h : (match (generalizing := false) st with | .inl x :: r => some (pc + 1, ls, zI (zi2b x) :: r, M) | _ => none) = some (pc', ls', st', M') := h
    split at h
    · next x r => exact zs_un S (n := 1) (v := .inl x) (w := zI (zi2b x)) rfl (fun _ => zi32_r _) h (fun hv w => lv_i2b hx hb hd (by rw [show Int32.ofInt (zi2b x) = _ from (Int32.ofInt_toInt _)]) w) kk
    · cases h
  case i2s =>
    cases Nat.eq_of_beq_eq_true hn
    replace h : (match (generalizing := false) st with | .inl x :: r => some (pc + 1, ls, zI (zi2s x) :: r, M) | _ => none) = some (pc', ls', st', M') := h
    split at h
    · next x r => exact zs_un S (n := 1) (v := .inl x) (w := zI (zi2s x)) rfl (fun _ => zi32_r _) h (fun hv w => lv_i2s hx hb hd (by rw [show Int32.ofInt (zi2s x) = _ from (Int32.ofInt_toInt _)]) w) kk
    · cases h
  case dup =>
    cases Nat.eq_of_beq_eq_true hn
    replace h : (match (generalizing := false) st with | v :: r => if z2 v = true then none else some (pc + 1, ls, v :: v :: r, M) | _ => none) = some (pc', ls', st', M') := h
    split at h
    · next v r =>
      split at h
      · cases h
      · next q =>
        obtain ⟨rfl, rfl, rfl, rfl⟩ := zsome h
        exact lv_dup hx hb hd (zcat1 (by simpa using q)) (kk LS (S.to fun w hw => by
          rcases List.mem_cons.mp hw with rfl | hw
          · exact S.2.2.2.2 _ List.mem_cons_self
          · exact S.2.2.2.2 w hw) rfl)
    · cases h
  case pop =>
    cases Nat.eq_of_beq_eq_true hn
    replace h : (match (generalizing := false) st with | v :: r => if z2 v = true then none else some (pc + 1, ls, r, M) | _ => none) = some (pc', ls', st', M') := h
    split at h
    · next v r =>
      split at h
      · cases h
      · next q =>
        obtain ⟨rfl, rfl, rfl, rfl⟩ := zsome h
        exact lv_pop hx hb hd (zcat1 (by simpa using q)) (kk LS (S.to fun w hw => S.2.2.2.2 w (List.mem_cons_of_mem _ hw)) rfl)
    · cases h
  case dup_x1 =>
    cases Nat.eq_of_beq_eq_true hn
    replace h : (match (generalizing := false) st with | v :: w :: r => if z2 v = true ∨ z2 w = true then none else some (pc + 1, ls, v :: w :: v :: r, M) | _ => none) = some (pc', ls', st', M') := h
    split at h
    · next v w r =>
      split at h
      · cases h
      · next q =>
        obtain ⟨rfl, rfl, rfl, rfl⟩ := zsome h
        refine lv_dup_x1 hx hb hd (zcat1 (by cases z : z2 v; rfl; exact absurd (Or.inl z) q)) (zcat1 (by cases z : z2 w; rfl; exact absurd (Or.inr z) q)) (kk LS (S.to fun u hu => ?_) rfl)
        rcases List.mem_cons.mp hu with rfl | hu
        · exact S.2.2.2.2 _ List.mem_cons_self
        · rcases List.mem_cons.mp hu with rfl | hu
          · exact S.2.2.2.2 _ (List.mem_cons_of_mem _ List.mem_cons_self)
          · rcases List.mem_cons.mp hu with rfl | hu
            · exact S.2.2.2.2 _ List.mem_cons_self
            · exact S.2.2.2.2 u (List.mem_cons_of_mem _ (List.mem_cons_of_mem _ hu))
    · cases h
  case dup2 =>
    cases Nat.eq_of_beq_eq_true hn
    replace h : (match (generalizing := false) st with | v :: w :: r => if z2 v = true ∨ z2 w = true then none else some (pc + 1, ls, v :: w :: v :: w :: r, M) | _ => none) = some (pc', ls', st', M') := h
    split at h
    · next v w r =>
      split at h
      · cases h
      · next q =>
        obtain ⟨rfl, rfl, rfl, rfl⟩ := zsome h
        refine lv_dup2_11 hx hb hd (zcat1 (by cases z : z2 v; rfl; exact absurd (Or.inl z) q)) (zcat1 (by cases z : z2 w; rfl; exact absurd (Or.inr z) q)) (kk LS (S.to fun u hu => ?_) rfl)
        rcases List.mem_cons.mp hu with rfl | hu
        · exact S.2.2.2.2 _ List.mem_cons_self
        · rcases List.mem_cons.mp hu with rfl | hu
          · exact S.2.2.2.2 _ (List.mem_cons_of_mem _ List.mem_cons_self)
          · exact S.2.2.2.2 u hu
    · cases h
  case goto off =>
    cases Nat.eq_of_beq_eq_true hn
    obtain ⟨h1, rfl, rfl, rfl⟩ := zjump_at h
    exact lv_goto hx hb hd h1 (kk LS S rfl)
  case ifCond cm off =>
    cases Nat.eq_of_beq_eq_true hn
    replace h : (match (generalizing := false) st with | .inl x :: r => zbr (zcmp cm x 0) pc off ls r M | _ => none) = some (pc', ls', st', M') := h
    split at h
    · exact zs_if1 S hx hb hd rfl h kk
    · cases h
  case if_icmp cm off =>
    cases Nat.eq_of_beq_eq_true hn
    replace h : (match (generalizing := false) st with | .inl y :: .inl x :: r => zbr (zcmp cm x y) pc off ls r M | _ => none) = some (pc', ls', st', M') := h
    split at h
    · exact zs_if2 S hx hb hd rfl h kk
    · cases h
  case tableswitch d lo hi offs => exact zs_tsw S hx hb hd h kk
  case lookupswitch d ps => exact zs_lsw S hx hb hd h kk
  case getfield j =>
    cases Nat.eq_of_beq_eq_true hn
    exact zs_getf S C hd h kk
  case putfield j =>
    cases Nat.eq_of_beq_eq_true hn
    exact zs_putf S C hd h kh
  case getstatic j =>
    cases Nat.eq_of_beq_eq_true hn
    exact zs_gets S C hd h kk
  case iaload =>
    cases Nat.eq_of_beq_eq_true hn
    exact zs_iald S C hd h kk
  case baload =>
    cases Nat.eq_of_beq_eq_true hn
    exact zs_bald S C hd h kk
  case laload =>
    cases Nat.eq_of_beq_eq_true hn
    exact zs_lald S C hd h kk
  case aaload =>
    cases Nat.eq_of_beq_eq_true hn
    exact zs_aald S C hd h kk
  case iastore =>
    cases Nat.eq_of_beq_eq_true hn
    exact zs_iast S C hd h kh
  case bastore =>
    cases Nat.eq_of_beq_eq_true hn
    exact zs_bast S C hd h kh
  case lastore =>
    cases Nat.eq_of_beq_eq_true hn
    exact zs_last S C hd h kh
  case aastore =>
    cases Nat.eq_of_beq_eq_true hn
    exact zs_aast S C hd h kh
  case arraylength =>
    cases Nat.eq_of_beq_eq_true hn
    exact zs_alen S C hd h kk
  case new j =>
    cases Nat.eq_of_beq_eq_true hn
    exact zs_new S C hd h hc hs kn
  case newarray t =>
    cases Nat.eq_of_beq_eq_true hn
    have h : (if zatype t ≤ 3 then znewa (zatype t) (pc + 2) ls st M else none) = some (pc', ls', st', M') := h
    split at h
    · next ht => exact zs_newa S C hd ht h hc hs kn
    · cases h
  case anewarray j =>
    cases Nat.eq_of_beq_eq_true hn
    replace h : (match (generalizing := false) zlk (zCl (zcl k)) j with | some (0, _) => znewa 4 (pc + 3) ls st M | _ => none) = some (pc', ls', st', M') := h
    split at h
    · next q eq => exact zs_newq S C eq hd h hc hs kn
    · cases h
  case multianewarray j w =>
    cases Nat.eq_of_beq_eq_true hn
    replace h : (match (generalizing := false) zlk (zCl (zcl k)) j with | some (w', _) => if w' = 100 ∧ w = 2 then znewm (pc + 4) ls st M else none | _ => none) = some (pc', ls', st', M') := h
    split at h
    · next w' q eq =>
      split at h
      · next hw =>
        obtain ⟨rfl, rfl⟩ := hw
        exact zs_newm S C eq hd h hc hs kn
      · cases h
    · cases h
  all_goals exact absurd (show none = some (pc', ls', st', M') from h) (by intro z; cases z)
end ZSTEPS
end
section
/-! ===== all steps: a run of the small machine is one of the large one ===== -/
theorem zbody_eq (n d k pc : Nat) (ls : ZL) (st : ZS) (M : ZM) : zbody (n + 1) d k pc ls st M = (match zins k pc with
    | none => none
    | some (i, m) => if zlenOk i m = true then (match i with
      | .ireturn => match st with
        | [.inl x] => if zretI k x = true then some (some (zI x), M) else none
        | _ => none
      | .lreturn => match st with
        | [.inr (.inl x)] => if zret k = some .long then some (some (zJ x), M) else none
        | _ => none
      | .areturn => match st with
        | [.inr (.inr a)] => if zretA k = true ∧ 0 ≤ a then some (some (zA a), M) else none
        | _ => none
      | .return_ => match st with
        | [] => if zret k = none then some (none, M) else none
        | _ => none
      | .invokespecial j => match zlk (zMl (zcl k)) j with
        | some (t, _, _) => if t = 1000 then (match st, d with
            | .inr (.inr a) :: r, _ + 1 => if 0 ≤ a ∧ zcat r ≤ 8 then zbody n d k (pc + 3) ls r M else none
            | _, _ => none)
          else (match zready 2 t st, d with
            | some (args, r), e + 1 => (match zbody n e t 0 (zentry t args) [] M with
              | some (v, M') => zbody n d k (pc + 3) ls (v.toList ++ r) M'
              | none => none)
            | _, _ => none)
        | none => none
      | .invokestatic j => match zlk (zMl (zcl k)) j with
        | some (t, _, _) => if t = 1001 then (match d, zacopy (pc + 3) ls st M with
            | _ + 1, some (pc', ls', st', M') => zbody n d k pc' ls' st' M'
            | _, _ => none)
          else if t = 1002 ∨ t = 1003 then (match d, zmm t (pc + 3) ls st M with
            | _ + 1, some (pc', ls', st', M') => zbody n d k pc' ls' st' M'
            | _, _ => none)
          else (match zready 0 t st, d with
            | some (args, r), e + 1 => (match zbody n e t 0 (zentry t args) [] M with
              | some (v, M') => zbody n d k (pc + 3) ls (v.toList ++ r) M'
              | none => none)
            | _, _ => none)
        | none => none
      | .invokevirtual j => match zlk (zMl (zcl k)) j with
        | some (t, _, _) => (match zready 1 t st, d with
            | some (args, r), e + 1 => (match zbody n e t 0 (zentry t args) [] M with
              | some (v, M') => zbody n d k (pc + 3) ls (v.toList ++ r) M'
              | none => none)
            | _, _ => none)
        | none => none
      | _ => match zstep k i pc ls st M with
        | some (pc', ls', st', M') => zbody n d k pc' ls' st' M'
        | none => none) else none) := rfl
section ZNX
variable {k : Nat} {pc pc' : Nat} {ls ls' : ZL} {st st' : ZS} {M M' : ZM}
theorem zkon_M {n : Nat} {x : Option (Nat × Int × zPos)} (h : zkon n x pc ls st M = some (pc', ls', st', M')) : M' = M := by
  unfold zkon at h
  repeat' split at h
  all_goals first | (cases h; done) | (cases h; rfl)
theorem zldI_M {x : Option ZV} (h : zldI x pc ls st M = some (pc', ls', st', M')) : M' = M := by
  unfold zldI at h
  repeat' split at h
  all_goals first | (cases h; done) | (cases h; rfl)
theorem zldJ_M {x : Option ZV} (h : zldJ x pc ls st M = some (pc', ls', st', M')) : M' = M := by
  unfold zldJ at h
  repeat' split at h
  all_goals first | (cases h; done) | (cases h; rfl)
theorem zldA_M {x : Option ZV} (h : zldA x pc ls st M = some (pc', ls', st', M')) : M' = M := by
  unfold zldA at h
  repeat' split at h
  all_goals first | (cases h; done) | (cases h; rfl)
theorem zstI_M {i : Nat} (h : zstI i pc ls st M = some (pc', ls', st', M')) : M' = M := by
  unfold zstI at h
  repeat' split at h
  all_goals first | (cases h; done) | (cases h; rfl)
theorem zstJ_M {i : Nat} (h : zstJ i pc ls st M = some (pc', ls', st', M')) : M' = M := by
  unfold zstJ at h
  repeat' split at h
  all_goals first | (cases h; done) | (cases h; rfl)
theorem zstA_M {i : Nat} (h : zstA i pc ls st M = some (pc', ls', st', M')) : M' = M := by
  unfold zstA at h
  repeat' split at h
  all_goals first | (cases h; done) | (cases h; rfl)
theorem zbin_M {f : Int → Int → Int} (h : zbin f pc ls st M = some (pc', ls', st', M')) : M' = M := by
  unfold zbin at h
  repeat' split at h
  all_goals first | (cases h; done) | (cases h; rfl)
theorem zbr_M {b : Bool} {off : Int} (h : zbr b pc off ls st M = some (pc', ls', st', M')) : M' = M := by
  unfold zbr at h
  repeat' split at h
  all_goals first | (cases h; done) | (cases h; rfl)
theorem zgetf_M {x : Option (Nat × Nat × zPos)} (h : zgetf x pc ls st M = some (pc', ls', st', M')) : M' = M := by
  unfold zgetf at h
  repeat' split at h
  all_goals first | (cases h; done) | (cases h; rfl)
theorem zaldI_M (h : zaldI pc ls st M = some (pc', ls', st', M')) : M' = M := by
  unfold zaldI at h
  repeat' split at h
  all_goals first | (cases h; done) | (cases h; rfl)
theorem zaldB_M (h : zaldB pc ls st M = some (pc', ls', st', M')) : M' = M := by
  unfold zaldB at h
  repeat' split at h
  all_goals first | (cases h; done) | (cases h; rfl)
theorem zaldJ_M (h : zaldJ pc ls st M = some (pc', ls', st', M')) : M' = M := by
  unfold zaldJ at h
  repeat' split at h
  all_goals first | (cases h; done) | (cases h; rfl)
theorem zaldA_M (h : zaldA pc ls st M = some (pc', ls', st', M')) : M' = M := by
  unfold zaldA at h
  repeat' split at h
  all_goals first | (cases h; done) | (cases h; rfl)
theorem zalen_M (h : zalen pc ls st M = some (pc', ls', st', M')) : M' = M := by
  unfold zalen at h
  repeat' split at h
  all_goals first | (cases h; done) | (cases h; rfl)
theorem zputf_nx {n : Nat} (h : zputf k (zlk (zFl (zcl k)) n) pc ls st M = some (pc', ls', st', M')) : znx M' = znx M := by
  unfold zputf at h
  split at h
  · next ci j q v a r eq =>
    obtain ⟨-, -, hci⟩ := zfl_at eq
    split at h
    · next hs =>
      split at h
      · cases h
        have hs := hs.1
        exact znx_set (zsh_low (by rw [hs]; show 10 + ci ≠ 20; omega) (by rw [hs]; show 10 + ci ≠ 21; omega) (by rw [hs]; show 10 + ci ≠ 99; omega))
      · cases h
    · cases h
  · cases h
theorem zastI_nx (h : zastI pc ls st M = some (pc', ls', st', M')) : znx M' = znx M := by
  unfold zastI at h
  split at h
  · split at h
    · next hc => cases h; exact znx_set (zsh_low (by omega) (by omega) (by omega))
    · cases h
  · cases h
theorem zastJ_nx (h : zastJ pc ls st M = some (pc', ls', st', M')) : znx M' = znx M := by
  unfold zastJ at h
  split at h
  · split at h
    · next hc => cases h; exact znx_set (zsh_low (by omega) (by omega) (by omega))
    · cases h
  · cases h
theorem zastB_nx (h : zastB pc ls st M = some (pc', ls', st', M')) : znx M' = znx M := by
  unfold zastB at h
  split at h
  · split at h
    · next hc => cases h; exact znx_set (zsh_low (by omega) (by omega) (by omega))
    · cases h
  · cases h
theorem zastA_nx (h : zastA pc ls st M = some (pc', ls', st', M')) : znx M' = znx M := by
  unfold zastA at h
  split at h
  · split at h
    · next hc => cases h; exact znx_set (zsh_low (by omega) (by omega) (by omega))
    · cases h
  · cases h
theorem znew_nx {x : Option (Nat × zPos)} (h : znew x pc ls st M = some (pc', ls', st', M')) : znx M' = znx M + 1 := by
  unfold znew at h
  split at h
  · split at h
    · cases h; exact zmake_nx M
    · cases h
  · cases h
theorem znewa_nx {t : Nat} (h : znewa t pc ls st M = some (pc', ls', st', M')) : znx M' = znx M + 1 := by
  unfold znewa at h
  split at h
  · split at h
    · cases h; exact zmake_nx M
    · cases h
  · cases h
theorem znewm_nx (h : znewm pc ls st M = some (pc', ls', st', M')) : znx M ≤ znx M' := by
  unfold znewm at h
  split at h
  · split at h
    · next w n r hc =>
      cases h
      show M (-1) 0 ≤ (if (-1 : Int) = znx M ∧ 0 ≤ (0 : Int) ∧ (0 : Int) < n then _ else _)
      have h5 := hc.1
      have hn : ¬ ((-1 : Int) = znx M ∧ 0 ≤ (0 : Int) ∧ (0 : Int) < n) := fun q => by
        rw [← q.1] at h5
        have : (zsh (-1)).1 = 5 := by rw [h5]
        exact absurd this (by decide)
      rw [if_neg hn]
      show znx M ≤ znx (zmakes n.toNat (zmake M))
      rw [zmakes_nx, zmake_nx]
      omega
    · cases h
  · cases h
theorem zacopy_nx (h : zacopy pc ls st M = some (pc', ls', st', M')) : znx M' = znx M := by
  unfold zacopy at h
  split at h
  · split at h
    · next n q a sp b r hc =>
      cases h
      have h3 : 3 ≤ a := zsh_low (by omega) (by omega) (by omega)
      show (if (-1 : Int) = a ∧ _ then _ else _) = _
      rw [if_neg (fun z => by have := z.1; omega)]
      rfl
    · cases h
  · cases h
theorem zmm_M {t : Nat} (h : zmm t pc ls st M = some (pc', ls', st', M')) : M' = M := by
  unfold zmm at h
  repeat' split at h
  all_goals first | (cases h; done) | (cases h; rfl)
theorem zstep_nx {i : Instr} (h : zstep k i pc ls st M = some (pc', ls', st', M')) : znx M ≤ znx M' := by
  have le_of : M' = M → znx M ≤ znx M' := fun e => by rw [e]; exact Int.le_refl _
  have le_eq : znx M' = znx M → znx M ≤ znx M' := fun e => by rw [e]; exact Int.le_refl _
  cases i
  case ldc j => exact le_of (zkon_M h)
  case ldc_w j => exact le_of (zkon_M h)
  case ldc2_w j => exact le_of (zkon_M h)
  case iload j => exact le_of (zldI_M h)
  case iload_n j => exact le_of (zldI_M h)
  case lload j => exact le_of (zldJ_M h)
  case lload_n j => exact le_of (zldJ_M h)
  case aload j => exact le_of (zldA_M h)
  case aload_n j => exact le_of (zldA_M h)
  case istore j => exact le_of (zstI_M h)
  case istore_n j => exact le_of (zstI_M h)
  case lstore j => exact le_of (zstJ_M h)
  case astore j => exact le_of (zstA_M h)
  case astore_n j => exact le_of (zstA_M h)
  case iadd => exact le_of (zbin_M h)
  case isub => exact le_of (zbin_M h)
  case imul => exact le_of (zbin_M h)
  case iand => exact le_of (zbin_M h)
  case ior => exact le_of (zbin_M h)
  case ishl => exact le_of (zbin_M h)
  case ishr => exact le_of (zbin_M h)
  case iushr => exact le_of (zbin_M h)
  case goto off => exact le_of (zjump_at h).2.2.2
  case getfield j => exact le_of (zgetf_M h)
  case putfield j => exact le_eq (zputf_nx h)
  case iaload => exact le_of (zaldI_M h)
  case baload => exact le_of (zaldB_M h)
  case laload => exact le_of (zaldJ_M h)
  case aaload => exact le_of (zaldA_M h)
  case iastore => exact le_eq (zastI_nx h)
  case bastore => exact le_eq (zastB_nx h)
  case lastore => exact le_eq (zastJ_nx h)
  case aastore => exact le_eq (zastA_nx h)
  case arraylength => exact le_of (zalen_M h)
  case new j => have := znew_nx h; omega
  all_goals (try exact absurd (show none = some (pc', ls', st', M') from h) (by intro z; cases z))
  all_goals (simp only [zstep] at h)
  all_goals (repeat' split at h)
  all_goals first
    | (cases h; done)
    | (cases h; exact Int.le_refl _)
    | exact le_of (zjump_at h).2.2.2
    | exact le_of (zbr_M h)
    | (have := znewa_nx h; omega)
    | exact znewm_nx h
theorem zbody_nx : ∀ (n d k pc : Nat) (ls : ZL) (st : ZS) (M : ZM) (r : Option ZV) (M' : ZM), zbody n d k pc ls st M = some (r, M') → znx M ≤ znx M'
  | 0, _, _, _, _, _, _, _, _, h => by cases h
  | n + 1, d, k, pc, ls, st, M, r, M', h => by
    rw [zbody_eq] at h
    split at h
    · cases h
    · next i m eq =>
      split at h
      · split at h
        · repeat' split at h
          all_goals first | (cases h; done) | (cases h; exact Int.le_refl _)
        · repeat' split at h
          all_goals first | (cases h; done) | (cases h; exact Int.le_refl _)
        · repeat' split at h
          all_goals first | (cases h; done) | (cases h; exact Int.le_refl _)
        · repeat' split at h
          all_goals first | (cases h; done) | (cases h; exact Int.le_refl _)
        · split at h
          · split at h
            · split at h
              · split at h
                · exact zbody_nx n _ _ _ _ _ _ _ _ h
                · cases h
              · cases h
            · split at h
              · split at h
                · next e1 => exact Int.le_trans (zbody_nx n _ _ _ _ _ _ _ _ e1) (zbody_nx n _ _ _ _ _ _ _ _ h)
                · cases h
              · cases h
          · cases h
        · split at h
          · split at h
            · split at h
              · next e1 =>
                have := zbody_nx n _ _ _ _ _ _ _ _ h
                rw [zacopy_nx e1] at this
                exact this
              · cases h
            · split at h
              · split at h
                · next e1 =>
                  have := zbody_nx n _ _ _ _ _ _ _ _ h
                  rw [zmm_M e1] at this
                  exact this
                · cases h
              · split at h
                · split at h
                  · next e1 => exact Int.le_trans (zbody_nx n _ _ _ _ _ _ _ _ e1) (zbody_nx n _ _ _ _ _ _ _ _ h)
                  · cases h
                · cases h
          · cases h
        · split at h
          · split at h
            · split at h
              · next e1 => exact Int.le_trans (zbody_nx n _ _ _ _ _ _ _ _ e1) (zbody_nx n _ _ _ _ _ _ _ _ h)
              · cases h
            · cases h
          · cases h
        · split at h
          · next e1 => exact Int.le_trans (zstep_nx e1) (zbody_nx n _ _ _ _ _ _ _ _ h)
          · cases h
      · cases h
theorem zdc_add {M M1 M2 : ZM} (h1 : znx M ≤ znx M1) (h2 : znx M1 ≤ znx M2) : zdc M M1 + zdc M1 M2 = zdc M M2 := by
  unfold zdc
  omega
theorem zds_add {M M1 M2 : ZM} (h1 : znx M ≤ znx M1) (h2 : znx M1 ≤ znx M2) : zds M M1 + zds M1 M2 = zds M M2 := by
  have a : zsl M ≤ zsl M1 := zsum_mono (by omega)
  have b : zsl M1 ≤ zsl M2 := zsum_mono (by omega)
  unfold zds
  omega
end ZNX
theorem zsnd {l : Launch} {B : zBs} {D : va_G} {aD : Nat → ClassId} {L : Nat} {xs : Nat → Int32} : ∀ n : Nat, zSnd l B D aD L xs n
  | 0 => fun d k pc ls st M r M' h => by cases h
  | n + 1 => by
    intro d k pc ls st M r M' h p e R s m args below meth c C hfr hlo H locs LS cells slots Q S hc hs hret
    have ih := zsnd (l := l) (B := B) (D := D) (aD := aD) (L := L) (xs := xs) n
    have hnxA := zbody_nx _ _ _ _ _ _ _ _ _ h
    /- what goes on behind a step or a call -/
    have next : ∀ (pc1 : Nat) (ls1 : ZL) (st1 : ZS) (M1 : ZM), zbody n d k pc1 ls1 st1 M1 = some (r, M') → znx M ≤ znx M1 → ∀ (H1 : Heap) (locs1 : List Loc) (LS1 : Array Slot), zSt B D aD L xs k s H1 locs1 ls1 LS1 st1 M1 → W p l e R s m args below meth c H1 locs1 (cells + zdc M M1) (slots + zds M M1) Q (F0 m pc1 LS1 (st1.map (zenc B))) := by
      intro pc1 ls1 st1 M1 h1 hn1 H1 locs1 LS1 S1
      have hn2 := zbody_nx _ _ _ _ _ _ _ _ _ h1
      have a1 := zdc_add hn1 hn2
      have a2 := zds_add hn1 hn2
      refine ih d k pc1 ls1 st1 M1 r M' h1 p e R s m args below meth c C hfr hlo H1 locs1 LS1 _ _ Q S1 (by omega) (by omega) ?_
      intro H2 locs2 LS2 pc2 ST q1 q2 q3 q4 q5
      have w := hret H2 locs2 LS2 pc2 ST q1 q2 q3 q4 q5
      rw [Nat.add_assoc, Nat.add_assoc, a1, a2]
      exact w
    have room : ∀ (M1 : ZM), znx M ≤ znx M1 → znx M1 ≤ znx M' → cells + zdc M M1 ≤ R.cells ∧ slots + zds M M1 ≤ R.slots := fun M1 h1 h2 => by
      have a1 := zdc_add h1 h2
      have a2 := zds_add h1 h2
      omega
    have fin : ∀ (ST : List Value), M' = M → (∀ v, r = some v → zokV (znx M) v) → zRet B k pc r ST → st.map (zenc B) = ST → W p l e R s m args below meth c H locs cells slots Q (F0 m pc LS (st.map (zenc B))) := fun ST e1 h1 h2 h3 => by
      subst e1
      have w := hret H locs LS pc ST S.1 S.2.1 S.2.2.1 h1 h2
      rw [zdc_self rfl, zds_self rfl, ← h3] at w
      exact w
    rw [zbody_eq] at h
    split at h
    · cases h
    · next i nn eq =>
      have hd := zins_ok eq
      split at h
      · next hn =>
        split at h
        · cases Nat.eq_of_beq_eq_true hn
          split at h
          · next x =>
            split at h
            · next hr =>
              cases h
              refine fin _ rfl (fun v hv => by cases hv; exact S.2.2.2.2 (.inl x) List.mem_cons_self) ⟨hd, rfl, ?_⟩ rfl
              unfold zretI at hr
              split at hr
              · next q => exact Or.inl q
              · next q => exact Or.inr ⟨q, of_decide_eq_true hr⟩
              · cases hr
            · cases h
          · cases h
        · cases Nat.eq_of_beq_eq_true hn
          split at h
          · next x =>
            split at h
            · next hr =>
              cases h
              exact fin _ rfl (fun v hv => by cases hv; exact S.2.2.2.2 (.inr (.inl x)) List.mem_cons_self) ⟨hd, rfl, hr⟩ rfl
            · cases h
          · cases h
        · cases Nat.eq_of_beq_eq_true hn
          split at h
          · next a =>
            split at h
            · next hr =>
              cases h
              refine fin _ rfl (fun v hv => by cases hv; exact S.2.2.2.2 (.inr (.inr a)) List.mem_cons_self) ⟨hd, rfl, hr.2, ?_⟩ rfl
              have hr := hr.1
              unfold zretA at hr
              split at hr
              · next q => exact Or.inl ⟨_, q⟩
              · next q => exact Or.inr ⟨_, q⟩
              · cases hr
            · cases h
          · cases h
        · cases Nat.eq_of_beq_eq_true hn
          split at h
          · split at h
            · next hr =>
              cases h
              exact fin _ rfl (fun v hv => by cases hv) ⟨hd, rfl, hr⟩ rfl
            · cases h
          · cases h
        · next j =>
          cases Nat.eq_of_beq_eq_true hn
          split at h
          · next t nest q eql =>
            split at h
            · next ht =>
              split at h
              · next a r1 d1 =>
                split at h
                · next hcc =>
                  obtain ⟨ha0, hcat⟩ := hcc
                  have hl0 := zMl_ok (zcl k) _ (zlk_mem _ _ _ eql)
                  subst ht
                  have hl : (zhas q (.methodLink (zcn (zcl k)) j Lib.objectInit) && Nat.beq nest 0) = true := hl0
                  rw [Bool.and_eq_true] at hl
                  have hts := C.2.2.2.2.1
                  show W p l e R s m args below meth c H locs cells slots Q (F0 m pc LS (zrv B a :: r1.map (zenc B)))
                  rw [zrv_ref ha0]
                  refine W.objInit C.1 C.2.1 C.2.2.2.1 (hts _ (zhas_in hl.1)) (hts _ zx_oii) (hts _ zx_oic) (g := F0 m pc LS (.ref (zad B a) :: r1.map (zenc B))) rfl ((S.2.2.2.1.2.1).trans C.2.2.1.symm) rfl hd (by omega) (by
                    rw [zcat_sum]
                    show 2 * 0 + _ + 12 ≤ _
                    omega) ?_
                  have w := next (pc + 3) ls r1 M h (Int.le_refl _) H locs LS (S.to fun v hv => S.2.2.2.2 v (List.mem_cons_of_mem _ hv))
                  rw [zdc_self rfl, zds_self rfl] at w
                  exact w
                · cases h
              · cases h
            · split at h
              · next av r1 d1 erd =>
                split at h
                · next v M1 e1 =>
                  have n1 := zbody_nx _ _ _ _ _ _ _ _ _ e1
                  have n2 := zbody_nx _ _ _ _ _ _ _ _ _ h
                  exact zs_call (kind := 2) ih S C eql erd e1 n1 hfr hlo (room M1 n1 n2).1 (room M1 n1 n2).2 hd (fun H1 locs1 S1 => next _ _ _ M1 h n1 H1 locs1 LS S1)
                · cases h
              · cases h
          · cases h
        · next j =>
          cases Nat.eq_of_beq_eq_true hn
          split at h
          · next t nest q eql =>
            split at h
            · next ht =>
              split at h
              · next d1 pc1 ls1 st1 M1 e1 =>
                have hl0 := zMl_ok (zcl k) _ (zlk_mem _ _ _ eql)
                subst ht
                have hl : (zhas q (.methodLink (zcn (zcl k)) j arraycopyName) && Nat.beq nest 0) = true := hl0
                rw [Bool.and_eq_true] at hl
                have hnn := zacopy_nx e1
                refine zs_copy S C hd (zhas_in hl.1) e1 (by omega) (by omega) (fun H1 locs1 S1 _ => ?_)
                have w := next pc1 ls1 st1 M1 h (by rw [hnn]; exact Int.le_refl _) H1 locs1 LS S1
                rw [zdc_self hnn, zds_self hnn] at w
                exact w
              · cases h
            · split at h
              · next ht =>
                split at h
                · next d1 pc1 ls1 st1 M1 e1 =>
                  have hmm := zmm_M e1
                  subst hmm
                  refine zs_mm S C hd eql ht e1 (by omega) (by omega) (by omega) (by omega) (fun LS' S1 _ => ?_)
                  have w := next pc1 ls1 st1 M1 h (Int.le_refl _) H locs LS' S1
                  rw [zdc_self rfl, zds_self rfl] at w
                  exact w
                · cases h
              · split at h
                · next av r1 d1 erd =>
                  split at h
                  · next v M1 e1 =>
                    have n1 := zbody_nx _ _ _ _ _ _ _ _ _ e1
                    have n2 := zbody_nx _ _ _ _ _ _ _ _ _ h
                    exact zs_call (kind := 0) ih S C eql erd e1 n1 hfr hlo (room M1 n1 n2).1 (room M1 n1 n2).2 hd (fun H1 locs1 S1 => next _ _ _ M1 h n1 H1 locs1 LS S1)
                  · cases h
                · cases h
          · cases h
        · next j =>
          cases Nat.eq_of_beq_eq_true hn
          split at h
          · next t nest q eql =>
            split at h
            · next av r1 d1 erd =>
              split at h
              · next v M1 e1 =>
                have n1 := zbody_nx _ _ _ _ _ _ _ _ _ e1
                have n2 := zbody_nx _ _ _ _ _ _ _ _ _ h
                exact zs_call (kind := 1) ih S C eql erd e1 n1 hfr hlo (room M1 n1 n2).1 (room M1 n1 n2).2 hd (fun H1 locs1 S1 => next _ _ _ M1 h n1 H1 locs1 LS S1)
              · cases h
            · cases h
          · cases h
        · split at h
          · next pc1 ls1 st1 M1 e1 =>
            have n1 := zstep_nx e1
            have n2 := zbody_nx _ _ _ _ _ _ _ _ _ h
            exact zstep_sound S C hd hn e1 (room M1 n1 n2).1 (room M1 n1 n2).2 (fun H1 locs1 LS' S1 => next pc1 ls1 st1 M1 h n1 H1 locs1 LS' S1)
          · cases h
      · cases h
end
section
/-! ===== the small machine's runs, as statements about what comes of them ===== -/
theorem zbody_mono1 : ∀ (n d k pc : Nat) (ls : ZL) (st : ZS) (M : ZM) (x : Option ZV × ZM), zbody n d k pc ls st M = some x → zbody (n + 1) d k pc ls st M = some x
  | 0, _, _, _, _, _, _, _, h => by cases h
  | n + 1, d, k, pc, ls, st, M, x, h => by
    rw [zbody_eq] at h ⊢
    split at h
    · cases h
    · next i m eq =>
      (try rw [eq])
      (try dsimp only)
      split at h
      · next hl =>
        rw [if_pos hl]
        cases i
        case ireturn => exact h
        case lreturn => exact h
        case areturn => exact h
        case return_ => exact h
        case invokespecial j =>
          dsimp only at h ⊢
          split at h
          · next t nest q e1 =>
            (try rw [e1])
            (try dsimp only)
            split at h
            · next ht =>
              rw [if_pos ht]
              split at h
              · next a r1 d1 =>
                split at h
                · next hc => rw [if_pos hc]; exact zbody_mono1 n _ _ _ _ _ _ _ h
                · cases h
              · cases h
            · next ht =>
              rw [if_neg ht]
              split at h
              · next av r1 d1 e2 =>
                (try rw [e2])
                (try dsimp only)
                split at h
                · next v M1 e3 =>
                  rw [zbody_mono1 n _ _ _ _ _ _ _ e3]
                  exact zbody_mono1 n _ _ _ _ _ _ _ h
                · cases h
              · cases h
          · cases h
        case invokestatic j =>
          dsimp only at h ⊢
          split at h
          · next t nest q e1 =>
            (try rw [e1])
            (try dsimp only)
            split at h
            · next ht =>
              rw [if_pos ht]
              split at h
              · next d1 pc1 ls1 st1 M1 e2 =>
                (try rw [e2])
                exact zbody_mono1 n _ _ _ _ _ _ _ h
              · cases h
            · next ht =>
              rw [if_neg ht]
              split at h
              · next ht2 =>
                rw [if_pos ht2]
                split at h
                · next d1 pc1 ls1 st1 M1 e2 =>
                  (try rw [e2])
                  exact zbody_mono1 n _ _ _ _ _ _ _ h
                · cases h
              · next ht2 =>
                rw [if_neg ht2]
                split at h
                · next av r1 d1 e2 =>
                  (try rw [e2])
                  (try dsimp only)
                  split at h
                  · next v M1 e3 =>
                    rw [zbody_mono1 n _ _ _ _ _ _ _ e3]
                    exact zbody_mono1 n _ _ _ _ _ _ _ h
                  · cases h
                · cases h
          · cases h
        case invokevirtual j =>
          dsimp only at h ⊢
          split at h
          · next t nest q e1 =>
            (try rw [e1])
            (try dsimp only)
            split at h
            · next av r1 d1 e2 =>
              (try rw [e2])
              (try dsimp only)
              split at h
              · next v M1 e3 =>
                rw [zbody_mono1 n _ _ _ _ _ _ _ e3]
                exact zbody_mono1 n _ _ _ _ _ _ _ h
              · cases h
            · cases h
          · cases h
        all_goals
          dsimp only at h ⊢
          split at h
          · next e1 =>
            (try rw [e1])
            exact zbody_mono1 n _ _ _ _ _ _ _ h
          · cases h
      · cases h
theorem zbody_mono {n m : Nat} (hnm : n ≤ m) {d k pc : Nat} {ls : ZL} {st : ZS} {M : ZM} {x : Option ZV × ZM} (h : zbody n d k pc ls st M = some x) : zbody m d k pc ls st M = some x := by
  induction m with
  | zero =>
    have : n = 0 := by omega
    subst this
    exact h
  | succ m ih =>
    by_cases q : n = m + 1
    · subst q; exact h
    · exact zbody_mono1 m _ _ _ _ _ _ _ (ih (by omega))
/-! ===== the cells' kinds, quick ===== -/
def zshN (n : Nat) : Nat × Int := bif Nat.blt n 269 then (bif Nat.blt n 134 then (bif Nat.blt n 67 then (bif Nat.blt n 33 then (bif Nat.blt n 16 then (bif Nat.blt n 8 then (bif Nat.blt n 4 then (bif Nat.blt n 2 then (bif Nat.blt n 1 then (21, 0) else (20, 18)) else (bif Nat.blt n 3 then (20, 3) else (18, 0))) else (bif Nat.blt n 6 then (bif Nat.blt n 5 then (12, 0) else (0, 180)) else (bif Nat.blt n 7 then (12, 0) else (0, 180)))) else (bif Nat.blt n 12 then (bif Nat.blt n 10 then (bif Nat.blt n 9 then (11, 0) else (4, 25)) else (bif Nat.blt n 11 then (10, 0) else (2, 1000))) else (bif Nat.blt n 14 then (bif Nat.blt n 13 then (0, 3) else (0, 3)) else (bif Nat.blt n 15 then (10, 0) else (2, 1000))))) else (bif Nat.blt n 24 then (bif Nat.blt n 20 then (bif Nat.blt n 18 then (bif Nat.blt n 17 then (0, 3) else (0, 3)) else (bif Nat.blt n 19 then (10, 0) else (2, 1000))) else (bif Nat.blt n 22 then (bif Nat.blt n 21 then (0, 3) else (0, 3)) else (bif Nat.blt n 23 then (10, 0) else (2, 1000)))) else (bif Nat.blt n 28 then (bif Nat.blt n 26 then (bif Nat.blt n 25 then (0, 3) else (0, 3)) else (bif Nat.blt n 27 then (10, 0) else (2, 1000))) else (bif Nat.blt n 30 then (bif Nat.blt n 29 then (0, 3) else (0, 3)) else (bif Nat.blt n 31 then (10, 0) else (bif Nat.blt n 32 then (2, 1000) else (0, 3))))))) else (bif Nat.blt n 50 then (bif Nat.blt n 41 then (bif Nat.blt n 37 then (bif Nat.blt n 35 then (bif Nat.blt n 34 then (0, 3) else (10, 0)) else (bif Nat.blt n 36 then (2, 1000) else (0, 3))) else (bif Nat.blt n 39 then (bif Nat.blt n 38 then (0, 3) else (10, 0)) else (bif Nat.blt n 40 then (2, 1000) else (0, 3)))) else (bif Nat.blt n 45 then (bif Nat.blt n 43 then (bif Nat.blt n 42 then (0, 3) else (10, 0)) else (bif Nat.blt n 44 then (2, 1000) else (0, 3))) else (bif Nat.blt n 47 then (bif Nat.blt n 46 then (0, 3) else (10, 0)) else (bif Nat.blt n 48 then (2, 1000) else (bif Nat.blt n 49 then (0, 3) else (0, 3)))))) else (bif Nat.blt n 58 then (bif Nat.blt n 54 then (bif Nat.blt n 52 then (bif Nat.blt n 51 then (10, 0) else (2, 1000)) else (bif Nat.blt n 53 then (0, 3) else (0, 3))) else (bif Nat.blt n 56 then (bif Nat.blt n 55 then (10, 0) else (2, 1000)) else (bif Nat.blt n 57 then (0, 3) else (0, 3)))) else (bif Nat.blt n 62 then (bif Nat.blt n 60 then (bif Nat.blt n 59 then (10, 0) else (2, 1000)) else (bif Nat.blt n 61 then (0, 3) else (0, 3))) else (bif Nat.blt n 64 then (bif Nat.blt n 63 then (10, 0) else (2, 1000)) else (bif Nat.blt n 65 then (0, 3) else (bif Nat.blt n 66 then (0, 3) else (10, 0)))))))) else (bif Nat.blt n 100 then (bif Nat.blt n 83 then (bif Nat.blt n 75 then (bif Nat.blt n 71 then (bif Nat.blt n 69 then (bif Nat.blt n 68 then (2, 1000) else (0, 3)) else (bif Nat.blt n 70 then (0, 3) else (10, 0))) else (bif Nat.blt n 73 then (bif Nat.blt n 72 then (2, 1000) else (0, 3)) else (bif Nat.blt n 74 then (0, 3) else (10, 0)))) else (bif Nat.blt n 79 then (bif Nat.blt n 77 then (bif Nat.blt n 76 then (2, 1000) else (0, 3)) else (bif Nat.blt n 78 then (0, 3) else (10, 0))) else (bif Nat.blt n 81 then (bif Nat.blt n 80 then (2, 1000) else (0, 3)) else (bif Nat.blt n 82 then (0, 3) else (10, 0))))) else (bif Nat.blt n 91 then (bif Nat.blt n 87 then (bif Nat.blt n 85 then (bif Nat.blt n 84 then (2, 1000) else (0, 3)) else (bif Nat.blt n 86 then (0, 3) else (10, 0))) else (bif Nat.blt n 89 then (bif Nat.blt n 88 then (2, 1000) else (0, 3)) else (bif Nat.blt n 90 then (0, 3) else (10, 0)))) else (bif Nat.blt n 95 then (bif Nat.blt n 93 then (bif Nat.blt n 92 then (2, 1000) else (0, 3)) else (bif Nat.blt n 94 then (0, 3) else (10, 0))) else (bif Nat.blt n 97 then (bif Nat.blt n 96 then (2, 1000) else (0, 3)) else (bif Nat.blt n 98 then (0, 3) else (bif Nat.blt n 99 then (10, 0) else (2, 1000))))))) else (bif Nat.blt n 117 then (bif Nat.blt n 108 then (bif Nat.blt n 104 then (bif Nat.blt n 102 then (bif Nat.blt n 101 then (0, 3) else (0, 3)) else (bif Nat.blt n 103 then (10, 0) else (2, 1000))) else (bif Nat.blt n 106 then (bif Nat.blt n 105 then (0, 3) else (0, 3)) else (bif Nat.blt n 107 then (10, 0) else (2, 1000)))) else (bif Nat.blt n 112 then (bif Nat.blt n 110 then (bif Nat.blt n 109 then (0, 3) else (0, 3)) else (bif Nat.blt n 111 then (11, 0) else (4, 25))) else (bif Nat.blt n 114 then (bif Nat.blt n 113 then (10, 0) else (2, 1000)) else (bif Nat.blt n 115 then (0, 3) else (bif Nat.blt n 116 then (0, 3) else (10, 0)))))) else (bif Nat.blt n 125 then (bif Nat.blt n 121 then (bif Nat.blt n 119 then (bif Nat.blt n 118 then (2, 1000) else (0, 3)) else (bif Nat.blt n 120 then (0, 3) else (10, 0))) else (bif Nat.blt n 123 then (bif Nat.blt n 122 then (2, 1000) else (0, 3)) else (bif Nat.blt n 124 then (0, 3) else (10, 0)))) else (bif Nat.blt n 129 then (bif Nat.blt n 127 then (bif Nat.blt n 126 then (2, 1000) else (0, 3)) else (bif Nat.blt n 128 then (0, 3) else (10, 0))) else (bif Nat.blt n 131 then (bif Nat.blt n 130 then (2, 1000) else (0, 3)) else (bif Nat.blt n 132 then (0, 3) else (bif Nat.blt n 133 then (10, 0) else (2, 1000))))))))) else (bif Nat.blt n 201 then (bif Nat.blt n 167 then (bif Nat.blt n 150 then (bif Nat.blt n 142 then (bif Nat.blt n 138 then (bif Nat.blt n 136 then (bif Nat.blt n 135 then (0, 3) else (0, 3)) else (bif Nat.blt n 137 then (10, 0) else (2, 1000))) else (bif Nat.blt n 140 then (bif Nat.blt n 139 then (0, 3) else (0, 3)) else (bif Nat.blt n 141 then (10, 0) else (2, 1000)))) else (bif Nat.blt n 146 then (bif Nat.blt n 144 then (bif Nat.blt n 143 then (0, 3) else (0, 3)) else (bif Nat.blt n 145 then (10, 0) else (2, 1000))) else (bif Nat.blt n 148 then (bif Nat.blt n 147 then (0, 3) else (0, 3)) else (bif Nat.blt n 149 then (10, 0) else (2, 1000))))) else (bif Nat.blt n 158 then (bif Nat.blt n 154 then (bif Nat.blt n 152 then (bif Nat.blt n 151 then (0, 3) else (0, 3)) else (bif Nat.blt n 153 then (10, 0) else (2, 1000))) else (bif Nat.blt n 156 then (bif Nat.blt n 155 then (0, 3) else (0, 3)) else (bif Nat.blt n 157 then (10, 0) else (2, 1000)))) else (bif Nat.blt n 162 then (bif Nat.blt n 160 then (bif Nat.blt n 159 then (0, 3) else (0, 3)) else (bif Nat.blt n 161 then (10, 0) else (2, 1000))) else (bif Nat.blt n 164 then (bif Nat.blt n 163 then (0, 3) else (0, 3)) else (bif Nat.blt n 165 then (10, 0) else (bif Nat.blt n 166 then (2, 1000) else (0, 3))))))) else (bif Nat.blt n 184 then (bif Nat.blt n 175 then (bif Nat.blt n 171 then (bif Nat.blt n 169 then (bif Nat.blt n 168 then (0, 3) else (10, 0)) else (bif Nat.blt n 170 then (2, 1000) else (0, 3))) else (bif Nat.blt n 173 then (bif Nat.blt n 172 then (0, 3) else (10, 0)) else (bif Nat.blt n 174 then (2, 1000) else (0, 3)))) else (bif Nat.blt n 179 then (bif Nat.blt n 177 then (bif Nat.blt n 176 then (0, 3) else (10, 0)) else (bif Nat.blt n 178 then (2, 1000) else (0, 3))) else (bif Nat.blt n 181 then (bif Nat.blt n 180 then (0, 3) else (10, 0)) else (bif Nat.blt n 182 then (2, 1000) else (bif Nat.blt n 183 then (0, 3) else (0, 3)))))) else (bif Nat.blt n 192 then (bif Nat.blt n 188 then (bif Nat.blt n 186 then (bif Nat.blt n 185 then (10, 0) else (2, 1000)) else (bif Nat.blt n 187 then (0, 3) else (0, 3))) else (bif Nat.blt n 190 then (bif Nat.blt n 189 then (10, 0) else (2, 1000)) else (bif Nat.blt n 191 then (0, 3) else (0, 3)))) else (bif Nat.blt n 196 then (bif Nat.blt n 194 then (bif Nat.blt n 193 then (10, 0) else (2, 1000)) else (bif Nat.blt n 195 then (0, 3) else (0, 3))) else (bif Nat.blt n 198 then (bif Nat.blt n 197 then (10, 0) else (2, 1000)) else (bif Nat.blt n 199 then (0, 3) else (bif Nat.blt n 200 then (0, 3) else (10, 0)))))))) else (bif Nat.blt n 235 then (bif Nat.blt n 218 then (bif Nat.blt n 209 then (bif Nat.blt n 205 then (bif Nat.blt n 203 then (bif Nat.blt n 202 then (2, 1000) else (0, 3)) else (bif Nat.blt n 204 then (0, 3) else (10, 0))) else (bif Nat.blt n 207 then (bif Nat.blt n 206 then (2, 1000) else (0, 3)) else (bif Nat.blt n 208 then (0, 3) else (10, 0)))) else (bif Nat.blt n 213 then (bif Nat.blt n 211 then (bif Nat.blt n 210 then (2, 1000) else (0, 3)) else (bif Nat.blt n 212 then (0, 3) else (15, 0))) else (bif Nat.blt n 215 then (bif Nat.blt n 214 then (0, 8) else (0, 8)) else (bif Nat.blt n 216 then (1, 320) else (bif Nat.blt n 217 then (17, 0) else (0, 250)))))) else (bif Nat.blt n 226 then (bif Nat.blt n 222 then (bif Nat.blt n 220 then (bif Nat.blt n 219 then (14, 0) else (0, 250)) else (bif Nat.blt n 221 then (0, 250) else (0, 250))) else (bif Nat.blt n 224 then (bif Nat.blt n 223 then (16, 0) else (2, 1000)) else (bif Nat.blt n 225 then (0, 500) else (0, 500)))) else (bif Nat.blt n 230 then (bif Nat.blt n 228 then (bif Nat.blt n 227 then (0, 1000) else (0, 500)) else (bif Nat.blt n 229 then (0, 1000) else (0, 500))) else (bif Nat.blt n 232 then (bif Nat.blt n 231 then (3, 500) else (0, 500)) else (bif Nat.blt n 233 then (13, 0) else (bif Nat.blt n 234 then (0, 60) else (0, 5))))))) else (bif Nat.blt n 252 then (bif Nat.blt n 243 then (bif Nat.blt n 239 then (bif Nat.blt n 237 then (bif Nat.blt n 236 then (3, 1000) else (19, 0)) else (bif Nat.blt n 238 then (0, 8) else (0, 8))) else (bif Nat.blt n 241 then (bif Nat.blt n 240 then (0, 8) else (5, 8)) else (bif Nat.blt n 242 then (1, 40) else (1, 40)))) else (bif Nat.blt n 247 then (bif Nat.blt n 245 then (bif Nat.blt n 244 then (1, 40) else (1, 40)) else (bif Nat.blt n 246 then (1, 40) else (1, 40))) else (bif Nat.blt n 249 then (bif Nat.blt n 248 then (1, 40) else (1, 40)) else (bif Nat.blt n 250 then (1, 40) else (bif Nat.blt n 251 then (0, 8) else (0, 250)))))) else (bif Nat.blt n 260 then (bif Nat.blt n 256 then (bif Nat.blt n 254 then (bif Nat.blt n 253 then (0, 8) else (0, 180)) else (bif Nat.blt n 255 then (0, 24) else (0, 24))) else (bif Nat.blt n 258 then (bif Nat.blt n 257 then (0, 192) else (0, 180)) else (bif Nat.blt n 259 then (0, 24) else (0, 24)))) else (bif Nat.blt n 264 then (bif Nat.blt n 262 then (bif Nat.blt n 261 then (0, 192) else (2, 24000)) else (bif Nat.blt n 263 then (0, 24) else (0, 24))) else (bif Nat.blt n 266 then (bif Nat.blt n 265 then (0, 24) else (0, 1000)) else (bif Nat.blt n 267 then (0, 1000) else (bif Nat.blt n 268 then (0, 60) else (0, 8)))))))))) else (99, 0)
def zshF (a : Int) : Nat × Int := match a with
  | .ofNat n => zshN n
  | .negSucc _ => (99, 0)
theorem zshN_ok : ∀ n : Nat, n < 269 → zshN n = zsh (n : Int) := by decide +kernel
theorem zshL_len : zshL.length = 266 := by decide +kernel
theorem zshF_eq (a : Int) : zshF a = zsh a := by
  cases a with
  | ofNat n =>
    show zshN n = zsh (n : Int)
    by_cases h : n < 269
    · exact zshN_ok n h
    · unfold zshN zsh
      rw [show Nat.blt n 269 = false from by
        cases e : Nat.blt n 269 with
        | true => exact absurd (Nat.le_of_ble_eq_true e) (by omega)
        | false => rfl]
      rw [if_neg (by omega), List.getElem?_eq_none (by rw [zshL_len]; omega)]
      rfl
  | negSucc n =>
    show (99, 0) = zsh (Int.negSucc n)
    unfold zsh
    rw [if_pos (by omega), if_neg (by omega), if_neg (by omega), if_neg (by omega)]
/-! ===== fixed pointers and constants ===== -/
def zpL (l : List (Nat × Nat)) (j : Int) : Option Int := match j with
  | .ofNat n => (match zlk l n with | some p => some (p : Int) | none => none)
  | .negSucc _ => none
def zpR (n b w : Int) (j : Int) : Option Int := if 0 ≤ j ∧ j < n then some (b + w * j) else none
def zpK (l : List Int) (j : Int) : Option Int := match j with
  | .ofNat n => l[n]?
  | .negSucc _ => none
def zpC (n : Nat) (j : Int) : Option Int := match j with
  | .ofNat 8 => some (n + 1 : Nat)
  | .ofNat 10 => some (n + 2 : Nat)
  | .ofNat 11 => some (n + 3 : Nat)
  | _ => none
def zpS (n : Nat) (j : Int) : Option Int :=
  bif Nat.beq n 3 then zpL [(0, 4), (1, 6), (2, 8), (3, 110), (4, 212), (5, 216), (6, 218), (7, 222), (8, 232), (9, 234), (10, 235)] j else bif Nat.beq n 4 then zpL [(0, 5)] j else bif Nat.beq n 6 then zpL [(0, 7)] j else bif Nat.beq n 8 then zpL [(0, 9)] j else bif Nat.beq n 110 then zpL [(0, 111)] j else bif Nat.beq n 212 then zpL [(0, 213), (1, 214), (2, 215)] j else bif Nat.beq n 216 then zpL [(0, 217)] j else bif Nat.beq n 218 then zpL [(0, 219), (2, 220), (4, 221)] j else bif Nat.beq n 222 then zpL [(0, 223), (1, 224), (2, 225), (3, 226), (4, 227), (5, 228), (6, 229), (7, 230), (8, 231)] j else bif Nat.beq n 232 then zpL [(0, 233)] j else bif Nat.beq n 236 then zpL [(0, 237), (1, 238), (2, 239), (3, 240), (4, 249), (5, 250), (6, 251), (8, 252), (13, 253), (14, 254), (15, 255), (16, 256), (22, 257), (23, 258), (24, 259), (25, 260), (26, 261), (27, 262), (28, 263), (29, 264), (30, 265), (31, 266), (33, 267), (38, 268)] j else bif Nat.beq n 9 then zpR 25 10 4 j else bif Nat.beq n 111 then zpR 25 112 4 j else bif Nat.beq n 240 then zpR 8 241 1 j else bif Nat.beq n 1 then zpK [0, 1, 2, 0, 2, 1, 1, 0, 2, 1, 2, 0, 2, 0, 1, 2, 1, 0] j else bif Nat.beq n 2 then zpK [100, 10, 1] j else none
def zpb (n : Nat) : Bool := Nat.ble 4 (zshN n).1 && Nat.blt (zshN n).1 21
def zpvN (n : Nat) (j : Int) : Option Int := bif zpb n then (bif Nat.beq (zshN n).1 10 then zpC n j else zpS n j) else none
def zpv (a j : Int) : Option Int := match a with
  | .ofNat n => zpvN n j
  | .negSucc n => bif Nat.beq n 0 then zpL [(0, 269)] j else none
def znp' (a j : Int) : Bool := (zpv a j).isNone
def zok (M : ZM) : Prop := ∀ a j p, zpv a j = some p → M a j = p
abbrev ZN : Type := {M : ZM // zok M}
def zr (m : ZN) (a j : Int) : Int := m.1 a j
def zrd (m : ZN) (a j : Int) : Int := match zpv a j with
  | some p => p
  | none => zr m a j
theorem zrd_eq (m : ZN) (a j : Int) : zrd m a j = m.1 a j := by
  unfold zrd
  split
  · next p e => exact (m.2 a j p e).symm
  · rfl
/-- one place written -/
def zsn (m : ZN) (a j v : Int) : ZN := ⟨fun a' j' => if (a' = a ∧ j' = j) ∧ zpv a j = none then v else m.1 a' j', fun a' j' p h => by
  show (if (a' = a ∧ j' = j) ∧ zpv a j = none then v else m.1 a' j') = p
  rw [if_neg (fun q => by obtain ⟨⟨rfl, rfl⟩, q⟩ := q; rw [q] at h; cases h)]
  exact m.2 a' j' p h⟩
theorem zsn_val {m : ZN} {a j v : Int} (h : znp' a j = true) : (zsn m a j v).1 = zset m.1 a j v := by
  have h : zpv a j = none := Option.isNone_iff_eq_none.mp h
  funext a' j'
  show (if (a' = a ∧ j' = j) ∧ zpv a j = none then v else m.1 a' j') = if a' = a ∧ j' = j then v else m.1 a' j'
  by_cases q : a' = a ∧ j' = j
  · rw [if_pos ⟨q, h⟩, if_pos q]
  · rw [if_neg (fun z => q z.1), if_neg q]
/-- a whole cell written (a cell without pointers) -/
def zcc (m : ZN) (a : Int) (F : Int → Int) : ZN := ⟨fun a' j' => if a' = a ∧ zpv a j' = none then F j' else m.1 a' j', fun a' j' p h => by
  show (if a' = a ∧ zpv a j' = none then F j' else m.1 a' j') = p
  rw [if_neg (fun q => by obtain ⟨rfl, q⟩ := q; rw [q] at h; cases h)]
  exact m.2 a' j' p h⟩
theorem zN_ext {m m' : ZN} (h : ∀ a j, zr m a j = zr m' a j) : m = m' := Subtype.ext (funext fun a => funext fun j => h a j)
theorem zr_zsn (m : ZN) (a j v a' j' : Int) : zr (zsn m a j v) a' j' = if (a' = a ∧ j' = j) ∧ zpv a j = none then v else zr m a' j' := rfl
theorem zr_zcc (m : ZN) (a : Int) (F : Int → Int) (a' j' : Int) : zr (zcc m a F) a' j' = if a' = a ∧ zpv a j' = none then F j' else zr m a' j' := rfl
/-! ===== runs over such a memory ===== -/
def zwpN (d k pc : Nat) (ls : ZL) (st : ZS) (m : ZN) (P : Option ZV → ZN → Prop) : Prop := ∃ (n : Nat) (r : Option ZV) (m' : ZN), zbody n d k pc ls st m.1 = some (r, m'.1) ∧ P r m'
def zcI (d t : Nat) (args : ZS) (m : ZN) (K : Int → ZN → Prop) : Prop := ∃ (n : Nat) (x : Int) (m' : ZN), zbody n d t 0 (zentry t args) [] m.1 = some (some (zI x), m'.1) ∧ K x m'
def zcJ (d t : Nat) (args : ZS) (m : ZN) (K : Int → ZN → Prop) : Prop := ∃ (n : Nat) (x : Int) (m' : ZN), zbody n d t 0 (zentry t args) [] m.1 = some (some (zJ x), m'.1) ∧ K x m'
def zcA (d t : Nat) (args : ZS) (m : ZN) (K : Int → ZN → Prop) : Prop := ∃ (n : Nat) (x : Int) (m' : ZN), zbody n d t 0 (zentry t args) [] m.1 = some (some (zA x), m'.1) ∧ K x m'
def zcV (d t : Nat) (args : ZS) (m : ZN) (K : ZN → Prop) : Prop := ∃ (n : Nat) (m' : ZN), zbody n d t 0 (zentry t args) [] m.1 = some (none, m'.1) ∧ K m'
def zPI (K : Int → ZN → Prop) : Option ZV → ZN → Prop := fun v m => match v with
  | some (.inl x) => K x m
  | _ => False
def zPJ (K : Int → ZN → Prop) : Option ZV → ZN → Prop := fun v m => match v with
  | some (.inr (.inl x)) => K x m
  | _ => False
def zPA (K : Int → ZN → Prop) : Option ZV → ZN → Prop := fun v m => match v with
  | some (.inr (.inr x)) => K x m
  | _ => False
def zPV (K : ZN → Prop) : Option ZV → ZN → Prop := fun v m => match v with
  | none => K m
  | _ => False
theorem zcI_in {d t : Nat} {args : ZS} {m : ZN} {K : Int → ZN → Prop} (h : zwpN d t 0 (zentry t args) [] m (zPI K)) : zcI d t args m K := by
  obtain ⟨n, r, m', h1, h2⟩ := h
  match r, h1, h2 with
  | some (.inl x), h1, h2 => exact ⟨n, x, m', h1, h2⟩
  | none, _, h2 => exact h2.elim
  | some (.inr (.inl _)), _, h2 => exact h2.elim
  | some (.inr (.inr _)), _, h2 => exact h2.elim
theorem zcJ_in {d t : Nat} {args : ZS} {m : ZN} {K : Int → ZN → Prop} (h : zwpN d t 0 (zentry t args) [] m (zPJ K)) : zcJ d t args m K := by
  obtain ⟨n, r, m', h1, h2⟩ := h
  match r, h1, h2 with
  | some (.inr (.inl x)), h1, h2 => exact ⟨n, x, m', h1, h2⟩
  | none, _, h2 => exact h2.elim
  | some (.inl _), _, h2 => exact h2.elim
  | some (.inr (.inr _)), _, h2 => exact h2.elim
theorem zcA_in {d t : Nat} {args : ZS} {m : ZN} {K : Int → ZN → Prop} (h : zwpN d t 0 (zentry t args) [] m (zPA K)) : zcA d t args m K := by
  obtain ⟨n, r, m', h1, h2⟩ := h
  match r, h1, h2 with
  | some (.inr (.inr x)), h1, h2 => exact ⟨n, x, m', h1, h2⟩
  | none, _, h2 => exact h2.elim
  | some (.inl _), _, h2 => exact h2.elim
  | some (.inr (.inl _)), _, h2 => exact h2.elim
theorem zcV_in {d t : Nat} {args : ZS} {m : ZN} {K : ZN → Prop} (h : zwpN d t 0 (zentry t args) [] m (zPV K)) : zcV d t args m K := by
  obtain ⟨n, r, m', h1, h2⟩ := h
  match r, h1, h2 with
  | none, h1, h2 => exact ⟨n, m', h1, h2⟩
  | some (.inl _), _, h2 => exact h2.elim
  | some (.inr (.inl _)), _, h2 => exact h2.elim
  | some (.inr (.inr _)), _, h2 => exact h2.elim
theorem zbody_det {n1 n2 d k pc : Nat} {ls : ZL} {st : ZS} {M : ZM} {x y : Option ZV × ZM} (h1 : zbody n1 d k pc ls st M = some x) (h2 : zbody n2 d k pc ls st M = some y) : x = y := by
  have a := zbody_mono (Nat.le_max_left n1 n2) h1
  have b := zbody_mono (Nat.le_max_right n1 n2) h2
  exact Option.some.inj (a.symm.trans b)
theorem zcI_eq {d t : Nat} {args : ZS} {m m' : ZN} {r : Int} (h : zcI d t args m (fun v m1 => v = r ∧ m1 = m')) (K : Int → ZN → Prop) : zcI d t args m K = K r m' := by
  obtain ⟨n, x, m1, h1, rfl, rfl⟩ := h
  refine propext ⟨fun ⟨n2, y, m2, h3, h4⟩ => ?_, fun h4 => ⟨n, _, _, h1, h4⟩⟩
  have e := zbody_det h1 h3
  obtain ⟨e1, e2⟩ := Prod.mk.inj e
  cases e1
  rw [Subtype.ext e2]
  exact h4
theorem zcJ_eq {d t : Nat} {args : ZS} {m m' : ZN} {r : Int} (h : zcJ d t args m (fun v m1 => v = r ∧ m1 = m')) (K : Int → ZN → Prop) : zcJ d t args m K = K r m' := by
  obtain ⟨n, x, m1, h1, rfl, rfl⟩ := h
  refine propext ⟨fun ⟨n2, y, m2, h3, h4⟩ => ?_, fun h4 => ⟨n, _, _, h1, h4⟩⟩
  have e := zbody_det h1 h3
  obtain ⟨e1, e2⟩ := Prod.mk.inj e
  cases e1
  rw [Subtype.ext e2]
  exact h4
theorem zcA_eq {d t : Nat} {args : ZS} {m m' : ZN} {r : Int} (h : zcA d t args m (fun v m1 => v = r ∧ m1 = m')) (K : Int → ZN → Prop) : zcA d t args m K = K r m' := by
  obtain ⟨n, x, m1, h1, rfl, rfl⟩ := h
  refine propext ⟨fun ⟨n2, y, m2, h3, h4⟩ => ?_, fun h4 => ⟨n, _, _, h1, h4⟩⟩
  have e := zbody_det h1 h3
  obtain ⟨e1, e2⟩ := Prod.mk.inj e
  cases e1
  rw [Subtype.ext e2]
  exact h4
theorem zcV_eq {d t : Nat} {args : ZS} {m m' : ZN} (h : zcV d t args m (fun m1 => m1 = m')) (K : ZN → Prop) : zcV d t args m K = K m' := by
  obtain ⟨n, m1, h1, rfl⟩ := h
  refine propext ⟨fun ⟨n2, m2, h3, h4⟩ => ?_, fun h4 => ⟨n, _, h1, h4⟩⟩
  have e := zbody_det h1 h3
  obtain ⟨e1, e2⟩ := Prod.mk.inj e
  rw [Subtype.ext e2]
  exact h4
/-! ===== the evaluator: what must hold for a run from here to come to P ===== -/
def zck (c K : Prop) : Prop := c ∧ K
def zelem (l : List Nat) (n : Nat) : Bool := match l with
  | [] => false
  | x :: l => bif Nat.beq x n then true else zelem l n
def zpos (a : Int) : Bool := match a with
  | .ofNat _ => true
  | .negSucc _ => false
def zkO (a : Int) (c : Nat) : Bool := Nat.beq (zshF a).1 (10 + c) && decide ((zshF a).2 = 0)
def zkI (a : Int) : Bool := Nat.beq (zshF a).1 0 || Nat.beq (zshF a).1 20 || Nat.beq (zshF a).1 21
def zk0 (a : Int) : Bool := Nat.beq (zshF a).1 0
def zkJ (a : Int) : Bool := Nat.beq (zshF a).1 1
def zkB (a : Int) : Bool := Nat.beq (zshF a).1 2
def zkZ (a : Int) : Bool := Nat.beq (zshF a).1 3
def zkA (a : Int) : Bool := Nat.beq (zshF a).1 4 || Nat.beq (zshF a).1 5
def zkL (a : Int) : Bool := Nat.ble (zshF a).1 5 || Nat.beq (zshF a).1 21
def zln (m : ZN) (a : Int) : Int := match a with
  | .ofNat 0 => zr m 0 (-1)
  | _ => (zshF a).2
def zready1 (t : Nat) (st : ZS) : Option (Int × ZS × ZS) := bif Nat.beq (zkind t) 1 && Nat.ble (znp t + 1) st.length && Nat.ble (zcat (st.drop (znp t + 1))) 8 && Nat.ble (zslots (st.take (znp t + 1)).reverse).length (zmaxL t) && Nat.blt (zcl t) 10 then (match (st.take (znp t + 1)).reverse with
  | .inr (.inr a) :: args => some (a, args, st.drop (znp t + 1))
  | _ => none) else none
def zWret (d t : Nat) (args r : ZS) (m : ZN) (K : ZS → ZN → Prop) : Prop := match zret t with
  | none => zcV d t args m (fun m1 => K r m1)
  | some .int => zcI d t args m (fun x m1 => K (zI x :: r) m1)
  | some .boolean => zcI d t args m (fun x m1 => K (zI x :: r) m1)
  | some .long => zcJ d t args m (fun x m1 => K (zJ x :: r) m1)
  | some (.object _) => zcA d t args m (fun x m1 => K (zA x :: r) m1)
  | _ => False
def zjmp (pc : Nat) (off : Int) : Nat := ((pc : Int) + off).toNat
def zjok (pc : Nat) (off : Int) : Bool := zpos ((pc : Int) + off)
def zWbr (c : ClassFile.Cond) (x y : Int) (A B : Prop) : Prop := match c with
  | .eq => if x = y then A else B
  | .ne => if x = y then B else A
  | .lt => if x < y then A else B
  | .ge => if x < y then B else A
  | .gt => if y < x then A else B
  | .le => if y < x then B else A
def zWtab (x : Int) (D : Prop) (K : Int → Prop) : Int → List Int → Prop
  | _, [] => D
  | lo, o :: os => if x = lo then K o else zWtab x D K (lo + 1) os
def zWlk (x : Int) (D : Prop) (K : Int → Prop) : List (Int × Int) → Prop
  | [] => D
  | q :: l => if x = q.1 then K q.2 else zWlk x D K l
def zpure (i : Instr) : Bool := match i with
  | .iconst _ | .bipush _ | .sipush _ | .lconst _ | .ldc _ | .ldc_w _ | .ldc2_w _ | .iload _ | .iload_n _ | .lload _ | .lload_n _ | .istore _ | .istore_n _ | .lstore _ | .iinc .. | .iadd | .isub | .imul | .ineg | .iand | .ior | .ishl | .ishr | .iushr | .lshl | .land | .lor | .lcmp | .i2l | .l2i | .i2b | .i2s | .dup | .pop | .dup_x1 | .dup2 => true
  | _ => false
def zWi (d k : Nat) (i : Instr) (pc : Nat) (ls : ZL) (st : ZS) (m : ZN) (P : Option ZV → ZN → Prop) (K : Nat → ZL → ZS → ZN → Prop) : Prop := match i with
  | .ireturn => (match st with
    | [.inl x] => (match zret k with
      | some .int => P (some (zI x)) m
      | some .boolean => zck (0 ≤ x ∧ x ≤ 1) (P (some (zI x)) m)
      | _ => False)
    | _ => False)
  | .lreturn => (match st with
    | [.inr (.inl x)] => (match zret k with
      | some .long => P (some (zJ x)) m
      | _ => False)
    | _ => False)
  | .areturn => (match st with
    | [.inr (.inr a)] => (bif zretA k && zpos a then P (some (zA a)) m else False)
    | _ => False)
  | .return_ => (match st with
    | [] => (match zret k with
      | none => P none m
      | _ => False)
    | _ => False)
  | .invokestatic j => (match zlk (zMl (zcl k)) j, d with
    | some (t, _, _), e + 1 => (bif Nat.beq t 1001 then (match st with
        | .inl n :: .inl q :: .inr (.inr a) :: .inl p :: .inr (.inr b) :: r => (bif Nat.ble (zshF a).1 2 && Nat.beq (zshF b).1 (zshF a).1 && Nat.ble (zcat r) 8 then zck ((0 ≤ n ∧ 0 ≤ q ∧ 0 ≤ p) ∧ p + n ≤ zln m b ∧ q + n ≤ zln m a) (K (pc + 3) ls r (zcc m a (fun j => if q ≤ j ∧ j < q + n then zr m b (p + (j - q)) else zr m a j))) else False)
        | _ => False)
      else bif Nat.beq t 1002 || Nat.beq t 1003 then (match st with
        | .inl y :: .inl x :: r => (bif Nat.ble (zcat r) 8 then (bif Nat.beq t 1002 then K (pc + 3) ls (zI (max x y) :: r) m else K (pc + 3) ls (zI (min x y) :: r) m) else False)
        | _ => False)
      else (match zready 0 t st with
        | some (args, r) => zWret e t args r m (K (pc + 3) ls)
        | none => False))
    | _, _ => False)
  | .invokevirtual j => (match zlk (zMl (zcl k)) j, d with
    | some (t, _, _), e + 1 => (match zready1 t st with
        | some (a, args, r) => (bif zkO a (zcl t) then zWret e t (zA a :: args) r m (K (pc + 3) ls) else False)
        | none => False)
    | _, _ => False)
  | .getfield j => (match zlk (zFl (zcl k)) j, st with
    | some (ci, f, _), .inr (.inr a) :: r => (bif zkO a ci then (match ztag (ztyX ci f) (zrd m a f) with
        | some v => K (pc + 3) ls (v :: r) m
        | none => False) else False)
    | _, _ => False)
  | .putfield j => (match zlk (zFl (zcl k)) j, st with
    | some (ci, f, _), .inl x :: .inr (.inr a) :: r => (bif zkO a ci && zfin k ci f && znp' a f then (match ztyX ci f with
        | .int => K (pc + 3) ls r (zsn m a f x)
        | .boolean => zck (0 ≤ x ∧ x ≤ 1) (K (pc + 3) ls r (zsn m a f x))
        | _ => False) else False)
    | _, _ => False)
  | .getstatic n => (match zlk (zSl (zcl k)) n with
    | some (w, _) => K (pc + 3) ls (zA (w : Int) :: st) m
    | none => False)
  | .iaload => (match st with
    | .inl i :: .inr (.inr a) :: r => (bif zkI a then zck (0 ≤ i ∧ i < zln m a) (K (pc + 1) ls (zI (zrd m a i) :: r) m) else False)
    | _ => False)
  | .baload => (match st with
    | .inl i :: .inr (.inr a) :: r => (bif zkB a || zkZ a then zck (0 ≤ i ∧ i < zln m a) (K (pc + 1) ls (zI (zrd m a i) :: r) m) else False)
    | _ => False)
  | .laload => (match st with
    | .inl i :: .inr (.inr a) :: r => (bif zkJ a then zck (0 ≤ i ∧ i < zln m a) (K (pc + 1) ls (zJ (zrd m a i) :: r) m) else False)
    | _ => False)
  | .aaload => (match st with
    | .inl i :: .inr (.inr a) :: r => (bif zkA a then zck (0 ≤ i ∧ i < zln m a) (K (pc + 1) ls (zA (zrd m a i) :: r) m) else False)
    | _ => False)
  | .iastore => (match st with
    | .inl x :: .inl i :: .inr (.inr a) :: r => (bif zk0 a then zck (0 ≤ i ∧ i < zln m a) (K (pc + 1) ls r (zsn m a i x)) else False)
    | _ => False)
  | .bastore => (match st with
    | .inl x :: .inl i :: .inr (.inr a) :: r => (bif zkB a then zck ((-128 ≤ x ∧ x ≤ 127) ∧ 0 ≤ i ∧ i < zln m a) (K (pc + 1) ls r (zsn m a i x)) else bif zkZ a then zck ((0 ≤ x ∧ x ≤ 1) ∧ 0 ≤ i ∧ i < zln m a) (K (pc + 1) ls r (zsn m a i x)) else False)
    | _ => False)
  | .lastore => (match st with
    | .inr (.inl x) :: .inl i :: .inr (.inr a) :: r => (bif zkJ a then zck (0 ≤ i ∧ i < zln m a) (K (pc + 1) ls r (zsn m a i x)) else False)
    | _ => False)
  | .arraylength => (match st with
    | .inr (.inr a) :: r => (bif zkL a then K (pc + 1) ls (zI (zln m a) :: r) m else False)
    | _ => False)
  | .idiv => (match st with
    | .inl y :: .inl x :: r => zck (¬ y = 0) (K (pc + 1) ls (zI (zb (Int.tdiv x y)) :: r) m)
    | _ => False)
  | .irem => (match st with
    | .inl y :: .inl x :: r => zck (¬ y = 0) (K (pc + 1) ls (zI (Int.tmod x y) :: r) m)
    | _ => False)
  | .aload n => (match zget ls n with
    | some (.inr (.inr x)) => (bif zpos x then K (pc + 2) ls (zA x :: st) m else False)
    | _ => False)
  | .aload_n n => (match zget ls n.val with
    | some (.inr (.inr x)) => (bif zpos x then K (pc + 1) ls (zA x :: st) m else False)
    | _ => False)
  | .astore n => (match st with
    | .inr (.inr x) :: r => (bif zpos x && Nat.blt n ls.length then K (pc + 2) (zput ls n (zA x)) r m else False)
    | _ => False)
  | .astore_n n => (match st with
    | .inr (.inr x) :: r => (bif zpos x && Nat.blt n.val ls.length then K (pc + 1) (zput ls n.val (zA x)) r m else False)
    | _ => False)
  | .goto off => (bif zjok pc off then K (zjmp pc off) ls st m else False)
  | .ifCond c off => (match st with
    | .inl x :: r => (bif zjok pc off then zWbr c x 0 (K (zjmp pc off) ls r m) (K (pc + 3) ls r m) else False)
    | _ => False)
  | .if_icmp c off => (match st with
    | .inl y :: .inl x :: r => (bif zjok pc off then zWbr c x y (K (zjmp pc off) ls r m) (K (pc + 3) ls r m) else False)
    | _ => False)
  | .tableswitch df lo hi offs => (match st with
    | .inl x :: r => (bif zjok pc df && offs.toList.all (zjok pc) && decide (hi - lo + 1 = (offs.toList.length : Int)) then zWtab x (K (zjmp pc df) ls r m) (fun o => K (zjmp pc o) ls r m) lo offs.toList else False)
    | _ => False)
  | .lookupswitch df ps => (match st with
    | .inl x :: r => (bif zjok pc df && ps.toList.all (fun q => zjok pc q.2) && (ps.toList.zip (ps.toList.drop 1)).all (fun (a, next) => a.1 < next.1) then zWlk x (K (zjmp pc df) ls r m) (fun o => K (zjmp pc o) ls r m) ps.toList else False)
    | _ => False)
  | i => (bif zpure i then (match zstep k i pc ls st m.1 with
    | some (pc', ls', st', _) => K pc' ls' st' m
    | none => False) else False)
def zX (cut : List Nat) : Nat → Nat → Nat → Nat → ZL → ZS → ZN → (Option ZV → ZN → Prop) → Prop
  | 0, d, k, pc, ls, st, m, P => zwpN d k pc ls st m P
  | n + 1, d, k, pc, ls, st, m, P => match zins k pc with
    | none => False
    | some (i, len) => (bif zlenOk i len then zWi d k i pc ls st m P (fun pc' ls' st' m' => bif zelem cut pc' then zwpN d k pc' ls' st' m' P else zX cut n d k pc' ls' st' m' P) else False)
end
section
/-! ===== the evaluator tells the truth ===== -/
theorem zcond_t {b : Bool} {A : Prop} (h : bif b then A else False) : b = true ∧ A := by
  cases b with
  | false => exact h.elim
  | true => exact ⟨rfl, h⟩
theorem zbeq {a b : Nat} (h : Nat.beq a b = true) : a = b := Nat.eq_of_beq_eq_true h
theorem zkO_ok {a : Int} {c : Nat} (h : zkO a c = true) : zsh a = (10 + c, 0) := by
  unfold zkO at h
  rw [Bool.and_eq_true] at h
  rw [← zshF_eq]
  exact Prod.ext (zbeq h.1) (of_decide_eq_true h.2)
theorem zkI_ok {a : Int} (h : zkI a = true) : (zsh a).1 = 0 ∨ (zsh a).1 = 20 ∨ (zsh a).1 = 21 := by
  unfold zkI at h
  rw [Bool.or_eq_true, Bool.or_eq_true] at h
  rw [← zshF_eq]
  rcases h with (h | h) | h
  · exact Or.inl (zbeq h)
  · exact Or.inr (Or.inl (zbeq h))
  · exact Or.inr (Or.inr (zbeq h))
theorem zk0_ok {a : Int} (h : zk0 a = true) : (zsh a).1 = 0 := by rw [← zshF_eq]; exact zbeq h
theorem zkJ_ok {a : Int} (h : zkJ a = true) : (zsh a).1 = 1 := by rw [← zshF_eq]; exact zbeq h
theorem zkB_ok {a : Int} (h : zkB a = true) : (zsh a).1 = 2 := by rw [← zshF_eq]; exact zbeq h
theorem zkZ_ok {a : Int} (h : zkZ a = true) : (zsh a).1 = 3 := by rw [← zshF_eq]; exact zbeq h
theorem zkA_ok {a : Int} (h : zkA a = true) : (zsh a).1 = 4 ∨ (zsh a).1 = 5 := by
  unfold zkA at h
  rw [Bool.or_eq_true] at h
  rw [← zshF_eq]
  exact h.imp zbeq zbeq
theorem zkL_ok {a : Int} (h : zkL a = true) : (zsh a).1 ≤ 5 ∨ (zsh a).1 = 21 := by
  unfold zkL at h
  rw [Bool.or_eq_true] at h
  rw [← zshF_eq]
  exact h.imp Nat.le_of_ble_eq_true zbeq
theorem zln_eq (m : ZN) (a : Int) : zln m a = zlen m.1 a := by
  unfold zlen
  cases a with
  | ofNat n =>
    cases n with
    | zero => rfl
    | succ n =>
      rw [if_neg (show ¬ Int.ofNat (n + 1) = 0 by intro q; cases q), ← zshF_eq]
      rfl
  | negSucc n =>
    rw [if_neg (show ¬ Int.negSucc n = 0 by intro q; cases q), ← zshF_eq]
    rfl
theorem znp_low {a : Int} (h : (zsh a).1 < 4) (j : Int) : znp' a j = true := by
  rw [← zshF_eq] at h
  cases a with
  | negSucc n => exact absurd (show (99 : Nat) < 4 from h) (by decide)
  | ofNat n =>
    have h : (zshN n).1 < 4 := h
    have e : zpb n = false := by
      unfold zpb
      rw [show Nat.ble 4 (zshN n).1 = false from by
        cases e : Nat.ble 4 (zshN n).1 with
        | true => exact absurd (Nat.le_of_ble_eq_true e) (by omega)
        | false => rfl]
      rfl
    show (zpvN n j).isNone = true
    unfold zpvN
    rw [e]
    rfl
theorem zpos_ok {a : Int} (h : zpos a = true) : 0 ≤ a := by
  cases a with
  | ofNat n => exact Int.natCast_nonneg n
  | negSucc n => cases h
theorem zhx (m : ZN) : 3 + (zshL.length : Int) ≤ znx m.1 := by
  have h : m.1 (-1) 0 = 269 := m.2 (-1) 0 269 rfl
  show _ ≤ m.1 (-1) 0
  rw [h, zshL_len]
  decide
theorem zjok_ok {pc : Nat} {off : Int} (h : zjok pc off = true) : 0 ≤ (pc : Int) + off := zpos_ok h
theorem zmax_eq (x y : Int) : (if x < y then y else x) = max x y := by
  by_cases h : x < y
  · rw [if_pos h, Int.max_eq_right (by omega)]
  · rw [if_neg h, Int.max_eq_left (by omega)]
theorem zmin_eq (x y : Int) : (if y < x then y else x) = min x y := by
  by_cases h : y < x
  · rw [if_pos h, Int.min_eq_right (by omega)]
  · rw [if_neg h, Int.min_eq_left (by omega)]
theorem zcc_val {m : ZN} {a b p q n : Int} (h : (zsh a).1 < 4) : (zcc m a (fun j => if q ≤ j ∧ j < q + n then zr m b (p + (j - q)) else zr m a j)).1 = zcopy m.1 b p a q n := by
  funext a' j'
  have hz : zpv a j' = none := Option.isNone_iff_eq_none.mp (znp_low h j')
  show (if a' = a ∧ zpv a j' = none then (if q ≤ j' ∧ j' < q + n then zr m b (p + (j' - q)) else zr m a j') else m.1 a' j') = if a' = a ∧ q ≤ j' ∧ j' < q + n then m.1 b (p + (j' - q)) else m.1 a' j'
  by_cases e : a' = a
  · subst e
    rw [if_pos ⟨rfl, hz⟩]
    by_cases z : q ≤ j' ∧ j' < q + n
    · rw [if_pos z, if_pos ⟨rfl, z⟩]
      rfl
    · rw [if_neg z, if_neg (fun x => z x.2)]
      rfl
  · rw [if_neg (fun x => e x.1), if_neg (fun x => e x.1)]
theorem zpure_M {k pc pc' : Nat} {i : Instr} {ls ls' : ZL} {st st' : ZS} {M M' : ZM} (hp : zpure i = true) (h : zstep k i pc ls st M = some (pc', ls', st', M')) : M' = M := by
  cases i
  case ldc j => exact zkon_M h
  case ldc_w j => exact zkon_M h
  case ldc2_w j => exact zkon_M h
  case iload j => exact zldI_M h
  case iload_n j => exact zldI_M h
  case lload j => exact zldJ_M h
  case lload_n j => exact zldJ_M h
  case istore j => exact zstI_M h
  case istore_n j => exact zstI_M h
  case lstore j => exact zstJ_M h
  case iadd => exact zbin_M h
  case isub => exact zbin_M h
  case imul => exact zbin_M h
  case iand => exact zbin_M h
  case ior => exact zbin_M h
  case ishl => exact zbin_M h
  case ishr => exact zbin_M h
  case iushr => exact zbin_M h
  all_goals (try (cases hp; done))
  all_goals (simp only [zstep] at h)
  all_goals (repeat' split at h)
  all_goals first | (cases h; done) | (cases h; rfl)
section ZWOK
variable {d k pc pc' : Nat} {ls ls' : ZL} {st st' : ZS} {m m1 : ZN} {P : Option ZV → ZN → Prop} {i : Instr} {len : Nat}
theorem zbody_plain {n : Nat} {M : ZM} {zplain : Instr → Bool} (hz : zins k pc = some (i, len)) (hl : zlenOk i len = true) (hp : (match i with | .ireturn | .lreturn | .areturn | .return_ | .invokespecial _ | .invokestatic _ | .invokevirtual _ => false | _ => true) = true) : zbody (n + 1) d k pc ls st M = match zstep k i pc ls st M with | some (pc', ls', st', M') => zbody n d k pc' ls' st' M' | none => none := by
  rw [zbody_eq, hz]
  dsimp only
  rw [if_pos hl]
  cases i <;> first | rfl | cases hp
theorem zwpN_go (hz : zins k pc = some (i, len)) (hl : zlenOk i len = true) (hp : (match i with | .ireturn | .lreturn | .areturn | .return_ | .invokespecial _ | .invokestatic _ | .invokevirtual _ => false | _ => true) = true) (hs : zstep k i pc ls st m.1 = some (pc', ls', st', m1.1)) (h : zwpN d k pc' ls' st' m1 P) : zwpN d k pc ls st m P := by
  obtain ⟨n, r, m', h1, h2⟩ := h
  exact ⟨n + 1, r, m', by rw [zbody_plain (zplain := fun _ => true) hz hl hp, hs]; exact h1, h2⟩
theorem zwpN_call {t : Nat} {args r : ZS} (e : ∀ n, zbody (n + 1) (d + 1) k pc ls st m.1 = match zbody n d t 0 (zentry t args) [] m.1 with | some (v, M') => zbody n (d + 1) k (pc + 3) ls (v.toList ++ r) M' | none => none) (h : ∃ (n : Nat) (v : Option ZV) (m1 : ZN), zbody n d t 0 (zentry t args) [] m.1 = some (v, m1.1) ∧ zwpN (d + 1) k (pc + 3) ls (v.toList ++ r) m1 P) : zwpN (d + 1) k pc ls st m P := by
  obtain ⟨n, v, m1, h1, n2, r2, m2, h3, h4⟩ := h
  refine ⟨max n n2 + 1, r2, m2, ?_, h4⟩
  rw [e, zbody_mono (Nat.le_max_left n n2) h1]
  exact zbody_mono (Nat.le_max_right n n2) h3
theorem zWret_ok {t : Nat} {args r : ZS} {K : ZS → ZN → Prop} (h : zWret d t args r m K) (hK : ∀ st m, K st m → zwpN (d + 1) k (pc + 3) ls st m P) : ∃ (n : Nat) (v : Option ZV) (m1 : ZN), zbody n d t 0 (zentry t args) [] m.1 = some (v, m1.1) ∧ zwpN (d + 1) k (pc + 3) ls (v.toList ++ r) m1 P := by
  unfold zWret at h
  split at h
  · obtain ⟨n, m1, h1, h2⟩ := h
    exact ⟨n, none, m1, h1, hK _ _ h2⟩
  · obtain ⟨n, x, m1, h1, h2⟩ := h
    exact ⟨n, some (zI x), m1, h1, hK _ _ h2⟩
  · obtain ⟨n, x, m1, h1, h2⟩ := h
    exact ⟨n, some (zI x), m1, h1, hK _ _ h2⟩
  · obtain ⟨n, x, m1, h1, h2⟩ := h
    exact ⟨n, some (zJ x), m1, h1, hK _ _ h2⟩
  · obtain ⟨n, x, m1, h1, h2⟩ := h
    exact ⟨n, some (zA x), m1, h1, hK _ _ h2⟩
  · exact h.elim
theorem zready1_ok {t : Nat} {a : Int} {args r : ZS} (h : zready1 t st = some (a, args, r)) (ha : zkO a (zcl t) = true) : zready 1 t st = some (zA a :: args, r) := by
  unfold zready1 at h
  cases hb : (Nat.beq (zkind t) 1 && Nat.ble (znp t + 1) st.length && Nat.ble (zcat (st.drop (znp t + 1))) 8 && Nat.ble (zslots (st.take (znp t + 1)).reverse).length (zmaxL t) && Nat.blt (zcl t) 10) with
  | false => rw [hb] at h; cases h
  | true =>
    rw [hb] at h
    simp only [Bool.and_eq_true] at hb
    obtain ⟨⟨⟨⟨h1, h2⟩, h3⟩, h4⟩, h5⟩ := hb
    unfold zready
    rw [if_pos ⟨zbeq h1, by decide⟩]
    dsimp only
    rw [if_neg (show ¬ (1 : Nat) = 0 by decide), if_pos ⟨Nat.le_of_ble_eq_true h2, Nat.le_of_ble_eq_true h3, Nat.le_of_ble_eq_true h4⟩]
    dsimp only [cond] at h
    generalize (st.take (znp t + 1)).reverse = q at h
    split at h
    · cases h
      show (if _ then _ else _) = _
      rw [if_pos ⟨zkO_ok ha, Nat.lt_of_lt_of_le (Nat.lt_succ_self _) (Nat.le_of_ble_eq_true h5)⟩]
    · cases h
theorem zWtab_ok {x : Int} {D : Prop} {K : Int → Prop} : ∀ {lo : Int} {os : List Int}, zWtab x D K lo os → (x < lo ∨ lo + os.length ≤ x) ∧ D ∨ ∃ o, lo ≤ x ∧ x < lo + os.length ∧ os[(x - lo).toNat]? = some o ∧ K o
  | lo, [], h => Or.inl ⟨by simp; omega, h⟩
  | lo, o :: os, h => by
    unfold zWtab at h
    by_cases q : x = lo
    · rw [if_pos q] at h
      subst q
      refine Or.inr ⟨o, Int.le_refl _, by rw [List.length_cons]; omega, ?_, h⟩
      rw [Int.sub_self]
      rfl
    · rw [if_neg q] at h
      rcases zWtab_ok h with ⟨h1, h2⟩ | ⟨o', h1, h2, h3, h4⟩
      · refine Or.inl ⟨?_, h2⟩
        rw [List.length_cons]
        omega
      · refine Or.inr ⟨o', by omega, by rw [List.length_cons]; omega, ?_, h4⟩
        rw [show (x - lo).toNat = (x - (lo + 1)).toNat + 1 by omega, List.getElem?_cons_succ]
        exact h3
theorem zbr_ok {c : ClassFile.Cond} {off x y : Int} {r : ZS} {A B : Prop} (hz : zins k pc = some (i, len)) (hl : zlenOk i len = true) (hp : (match i with | .ireturn | .lreturn | .areturn | .return_ | .invokespecial _ | .invokestatic _ | .invokevirtual _ => false | _ => true) = true) (hs : ∀ M, zstep k i pc ls st M = zbr (zcmp c x y) pc off ls r M) (h0 : 0 ≤ (pc : Int) + off) (h : zWbr c x y A B) (hA : A → zwpN d k (zjmp pc off) ls r m P) (hB : B → zwpN d k (pc + 3) ls r m P) : zwpN d k pc ls st m P := by
  have key : (zcmp c x y = true ∧ A) ∨ (zcmp c x y = false ∧ B) := by
    cases c with
    | eq =>
      by_cases q : x = y
      · have h : (if x = y then A else B) := h
        rw [if_pos q] at h
        exact Or.inl ⟨decide_eq_true q, h⟩
      · have h : (if x = y then A else B) := h
        rw [if_neg q] at h
        exact Or.inr ⟨decide_eq_false q, h⟩
    | ne =>
      by_cases q : x = y
      · have h : (if x = y then B else A) := h
        rw [if_pos q] at h
        exact Or.inr ⟨by show (!decide (x = y)) = false; rw [decide_eq_true q]; rfl, h⟩
      · have h : (if x = y then B else A) := h
        rw [if_neg q] at h
        exact Or.inl ⟨by show (!decide (x = y)) = true; rw [decide_eq_false q]; rfl, h⟩
    | lt =>
      by_cases q : x < y
      · have h : (if x < y then A else B) := h
        rw [if_pos q] at h
        exact Or.inl ⟨decide_eq_true q, h⟩
      · have h : (if x < y then A else B) := h
        rw [if_neg q] at h
        exact Or.inr ⟨decide_eq_false q, h⟩
    | ge =>
      by_cases q : x < y
      · have h : (if x < y then B else A) := h
        rw [if_pos q] at h
        exact Or.inr ⟨by show (!decide (x < y)) = false; rw [decide_eq_true q]; rfl, h⟩
      · have h : (if x < y then B else A) := h
        rw [if_neg q] at h
        exact Or.inl ⟨by show (!decide (x < y)) = true; rw [decide_eq_false q]; rfl, h⟩
    | gt =>
      by_cases q : y < x
      · have h : (if y < x then A else B) := h
        rw [if_pos q] at h
        exact Or.inl ⟨decide_eq_true q, h⟩
      · have h : (if y < x then A else B) := h
        rw [if_neg q] at h
        exact Or.inr ⟨decide_eq_false q, h⟩
    | le =>
      by_cases q : y < x
      · have h : (if y < x then B else A) := h
        rw [if_pos q] at h
        exact Or.inr ⟨decide_eq_false (by omega), h⟩
      · have h : (if y < x then B else A) := h
        rw [if_neg q] at h
        exact Or.inl ⟨decide_eq_true (by omega), h⟩
  rcases key with ⟨e, h⟩ | ⟨e, h⟩
  · refine zwpN_go (m1 := m) hz hl hp ?_ (hA h)
    rw [hs]
    unfold zbr
    rw [if_pos h0, if_pos e]
    rfl
  · refine zwpN_go (m1 := m) hz hl hp ?_ (hB h)
    rw [hs]
    unfold zbr
    rw [if_pos h0, if_neg (by rw [e]; decide)]
theorem zWlk_ok {x df : Int} {D : Prop} {K : Int → Prop} : ∀ {l : List (Int × Int)}, zjok pc df = true → l.all (fun q => zjok pc q.2) = true → zWlk x D K l → (D → K df) → ∃ o, Op.lookupswitch.offset l df x = o ∧ zjok pc o = true ∧ K o
  | [], h1, _, h, hd => ⟨df, rfl, h1, hd h⟩
  | (a, o) :: l, h1, h2, h, hd => by
    rw [List.all_cons, Bool.and_eq_true] at h2
    unfold zWlk at h
    rw [Op.lookupswitch.offset_cons]
    by_cases q : x = a
    · rw [if_pos q] at h
      exact ⟨o, if_pos q.symm, h2.1, h⟩
    · rw [if_neg q] at h
      obtain ⟨o', z1, z2, z3⟩ := zWlk_ok h1 h2.2 h hd
      exact ⟨o', by rw [if_neg (fun e => q e.symm)]; exact z1, z2, z3⟩
theorem zWi_ok {K : Nat → ZL → ZS → ZN → Prop} (hz : zins k pc = some (i, len)) (hl : zlenOk i len = true) (hK : ∀ pc ls st m, K pc ls st m → zwpN d k pc ls st m P) (h : zWi d k i pc ls st m P K) : zwpN d k pc ls st m P := by
  have dflt : (bif zpure i then (match zstep k i pc ls st m.1 with | some (pc', ls', st', _) => K pc' ls' st' m | none => False) else False) → zwpN d k pc ls st m P := fun h => by
    obtain ⟨hp, h⟩ := zcond_t h
    split at h
    · next pc' ls' st' M' e =>
      have eM := zpure_M hp e
      subst eM
      exact zwpN_go hz hl (by cases i <;> first | rfl | cases hp) e (hK _ _ _ _ h)
    · exact h.elim
  cases i
  case ireturn =>
    dsimp only [zWi] at h
    split at h
    · next x =>
      split at h
      · next hr => exact ⟨1, _, m, by rw [zbody_eq, hz]; dsimp only; rw [if_pos hl, if_pos (show zretI k x = true by unfold zretI; rw [hr])], h⟩
      · next hr => exact ⟨1, _, m, by rw [zbody_eq, hz]; dsimp only; rw [if_pos hl, if_pos (show zretI k x = true by unfold zretI; rw [hr]; exact decide_eq_true h.1)], h.2⟩
      · exact h.elim
    · exact h.elim
  case lreturn =>
    dsimp only [zWi] at h
    split at h
    · next x =>
      split at h
      · next hr => exact ⟨1, _, m, by rw [zbody_eq, hz]; dsimp only; rw [if_pos hl, if_pos hr], h⟩
      · exact h.elim
    · exact h.elim
  case areturn =>
    dsimp only [zWi] at h
    split at h
    · next a =>
      obtain ⟨h1, h2⟩ := zcond_t h
      rw [Bool.and_eq_true] at h1
      exact ⟨1, _, m, by rw [zbody_eq, hz]; dsimp only; rw [if_pos hl, if_pos ⟨h1.1, zpos_ok h1.2⟩], h2⟩
    · exact h.elim
  case return_ =>
    dsimp only [zWi] at h
    split at h
    · split at h
      · next hr => exact ⟨1, _, m, by rw [zbody_eq, hz]; dsimp only; rw [if_pos hl, if_pos hr], h⟩
      · exact h.elim
    · exact h.elim
  case invokestatic j =>
    dsimp only [zWi] at h
    split at h
    · next t nest q e elk =>
      cases hb : Nat.beq t 1001 with
      | true =>
        rw [hb] at h
        dsimp only [cond] at h
        have ht := zbeq hb
        split at h
        · next n q a p b r =>
          obtain ⟨h1, h2, h3⟩ := zcond_t h
          simp only [Bool.and_eq_true] at h1
          obtain ⟨⟨h4, h5⟩, h6⟩ := h1
          have h4 := Nat.le_of_ble_eq_true h4
          have h5 := zbeq h5
          rw [zshF_eq] at h4 h5
          rw [zshF_eq] at h5
          rw [zln_eq, zln_eq] at h2
          have hlen : ∀ x : Int, (zsh x).1 ≤ 2 → zlen m.1 x = (zsh x).2 := fun x hx => by
            unfold zlen
            rw [if_neg]
            rintro rfl
            exact absurd hx (by decide)
          rw [hlen a h4, hlen b (by omega)] at h2
          obtain ⟨n1, r1, m', h7, h8⟩ := hK _ _ _ _ h3
          rw [zcc_val (by omega)] at h7
          refine ⟨n1 + 1, r1, m', ?_, h8⟩
          rw [zbody_eq, hz]
          dsimp only
          rw [if_pos hl, elk]
          dsimp only
          rw [if_pos ht]
          have hx : zacopy (pc + 3) ls (.inl n :: .inl q :: .inr (.inr a) :: .inl p :: .inr (.inr b) :: r) m.1 = some (pc + 3, ls, r, zcopy m.1 b p a q n) := by
            unfold zacopy
            dsimp only
            rw [if_pos ⟨h4, h5, h2.1.1, h2.1.2.1, h2.1.2.2, h2.2.1, h2.2.2, Nat.le_of_ble_eq_true h6, zhx m⟩]
          rw [hx]
          exact h7
        · exact h.elim
      | false =>
        rw [hb] at h
        dsimp only [cond] at h
        have ht : t ≠ 1001 := fun q => by rw [q] at hb; cases hb
        cases hb2 : (Nat.beq t 1002 || Nat.beq t 1003) with
        | true =>
          rw [hb2] at h
          dsimp only [cond] at h
          rw [Bool.or_eq_true] at hb2
          have ht2 : t = 1002 ∨ t = 1003 := hb2.imp zbeq zbeq
          split at h
          · next y x r =>
            obtain ⟨h1, h2⟩ := zcond_t h
            have h1 := Nat.le_of_ble_eq_true h1
            have hx : ∃ v, zmm t (pc + 3) ls (.inl y :: .inl x :: r) m.1 = some (pc + 3, ls, zI v :: r, m.1) ∧ K (pc + 3) ls (zI v :: r) m := by
              unfold zmm
              dsimp only
              rw [if_pos h1]
              rcases ht2 with rfl | rfl
              · exact ⟨_, rfl, by rw [if_pos rfl, zmax_eq]; exact h2⟩
              · exact ⟨_, rfl, by rw [if_neg (by decide), zmin_eq]; exact h2⟩
            obtain ⟨v, hx, h3⟩ := hx
            obtain ⟨n1, r1, m', h7, h8⟩ := hK _ _ _ _ h3
            refine ⟨n1 + 1, r1, m', ?_, h8⟩
            rw [zbody_eq, hz]
            dsimp only
            rw [if_pos hl, elk]
            dsimp only
            rw [if_neg ht, if_pos ht2, hx]
            exact h7
          · exact h.elim
        | false =>
          rw [hb2] at h
          dsimp only [cond] at h
          have ht2 : ¬ (t = 1002 ∨ t = 1003) := fun q => by rcases q with rfl | rfl <;> cases hb2
          split at h
          · next args r e2 =>
            refine zwpN_call (r := r) (fun n => ?_) (zWret_ok h (fun st m h => hK _ _ _ _ h))
            rw [zbody_eq, hz]
            dsimp only
            rw [if_pos hl, elk]
            dsimp only
            rw [if_neg ht, if_neg ht2, e2]
            rfl
          · exact h.elim
    · exact h.elim
  case invokevirtual j =>
    dsimp only [zWi] at h
    split at h
    · next t nest q e elk =>
      split at h
      · next a args r e2 =>
        obtain ⟨h1, h2⟩ := zcond_t h
        refine zwpN_call (r := r) (fun n => ?_) (zWret_ok h2 (fun st m h => hK _ _ _ _ h))
        rw [zbody_eq, hz]
        dsimp only
        rw [if_pos hl, elk]
        dsimp only
        rw [zready1_ok e2 h1]
        rfl
      · exact h.elim
    · exact h.elim
  case getfield j =>
    dsimp only [zWi] at h
    split at h
    · next ci f q a r elk =>
      obtain ⟨h1, h2⟩ := zcond_t h
      split at h2
      · next v ev =>
        rw [zrd_eq] at ev
        refine zwpN_go (m1 := m) hz hl rfl ?_ (hK _ _ _ _ h2)
        show zgetf (zlk (zFl (zcl k)) j) (pc + 3) ls _ m.1 = _
        rw [elk]
        unfold zgetf
        dsimp only
        rw [if_pos (zkO_ok h1), ev]
      · exact h2.elim
    · exact h.elim
  case putfield j =>
    dsimp only [zWi] at h
    split at h
    · next ci f q x a r elk =>
      obtain ⟨h1, h2⟩ := zcond_t h
      rw [Bool.and_eq_true, Bool.and_eq_true] at h1
      obtain ⟨⟨h3, h4⟩, h5⟩ := h1
      have hgo : zfit (ztyX ci f) (.inl x) = some x → zwpN d k (pc + 3) ls r (zsn m a f x) P → zwpN d k pc ls (.inl x :: .inr (.inr a) :: r) m P := fun ev h6 => by
        refine zwpN_go (m1 := zsn m a f x) hz hl rfl ?_ h6
        show zputf k (zlk (zFl (zcl k)) j) (pc + 3) ls _ m.1 = _
        rw [elk, zsn_val h5]
        unfold zputf
        dsimp only
        rw [if_pos ⟨zkO_ok h3, h4⟩, ev]
      split at h2
      · next hty => exact hgo (by rw [hty]; rfl) (hK _ _ _ _ h2)
      · next hty => exact hgo (by rw [hty]; show (if 0 ≤ x ∧ x ≤ 1 then some x else none) = _; rw [if_pos h2.1]) (hK _ _ _ _ h2.2)
      · exact h2.elim
    · exact h.elim
  case getstatic n =>
    dsimp only [zWi] at h
    split at h
    · next w q elk =>
      refine zwpN_go (m1 := m) hz hl rfl ?_ (hK _ _ _ _ h)
      simp only [zstep, elk]
    · exact h.elim
  case iaload =>
    dsimp only [zWi] at h
    split at h
    · next i a r =>
      obtain ⟨h1, h2, h3⟩ := zcond_t h
      rw [zrd_eq] at h3
      rw [zln_eq] at h2
      refine zwpN_go (m1 := m) hz hl rfl ?_ (hK _ _ _ _ h3)
      show zaldI (pc + 1) ls (.inl i :: .inr (.inr a) :: r) m.1 = _
      unfold zaldI
      dsimp only
      rw [if_pos ⟨zkI_ok h1, h2⟩]
    · exact h.elim
  case baload =>
    dsimp only [zWi] at h
    split at h
    · next i a r =>
      obtain ⟨h1, h2, h3⟩ := zcond_t h
      rw [zrd_eq] at h3
      rw [zln_eq] at h2
      rw [Bool.or_eq_true] at h1
      refine zwpN_go (m1 := m) hz hl rfl ?_ (hK _ _ _ _ h3)
      show zaldB (pc + 1) ls (.inl i :: .inr (.inr a) :: r) m.1 = _
      unfold zaldB
      dsimp only
      rw [if_pos ⟨h1.imp zkB_ok zkZ_ok, h2⟩]
    · exact h.elim
  case laload =>
    dsimp only [zWi] at h
    split at h
    · next i a r =>
      obtain ⟨h1, h2, h3⟩ := zcond_t h
      rw [zrd_eq] at h3
      rw [zln_eq] at h2
      refine zwpN_go (m1 := m) hz hl rfl ?_ (hK _ _ _ _ h3)
      show zaldJ (pc + 1) ls (.inl i :: .inr (.inr a) :: r) m.1 = _
      unfold zaldJ
      dsimp only
      rw [if_pos ⟨zkJ_ok h1, h2⟩]
    · exact h.elim
  case aaload =>
    dsimp only [zWi] at h
    split at h
    · next i a r =>
      obtain ⟨h1, h2, h3⟩ := zcond_t h
      rw [zrd_eq] at h3
      rw [zln_eq] at h2
      refine zwpN_go (m1 := m) hz hl rfl ?_ (hK _ _ _ _ h3)
      show zaldA (pc + 1) ls (.inl i :: .inr (.inr a) :: r) m.1 = _
      unfold zaldA
      dsimp only
      rw [if_pos ⟨zkA_ok h1, h2⟩]
    · exact h.elim
  case iastore =>
    dsimp only [zWi] at h
    split at h
    · next x i a r =>
      obtain ⟨h1, h2, h3⟩ := zcond_t h
      rw [zln_eq] at h2
      have h1 := zk0_ok h1
      refine zwpN_go (m1 := zsn m a i x) hz hl rfl ?_ (hK _ _ _ _ h3)
      show zastI (pc + 1) ls (.inl x :: .inl i :: .inr (.inr a) :: r) m.1 = _
      rw [zsn_val (znp_low (by omega) _)]
      unfold zastI
      dsimp only
      rw [if_pos ⟨h1, h2⟩]
    · exact h.elim
  case bastore =>
    dsimp only [zWi] at h
    split at h
    · next x i a r =>
      have hgo : (((zsh a).1 = 2 ∧ -128 ≤ x ∧ x ≤ 127) ∨ ((zsh a).1 = 3 ∧ 0 ≤ x ∧ x ≤ 1)) → (0 ≤ i ∧ i < zln m a) → K (pc + 1) ls r (zsn m a i x) → zwpN d k pc ls (.inl x :: .inl i :: .inr (.inr a) :: r) m P := fun h1 h2 h3 => by
        rw [zln_eq] at h2
        refine zwpN_go (m1 := zsn m a i x) hz hl rfl ?_ (hK _ _ _ _ h3)
        show zastB (pc + 1) ls (.inl x :: .inl i :: .inr (.inr a) :: r) m.1 = _
        rw [zsn_val (znp_low (by omega) _)]
        unfold zastB
        dsimp only
        rw [if_pos ⟨h1, h2⟩]
      cases hb : zkB a with
      | true =>
        rw [hb] at h
        obtain ⟨h2, h3⟩ := h
        exact hgo (Or.inl ⟨zkB_ok hb, h2.1⟩) h2.2 h3
      | false =>
        rw [hb] at h
        obtain ⟨h1, h2, h3⟩ := zcond_t h
        exact hgo (Or.inr ⟨zkZ_ok h1, h2.1⟩) h2.2 h3
    · exact h.elim
  case lastore =>
    dsimp only [zWi] at h
    split at h
    · next x i a r =>
      obtain ⟨h1, h2, h3⟩ := zcond_t h
      rw [zln_eq] at h2
      have h1 := zkJ_ok h1
      refine zwpN_go (m1 := zsn m a i x) hz hl rfl ?_ (hK _ _ _ _ h3)
      show zastJ (pc + 1) ls (.inr (.inl x) :: .inl i :: .inr (.inr a) :: r) m.1 = _
      rw [zsn_val (znp_low (by omega) _)]
      unfold zastJ
      dsimp only
      rw [if_pos ⟨h1, h2⟩]
    · exact h.elim
  case arraylength =>
    dsimp only [zWi] at h
    split at h
    · next a r =>
      obtain ⟨h1, h3⟩ := zcond_t h
      rw [zln_eq] at h3
      refine zwpN_go (m1 := m) hz hl rfl ?_ (hK _ _ _ _ h3)
      show zalen (pc + 1) ls (.inr (.inr a) :: r) m.1 = _
      unfold zalen
      dsimp only
      rw [if_pos (zkL_ok h1)]
    · exact h.elim
  case idiv =>
    dsimp only [zWi] at h
    split at h
    · next y x r =>
      refine zwpN_go (m1 := m) hz hl rfl ?_ (hK _ _ _ _ h.2)
      simp only [zstep, if_neg h.1]
    · exact h.elim
  case irem =>
    dsimp only [zWi] at h
    split at h
    · next y x r =>
      refine zwpN_go (m1 := m) hz hl rfl ?_ (hK _ _ _ _ h.2)
      simp only [zstep, if_neg h.1]
    · exact h.elim
  case aload n =>
    dsimp only [zWi] at h
    split at h
    · next x e =>
      obtain ⟨h1, h2⟩ := zcond_t h
      refine zwpN_go (m1 := m) hz hl rfl ?_ (hK _ _ _ _ h2)
      simp only [zstep, e, zldA, if_pos (zpos_ok h1)]
    · exact h.elim
  case aload_n n =>
    dsimp only [zWi] at h
    split at h
    · next x e =>
      obtain ⟨h1, h2⟩ := zcond_t h
      refine zwpN_go (m1 := m) hz hl rfl ?_ (hK _ _ _ _ h2)
      simp only [zstep, e, zldA, if_pos (zpos_ok h1)]
    · exact h.elim
  case astore n =>
    dsimp only [zWi] at h
    split at h
    · next x r =>
      obtain ⟨h1, h2⟩ := zcond_t h
      rw [Bool.and_eq_true] at h1
      refine zwpN_go (m1 := m) hz hl rfl ?_ (hK _ _ _ _ h2)
      show zstA n (pc + 2) ls (.inr (.inr x) :: r) m.1 = _
      unfold zstA
      dsimp only
      rw [if_pos ⟨zpos_ok h1.1, Nat.le_of_ble_eq_true h1.2⟩]
    · exact h.elim
  case astore_n n =>
    dsimp only [zWi] at h
    split at h
    · next x r =>
      obtain ⟨h1, h2⟩ := zcond_t h
      rw [Bool.and_eq_true] at h1
      refine zwpN_go (m1 := m) hz hl rfl ?_ (hK _ _ _ _ h2)
      show zstA n.val (pc + 1) ls (.inr (.inr x) :: r) m.1 = _
      unfold zstA
      dsimp only
      rw [if_pos ⟨zpos_ok h1.1, Nat.le_of_ble_eq_true h1.2⟩]
    · exact h.elim
  case goto off =>
    dsimp only [zWi] at h
    obtain ⟨h1, h2⟩ := zcond_t h
    refine zwpN_go (m1 := m) hz hl rfl ?_ (hK _ _ _ _ h2)
    show zjump pc off ls st m.1 = _
    unfold zjump
    rw [if_pos (zjok_ok h1)]
    rfl
  case ifCond c off =>
    dsimp only [zWi] at h
    split at h
    · next x r =>
      obtain ⟨h1, h2⟩ := zcond_t h
      exact zbr_ok hz hl rfl (fun M => rfl) (zjok_ok h1) h2 (hK _ _ _ _) (hK _ _ _ _)
    · exact h.elim
  case if_icmp c off =>
    dsimp only [zWi] at h
    split at h
    · next y x r =>
      obtain ⟨h1, h2⟩ := zcond_t h
      exact zbr_ok hz hl rfl (fun M => rfl) (zjok_ok h1) h2 (hK _ _ _ _) (hK _ _ _ _)
    · exact h.elim
  case tableswitch df lo hi offs =>
    dsimp only [zWi] at h
    split at h
    · next x r =>
      obtain ⟨h1, h2⟩ := zcond_t h
      rw [Bool.and_eq_true, Bool.and_eq_true] at h1
      obtain ⟨⟨h3, h4⟩, h5⟩ := h1
      have h5 := of_decide_eq_true h5
      rcases zWtab_ok h2 with ⟨q1, q2⟩ | ⟨o, q1, q2, q3, q4⟩
      · refine zwpN_go (m1 := m) hz hl rfl ?_ (hK _ _ _ _ q2)
        simp only [zstep]
        rw [if_pos (by omega)]
        unfold zjump
        rw [if_pos (zjok_ok h3)]
        rfl
      · refine zwpN_go (m1 := m) hz hl rfl ?_ (hK _ _ _ _ q4)
        simp only [zstep]
        rw [if_neg (by omega), ← Array.getElem?_toList, q3]
        dsimp only
        unfold zjump
        rw [if_pos (zjok_ok (List.all_eq_true.mp h4 o (List.mem_of_getElem? q3)))]
        rfl
    · exact h.elim
  case lookupswitch df ps =>
    dsimp only [zWi] at h
    split at h
    · next x r =>
      obtain ⟨h1, h2⟩ := zcond_t h
      rw [Bool.and_eq_true, Bool.and_eq_true] at h1
      obtain ⟨⟨h3, h4⟩, h5⟩ := h1
      obtain ⟨o, q1, q2, q3⟩ := zWlk_ok (pc := pc) (df := df) (K := fun o => K (zjmp pc o) ls r m) h3 h4 h2 id
      refine zwpN_go (m1 := m) hz hl rfl ?_ (hK _ _ _ _ q3)
      simp only [zstep]
      rw [if_pos h5, q1]
      unfold zjump
      rw [if_pos (zjok_ok q2)]
      rfl
    · exact h.elim
  all_goals exact dflt h
end ZWOK
theorem zX_ok (cut : List Nat) : ∀ (n d k pc : Nat) (ls : ZL) (st : ZS) (m : ZN) (P : Option ZV → ZN → Prop), zX cut n d k pc ls st m P → zwpN d k pc ls st m P
  | 0, _, _, _, _, _, _, _, h => h
  | n + 1, d, k, pc, ls, st, m, P, h => by
    unfold zX at h
    split at h
    · exact h.elim
    · next i len hz =>
      obtain ⟨h1, h2⟩ := zcond_t h
      refine zWi_ok hz h1 (fun pc ls st m h => ?_) h2
      cases hb : zelem cut pc with
      | true => rw [hb] at h; exact h
      | false => rw [hb] at h; exact zX_ok cut n d k pc ls st m P h
theorem zcI_X {cut : List Nat} (n : Nat) {d k : Nat} {args : ZS} {m : ZN} {K : Int → ZN → Prop} (h : zX cut n d k 0 (zentry k args) [] m (zPI K)) : zcI d k args m K := zcI_in (zX_ok cut n d k 0 _ _ m _ h)
theorem zcJ_X {cut : List Nat} (n : Nat) {d k : Nat} {args : ZS} {m : ZN} {K : Int → ZN → Prop} (h : zX cut n d k 0 (zentry k args) [] m (zPJ K)) : zcJ d k args m K := zcJ_in (zX_ok cut n d k 0 _ _ m _ h)
theorem zcA_X {cut : List Nat} (n : Nat) {d k : Nat} {args : ZS} {m : ZN} {K : Int → ZN → Prop} (h : zX cut n d k 0 (zentry k args) [] m (zPA K)) : zcA d k args m K := zcA_in (zX_ok cut n d k 0 _ _ m _ h)
theorem zcV_X {cut : List Nat} (n : Nat) {d k : Nat} {args : ZS} {m : ZN} {K : ZN → Prop} (h : zX cut n d k 0 (zentry k args) [] m (zPV K)) : zcV d k args m K := zcV_in (zX_ok cut n d k 0 _ _ m _ h)
end
