/-! THE METHODS: by number; their instructions -/
/-- 0: EightBlocks$Chain.init()V -/
def tb_0 : am_T := [(12, [(0, .aload 0, 1), (1, .monitorexit, 3), (4, .aload 0, 1), (5, .sipush 24, 2), (7, .newarray .int, 2), (9, .putfield 0, 3), (12, .aload 0, 1)]),
  (25, [(13, .sipush 24, 2), (15, .newarray .int, 2), (17, .putfield 1, 3), (20, .aload 0, 1), (21, .sipush 24, 2), (23, .newarray .int, 2), (25, .putfield 2, 3)]),
  (41, [(28, .aload 0, 1), (29, .sipush 24, 2), (31, .sipush 24, 2), (33, .multianewarray 3 2, 4), (37, .putfield 3, 3), (40, .aload 0, 1), (41, .sipush 576, 3)]),
  (58, [(44, .sipush 24, 2), (46, .multianewarray 3 2, 4), (50, .putfield 4, 3), (53, .aload 0, 1), (54, .sipush 24, 2), (56, .newarray .int, 2), (58, .putfield 5, 3)]),
  (75, [(61, .aload 0, 1), (62, .sipush 672, 3), (65, .sipush 24, 2), (67, .multianewarray 3 2, 4), (71, .putfield 6, 3), (74, .aload 0, 1), (75, .sipush 24, 2)]),
  (91, [(77, .sipush 24, 2), (79, .multianewarray 3 2, 4), (83, .putfield 7, 3), (86, .aload 0, 1), (87, .sipush 24, 2), (89, .newarray .int, 2), (91, .putfield 8, 3)]),
  (102, [(94, .aload 0, 1), (95, .sipush 24, 2), (97, .newarray .int, 2), (99, .putfield 9, 3), (102, .return_, 1)])]
/-- 1: EightBlocks$Chain.begin(I)V -/
def tb_1 : am_T := [(11, [(0, .sipush 0, 1), (1, .istore 2, 1), (2, .sipush 0, 1), (3, .istore 3, 1), (4, .iload 3, 1), (5, .sipush 48, 2), (7, .if_icmp .ge 72, 3), (10, .iload 3, 1), (11, .sipush 24, 2)]),
  (23, [(13, .irem, 1), (14, .istore 4, 2), (16, .iload 1, 1), (17, .iload 4, 2), (19, .ishr, 1), (20, .sipush 1, 1), (21, .iand, 1), (22, .sipush 1, 1), (23, .if_icmp .ne 30, 3)]),
  (41, [(26, .sipush 1, 1), (27, .goto 31, 3), (30, .sipush 0, 1), (31, .istore 5, 2), (33, .iload 5, 2), (35, .iload 3, 1), (36, .sipush 24, 2), (38, .if_icmp .ge 45, 3), (41, .sipush 1, 1)]),
  (59, [(42, .goto 46, 3), (45, .sipush 0, 1), (46, .if_icmp .ne 66, 3), (49, .iload 2, 1), (50, .sipush 24, 2), (52, .if_icmp .ge 66, 3), (55, .aload 0, 1), (56, .getfield 0, 3), (59, .iload 2, 1)]),
  (75, [(60, .iload 4, 2), (62, .iastore, 1), (63, .iinc 2 1, 3), (66, .iinc 3 1, 3), (69, .goto 4, 3), (72, .sipush 0, 1), (73, .istore 3, 1), (74, .iload 3, 1), (75, .sipush 24, 2)]),
  (91, [(77, .if_icmp .ge 142, 3), (80, .aload 0, 1), (81, .getfield 1, 3), (84, .iload 3, 1), (85, .sipush 1, 1), (86, .iastore, 1), (87, .aload 0, 1), (88, .getfield 2, 3), (91, .iload 3, 1)]),
  (102, [(92, .sipush 1, 1), (93, .aload 0, 1), (94, .getfield 0, 3), (97, .iload 3, 1), (98, .iaload, 1), (99, .ishl, 1), (100, .iastore, 1), (101, .aload 0, 1), (102, .getfield 3, 3)]),
  (115, [(105, .iload 3, 1), (106, .aaload, 1), (107, .sipush 0, 1), (108, .aload 0, 1), (109, .getfield 0, 3), (112, .iload 3, 1), (113, .iaload, 1), (114, .iastore, 1), (115, .aload 0, 1)]),
  (128, [(116, .getfield 5, 3), (119, .iload 3, 1), (120, .sipush 0, 1), (121, .iastore, 1), (122, .aload 0, 1), (123, .iload 3, 1), (124, .aload 0, 1), (125, .getfield 0, 3), (128, .iload 3, 1)]),
  (142, [(129, .iaload, 1), (130, .invokevirtual 8, 3), (133, .invokestatic 45, 3), (136, .iinc 3 1, 3), (139, .goto 74, 3), (142, .return_, 1)])]
/-- 2: EightBlocks$Chain.include([I)V -/
def tb_2 : am_T := [(3, [(0, .aload 0, 1), (1, .sipush 0, 1), (2, .aload 1, 1), (3, .invokevirtual 3, 3)]),
  (11, [(6, .ifCond .ne 15, 3), (9, .aload 0, 1), (10, .sipush 0, 1), (11, .aload 1, 1)]),
  (15, [(12, .invokevirtual 9, 3), (15, .return_, 1)])]
/-- 3: EightBlocks$Chain.contains(I[I)Z -/
def tb_3 : am_T := [(9, [(0, .aload 0, 1), (1, .getfield 8, 3), (4, .aload 2, 1), (5, .invokestatic 46, 3), (8, .iload 1, 1), (9, .istore 3, 1)]),
  (20, [(10, .iload 3, 1), (11, .sipush 24, 2), (13, .if_icmp .ge 74, 3), (16, .aload 0, 1), (17, .getfield 8, 3), (20, .aload 0, 1)]),
  (31, [(21, .getfield 0, 3), (24, .iload 3, 1), (25, .iaload, 1), (26, .invokestatic 44, 3), (29, .istore 4, 2), (31, .aload 0, 1)]),
  (42, [(32, .iload 3, 1), (33, .iload 4, 2), (35, .invokevirtual 7, 3), (38, .ifCond .ne 43, 3), (41, .sipush 0, 1), (42, .ireturn, 1)]),
  (51, [(43, .iload 4, 2), (45, .aload 0, 1), (46, .getfield 0, 3), (49, .iload 3, 1), (50, .iaload, 1), (51, .if_icmp .eq 68, 3)]),
  (62, [(54, .aload 0, 1), (55, .getfield 8, 3), (58, .aload 0, 1), (59, .iload 3, 1), (60, .iload 4, 2), (62, .invokevirtual 8, 3)]),
  (75, [(65, .invokestatic 47, 3), (68, .iinc 3 1, 3), (71, .goto 10, 3), (74, .sipush 1, 1), (75, .ireturn, 1)])]
/-- 4: EightBlocks$Chain.orderFrom(I)I -/
def tb_4 : am_T := [(3, [(0, .sipush 1, 1), (1, .istore 2, 1), (2, .iload 1, 1), (3, .istore 3, 1)]),
  (10, [(4, .iload 3, 1), (5, .sipush 24, 2), (7, .if_icmp .ge 25, 3), (10, .iload 2, 1)]),
  (16, [(11, .aload 0, 1), (12, .getfield 1, 3), (15, .iload 3, 1), (16, .iaload, 1)]),
  (22, [(17, .imul, 1), (18, .istore 2, 1), (19, .iinc 3 1, 3), (22, .goto 4, 3)]),
  (26, [(25, .iload 2, 1), (26, .ireturn, 1)])]
/-- 5: EightBlocks$Chain.findLowest([I[I)Z -/
def tb_5 : am_T := [(9, [(0, .aload 2, 1), (1, .invokestatic 45, 3), (4, .sipush 0, 1), (5, .istore 3, 1), (6, .iload 3, 1), (7, .sipush 24, 2), (9, .if_icmp .ge 89, 3)]),
  (22, [(12, .aload 1, 1), (13, .aload 0, 1), (14, .getfield 0, 3), (17, .iload 3, 1), (18, .iaload, 1), (19, .invokestatic 44, 3), (22, .istore 4, 2)]),
  (34, [(24, .iload 4, 2), (26, .sipush (-4), 2), (28, .if_icmp .ne 40, 3), (31, .aload 0, 1), (32, .iload 3, 1), (33, .aload 2, 1), (34, .invokevirtual 6, 3)]),
  (49, [(37, .goto 46, 3), (40, .aload 2, 1), (41, .iload 4, 2), (43, .invokestatic 50, 3), (46, .istore 5, 2), (48, .aload 0, 1), (49, .iload 3, 1)]),
  (61, [(50, .iload 5, 2), (52, .invokevirtual 7, 3), (55, .ifCond .ne 60, 3), (58, .sipush 0, 1), (59, .ireturn, 1), (60, .aload 0, 1), (61, .iload 3, 1)]),
  (75, [(62, .iload 5, 2), (64, .invokevirtual 8, 3), (67, .aload 2, 1), (68, .aload 0, 1), (69, .getfield 8, 3), (72, .invokestatic 48, 3), (75, .aload 2, 1)]),
  (90, [(76, .aload 0, 1), (77, .getfield 8, 3), (80, .invokestatic 46, 3), (83, .iinc 3 1, 3), (86, .goto 6, 3), (89, .sipush 1, 1), (90, .ireturn, 1)])]
/-- 6: EightBlocks$Chain.lowestSource(I[I)I -/
def tb_6 : am_T := [(6, [(0, .aload 0, 1), (1, .getfield 0, 3), (4, .iload 1, 1), (5, .iaload, 1), (6, .istore 3, 1)]),
  (14, [(7, .sipush 0, 1), (8, .istore 4, 2), (10, .iload 4, 2), (12, .sipush 24, 2), (14, .if_icmp .ge 50, 3)]),
  (24, [(17, .aload 0, 1), (18, .iload 1, 1), (19, .iload 4, 2), (21, .invokevirtual 7, 3), (24, .ifCond .eq 44, 3)]),
  (34, [(27, .aload 2, 1), (28, .iload 4, 2), (30, .invokestatic 44, 3), (33, .aload 2, 1), (34, .iload 3, 1)]),
  (44, [(35, .invokestatic 44, 3), (38, .if_icmp .ge 44, 3), (41, .iload 4, 2), (43, .istore 3, 1), (44, .iinc 4 1, 3)]),
  (51, [(47, .goto 10, 3), (50, .iload 3, 1), (51, .ireturn, 1)])]
/-- 7: EightBlocks$Chain.isReached(II)Z -/
def tb_7 : am_T := [(6, [(0, .iload 2, 1), (1, .sipush 24, 2), (3, .invokestatic 134, 3), (6, .ifCond .ne 27, 3)]),
  (14, [(9, .aload 0, 1), (10, .getfield 2, 3), (13, .iload 1, 1), (14, .iaload, 1)]),
  (18, [(15, .iload 2, 1), (16, .ishr, 1), (17, .sipush 1, 1), (18, .iand, 1)]),
  (24, [(19, .sipush 1, 1), (20, .if_icmp .ne 27, 3), (23, .sipush 1, 1), (24, .goto 28, 3)]),
  (28, [(27, .sipush 0, 1), (28, .ireturn, 1)])]
/-- 8: EightBlocks$Chain.back(II)[I -/
def tb_8 : am_T := [(4, [(0, .iload 1, 1), (1, .sipush 24, 2), (3, .imul, 1), (4, .iload 2, 1)]),
  (8, [(5, .iadd, 1), (6, .istore 3, 1), (7, .iload 3, 1), (8, .aload 0, 1)]),
  (16, [(9, .getfield 4, 3), (12, .arraylength, 1), (13, .invokestatic 134, 3), (16, .ifCond .eq 26, 3)]),
  (26, [(19, .aload 0, 1), (20, .getfield 9, 3), (23, .goto 32, 3), (26, .aload 0, 1)]),
  (32, [(27, .getfield 4, 3), (30, .iload 3, 1), (31, .aaload, 1), (32, .areturn, 1)])]
/-- 9: EightBlocks$Chain, the private method with (I[I)V that lw_nm9 names -/
def tb_9 : am_T := [(17, [(0, .iload 1, 1), (1, .sipush 24, 2), (3, .if_icmp .ge 17, 3), (6, .aload 0, 1), (7, .getfield 5, 3), (10, .iload 1, 1), (11, .iaload, 1), (12, .sipush 28, 2), (14, .if_icmp .lt 18, 3), (17, .return_, 1)]),
  (32, [(18, .aload 0, 1), (19, .getfield 5, 3), (22, .iload 1, 1), (23, .iaload, 1), (24, .istore 3, 1), (25, .aload 0, 1), (26, .getfield 6, 3), (29, .iload 1, 1), (30, .sipush 28, 2), (32, .imul, 1)]),
  (46, [(33, .iload 3, 1), (34, .iadd, 1), (35, .aaload, 1), (36, .aload 2, 1), (37, .invokestatic 46, 3), (40, .aload 0, 1), (41, .getfield 5, 3), (44, .iload 1, 1), (45, .dup2, 1), (46, .iaload, 1)]),
  (59, [(47, .sipush 1, 1), (48, .iadd, 1), (49, .iastore, 1), (50, .aload 0, 1), (51, .getfield 1, 3), (54, .iload 1, 1), (55, .iaload, 1), (56, .istore 4, 2), (58, .sipush 0, 1), (59, .istore 5, 2)]),
  (79, [(61, .iload 5, 2), (63, .aload 0, 1), (64, .getfield 1, 3), (67, .iload 1, 1), (68, .iaload, 1), (69, .if_icmp .ge 161, 3), (72, .iload 5, 2), (74, .sipush 24, 2), (76, .if_icmp .ge 161, 3), (79, .iload 5, 2)]),
  (99, [(81, .iload 4, 2), (83, .if_icmp .ge 90, 3), (86, .iload 3, 1), (87, .goto 91, 3), (90, .sipush 0, 1), (91, .istore 6, 2), (93, .iload 6, 2), (95, .iload 3, 1), (96, .if_icmp .gt 155, 3), (99, .aload 0, 1)]),
  (115, [(100, .iload 1, 1), (101, .aload 0, 1), (102, .getfield 3, 3), (105, .iload 1, 1), (106, .aaload, 1), (107, .iload 5, 2), (109, .iaload, 1), (110, .invokevirtual 8, 3), (113, .astore 7, 2), (115, .aload 7, 2)]),
  (130, [(117, .aload 0, 1), (118, .getfield 6, 3), (121, .iload 1, 1), (122, .sipush 28, 2), (124, .imul, 1), (125, .iload 6, 2), (127, .iadd, 1), (128, .aaload, 1), (129, .aload 0, 1), (130, .getfield 7, 3)]),
  (146, [(133, .iload 1, 1), (134, .aaload, 1), (135, .invokestatic 48, 3), (138, .aload 0, 1), (139, .iload 1, 1), (140, .aload 0, 1), (141, .getfield 7, 3), (144, .iload 1, 1), (145, .aaload, 1), (146, .invokevirtual 10, 3)]),
  (161, [(149, .iinc 6 1, 3), (152, .goto 93, 3), (155, .iinc 5 1, 3), (158, .goto 61, 3), (161, .return_, 1)])]
/-- 10: EightBlocks$Chain.settle(I[I)V -/
def tb_10 : am_T := [(10, [(0, .aload 2, 1), (1, .aload 0, 1), (2, .getfield 0, 3), (5, .iload 1, 1), (6, .iaload, 1), (7, .invokestatic 44, 3), (10, .istore 3, 1)]),
  (22, [(11, .iload 3, 1), (12, .sipush 24, 2), (14, .invokestatic 134, 3), (17, .ifCond .eq 21, 3), (20, .return_, 1), (21, .aload 0, 1), (22, .iload 1, 1)]),
  (33, [(23, .iload 3, 1), (24, .invokevirtual 7, 3), (27, .ifCond .ne 38, 3), (30, .aload 0, 1), (31, .iload 1, 1), (32, .iload 3, 1), (33, .aload 2, 1)]),
  (42, [(34, .invokevirtual 11, 3), (37, .return_, 1), (38, .aload 2, 1), (39, .aload 0, 1), (40, .iload 1, 1), (41, .iload 3, 1), (42, .invokevirtual 8, 3)]),
  (53, [(45, .invokestatic 47, 3), (48, .aload 0, 1), (49, .iload 1, 1), (50, .sipush 1, 1), (51, .iadd, 1), (52, .aload 2, 1), (53, .invokevirtual 3, 3)]),
  (64, [(56, .ifCond .ne 67, 3), (59, .aload 0, 1), (60, .iload 1, 1), (61, .sipush 1, 1), (62, .iadd, 1), (63, .aload 2, 1), (64, .invokevirtual 9, 3)]),
  (67, [(67, .return_, 1)])]
/-- 11: EightBlocks$Chain.reach(II[I)V -/
def tb_11 : am_T := [(8, [(0, .aload 0, 1), (1, .getfield 1, 3), (4, .iload 1, 1), (5, .iaload, 1), (6, .sipush 24, 2), (8, .if_icmp .lt 12, 3)]),
  (18, [(11, .return_, 1), (12, .aload 0, 1), (13, .getfield 3, 3), (16, .iload 1, 1), (17, .aaload, 1), (18, .aload 0, 1)]),
  (26, [(19, .getfield 1, 3), (22, .iload 1, 1), (23, .iaload, 1), (24, .iload 2, 1), (25, .iastore, 1), (26, .aload 0, 1)]),
  (34, [(27, .getfield 1, 3), (30, .iload 1, 1), (31, .dup2, 1), (32, .iaload, 1), (33, .sipush 1, 1), (34, .iadd, 1)]),
  (42, [(35, .iastore, 1), (36, .aload 0, 1), (37, .getfield 2, 3), (40, .iload 1, 1), (41, .dup2, 1), (42, .iaload, 1)]),
  (48, [(43, .sipush 1, 1), (44, .iload 2, 1), (45, .ishl, 1), (46, .ior, 1), (47, .iastore, 1), (48, .aload 3, 1)]),
  (58, [(49, .aload 0, 1), (50, .iload 1, 1), (51, .iload 2, 1), (52, .invokevirtual 8, 3), (55, .invokestatic 49, 3), (58, .return_, 1)])]
/-- 12: EightBlocks$Cycles.init()V -/
def tb_12 : am_T := [(5, [(0, .aload 0, 1), (1, .monitorexit, 3), (4, .aload 0, 1), (5, .sipush 74, 2)]),
  (12, [(7, .newarray .int, 2), (9, .putfield 64, 3), (12, .return_, 1)])]
/-- 13: EightBlocks$Cycles.write([I)I -/
def tb_13 : am_T := [(6, [(0, .aload 0, 1), (1, .sipush 0, 1), (2, .putfield 65, 3), (5, .sipush 0, 1), (6, .istore 2, 1)]),
  (14, [(7, .iload 2, 1), (8, .sipush 24, 2), (10, .if_icmp .ge 42, 3), (13, .aload 1, 1), (14, .iload 2, 1)]),
  (23, [(15, .invokestatic 44, 3), (18, .iload 2, 1), (19, .if_icmp .eq 36, 3), (22, .aload 1, 1), (23, .iload 2, 1)]),
  (32, [(24, .invokestatic 55, 3), (27, .ifCond .eq 36, 3), (30, .aload 0, 1), (31, .aload 1, 1), (32, .iload 2, 1)]),
  (43, [(33, .invokevirtual 14, 3), (36, .iinc 2 1, 3), (39, .goto 7, 3), (42, .aload 0, 1), (43, .getfield 65, 3)]),
  (46, [(46, .ireturn, 1)])]
/-- 14: EightBlocks$Cycles.writeCycle([II)V -/
def tb_14 : am_T := [(9, [(0, .aload 1, 1), (1, .iload 2, 1), (2, .invokestatic 54, 3), (5, .istore 3, 1), (6, .iload 2, 1), (7, .istore 4, 2), (9, .sipush 0, 1)]),
  (21, [(10, .istore 5, 2), (12, .iload 5, 2), (14, .iload 3, 1), (15, .if_icmp .ge 79, 3), (18, .aload 0, 1), (19, .iload 5, 2), (21, .ifCond .ne 29, 3)]),
  (38, [(24, .sipush 40, 2), (26, .goto 31, 3), (29, .sipush 44, 2), (31, .invokevirtual 15, 3), (34, .iload 4, 2), (36, .sipush 10, 2), (38, .if_icmp .lt 53, 3)]),
  (50, [(41, .aload 0, 1), (42, .sipush 48, 2), (44, .iload 4, 2), (46, .sipush 10, 2), (48, .idiv, 1), (49, .iadd, 1), (50, .invokevirtual 15, 3)]),
  (62, [(53, .aload 0, 1), (54, .sipush 48, 2), (56, .iload 4, 2), (58, .sipush 10, 2), (60, .irem, 1), (61, .iadd, 1), (62, .invokevirtual 15, 3)]),
  (79, [(65, .aload 1, 1), (66, .iload 4, 2), (68, .invokestatic 44, 3), (71, .istore 4, 2), (73, .iinc 5 1, 3), (76, .goto 12, 3), (79, .aload 0, 1)]),
  (85, [(80, .sipush 41, 2), (82, .invokevirtual 15, 3), (85, .return_, 1)])]
/-- 15: EightBlocks$Cycles.append(I)V -/
def tb_15 : am_T := [(6, [(0, .aload 0, 1), (1, .getfield 65, 3), (4, .sipush 74, 2), (6, .if_icmp .ge 29, 3)]),
  (14, [(9, .aload 0, 1), (10, .getfield 64, 3), (13, .aload 0, 1), (14, .getfield 65, 3)]),
  (20, [(17, .iload 1, 1), (18, .iastore, 1), (19, .aload 0, 1), (20, .dup, 1)]),
  (26, [(21, .getfield 65, 3), (24, .sipush 1, 1), (25, .iadd, 1), (26, .putfield 65, 3)]),
  (29, [(29, .return_, 1)])]
/-- 16: EightBlocks$Cycles.letterAt(I)I -/
def tb_16 : am_T := [(5, [(0, .iload 1, 1), (1, .ifCond .lt 27, 3), (4, .iload 1, 1), (5, .aload 0, 1)]),
  (13, [(6, .getfield 65, 3), (9, .if_icmp .ge 27, 3), (12, .iload 1, 1), (13, .sipush 74, 2)]),
  (22, [(15, .if_icmp .ge 27, 3), (18, .aload 0, 1), (19, .getfield 64, 3), (22, .iload 1, 1)]),
  (29, [(23, .iaload, 1), (24, .goto 29, 3), (27, .sipush (-4), 2), (29, .ireturn, 1)])]
/-- 17: EightBlocks$Golay.init()V -/
def tb_17 : am_T := [(14, [(0, .aload 0, 1), (1, .monitorexit, 3), (4, .aload 0, 1), (5, .sipush 4096, 3), (8, .newarray .int, 2), (10, .putfield 128, 3), (13, .aload 0, 1), (14, .sipush 759, 3)]),
  (32, [(17, .newarray .int, 2), (19, .putfield 129, 3), (22, .aload 0, 1), (23, .sipush 2576, 3), (26, .newarray .int, 2), (28, .putfield 130, 3), (31, .aload 0, 1), (32, .sipush 4096, 3)]),
  (49, [(35, .newarray .int, 2), (37, .putfield 131, 3), (40, .aload 0, 1), (41, .sipush 12, 2), (43, .newarray .int, 2), (45, .putfield 132, 3), (48, .aload 0, 1), (49, .sipush 4096, 3)]),
  (64, [(52, .newarray .int, 2), (54, .putfield 133, 3), (57, .aload 0, 1), (58, .invokevirtual 18, 3), (61, .sipush 0, 1), (62, .istore 1, 1), (63, .iload 1, 1), (64, .sipush 4096, 3)]),
  (80, [(67, .if_icmp .ge 102, 3), (70, .aload 0, 1), (71, .iload 1, 1), (72, .invokevirtual 23, 3), (75, .istore 2, 1), (76, .aload 0, 1), (77, .getfield 128, 3), (80, .iload 2, 1)]),
  (94, [(81, .invokestatic 21, 3), (84, .iload 2, 1), (85, .iastore, 1), (86, .aload 0, 1), (87, .getfield 133, 3), (90, .iload 2, 1), (91, .invokestatic 21, 3), (94, .iload 1, 1)]),
  (109, [(95, .iastore, 1), (96, .iinc 1 1, 3), (99, .goto 63, 3), (102, .aload 0, 1), (103, .sipush 8, 2), (105, .aload 0, 1), (106, .getfield 129, 3), (109, .invokevirtual 19, 3)]),
  (126, [(112, .aload 0, 1), (113, .sipush 12, 2), (115, .aload 0, 1), (116, .getfield 130, 3), (119, .invokevirtual 19, 3), (122, .aload 0, 1), (123, .invokevirtual 20, 3), (126, .return_, 1)])]
/-- 18: EightBlocks$Golay.fillBasis()V -/
def tb_18 : am_T := [(9, [(0, .sipush 0, 1), (1, .istore 1, 1), (2, .iload 1, 1), (3, .sipush 12, 2), (5, .if_icmp .ge 70, 3), (8, .aload 0, 1), (9, .getfield 132, 3)]),
  (21, [(12, .iload 1, 1), (13, .sipush 8388608, 2), (15, .iastore, 1), (16, .getstatic 0, 3), (19, .astore 2, 1), (20, .aload 2, 1), (21, .arraylength, 1)]),
  (32, [(22, .istore 3, 1), (23, .sipush 0, 1), (24, .istore 4, 2), (26, .iload 4, 2), (28, .iload 3, 1), (29, .if_icmp .ge 64, 3), (32, .aload 2, 1)]),
  (43, [(33, .iload 4, 2), (35, .iaload, 1), (36, .istore 5, 2), (38, .aload 0, 1), (39, .getfield 132, 3), (42, .iload 1, 1), (43, .dup2, 1)]),
  (52, [(44, .iaload, 1), (45, .sipush 1, 1), (46, .iload 5, 2), (48, .iload 1, 1), (49, .isub, 1), (50, .sipush 23, 2), (52, .invokestatic 254, 3)]),
  (67, [(55, .ishl, 1), (56, .ior, 1), (57, .iastore, 1), (58, .iinc 4 1, 3), (61, .goto 26, 3), (64, .iinc 1 1, 3), (67, .goto 2, 3)]),
  (70, [(70, .return_, 1)])]
/-- 19: EightBlocks$Golay.fillWordsOfWeight(I[I)V -/
def tb_19 : am_T := [(8, [(0, .sipush 0, 1), (1, .istore 3, 1), (2, .aload 0, 1), (3, .getfield 128, 3), (6, .astore 4, 2), (8, .aload 4, 2)]),
  (18, [(10, .arraylength, 1), (11, .istore 5, 2), (13, .sipush 0, 1), (14, .istore 6, 2), (16, .iload 6, 2), (18, .iload 5, 2)]),
  (30, [(20, .if_icmp .ge 59, 3), (23, .aload 4, 2), (25, .iload 6, 2), (27, .iaload, 1), (28, .istore 7, 2), (30, .iload 7, 2)]),
  (41, [(32, .invokestatic 253, 3), (35, .iload 1, 1), (36, .if_icmp .ne 53, 3), (39, .iload 3, 1), (40, .aload 2, 1), (41, .arraylength, 1)]),
  (50, [(42, .if_icmp .ge 53, 3), (45, .aload 2, 1), (46, .iload 3, 1), (47, .iload 7, 2), (49, .iastore, 1), (50, .iinc 3 1, 3)]),
  (59, [(53, .iinc 6 1, 3), (56, .goto 16, 3), (59, .return_, 1)])]
/-- 20: EightBlocks$Golay.fillLeaders()V -/
def tb_20 : am_T := [(9, [(0, .sipush 0, 1), (1, .istore 1, 1), (2, .iload 1, 1), (3, .sipush 24, 2), (5, .if_icmp .ge 94, 3), (8, .iload 1, 1), (9, .istore 2, 1)]),
  (19, [(10, .iload 2, 1), (11, .sipush 24, 2), (13, .if_icmp .ge 88, 3), (16, .iload 2, 1), (17, .istore 3, 1), (18, .iload 3, 1), (19, .sipush 24, 2)]),
  (29, [(21, .if_icmp .ge 82, 3), (24, .sipush 1, 1), (25, .iload 1, 1), (26, .ishl, 1), (27, .sipush 1, 1), (28, .iload 2, 1), (29, .ishl, 1)]),
  (37, [(30, .ior, 1), (31, .sipush 1, 1), (32, .iload 3, 1), (33, .ishl, 1), (34, .ior, 1), (35, .istore 4, 2), (37, .aload 0, 1)]),
  (50, [(38, .getfield 131, 3), (41, .aload 0, 1), (42, .iload 4, 2), (44, .invokevirtual 22, 3), (47, .iload 4, 2), (49, .iastore, 1), (50, .iload 4, 2)]),
  (64, [(52, .invokestatic 253, 3), (55, .sipush 3, 1), (56, .if_icmp .ne 76, 3), (59, .aload 0, 1), (60, .getfield 131, 3), (63, .aload 0, 1), (64, .iload 4, 2)]),
  (75, [(66, .sipush 1, 1), (67, .ior, 1), (68, .invokevirtual 22, 3), (71, .iload 4, 2), (73, .sipush 1, 1), (74, .ior, 1), (75, .iastore, 1)]),
  (94, [(76, .iinc 3 1, 3), (79, .goto 18, 3), (82, .iinc 2 1, 3), (85, .goto 10, 3), (88, .iinc 1 1, 3), (91, .goto 2, 3), (94, .return_, 1)])]
/-- 21: EightBlocks$Golay.place(I)I -/
def tb_21 : am_T := [(4, [(0, .iload 0, 1), (1, .sipush 12, 2), (3, .ishr, 1), (4, .sipush 4095, 3)]),
  (8, [(7, .iand, 1), (8, .ireturn, 1)])]
/-- 22: EightBlocks$Golay.rest(I)I -/
def tb_22 : am_T := [(5, [(0, .iload 1, 1), (1, .aload 0, 1), (2, .getfield 128, 3), (5, .iload 1, 1)]),
  (11, [(6, .invokestatic 21, 3), (9, .iaload, 1), (10, .ixor, 1), (11, .sipush 4095, 3)]),
  (15, [(14, .iand, 1), (15, .ireturn, 1)])]
/-- 23: EightBlocks$Golay.wordOf(I)I -/
def tb_23 : am_T := [(4, [(0, .sipush 0, 1), (1, .istore 2, 1), (2, .sipush 0, 1), (3, .istore 3, 1), (4, .iload 3, 1)]),
  (12, [(5, .sipush 12, 2), (7, .if_icmp .ge 34, 3), (10, .iload 1, 1), (11, .iload 3, 1), (12, .ishr, 1)]),
  (19, [(13, .sipush 1, 1), (14, .iand, 1), (15, .sipush 1, 1), (16, .if_icmp .ne 28, 3), (19, .iload 2, 1)]),
  (26, [(20, .aload 0, 1), (21, .getfield 132, 3), (24, .iload 3, 1), (25, .iaload, 1), (26, .ixor, 1)]),
  (35, [(27, .istore 2, 1), (28, .iinc 3 1, 3), (31, .goto 4, 3), (34, .iload 2, 1), (35, .ireturn, 1)])]
/-- 24: EightBlocks$Golay.isWord(I)Z -/
def tb_24 : am_T := [(5, [(0, .aload 0, 1), (1, .getfield 128, 3), (4, .iload 1, 1), (5, .invokestatic 21, 3)]),
  (13, [(8, .iaload, 1), (9, .iload 1, 1), (10, .if_icmp .ne 17, 3), (13, .sipush 1, 1)]),
  (18, [(14, .goto 18, 3), (17, .sipush 0, 1), (18, .ireturn, 1)])]
/-- 25: EightBlocks$Golay.numberOf(I)I -/
def tb_25 : am_T := [(5, [(0, .aload 0, 1), (1, .getfield 133, 3), (4, .iload 1, 1), (5, .invokestatic 21, 3)]),
  (9, [(8, .iaload, 1), (9, .ireturn, 1)])]
/-- 26: EightBlocks$Golay.distance(I)I -/
def tb_26 : am_T := [(5, [(0, .aload 0, 1), (1, .getfield 131, 3), (4, .aload 0, 1), (5, .iload 1, 1)]),
  (13, [(6, .invokevirtual 22, 3), (9, .iaload, 1), (10, .invokestatic 253, 3), (13, .ireturn, 1)])]
/-- 27: EightBlocks$Golay.lowestNearest(I)I -/
def tb_27 : am_T := [(9, [(0, .aload 0, 1), (1, .getfield 131, 3), (4, .aload 0, 1), (5, .iload 1, 1), (6, .invokevirtual 22, 3), (9, .iaload, 1)]),
  (15, [(10, .istore 2, 1), (11, .iload 1, 1), (12, .iload 2, 1), (13, .ixor, 1), (14, .istore 3, 1), (15, .iload 2, 1)]),
  (26, [(16, .invokestatic 253, 3), (19, .sipush 4, 1), (20, .if_icmp .ne 53, 3), (23, .sipush 0, 1), (24, .istore 4, 2), (26, .iload 4, 2)]),
  (36, [(28, .sipush 6, 2), (30, .if_icmp .ge 53, 3), (33, .iload 3, 1), (34, .iload 1, 1), (35, .aload 0, 1), (36, .iload 2, 1)]),
  (47, [(37, .iload 4, 2), (39, .invokevirtual 35, 3), (42, .ixor, 1), (43, .invokeinterface 0 0, 3), (46, .istore 3, 1), (47, .iinc 4 1, 3)]),
  (54, [(50, .goto 26, 3), (53, .iload 3, 1), (54, .ireturn, 1)])]
/-- 28: EightBlocks$Golay.octadsInside(I)I -/
def tb_28 : am_T := [(6, [(0, .sipush 0, 1), (1, .istore 2, 1), (2, .aload 0, 1), (3, .getfield 129, 3), (6, .astore 3, 1)]),
  (12, [(7, .aload 3, 1), (8, .arraylength, 1), (9, .istore 4, 2), (11, .sipush 0, 1), (12, .istore 5, 2)]),
  (22, [(14, .iload 5, 2), (16, .iload 4, 2), (18, .if_icmp .ge 45, 3), (21, .aload 3, 1), (22, .iload 5, 2)]),
  (30, [(24, .iaload, 1), (25, .istore 6, 2), (27, .iload 6, 2), (29, .iload 1, 1), (30, .sipush (-1), 1)]),
  (39, [(31, .ixor, 1), (32, .iand, 1), (33, .ifCond .ne 39, 3), (36, .iinc 2 1, 3), (39, .iinc 5 1, 3)]),
  (46, [(42, .goto 14, 3), (45, .iload 2, 1), (46, .ireturn, 1)])]
/-- 29: EightBlocks$Golay.octadsAround(I)I -/
def tb_29 : am_T := [(6, [(0, .sipush 0, 1), (1, .istore 2, 1), (2, .aload 0, 1), (3, .getfield 129, 3), (6, .astore 3, 1)]),
  (12, [(7, .aload 3, 1), (8, .arraylength, 1), (9, .istore 4, 2), (11, .sipush 0, 1), (12, .istore 5, 2)]),
  (22, [(14, .iload 5, 2), (16, .iload 4, 2), (18, .if_icmp .ge 45, 3), (21, .aload 3, 1), (22, .iload 5, 2)]),
  (30, [(24, .iaload, 1), (25, .istore 6, 2), (27, .iload 1, 1), (28, .iload 6, 2), (30, .sipush (-1), 1)]),
  (39, [(31, .ixor, 1), (32, .iand, 1), (33, .ifCond .ne 39, 3), (36, .iinc 2 1, 3), (39, .iinc 5 1, 3)]),
  (46, [(42, .goto 14, 3), (45, .iload 2, 1), (46, .ireturn, 1)])]
/-- 30: EightBlocks$Golay.octadsMeeting(II)I -/
def tb_30 : am_T := [(6, [(0, .sipush 0, 1), (1, .istore 3, 1), (2, .aload 0, 1), (3, .getfield 129, 3), (6, .astore 4, 2)]),
  (14, [(8, .aload 4, 2), (10, .arraylength, 1), (11, .istore 5, 2), (13, .sipush 0, 1), (14, .istore 6, 2)]),
  (25, [(16, .iload 6, 2), (18, .iload 5, 2), (20, .if_icmp .ge 50, 3), (23, .aload 4, 2), (25, .iload 6, 2)]),
  (33, [(27, .iaload, 1), (28, .istore 7, 2), (30, .iload 7, 2), (32, .iload 1, 1), (33, .iand, 1)]),
  (44, [(34, .invokestatic 253, 3), (37, .iload 2, 1), (38, .if_icmp .ne 44, 3), (41, .iinc 3 1, 3), (44, .iinc 6 1, 3)]),
  (51, [(47, .goto 16, 3), (50, .iload 3, 1), (51, .ireturn, 1)])]
/-- 31: EightBlocks$Golay.octadsFixedBy([I)I -/
def tb_31 : am_T := [(6, [(0, .sipush 0, 1), (1, .istore 2, 1), (2, .aload 0, 1), (3, .getfield 129, 3), (6, .astore 3, 1)]),
  (12, [(7, .aload 3, 1), (8, .arraylength, 1), (9, .istore 4, 2), (11, .sipush 0, 1), (12, .istore 5, 2)]),
  (22, [(14, .iload 5, 2), (16, .iload 4, 2), (18, .if_icmp .ge 47, 3), (21, .aload 3, 1), (22, .iload 5, 2)]),
  (30, [(24, .iaload, 1), (25, .istore 6, 2), (27, .aload 1, 1), (28, .iload 6, 2), (30, .invokestatic 51, 3)]),
  (44, [(33, .iload 6, 2), (35, .if_icmp .ne 41, 3), (38, .iinc 2 1, 3), (41, .iinc 5 1, 3), (44, .goto 14, 3)]),
  (48, [(47, .iload 2, 1), (48, .ireturn, 1)])]
/-- 32: EightBlocks$Golay.isPreservedBy([I)Z -/
def tb_32 : am_T := [(6, [(0, .aload 0, 1), (1, .getfield 132, 3), (4, .astore 2, 1), (5, .aload 2, 1), (6, .arraylength, 1)]),
  (13, [(7, .istore 3, 1), (8, .sipush 0, 1), (9, .istore 4, 2), (11, .iload 4, 2), (13, .iload 3, 1)]),
  (21, [(14, .if_icmp .ge 44, 3), (17, .aload 2, 1), (18, .iload 4, 2), (20, .iaload, 1), (21, .istore 5, 2)]),
  (30, [(23, .aload 0, 1), (24, .aload 1, 1), (25, .iload 5, 2), (27, .invokestatic 51, 3), (30, .invokevirtual 24, 3)]),
  (41, [(33, .ifCond .ne 38, 3), (36, .sipush 0, 1), (37, .ireturn, 1), (38, .iinc 4 1, 3), (41, .goto 11, 3)]),
  (45, [(44, .sipush 1, 1), (45, .ireturn, 1)])]
/-- 33: EightBlocks$Golay.octadWith(I)I -/
def tb_33 : am_T := [(5, [(0, .iload 1, 1), (1, .aload 0, 1), (2, .getfield 131, 3), (5, .aload 0, 1)]),
  (11, [(6, .iload 1, 1), (7, .invokevirtual 22, 3), (10, .iaload, 1), (11, .ixor, 1)]),
  (12, [(12, .ireturn, 1)])]
/-- 34: EightBlocks$Golay.tetradWith(II)I -/
def tb_34 : am_T := [(3, [(0, .iload 1, 1), (1, .iload 2, 1), (2, .iand, 1), (3, .ifCond .eq 10, 3)]),
  (11, [(6, .iload 1, 1), (7, .goto 19, 3), (10, .iload 1, 1), (11, .aload 0, 1)]),
  (15, [(12, .iload 1, 1), (13, .iload 2, 1), (14, .ior, 1), (15, .invokevirtual 33, 3)]),
  (19, [(18, .ixor, 1), (19, .ireturn, 1)])]
/-- 35: EightBlocks$Golay.tetrad(II)I -/
def tb_35 : am_T := [(6, [(0, .sipush 0, 1), (1, .istore 3, 1), (2, .sipush 0, 1), (3, .istore 4, 2), (5, .sipush 0, 1), (6, .istore 5, 2)]),
  (18, [(8, .iload 5, 2), (10, .iload 2, 1), (11, .if_icmp .gt 53, 3), (14, .iload 5, 2), (16, .sipush 6, 2), (18, .if_icmp .ge 53, 3)]),
  (27, [(21, .sipush 16777215, 2), (23, .iload 3, 1), (24, .sipush (-1), 1), (25, .ixor, 1), (26, .iand, 1), (27, .istore 6, 2)]),
  (36, [(29, .aload 0, 1), (30, .iload 1, 1), (31, .iload 6, 2), (33, .iload 6, 2), (35, .ineg, 1), (36, .iand, 1)]),
  (46, [(37, .invokevirtual 34, 3), (40, .istore 4, 2), (42, .iload 3, 1), (43, .iload 4, 2), (45, .ior, 1), (46, .istore 3, 1)]),
  (55, [(47, .iinc 5 1, 3), (50, .goto 8, 3), (53, .iload 4, 2), (55, .ireturn, 1)])]
/-- 36: EightBlocks$Golay.isUnionOfTetrads(II)Z -/
def tb_36 : am_T := [(5, [(0, .sipush 0, 1), (1, .istore 3, 1), (2, .iload 3, 1), (3, .sipush 6, 2), (5, .if_icmp .ge 42, 3)]),
  (14, [(8, .aload 0, 1), (9, .iload 2, 1), (10, .iload 3, 1), (11, .invokevirtual 35, 3), (14, .istore 4, 2)]),
  (22, [(16, .iload 4, 2), (18, .iload 1, 1), (19, .iand, 1), (20, .istore 5, 2), (22, .iload 5, 2)]),
  (34, [(24, .ifCond .eq 36, 3), (27, .iload 5, 2), (29, .iload 4, 2), (31, .if_icmp .eq 36, 3), (34, .sipush 0, 1)]),
  (43, [(35, .ireturn, 1), (36, .iinc 3 1, 3), (39, .goto 2, 3), (42, .sipush 1, 1), (43, .ireturn, 1)])]
/-- 37: EightBlocks$Golay.sharedOctads(II)I -/
def tb_37 : am_T := [(7, [(0, .sipush 0, 1), (1, .istore 3, 1), (2, .sipush 0, 1), (3, .istore 4, 2), (5, .iload 4, 2), (7, .sipush 6, 2)]),
  (18, [(9, .if_icmp .ge 67, 3), (12, .iload 4, 2), (14, .sipush 1, 1), (15, .iadd, 1), (16, .istore 5, 2), (18, .iload 5, 2)]),
  (29, [(20, .sipush 6, 2), (22, .if_icmp .ge 61, 3), (25, .aload 0, 1), (26, .iload 1, 1), (27, .iload 4, 2), (29, .invokevirtual 35, 3)]),
  (40, [(32, .aload 0, 1), (33, .iload 1, 1), (34, .iload 5, 2), (36, .invokevirtual 35, 3), (39, .ior, 1), (40, .istore 6, 2)]),
  (52, [(42, .aload 0, 1), (43, .iload 6, 2), (45, .iload 2, 1), (46, .invokevirtual 36, 3), (49, .ifCond .eq 55, 3), (52, .iinc 3 1, 3)]),
  (68, [(55, .iinc 5 1, 3), (58, .goto 18, 3), (61, .iinc 4 1, 3), (64, .goto 5, 3), (67, .iload 3, 1), (68, .ireturn, 1)])]
/-- 38: EightBlocks$History.init()V -/
def tb_38 : am_T := [(8, [(0, .aload 0, 1), (1, .monitorexit, 3), (4, .aload 0, 1), (5, .new 6, 3), (8, .dup, 1)]),
  (18, [(9, .invokespecial 78, 3), (12, .putfield 192, 3), (15, .aload 0, 1), (16, .sipush 6, 2), (18, .anewarray 0, 3)]),
  (27, [(21, .putfield 193, 3), (24, .sipush 0, 1), (25, .istore 1, 1), (26, .iload 1, 1), (27, .sipush 6, 2)]),
  (37, [(29, .if_icmp .ge 51, 3), (32, .aload 0, 1), (33, .getfield 193, 3), (36, .iload 1, 1), (37, .new 6, 3)]),
  (48, [(40, .dup, 1), (41, .invokespecial 78, 3), (44, .aastore, 1), (45, .iinc 1 1, 3), (48, .goto 26, 3)]),
  (51, [(51, .return_, 1)])]
/-- 39: EightBlocks$History.keep()V -/
def tb_39 : am_T := [(9, [(0, .aload 0, 1), (1, .getfield 194, 3), (4, .sipush 6, 2), (6, .invokestatic 134, 3), (9, .ifCond .eq 16, 3)]),
  (20, [(12, .aload 0, 1), (13, .invokevirtual 40, 3), (16, .aload 0, 1), (17, .getfield 193, 3), (20, .aload 0, 1)]),
  (29, [(21, .getfield 194, 3), (24, .aaload, 1), (25, .aload 0, 1), (26, .getfield 192, 3), (29, .invokevirtual 79, 3)]),
  (38, [(32, .aload 0, 1), (33, .dup, 1), (34, .getfield 194, 3), (37, .sipush 1, 1), (38, .iadd, 1)]),
  (42, [(39, .putfield 194, 3), (42, .return_, 1)])]
/-- 40: EightBlocks$History.forgetOldest()V -/
def tb_40 : am_T := [(7, [(0, .aload 0, 1), (1, .getfield 193, 3), (4, .sipush 0, 1), (5, .aaload, 1), (6, .astore 1, 1), (7, .sipush 1, 1)]),
  (16, [(8, .istore 2, 1), (9, .iload 2, 1), (10, .sipush 6, 2), (12, .if_icmp .ge 35, 3), (15, .aload 0, 1), (16, .getfield 193, 3)]),
  (26, [(19, .iload 2, 1), (20, .sipush 1, 1), (21, .isub, 1), (22, .aload 0, 1), (23, .getfield 193, 3), (26, .iload 2, 1)]),
  (36, [(27, .aaload, 1), (28, .aastore, 1), (29, .iinc 2 1, 3), (32, .goto 9, 3), (35, .aload 0, 1), (36, .getfield 193, 3)]),
  (44, [(39, .sipush 5, 1), (40, .aload 1, 1), (41, .aastore, 1), (42, .aload 0, 1), (43, .sipush 5, 1), (44, .putfield 194, 3)]),
  (47, [(47, .return_, 1)])]
/-- 41: EightBlocks$History.takeBack()I -/
def tb_41 : am_T := [(8, [(0, .aload 0, 1), (1, .getfield 194, 3), (4, .sipush 1, 1), (5, .if_icmp .lt 17, 3), (8, .aload 0, 1)]),
  (19, [(9, .getfield 194, 3), (12, .sipush 6, 2), (14, .if_icmp .le 20, 3), (17, .sipush (-4), 2), (19, .ireturn, 1)]),
  (26, [(20, .aload 0, 1), (21, .dup, 1), (22, .getfield 194, 3), (25, .sipush 1, 1), (26, .isub, 1)]),
  (35, [(27, .putfield 194, 3), (30, .aload 0, 1), (31, .getfield 192, 3), (34, .aload 0, 1), (35, .getfield 193, 3)]),
  (46, [(38, .aload 0, 1), (39, .getfield 194, 3), (42, .aaload, 1), (43, .invokevirtual 79, 3), (46, .aload 0, 1)]),
  (50, [(47, .getfield 194, 3), (50, .ireturn, 1)])]
/-- 42: EightBlocks$History.become(LEightBlocks$History;)V -/
def tb_42 : am_T := [(8, [(0, .aload 0, 1), (1, .getfield 192, 3), (4, .aload 1, 1), (5, .getfield 192, 3), (8, .invokevirtual 79, 3)]),
  (16, [(11, .sipush 0, 1), (12, .istore 2, 1), (13, .iload 2, 1), (14, .sipush 6, 2), (16, .if_icmp .ge 40, 3)]),
  (25, [(19, .aload 0, 1), (20, .getfield 193, 3), (23, .iload 2, 1), (24, .aaload, 1), (25, .aload 1, 1)]),
  (34, [(26, .getfield 193, 3), (29, .iload 2, 1), (30, .aaload, 1), (31, .invokevirtual 79, 3), (34, .iinc 2 1, 3)]),
  (45, [(37, .goto 13, 3), (40, .aload 0, 1), (41, .aload 1, 1), (42, .getfield 194, 3), (45, .putfield 194, 3)]),
  (48, [(48, .return_, 1)])]
/-- 43: EightBlocks$Moves.fillNamed([[I)V -/
def tb_43 : am_T := [(13, [(0, .sipush 0, 1), (1, .istore 1, 1), (2, .iload 1, 1), (3, .sipush 5, 1), (4, .if_icmp .ge 19, 3), (7, .aload 0, 1), (8, .iload 1, 1), (9, .aaload, 1), (10, .invokestatic 45, 3), (13, .iinc 1 1, 3)]),
  (30, [(16, .goto 2, 3), (19, .sipush 0, 1), (20, .istore 1, 1), (21, .iload 1, 1), (22, .sipush 23, 2), (24, .if_icmp .ge 117, 3), (27, .aload 0, 1), (28, .sipush 0, 1), (29, .aaload, 1), (30, .iload 1, 1)]),
  (41, [(31, .iload 1, 1), (32, .sipush 1, 1), (33, .iadd, 1), (34, .sipush 23, 2), (36, .irem, 1), (37, .iastore, 1), (38, .aload 0, 1), (39, .sipush 1, 1), (40, .aaload, 1), (41, .iload 1, 1)]),
  (52, [(42, .sipush 2, 1), (43, .iload 1, 1), (44, .imul, 1), (45, .sipush 23, 2), (47, .irem, 1), (48, .iastore, 1), (49, .aload 0, 1), (50, .sipush 3, 1), (51, .aaload, 1), (52, .iload 1, 1)]),
  (68, [(53, .sipush 340830, 2), (55, .iload 1, 1), (56, .ishr, 1), (57, .sipush 1, 1), (58, .iand, 1), (59, .sipush 1, 1), (60, .if_icmp .ne 68, 3), (63, .sipush 18, 2), (65, .goto 70, 3), (68, .sipush 9, 2)]),
  (80, [(70, .iload 1, 1), (71, .imul, 1), (72, .iload 1, 1), (73, .imul, 1), (74, .iload 1, 1), (75, .imul, 1), (76, .sipush 23, 2), (78, .irem, 1), (79, .iastore, 1), (80, .sipush 0, 1)]),
  (94, [(81, .istore 2, 1), (82, .iload 2, 1), (83, .sipush 23, 2), (85, .if_icmp .ge 111, 3), (88, .iload 1, 1), (89, .iload 2, 1), (90, .imul, 1), (91, .sipush 23, 2), (93, .irem, 1), (94, .sipush 22, 2)]),
  (111, [(96, .if_icmp .ne 105, 3), (99, .aload 0, 1), (100, .sipush 2, 1), (101, .aaload, 1), (102, .iload 1, 1), (103, .iload 2, 1), (104, .iastore, 1), (105, .iinc 2 1, 3), (108, .goto 82, 3), (111, .iinc 1 1, 3)]),
  (126, [(114, .goto 21, 3), (117, .aload 0, 1), (118, .sipush 2, 1), (119, .aaload, 1), (120, .sipush 0, 1), (121, .sipush 23, 2), (123, .iastore, 1), (124, .aload 0, 1), (125, .sipush 2, 1), (126, .aaload, 1)]),
  (131, [(127, .sipush 23, 2), (129, .sipush 0, 1), (130, .iastore, 1), (131, .return_, 1)])]
/-- 44: EightBlocks$Moves.to([II)I -/
def tb_44 : am_T := [(5, [(0, .iload 1, 1), (1, .ifCond .lt 16, 3), (4, .iload 1, 1), (5, .aload 0, 1)]),
  (11, [(6, .arraylength, 1), (7, .if_icmp .ge 16, 3), (10, .aload 0, 1), (11, .iload 1, 1)]),
  (17, [(12, .iaload, 1), (13, .goto 17, 3), (16, .iload 1, 1), (17, .ireturn, 1)])]
/-- 45: EightBlocks$Moves.makeSame([I)V -/
def tb_45 : am_T := [(3, [(0, .sipush 0, 1), (1, .istore 1, 1), (2, .iload 1, 1), (3, .aload 0, 1)]),
  (9, [(4, .arraylength, 1), (5, .if_icmp .ge 18, 3), (8, .aload 0, 1), (9, .iload 1, 1)]),
  (15, [(10, .iload 1, 1), (11, .iastore, 1), (12, .iinc 1 1, 3), (15, .goto 2, 3)]),
  (18, [(18, .return_, 1)])]
/-- 46: EightBlocks$Moves.assign([I[I)V -/
def tb_46 : am_T := [(3, [(0, .sipush 0, 1), (1, .istore 2, 1), (2, .iload 2, 1), (3, .aload 0, 1)]),
  (9, [(4, .arraylength, 1), (5, .if_icmp .ge 26, 3), (8, .iload 2, 1), (9, .aload 1, 1)]),
  (15, [(10, .arraylength, 1), (11, .if_icmp .ge 26, 3), (14, .aload 0, 1), (15, .iload 2, 1)]),
  (19, [(16, .aload 1, 1), (17, .iload 2, 1), (18, .iaload, 1), (19, .iastore, 1)]),
  (26, [(20, .iinc 2 1, 3), (23, .goto 2, 3), (26, .return_, 1)])]
/-- 47: EightBlocks$Moves.follow([I[I)V -/
def tb_47 : am_T := [(3, [(0, .sipush 0, 1), (1, .istore 2, 1), (2, .iload 2, 1), (3, .aload 0, 1)]),
  (9, [(4, .arraylength, 1), (5, .if_icmp .ge 24, 3), (8, .aload 0, 1), (9, .iload 2, 1)]),
  (13, [(10, .aload 1, 1), (11, .aload 0, 1), (12, .iload 2, 1), (13, .iaload, 1)]),
  (21, [(14, .invokestatic 44, 3), (17, .iastore, 1), (18, .iinc 2 1, 3), (21, .goto 2, 3)]),
  (24, [(24, .return_, 1)])]
/-- 48: EightBlocks$Moves.combine([I[I[I)V -/
def tb_48 : am_T := [(4, [(0, .sipush 0, 1), (1, .istore 3, 1), (2, .iload 3, 1), (3, .aload 0, 1), (4, .arraylength, 1)]),
  (11, [(5, .if_icmp .ge 44, 3), (8, .iload 3, 1), (9, .aload 1, 1), (10, .arraylength, 1), (11, .if_icmp .ge 44, 3)]),
  (19, [(14, .aload 0, 1), (15, .iload 3, 1), (16, .iaload, 1), (17, .istore 4, 2), (19, .iload 4, 2)]),
  (28, [(21, .ifCond .lt 38, 3), (24, .iload 4, 2), (26, .aload 2, 1), (27, .arraylength, 1), (28, .if_icmp .ge 38, 3)]),
  (36, [(31, .aload 2, 1), (32, .iload 4, 2), (34, .aload 1, 1), (35, .iload 3, 1), (36, .iaload, 1)]),
  (44, [(37, .iastore, 1), (38, .iinc 3 1, 3), (41, .goto 2, 3), (44, .return_, 1)])]
/-- 49: EightBlocks$Moves.invert([I[I)V -/
def tb_49 : am_T := [(4, [(0, .sipush 0, 1), (1, .istore 2, 1), (2, .iload 2, 1), (3, .aload 0, 1), (4, .arraylength, 1)]),
  (11, [(5, .if_icmp .ge 32, 3), (8, .aload 0, 1), (9, .iload 2, 1), (10, .iaload, 1), (11, .istore 3, 1)]),
  (18, [(12, .iload 3, 1), (13, .ifCond .lt 26, 3), (16, .iload 3, 1), (17, .aload 1, 1), (18, .arraylength, 1)]),
  (25, [(19, .if_icmp .ge 26, 3), (22, .aload 1, 1), (23, .iload 3, 1), (24, .iload 2, 1), (25, .iastore, 1)]),
  (32, [(26, .iinc 2 1, 3), (29, .goto 2, 3), (32, .return_, 1)])]
/-- 50: EightBlocks$Moves.sourceOf([II)I -/
def tb_50 : am_T := [(3, [(0, .sipush 0, 1), (1, .istore 2, 1), (2, .iload 2, 1), (3, .aload 0, 1)]),
  (9, [(4, .arraylength, 1), (5, .if_icmp .ge 23, 3), (8, .aload 0, 1), (9, .iload 2, 1)]),
  (15, [(10, .iaload, 1), (11, .iload 1, 1), (12, .if_icmp .ne 17, 3), (15, .iload 2, 1)]),
  (23, [(16, .ireturn, 1), (17, .iinc 2 1, 3), (20, .goto 2, 3), (23, .sipush (-4), 2)]),
  (25, [(25, .ireturn, 1)])]
/-- 51: EightBlocks$Moves.imageOf([II)I -/
def tb_51 : am_T := [(4, [(0, .sipush 0, 1), (1, .istore 2, 1), (2, .sipush 0, 1), (3, .istore 3, 1), (4, .iload 3, 1)]),
  (11, [(5, .aload 0, 1), (6, .arraylength, 1), (7, .if_icmp .ge 28, 3), (10, .iload 2, 1), (11, .iload 1, 1)]),
  (16, [(12, .iload 3, 1), (13, .ishr, 1), (14, .sipush 1, 1), (15, .iand, 1), (16, .aload 0, 1)]),
  (21, [(17, .iload 3, 1), (18, .iaload, 1), (19, .ishl, 1), (20, .ior, 1), (21, .istore 2, 1)]),
  (29, [(22, .iinc 3 1, 3), (25, .goto 4, 3), (28, .iload 2, 1), (29, .ireturn, 1)])]
/-- 52: EightBlocks$Moves.differences([I[I)I -/
def tb_52 : am_T := [(4, [(0, .sipush 0, 1), (1, .istore 2, 1), (2, .sipush 0, 1), (3, .istore 3, 1), (4, .iload 3, 1)]),
  (11, [(5, .aload 0, 1), (6, .arraylength, 1), (7, .if_icmp .ge 34, 3), (10, .iload 3, 1), (11, .aload 1, 1)]),
  (18, [(12, .arraylength, 1), (13, .if_icmp .ge 34, 3), (16, .aload 0, 1), (17, .iload 3, 1), (18, .iaload, 1)]),
  (25, [(19, .aload 1, 1), (20, .iload 3, 1), (21, .iaload, 1), (22, .if_icmp .eq 28, 3), (25, .iinc 2 1, 3)]),
  (35, [(28, .iinc 3 1, 3), (31, .goto 4, 3), (34, .iload 2, 1), (35, .ireturn, 1)])]
/-- 53: EightBlocks$Moves.fixedPoints([I)I -/
def tb_53 : am_T := [(3, [(0, .sipush 0, 1), (1, .istore 1, 1), (2, .sipush 0, 1), (3, .istore 2, 1)]),
  (7, [(4, .iload 2, 1), (5, .aload 0, 1), (6, .arraylength, 1), (7, .if_icmp .ge 26, 3)]),
  (13, [(10, .aload 0, 1), (11, .iload 2, 1), (12, .iaload, 1), (13, .iload 2, 1)]),
  (23, [(14, .if_icmp .ne 20, 3), (17, .iinc 1 1, 3), (20, .iinc 2 1, 3), (23, .goto 4, 3)]),
  (27, [(26, .iload 1, 1), (27, .ireturn, 1)])]
/-- 54: EightBlocks$Moves.cycleLength([II)I -/
def tb_54 : am_T := [(3, [(0, .sipush 1, 1), (1, .istore 2, 1), (2, .aload 0, 1), (3, .iload 1, 1)]),
  (9, [(4, .invokestatic 44, 3), (7, .istore 3, 1), (8, .iload 3, 1), (9, .iload 1, 1)]),
  (16, [(10, .if_icmp .eq 31, 3), (13, .iload 2, 1), (14, .sipush 24, 2), (16, .if_icmp .ge 31, 3)]),
  (24, [(19, .iinc 2 1, 3), (22, .aload 0, 1), (23, .iload 3, 1), (24, .invokestatic 44, 3)]),
  (32, [(27, .istore 3, 1), (28, .goto 8, 3), (31, .iload 2, 1), (32, .ireturn, 1)])]
/-- 55: EightBlocks$Moves.isLowestInCycle([II)Z -/
def tb_55 : am_T := [(6, [(0, .aload 0, 1), (1, .iload 1, 1), (2, .invokestatic 44, 3), (5, .istore 2, 1), (6, .sipush 0, 1)]),
  (14, [(7, .istore 3, 1), (8, .iload 3, 1), (9, .sipush 24, 2), (11, .if_icmp .ge 31, 3), (14, .iload 2, 1)]),
  (21, [(15, .iload 1, 1), (16, .if_icmp .le 31, 3), (19, .aload 0, 1), (20, .iload 2, 1), (21, .invokestatic 44, 3)]),
  (32, [(24, .istore 2, 1), (25, .iinc 3 1, 3), (28, .goto 8, 3), (31, .iload 2, 1), (32, .iload 1, 1)]),
  (41, [(33, .if_icmp .ne 40, 3), (36, .sipush 1, 1), (37, .goto 41, 3), (40, .sipush 0, 1), (41, .ireturn, 1)])]
/-- 56: EightBlocks$Moves.cycleCount([I)I -/
def tb_56 : am_T := [(3, [(0, .sipush 0, 1), (1, .istore 1, 1), (2, .sipush 0, 1), (3, .istore 2, 1)]),
  (7, [(4, .iload 2, 1), (5, .aload 0, 1), (6, .arraylength, 1), (7, .if_icmp .ge 27, 3)]),
  (15, [(10, .aload 0, 1), (11, .iload 2, 1), (12, .invokestatic 55, 3), (15, .ifCond .eq 21, 3)]),
  (27, [(18, .iinc 1 1, 3), (21, .iinc 2 1, 3), (24, .goto 4, 3), (27, .iload 1, 1)]),
  (28, [(28, .ireturn, 1)])]
/-- 57: EightBlocks$Moves.order([I)I -/
def tb_57 : am_T := [(3, [(0, .sipush 1, 1), (1, .istore 1, 1), (2, .sipush 0, 1), (3, .istore 2, 1)]),
  (7, [(4, .iload 2, 1), (5, .aload 0, 1), (6, .arraylength, 1), (7, .if_icmp .ge 26, 3)]),
  (13, [(10, .iload 1, 1), (11, .aload 0, 1), (12, .iload 2, 1), (13, .invokestatic 54, 3)]),
  (23, [(16, .invokestatic 58, 3), (19, .istore 1, 1), (20, .iinc 2 1, 3), (23, .goto 4, 3)]),
  (27, [(26, .iload 1, 1), (27, .ireturn, 1)])]
/-- 58: EightBlocks$Moves.commonMultiple(II)I -/
def tb_58 : am_T := [(4, [(0, .sipush 1, 1), (1, .istore 2, 1), (2, .iload 2, 1), (3, .iload 1, 1), (4, .if_icmp .ge 25, 3)]),
  (11, [(7, .iload 0, 1), (8, .iload 2, 1), (9, .imul, 1), (10, .iload 1, 1), (11, .irem, 1)]),
  (18, [(12, .ifCond .ne 19, 3), (15, .iload 0, 1), (16, .iload 2, 1), (17, .imul, 1), (18, .ireturn, 1)]),
  (27, [(19, .iinc 2 1, 3), (22, .goto 2, 3), (25, .iload 0, 1), (26, .iload 1, 1), (27, .imul, 1)]),
  (28, [(28, .ireturn, 1)])]
/-- 59: EightBlocks$Orbits.init()V -/
def tb_59 : am_T := [(5, [(0, .aload 0, 1), (1, .monitorexit, 3), (4, .aload 0, 1), (5, .sipush 4096, 3)]),
  (14, [(8, .newarray .int, 2), (10, .putfield 256, 3), (13, .aload 0, 1), (14, .sipush 4096, 3)]),
  (22, [(17, .newarray .int, 2), (19, .putfield 257, 3), (22, .return_, 1)])]
/-- 60: EightBlocks$Orbits.begin(I)V -/
def tb_60 : am_T := [(6, [(0, .aload 0, 1), (1, .iload 1, 1), (2, .putfield 258, 3), (5, .aload 0, 1), (6, .aload 0, 1)]),
  (18, [(7, .getfield 258, 3), (10, .ifCond .ne 18, 3), (13, .sipush 24, 2), (15, .goto 21, 3), (18, .sipush 4096, 3)]),
  (27, [(21, .putfield 259, 3), (24, .sipush 0, 1), (25, .istore 2, 1), (26, .iload 2, 1), (27, .aload 0, 1)]),
  (38, [(28, .getfield 259, 3), (31, .if_icmp .ge 47, 3), (34, .aload 0, 1), (35, .getfield 256, 3), (38, .iload 2, 1)]),
  (47, [(39, .iload 2, 1), (40, .iastore, 1), (41, .iinc 2 1, 3), (44, .goto 26, 3), (47, .return_, 1)])]
/-- 61: EightBlocks$Orbits.joinBy(LEightBlocks$Golay;[I)V -/
def tb_61 : am_T := [(8, [(0, .aload 0, 1), (1, .getfield 258, 3), (4, .ifCond .ne 18, 3), (7, .aload 0, 1), (8, .getfield 257, 3)]),
  (19, [(11, .aload 2, 1), (12, .invokestatic 46, 3), (15, .goto 24, 3), (18, .aload 0, 1), (19, .aload 1, 1)]),
  (26, [(20, .aload 2, 1), (21, .invokevirtual 62, 3), (24, .sipush 0, 1), (25, .istore 3, 1), (26, .iload 3, 1)]),
  (35, [(27, .aload 0, 1), (28, .getfield 259, 3), (31, .if_icmp .ge 51, 3), (34, .aload 0, 1), (35, .iload 3, 1)]),
  (42, [(36, .aload 0, 1), (37, .getfield 257, 3), (40, .iload 3, 1), (41, .iaload, 1), (42, .invokevirtual 64, 3)]),
  (51, [(45, .iinc 3 1, 3), (48, .goto 26, 3), (51, .return_, 1)])]
/-- 62: EightBlocks$Orbits.fillGoals(LEightBlocks$Golay;[I)V -/
def tb_62 : am_T := [(8, [(0, .aload 0, 1), (1, .getfield 257, 3), (4, .sipush 0, 1), (5, .sipush 0, 1), (6, .iastore, 1), (7, .sipush 1, 1), (8, .istore 3, 1)]),
  (19, [(9, .iload 3, 1), (10, .aload 0, 1), (11, .getfield 259, 3), (14, .if_icmp .ge 69, 3), (17, .iload 3, 1), (18, .iload 3, 1), (19, .ineg, 1)]),
  (29, [(20, .iand, 1), (21, .istore 4, 2), (23, .aload 0, 1), (24, .getfield 257, 3), (27, .iload 3, 1), (28, .iload 3, 1), (29, .iload 4, 2)]),
  (42, [(31, .if_icmp .ne 45, 3), (34, .aload 0, 1), (35, .aload 1, 1), (36, .aload 2, 1), (37, .iload 4, 2), (39, .invokevirtual 63, 3), (42, .goto 62, 3)]),
  (54, [(45, .aload 0, 1), (46, .getfield 257, 3), (49, .iload 3, 1), (50, .iload 4, 2), (52, .ixor, 1), (53, .iaload, 1), (54, .aload 0, 1)]),
  (66, [(55, .getfield 257, 3), (58, .iload 4, 2), (60, .iaload, 1), (61, .ixor, 1), (62, .iastore, 1), (63, .iinc 3 1, 3), (66, .goto 9, 3)]),
  (69, [(69, .return_, 1)])]
/-- 63: EightBlocks$Orbits.goalOf(LEightBlocks$Golay;[II)I -/
def tb_63 : am_T := [(5, [(0, .aload 0, 1), (1, .getfield 258, 3), (4, .sipush 1, 1), (5, .if_icmp .ne 22, 3)]),
  (13, [(8, .aload 2, 1), (9, .aload 1, 1), (10, .getfield 128, 3), (13, .iload 3, 1)]),
  (21, [(14, .iaload, 1), (15, .invokestatic 51, 3), (18, .invokestatic 21, 3), (21, .ireturn, 1)]),
  (25, [(22, .aload 1, 1), (23, .aload 2, 1), (24, .iload 3, 1), (25, .invokestatic 51, 3)]),
  (31, [(28, .invokevirtual 22, 3), (31, .ireturn, 1)])]
/-- 64: EightBlocks$Orbits.join(II)V -/
def tb_64 : am_T := [(6, [(0, .aload 0, 1), (1, .iload 1, 1), (2, .invokevirtual 65, 3), (5, .istore 3, 1), (6, .aload 0, 1)]),
  (14, [(7, .iload 2, 1), (8, .invokevirtual 65, 3), (11, .istore 4, 2), (13, .iload 3, 1), (14, .aload 0, 1)]),
  (26, [(15, .getfield 259, 3), (18, .invokestatic 134, 3), (21, .ifCond .ne 36, 3), (24, .iload 4, 2), (26, .aload 0, 1)]),
  (37, [(27, .getfield 259, 3), (30, .invokestatic 134, 3), (33, .ifCond .eq 37, 3), (36, .return_, 1), (37, .aload 0, 1)]),
  (47, [(38, .getfield 256, 3), (41, .iload 3, 1), (42, .iload 4, 2), (44, .invokeinterface 1 0, 3), (47, .iload 3, 1)]),
  (54, [(48, .iload 4, 2), (50, .invokeinterface 0 0, 3), (53, .iastore, 1), (54, .return_, 1)])]
/-- 65: EightBlocks$Orbits.root(I)I -/
def tb_65 : am_T := [(6, [(0, .iload 1, 1), (1, .istore 2, 1), (2, .sipush 0, 1), (3, .istore 3, 1), (4, .iload 3, 1), (5, .aload 0, 1), (6, .getfield 259, 3)]),
  (23, [(9, .if_icmp .ge 75, 3), (12, .iload 2, 1), (13, .aload 0, 1), (14, .getfield 259, 3), (17, .invokestatic 134, 3), (20, .ifCond .ne 75, 3), (23, .aload 0, 1)]),
  (34, [(24, .getfield 256, 3), (27, .iload 2, 1), (28, .iaload, 1), (29, .iload 2, 1), (30, .if_icmp .eq 75, 3), (33, .aload 0, 1), (34, .getfield 256, 3)]),
  (47, [(37, .iload 2, 1), (38, .iaload, 1), (39, .istore 4, 2), (41, .iload 4, 2), (43, .aload 0, 1), (44, .getfield 259, 3), (47, .invokestatic 134, 3)]),
  (62, [(50, .ifCond .ne 66, 3), (53, .aload 0, 1), (54, .getfield 256, 3), (57, .iload 2, 1), (58, .aload 0, 1), (59, .getfield 256, 3), (62, .iload 4, 2)]),
  (75, [(64, .iaload, 1), (65, .iastore, 1), (66, .iload 4, 2), (68, .istore 2, 1), (69, .iinc 3 1, 3), (72, .goto 4, 3), (75, .iload 2, 1)]),
  (76, [(76, .ireturn, 1)])]
/-- 66: EightBlocks$Orbits.number()I -/
def tb_66 : am_T := [(3, [(0, .sipush 0, 1), (1, .istore 1, 1), (2, .sipush 0, 1), (3, .istore 2, 1)]),
  (9, [(4, .iload 2, 1), (5, .aload 0, 1), (6, .getfield 259, 3), (9, .if_icmp .ge 31, 3)]),
  (17, [(12, .aload 0, 1), (13, .getfield 256, 3), (16, .iload 2, 1), (17, .iaload, 1)]),
  (25, [(18, .iload 2, 1), (19, .if_icmp .ne 25, 3), (22, .iinc 1 1, 3), (25, .iinc 2 1, 3)]),
  (32, [(28, .goto 4, 3), (31, .iload 1, 1), (32, .ireturn, 1)])]
/-- 67: EightBlocks$Orbits.numberOfWeight([II)I -/
def tb_67 : am_T := [(5, [(0, .sipush 0, 1), (1, .istore 3, 1), (2, .sipush 0, 1), (3, .istore 4, 2), (5, .iload 4, 2)]),
  (16, [(7, .aload 0, 1), (8, .getfield 259, 3), (11, .if_icmp .ge 53, 3), (14, .iload 4, 2), (16, .aload 1, 1)]),
  (25, [(17, .arraylength, 1), (18, .if_icmp .ge 53, 3), (21, .aload 0, 1), (22, .getfield 256, 3), (25, .iload 4, 2)]),
  (34, [(27, .iaload, 1), (28, .iload 4, 2), (30, .if_icmp .ne 47, 3), (33, .aload 1, 1), (34, .iload 4, 2)]),
  (44, [(36, .iaload, 1), (37, .invokestatic 253, 3), (40, .iload 2, 1), (41, .if_icmp .ne 47, 3), (44, .iinc 3 1, 3)]),
  (54, [(47, .iinc 4 1, 3), (50, .goto 5, 3), (53, .iload 3, 1), (54, .ireturn, 1)])]
/-- 68: EightBlocks$Orbits.sizeOf(I)I -/
def tb_68 : am_T := [(6, [(0, .aload 0, 1), (1, .iload 1, 1), (2, .invokevirtual 65, 3), (5, .istore 2, 1), (6, .sipush 0, 1)]),
  (13, [(7, .istore 3, 1), (8, .sipush 0, 1), (9, .istore 4, 2), (11, .iload 4, 2), (13, .aload 0, 1)]),
  (23, [(14, .getfield 259, 3), (17, .if_icmp .ge 39, 3), (20, .aload 0, 1), (21, .iload 4, 2), (23, .invokevirtual 65, 3)]),
  (36, [(26, .iload 2, 1), (27, .if_icmp .ne 33, 3), (30, .iinc 3 1, 3), (33, .iinc 4 1, 3), (36, .goto 11, 3)]),
  (40, [(39, .iload 3, 1), (40, .ireturn, 1)])]
/-- 69: EightBlocks$Sheets.init()V -/
def tb_69 : am_T := [(5, [(0, .aload 0, 1), (1, .monitorexit, 3), (4, .aload 0, 1), (5, .sipush 4, 1)]),
  (15, [(6, .sipush 32, 2), (8, .multianewarray 4 2, 4), (12, .putfield 320, 3), (15, .aload 0, 1)]),
  (22, [(16, .sipush 4, 1), (17, .newarray .int, 2), (19, .putfield 321, 3), (22, .aload 0, 1)]),
  (29, [(23, .sipush 4, 1), (24, .newarray .int, 2), (26, .putfield 322, 3), (29, .aload 0, 1)]),
  (38, [(30, .getfield 321, 3), (33, .sipush (-4), 2), (35, .invokestatic 256, 3), (38, .return_, 1)])]
/-- 70: EightBlocks$Sheets.create(III)V -/
def tb_70 : am_T := [(5, [(0, .aload 0, 1), (1, .getfield 320, 3), (4, .iload 1, 1), (5, .aaload, 1)]),
  (11, [(6, .jsr_w 0, 1), (7, .invokestatic 255, 3), (10, .aload 0, 1), (11, .getfield 321, 3)]),
  (17, [(14, .iload 1, 1), (15, .iload 2, 1), (16, .iastore, 1), (17, .aload 0, 1)]),
  (23, [(18, .getfield 322, 3), (21, .iload 1, 1), (22, .iload 3, 1), (23, .iastore, 1)]),
  (24, [(24, .return_, 1)])]
/-- 71: EightBlocks$Sheets.remove(I)I -/
def tb_71 : am_T := [(5, [(0, .aload 0, 1), (1, .getfield 321, 3), (4, .iload 1, 1), (5, .iaload, 1)]),
  (13, [(6, .sipush (-4), 2), (8, .if_icmp .ne 14, 3), (11, .sipush (-11), 2), (13, .ireturn, 1)]),
  (19, [(14, .aload 0, 1), (15, .getfield 321, 3), (18, .iload 1, 1), (19, .sipush (-4), 2)]),
  (26, [(21, .iastore, 1), (22, .aload 0, 1), (23, .getfield 322, 3), (26, .iload 1, 1)]),
  (28, [(27, .iaload, 1), (28, .ireturn, 1)])]
/-- 72: EightBlocks$Sheets.fault(IIII)I -/
def tb_72 : am_T := [(6, [(0, .aload 0, 1), (1, .getfield 321, 3), (4, .iload 1, 1), (5, .iaload, 1), (6, .sipush (-4), 2)]),
  (15, [(8, .if_icmp .ne 14, 3), (11, .sipush (-11), 2), (13, .ireturn, 1), (14, .aload 0, 1), (15, .getfield 321, 3)]),
  (24, [(18, .iload 1, 1), (19, .iaload, 1), (20, .iload 2, 1), (21, .if_icmp .eq 27, 3), (24, .sipush (-12), 2)]),
  (30, [(26, .ireturn, 1), (27, .aload 0, 1), (28, .iload 1, 1), (29, .iload 3, 1), (30, .iload 4, 2)]),
  (42, [(32, .invokevirtual 73, 3), (35, .ifCond .eq 42, 3), (38, .sipush 0, 1), (39, .goto 44, 3), (42, .sipush (-13), 2)]),
  (44, [(44, .ireturn, 1)])]
/-- 73: EightBlocks$Sheets.isInside(III)Z -/
def tb_73 : am_T := [(5, [(0, .iload 2, 1), (1, .ifCond .lt 24, 3), (4, .iload 3, 1), (5, .ifCond .lt 24, 3)]),
  (13, [(8, .iload 2, 1), (9, .aload 0, 1), (10, .getfield 322, 3), (13, .iload 1, 1)]),
  (17, [(14, .iaload, 1), (15, .iload 3, 1), (16, .isub, 1), (17, .if_icmp .gt 24, 3)]),
  (25, [(20, .sipush 1, 1), (21, .goto 25, 3), (24, .sipush 0, 1), (25, .ireturn, 1)])]
/-- 74: EightBlocks$Sheets.put(IIJ)V -/
def tb_74 : am_T := [(10, [(0, .aload 0, 1), (1, .iload 1, 1), (2, .iload 2, 1), (3, .sipush 1, 1), (4, .invokevirtual 73, 3), (7, .ifCond .ne 11, 3), (10, .return_, 1)]),
  (45, [(11, .aload 0, 1), (12, .getfield 321, 3), (15, .iload 1, 1), (16, .iaload, 1), (17, .tableswitch 88 0 2 #[44, 59, 74], 27), (44, .aload 0, 1), (45, .getfield 320, 3)]),
  (54, [(48, .iload 1, 1), (49, .aaload, 1), (50, .iload 2, 1), (51, .lload 3, 1), (52, .l2i, 1), (53, .i2b, 1), (54, .i2l, 1)]),
  (65, [(55, .lastore, 1), (56, .goto 97, 3), (59, .aload 0, 1), (60, .getfield 320, 3), (63, .iload 1, 1), (64, .aaload, 1), (65, .iload 2, 1)]),
  (74, [(66, .lload 3, 1), (67, .l2i, 1), (68, .i2s, 1), (69, .i2l, 1), (70, .lastore, 1), (71, .goto 97, 3), (74, .aload 0, 1)]),
  (83, [(75, .getfield 320, 3), (78, .iload 1, 1), (79, .aaload, 1), (80, .iload 2, 1), (81, .lload 3, 1), (82, .l2i, 1), (83, .i2l, 1)]),
  (94, [(84, .lastore, 1), (85, .goto 97, 3), (88, .aload 0, 1), (89, .getfield 320, 3), (92, .iload 1, 1), (93, .aaload, 1), (94, .iload 2, 1)]),
  (97, [(95, .lload 3, 1), (96, .lastore, 1), (97, .return_, 1)])]
/-- 75: EightBlocks$Sheets.holdPoints(III)Z -/
def tb_75 : am_T := [(5, [(0, .iload 2, 1), (1, .istore 4, 2), (3, .iload 4, 2), (5, .iload 2, 1)]),
  (11, [(6, .iload 3, 1), (7, .iadd, 1), (8, .if_icmp .ge 31, 3), (11, .aload 0, 1)]),
  (18, [(12, .iload 1, 1), (13, .iload 4, 2), (15, .invokevirtual 76, 3), (18, .sipush (-4), 2)]),
  (25, [(20, .if_icmp .ne 25, 3), (23, .sipush 0, 1), (24, .ireturn, 1), (25, .iinc 4 1, 3)]),
  (32, [(28, .goto 3, 3), (31, .sipush 1, 1), (32, .ireturn, 1)])]
/-- 76: EightBlocks$Sheets.pointAt(II)I -/
def tb_76 : am_T := [(7, [(0, .aload 0, 1), (1, .iload 1, 1), (2, .iload 2, 1), (3, .sipush 1, 1), (4, .invokevirtual 73, 3), (7, .ifCond .eq 38, 3)]),
  (17, [(10, .aload 0, 1), (11, .getfield 320, 3), (14, .iload 1, 1), (15, .aaload, 1), (16, .iload 2, 1), (17, .laload, 1)]),
  (27, [(18, .jsr_w 0, 1), (19, .lcmp, 1), (20, .ifCond .lt 38, 3), (23, .aload 0, 1), (24, .getfield 320, 3), (27, .iload 1, 1)]),
  (35, [(28, .aaload, 1), (29, .iload 2, 1), (30, .laload, 1), (31, .jsr_w 24, 3), (34, .lcmp, 1), (35, .ifCond .lt 41, 3)]),
  (46, [(38, .sipush (-4), 2), (40, .ireturn, 1), (41, .aload 0, 1), (42, .getfield 320, 3), (45, .iload 1, 1), (46, .aaload, 1)]),
  (50, [(47, .iload 2, 1), (48, .laload, 1), (49, .l2i, 1), (50, .ireturn, 1)])]
/-- 77: EightBlocks$Sheets.transfer(IIIII)I -/
def tb_77 : am_T := [(11, [(0, .aload 0, 1), (1, .getfield 321, 3), (4, .iload 1, 1), (5, .iaload, 1), (6, .sipush (-4), 2), (8, .if_icmp .eq 22, 3), (11, .aload 0, 1)]),
  (24, [(12, .getfield 321, 3), (15, .iload 3, 1), (16, .iaload, 1), (17, .sipush (-4), 2), (19, .if_icmp .ne 25, 3), (22, .sipush (-11), 2), (24, .ireturn, 1)]),
  (35, [(25, .aload 0, 1), (26, .getfield 321, 3), (29, .iload 1, 1), (30, .iaload, 1), (31, .aload 0, 1), (32, .getfield 321, 3), (35, .iload 3, 1)]),
  (45, [(36, .iaload, 1), (37, .if_icmp .eq 43, 3), (40, .sipush (-12), 2), (42, .ireturn, 1), (43, .aload 0, 1), (44, .iload 1, 1), (45, .iload 2, 1)]),
  (58, [(46, .iload 5, 2), (48, .invokevirtual 73, 3), (51, .ifCond .eq 66, 3), (54, .aload 0, 1), (55, .iload 3, 1), (56, .iload 4, 2), (58, .iload 5, 2)]),
  (73, [(60, .invokevirtual 73, 3), (63, .ifCond .ne 69, 3), (66, .sipush (-13), 2), (68, .ireturn, 1), (69, .aload 0, 1), (70, .getfield 320, 3), (73, .iload 1, 1)]),
  (82, [(74, .aaload, 1), (75, .iload 2, 1), (76, .aload 0, 1), (77, .getfield 320, 3), (80, .iload 3, 1), (81, .aaload, 1), (82, .iload 4, 2)]),
  (91, [(84, .iload 5, 2), (86, .invokeinterface 4 0, 3), (89, .iload 5, 2), (91, .ireturn, 1)])]
/-- 78: EightBlocks$State.init()V -/
def tb_78 : am_T := [(5, [(0, .aload 0, 1), (1, .monitorexit, 3), (4, .aload 0, 1), (5, .sipush 5, 1)]),
  (15, [(6, .sipush 24, 2), (8, .multianewarray 3 2, 4), (12, .putfield 384, 3), (15, .return_, 1)])]
/-- 79: EightBlocks$State.become(LEightBlocks$State;)V -/
def tb_79 : am_T := [(4, [(0, .sipush 0, 1), (1, .istore 2, 1), (2, .iload 2, 1), (3, .sipush 5, 1), (4, .if_icmp .ge 28, 3)]),
  (13, [(7, .aload 0, 1), (8, .getfield 384, 3), (11, .iload 2, 1), (12, .aaload, 1), (13, .aload 1, 1)]),
  (22, [(14, .getfield 384, 3), (17, .iload 2, 1), (18, .aaload, 1), (19, .invokestatic 46, 3), (22, .iinc 2 1, 3)]),
  (33, [(25, .goto 2, 3), (28, .aload 0, 1), (29, .aload 1, 1), (30, .getfield 385, 3), (33, .putfield 385, 3)]),
  (44, [(36, .aload 0, 1), (37, .aload 1, 1), (38, .getfield 386, 3), (41, .putfield 386, 3), (44, .return_, 1)])]
/-- 80: EightBlocks$Tape.init([[I)V -/
def tb_80 : am_T := [(7, [(0, .aload 0, 1), (1, .monitorexit, 3), (4, .aload 0, 1), (5, .sipush 100, 2), (7, .newarray .int, 2)]),
  (17, [(9, .putfield 448, 3), (12, .aload 0, 1), (13, .sipush 7, 2), (15, .sipush 24, 2), (17, .multianewarray 3 2, 4)]),
  (29, [(21, .putfield 450, 3), (24, .aload 0, 1), (25, .sipush 7, 2), (27, .sipush 24, 2), (29, .multianewarray 3 2, 4)]),
  (41, [(33, .putfield 451, 3), (36, .aload 0, 1), (37, .sipush 24, 2), (39, .newarray .int, 2), (41, .putfield 452, 3)]),
  (50, [(44, .aload 0, 1), (45, .aload 1, 1), (46, .putfield 449, 3), (49, .aload 0, 1), (50, .aload 1, 1)]),
  (54, [(51, .putfield 453, 3), (54, .return_, 1)])]
/-- 81: EightBlocks$Tape.append(I)I -/
def tb_81 : am_T := [(9, [(0, .aload 0, 1), (1, .getfield 454, 3), (4, .sipush 100, 2), (6, .if_icmp .lt 12, 3), (9, .sipush (-3), 2)]),
  (17, [(11, .ireturn, 1), (12, .aload 0, 1), (13, .getfield 448, 3), (16, .aload 0, 1), (17, .getfield 454, 3)]),
  (24, [(20, .iload 1, 1), (21, .iastore, 1), (22, .aload 0, 1), (23, .dup, 1), (24, .getfield 454, 3)]),
  (33, [(27, .sipush 1, 1), (28, .iadd, 1), (29, .putfield 454, 3), (32, .aload 0, 1), (33, .getfield 454, 3)]),
  (36, [(36, .ireturn, 1)])]
/-- 82: EightBlocks$Tape.clear()V -/
def tb_82 : am_T := [(5, [(0, .aload 0, 1), (1, .sipush 0, 1), (2, .putfield 454, 3), (5, .return_, 1)])]
/-- 83: EightBlocks$Tape.faultPosition()I -/
def tb_83 : am_T := [(4, [(0, .aload 0, 1), (1, .getfield 455, 3), (4, .ireturn, 1)])]
/-- 84: EightBlocks$Tape.value()[I -/
def tb_84 : am_T := [(5, [(0, .aload 0, 1), (1, .getfield 450, 3), (4, .sipush 0, 1), (5, .aaload, 1)]),
  (6, [(6, .areturn, 1)])]
/-- 85: EightBlocks$Tape.evaluate([[I)Z -/
def tb_85 : am_T := [(5, [(0, .aload 0, 1), (1, .aload 1, 1), (2, .putfield 453, 3), (5, .aload 0, 1)]),
  (11, [(6, .sipush 0, 1), (7, .putfield 455, 3), (10, .aload 0, 1), (11, .sipush 0, 1)]),
  (19, [(12, .invokevirtual 86, 3), (15, .ifCond .eq 29, 3), (18, .aload 0, 1), (19, .invokevirtual 100, 3)]),
  (29, [(22, .ifCond .eq 29, 3), (25, .sipush 1, 1), (26, .goto 30, 3), (29, .sipush 0, 1)]),
  (30, [(30, .ireturn, 1)])]
/-- 86: EightBlocks$Tape.isProduct(I)Z -/
def tb_86 : am_T := [(9, [(0, .aload 0, 1), (1, .getfield 450, 3), (4, .iload 1, 1), (5, .aaload, 1), (6, .invokestatic 45, 3), (9, .sipush 0, 1)]),
  (18, [(10, .istore 2, 1), (11, .iload 2, 1), (12, .sipush 100, 2), (14, .if_icmp .ge 59, 3), (17, .aload 0, 1), (18, .iload 1, 1)]),
  (28, [(19, .invokevirtual 87, 3), (22, .ifCond .ne 27, 3), (25, .sipush 0, 1), (26, .ireturn, 1), (27, .aload 0, 1), (28, .getfield 450, 3)]),
  (38, [(31, .iload 1, 1), (32, .aaload, 1), (33, .aload 0, 1), (34, .getfield 451, 3), (37, .iload 1, 1), (38, .aaload, 1)]),
  (51, [(39, .invokestatic 47, 3), (42, .aload 0, 1), (43, .sipush 42, 2), (45, .invokevirtual 98, 3), (48, .ifCond .ne 53, 3), (51, .sipush 1, 1)]),
  (60, [(52, .ireturn, 1), (53, .iinc 2 1, 3), (56, .goto 11, 3), (59, .sipush 0, 1), (60, .ireturn, 1)])]
/-- 87: EightBlocks$Tape.isFactor(I)Z -/
def tb_87 : am_T := [(15, [(0, .aload 0, 1), (1, .sipush 91, 2), (3, .invokevirtual 99, 3), (6, .ifCond .eq 32, 3), (9, .iload 1, 1), (10, .sipush 6, 2), (12, .if_icmp .ge 27, 3), (15, .aload 0, 1)]),
  (29, [(16, .iload 1, 1), (17, .invokevirtual 88, 3), (20, .ifCond .eq 27, 3), (23, .sipush 1, 1), (24, .goto 28, 3), (27, .sipush 0, 1), (28, .istore 2, 1), (29, .goto 65, 3)]),
  (46, [(32, .aload 0, 1), (33, .sipush 40, 2), (35, .invokevirtual 98, 3), (38, .ifCond .eq 54, 3), (41, .aload 0, 1), (42, .aload 0, 1), (43, .getfield 451, 3), (46, .iload 1, 1)]),
  (60, [(47, .aaload, 1), (48, .invokevirtual 89, 3), (51, .goto 64, 3), (54, .aload 0, 1), (55, .aload 0, 1), (56, .getfield 451, 3), (59, .iload 1, 1), (60, .aaload, 1)]),
  (75, [(61, .invokevirtual 90, 3), (64, .istore 2, 1), (65, .iload 2, 1), (66, .ifCond .eq 78, 3), (69, .aload 0, 1), (70, .sipush 94, 2), (72, .invokevirtual 98, 3), (75, .ifCond .ne 80, 3)]),
  (88, [(78, .iload 2, 1), (79, .ireturn, 1), (80, .aload 0, 1), (81, .sipush 45, 2), (83, .invokevirtual 98, 3), (86, .istore 3, 1), (87, .aload 0, 1), (88, .invokevirtual 95, 3)]),
  (102, [(91, .istore 4, 2), (93, .iload 4, 2), (95, .ifCond .ge 100, 3), (98, .sipush 0, 1), (99, .ireturn, 1), (100, .aload 0, 1), (101, .aload 0, 1), (102, .getfield 451, 3)]),
  (114, [(105, .iload 1, 1), (106, .aaload, 1), (107, .iload 4, 2), (109, .iload 3, 1), (110, .invokevirtual 97, 3), (113, .sipush 1, 1), (114, .ireturn, 1)])]
/-- 88: EightBlocks$Tape.isBracket(I)Z -/
def tb_88 : am_T := [(9, [(0, .aload 0, 1), (1, .sipush 91, 2), (3, .invokevirtual 98, 3), (6, .ifCond .eq 28, 3), (9, .aload 0, 1)]),
  (16, [(10, .iload 1, 1), (11, .sipush 1, 1), (12, .iadd, 1), (13, .invokevirtual 86, 3), (16, .ifCond .eq 28, 3)]),
  (28, [(19, .aload 0, 1), (20, .sipush 93, 2), (22, .invokevirtual 98, 3), (25, .ifCond .ne 30, 3), (28, .sipush 0, 1)]),
  (35, [(29, .ireturn, 1), (30, .aload 0, 1), (31, .getfield 451, 3), (34, .iload 1, 1), (35, .aaload, 1)]),
  (42, [(36, .aload 0, 1), (37, .getfield 450, 3), (40, .iload 1, 1), (41, .sipush 1, 1), (42, .iadd, 1)]),
  (48, [(43, .aaload, 1), (44, .invokestatic 46, 3), (47, .sipush 1, 1), (48, .ireturn, 1)])]
/-- 89: EightBlocks$Tape.isCycle([I)Z -/
def tb_89 : am_T := [(11, [(0, .aload 1, 1), (1, .invokestatic 45, 3), (4, .aload 0, 1), (5, .sipush 0, 1), (6, .invokevirtual 94, 3), (9, .istore 2, 1), (10, .iload 2, 1), (11, .istore 3, 1)]),
  (25, [(12, .sipush 0, 1), (13, .istore 4, 2), (15, .sipush 0, 1), (16, .istore 5, 2), (18, .iload 5, 2), (20, .sipush 24, 2), (22, .if_icmp .ge 97, 3), (25, .iload 3, 1)]),
  (43, [(26, .sipush 24, 2), (28, .invokestatic 134, 3), (31, .ifCond .ne 97, 3), (34, .aload 0, 1), (35, .sipush 41, 2), (37, .invokevirtual 98, 3), (40, .ifCond .eq 49, 3), (43, .aload 1, 1)]),
  (52, [(44, .iload 3, 1), (45, .iload 2, 1), (46, .iastore, 1), (47, .sipush 1, 1), (48, .ireturn, 1), (49, .aload 0, 1), (50, .sipush 44, 2), (52, .invokevirtual 98, 3)]),
  (65, [(55, .ifCond .ne 60, 3), (58, .sipush 0, 1), (59, .ireturn, 1), (60, .iload 4, 2), (62, .sipush 1, 1), (63, .iload 3, 1), (64, .ishl, 1), (65, .ior, 1)]),
  (80, [(66, .istore 4, 2), (68, .aload 0, 1), (69, .iload 4, 2), (71, .invokevirtual 94, 3), (74, .istore 6, 2), (76, .iload 6, 2), (78, .sipush (-4), 2), (80, .if_icmp .eq 88, 3)]),
  (94, [(83, .aload 1, 1), (84, .iload 3, 1), (85, .iload 6, 2), (87, .iastore, 1), (88, .iload 6, 2), (90, .istore 3, 1), (91, .iinc 5 1, 3), (94, .goto 18, 3)]),
  (98, [(97, .sipush 0, 1), (98, .ireturn, 1)])]
/-- 90: EightBlocks$Tape.isName([I)Z -/
def tb_90 : am_T := [(9, [(0, .aload 0, 1), (1, .sipush 97, 2), (3, .sipush 122, 2), (5, .invokevirtual 101, 3), (8, .istore 2, 1), (9, .aload 0, 1)]),
  (18, [(10, .iload 2, 1), (11, .invokevirtual 91, 3), (14, .istore 3, 1), (15, .iload 3, 1), (16, .sipush (-4), 2), (18, .if_icmp .ne 23, 3)]),
  (26, [(21, .sipush 0, 1), (22, .ireturn, 1), (23, .aload 1, 1), (24, .iload 3, 1), (25, .sipush 5, 1), (26, .if_icmp .ge 38, 3)]),
  (38, [(29, .aload 0, 1), (30, .getfield 453, 3), (33, .iload 3, 1), (34, .aaload, 1), (35, .goto 46, 3), (38, .aload 0, 1)]),
  (46, [(39, .getfield 449, 3), (42, .iload 3, 1), (43, .sipush 5, 1), (44, .isub, 1), (45, .aaload, 1), (46, .invokestatic 46, 3)]),
  (55, [(49, .aload 0, 1), (50, .iload 2, 1), (51, .putfield 455, 3), (54, .sipush 1, 1), (55, .ireturn, 1)])]
/-- 91: EightBlocks$Tape.nameUpTo(I)I -/
def tb_91 : am_T := [(3, [(0, .sipush 0, 1), (1, .istore 2, 1), (2, .iload 2, 1), (3, .sipush 10, 2)]),
  (10, [(5, .if_icmp .ge 28, 3), (8, .aload 0, 1), (9, .iload 2, 1), (10, .invokestatic 92, 3)]),
  (20, [(13, .iload 1, 1), (14, .invokevirtual 93, 3), (17, .ifCond .eq 22, 3), (20, .iload 2, 1)]),
  (28, [(21, .ireturn, 1), (22, .iinc 2 1, 3), (25, .goto 2, 3), (28, .sipush (-4), 2)]),
  (30, [(30, .ireturn, 1)])]
/-- 92: EightBlocks$Tape.nameOf(I)Ljava/lang/String; -/
def tb_92 : am_T := [(55, [(0, .iload 0, 1), (1, .tableswitch 79 0 8 #[52, 55, 58, 61, 64, 67, 70, 73, 76], 51), (52, .ldc 0, 2), (54, .areturn, 1), (55, .ldc 1, 2)]),
  (63, [(57, .areturn, 1), (58, .ldc 2, 2), (60, .areturn, 1), (61, .ldc 3, 2), (63, .areturn, 1)]),
  (70, [(64, .ldc 4, 2), (66, .areturn, 1), (67, .ldc 5, 2), (69, .areturn, 1), (70, .ldc 6, 2)]),
  (78, [(72, .areturn, 1), (73, .ldc 7, 2), (75, .areturn, 1), (76, .ldc 8, 2), (78, .areturn, 1)]),
  (81, [(79, .ldc 9, 2), (81, .areturn, 1)])]
/-- 93: EightBlocks$Tape.isWritten(Ljava/lang/String;I)Z -/
def tb_93 : am_T := [(7, [(0, .iload 2, 1), (1, .aload 0, 1), (2, .getfield 455, 3), (5, .isub, 1), (6, .aload 1, 1), (7, .invokeinterface 2 0, 3)]),
  (17, [(10, .if_icmp .eq 15, 3), (13, .sipush 0, 1), (14, .ireturn, 1), (15, .sipush 0, 1), (16, .istore 3, 1), (17, .iload 3, 1)]),
  (29, [(18, .aload 1, 1), (19, .invokeinterface 2 0, 3), (22, .if_icmp .ge 65, 3), (25, .aload 0, 1), (26, .getfield 455, 3), (29, .iload 3, 1)]),
  (39, [(30, .iadd, 1), (31, .aload 0, 1), (32, .getfield 454, 3), (35, .if_icmp .ge 65, 3), (38, .aload 0, 1), (39, .getfield 448, 3)]),
  (49, [(42, .aload 0, 1), (43, .getfield 455, 3), (46, .iload 3, 1), (47, .iadd, 1), (48, .iaload, 1), (49, .aload 1, 1)]),
  (59, [(50, .iload 3, 1), (51, .invokeinterface 3 0, 3), (54, .if_icmp .eq 59, 3), (57, .sipush 0, 1), (58, .ireturn, 1), (59, .iinc 3 1, 3)]),
  (66, [(62, .goto 17, 3), (65, .sipush 1, 1), (66, .ireturn, 1)])]
/-- 94: EightBlocks$Tape.acceptPoint(I)I -/
def tb_94 : am_T := [(6, [(0, .aload 0, 1), (1, .aload 0, 1), (2, .sipush 48, 2), (4, .sipush 57, 2), (6, .invokevirtual 101, 3)]),
  (16, [(9, .invokevirtual 96, 3), (12, .istore 2, 1), (13, .iload 2, 1), (14, .sipush 24, 2), (16, .invokestatic 134, 3)]),
  (25, [(19, .ifCond .ne 31, 3), (22, .iload 1, 1), (23, .iload 2, 1), (24, .ishr, 1), (25, .sipush 1, 1)]),
  (33, [(26, .iand, 1), (27, .sipush 1, 1), (28, .if_icmp .ne 34, 3), (31, .sipush (-4), 2), (33, .ireturn, 1)]),
  (40, [(34, .aload 0, 1), (35, .aload 0, 1), (36, .sipush 48, 2), (38, .sipush 57, 2), (40, .invokevirtual 101, 3)]),
  (47, [(43, .putfield 455, 3), (46, .iload 2, 1), (47, .ireturn, 1)])]
/-- 95: EightBlocks$Tape.acceptPower()I -/
def tb_95 : am_T := [(4, [(0, .aload 0, 1), (1, .aload 0, 1), (2, .sipush 48, 2), (4, .sipush 57, 2)]),
  (13, [(6, .invokevirtual 101, 3), (9, .invokevirtual 96, 3), (12, .istore 1, 1), (13, .iload 1, 1)]),
  (20, [(14, .sipush (-4), 2), (16, .if_icmp .eq 31, 3), (19, .aload 0, 1), (20, .aload 0, 1)]),
  (28, [(21, .sipush 48, 2), (23, .sipush 57, 2), (25, .invokevirtual 101, 3), (28, .putfield 455, 3)]),
  (32, [(31, .iload 1, 1), (32, .ireturn, 1)])]
/-- 96: EightBlocks$Tape.numberUpTo(I)I -/
def tb_96 : am_T := [(9, [(0, .iload 1, 1), (1, .aload 0, 1), (2, .getfield 455, 3), (5, .if_icmp .eq 18, 3), (8, .iload 1, 1), (9, .aload 0, 1)]),
  (20, [(10, .getfield 455, 3), (13, .sipush 2, 1), (14, .iadd, 1), (15, .if_icmp .le 21, 3), (18, .sipush (-4), 2), (20, .ireturn, 1)]),
  (28, [(21, .sipush 0, 1), (22, .istore 2, 1), (23, .aload 0, 1), (24, .getfield 455, 3), (27, .istore 3, 1), (28, .iload 3, 1)]),
  (38, [(29, .iload 1, 1), (30, .if_icmp .ge 62, 3), (33, .iload 3, 1), (34, .aload 0, 1), (35, .getfield 454, 3), (38, .if_icmp .ge 62, 3)]),
  (49, [(41, .sipush 10, 2), (43, .iload 2, 1), (44, .imul, 1), (45, .aload 0, 1), (46, .getfield 448, 3), (49, .iload 3, 1)]),
  (56, [(50, .iaload, 1), (51, .iadd, 1), (52, .sipush 48, 2), (54, .isub, 1), (55, .istore 2, 1), (56, .iinc 3 1, 3)]),
  (63, [(59, .goto 28, 3), (62, .iload 2, 1), (63, .ireturn, 1)])]
/-- 97: EightBlocks$Tape.raise([IIZ)V -/
def tb_97 : am_T := [(6, [(0, .iload 3, 1), (1, .ifCond .eq 15, 3), (4, .aload 1, 1), (5, .aload 0, 1), (6, .getfield 452, 3)]),
  (19, [(9, .invokestatic 49, 3), (12, .goto 23, 3), (15, .aload 0, 1), (16, .getfield 452, 3), (19, .aload 1, 1)]),
  (28, [(20, .invokestatic 46, 3), (23, .aload 1, 1), (24, .invokestatic 45, 3), (27, .sipush 0, 1), (28, .istore 4, 2)]),
  (37, [(30, .iload 4, 2), (32, .iload 2, 1), (33, .if_icmp .ge 50, 3), (36, .aload 1, 1), (37, .aload 0, 1)]),
  (50, [(38, .getfield 452, 3), (41, .invokestatic 47, 3), (44, .iinc 4 1, 3), (47, .goto 30, 3), (50, .return_, 1)])]
/-- 98: EightBlocks$Tape.accept(I)Z -/
def tb_98 : am_T := [(5, [(0, .aload 0, 1), (1, .iload 1, 1), (2, .invokevirtual 99, 3), (5, .ifCond .ne 10, 3)]),
  (11, [(8, .sipush 0, 1), (9, .ireturn, 1), (10, .aload 0, 1), (11, .dup, 1)]),
  (17, [(12, .getfield 455, 3), (15, .sipush 1, 1), (16, .iadd, 1), (17, .putfield 455, 3)]),
  (21, [(20, .sipush 1, 1), (21, .ireturn, 1)])]
/-- 99: EightBlocks$Tape.isNext(I)Z -/
def tb_99 : am_T := [(7, [(0, .aload 0, 1), (1, .invokevirtual 100, 3), (4, .ifCond .ne 24, 3), (7, .aload 0, 1)]),
  (15, [(8, .getfield 448, 3), (11, .aload 0, 1), (12, .getfield 455, 3), (15, .iaload, 1)]),
  (21, [(16, .iload 1, 1), (17, .if_icmp .ne 24, 3), (20, .sipush 1, 1), (21, .goto 25, 3)]),
  (25, [(24, .sipush 0, 1), (25, .ireturn, 1)])]
/-- 100: EightBlocks$Tape.isAtEnd()Z -/
def tb_100 : am_T := [(8, [(0, .aload 0, 1), (1, .getfield 455, 3), (4, .aload 0, 1), (5, .getfield 454, 3), (8, .if_icmp .ge 38, 3)]),
  (19, [(11, .aload 0, 1), (12, .getfield 448, 3), (15, .aload 0, 1), (16, .getfield 455, 3), (19, .iaload, 1)]),
  (27, [(20, .sipush 32, 2), (22, .if_icmp .ne 38, 3), (25, .aload 0, 1), (26, .dup, 1), (27, .getfield 455, 3)]),
  (38, [(30, .sipush 1, 1), (31, .iadd, 1), (32, .putfield 455, 3), (35, .goto 0, 3), (38, .aload 0, 1)]),
  (49, [(39, .getfield 455, 3), (42, .aload 0, 1), (43, .getfield 454, 3), (46, .if_icmp .lt 53, 3), (49, .sipush 1, 1)]),
  (54, [(50, .goto 54, 3), (53, .sipush 0, 1), (54, .ireturn, 1)])]
/-- 101: EightBlocks$Tape.endOfRun(II)I -/
def tb_101 : am_T := [(8, [(0, .aload 0, 1), (1, .invokevirtual 100, 3), (4, .ifCond .eq 14, 3), (7, .aload 0, 1), (8, .getfield 454, 3)]),
  (19, [(11, .goto 18, 3), (14, .aload 0, 1), (15, .getfield 455, 3), (18, .istore 3, 1), (19, .iload 3, 1)]),
  (28, [(20, .aload 0, 1), (21, .getfield 454, 3), (24, .if_icmp .ge 53, 3), (27, .aload 0, 1), (28, .getfield 448, 3)]),
  (37, [(31, .iload 3, 1), (32, .iaload, 1), (33, .iload 1, 1), (34, .if_icmp .lt 53, 3), (37, .aload 0, 1)]),
  (44, [(38, .getfield 448, 3), (41, .iload 3, 1), (42, .iaload, 1), (43, .iload 2, 1), (44, .if_icmp .gt 53, 3)]),
  (54, [(47, .iinc 3 1, 3), (50, .goto 19, 3), (53, .iload 3, 1), (54, .ireturn, 1)])]
/-- 102: EightBlocks.init()V -/
def tb_102 : am_T := [(16, [(0, .aload 0, 1), (1, .monitorexit, 3), (4, .sipush 5, 1), (5, .sipush 24, 2), (7, .multianewarray 3 2, 4), (11, .astore 1, 1), (12, .aload 1, 1), (13, .invokestatic 43, 3), (16, .aload 0, 1)]),
  (35, [(17, .new 2, 3), (20, .dup, 1), (21, .invokespecial 17, 3), (24, .putfield 512, 3), (27, .aload 0, 1), (28, .new 0, 3), (31, .dup, 1), (32, .invokespecial 0, 3), (35, .putfield 513, 3)]),
  (54, [(38, .aload 0, 1), (39, .new 4, 3), (42, .dup, 1), (43, .invokespecial 59, 3), (46, .putfield 514, 3), (49, .aload 0, 1), (50, .new 3, 3), (53, .dup, 1), (54, .invokespecial 38, 3)]),
  (75, [(57, .putfield 515, 3), (60, .aload 0, 1), (61, .new 3, 3), (64, .dup, 1), (65, .invokespecial 38, 3), (68, .putfield 516, 3), (71, .aload 0, 1), (72, .new 7, 3), (75, .dup, 1)]),
  (94, [(76, .aload 1, 1), (77, .invokespecial 80, 3), (80, .putfield 517, 3), (83, .aload 0, 1), (84, .new 5, 3), (87, .dup, 1), (88, .invokespecial 69, 3), (91, .putfield 518, 3), (94, .aload 0, 1)]),
  (113, [(95, .new 1, 3), (98, .dup, 1), (99, .invokespecial 12, 3), (102, .putfield 519, 3), (105, .aload 0, 1), (106, .sipush 24, 2), (108, .newarray .int, 2), (110, .putfield 520, 3), (113, .aload 0, 1)]),
  (128, [(114, .sipush 24, 2), (116, .newarray .int, 2), (118, .putfield 521, 3), (121, .sipush 0, 1), (122, .istore 2, 1), (123, .iload 2, 1), (124, .sipush 5, 1), (125, .if_icmp .ge 152, 3), (128, .aload 0, 1)]),
  (143, [(129, .getfield 515, 3), (132, .getfield 192, 3), (135, .getfield 384, 3), (138, .iload 2, 1), (139, .aaload, 1), (140, .aload 1, 1), (141, .iload 2, 1), (142, .aaload, 1), (143, .invokestatic 46, 3)]),
  (164, [(146, .iinc 2 1, 3), (149, .goto 123, 3), (152, .aload 0, 1), (153, .getfield 515, 3), (156, .getfield 192, 3), (159, .aload 0, 1), (160, .getfield 512, 3), (163, .sipush 1, 1), (164, .invokevirtual 23, 3)]),
  (181, [(167, .putfield 385, 3), (170, .aload 0, 1), (171, .getfield 515, 3), (174, .getfield 192, 3), (177, .sipush 1, 1), (178, .putfield 386, 3), (181, .return_, 1)])]
/-- 103: EightBlocks.word(II)I -/
def tb_103 : am_T := [(13, [(0, .iload 1, 1), (1, .invokestatic 135, 3), (4, .ifCond .ne 16, 3), (7, .iload 2, 1), (8, .sipush 7, 2), (10, .invokestatic 134, 3), (13, .ifCond .eq 18, 3)]),
  (60, [(16, .sipush (-1), 1), (17, .ireturn, 1), (18, .iload 2, 1), (19, .tableswitch 132 0 5 #[56, 61, 86, 95, 114, 123], 37), (56, .iload 1, 1), (57, .invokestatic 253, 3), (60, .ireturn, 1)]),
  (73, [(61, .aload 0, 1), (62, .getfield 512, 3), (65, .iload 1, 1), (66, .invokevirtual 24, 3), (69, .ifCond .eq 83, 3), (72, .aload 0, 1), (73, .getfield 512, 3)]),
  (87, [(76, .iload 1, 1), (77, .invokevirtual 25, 3), (80, .goto 85, 3), (83, .sipush (-4), 2), (85, .ireturn, 1), (86, .aload 0, 1), (87, .getfield 512, 3)]),
  (100, [(90, .iload 1, 1), (91, .invokevirtual 26, 3), (94, .ireturn, 1), (95, .aload 0, 1), (96, .getfield 512, 3), (99, .iload 1, 1), (100, .invokevirtual 26, 3)]),
  (114, [(103, .sipush 4, 1), (104, .if_icmp .ne 112, 3), (107, .sipush 6, 2), (109, .goto 113, 3), (112, .sipush 1, 1), (113, .ireturn, 1), (114, .aload 0, 1)]),
  (127, [(115, .getfield 512, 3), (118, .iload 1, 1), (119, .invokevirtual 27, 3), (122, .ireturn, 1), (123, .aload 0, 1), (124, .getfield 512, 3), (127, .iload 1, 1)]),
  (140, [(128, .invokevirtual 28, 3), (131, .ireturn, 1), (132, .aload 0, 1), (133, .getfield 512, 3), (136, .iload 1, 1), (137, .invokevirtual 29, 3), (140, .ireturn, 1)])]
/-- 104: EightBlocks.block(II)I -/
def tb_104 : am_T := [(11, [(0, .iload 1, 1), (1, .ifCond .ne 23, 3), (4, .iload 2, 1), (5, .sipush 4096, 3), (8, .invokestatic 134, 3), (11, .ifCond .ne 23, 3)]),
  (23, [(14, .aload 0, 1), (15, .getfield 512, 3), (18, .iload 2, 1), (19, .invokevirtual 23, 3), (22, .ireturn, 1), (23, .iload 1, 1)]),
  (35, [(24, .sipush 1, 1), (25, .if_icmp .ne 48, 3), (28, .iload 2, 1), (29, .sipush 759, 3), (32, .invokestatic 134, 3), (35, .ifCond .ne 48, 3)]),
  (47, [(38, .aload 0, 1), (39, .getfield 512, 3), (42, .getfield 129, 3), (45, .iload 2, 1), (46, .iaload, 1), (47, .ireturn, 1)]),
  (57, [(48, .iload 1, 1), (49, .sipush 2, 1), (50, .if_icmp .ne 73, 3), (53, .iload 2, 1), (54, .sipush 2576, 3), (57, .invokestatic 134, 3)]),
  (71, [(60, .ifCond .ne 73, 3), (63, .aload 0, 1), (64, .getfield 512, 3), (67, .getfield 130, 3), (70, .iload 2, 1), (71, .iaload, 1)]),
  (74, [(72, .ireturn, 1), (73, .sipush (-1), 1), (74, .ireturn, 1)])]
/-- 105: EightBlocks.complete(I)I -/
def tb_105 : am_T := [(7, [(0, .iload 1, 1), (1, .invokestatic 135, 3), (4, .ifCond .eq 9, 3), (7, .sipush (-1), 1)]),
  (13, [(8, .ireturn, 1), (9, .iload 1, 1), (10, .invokestatic 253, 3), (13, .sipush 5, 1)]),
  (21, [(14, .if_icmp .ne 28, 3), (17, .aload 0, 1), (18, .getfield 512, 3), (21, .iload 1, 1)]),
  (30, [(22, .invokevirtual 33, 3), (25, .goto 30, 3), (28, .sipush (-2), 2), (30, .ireturn, 1)])]
/-- 106: EightBlocks.sextet(II)I -/
def tb_106 : am_T := [(8, [(0, .iload 1, 1), (1, .invokestatic 135, 3), (4, .ifCond .ne 16, 3), (7, .iload 2, 1), (8, .sipush 6, 2)]),
  (18, [(10, .invokestatic 134, 3), (13, .ifCond .eq 18, 3), (16, .sipush (-1), 1), (17, .ireturn, 1), (18, .iload 1, 1)]),
  (27, [(19, .invokestatic 253, 3), (22, .sipush 4, 1), (23, .if_icmp .ne 38, 3), (26, .aload 0, 1), (27, .getfield 512, 3)]),
  (38, [(30, .iload 1, 1), (31, .iload 2, 1), (32, .invokevirtual 35, 3), (35, .goto 40, 3), (38, .sipush (-2), 2)]),
  (40, [(40, .ireturn, 1)])]
/-- 107: EightBlocks.both(II)I -/
def tb_107 : am_T := [(8, [(0, .iload 1, 1), (1, .invokestatic 135, 3), (4, .ifCond .ne 14, 3), (7, .iload 2, 1), (8, .invokestatic 135, 3)]),
  (17, [(11, .ifCond .eq 16, 3), (14, .sipush (-1), 1), (15, .ireturn, 1), (16, .iload 1, 1), (17, .invokestatic 253, 3)]),
  (28, [(20, .sipush 4, 1), (21, .if_icmp .ne 32, 3), (24, .iload 2, 1), (25, .invokestatic 253, 3), (28, .sipush 4, 1)]),
  (36, [(29, .if_icmp .eq 35, 3), (32, .sipush (-2), 2), (34, .ireturn, 1), (35, .aload 0, 1), (36, .getfield 512, 3)]),
  (44, [(39, .iload 1, 1), (40, .iload 2, 1), (41, .invokevirtual 37, 3), (44, .ireturn, 1)])]
/-- 108: EightBlocks.met(II)I -/
def tb_108 : am_T := [(7, [(0, .iload 1, 1), (1, .invokestatic 135, 3), (4, .ifCond .ne 16, 3), (7, .iload 2, 1)]),
  (16, [(8, .sipush 9, 2), (10, .invokestatic 134, 3), (13, .ifCond .eq 18, 3), (16, .sipush (-1), 1)]),
  (22, [(17, .ireturn, 1), (18, .aload 0, 1), (19, .getfield 512, 3), (22, .iload 1, 1)]),
  (27, [(23, .iload 2, 1), (24, .invokevirtual 30, 3), (27, .ireturn, 1)])]
/-- 109: EightBlocks.move(II)I -/
def tb_109 : am_T := [(5, [(0, .iload 1, 1), (1, .sipush 5, 1), (2, .invokestatic 134, 3), (5, .ifCond .ne 17, 3)]),
  (14, [(8, .iload 2, 1), (9, .sipush 24, 2), (11, .invokestatic 134, 3), (14, .ifCond .eq 19, 3)]),
  (20, [(17, .sipush (-1), 1), (18, .ireturn, 1), (19, .aload 0, 1), (20, .getfield 515, 3)]),
  (30, [(23, .getfield 192, 3), (26, .getfield 384, 3), (29, .iload 1, 1), (30, .aaload, 1)]),
  (33, [(31, .iload 2, 1), (32, .iaload, 1), (33, .ireturn, 1)])]
/-- 110: EightBlocks.told(II)I -/
def tb_110 : am_T := [(14, [(0, .iload 1, 1), (1, .sipush 5, 1), (2, .invokestatic 134, 3), (5, .ifCond .ne 17, 3), (8, .iload 2, 1), (9, .sipush 8, 2), (11, .invokestatic 134, 3), (14, .ifCond .eq 19, 3)]),
  (30, [(17, .sipush (-1), 1), (18, .ireturn, 1), (19, .aload 0, 1), (20, .getfield 515, 3), (23, .getfield 192, 3), (26, .getfield 384, 3), (29, .iload 1, 1), (30, .aaload, 1)]),
  (84, [(31, .astore 3, 1), (32, .iload 2, 1), (33, .tableswitch 133 0 6 #[76, 93, 98, 103, 108, 118, 127], 43), (76, .aload 0, 1), (77, .getfield 512, 3), (80, .aload 3, 1), (81, .invokevirtual 32, 3), (84, .ifCond .eq 91, 3)]),
  (98, [(87, .sipush 1, 1), (88, .goto 92, 3), (91, .sipush 0, 1), (92, .ireturn, 1), (93, .aload 3, 1), (94, .invokestatic 53, 3), (97, .ireturn, 1), (98, .aload 3, 1)]),
  (111, [(99, .invokestatic 56, 3), (102, .ireturn, 1), (103, .aload 3, 1), (104, .invokestatic 57, 3), (107, .ireturn, 1), (108, .sipush 24, 2), (110, .aload 3, 1), (111, .invokestatic 56, 3)]),
  (123, [(114, .isub, 1), (115, .sipush 2, 1), (116, .irem, 1), (117, .ireturn, 1), (118, .aload 0, 1), (119, .getfield 512, 3), (122, .aload 3, 1), (123, .invokevirtual 31, 3)]),
  (137, [(126, .ireturn, 1), (127, .aload 0, 1), (128, .aload 3, 1), (129, .invokevirtual 137, 3), (132, .ireturn, 1), (133, .aload 0, 1), (134, .getfield 519, 3), (137, .aload 3, 1)]),
  (141, [(138, .invokevirtual 13, 3), (141, .ireturn, 1)])]
/-- 111: EightBlocks.letter(II)I -/
def tb_111 : am_T := [(8, [(0, .iload 1, 1), (1, .sipush 5, 1), (2, .invokestatic 134, 3), (5, .ifCond .ne 12, 3), (8, .iload 2, 1)]),
  (15, [(9, .ifCond .ge 14, 3), (12, .sipush (-1), 1), (13, .ireturn, 1), (14, .aload 0, 1), (15, .getfield 519, 3)]),
  (28, [(18, .aload 0, 1), (19, .getfield 515, 3), (22, .getfield 192, 3), (25, .getfield 384, 3), (28, .iload 1, 1)]),
  (35, [(29, .aaload, 1), (30, .invokevirtual 13, 3), (33, .pop, 1), (34, .aload 0, 1), (35, .getfield 519, 3)]),
  (42, [(38, .iload 2, 1), (39, .invokevirtual 16, 3), (42, .ireturn, 1)])]
/-- 112: EightBlocks.sent(II)I -/
def tb_112 : am_T := [(5, [(0, .iload 1, 1), (1, .sipush 5, 1), (2, .invokestatic 134, 3), (5, .ifCond .ne 15, 3)]),
  (15, [(8, .iload 2, 1), (9, .invokestatic 135, 3), (12, .ifCond .eq 17, 3), (15, .sipush (-1), 1)]),
  (21, [(16, .ireturn, 1), (17, .aload 0, 1), (18, .getfield 515, 3), (21, .getfield 192, 3)]),
  (29, [(24, .getfield 384, 3), (27, .iload 1, 1), (28, .aaload, 1), (29, .iload 2, 1)]),
  (33, [(30, .invokestatic 51, 3), (33, .ireturn, 1)])]
/-- 113: EightBlocks.type(I)I -/
def tb_113 : am_T := [(6, [(0, .iload 1, 1), (1, .sipush 32, 2), (3, .if_icmp .lt 12, 3), (6, .iload 1, 1)]),
  (13, [(7, .sipush 126, 2), (9, .if_icmp .le 14, 3), (12, .sipush (-1), 1), (13, .ireturn, 1)]),
  (19, [(14, .aload 0, 1), (15, .getfield 517, 3), (18, .iload 1, 1), (19, .invokevirtual 81, 3)]),
  (22, [(22, .ireturn, 1)])]
/-- 114: EightBlocks.read(I)I -/
def tb_114 : am_T := [(10, [(0, .iload 1, 1), (1, .sipush 4, 1), (2, .invokestatic 134, 3), (5, .ifCond .eq 10, 3), (8, .sipush (-1), 1), (9, .ireturn, 1), (10, .aload 0, 1)]),
  (27, [(11, .getfield 517, 3), (14, .aload 0, 1), (15, .getfield 515, 3), (18, .getfield 192, 3), (21, .getfield 384, 3), (24, .invokevirtual 85, 3), (27, .istore 2, 1)]),
  (41, [(28, .aload 0, 1), (29, .getfield 517, 3), (32, .invokevirtual 82, 3), (35, .iload 2, 1), (36, .ifCond .ne 50, 3), (39, .sipush (-20), 2), (41, .aload 0, 1)]),
  (54, [(42, .getfield 517, 3), (45, .invokevirtual 83, 3), (48, .isub, 1), (49, .ireturn, 1), (50, .aload 0, 1), (51, .getfield 515, 3), (54, .invokevirtual 39, 3)]),
  (69, [(57, .aload 0, 1), (58, .getfield 515, 3), (61, .getfield 192, 3), (64, .getfield 384, 3), (67, .iload 1, 1), (68, .aaload, 1), (69, .astore 3, 1)]),
  (83, [(70, .aload 3, 1), (71, .aload 0, 1), (72, .getfield 517, 3), (75, .invokevirtual 84, 3), (78, .invokestatic 52, 3), (81, .istore 4, 2), (83, .aload 3, 1)]),
  (96, [(84, .aload 0, 1), (85, .getfield 517, 3), (88, .invokevirtual 84, 3), (91, .invokestatic 46, 3), (94, .iload 4, 2), (96, .ireturn, 1)])]
/-- 115: EightBlocks.group(II)I -/
def tb_115 : am_T := [(14, [(0, .iload 1, 1), (1, .sipush 16, 2), (3, .invokestatic 134, 3), (6, .ifCond .ne 17, 3), (9, .iload 2, 1), (10, .sipush 5, 1), (11, .invokestatic 134, 3), (14, .ifCond .eq 19, 3)]),
  (29, [(17, .sipush (-1), 1), (18, .ireturn, 1), (19, .aload 0, 1), (20, .iload 1, 1), (21, .invokevirtual 139, 3), (24, .ifCond .ne 30, 3), (27, .sipush (-2), 2), (29, .ireturn, 1)]),
  (67, [(30, .iload 2, 1), (31, .tableswitch 135 0 3 #[60, 75, 89, 112], 29), (60, .aload 0, 1), (61, .iload 1, 1), (62, .sipush 0, 1), (63, .invokevirtual 140, 3), (66, .aload 0, 1), (67, .getfield 513, 3)]),
  (81, [(70, .sipush 0, 1), (71, .invokevirtual 4, 3), (74, .ireturn, 1), (75, .aload 0, 1), (76, .iload 1, 1), (77, .sipush 0, 1), (78, .invokevirtual 141, 3), (81, .aload 0, 1)]),
  (95, [(82, .getfield 514, 3), (85, .invokevirtual 66, 3), (88, .ireturn, 1), (89, .aload 0, 1), (90, .iload 1, 1), (91, .sipush 1, 1), (92, .invokevirtual 141, 3), (95, .aload 0, 1)]),
  (112, [(96, .getfield 514, 3), (99, .aload 0, 1), (100, .getfield 512, 3), (103, .getfield 128, 3), (106, .sipush 8, 2), (108, .invokevirtual 67, 3), (111, .ireturn, 1), (112, .aload 0, 1)]),
  (126, [(113, .iload 1, 1), (114, .sipush 1, 1), (115, .invokevirtual 141, 3), (118, .aload 0, 1), (119, .getfield 514, 3), (122, .aload 0, 1), (123, .getfield 512, 3), (126, .getfield 128, 3)]),
  (141, [(129, .sipush 12, 2), (131, .invokevirtual 67, 3), (134, .ireturn, 1), (135, .aload 0, 1), (136, .iload 1, 1), (137, .sipush 2, 1), (138, .invokevirtual 141, 3), (141, .aload 0, 1)]),
  (156, [(142, .getfield 514, 3), (145, .aload 0, 1), (146, .getfield 512, 3), (149, .getfield 131, 3), (152, .sipush 4, 1), (153, .invokevirtual 67, 3), (156, .ireturn, 1)])]
/-- 116: EightBlocks.held(III)I -/
def tb_116 : am_T := [(16, [(0, .iload 1, 1), (1, .sipush 16, 2), (3, .invokestatic 134, 3), (6, .ifCond .ne 24, 3), (9, .iload 2, 1), (10, .invokestatic 135, 3), (13, .ifCond .ne 24, 3), (16, .iload 3, 1)]),
  (28, [(17, .sipush 3, 1), (18, .invokestatic 134, 3), (21, .ifCond .eq 26, 3), (24, .sipush (-1), 1), (25, .ireturn, 1), (26, .aload 0, 1), (27, .iload 1, 1), (28, .invokevirtual 139, 3)]),
  (44, [(31, .ifCond .eq 50, 3), (34, .iload 3, 1), (35, .sipush 2, 1), (36, .if_icmp .ne 53, 3), (39, .aload 0, 1), (40, .getfield 512, 3), (43, .iload 2, 1), (44, .invokevirtual 24, 3)]),
  (82, [(47, .ifCond .ne 53, 3), (50, .sipush (-2), 2), (52, .ireturn, 1), (53, .iload 3, 1), (54, .lookupswitch 105 #[(0, 80), (1, 87)], 26), (80, .aload 0, 1), (81, .iload 1, 1), (82, .iload 2, 1)]),
  (94, [(83, .invokevirtual 142, 3), (86, .ireturn, 1), (87, .aload 0, 1), (88, .iload 1, 1), (89, .iload 2, 1), (90, .invokevirtual 140, 3), (93, .aload 0, 1), (94, .getfield 513, 3)]),
  (108, [(97, .iload 2, 1), (98, .invokestatic 253, 3), (101, .invokevirtual 4, 3), (104, .ireturn, 1), (105, .aload 0, 1), (106, .iload 1, 1), (107, .sipush 0, 1), (108, .invokevirtual 140, 3)]),
  (122, [(111, .aload 0, 1), (112, .iload 1, 1), (113, .sipush 1, 1), (114, .invokevirtual 141, 3), (117, .aload 0, 1), (118, .getfield 513, 3), (121, .sipush 0, 1), (122, .invokevirtual 4, 3)]),
  (140, [(125, .sipush 1, 1), (126, .aload 0, 1), (127, .getfield 514, 3), (130, .iload 2, 1), (131, .invokestatic 21, 3), (134, .invokevirtual 68, 3), (137, .invokeinterface 1 0, 3), (140, .idiv, 1)]),
  (141, [(141, .ireturn, 1)])]
/-- 117: EightBlocks.holds(II)I -/
def tb_117 : am_T := [(10, [(0, .iload 1, 1), (1, .sipush 16, 2), (3, .invokestatic 134, 3), (6, .ifCond .ne 17, 3), (9, .iload 2, 1), (10, .sipush 5, 1)]),
  (20, [(11, .invokestatic 134, 3), (14, .ifCond .eq 19, 3), (17, .sipush (-1), 1), (18, .ireturn, 1), (19, .aload 0, 1), (20, .iload 1, 1)]),
  (31, [(21, .invokevirtual 139, 3), (24, .ifCond .ne 30, 3), (27, .sipush (-2), 2), (29, .ireturn, 1), (30, .aload 0, 1), (31, .iload 1, 1)]),
  (41, [(32, .sipush 0, 1), (33, .invokevirtual 140, 3), (36, .aload 0, 1), (37, .getfield 513, 3), (40, .sipush 0, 1), (41, .aload 0, 1)]),
  (53, [(42, .getfield 515, 3), (45, .getfield 192, 3), (48, .getfield 384, 3), (51, .iload 2, 1), (52, .aaload, 1), (53, .invokevirtual 3, 3)]),
  (64, [(56, .ifCond .eq 63, 3), (59, .sipush 1, 1), (60, .goto 64, 3), (63, .sipush 0, 1), (64, .ireturn, 1)])]
/-- 118: EightBlocks.choose(I)I -/
def tb_118 : am_T := [(9, [(0, .iload 1, 1), (1, .invokestatic 135, 3), (4, .ifCond .eq 9, 3), (7, .sipush (-1), 1), (8, .ireturn, 1), (9, .aload 0, 1)]),
  (21, [(10, .getfield 515, 3), (13, .getfield 192, 3), (16, .getfield 385, 3), (19, .istore 2, 1), (20, .iload 1, 1), (21, .iload 2, 1)]),
  (34, [(22, .if_icmp .eq 45, 3), (25, .iload 1, 1), (26, .invokestatic 253, 3), (29, .sipush 12, 2), (31, .if_icmp .ne 45, 3), (34, .aload 0, 1)]),
  (47, [(35, .getfield 512, 3), (38, .iload 1, 1), (39, .invokevirtual 24, 3), (42, .ifCond .ne 48, 3), (45, .sipush (-2), 2), (47, .ireturn, 1)]),
  (59, [(48, .aload 0, 1), (49, .getfield 515, 3), (52, .invokevirtual 39, 3), (55, .aload 0, 1), (56, .getfield 515, 3), (59, .getfield 192, 3)]),
  (67, [(62, .iload 1, 1), (63, .putfield 385, 3), (66, .iload 2, 1), (67, .ireturn, 1)])]
/-- 119: EightBlocks.hexad(I)I -/
def tb_119 : am_T := [(8, [(0, .iload 1, 1), (1, .invokestatic 135, 3), (4, .ifCond .eq 9, 3), (7, .sipush (-1), 1), (8, .ireturn, 1)]),
  (19, [(9, .aload 0, 1), (10, .getfield 515, 3), (13, .getfield 192, 3), (16, .getfield 385, 3), (19, .istore 2, 1)]),
  (28, [(20, .iload 1, 1), (21, .invokestatic 253, 3), (24, .sipush 5, 1), (25, .if_icmp .ne 36, 3), (28, .iload 1, 1)]),
  (33, [(29, .iload 2, 1), (30, .sipush (-1), 1), (31, .ixor, 1), (32, .iand, 1), (33, .ifCond .eq 39, 3)]),
  (43, [(36, .sipush (-2), 2), (38, .ireturn, 1), (39, .aload 0, 1), (40, .getfield 512, 3), (43, .iload 1, 1)]),
  (49, [(44, .invokevirtual 33, 3), (47, .iload 2, 1), (48, .iand, 1), (49, .ireturn, 1)])]
/-- 120: EightBlocks.turn(II)I -/
def tb_120 : am_T := [(15, [(0, .iload 1, 1), (1, .sipush 24, 2), (3, .invokestatic 134, 3), (6, .ifCond .ne 18, 3), (9, .iload 2, 1), (10, .sipush 24, 2), (12, .invokestatic 134, 3), (15, .ifCond .eq 20, 3)]),
  (31, [(18, .sipush (-1), 1), (19, .ireturn, 1), (20, .aload 0, 1), (21, .getfield 515, 3), (24, .getfield 192, 3), (27, .getfield 385, 3), (30, .istore 3, 1), (31, .sipush 1, 1)]),
  (40, [(32, .iload 1, 1), (33, .ishl, 1), (34, .sipush 1, 1), (35, .iload 2, 1), (36, .ishl, 1), (37, .ior, 1), (38, .istore 4, 2), (40, .iload 1, 1)]),
  (54, [(41, .iload 2, 1), (42, .if_icmp .eq 52, 3), (45, .iload 4, 2), (47, .iload 3, 1), (48, .iand, 1), (49, .ifCond .eq 55, 3), (52, .sipush (-2), 2), (54, .ireturn, 1)]),
  (65, [(55, .iload 3, 1), (56, .iload 3, 1), (57, .ineg, 1), (58, .iand, 1), (59, .istore 5, 2), (61, .aload 0, 1), (62, .getfield 512, 3), (65, .getfield 129, 3)]),
  (80, [(68, .astore 6, 2), (70, .aload 6, 2), (72, .arraylength, 1), (73, .istore 7, 2), (75, .sipush 0, 1), (76, .istore 8, 2), (78, .iload 8, 2), (80, .iload 7, 2)]),
  (95, [(82, .if_icmp .ge 122, 3), (85, .aload 6, 2), (87, .iload 8, 2), (89, .iaload, 1), (90, .istore 9, 2), (92, .iload 9, 2), (94, .iload 3, 1), (95, .sipush (-1), 1)]),
  (108, [(96, .ixor, 1), (97, .iand, 1), (98, .iload 4, 2), (100, .if_icmp .ne 116, 3), (103, .iload 9, 2), (105, .iload 5, 2), (107, .iand, 1), (108, .ifCond .eq 116, 3)]),
  (124, [(111, .iload 9, 2), (113, .iload 3, 1), (114, .iand, 1), (115, .ireturn, 1), (116, .iinc 8 1, 3), (119, .goto 78, 3), (122, .sipush (-4), 2), (124, .ireturn, 1)])]
/-- 121: EightBlocks.pair(I)I -/
def tb_121 : am_T := [(9, [(0, .iload 1, 1), (1, .invokestatic 135, 3), (4, .ifCond .eq 9, 3), (7, .sipush (-1), 1), (8, .ireturn, 1), (9, .iload 1, 1)]),
  (21, [(10, .invokestatic 253, 3), (13, .sipush 6, 2), (15, .if_icmp .eq 21, 3), (18, .sipush (-2), 2), (20, .ireturn, 1), (21, .iload 1, 1)]),
  (27, [(22, .iload 1, 1), (23, .ineg, 1), (24, .iand, 1), (25, .istore 2, 1), (26, .aload 0, 1), (27, .getfield 512, 3)]),
  (37, [(30, .iload 1, 1), (31, .iload 2, 1), (32, .ixor, 1), (33, .invokevirtual 33, 3), (36, .istore 3, 1), (37, .iload 3, 1)]),
  (49, [(38, .aload 0, 1), (39, .getfield 515, 3), (42, .getfield 192, 3), (45, .getfield 385, 3), (48, .iand, 1), (49, .iload 1, 1)]),
  (59, [(50, .if_icmp .ne 59, 3), (53, .iload 3, 1), (54, .iload 1, 1), (55, .ixor, 1), (56, .goto 61, 3), (59, .sipush (-2), 2)]),
  (61, [(61, .ireturn, 1)])]
/-- 122: EightBlocks.drift(I)I -/
def tb_122 : am_T := [(6, [(0, .iload 1, 1), (1, .sipush 1, 1), (2, .if_icmp .lt 11, 3), (5, .iload 1, 1), (6, .sipush 40, 2)]),
  (14, [(8, .if_icmp .le 13, 3), (11, .sipush (-1), 1), (12, .ireturn, 1), (13, .sipush 0, 1), (14, .istore 2, 1)]),
  (21, [(15, .iload 2, 1), (16, .iload 1, 1), (17, .if_icmp .ge 44, 3), (20, .aload 0, 1), (21, .getfield 515, 3)]),
  (32, [(24, .invokevirtual 39, 3), (27, .aload 0, 1), (28, .aload 0, 1), (29, .getfield 515, 3), (32, .getfield 192, 3)]),
  (45, [(35, .invokevirtual 143, 3), (38, .iinc 2 1, 3), (41, .goto 15, 3), (44, .aload 0, 1), (45, .getfield 515, 3)]),
  (54, [(48, .getfield 192, 3), (51, .getfield 385, 3), (54, .ireturn, 1)])]
/-- 123: EightBlocks.undo()I -/
def tb_123 : am_T := [(7, [(0, .aload 0, 1), (1, .getfield 515, 3), (4, .invokevirtual 41, 3), (7, .ireturn, 1)])]
/-- 124: EightBlocks.seed(I)I -/
def tb_124 : am_T := [(5, [(0, .iload 1, 1), (1, .ifCond .ge 6, 3), (4, .sipush (-1), 1), (5, .ireturn, 1)]),
  (13, [(6, .aload 0, 1), (7, .getfield 515, 3), (10, .getfield 192, 3), (13, .getfield 386, 3)]),
  (21, [(16, .istore 2, 1), (17, .aload 0, 1), (18, .getfield 515, 3), (21, .getfield 192, 3)]),
  (29, [(24, .iload 1, 1), (25, .putfield 386, 3), (28, .iload 2, 1), (29, .ireturn, 1)])]
/-- 125: EightBlocks.count(I)I -/
def tb_125 : am_T := [(36, [(0, .iload 1, 1), (1, .tableswitch 69 0 3 #[32, 43, 51, 56], 31), (32, .aload 0, 1), (33, .getfield 515, 3), (36, .getfield 192, 3)]),
  (47, [(39, .getfield 385, 3), (42, .ireturn, 1), (43, .aload 0, 1), (44, .getfield 515, 3), (47, .getfield 194, 3)]),
  (56, [(50, .ireturn, 1), (51, .aload 0, 1), (52, .invokevirtual 138, 3), (55, .ireturn, 1), (56, .aload 0, 1)]),
  (67, [(57, .getfield 522, 3), (60, .ifCond .eq 67, 3), (63, .sipush 1, 1), (64, .goto 68, 3), (67, .sipush 0, 1)]),
  (70, [(68, .ireturn, 1), (69, .sipush (-1), 1), (70, .ireturn, 1)])]
/-- 126: EightBlocks.image()I -/
def tb_126 : am_T := [(5, [(0, .aload 0, 1), (1, .getfield 516, 3), (4, .aload 0, 1), (5, .getfield 515, 3)]),
  (13, [(8, .invokevirtual 42, 3), (11, .aload 0, 1), (12, .sipush 1, 1), (13, .putfield 522, 3)]),
  (17, [(16, .sipush 1, 1), (17, .ireturn, 1)])]
/-- 127: EightBlocks.restore()I -/
def tb_127 : am_T := [(7, [(0, .aload 0, 1), (1, .getfield 522, 3), (4, .ifCond .ne 10, 3), (7, .sipush (-4), 2)]),
  (14, [(9, .ireturn, 1), (10, .aload 0, 1), (11, .getfield 515, 3), (14, .aload 0, 1)]),
  (22, [(15, .getfield 516, 3), (18, .invokevirtual 42, 3), (21, .sipush 1, 1), (22, .ireturn, 1)])]
/-- 128: EightBlocks.retrace(IIIII)I -/
def tb_128 : am_T := [(23, [(0, .iload 1, 1), (1, .sipush 16, 2), (3, .invokestatic 134, 3), (6, .ifCond .ne 30, 3), (9, .iload 2, 1), (10, .iload 3, 1), (11, .invokestatic 136, 3), (14, .ifCond .ne 30, 3), (17, .iload 5, 2), (19, .sipush 1, 1), (20, .if_icmp .lt 30, 3), (23, .iload 5, 2)]),
  (43, [(25, .sipush 8, 2), (27, .if_icmp .le 32, 3), (30, .sipush (-1), 1), (31, .ireturn, 1), (32, .aload 0, 1), (33, .getfield 518, 3), (36, .iload 2, 1), (37, .iload 3, 1), (38, .iload 4, 2), (40, .sipush 2, 1), (41, .iload 5, 2), (43, .imul, 1)]),
  (66, [(44, .invokevirtual 72, 3), (47, .istore 6, 2), (49, .iload 6, 2), (51, .ifCond .eq 57, 3), (54, .iload 6, 2), (56, .ireturn, 1), (57, .aload 0, 1), (58, .iload 1, 1), (59, .invokevirtual 139, 3), (62, .ifCond .eq 82, 3), (65, .aload 0, 1), (66, .getfield 518, 3)]),
  (89, [(69, .iload 2, 1), (70, .iload 4, 2), (72, .sipush 2, 1), (73, .iload 5, 2), (75, .imul, 1), (76, .invokevirtual 75, 3), (79, .ifCond .ne 85, 3), (82, .sipush (-2), 2), (84, .ireturn, 1), (85, .aload 0, 1), (86, .getfield 520, 3), (89, .sipush (-4), 2)]),
  (110, [(91, .invokestatic 256, 3), (94, .sipush 0, 1), (95, .istore 7, 2), (97, .iload 4, 2), (99, .istore 8, 2), (101, .iload 8, 2), (103, .iload 4, 2), (105, .sipush 2, 1), (106, .iload 5, 2), (108, .imul, 1), (109, .iadd, 1), (110, .if_icmp .ge 206, 3)]),
  (133, [(113, .aload 0, 1), (114, .getfield 518, 3), (117, .iload 2, 1), (118, .iload 8, 2), (120, .invokevirtual 76, 3), (123, .istore 9, 2), (125, .aload 0, 1), (126, .getfield 518, 3), (129, .iload 2, 1), (130, .iload 8, 2), (132, .sipush 1, 1), (133, .iadd, 1)]),
  (157, [(134, .invokevirtual 76, 3), (137, .istore 10, 2), (139, .iload 9, 2), (141, .sipush (-4), 2), (143, .if_icmp .eq 153, 3), (146, .iload 10, 2), (148, .sipush (-4), 2), (150, .if_icmp .ne 156, 3), (153, .sipush (-2), 2), (155, .ireturn, 1), (156, .aload 0, 1), (157, .getfield 520, 3)]),
  (181, [(160, .iload 9, 2), (162, .iaload, 1), (163, .sipush (-4), 2), (165, .if_icmp .eq 182, 3), (168, .aload 0, 1), (169, .getfield 520, 3), (172, .iload 9, 2), (174, .iaload, 1), (175, .iload 10, 2), (177, .if_icmp .eq 182, 3), (180, .sipush 0, 1), (181, .ireturn, 1)]),
  (200, [(182, .aload 0, 1), (183, .getfield 520, 3), (186, .iload 9, 2), (188, .iload 10, 2), (190, .iastore, 1), (191, .iload 7, 2), (193, .sipush 1, 1), (194, .iload 9, 2), (196, .ishl, 1), (197, .ior, 1), (198, .istore 7, 2), (200, .iinc 8 2, 3)]),
  (225, [(203, .goto 101, 3), (206, .aload 0, 1), (207, .iload 1, 1), (208, .iload 7, 2), (210, .invokevirtual 140, 3), (213, .aload 0, 1), (214, .getfield 513, 3), (217, .aload 0, 1), (218, .getfield 520, 3), (221, .aload 0, 1), (222, .getfield 521, 3), (225, .invokevirtual 5, 3)]),
  (249, [(228, .ifCond .ne 233, 3), (231, .sipush 0, 1), (232, .ireturn, 1), (233, .aload 0, 1), (234, .getfield 515, 3), (237, .getfield 192, 3), (240, .getfield 384, 3), (243, .sipush 4, 1), (244, .aaload, 1), (245, .aload 0, 1), (246, .getfield 521, 3), (249, .invokestatic 46, 3)]),
  (264, [(252, .aload 0, 1), (253, .getfield 513, 3), (256, .iload 7, 2), (258, .invokestatic 253, 3), (261, .invokevirtual 4, 3), (264, .ireturn, 1)])]
/-- 129: EightBlocks.film(IIII)I -/
def tb_129 : am_T := [(10, [(0, .iload 1, 1), (1, .sipush 5, 1), (2, .invokestatic 134, 3), (5, .ifCond .ne 16, 3), (8, .iload 2, 1), (9, .iload 3, 1), (10, .invokestatic 136, 3)]),
  (23, [(13, .ifCond .eq 18, 3), (16, .sipush (-1), 1), (17, .ireturn, 1), (18, .aload 0, 1), (19, .getfield 518, 3), (22, .iload 2, 1), (23, .iload 3, 1)]),
  (38, [(24, .iload 4, 2), (26, .sipush 24, 2), (28, .invokevirtual 72, 3), (31, .istore 5, 2), (33, .iload 5, 2), (35, .ifCond .eq 41, 3), (38, .iload 5, 2)]),
  (51, [(40, .ireturn, 1), (41, .sipush 0, 1), (42, .istore 6, 2), (44, .iload 6, 2), (46, .sipush 24, 2), (48, .if_icmp .ge 86, 3), (51, .aload 0, 1)]),
  (62, [(52, .getfield 518, 3), (55, .iload 2, 1), (56, .iload 4, 2), (58, .iload 6, 2), (60, .iadd, 1), (61, .aload 0, 1), (62, .getfield 515, 3)]),
  (76, [(65, .getfield 192, 3), (68, .getfield 384, 3), (71, .iload 1, 1), (72, .aaload, 1), (73, .iload 6, 2), (75, .iaload, 1), (76, .i2l, 1)]),
  (88, [(77, .invokevirtual 74, 3), (80, .iinc 6 1, 3), (83, .goto 44, 3), (86, .sipush 24, 2), (88, .ireturn, 1)])]
/-- 130: EightBlocks.sheet(III)I -/
def tb_130 : am_T := [(8, [(0, .iload 1, 1), (1, .iload 2, 1), (2, .invokestatic 136, 3), (5, .ifCond .ne 14, 3), (8, .iload 3, 1)]),
  (16, [(9, .sipush 32, 2), (11, .if_icmp .le 16, 3), (14, .sipush (-1), 1), (15, .ireturn, 1), (16, .iload 3, 1)]),
  (24, [(17, .ifCond .ge 23, 3), (20, .sipush (-14), 2), (22, .ireturn, 1), (23, .aload 0, 1), (24, .getfield 518, 3)]),
  (33, [(27, .iload 1, 1), (28, .iload 2, 1), (29, .iload 3, 1), (30, .invokevirtual 70, 3), (33, .iload 3, 1)]),
  (34, [(34, .ireturn, 1)])]
/-- 131: EightBlocks.drop(I)I -/
def tb_131 : am_T := [(5, [(0, .iload 1, 1), (1, .sipush 4, 1), (2, .invokestatic 134, 3), (5, .ifCond .eq 10, 3)]),
  (11, [(8, .sipush (-1), 1), (9, .ireturn, 1), (10, .aload 0, 1), (11, .getfield 518, 3)]),
  (18, [(14, .iload 1, 1), (15, .invokevirtual 71, 3), (18, .ireturn, 1)])]
/-- 132: EightBlocks.item(IIIJ)I -/
def tb_132 : am_T := [(8, [(0, .iload 1, 1), (1, .iload 2, 1), (2, .invokestatic 136, 3), (5, .ifCond .eq 10, 3), (8, .sipush (-1), 1)]),
  (15, [(9, .ireturn, 1), (10, .aload 0, 1), (11, .getfield 518, 3), (14, .iload 1, 1), (15, .iload 2, 1)]),
  (23, [(16, .iload 3, 1), (17, .sipush 1, 1), (18, .invokevirtual 72, 3), (21, .istore 6, 2), (23, .iload 6, 2)]),
  (32, [(25, .ifCond .eq 31, 3), (28, .iload 6, 2), (30, .ireturn, 1), (31, .aload 0, 1), (32, .getfield 518, 3)]),
  (42, [(35, .iload 1, 1), (36, .iload 3, 1), (37, .lload 4, 2), (39, .invokevirtual 74, 3), (42, .sipush 1, 1)]),
  (43, [(43, .ireturn, 1)])]
/-- 133: EightBlocks.copy(IIIII)I -/
def tb_133 : am_T := [(5, [(0, .iload 1, 1), (1, .sipush 4, 1), (2, .invokestatic 134, 3), (5, .ifCond .ne 16, 3)]),
  (13, [(8, .iload 3, 1), (9, .sipush 4, 1), (10, .invokestatic 134, 3), (13, .ifCond .eq 18, 3)]),
  (19, [(16, .sipush (-1), 1), (17, .ireturn, 1), (18, .aload 0, 1), (19, .getfield 518, 3)]),
  (25, [(22, .iload 1, 1), (23, .iload 2, 1), (24, .iload 3, 1), (25, .iload 4, 2)]),
  (32, [(27, .iload 5, 2), (29, .invokevirtual 77, 3), (32, .ireturn, 1)])]
/-- 134: EightBlocks.isOutside(II)Z -/
def tb_134 : am_T := [(5, [(0, .iload 0, 1), (1, .ifCond .lt 9, 3), (4, .iload 0, 1), (5, .iload 1, 1)]),
  (13, [(6, .if_icmp .lt 13, 3), (9, .sipush 1, 1), (10, .goto 14, 3), (13, .sipush 0, 1)]),
  (14, [(14, .ireturn, 1)])]
/-- 135: EightBlocks.isNoSet(I)Z -/
def tb_135 : am_T := [(5, [(0, .iload 0, 1), (1, .ifCond .lt 11, 3), (4, .iload 0, 1), (5, .sipush 16777215, 3)]),
  (15, [(8, .if_icmp .le 15, 3), (11, .sipush 1, 1), (12, .goto 16, 3), (15, .sipush 0, 1)]),
  (16, [(16, .ireturn, 1)])]
/-- 136: EightBlocks.isNoLane(II)Z -/
def tb_136 : am_T := [(5, [(0, .iload 0, 1), (1, .sipush 4, 1), (2, .invokestatic 134, 3), (5, .ifCond .ne 16, 3)]),
  (13, [(8, .iload 1, 1), (9, .sipush 4, 1), (10, .invokestatic 134, 3), (13, .ifCond .eq 20, 3)]),
  (21, [(16, .sipush 1, 1), (17, .goto 21, 3), (20, .sipush 0, 1), (21, .ireturn, 1)])]
/-- 137: EightBlocks.whereChosenGoes([I)I -/
def tb_137 : am_T := [(10, [(0, .aload 0, 1), (1, .getfield 515, 3), (4, .getfield 192, 3), (7, .getfield 385, 3), (10, .istore 2, 1)]),
  (17, [(11, .aload 1, 1), (12, .iload 2, 1), (13, .invokestatic 51, 3), (16, .istore 3, 1), (17, .iload 3, 1)]),
  (24, [(18, .iload 2, 1), (19, .if_icmp .ne 24, 3), (22, .sipush 1, 1), (23, .ireturn, 1), (24, .iload 3, 1)]),
  (33, [(25, .sipush 16777215, 3), (28, .iload 2, 1), (29, .ixor, 1), (30, .if_icmp .ne 37, 3), (33, .sipush 2, 1)]),
  (38, [(34, .goto 38, 3), (37, .sipush 0, 1), (38, .ireturn, 1)])]
/-- 138: EightBlocks.preservingMoves()I -/
def tb_138 : am_T := [(4, [(0, .sipush 0, 1), (1, .istore 1, 1), (2, .sipush 0, 1), (3, .istore 2, 1), (4, .iload 2, 1)]),
  (13, [(5, .sipush 5, 1), (6, .if_icmp .ge 43, 3), (9, .aload 0, 1), (10, .getfield 512, 3), (13, .aload 0, 1)]),
  (24, [(14, .getfield 515, 3), (17, .getfield 192, 3), (20, .getfield 384, 3), (23, .iload 2, 1), (24, .aaload, 1)]),
  (33, [(25, .invokevirtual 32, 3), (28, .ifCond .eq 37, 3), (31, .iload 1, 1), (32, .sipush 1, 1), (33, .iload 2, 1)]),
  (40, [(34, .ishl, 1), (35, .ior, 1), (36, .istore 1, 1), (37, .iinc 2 1, 3), (40, .goto 4, 3)]),
  (44, [(43, .iload 1, 1), (44, .ireturn, 1)])]
/-- 139: EightBlocks.preserveCode(I)Z -/
def tb_139 : am_T := [(5, [(0, .iload 1, 1), (1, .aload 0, 1), (2, .invokevirtual 138, 3), (5, .sipush (-1), 1)]),
  (11, [(6, .ixor, 1), (7, .iand, 1), (8, .ifCond .ne 15, 3), (11, .sipush 1, 1)]),
  (16, [(12, .goto 16, 3), (15, .sipush 0, 1), (16, .ireturn, 1)])]
/-- 140: EightBlocks.buildChain(II)V -/
def tb_140 : am_T := [(8, [(0, .aload 0, 1), (1, .getfield 513, 3), (4, .iload 2, 1), (5, .invokevirtual 1, 3), (8, .sipush 0, 1)]),
  (15, [(9, .istore 3, 1), (10, .iload 3, 1), (11, .sipush 4, 1), (12, .if_icmp .ge 49, 3), (15, .iload 1, 1)]),
  (20, [(16, .iload 3, 1), (17, .ishr, 1), (18, .sipush 1, 1), (19, .iand, 1), (20, .sipush 1, 1)]),
  (29, [(21, .if_icmp .ne 43, 3), (24, .aload 0, 1), (25, .getfield 513, 3), (28, .aload 0, 1), (29, .getfield 515, 3)]),
  (40, [(32, .getfield 192, 3), (35, .getfield 384, 3), (38, .iload 3, 1), (39, .aaload, 1), (40, .invokevirtual 2, 3)]),
  (49, [(43, .iinc 3 1, 3), (46, .goto 10, 3), (49, .return_, 1)])]
/-- 141: EightBlocks.findOrbits(II)V -/
def tb_141 : am_T := [(8, [(0, .aload 0, 1), (1, .getfield 514, 3), (4, .iload 2, 1), (5, .invokevirtual 60, 3), (8, .sipush 0, 1)]),
  (15, [(9, .istore 3, 1), (10, .iload 3, 1), (11, .sipush 4, 1), (12, .if_icmp .ge 53, 3), (15, .iload 1, 1)]),
  (20, [(16, .iload 3, 1), (17, .ishr, 1), (18, .sipush 1, 1), (19, .iand, 1), (20, .sipush 1, 1)]),
  (29, [(21, .if_icmp .ne 47, 3), (24, .aload 0, 1), (25, .getfield 514, 3), (28, .aload 0, 1), (29, .getfield 512, 3)]),
  (42, [(32, .aload 0, 1), (33, .getfield 515, 3), (36, .getfield 192, 3), (39, .getfield 384, 3), (42, .iload 3, 1)]),
  (53, [(43, .aaload, 1), (44, .invokevirtual 61, 3), (47, .iinc 3 1, 3), (50, .goto 10, 3), (53, .return_, 1)])]
/-- 142: EightBlocks.reachedFrom(II)I -/
def tb_142 : am_T := [(7, [(0, .iload 2, 1), (1, .istore 3, 1), (2, .sipush 0, 1), (3, .istore 4, 2), (5, .iload 4, 2), (7, .sipush 24, 2)]),
  (18, [(9, .if_icmp .ge 63, 3), (12, .sipush 0, 1), (13, .istore 5, 2), (15, .iload 5, 2), (17, .sipush 4, 1), (18, .if_icmp .ge 57, 3)]),
  (27, [(21, .iload 1, 1), (22, .iload 5, 2), (24, .ishr, 1), (25, .sipush 1, 1), (26, .iand, 1), (27, .sipush 1, 1)]),
  (39, [(28, .if_icmp .ne 51, 3), (31, .iload 3, 1), (32, .aload 0, 1), (33, .getfield 515, 3), (36, .getfield 192, 3), (39, .getfield 384, 3)]),
  (50, [(42, .iload 5, 2), (44, .aaload, 1), (45, .iload 3, 1), (46, .invokestatic 51, 3), (49, .ior, 1), (50, .istore 3, 1)]),
  (64, [(51, .iinc 5 1, 3), (54, .goto 15, 3), (57, .iinc 4 1, 3), (60, .goto 5, 3), (63, .iload 3, 1), (64, .ireturn, 1)])]
/-- 143: EightBlocks.turnAtRandom(LEightBlocks$State;)V -/
def tb_143 : am_T := [(13, [(0, .aload 1, 1), (1, .aload 1, 1), (2, .getfield 386, 3), (5, .i2l, 1), (6, .jsr_w 1103515245, 3), (9, .lmul, 1), (10, .jsr_w 12345, 3), (13, .ladd, 1)]),
  (29, [(14, .jsr_w 2147483647, 3), (17, .land, 1), (18, .l2i, 1), (19, .putfield 386, 3), (22, .aload 1, 1), (23, .getfield 386, 3), (26, .sipush 65536, 3), (29, .idiv, 1)]),
  (39, [(30, .istore 2, 1), (31, .iload 2, 1), (32, .sipush 8, 2), (34, .idiv, 1), (35, .istore 3, 1), (36, .iload 2, 1), (37, .sipush 8, 2), (39, .irem, 1)]),
  (55, [(40, .ifCond .ne 61, 3), (43, .aload 1, 1), (44, .aload 0, 1), (45, .getfield 512, 3), (48, .getfield 130, 3), (51, .iload 3, 1), (52, .sipush 2576, 3), (55, .irem, 1)]),
  (69, [(56, .iaload, 1), (57, .putfield 385, 3), (60, .return_, 1), (61, .aload 0, 1), (62, .getfield 521, 3), (65, .aload 1, 1), (66, .getfield 384, 3), (69, .iload 2, 1)]),
  (81, [(70, .sipush 4, 1), (71, .irem, 1), (72, .aaload, 1), (73, .invokestatic 46, 3), (76, .aload 0, 1), (77, .getfield 521, 3), (80, .aload 1, 1), (81, .getfield 384, 3)]),
  (95, [(84, .iload 3, 1), (85, .sipush 5, 1), (86, .irem, 1), (87, .aaload, 1), (88, .invokestatic 47, 3), (91, .aload 1, 1), (92, .getfield 384, 3), (95, .iload 2, 1)]),
  (106, [(96, .sipush 4, 1), (97, .irem, 1), (98, .aaload, 1), (99, .aload 0, 1), (100, .getfield 521, 3), (103, .invokestatic 46, 3), (106, .return_, 1)])]
/-- 144: EightBlocksModel.in(JJJ)Z -/
def tb_144 : am_T := [(3, [(0, .lload 0, 1), (1, .lload 2, 1), (2, .lcmp, 1), (3, .ifCond .lt 17, 3)]),
  (10, [(6, .lload 0, 1), (7, .lload 4, 2), (9, .lcmp, 1), (10, .ifCond .gt 17, 3)]),
  (18, [(13, .sipush 1, 1), (14, .goto 18, 3), (17, .sipush 0, 1), (18, .ireturn, 1)])]
/-- 145: EightBlocksModel.init()V -/
def tb_145 : am_T := [(28, [(0, .aload 0, 1), (1, .monitorexit, 3), (4, .aload 0, 1), (5, .sipush 122, 2), (7, .newarray .int, 2), (9, .putfield 576, 3), (12, .aload 0, 1), (13, .sipush 12, 2), (15, .newarray .int, 2), (17, .putfield 577, 3), (20, .aload 0, 1), (21, .sipush 12, 2), (23, .newarray .int, 2), (25, .putfield 578, 3), (28, .aload 0, 1)]),
  (59, [(29, .sipush 4096, 3), (32, .newarray .int, 2), (34, .putfield 580, 3), (37, .aload 0, 1), (38, .sipush 759, 3), (41, .newarray .int, 2), (43, .putfield 581, 3), (46, .aload 0, 1), (47, .sipush 100, 2), (49, .newarray .int, 2), (51, .putfield 582, 3), (54, .aload 0, 1), (55, .sipush 100, 2), (57, .newarray .int, 2), (59, .putfield 584, 3)]),
  (90, [(62, .aload 0, 1), (63, .sipush 24, 2), (65, .newarray .int, 2), (67, .putfield 587, 3), (70, .aload 0, 1), (71, .sipush 168, 3), (74, .newarray .int, 2), (76, .putfield 588, 3), (79, .aload 0, 1), (80, .sipush 24, 2), (82, .newarray .int, 2), (84, .putfield 589, 3), (87, .aload 0, 1), (88, .sipush 24, 2), (90, .newarray .int, 2)]),
  (122, [(92, .putfield 591, 3), (95, .aload 0, 1), (96, .sipush 576, 3), (99, .newarray .int, 2), (101, .putfield 592, 3), (104, .aload 0, 1), (105, .sipush 2976, 3), (108, .newarray .int, 2), (110, .putfield 593, 3), (113, .aload 0, 1), (114, .sipush 124, 2), (116, .newarray .int, 2), (118, .putfield 594, 3), (121, .aload 0, 1), (122, .sipush 24, 2)]),
  (151, [(124, .newarray .int, 2), (126, .putfield 596, 3), (129, .aload 0, 1), (130, .sipush (-1), 1), (131, .putfield 597, 3), (134, .aload 0, 1), (135, .sipush 96, 2), (137, .newarray .int, 2), (139, .putfield 599, 3), (142, .aload 0, 1), (143, .sipush 48, 2), (145, .newarray .int, 2), (147, .putfield 600, 3), (150, .aload 0, 1), (151, .sipush 4096, 3)]),
  (185, [(154, .newarray .boolean, 2), (156, .putfield 601, 3), (159, .aload 0, 1), (160, .sipush 4096, 3), (163, .newarray .int, 2), (165, .putfield 602, 3), (168, .aload 0, 1), (169, .sipush 732, 3), (172, .newarray .int, 2), (174, .putfield 603, 3), (177, .aload 0, 1), (178, .sipush 122, 2), (180, .newarray .int, 2), (182, .putfield 605, 3), (185, .aload 0, 1)]),
  (213, [(186, .sipush 732, 3), (189, .newarray .int, 2), (191, .putfield 606, 3), (194, .aload 0, 1), (195, .sipush (-1), 1), (196, .putfield 607, 3), (199, .aload 0, 1), (200, .sipush 4, 1), (201, .newarray .int, 2), (203, .putfield 608, 3), (206, .aload 0, 1), (207, .sipush 4, 1), (208, .newarray .int, 2), (210, .putfield 609, 3), (213, .aload 0, 1)]),
  (241, [(214, .sipush 128, 3), (217, .newarray .long, 2), (219, .putfield 610, 3), (222, .aload 0, 1), (223, .sipush 32, 2), (225, .newarray .long, 2), (227, .putfield 611, 3), (230, .aload 0, 1), (231, .sipush 24, 2), (233, .newarray .int, 2), (235, .putfield 612, 3), (238, .sipush 0, 1), (239, .istore 1, 1), (240, .iload 1, 1), (241, .sipush 5, 1)]),
  (264, [(242, .if_icmp .ge 281, 3), (245, .sipush 0, 1), (246, .istore 2, 1), (247, .iload 2, 1), (248, .sipush 24, 2), (250, .if_icmp .ge 275, 3), (253, .aload 0, 1), (254, .getfield 576, 3), (257, .sipush 24, 2), (259, .iload 1, 1), (260, .imul, 1), (261, .iload 2, 1), (262, .iadd, 1), (263, .iload 1, 1), (264, .iload 2, 1)]),
  (295, [(265, .invokestatic 151, 3), (268, .iastore, 1), (269, .iinc 2 1, 3), (272, .goto 247, 3), (275, .iinc 1 1, 3), (278, .goto 240, 3), (281, .aload 0, 1), (282, .getfield 576, 3), (285, .sipush 121, 2), (287, .sipush 1, 1), (288, .iastore, 1), (289, .aload 0, 1), (290, .getfield 576, 3), (293, .sipush 120, 2), (295, .sipush 0, 1)]),
  (319, [(296, .invokestatic 153, 3), (299, .iastore, 1), (300, .sipush 0, 1), (301, .istore 1, 1), (302, .iload 1, 1), (303, .sipush 12, 2), (305, .if_icmp .ge 325, 3), (308, .aload 0, 1), (309, .iload 1, 1), (310, .invokestatic 153, 3), (313, .sipush 1, 1), (314, .iload 1, 1), (315, .ishl, 1), (316, .invokevirtual 155, 3), (319, .iinc 1 1, 3)]),
  (346, [(322, .goto 302, 3), (325, .sipush 0, 1), (326, .istore 1, 1), (327, .sipush 0, 1), (328, .istore 2, 1), (329, .iload 2, 1), (330, .sipush 4096, 3), (333, .if_icmp .ge 405, 3), (336, .aload 0, 1), (337, .getfield 580, 3), (340, .iload 2, 1), (341, .iload 2, 1), (342, .ifCond .ne 349, 3), (345, .sipush 0, 1), (346, .goto 369, 3)]),
  (369, [(349, .aload 0, 1), (350, .getfield 580, 3), (353, .iload 2, 1), (354, .iload 2, 1), (355, .sipush 1, 1), (356, .isub, 1), (357, .iand, 1), (358, .iaload, 1), (359, .aload 0, 1), (360, .getfield 577, 3), (363, .iload 2, 1), (364, .invokestatic 148, 3), (367, .iaload, 1), (368, .ixor, 1), (369, .iastore, 1)]),
  (395, [(370, .aload 0, 1), (371, .getfield 580, 3), (374, .iload 2, 1), (375, .iaload, 1), (376, .invokestatic 147, 3), (379, .sipush 8, 2), (381, .if_icmp .ne 399, 3), (384, .aload 0, 1), (385, .getfield 581, 3), (388, .iload 1, 1), (389, .aload 0, 1), (390, .getfield 580, 3), (393, .iload 2, 1), (394, .iaload, 1), (395, .iastore, 1)]),
  (422, [(396, .iinc 1 1, 3), (399, .iinc 2 1, 3), (402, .goto 329, 3), (405, .sipush 0, 1), (406, .istore 2, 1), (407, .iload 2, 1), (408, .sipush 4, 1), (409, .if_icmp .ge 425, 3), (412, .aload 0, 1), (413, .getfield 608, 3), (416, .iload 2, 1), (417, .sipush (-1), 1), (418, .iastore, 1), (419, .iinc 2 1, 3), (422, .goto 407, 3)]),
  (425, [(425, .return_, 1)])]
/-- 146: EightBlocksModel.has(II)Z -/
def tb_146 : am_T := [(3, [(0, .iload 0, 1), (1, .iload 1, 1), (2, .ishr, 1), (3, .sipush 1, 1)]),
  (9, [(4, .iand, 1), (5, .sipush 1, 1), (6, .if_icmp .ne 13, 3), (9, .sipush 1, 1)]),
  (14, [(10, .goto 14, 3), (13, .sipush 0, 1), (14, .ireturn, 1)])]
/-- 147: EightBlocksModel.bits(I)I -/
def tb_147 : am_T := [(3, [(0, .sipush 0, 1), (1, .istore 1, 1), (2, .iload 0, 1), (3, .istore 2, 1)]),
  (11, [(4, .iload 2, 1), (5, .ifCond .eq 20, 3), (8, .iinc 1 1, 3), (11, .iload 2, 1)]),
  (15, [(12, .iload 2, 1), (13, .sipush 1, 1), (14, .isub, 1), (15, .iand, 1)]),
  (21, [(16, .istore 2, 1), (17, .goto 4, 3), (20, .iload 1, 1), (21, .ireturn, 1)])]
/-- 148: EightBlocksModel.lowest(I)I -/
def tb_148 : am_T := [(3, [(0, .sipush 0, 1), (1, .istore 1, 1), (2, .iload 1, 1), (3, .sipush 31, 2)]),
  (10, [(5, .if_icmp .ge 22, 3), (8, .iload 0, 1), (9, .iload 1, 1), (10, .invokestatic 146, 3)]),
  (22, [(13, .ifCond .ne 22, 3), (16, .iinc 1 1, 3), (19, .goto 2, 3), (22, .iload 1, 1)]),
  (23, [(23, .ireturn, 1)])]
/-- 149: EightBlocksModel.isSet(I)Z -/
def tb_149 : am_T := [(3, [(0, .iload 0, 1), (1, .i2l, 1), (2, .jsr_w 0, 1), (3, .jsr_w 16777215, 3)]),
  (9, [(6, .invokestatic 144, 3), (9, .ireturn, 1)])]
/-- 150: EightBlocksModel.isPlace(J)Z -/
def tb_150 : am_T := [(5, [(0, .lload 0, 1), (1, .jsr_w 0, 1), (2, .jsr_w 23, 3), (5, .invokestatic 144, 3)]),
  (8, [(8, .ireturn, 1)])]
/-- 151: EightBlocksModel.named(II)I -/
def tb_151 : am_T := [(39, [(0, .iload 0, 1), (1, .tableswitch 110 0 3 #[32, 50, 68, 73], 31), (32, .iload 1, 1), (33, .sipush 23, 2), (35, .if_icmp .ge 47, 3), (38, .iload 1, 1), (39, .sipush 1, 1)]),
  (50, [(40, .iadd, 1), (41, .sipush 23, 2), (43, .irem, 1), (44, .goto 49, 3), (47, .sipush 23, 2), (49, .ireturn, 1), (50, .iload 1, 1)]),
  (61, [(51, .sipush 23, 2), (53, .if_icmp .ge 65, 3), (56, .sipush 2, 1), (57, .iload 1, 1), (58, .imul, 1), (59, .sipush 23, 2), (61, .irem, 1)]),
  (73, [(62, .goto 67, 3), (65, .sipush 23, 2), (67, .ireturn, 1), (68, .iload 1, 1), (69, .invokestatic 152, 3), (72, .ireturn, 1), (73, .iload 1, 1)]),
  (88, [(74, .sipush 23, 2), (76, .if_icmp .ge 107, 3), (79, .sipush 340830, 2), (81, .iload 1, 1), (82, .invokestatic 146, 3), (85, .ifCond .eq 93, 3), (88, .sipush 18, 2)]),
  (99, [(90, .goto 95, 3), (93, .sipush 9, 2), (95, .iload 1, 1), (96, .imul, 1), (97, .iload 1, 1), (98, .imul, 1), (99, .iload 1, 1)]),
  (110, [(100, .imul, 1), (101, .sipush 23, 2), (103, .irem, 1), (104, .goto 109, 3), (107, .sipush 23, 2), (109, .ireturn, 1), (110, .iload 1, 1)]),
  (111, [(111, .ireturn, 1)])]
/-- 152: EightBlocksModel.overOf(I)I -/
def tb_152 : am_T := [(10, [(0, .iload 0, 1), (1, .ifCond .ne 9, 3), (4, .sipush 23, 2), (6, .goto 10, 3), (9, .sipush 0, 1), (10, .istore 1, 1)]),
  (19, [(11, .sipush 1, 1), (12, .istore 2, 1), (13, .iload 2, 1), (14, .sipush 23, 2), (16, .if_icmp .ge 54, 3), (19, .iload 0, 1)]),
  (31, [(20, .i2l, 1), (21, .jsr_w 1, 1), (22, .jsr_w 22, 3), (25, .invokestatic 144, 3), (28, .ifCond .eq 46, 3), (31, .iload 0, 1)]),
  (39, [(32, .iload 2, 1), (33, .imul, 1), (34, .sipush 23, 2), (36, .irem, 1), (37, .sipush 22, 2), (39, .if_icmp .ne 46, 3)]),
  (51, [(42, .iload 2, 1), (43, .goto 47, 3), (46, .iload 1, 1), (47, .istore 1, 1), (48, .iinc 2 1, 3), (51, .goto 13, 3)]),
  (55, [(54, .iload 1, 1), (55, .ireturn, 1)])]
/-- 153: EightBlocksModel.basic(I)I -/
def tb_153 : am_T := [(5, [(0, .sipush 8388608, 2), (2, .istore 1, 1), (3, .sipush 0, 1), (4, .istore 2, 1), (5, .iload 2, 1)]),
  (14, [(6, .sipush 23, 2), (8, .if_icmp .ge 44, 3), (11, .iload 1, 1), (12, .sipush 8047776, 2), (14, .iload 2, 1)]),
  (23, [(15, .invokestatic 146, 3), (18, .ifCond .eq 35, 3), (21, .sipush 1, 1), (22, .iload 2, 1), (23, .iload 0, 1)]),
  (30, [(24, .isub, 1), (25, .sipush 23, 2), (27, .iadd, 1), (28, .sipush 23, 2), (30, .irem, 1)]),
  (37, [(31, .ishl, 1), (32, .goto 36, 3), (35, .sipush 0, 1), (36, .ior, 1), (37, .istore 1, 1)]),
  (45, [(38, .iinc 2 1, 3), (41, .goto 5, 3), (44, .iload 1, 1), (45, .ireturn, 1)])]
/-- 154: EightBlocksModel.highest(I)I -/
def tb_154 : am_T := [(4, [(0, .sipush 23, 2), (2, .istore 1, 1), (3, .iload 1, 1), (4, .ifCond .le 21, 3)]),
  (12, [(7, .iload 0, 1), (8, .iload 1, 1), (9, .invokestatic 146, 3), (12, .ifCond .ne 21, 3)]),
  (22, [(15, .iinc 1 (-1), 3), (18, .goto 3, 3), (21, .iload 1, 1), (22, .ireturn, 1)])]
/-- 155: EightBlocksModel.comes(II)V -/
def tb_155 : am_T := [(17, [(0, .iload 1, 1), (1, .istore 3, 1), (2, .iload 2, 1), (3, .istore 4, 2), (5, .sipush 0, 1), (6, .istore 5, 2), (8, .iload 5, 2), (10, .aload 0, 1), (11, .getfield 579, 3), (14, .if_icmp .ge 62, 3), (17, .iload 3, 1)]),
  (39, [(18, .aload 0, 1), (19, .getfield 577, 3), (22, .iload 5, 2), (24, .iaload, 1), (25, .invokestatic 154, 3), (28, .invokestatic 146, 3), (31, .ifCond .eq 56, 3), (34, .iload 3, 1), (35, .aload 0, 1), (36, .getfield 577, 3), (39, .iload 5, 2)]),
  (56, [(41, .iaload, 1), (42, .ixor, 1), (43, .istore 3, 1), (44, .iload 4, 2), (46, .aload 0, 1), (47, .getfield 578, 3), (50, .iload 5, 2), (52, .iaload, 1), (53, .ixor, 1), (54, .istore 4, 2), (56, .iinc 5 1, 3)]),
  (79, [(59, .goto 8, 3), (62, .iload 3, 1), (63, .invokestatic 154, 3), (66, .istore 5, 2), (68, .aload 0, 1), (69, .getfield 579, 3), (72, .istore 6, 2), (74, .aload 0, 1), (75, .getfield 579, 3), (78, .sipush 1, 1), (79, .isub, 1)]),
  (102, [(80, .istore 7, 2), (82, .iload 7, 2), (84, .ifCond .lt 182, 3), (87, .aload 0, 1), (88, .getfield 577, 3), (91, .iload 7, 2), (93, .iaload, 1), (94, .iload 5, 2), (96, .invokestatic 146, 3), (99, .ifCond .eq 125, 3), (102, .aload 0, 1)]),
  (119, [(103, .getfield 577, 3), (106, .iload 7, 2), (108, .dup2, 1), (109, .iaload, 1), (110, .iload 3, 1), (111, .ixor, 1), (112, .iastore, 1), (113, .aload 0, 1), (114, .getfield 578, 3), (117, .iload 7, 2), (119, .dup2, 1)]),
  (137, [(120, .iaload, 1), (121, .iload 4, 2), (123, .ixor, 1), (124, .iastore, 1), (125, .aload 0, 1), (126, .getfield 577, 3), (129, .iload 7, 2), (131, .iaload, 1), (132, .invokestatic 154, 3), (135, .iload 5, 2), (137, .if_icmp .le 176, 3)]),
  (156, [(140, .aload 0, 1), (141, .getfield 577, 3), (144, .iload 7, 2), (146, .sipush 1, 1), (147, .iadd, 1), (148, .aload 0, 1), (149, .getfield 577, 3), (152, .iload 7, 2), (154, .iaload, 1), (155, .iastore, 1), (156, .aload 0, 1)]),
  (174, [(157, .getfield 578, 3), (160, .iload 7, 2), (162, .sipush 1, 1), (163, .iadd, 1), (164, .aload 0, 1), (165, .getfield 578, 3), (168, .iload 7, 2), (170, .iaload, 1), (171, .iastore, 1), (172, .iload 7, 2), (174, .istore 6, 2)]),
  (196, [(176, .iinc 7 (-1), 3), (179, .goto 82, 3), (182, .aload 0, 1), (183, .getfield 577, 3), (186, .iload 6, 2), (188, .iload 3, 1), (189, .iastore, 1), (190, .aload 0, 1), (191, .getfield 578, 3), (194, .iload 6, 2), (196, .iload 4, 2)]),
  (209, [(198, .iastore, 1), (199, .aload 0, 1), (200, .dup, 1), (201, .getfield 579, 3), (204, .sipush 1, 1), (205, .iadd, 1), (206, .putfield 579, 3), (209, .return_, 1)])]
/-- 156: EightBlocksModel.numberOf(I)I -/
def tb_156 : am_T := [(6, [(0, .iload 1, 1), (1, .istore 2, 1), (2, .sipush 0, 1), (3, .istore 3, 1), (4, .sipush 11, 2), (6, .istore 4, 2)]),
  (18, [(8, .iload 4, 2), (10, .ifCond .lt 56, 3), (13, .iload 2, 1), (14, .aload 0, 1), (15, .getfield 577, 3), (18, .iload 4, 2)]),
  (31, [(20, .iaload, 1), (21, .invokestatic 154, 3), (24, .invokestatic 146, 3), (27, .ifCond .eq 50, 3), (30, .iload 2, 1), (31, .aload 0, 1)]),
  (40, [(32, .getfield 577, 3), (35, .iload 4, 2), (37, .iaload, 1), (38, .ixor, 1), (39, .istore 2, 1), (40, .iload 3, 1)]),
  (49, [(41, .aload 0, 1), (42, .getfield 578, 3), (45, .iload 4, 2), (47, .iaload, 1), (48, .ixor, 1), (49, .istore 3, 1)]),
  (61, [(50, .iinc 4 (-1), 3), (53, .goto 8, 3), (56, .iload 2, 1), (57, .ifCond .ne 64, 3), (60, .iload 3, 1), (61, .goto 66, 3)]),
  (66, [(64, .sipush (-4), 2), (66, .ireturn, 1)])]
/-- 157: EightBlocksModel.wordOf(I)I -/
def tb_157 : am_T := [(4, [(0, .sipush 0, 1), (1, .istore 1, 1), (2, .sipush 0, 1), (3, .istore 2, 1), (4, .iload 2, 1)]),
  (12, [(5, .sipush 12, 2), (7, .if_icmp .ge 35, 3), (10, .iload 1, 1), (11, .iload 0, 1), (12, .iload 2, 1)]),
  (23, [(13, .invokestatic 146, 3), (16, .ifCond .eq 26, 3), (19, .iload 2, 1), (20, .invokestatic 153, 3), (23, .goto 27, 3)]),
  (32, [(26, .sipush 0, 1), (27, .ixor, 1), (28, .istore 1, 1), (29, .iinc 2 1, 3), (32, .goto 4, 3)]),
  (36, [(35, .iload 1, 1), (36, .ireturn, 1)])]
/-- 158: EightBlocksModel.closest(II)I -/
def tb_158 : am_T := [(12, [(0, .sipush 25, 2), (2, .istore 3, 1), (3, .sipush 0, 1), (4, .istore 4, 2), (6, .sipush 0, 1), (7, .istore 5, 2), (9, .sipush 4095, 3), (12, .istore 6, 2)]),
  (27, [(14, .iload 6, 2), (16, .ifCond .lt 99, 3), (19, .iload 1, 1), (20, .aload 0, 1), (21, .getfield 580, 3), (24, .iload 6, 2), (26, .iaload, 1), (27, .ixor, 1)]),
  (43, [(28, .invokestatic 147, 3), (31, .istore 7, 2), (33, .iload 7, 2), (35, .iload 3, 1), (36, .if_icmp .ge 43, 3), (39, .sipush 1, 1), (40, .goto 58, 3), (43, .iload 7, 2)]),
  (58, [(45, .iload 3, 1), (46, .if_icmp .ne 56, 3), (49, .iload 4, 2), (51, .sipush 1, 1), (52, .iadd, 1), (53, .goto 58, 3), (56, .iload 4, 2), (58, .istore 4, 2)]),
  (73, [(60, .iload 7, 2), (62, .iload 3, 1), (63, .if_icmp .gt 76, 3), (66, .aload 0, 1), (67, .getfield 580, 3), (70, .iload 6, 2), (72, .iaload, 1), (73, .goto 78, 3)]),
  (91, [(76, .iload 5, 2), (78, .istore 5, 2), (80, .iload 7, 2), (82, .iload 3, 1), (83, .if_icmp .ge 91, 3), (86, .iload 7, 2), (88, .goto 92, 3), (91, .iload 3, 1)]),
  (105, [(92, .istore 3, 1), (93, .iinc 6 (-1), 3), (96, .goto 14, 3), (99, .iload 2, 1), (100, .sipush 2, 1), (101, .if_icmp .ne 108, 3), (104, .iload 3, 1), (105, .goto 120, 3)]),
  (120, [(108, .iload 2, 1), (109, .sipush 3, 1), (110, .if_icmp .ne 118, 3), (113, .iload 4, 2), (115, .goto 120, 3), (118, .iload 5, 2), (120, .ireturn, 1)])]
/-- 159: EightBlocksModel.octadsIn(I)I -/
def tb_159 : am_T := [(4, [(0, .sipush 0, 1), (1, .istore 2, 1), (2, .sipush 0, 1), (3, .istore 3, 1), (4, .iload 3, 1)]),
  (13, [(5, .sipush 759, 3), (8, .if_icmp .ge 38, 3), (11, .iload 2, 1), (12, .aload 0, 1), (13, .getfield 581, 3)]),
  (20, [(16, .iload 3, 1), (17, .iaload, 1), (18, .iload 1, 1), (19, .sipush (-1), 1), (20, .ixor, 1)]),
  (29, [(21, .iand, 1), (22, .ifCond .ne 29, 3), (25, .sipush 1, 1), (26, .goto 30, 3), (29, .sipush 0, 1)]),
  (38, [(30, .iadd, 1), (31, .istore 2, 1), (32, .iinc 3 1, 3), (35, .goto 4, 3), (38, .iload 2, 1)]),
  (39, [(39, .ireturn, 1)])]
/-- 160: EightBlocksModel.octadsWith(I)I -/
def tb_160 : am_T := [(4, [(0, .sipush 0, 1), (1, .istore 2, 1), (2, .sipush 0, 1), (3, .istore 3, 1), (4, .iload 3, 1)]),
  (13, [(5, .sipush 759, 3), (8, .if_icmp .ge 38, 3), (11, .iload 2, 1), (12, .iload 1, 1), (13, .aload 0, 1)]),
  (20, [(14, .getfield 581, 3), (17, .iload 3, 1), (18, .iaload, 1), (19, .sipush (-1), 1), (20, .ixor, 1)]),
  (29, [(21, .iand, 1), (22, .ifCond .ne 29, 3), (25, .sipush 1, 1), (26, .goto 30, 3), (29, .sipush 0, 1)]),
  (38, [(30, .iadd, 1), (31, .istore 2, 1), (32, .iinc 3 1, 3), (35, .goto 4, 3), (38, .iload 2, 1)]),
  (39, [(39, .ireturn, 1)])]
/-- 161: EightBlocksModel.word(II)I -/
def tb_161 : am_T := [(8, [(0, .iload 1, 1), (1, .invokestatic 149, 3), (4, .ifCond .ne 9, 3), (7, .sipush (-1), 1), (8, .ireturn, 1)]),
  (56, [(9, .iload 2, 1), (10, .tableswitch 82 0 6 #[52, 57, 63, 63, 63, 70, 76], 42), (52, .iload 1, 1), (53, .invokestatic 147, 3), (56, .ireturn, 1)]),
  (63, [(57, .aload 0, 1), (58, .iload 1, 1), (59, .invokevirtual 156, 3), (62, .ireturn, 1), (63, .aload 0, 1)]),
  (70, [(64, .iload 1, 1), (65, .iload 2, 1), (66, .invokevirtual 158, 3), (69, .ireturn, 1), (70, .aload 0, 1)]),
  (77, [(71, .iload 1, 1), (72, .invokevirtual 159, 3), (75, .ireturn, 1), (76, .aload 0, 1), (77, .iload 1, 1)]),
  (83, [(78, .invokevirtual 160, 3), (81, .ireturn, 1), (82, .sipush (-1), 1), (83, .ireturn, 1)])]
/-- 162: EightBlocksModel.dodecad(I)I -/
def tb_162 : am_T := [(5, [(0, .iload 1, 1), (1, .istore 2, 1), (2, .sipush 0, 1), (3, .istore 3, 1), (4, .iload 3, 1), (5, .sipush 4095, 3)]),
  (19, [(8, .if_icmp .ge 57, 3), (11, .iload 2, 1), (12, .ifCond .gt 29, 3), (15, .aload 0, 1), (16, .getfield 580, 3), (19, .iload 3, 1)]),
  (30, [(20, .iaload, 1), (21, .invokestatic 147, 3), (24, .sipush 12, 2), (26, .if_icmp .eq 57, 3), (29, .iload 2, 1), (30, .aload 0, 1)]),
  (41, [(31, .getfield 580, 3), (34, .iload 3, 1), (35, .iaload, 1), (36, .invokestatic 147, 3), (39, .sipush 12, 2), (41, .if_icmp .ne 48, 3)]),
  (51, [(44, .sipush 1, 1), (45, .goto 49, 3), (48, .sipush 0, 1), (49, .isub, 1), (50, .istore 2, 1), (51, .iinc 3 1, 3)]),
  (63, [(54, .goto 4, 3), (57, .aload 0, 1), (58, .getfield 580, 3), (61, .iload 3, 1), (62, .iaload, 1), (63, .ireturn, 1)])]
/-- 163: EightBlocksModel.block(II)I -/
def tb_163 : am_T := [(31, [(0, .iload 1, 1), (1, .tableswitch 94 0 2 #[28, 49, 72], 27), (28, .iload 2, 1), (29, .i2l, 1), (30, .jsr_w 0, 1), (31, .jsr_w 4095, 3)]),
  (47, [(34, .invokestatic 144, 3), (37, .ifCond .eq 47, 3), (40, .iload 2, 1), (41, .invokestatic 157, 3), (44, .goto 48, 3), (47, .sipush (-1), 1)]),
  (55, [(48, .ireturn, 1), (49, .iload 2, 1), (50, .i2l, 1), (51, .jsr_w 0, 1), (52, .jsr_w 758, 3), (55, .invokestatic 144, 3)]),
  (67, [(58, .ifCond .eq 70, 3), (61, .aload 0, 1), (62, .getfield 581, 3), (65, .iload 2, 1), (66, .iaload, 1), (67, .goto 71, 3)]),
  (75, [(70, .sipush (-1), 1), (71, .ireturn, 1), (72, .iload 2, 1), (73, .i2l, 1), (74, .jsr_w 0, 1), (75, .jsr_w 2575, 3)]),
  (89, [(78, .invokestatic 144, 3), (81, .ifCond .eq 92, 3), (84, .aload 0, 1), (85, .iload 2, 1), (86, .invokevirtual 162, 3), (89, .goto 93, 3)]),
  (95, [(92, .sipush (-1), 1), (93, .ireturn, 1), (94, .sipush (-1), 1), (95, .ireturn, 1)])]
/-- 164: EightBlocksModel.octadOf(I)I -/
def tb_164 : am_T := [(6, [(0, .sipush 0, 1), (1, .istore 2, 1), (2, .iload 2, 1), (3, .sipush 758, 3), (6, .if_icmp .ge 28, 3)]),
  (15, [(9, .iload 1, 1), (10, .aload 0, 1), (11, .getfield 581, 3), (14, .iload 2, 1), (15, .iaload, 1)]),
  (22, [(16, .sipush (-1), 1), (17, .ixor, 1), (18, .iand, 1), (19, .ifCond .eq 28, 3), (22, .iinc 2 1, 3)]),
  (33, [(25, .goto 2, 3), (28, .aload 0, 1), (29, .getfield 581, 3), (32, .iload 2, 1), (33, .iaload, 1)]),
  (34, [(34, .ireturn, 1)])]
/-- 165: EightBlocksModel.complete(I)I -/
def tb_165 : am_T := [(7, [(0, .iload 1, 1), (1, .invokestatic 149, 3), (4, .ifCond .ne 11, 3), (7, .sipush (-1), 1)]),
  (15, [(8, .goto 29, 3), (11, .iload 1, 1), (12, .invokestatic 147, 3), (15, .sipush 5, 1)]),
  (24, [(16, .if_icmp .eq 24, 3), (19, .sipush (-2), 2), (21, .goto 29, 3), (24, .aload 0, 1)]),
  (29, [(25, .iload 1, 1), (26, .invokevirtual 164, 3), (29, .ireturn, 1)])]
/-- 166: EightBlocksModel.tetradAt(II)I -/
def tb_166 : am_T := [(5, [(0, .iload 1, 1), (1, .iload 2, 1), (2, .invokestatic 146, 3), (5, .ifCond .eq 12, 3)]),
  (13, [(8, .iload 1, 1), (9, .goto 25, 3), (12, .aload 0, 1), (13, .iload 1, 1)]),
  (17, [(14, .sipush 1, 1), (15, .iload 2, 1), (16, .ishl, 1), (17, .ior, 1)]),
  (23, [(18, .invokevirtual 164, 3), (21, .iload 1, 1), (22, .sipush (-1), 1), (23, .ixor, 1)]),
  (25, [(24, .iand, 1), (25, .ireturn, 1)])]
/-- 167: EightBlocksModel.sextet(II)I -/
def tb_167 : am_T := [(9, [(0, .iload 1, 1), (1, .invokestatic 149, 3), (4, .ifCond .eq 19, 3), (7, .iload 2, 1), (8, .i2l, 1), (9, .jsr_w 0, 1)]),
  (21, [(10, .jsr_w 5, 3), (13, .invokestatic 144, 3), (16, .ifCond .ne 21, 3), (19, .sipush (-1), 1), (20, .ireturn, 1), (21, .iload 1, 1)]),
  (32, [(22, .invokestatic 147, 3), (25, .sipush 4, 1), (26, .if_icmp .eq 32, 3), (29, .sipush (-2), 2), (31, .ireturn, 1), (32, .sipush 16777215, 2)]),
  (41, [(34, .istore 3, 1), (35, .sipush 0, 1), (36, .istore 4, 2), (38, .sipush 0, 1), (39, .istore 5, 2), (41, .iload 5, 2)]),
  (50, [(43, .iload 2, 1), (44, .if_icmp .gt 71, 3), (47, .aload 0, 1), (48, .iload 1, 1), (49, .iload 3, 1), (50, .invokestatic 148, 3)]),
  (62, [(53, .invokevirtual 166, 3), (56, .istore 4, 2), (58, .iload 3, 1), (59, .iload 4, 2), (61, .sipush (-1), 1), (62, .ixor, 1)]),
  (73, [(63, .iand, 1), (64, .istore 3, 1), (65, .iinc 5 1, 3), (68, .goto 41, 3), (71, .iload 4, 2), (73, .ireturn, 1)])]
/-- 168: EightBlocksModel.isOfTwo(II)Z -/
def tb_168 : am_T := [(5, [(0, .sipush 1, 1), (1, .istore 3, 1), (2, .sipush 0, 1), (3, .istore 4, 2), (5, .iload 4, 2)]),
  (16, [(7, .sipush 24, 2), (9, .if_icmp .ge 51, 3), (12, .iload 3, 1), (13, .ifCond .eq 51, 3), (16, .iload 1, 1)]),
  (26, [(17, .iload 4, 2), (19, .invokestatic 146, 3), (22, .ifCond .eq 39, 3), (25, .aload 0, 1), (26, .iload 2, 1)]),
  (34, [(27, .iload 4, 2), (29, .invokevirtual 166, 3), (32, .iload 1, 1), (33, .sipush (-1), 1), (34, .ixor, 1)]),
  (43, [(35, .iand, 1), (36, .ifCond .ne 43, 3), (39, .sipush 1, 1), (40, .goto 44, 3), (43, .sipush 0, 1)]),
  (52, [(44, .istore 3, 1), (45, .iinc 4 1, 3), (48, .goto 5, 3), (51, .iload 3, 1), (52, .ireturn, 1)])]
/-- 169: EightBlocksModel.both(II)I -/
def tb_169 : am_T := [(14, [(0, .iload 1, 1), (1, .invokestatic 149, 3), (4, .ifCond .eq 14, 3), (7, .iload 2, 1), (8, .invokestatic 149, 3), (11, .ifCond .ne 16, 3), (14, .sipush (-1), 1)]),
  (25, [(15, .ireturn, 1), (16, .iload 1, 1), (17, .invokestatic 147, 3), (20, .sipush 4, 1), (21, .if_icmp .ne 32, 3), (24, .iload 2, 1), (25, .invokestatic 147, 3)]),
  (37, [(28, .sipush 4, 1), (29, .if_icmp .eq 35, 3), (32, .sipush (-2), 2), (34, .ireturn, 1), (35, .sipush 0, 1), (36, .istore 3, 1), (37, .sipush 0, 1)]),
  (50, [(38, .istore 4, 2), (40, .iload 4, 2), (42, .sipush 759, 3), (45, .if_icmp .ge 92, 3), (48, .iload 3, 1), (49, .aload 0, 1), (50, .aload 0, 1)]),
  (64, [(51, .getfield 581, 3), (54, .iload 4, 2), (56, .iaload, 1), (57, .iload 1, 1), (58, .invokevirtual 168, 3), (61, .ifCond .eq 83, 3), (64, .aload 0, 1)]),
  (76, [(65, .aload 0, 1), (66, .getfield 581, 3), (69, .iload 4, 2), (71, .iaload, 1), (72, .iload 2, 1), (73, .invokevirtual 168, 3), (76, .ifCond .eq 83, 3)]),
  (89, [(79, .sipush 1, 1), (80, .goto 84, 3), (83, .sipush 0, 1), (84, .iadd, 1), (85, .istore 3, 1), (86, .iinc 4 1, 3), (89, .goto 40, 3)]),
  (93, [(92, .iload 3, 1), (93, .ireturn, 1)])]
/-- 170: EightBlocksModel.met(II)I -/
def tb_170 : am_T := [(9, [(0, .iload 1, 1), (1, .invokestatic 149, 3), (4, .ifCond .eq 19, 3), (7, .iload 2, 1), (8, .i2l, 1), (9, .jsr_w 0, 1)]),
  (21, [(10, .jsr_w 8, 3), (13, .invokestatic 144, 3), (16, .ifCond .ne 21, 3), (19, .sipush (-1), 1), (20, .ireturn, 1), (21, .sipush 0, 1)]),
  (31, [(22, .istore 3, 1), (23, .sipush 0, 1), (24, .istore 4, 2), (26, .iload 4, 2), (28, .sipush 759, 3), (31, .if_icmp .ge 64, 3)]),
  (42, [(34, .iload 3, 1), (35, .aload 0, 1), (36, .getfield 581, 3), (39, .iload 4, 2), (41, .iaload, 1), (42, .iload 1, 1)]),
  (52, [(43, .iand, 1), (44, .invokestatic 147, 3), (47, .iload 2, 1), (48, .if_icmp .ne 55, 3), (51, .sipush 1, 1), (52, .goto 56, 3)]),
  (64, [(55, .sipush 0, 1), (56, .iadd, 1), (57, .istore 3, 1), (58, .iinc 4 1, 3), (61, .goto 26, 3), (64, .iload 3, 1)]),
  (65, [(65, .ireturn, 1)])]
/-- 171: EightBlocksModel.isMove(I)Z -/
def tb_171 : am_T := [(3, [(0, .iload 0, 1), (1, .i2l, 1), (2, .jsr_w 0, 1), (3, .jsr_w 4, 3)]),
  (9, [(6, .invokestatic 144, 3), (9, .ireturn, 1)])]
/-- 172: EightBlocksModel.to(II)I -/
def tb_172 : am_T := [(6, [(0, .aload 0, 1), (1, .getfield 576, 3), (4, .sipush 24, 2), (6, .iload 1, 1)]),
  (10, [(7, .imul, 1), (8, .iload 2, 1), (9, .iadd, 1), (10, .iaload, 1)]),
  (11, [(11, .ireturn, 1)])]
/-- 173: EightBlocksModel.move(II)I -/
def tb_173 : am_T := [(7, [(0, .iload 1, 1), (1, .invokestatic 171, 3), (4, .ifCond .eq 24, 3), (7, .iload 2, 1)]),
  (15, [(8, .i2l, 1), (9, .invokestatic 150, 3), (12, .ifCond .eq 24, 3), (15, .aload 0, 1)]),
  (21, [(16, .iload 1, 1), (17, .iload 2, 1), (18, .invokevirtual 172, 3), (21, .goto 25, 3)]),
  (25, [(24, .sipush (-1), 1), (25, .ireturn, 1)])]
/-- 174: EightBlocksModel.goes(II)I -/
def tb_174 : am_T := [(5, [(0, .sipush 0, 1), (1, .istore 3, 1), (2, .sipush 0, 1), (3, .istore 4, 2), (5, .iload 4, 2)]),
  (14, [(7, .sipush 24, 2), (9, .if_icmp .ge 43, 3), (12, .iload 3, 1), (13, .iload 2, 1), (14, .iload 4, 2)]),
  (24, [(16, .invokestatic 146, 3), (19, .ifCond .eq 34, 3), (22, .sipush 1, 1), (23, .aload 0, 1), (24, .iload 1, 1)]),
  (34, [(25, .iload 4, 2), (27, .invokevirtual 172, 3), (30, .ishl, 1), (31, .goto 35, 3), (34, .sipush 0, 1)]),
  (43, [(35, .ior, 1), (36, .istore 3, 1), (37, .iinc 4 1, 3), (40, .goto 5, 3), (43, .iload 3, 1)]),
  (44, [(44, .ireturn, 1)])]
/-- 175: EightBlocksModel.sent(II)I -/
def tb_175 : am_T := [(7, [(0, .iload 1, 1), (1, .invokestatic 171, 3), (4, .ifCond .eq 23, 3), (7, .iload 2, 1)]),
  (15, [(8, .invokestatic 149, 3), (11, .ifCond .eq 23, 3), (14, .aload 0, 1), (15, .iload 1, 1)]),
  (23, [(16, .iload 2, 1), (17, .invokevirtual 174, 3), (20, .goto 24, 3), (23, .sipush (-1), 1)]),
  (24, [(24, .ireturn, 1)])]
/-- 176: EightBlocksModel.keeps(I)Z -/
def tb_176 : am_T := [(4, [(0, .sipush 1, 1), (1, .istore 2, 1), (2, .sipush 0, 1), (3, .istore 3, 1), (4, .iload 3, 1)]),
  (14, [(5, .sipush 12, 2), (7, .if_icmp .ge 42, 3), (10, .iload 2, 1), (11, .ifCond .eq 42, 3), (14, .aload 0, 1)]),
  (21, [(15, .aload 0, 1), (16, .iload 1, 1), (17, .iload 3, 1), (18, .invokestatic 153, 3), (21, .invokevirtual 174, 3)]),
  (34, [(24, .invokevirtual 156, 3), (27, .ifCond .lt 34, 3), (30, .sipush 1, 1), (31, .goto 35, 3), (34, .sipush 0, 1)]),
  (43, [(35, .istore 2, 1), (36, .iinc 3 1, 3), (39, .goto 4, 3), (42, .iload 2, 1), (43, .ireturn, 1)])]
/-- 177: EightBlocksModel.ring(II)I -/
def tb_177 : am_T := [(4, [(0, .sipush 1, 1), (1, .istore 3, 1), (2, .aload 0, 1), (3, .iload 1, 1), (4, .iload 2, 1)]),
  (13, [(5, .invokevirtual 172, 3), (8, .istore 4, 2), (10, .iload 4, 2), (12, .iload 2, 1), (13, .if_icmp .eq 37, 3)]),
  (25, [(16, .iload 3, 1), (17, .sipush 24, 2), (19, .if_icmp .ge 37, 3), (22, .iinc 3 1, 3), (25, .aload 0, 1)]),
  (34, [(26, .iload 1, 1), (27, .iload 4, 2), (29, .invokevirtual 172, 3), (32, .istore 4, 2), (34, .goto 10, 3)]),
  (38, [(37, .iload 3, 1), (38, .ireturn, 1)])]
/-- 178: EightBlocksModel.isLeast(II)Z -/
def tb_178 : am_T := [(5, [(0, .sipush 1, 1), (1, .istore 3, 1), (2, .iload 2, 1), (3, .istore 4, 2), (5, .sipush 0, 1)]),
  (15, [(6, .istore 5, 2), (8, .iload 5, 2), (10, .sipush 24, 2), (12, .if_icmp .ge 46, 3), (15, .iload 3, 1)]),
  (23, [(16, .ifCond .eq 46, 3), (19, .aload 0, 1), (20, .iload 1, 1), (21, .iload 4, 2), (23, .invokevirtual 172, 3)]),
  (34, [(26, .istore 4, 2), (28, .iload 4, 2), (30, .iload 2, 1), (31, .if_icmp .lt 38, 3), (34, .sipush 1, 1)]),
  (43, [(35, .goto 39, 3), (38, .sipush 0, 1), (39, .istore 3, 1), (40, .iinc 5 1, 3), (43, .goto 8, 3)]),
  (47, [(46, .iload 3, 1), (47, .ireturn, 1)])]
/-- 179: EightBlocksModel.rings(I)I -/
def tb_179 : am_T := [(4, [(0, .sipush 0, 1), (1, .istore 2, 1), (2, .sipush 0, 1), (3, .istore 3, 1), (4, .iload 3, 1)]),
  (12, [(5, .sipush 24, 2), (7, .if_icmp .ge 33, 3), (10, .iload 2, 1), (11, .aload 0, 1), (12, .iload 1, 1)]),
  (21, [(13, .iload 3, 1), (14, .invokevirtual 178, 3), (17, .ifCond .eq 24, 3), (20, .sipush 1, 1), (21, .goto 25, 3)]),
  (30, [(24, .sipush 0, 1), (25, .iadd, 1), (26, .istore 2, 1), (27, .iinc 3 1, 3), (30, .goto 4, 3)]),
  (34, [(33, .iload 2, 1), (34, .ireturn, 1)])]
/-- 180: EightBlocksModel.orderOf(I)I -/
def tb_180 : am_T := [(5, [(0, .sipush 1, 1), (1, .istore 2, 1), (2, .sipush 0, 1), (3, .istore 3, 1), (4, .iload 3, 1), (5, .sipush 24, 2)]),
  (16, [(7, .if_icmp .ge 55, 3), (10, .aload 0, 1), (11, .iload 1, 1), (12, .iload 3, 1), (13, .invokevirtual 177, 3), (16, .istore 4, 2)]),
  (26, [(18, .iload 2, 1), (19, .istore 5, 2), (21, .sipush 1, 1), (22, .istore 6, 2), (24, .iload 6, 2), (26, .sipush 24, 2)]),
  (38, [(28, .if_icmp .ge 49, 3), (31, .iload 2, 1), (32, .iload 4, 2), (34, .irem, 1), (35, .ifCond .eq 49, 3), (38, .iload 2, 1)]),
  (49, [(39, .iload 5, 2), (41, .iadd, 1), (42, .istore 2, 1), (43, .iinc 6 1, 3), (46, .goto 24, 3), (49, .iinc 3 1, 3)]),
  (56, [(52, .goto 4, 3), (55, .iload 2, 1), (56, .ireturn, 1)])]
/-- 181: EightBlocksModel.stays(I)I -/
def tb_181 : am_T := [(4, [(0, .sipush 0, 1), (1, .istore 2, 1), (2, .sipush 0, 1), (3, .istore 3, 1), (4, .iload 3, 1)]),
  (12, [(5, .sipush 24, 2), (7, .if_icmp .ge 34, 3), (10, .iload 2, 1), (11, .aload 0, 1), (12, .iload 1, 1)]),
  (21, [(13, .iload 3, 1), (14, .invokevirtual 172, 3), (17, .iload 3, 1), (18, .if_icmp .ne 25, 3), (21, .sipush 1, 1)]),
  (28, [(22, .goto 26, 3), (25, .sipush 0, 1), (26, .iadd, 1), (27, .istore 2, 1), (28, .iinc 3 1, 3)]),
  (35, [(31, .goto 4, 3), (34, .iload 2, 1), (35, .ireturn, 1)])]
/-- 182: EightBlocksModel.octadsKept(I)I -/
def tb_182 : am_T := [(4, [(0, .sipush 0, 1), (1, .istore 2, 1), (2, .sipush 0, 1), (3, .istore 3, 1), (4, .iload 3, 1)]),
  (13, [(5, .sipush 759, 3), (8, .if_icmp .ge 45, 3), (11, .iload 2, 1), (12, .aload 0, 1), (13, .iload 1, 1)]),
  (20, [(14, .aload 0, 1), (15, .getfield 581, 3), (18, .iload 3, 1), (19, .iaload, 1), (20, .invokevirtual 174, 3)]),
  (29, [(23, .aload 0, 1), (24, .getfield 581, 3), (27, .iload 3, 1), (28, .iaload, 1), (29, .if_icmp .ne 36, 3)]),
  (38, [(32, .sipush 1, 1), (33, .goto 37, 3), (36, .sipush 0, 1), (37, .iadd, 1), (38, .istore 2, 1)]),
  (46, [(39, .iinc 3 1, 3), (42, .goto 4, 3), (45, .iload 2, 1), (46, .ireturn, 1)])]
/-- 183: EightBlocksModel.puts(I)V -/
def tb_183 : am_T := [(5, [(0, .aload 0, 1), (1, .getfield 582, 3), (4, .aload 0, 1), (5, .getfield 583, 3)]),
  (11, [(8, .iload 1, 1), (9, .iastore, 1), (10, .aload 0, 1), (11, .dup, 1)]),
  (17, [(12, .getfield 583, 3), (15, .sipush 1, 1), (16, .iadd, 1), (17, .putfield 583, 3)]),
  (20, [(20, .return_, 1)])]
/-- 184: EightBlocksModel.putsRing(II)V -/
def tb_184 : am_T := [(9, [(0, .aload 0, 1), (1, .sipush 40, 2), (3, .invokevirtual 183, 3), (6, .iload 2, 1), (7, .istore 3, 1), (8, .aload 0, 1), (9, .iload 1, 1)]),
  (22, [(10, .iload 2, 1), (11, .invokevirtual 177, 3), (14, .istore 4, 2), (16, .iload 4, 2), (18, .ifCond .le 79, 3), (21, .iload 3, 1), (22, .sipush 9, 2)]),
  (34, [(24, .if_icmp .le 38, 3), (27, .aload 0, 1), (28, .sipush 48, 2), (30, .iload 3, 1), (31, .sipush 10, 2), (33, .idiv, 1), (34, .iadd, 1)]),
  (45, [(35, .invokevirtual 183, 3), (38, .aload 0, 1), (39, .sipush 48, 2), (41, .iload 3, 1), (42, .sipush 10, 2), (44, .irem, 1), (45, .iadd, 1)]),
  (58, [(46, .invokevirtual 183, 3), (49, .aload 0, 1), (50, .iload 4, 2), (52, .sipush 1, 1), (53, .if_icmp .le 61, 3), (56, .sipush 44, 2), (58, .goto 63, 3)]),
  (72, [(61, .sipush 41, 2), (63, .invokevirtual 183, 3), (66, .aload 0, 1), (67, .iload 1, 1), (68, .iload 3, 1), (69, .invokevirtual 172, 3), (72, .istore 3, 1)]),
  (79, [(73, .iinc 4 (-1), 3), (76, .goto 16, 3), (79, .return_, 1)])]
/-- 185: EightBlocksModel.texts(I)I -/
def tb_185 : am_T := [(6, [(0, .aload 0, 1), (1, .sipush 0, 1), (2, .putfield 583, 3), (5, .sipush 0, 1), (6, .istore 2, 1)]),
  (14, [(7, .iload 2, 1), (8, .sipush 24, 2), (10, .if_icmp .ge 44, 3), (13, .aload 0, 1), (14, .iload 1, 1)]),
  (23, [(15, .iload 2, 1), (16, .invokevirtual 178, 3), (19, .ifCond .eq 38, 3), (22, .aload 0, 1), (23, .iload 1, 1)]),
  (32, [(24, .iload 2, 1), (25, .invokevirtual 172, 3), (28, .iload 2, 1), (29, .if_icmp .eq 38, 3), (32, .aload 0, 1)]),
  (41, [(33, .iload 1, 1), (34, .iload 2, 1), (35, .invokevirtual 184, 3), (38, .iinc 2 1, 3), (41, .goto 7, 3)]),
  (48, [(44, .aload 0, 1), (45, .getfield 583, 3), (48, .ireturn, 1)])]
/-- 186: EightBlocksModel.told(II)I -/
def tb_186 : am_T := [(57, [(0, .iload 1, 1), (1, .invokestatic 171, 3), (4, .ifCond .ne 9, 3), (7, .sipush (-1), 1), (8, .ireturn, 1), (9, .iload 2, 1), (10, .tableswitch 168 0 7 #[56, 70, 76, 82, 88, 99, 105, 162], 46), (56, .aload 0, 1), (57, .iload 1, 1)]),
  (72, [(58, .invokevirtual 176, 3), (61, .ifCond .eq 68, 3), (64, .sipush 1, 1), (65, .goto 69, 3), (68, .sipush 0, 1), (69, .ireturn, 1), (70, .aload 0, 1), (71, .iload 1, 1), (72, .invokevirtual 181, 3)]),
  (87, [(75, .ireturn, 1), (76, .aload 0, 1), (77, .iload 1, 1), (78, .invokevirtual 179, 3), (81, .ireturn, 1), (82, .aload 0, 1), (83, .iload 1, 1), (84, .invokevirtual 180, 3), (87, .ireturn, 1)]),
  (99, [(88, .sipush 24, 2), (90, .aload 0, 1), (91, .iload 1, 1), (92, .invokevirtual 179, 3), (95, .isub, 1), (96, .sipush 2, 1), (97, .irem, 1), (98, .ireturn, 1), (99, .aload 0, 1)]),
  (113, [(100, .iload 1, 1), (101, .invokevirtual 182, 3), (104, .ireturn, 1), (105, .aload 0, 1), (106, .iload 1, 1), (107, .aload 0, 1), (108, .getfield 576, 3), (111, .sipush 120, 2), (113, .iaload, 1)]),
  (131, [(114, .invokevirtual 174, 3), (117, .aload 0, 1), (118, .getfield 576, 3), (121, .sipush 120, 2), (123, .iaload, 1), (124, .if_icmp .ne 131, 3), (127, .sipush 1, 1), (128, .goto 161, 3), (131, .aload 0, 1)]),
  (146, [(132, .iload 1, 1), (133, .aload 0, 1), (134, .getfield 576, 3), (137, .sipush 120, 2), (139, .iaload, 1), (140, .invokevirtual 174, 3), (143, .sipush 16777215, 2), (145, .aload 0, 1), (146, .getfield 576, 3)]),
  (162, [(149, .sipush 120, 2), (151, .iaload, 1), (152, .ixor, 1), (153, .if_icmp .ne 160, 3), (156, .sipush 2, 1), (157, .goto 161, 3), (160, .sipush 0, 1), (161, .ireturn, 1), (162, .aload 0, 1)]),
  (169, [(163, .iload 1, 1), (164, .invokevirtual 185, 3), (167, .ireturn, 1), (168, .sipush (-1), 1), (169, .ireturn, 1)])]
/-- 187: EightBlocksModel.letter(II)I -/
def tb_187 : am_T := [(7, [(0, .iload 1, 1), (1, .invokestatic 171, 3), (4, .ifCond .eq 11, 3), (7, .iload 2, 1)]),
  (13, [(8, .ifCond .ge 13, 3), (11, .sipush (-1), 1), (12, .ireturn, 1), (13, .iload 2, 1)]),
  (19, [(14, .aload 0, 1), (15, .iload 1, 1), (16, .invokevirtual 185, 3), (19, .if_icmp .ge 31, 3)]),
  (27, [(22, .aload 0, 1), (23, .getfield 582, 3), (26, .iload 2, 1), (27, .iaload, 1)]),
  (33, [(28, .goto 33, 3), (31, .sipush (-4), 2), (33, .ireturn, 1)])]
/-- 188: EightBlocksModel.type(I)I -/
def tb_188 : am_T := [(8, [(0, .iload 1, 1), (1, .i2l, 1), (2, .jsr_w 32, 3), (5, .jsr_w 126, 3), (8, .invokestatic 144, 3)]),
  (17, [(11, .ifCond .ne 16, 3), (14, .sipush (-1), 1), (15, .ireturn, 1), (16, .aload 0, 1), (17, .getfield 585, 3)]),
  (28, [(20, .sipush 100, 2), (22, .if_icmp .ne 28, 3), (25, .sipush (-3), 2), (27, .ireturn, 1), (28, .aload 0, 1)]),
  (37, [(29, .getfield 584, 3), (32, .aload 0, 1), (33, .getfield 585, 3), (36, .iload 1, 1), (37, .iastore, 1)]),
  (44, [(38, .aload 0, 1), (39, .dup, 1), (40, .getfield 585, 3), (43, .sipush 1, 1), (44, .iadd, 1)]),
  (52, [(45, .putfield 585, 3), (48, .aload 0, 1), (49, .getfield 585, 3), (52, .ireturn, 1)])]
/-- 189: EightBlocksModel.here()I -/
def tb_189 : am_T := [(11, [(0, .aload 0, 1), (1, .getfield 586, 3), (4, .aload 0, 1), (5, .getfield 585, 3), (8, .if_icmp .ge 38, 3), (11, .aload 0, 1)]),
  (22, [(12, .getfield 584, 3), (15, .aload 0, 1), (16, .getfield 586, 3), (19, .iaload, 1), (20, .sipush 32, 2), (22, .if_icmp .ne 38, 3)]),
  (32, [(25, .aload 0, 1), (26, .dup, 1), (27, .getfield 586, 3), (30, .sipush 1, 1), (31, .iadd, 1), (32, .putfield 586, 3)]),
  (46, [(35, .goto 0, 3), (38, .aload 0, 1), (39, .getfield 586, 3), (42, .aload 0, 1), (43, .getfield 585, 3), (46, .if_icmp .ge 61, 3)]),
  (58, [(49, .aload 0, 1), (50, .getfield 584, 3), (53, .aload 0, 1), (54, .getfield 586, 3), (57, .iaload, 1), (58, .goto 62, 3)]),
  (62, [(61, .sipush 0, 1), (62, .ireturn, 1)])]
/-- 190: EightBlocksModel.isFigure(I)Z -/
def tb_190 : am_T := [(5, [(0, .iload 0, 1), (1, .i2l, 1), (2, .jsr_w 48, 3), (5, .jsr_w 57, 3)]),
  (11, [(8, .invokestatic 144, 3), (11, .ireturn, 1)])]
/-- 191: EightBlocksModel.isLow(I)Z -/
def tb_191 : am_T := [(5, [(0, .iload 0, 1), (1, .i2l, 1), (2, .jsr_w 97, 3), (5, .jsr_w 122, 3)]),
  (11, [(8, .invokestatic 144, 3), (11, .ireturn, 1)])]
/-- 192: EightBlocksModel.row(Z)I -/
def tb_192 : am_T := [(7, [(0, .aload 0, 1), (1, .invokevirtual 189, 3), (4, .pop, 1), (5, .sipush 0, 1), (6, .istore 2, 1), (7, .aload 0, 1)]),
  (19, [(8, .getfield 586, 3), (11, .aload 0, 1), (12, .getfield 585, 3), (15, .if_icmp .ge 71, 3), (18, .iload 1, 1), (19, .ifCond .eq 40, 3)]),
  (31, [(22, .aload 0, 1), (23, .getfield 584, 3), (26, .aload 0, 1), (27, .getfield 586, 3), (30, .iaload, 1), (31, .invokestatic 190, 3)]),
  (45, [(34, .ifCond .eq 71, 3), (37, .goto 55, 3), (40, .aload 0, 1), (41, .getfield 584, 3), (44, .aload 0, 1), (45, .getfield 586, 3)]),
  (57, [(48, .iaload, 1), (49, .invokestatic 191, 3), (52, .ifCond .eq 71, 3), (55, .aload 0, 1), (56, .dup, 1), (57, .getfield 586, 3)]),
  (71, [(60, .sipush 1, 1), (61, .iadd, 1), (62, .putfield 586, 3), (65, .iinc 2 1, 3), (68, .goto 7, 3), (71, .iload 2, 1)]),
  (72, [(72, .ireturn, 1)])]
/-- 193: EightBlocksModel.number(I)I -/
def tb_193 : am_T := [(11, [(0, .aload 0, 1), (1, .sipush 1, 1), (2, .invokevirtual 192, 3), (5, .istore 2, 1), (6, .iload 2, 1), (7, .sipush 1, 1), (8, .if_icmp .ne 28, 3), (11, .aload 0, 1)]),
  (24, [(12, .getfield 584, 3), (15, .aload 0, 1), (16, .getfield 586, 3), (19, .sipush 1, 1), (20, .isub, 1), (21, .iaload, 1), (22, .sipush 48, 2), (24, .isub, 1)]),
  (39, [(25, .goto 68, 3), (28, .iload 2, 1), (29, .sipush 2, 1), (30, .if_icmp .ne 66, 3), (33, .sipush 10, 2), (35, .aload 0, 1), (36, .getfield 584, 3), (39, .aload 0, 1)]),
  (51, [(40, .getfield 586, 3), (43, .sipush 2, 1), (44, .isub, 1), (45, .iaload, 1), (46, .imul, 1), (47, .aload 0, 1), (48, .getfield 584, 3), (51, .aload 0, 1)]),
  (63, [(52, .getfield 586, 3), (55, .sipush 1, 1), (56, .isub, 1), (57, .iaload, 1), (58, .iadd, 1), (59, .sipush 528, 3), (62, .isub, 1), (63, .goto 68, 3)]),
  (78, [(66, .sipush 100, 2), (68, .istore 3, 1), (69, .iload 2, 1), (70, .ifCond .eq 78, 3), (73, .iload 3, 1), (74, .iload 1, 1), (75, .if_icmp .le 90, 3), (78, .aload 0, 1)]),
  (90, [(79, .dup, 1), (80, .getfield 586, 3), (83, .iload 2, 1), (84, .isub, 1), (85, .putfield 586, 3), (88, .sipush (-1), 1), (89, .ireturn, 1), (90, .iload 3, 1)]),
  (91, [(91, .ireturn, 1)])]
/-- 194: EightBlocksModel.isName(IIIIIII)Z -/
def tb_194 : am_T := [(9, [(0, .aload 0, 1), (1, .getfield 586, 3), (4, .iload 1, 1), (5, .isub, 1), (6, .istore 8, 2), (8, .iload 1, 1), (9, .iload 2, 1)]),
  (21, [(10, .if_icmp .ne 89, 3), (13, .aload 0, 1), (14, .getfield 584, 3), (17, .iload 8, 2), (19, .iaload, 1), (20, .iload 3, 1), (21, .if_icmp .ne 89, 3)]),
  (33, [(24, .aload 0, 1), (25, .getfield 584, 3), (28, .iload 8, 2), (30, .sipush 1, 1), (31, .iadd, 1), (32, .iaload, 1), (33, .iload 4, 2)]),
  (46, [(35, .if_icmp .ne 89, 3), (38, .aload 0, 1), (39, .getfield 584, 3), (42, .iload 8, 2), (44, .sipush 2, 1), (45, .iadd, 1), (46, .iaload, 1)]),
  (59, [(47, .iload 5, 2), (49, .if_icmp .ne 89, 3), (52, .aload 0, 1), (53, .getfield 584, 3), (56, .iload 8, 2), (58, .sipush 3, 1), (59, .iadd, 1)]),
  (71, [(60, .iaload, 1), (61, .iload 6, 2), (63, .if_icmp .ne 89, 3), (66, .iload 2, 1), (67, .sipush 5, 1), (68, .if_icmp .lt 85, 3), (71, .aload 0, 1)]),
  (82, [(72, .getfield 584, 3), (75, .iload 8, 2), (77, .sipush 4, 1), (78, .iadd, 1), (79, .iaload, 1), (80, .iload 7, 2), (82, .if_icmp .ne 89, 3)]),
  (90, [(85, .sipush 1, 1), (86, .goto 90, 3), (89, .sipush 0, 1), (90, .ireturn, 1)])]
/-- 195: EightBlocksModel.nameOf(I)I -/
def tb_195 : am_T := [(14, [(0, .iload 1, 1), (1, .sipush 1, 1), (2, .if_icmp .ne 49, 3), (5, .aload 0, 1), (6, .getfield 584, 3), (9, .aload 0, 1), (10, .getfield 586, 3), (13, .sipush 1, 1), (14, .isub, 1)]),
  (33, [(15, .iaload, 1), (16, .i2l, 1), (17, .jsr_w 97, 3), (20, .jsr_w 101, 3), (23, .invokestatic 144, 3), (26, .ifCond .eq 46, 3), (29, .aload 0, 1), (30, .getfield 584, 3), (33, .aload 0, 1)]),
  (48, [(34, .getfield 586, 3), (37, .sipush 1, 1), (38, .isub, 1), (39, .iaload, 1), (40, .sipush 92, 2), (42, .isub, 1), (43, .goto 48, 3), (46, .sipush (-4), 2), (48, .ireturn, 1)]),
  (61, [(49, .aload 0, 1), (50, .iload 1, 1), (51, .sipush 4, 1), (52, .sipush 115, 2), (54, .sipush 116, 2), (56, .sipush 101, 2), (58, .sipush 112, 2), (60, .sipush 0, 1), (61, .invokevirtual 194, 3)]),
  (78, [(64, .ifCond .eq 71, 3), (67, .sipush 0, 1), (68, .goto 162, 3), (71, .aload 0, 1), (72, .iload 1, 1), (73, .sipush 5, 1), (74, .sipush 116, 2), (76, .sipush 119, 2), (78, .sipush 105, 2)]),
  (96, [(80, .sipush 99, 2), (82, .sipush 101, 2), (84, .invokevirtual 194, 3), (87, .ifCond .eq 94, 3), (90, .sipush 1, 1), (91, .goto 162, 3), (94, .aload 0, 1), (95, .iload 1, 1), (96, .sipush 4, 1)]),
  (113, [(97, .sipush 111, 2), (99, .sipush 118, 2), (101, .sipush 101, 2), (103, .sipush 114, 2), (105, .sipush 0, 1), (106, .invokevirtual 194, 3), (109, .ifCond .eq 116, 3), (112, .sipush 2, 1), (113, .goto 162, 3)]),
  (128, [(116, .aload 0, 1), (117, .iload 1, 1), (118, .sipush 4, 1), (119, .sipush 119, 2), (121, .sipush 105, 2), (123, .sipush 108, 2), (125, .sipush 100, 2), (127, .sipush 0, 1), (128, .invokevirtual 194, 3)]),
  (145, [(131, .ifCond .eq 138, 3), (134, .sipush 3, 1), (135, .goto 162, 3), (138, .aload 0, 1), (139, .iload 1, 1), (140, .sipush 4, 1), (141, .sipush 115, 2), (143, .sipush 97, 2), (145, .sipush 109, 2)]),
  (162, [(147, .sipush 101, 2), (149, .sipush 0, 1), (150, .invokevirtual 194, 3), (153, .ifCond .eq 160, 3), (156, .sipush 4, 1), (157, .goto 162, 3), (160, .sipush (-4), 2), (162, .ireturn, 1)])]
/-- 196: EightBlocksModel.readsName()Z -/
def tb_196 : am_T := [(8, [(0, .aload 0, 1), (1, .sipush 0, 1), (2, .invokevirtual 192, 3), (5, .istore 1, 1), (6, .aload 0, 1), (7, .iload 1, 1), (8, .invokevirtual 195, 3)]),
  (21, [(11, .istore 2, 1), (12, .iload 2, 1), (13, .ifCond .ge 28, 3), (16, .aload 0, 1), (17, .dup, 1), (18, .getfield 586, 3), (21, .iload 1, 1)]),
  (30, [(22, .isub, 1), (23, .putfield 586, 3), (26, .sipush 0, 1), (27, .ireturn, 1), (28, .sipush 0, 1), (29, .istore 3, 1), (30, .iload 3, 1)]),
  (42, [(31, .sipush 24, 2), (33, .if_icmp .ge 69, 3), (36, .aload 0, 1), (37, .getfield 587, 3), (40, .iload 3, 1), (41, .iload 2, 1), (42, .sipush 5, 1)]),
  (55, [(43, .if_icmp .ge 54, 3), (46, .iload 2, 1), (47, .iload 3, 1), (48, .invokestatic 151, 3), (51, .goto 62, 3), (54, .aload 0, 1), (55, .iload 2, 1)]),
  (66, [(56, .sipush 5, 1), (57, .isub, 1), (58, .iload 3, 1), (59, .invokevirtual 172, 3), (62, .iastore, 1), (63, .iinc 3 1, 3), (66, .goto 30, 3)]),
  (70, [(69, .sipush 1, 1), (70, .ireturn, 1)])]
/-- 197: EightBlocksModel.readsRing()Z -/
def tb_197 : am_T := [(15, [(0, .sipush 0, 1), (1, .istore 1, 1), (2, .iload 1, 1), (3, .sipush 24, 2), (5, .if_icmp .ge 21, 3), (8, .aload 0, 1), (9, .getfield 587, 3), (12, .iload 1, 1), (13, .iload 1, 1), (14, .iastore, 1), (15, .iinc 1 1, 3)]),
  (34, [(18, .goto 2, 3), (21, .aload 0, 1), (22, .dup, 1), (23, .getfield 586, 3), (26, .sipush 1, 1), (27, .iadd, 1), (28, .putfield 586, 3), (31, .sipush 0, 1), (32, .istore 1, 1), (33, .sipush (-1), 1), (34, .istore 2, 1)]),
  (51, [(35, .sipush (-1), 1), (36, .istore 3, 1), (37, .sipush 1, 1), (38, .istore 4, 2), (40, .iload 4, 2), (42, .ifCond .eq 157, 3), (45, .aload 0, 1), (46, .invokevirtual 189, 3), (49, .pop, 1), (50, .aload 0, 1), (51, .getfield 586, 3)]),
  (75, [(54, .istore 5, 2), (56, .aload 0, 1), (57, .sipush 23, 2), (59, .invokevirtual 193, 3), (62, .istore 6, 2), (64, .iload 6, 2), (66, .ifCond .lt 78, 3), (69, .iload 1, 1), (70, .iload 6, 2), (72, .invokestatic 146, 3), (75, .ifCond .eq 86, 3)]),
  (92, [(78, .aload 0, 1), (79, .iload 5, 2), (81, .putfield 586, 3), (84, .sipush 0, 1), (85, .ireturn, 1), (86, .iload 1, 1), (87, .sipush 1, 1), (88, .iload 6, 2), (90, .ishl, 1), (91, .ior, 1), (92, .istore 1, 1)]),
  (112, [(93, .iload 2, 1), (94, .ifCond .ge 102, 3), (97, .iload 6, 2), (99, .goto 103, 3), (102, .iload 2, 1), (103, .istore 2, 1), (104, .iload 3, 1), (105, .ifCond .lt 116, 3), (108, .aload 0, 1), (109, .getfield 587, 3), (112, .iload 3, 1)]),
  (132, [(113, .iload 6, 2), (115, .iastore, 1), (116, .iload 6, 2), (118, .istore 3, 1), (119, .aload 0, 1), (120, .invokevirtual 189, 3), (123, .sipush 44, 2), (125, .if_icmp .ne 132, 3), (128, .sipush 1, 1), (129, .goto 133, 3), (132, .sipush 0, 1)]),
  (151, [(133, .istore 4, 2), (135, .aload 0, 1), (136, .dup, 1), (137, .getfield 586, 3), (140, .iload 4, 2), (142, .ifCond .eq 149, 3), (145, .sipush 1, 1), (146, .goto 150, 3), (149, .sipush 0, 1), (150, .iadd, 1), (151, .putfield 586, 3)]),
  (173, [(154, .goto 40, 3), (157, .aload 0, 1), (158, .getfield 587, 3), (161, .iload 3, 1), (162, .iload 2, 1), (163, .iastore, 1), (164, .aload 0, 1), (165, .invokevirtual 189, 3), (168, .sipush 41, 2), (170, .if_icmp .ne 177, 3), (173, .sipush 1, 1)]),
  (194, [(174, .goto 178, 3), (177, .sipush 0, 1), (178, .istore 5, 2), (180, .aload 0, 1), (181, .dup, 1), (182, .getfield 586, 3), (185, .iload 5, 2), (187, .ifCond .eq 194, 3), (190, .sipush 1, 1), (191, .goto 195, 3), (194, .sipush 0, 1)]),
  (201, [(195, .iadd, 1), (196, .putfield 586, 3), (199, .iload 5, 2), (201, .ireturn, 1)])]
/-- 198: EightBlocksModel.turnsBack()V -/
def tb_198 : am_T := [(8, [(0, .sipush 0, 1), (1, .istore 1, 1), (2, .iload 1, 1), (3, .sipush 24, 2), (5, .if_icmp .ge 26, 3), (8, .aload 0, 1)]),
  (18, [(9, .getfield 589, 3), (12, .aload 0, 1), (13, .getfield 587, 3), (16, .iload 1, 1), (17, .iaload, 1), (18, .iload 1, 1)]),
  (28, [(19, .iastore, 1), (20, .iinc 1 1, 3), (23, .goto 2, 3), (26, .sipush 0, 1), (27, .istore 1, 1), (28, .iload 1, 1)]),
  (39, [(29, .sipush 24, 2), (31, .if_icmp .ge 52, 3), (34, .aload 0, 1), (35, .getfield 587, 3), (38, .iload 1, 1), (39, .aload 0, 1)]),
  (49, [(40, .getfield 589, 3), (43, .iload 1, 1), (44, .iaload, 1), (45, .iastore, 1), (46, .iinc 1 1, 3), (49, .goto 28, 3)]),
  (52, [(52, .return_, 1)])]
/-- 199: EightBlocksModel.readsOften()Z -/
def tb_199 : am_T := [(13, [(0, .sipush 1, 1), (1, .istore 1, 1), (2, .aload 0, 1), (3, .invokevirtual 189, 3), (6, .sipush 94, 2), (8, .if_icmp .ne 51, 3), (11, .aload 0, 1), (12, .dup, 1), (13, .getfield 586, 3)]),
  (31, [(16, .sipush 1, 1), (17, .iadd, 1), (18, .putfield 586, 3), (21, .aload 0, 1), (22, .invokevirtual 189, 3), (25, .sipush 45, 2), (27, .if_icmp .ne 44, 3), (30, .aload 0, 1), (31, .dup, 1)]),
  (47, [(32, .getfield 586, 3), (35, .sipush 1, 1), (36, .iadd, 1), (37, .putfield 586, 3), (40, .aload 0, 1), (41, .invokevirtual 198, 3), (44, .aload 0, 1), (45, .sipush 99, 2), (47, .invokevirtual 193, 3)]),
  (63, [(50, .istore 1, 1), (51, .sipush 0, 1), (52, .istore 2, 1), (53, .iload 2, 1), (54, .sipush 24, 2), (56, .if_icmp .ge 121, 3), (59, .iload 1, 1), (60, .ifCond .lt 121, 3), (63, .aload 0, 1)]),
  (77, [(64, .getfield 588, 3), (67, .sipush 24, 2), (69, .aload 0, 1), (70, .getfield 590, 3), (73, .imul, 1), (74, .iload 2, 1), (75, .iadd, 1), (76, .iaload, 1), (77, .istore 3, 1)]),
  (92, [(78, .sipush 0, 1), (79, .istore 4, 2), (81, .iload 4, 2), (83, .iload 1, 1), (84, .if_icmp .ge 100, 3), (87, .aload 0, 1), (88, .getfield 587, 3), (91, .iload 3, 1), (92, .iaload, 1)]),
  (110, [(93, .istore 3, 1), (94, .iinc 4 1, 3), (97, .goto 81, 3), (100, .aload 0, 1), (101, .getfield 588, 3), (104, .sipush 24, 2), (106, .aload 0, 1), (107, .getfield 590, 3), (110, .imul, 1)]),
  (125, [(111, .iload 2, 1), (112, .iadd, 1), (113, .iload 3, 1), (114, .iastore, 1), (115, .iinc 2 1, 3), (118, .goto 53, 3), (121, .iload 1, 1), (122, .ifCond .lt 129, 3), (125, .sipush 1, 1)]),
  (130, [(126, .goto 130, 3), (129, .sipush 0, 1), (130, .ireturn, 1)])]
/-- 200: EightBlocksModel.begins()V -/
def tb_200 : am_T := [(3, [(0, .sipush 0, 1), (1, .istore 1, 1), (2, .iload 1, 1), (3, .sipush 24, 2)]),
  (12, [(5, .if_icmp .ge 29, 3), (8, .aload 0, 1), (9, .getfield 588, 3), (12, .sipush 24, 2)]),
  (19, [(14, .aload 0, 1), (15, .getfield 590, 3), (18, .imul, 1), (19, .iload 1, 1)]),
  (23, [(20, .iadd, 1), (21, .iload 1, 1), (22, .iastore, 1), (23, .iinc 1 1, 3)]),
  (29, [(26, .goto 2, 3), (29, .return_, 1)])]
/-- 201: EightBlocksModel.closes()V -/
def tb_201 : am_T := [(5, [(0, .sipush 0, 1), (1, .istore 1, 1), (2, .iload 1, 1), (3, .sipush 24, 2), (5, .if_icmp .ge 34, 3)]),
  (14, [(8, .aload 0, 1), (9, .getfield 587, 3), (12, .iload 1, 1), (13, .aload 0, 1), (14, .getfield 588, 3)]),
  (24, [(17, .sipush 24, 2), (19, .aload 0, 1), (20, .getfield 590, 3), (23, .imul, 1), (24, .iload 1, 1)]),
  (31, [(25, .iadd, 1), (26, .iaload, 1), (27, .iastore, 1), (28, .iinc 1 1, 3), (31, .goto 2, 3)]),
  (40, [(34, .aload 0, 1), (35, .dup, 1), (36, .getfield 590, 3), (39, .sipush 1, 1), (40, .isub, 1)]),
  (44, [(41, .putfield 590, 3), (44, .return_, 1)])]
/-- 202: EightBlocksModel.readsFactor()Z -/
def tb_202 : am_T := [(10, [(0, .aload 0, 1), (1, .invokevirtual 189, 3), (4, .invokestatic 191, 3), (7, .ifCond .eq 17, 3), (10, .aload 0, 1)]),
  (21, [(11, .invokevirtual 196, 3), (14, .goto 38, 3), (17, .aload 0, 1), (18, .invokevirtual 189, 3), (21, .sipush 40, 2)]),
  (33, [(23, .if_icmp .ne 37, 3), (26, .aload 0, 1), (27, .invokevirtual 197, 3), (30, .ifCond .eq 37, 3), (33, .sipush 1, 1)]),
  (40, [(34, .goto 38, 3), (37, .sipush 0, 1), (38, .istore 1, 1), (39, .iload 1, 1), (40, .ifCond .eq 54, 3)]),
  (51, [(43, .aload 0, 1), (44, .invokevirtual 199, 3), (47, .ifCond .eq 54, 3), (50, .sipush 1, 1), (51, .goto 55, 3)]),
  (55, [(54, .sipush 0, 1), (55, .ireturn, 1)])]
/-- 203: EightBlocksModel.isText()Z -/
def tb_203 : am_T := [(15, [(0, .aload 0, 1), (1, .sipush 0, 1), (2, .putfield 586, 3), (5, .aload 0, 1), (6, .sipush 0, 1), (7, .putfield 590, 3), (10, .aload 0, 1), (11, .invokevirtual 200, 3), (14, .sipush 1, 1), (15, .istore 1, 1)]),
  (33, [(16, .sipush 1, 1), (17, .istore 2, 1), (18, .iload 2, 1), (19, .ifCond .eq 168, 3), (22, .iload 1, 1), (23, .ifCond .ne 33, 3), (26, .aload 0, 1), (27, .invokevirtual 189, 3), (30, .ifCond .eq 168, 3), (33, .aload 0, 1)]),
  (52, [(34, .invokevirtual 189, 3), (37, .istore 3, 1), (38, .iload 1, 1), (39, .ifCond .eq 84, 3), (42, .iload 3, 1), (43, .sipush 91, 2), (45, .if_icmp .ne 84, 3), (48, .aload 0, 1), (49, .getfield 590, 3), (52, .sipush 6, 2)]),
  (69, [(54, .if_icmp .ge 84, 3), (57, .aload 0, 1), (58, .dup, 1), (59, .getfield 586, 3), (62, .sipush 1, 1), (63, .iadd, 1), (64, .putfield 586, 3), (67, .aload 0, 1), (68, .dup, 1), (69, .getfield 590, 3)]),
  (89, [(72, .sipush 1, 1), (73, .iadd, 1), (74, .putfield 590, 3), (77, .aload 0, 1), (78, .invokevirtual 200, 3), (81, .goto 165, 3), (84, .iload 1, 1), (85, .ifCond .eq 98, 3), (88, .aload 0, 1), (89, .invokevirtual 202, 3)]),
  (108, [(92, .istore 2, 1), (93, .sipush 0, 1), (94, .istore 1, 1), (95, .goto 165, 3), (98, .iload 3, 1), (99, .sipush 93, 2), (101, .if_icmp .ne 133, 3), (104, .aload 0, 1), (105, .getfield 590, 3), (108, .ifCond .le 133, 3)]),
  (126, [(111, .aload 0, 1), (112, .dup, 1), (113, .getfield 586, 3), (116, .sipush 1, 1), (117, .iadd, 1), (118, .putfield 586, 3), (121, .aload 0, 1), (122, .invokevirtual 201, 3), (125, .aload 0, 1), (126, .invokevirtual 199, 3)]),
  (145, [(129, .istore 2, 1), (130, .goto 165, 3), (133, .iload 3, 1), (134, .sipush 42, 2), (136, .if_icmp .ne 143, 3), (139, .sipush 1, 1), (140, .goto 144, 3), (143, .sipush 0, 1), (144, .istore 2, 1), (145, .iload 2, 1)]),
  (161, [(146, .istore 1, 1), (147, .aload 0, 1), (148, .dup, 1), (149, .getfield 586, 3), (152, .iload 2, 1), (153, .ifCond .eq 160, 3), (156, .sipush 1, 1), (157, .goto 161, 3), (160, .sipush 0, 1), (161, .iadd, 1)]),
  (183, [(162, .putfield 586, 3), (165, .goto 18, 3), (168, .iload 2, 1), (169, .ifCond .eq 183, 3), (172, .aload 0, 1), (173, .getfield 590, 3), (176, .ifCond .ne 183, 3), (179, .sipush 1, 1), (180, .goto 184, 3), (183, .sipush 0, 1)]),
  (184, [(184, .ireturn, 1)])]
/-- 204: EightBlocksModel.read(I)I -/
def tb_204 : am_T := [(13, [(0, .iload 1, 1), (1, .i2l, 1), (2, .jsr_w 0, 1), (3, .jsr_w 3, 3), (6, .invokestatic 144, 3), (9, .ifCond .ne 14, 3), (12, .sipush (-1), 1), (13, .ireturn, 1)]),
  (27, [(14, .aload 0, 1), (15, .invokevirtual 203, 3), (18, .istore 2, 1), (19, .aload 0, 1), (20, .invokevirtual 189, 3), (23, .ifCond .ne 33, 3), (26, .aload 0, 1), (27, .getfield 585, 3)]),
  (43, [(30, .goto 37, 3), (33, .aload 0, 1), (34, .getfield 586, 3), (37, .istore 3, 1), (38, .aload 0, 1), (39, .sipush 0, 1), (40, .putfield 585, 3), (43, .iload 2, 1)]),
  (56, [(44, .ifCond .ne 52, 3), (47, .sipush (-20), 2), (49, .iload 3, 1), (50, .isub, 1), (51, .ireturn, 1), (52, .aload 0, 1), (53, .invokevirtual 233, 3), (56, .sipush 0, 1)]),
  (71, [(57, .istore 4, 2), (59, .sipush 0, 1), (60, .istore 5, 2), (62, .iload 5, 2), (64, .sipush 24, 2), (66, .if_icmp .ge 121, 3), (69, .iload 4, 2), (71, .aload 0, 1)]),
  (85, [(72, .iload 1, 1), (73, .iload 5, 2), (75, .invokevirtual 172, 3), (78, .aload 0, 1), (79, .getfield 588, 3), (82, .iload 5, 2), (84, .iaload, 1), (85, .if_icmp .eq 92, 3)]),
  (100, [(88, .sipush 1, 1), (89, .goto 93, 3), (92, .sipush 0, 1), (93, .iadd, 1), (94, .istore 4, 2), (96, .aload 0, 1), (97, .getfield 576, 3), (100, .sipush 24, 2)]),
  (113, [(102, .iload 1, 1), (103, .imul, 1), (104, .iload 5, 2), (106, .iadd, 1), (107, .aload 0, 1), (108, .getfield 588, 3), (111, .iload 5, 2), (113, .iaload, 1)]),
  (123, [(114, .iastore, 1), (115, .iinc 5 1, 3), (118, .goto 62, 3), (121, .iload 4, 2), (123, .ireturn, 1)])]
/-- 205: EightBlocksModel.takesBack(I)V -/
def tb_205 : am_T := [(8, [(0, .sipush 0, 1), (1, .istore 2, 1), (2, .iload 2, 1), (3, .sipush 24, 2), (5, .if_icmp .ge 31, 3), (8, .aload 0, 1)]),
  (19, [(9, .getfield 589, 3), (12, .aload 0, 1), (13, .getfield 593, 3), (16, .sipush 24, 2), (18, .iload 1, 1), (19, .imul, 1)]),
  (25, [(20, .iload 2, 1), (21, .iadd, 1), (22, .iaload, 1), (23, .iload 2, 1), (24, .iastore, 1), (25, .iinc 2 1, 3)]),
  (36, [(28, .goto 2, 3), (31, .sipush 0, 1), (32, .istore 2, 1), (33, .iload 2, 1), (34, .sipush 24, 2), (36, .if_icmp .ge 62, 3)]),
  (48, [(39, .aload 0, 1), (40, .getfield 596, 3), (43, .iload 2, 1), (44, .aload 0, 1), (45, .getfield 589, 3), (48, .aload 0, 1)]),
  (56, [(49, .getfield 596, 3), (52, .iload 2, 1), (53, .iaload, 1), (54, .iaload, 1), (55, .iastore, 1), (56, .iinc 2 1, 3)]),
  (62, [(59, .goto 33, 3), (62, .return_, 1)])]
/-- 206: EightBlocksModel.sifts()I -/
def tb_206 : am_T := [(8, [(0, .sipush 0, 1), (1, .istore 1, 1), (2, .iload 1, 1), (3, .sipush 24, 2), (5, .if_icmp .ge 63, 3), (8, .aload 0, 1)]),
  (18, [(9, .getfield 596, 3), (12, .aload 0, 1), (13, .getfield 591, 3), (16, .iload 1, 1), (17, .iaload, 1), (18, .iaload, 1)]),
  (27, [(19, .istore 2, 1), (20, .aload 0, 1), (21, .getfield 592, 3), (24, .sipush 24, 2), (26, .iload 1, 1), (27, .imul, 1)]),
  (33, [(28, .iload 2, 1), (29, .iadd, 1), (30, .iaload, 1), (31, .istore 3, 1), (32, .iload 3, 1), (33, .ifCond .ge 48, 3)]),
  (43, [(36, .iload 2, 1), (37, .aload 0, 1), (38, .getfield 591, 3), (41, .iload 1, 1), (42, .iaload, 1), (43, .if_icmp .eq 48, 3)]),
  (53, [(46, .iload 1, 1), (47, .ireturn, 1), (48, .iload 3, 1), (49, .ifCond .lt 57, 3), (52, .aload 0, 1), (53, .iload 3, 1)]),
  (64, [(54, .invokevirtual 205, 3), (57, .iinc 1 1, 3), (60, .goto 2, 3), (63, .sipush (-1), 1), (64, .ireturn, 1)])]
/-- 207: EightBlocksModel.adds()V -/
def tb_207 : am_T := [(13, [(0, .aload 0, 1), (1, .invokevirtual 206, 3), (4, .istore 1, 1), (5, .iload 1, 1), (6, .ifCond .lt 18, 3), (9, .aload 0, 1), (10, .getfield 595, 3), (13, .sipush 124, 2)]),
  (27, [(15, .if_icmp .ne 19, 3), (18, .return_, 1), (19, .aload 0, 1), (20, .getfield 592, 3), (23, .sipush 24, 2), (25, .iload 1, 1), (26, .imul, 1), (27, .aload 0, 1)]),
  (39, [(28, .getfield 596, 3), (31, .aload 0, 1), (32, .getfield 591, 3), (35, .iload 1, 1), (36, .iaload, 1), (37, .iaload, 1), (38, .iadd, 1), (39, .aload 0, 1)]),
  (53, [(40, .getfield 595, 3), (43, .iastore, 1), (44, .aload 0, 1), (45, .getfield 594, 3), (48, .aload 0, 1), (49, .getfield 595, 3), (52, .iload 1, 1), (53, .iastore, 1)]),
  (66, [(54, .sipush 0, 1), (55, .istore 2, 1), (56, .iload 2, 1), (57, .sipush 24, 2), (59, .if_icmp .ge 88, 3), (62, .aload 0, 1), (63, .getfield 593, 3), (66, .sipush 24, 2)]),
  (79, [(68, .aload 0, 1), (69, .getfield 595, 3), (72, .imul, 1), (73, .iload 2, 1), (74, .iadd, 1), (75, .aload 0, 1), (76, .getfield 596, 3), (79, .iload 2, 1)]),
  (93, [(80, .iaload, 1), (81, .iastore, 1), (82, .iinc 2 1, 3), (85, .goto 56, 3), (88, .aload 0, 1), (89, .dup, 1), (90, .getfield 595, 3), (93, .sipush 1, 1)]),
  (98, [(94, .iadd, 1), (95, .putfield 595, 3), (98, .return_, 1)])]
/-- 208: EightBlocksModel.tries(II)V -/
def tb_208 : am_T := [(7, [(0, .aload 0, 1), (1, .getfield 594, 3), (4, .iload 1, 1), (5, .iaload, 1), (6, .aload 0, 1), (7, .getfield 594, 3)]),
  (17, [(10, .iload 2, 1), (11, .iaload, 1), (12, .if_icmp .le 16, 3), (15, .return_, 1), (16, .sipush 0, 1), (17, .istore 3, 1)]),
  (28, [(18, .iload 3, 1), (19, .sipush 24, 2), (21, .if_icmp .ge 57, 3), (24, .aload 0, 1), (25, .getfield 596, 3), (28, .iload 3, 1)]),
  (37, [(29, .aload 0, 1), (30, .getfield 593, 3), (33, .sipush 24, 2), (35, .iload 2, 1), (36, .imul, 1), (37, .aload 0, 1)]),
  (46, [(38, .getfield 593, 3), (41, .sipush 24, 2), (43, .iload 1, 1), (44, .imul, 1), (45, .iload 3, 1), (46, .iadd, 1)]),
  (54, [(47, .iaload, 1), (48, .iadd, 1), (49, .iaload, 1), (50, .iastore, 1), (51, .iinc 3 1, 3), (54, .goto 18, 3)]),
  (61, [(57, .aload 0, 1), (58, .invokevirtual 207, 3), (61, .return_, 1)])]
/-- 209: EightBlocksModel.bases(I)V -/
def tb_209 : am_T := [(4, [(0, .sipush 0, 1), (1, .istore 2, 1), (2, .sipush 0, 1), (3, .istore 3, 1), (4, .iload 3, 1)]),
  (12, [(5, .sipush 48, 2), (7, .if_icmp .ge 51, 3), (10, .iload 1, 1), (11, .iload 3, 1), (12, .sipush 24, 2)]),
  (21, [(14, .irem, 1), (15, .invokestatic 146, 3), (18, .iload 3, 1), (19, .sipush 24, 2), (21, .if_icmp .ge 28, 3)]),
  (32, [(24, .sipush 1, 1), (25, .goto 29, 3), (28, .sipush 0, 1), (29, .if_icmp .ne 45, 3), (32, .aload 0, 1)]),
  (40, [(33, .getfield 591, 3), (36, .iload 2, 1), (37, .iload 3, 1), (38, .sipush 24, 2), (40, .irem, 1)]),
  (51, [(41, .iastore, 1), (42, .iinc 2 1, 3), (45, .iinc 3 1, 3), (48, .goto 4, 3), (51, .return_, 1)])]
/-- 210: EightBlocksModel.stands(II)Z -/
def tb_210 : am_T := [(9, [(0, .aload 0, 1), (1, .getfield 597, 3), (4, .iload 1, 1), (5, .if_icmp .ne 20, 3), (8, .aload 0, 1), (9, .getfield 598, 3)]),
  (21, [(12, .iload 2, 1), (13, .if_icmp .ne 20, 3), (16, .sipush 1, 1), (17, .goto 21, 3), (20, .sipush 0, 1), (21, .istore 3, 1)]),
  (32, [(22, .sipush 0, 1), (23, .istore 4, 2), (25, .iload 4, 2), (27, .sipush 96, 2), (29, .if_icmp .ge 65, 3), (32, .iload 3, 1)]),
  (43, [(33, .ifCond .eq 65, 3), (36, .aload 0, 1), (37, .getfield 599, 3), (40, .iload 4, 2), (42, .iaload, 1), (43, .aload 0, 1)]),
  (54, [(44, .getfield 576, 3), (47, .iload 4, 2), (49, .iaload, 1), (50, .if_icmp .ne 57, 3), (53, .sipush 1, 1), (54, .goto 58, 3)]),
  (66, [(57, .sipush 0, 1), (58, .istore 3, 1), (59, .iinc 4 1, 3), (62, .goto 25, 3), (65, .iload 3, 1), (66, .ireturn, 1)])]
/-- 211: EightBlocksModel.builds(II)V -/
def tb_211 : am_T := [(15, [(0, .aload 0, 1), (1, .iload 1, 1), (2, .iload 2, 1), (3, .invokevirtual 210, 3), (6, .ifCond .eq 10, 3), (9, .return_, 1), (10, .aload 0, 1), (11, .iload 1, 1), (12, .putfield 597, 3), (15, .aload 0, 1)]),
  (32, [(16, .iload 2, 1), (17, .putfield 598, 3), (20, .sipush 0, 1), (21, .istore 3, 1), (22, .iload 3, 1), (23, .sipush 96, 2), (25, .if_icmp .ge 46, 3), (28, .aload 0, 1), (29, .getfield 599, 3), (32, .iload 3, 1)]),
  (48, [(33, .aload 0, 1), (34, .getfield 576, 3), (37, .iload 3, 1), (38, .iaload, 1), (39, .iastore, 1), (40, .iinc 3 1, 3), (43, .goto 22, 3), (46, .aload 0, 1), (47, .iload 2, 1), (48, .invokevirtual 209, 3)]),
  (66, [(51, .aload 0, 1), (52, .sipush 0, 1), (53, .putfield 595, 3), (56, .sipush 0, 1), (57, .istore 3, 1), (58, .iload 3, 1), (59, .sipush 576, 3), (62, .if_icmp .ge 78, 3), (65, .aload 0, 1), (66, .getfield 592, 3)]),
  (82, [(69, .iload 3, 1), (70, .sipush (-1), 1), (71, .iastore, 1), (72, .iinc 3 1, 3), (75, .goto 58, 3), (78, .sipush 0, 1), (79, .istore 3, 1), (80, .iload 3, 1), (81, .sipush 4, 1), (82, .if_icmp .ge 138, 3)]),
  (102, [(85, .sipush 0, 1), (86, .istore 4, 2), (88, .iload 4, 2), (90, .sipush 24, 2), (92, .if_icmp .ge 128, 3), (95, .aload 0, 1), (96, .getfield 596, 3), (99, .iload 4, 2), (101, .iload 1, 1), (102, .iload 3, 1)]),
  (122, [(103, .invokestatic 146, 3), (106, .ifCond .eq 119, 3), (109, .aload 0, 1), (110, .iload 3, 1), (111, .iload 4, 2), (113, .invokevirtual 172, 3), (116, .goto 121, 3), (119, .iload 4, 2), (121, .iastore, 1), (122, .iinc 4 1, 3)]),
  (142, [(125, .goto 88, 3), (128, .aload 0, 1), (129, .invokevirtual 207, 3), (132, .iinc 3 1, 3), (135, .goto 80, 3), (138, .sipush 0, 1), (139, .istore 3, 1), (140, .iload 3, 1), (141, .aload 0, 1), (142, .getfield 595, 3)]),
  (161, [(145, .if_icmp .ge 183, 3), (148, .sipush 0, 1), (149, .istore 4, 2), (151, .iload 4, 2), (153, .iload 3, 1), (154, .if_icmp .gt 177, 3), (157, .aload 0, 1), (158, .iload 3, 1), (159, .iload 4, 2), (161, .invokevirtual 208, 3)]),
  (183, [(164, .aload 0, 1), (165, .iload 4, 2), (167, .iload 3, 1), (168, .invokevirtual 208, 3), (171, .iinc 4 1, 3), (174, .goto 151, 3), (177, .iinc 3 1, 3), (180, .goto 140, 3), (183, .return_, 1)])]
/-- 212: EightBlocksModel.manyFrom(I)I -/
def tb_212 : am_T := [(5, [(0, .sipush 1, 1), (1, .istore 2, 1), (2, .iload 1, 1), (3, .istore 3, 1), (4, .iload 3, 1), (5, .sipush 24, 2)]),
  (16, [(7, .if_icmp .ge 65, 3), (10, .sipush 1, 1), (11, .istore 4, 2), (13, .sipush 0, 1), (14, .istore 5, 2), (16, .iload 5, 2)]),
  (29, [(18, .sipush 24, 2), (20, .if_icmp .ge 54, 3), (23, .iload 4, 2), (25, .aload 0, 1), (26, .getfield 592, 3), (29, .sipush 24, 2)]),
  (37, [(31, .iload 3, 1), (32, .imul, 1), (33, .iload 5, 2), (35, .iadd, 1), (36, .iaload, 1), (37, .ifCond .lt 44, 3)]),
  (48, [(40, .sipush 1, 1), (41, .goto 45, 3), (44, .sipush 0, 1), (45, .iadd, 1), (46, .istore 4, 2), (48, .iinc 5 1, 3)]),
  (59, [(51, .goto 16, 3), (54, .iload 2, 1), (55, .iload 4, 2), (57, .imul, 1), (58, .istore 2, 1), (59, .iinc 3 1, 3)]),
  (66, [(62, .goto 4, 3), (65, .iload 2, 1), (66, .ireturn, 1)])]
/-- 213: EightBlocksModel.isGroup(I)Z -/
def tb_213 : am_T := [(3, [(0, .iload 0, 1), (1, .i2l, 1), (2, .jsr_w 0, 1), (3, .jsr_w 15, 3)]),
  (9, [(6, .invokestatic 144, 3), (9, .ireturn, 1)])]
/-- 214: EightBlocksModel.allKeep(I)Z -/
def tb_214 : am_T := [(4, [(0, .sipush 1, 1), (1, .istore 2, 1), (2, .sipush 0, 1), (3, .istore 3, 1), (4, .iload 3, 1)]),
  (13, [(5, .sipush 4, 1), (6, .if_icmp .ge 41, 3), (9, .iload 2, 1), (10, .ifCond .eq 33, 3), (13, .iload 1, 1)]),
  (22, [(14, .iload 3, 1), (15, .invokestatic 146, 3), (18, .ifCond .eq 29, 3), (21, .aload 0, 1), (22, .iload 3, 1)]),
  (33, [(23, .invokevirtual 176, 3), (26, .ifCond .eq 33, 3), (29, .sipush 1, 1), (30, .goto 34, 3), (33, .sipush 0, 1)]),
  (42, [(34, .istore 2, 1), (35, .iinc 3 1, 3), (38, .goto 4, 3), (41, .iload 2, 1), (42, .ireturn, 1)])]
/-- 215: EightBlocksModel.reaches(II)I -/
def tb_215 : am_T := [(6, [(0, .iload 2, 1), (1, .istore 3, 1), (2, .sipush 0, 1), (3, .istore 4, 2), (5, .sipush 0, 1), (6, .istore 5, 2)]),
  (18, [(8, .iload 5, 2), (10, .sipush 25, 2), (12, .if_icmp .ge 68, 3), (15, .iload 4, 2), (17, .iload 3, 1), (18, .if_icmp .eq 68, 3)]),
  (29, [(21, .iload 3, 1), (22, .istore 4, 2), (24, .sipush 0, 1), (25, .istore 6, 2), (27, .iload 6, 2), (29, .sipush 4, 1)]),
  (40, [(30, .if_icmp .ge 62, 3), (33, .iload 3, 1), (34, .iload 1, 1), (35, .iload 6, 2), (37, .invokestatic 146, 3), (40, .ifCond .eq 53, 3)]),
  (53, [(43, .aload 0, 1), (44, .iload 6, 2), (46, .iload 3, 1), (47, .invokevirtual 174, 3), (50, .goto 54, 3), (53, .sipush 0, 1)]),
  (65, [(54, .ior, 1), (55, .istore 3, 1), (56, .iinc 6 1, 3), (59, .goto 27, 3), (62, .iinc 5 1, 3), (65, .goto 8, 3)]),
  (69, [(68, .iload 3, 1), (69, .ireturn, 1)])]
/-- 216: EightBlocksModel.orbitsOfPlaces(I)I -/
def tb_216 : am_T := [(5, [(0, .sipush 0, 1), (1, .istore 2, 1), (2, .sipush 16777215, 2), (4, .istore 3, 1), (5, .sipush 0, 1)]),
  (15, [(6, .istore 4, 2), (8, .iload 4, 2), (10, .sipush 24, 2), (12, .if_icmp .ge 44, 3), (15, .iload 3, 1)]),
  (22, [(16, .ifCond .eq 44, 3), (19, .iload 3, 1), (20, .aload 0, 1), (21, .iload 1, 1), (22, .sipush 1, 1)]),
  (31, [(23, .iload 3, 1), (24, .invokestatic 148, 3), (27, .ishl, 1), (28, .invokevirtual 215, 3), (31, .sipush (-1), 1)]),
  (38, [(32, .ixor, 1), (33, .iand, 1), (34, .istore 3, 1), (35, .iinc 2 1, 3), (38, .iinc 4 1, 3)]),
  (45, [(41, .goto 8, 3), (44, .iload 2, 1), (45, .ireturn, 1)])]
/-- 217: EightBlocksModel.imagesOf(I)V -/
def tb_217 : am_T := [(7, [(0, .sipush 0, 1), (1, .istore 2, 1), (2, .iload 2, 1), (3, .sipush 4, 1), (4, .if_icmp .ge 65, 3), (7, .sipush 0, 1)]),
  (16, [(8, .istore 3, 1), (9, .iload 3, 1), (10, .sipush 12, 2), (12, .if_icmp .ge 59, 3), (15, .aload 0, 1), (16, .getfield 600, 3)]),
  (25, [(19, .sipush 12, 2), (21, .iload 2, 1), (22, .imul, 1), (23, .iload 3, 1), (24, .iadd, 1), (25, .iload 1, 1)]),
  (35, [(26, .iload 2, 1), (27, .invokestatic 146, 3), (30, .ifCond .eq 49, 3), (33, .aload 0, 1), (34, .aload 0, 1), (35, .iload 2, 1)]),
  (49, [(36, .iload 3, 1), (37, .invokestatic 153, 3), (40, .invokevirtual 174, 3), (43, .invokevirtual 156, 3), (46, .goto 52, 3), (49, .sipush 1, 1)]),
  (59, [(50, .iload 3, 1), (51, .ishl, 1), (52, .iastore, 1), (53, .iinc 3 1, 3), (56, .goto 9, 3), (59, .iinc 2 1, 3)]),
  (65, [(62, .goto 2, 3), (65, .return_, 1)])]
/-- 218: EightBlocksModel.imageOf(II)I -/
def tb_218 : am_T := [(5, [(0, .sipush 0, 1), (1, .istore 3, 1), (2, .sipush 0, 1), (3, .istore 4, 2), (5, .iload 4, 2)]),
  (14, [(7, .sipush 12, 2), (9, .if_icmp .ge 46, 3), (12, .iload 3, 1), (13, .iload 2, 1), (14, .iload 4, 2)]),
  (26, [(16, .invokestatic 146, 3), (19, .ifCond .eq 37, 3), (22, .aload 0, 1), (23, .getfield 600, 3), (26, .sipush 12, 2)]),
  (33, [(28, .iload 1, 1), (29, .imul, 1), (30, .iload 4, 2), (32, .iadd, 1), (33, .iaload, 1)]),
  (40, [(34, .goto 38, 3), (37, .sipush 0, 1), (38, .ixor, 1), (39, .istore 3, 1), (40, .iinc 4 1, 3)]),
  (47, [(43, .goto 5, 3), (46, .iload 3, 1), (47, .ireturn, 1)])]
/-- 219: EightBlocksModel.spreads(I)I -/
def tb_219 : am_T := [(11, [(0, .aload 0, 1), (1, .getfield 601, 3), (4, .iload 1, 1), (5, .baload, 1), (6, .ifCond .eq 11, 3), (9, .sipush 0, 1), (10, .ireturn, 1), (11, .sipush 1, 1)]),
  (21, [(12, .istore 2, 1), (13, .aload 0, 1), (14, .getfield 601, 3), (17, .iload 1, 1), (18, .sipush 1, 1), (19, .bastore, 1), (20, .aload 0, 1), (21, .getfield 602, 3)]),
  (31, [(24, .sipush 0, 1), (25, .iload 1, 1), (26, .iastore, 1), (27, .sipush 0, 1), (28, .istore 3, 1), (29, .iload 3, 1), (30, .iload 2, 1), (31, .if_icmp .ge 98, 3)]),
  (46, [(34, .sipush 0, 1), (35, .istore 4, 2), (37, .iload 4, 2), (39, .sipush 4, 1), (40, .if_icmp .ge 92, 3), (43, .aload 0, 1), (44, .iload 4, 2), (46, .aload 0, 1)]),
  (61, [(47, .getfield 602, 3), (50, .iload 3, 1), (51, .iaload, 1), (52, .invokevirtual 218, 3), (55, .istore 5, 2), (57, .aload 0, 1), (58, .getfield 601, 3), (61, .iload 5, 2)]),
  (75, [(63, .baload, 1), (64, .ifCond .ne 86, 3), (67, .aload 0, 1), (68, .getfield 601, 3), (71, .iload 5, 2), (73, .sipush 1, 1), (74, .bastore, 1), (75, .aload 0, 1)]),
  (92, [(76, .getfield 602, 3), (79, .iload 2, 1), (80, .iload 5, 2), (82, .iastore, 1), (83, .iinc 2 1, 3), (86, .iinc 4 1, 3), (89, .goto 37, 3), (92, .iinc 3 1, 3)]),
  (99, [(95, .goto 29, 3), (98, .iload 2, 1), (99, .ireturn, 1)])]
/-- 220: EightBlocksModel.unmarks()V -/
def tb_220 : am_T := [(3, [(0, .sipush 0, 1), (1, .istore 1, 1), (2, .iload 1, 1), (3, .sipush 4096, 3)]),
  (13, [(6, .if_icmp .ge 22, 3), (9, .aload 0, 1), (10, .getfield 601, 3), (13, .iload 1, 1)]),
  (19, [(14, .sipush 0, 1), (15, .bastore, 1), (16, .iinc 1 1, 3), (19, .goto 2, 3)]),
  (22, [(22, .return_, 1)])]
/-- 221: EightBlocksModel.orbitsOfWords(II)I -/
def tb_221 : am_T := [(9, [(0, .aload 0, 1), (1, .iload 1, 1), (2, .invokevirtual 217, 3), (5, .aload 0, 1), (6, .invokevirtual 220, 3), (9, .sipush 0, 1)]),
  (19, [(10, .istore 3, 1), (11, .sipush 0, 1), (12, .istore 4, 2), (14, .iload 4, 2), (16, .sipush 4096, 3), (19, .if_icmp .ge 57, 3)]),
  (32, [(22, .iload 3, 1), (23, .iload 4, 2), (25, .invokestatic 157, 3), (28, .invokestatic 147, 3), (31, .iload 2, 1), (32, .if_icmp .ne 48, 3)]),
  (45, [(35, .aload 0, 1), (36, .iload 4, 2), (38, .invokevirtual 219, 3), (41, .ifCond .le 48, 3), (44, .sipush 1, 1), (45, .goto 49, 3)]),
  (57, [(48, .sipush 0, 1), (49, .iadd, 1), (50, .istore 3, 1), (51, .iinc 4 1, 3), (54, .goto 14, 3), (57, .iload 3, 1)]),
  (58, [(58, .ireturn, 1)])]
/-- 222: EightBlocksModel.rankOf(I)I -/
def tb_222 : am_T := [(8, [(0, .iload 0, 1), (1, .iload 0, 1), (2, .sipush 1, 1), (3, .isub, 1), (4, .iand, 1), (5, .invokestatic 148, 3), (8, .istore 1, 1)]),
  (16, [(9, .iload 0, 1), (10, .sipush (-2), 2), (12, .iand, 1), (13, .sipush 1, 1), (14, .iload 1, 1), (15, .ishl, 1), (16, .sipush (-1), 1)]),
  (27, [(17, .ixor, 1), (18, .iand, 1), (19, .invokestatic 148, 3), (22, .istore 2, 1), (23, .iload 0, 1), (24, .invokestatic 154, 3), (27, .istore 3, 1)]),
  (34, [(28, .iload 3, 1), (29, .sipush 1, 1), (30, .isub, 1), (31, .iload 3, 1), (32, .sipush 2, 1), (33, .isub, 1), (34, .imul, 1)]),
  (42, [(35, .iload 3, 1), (36, .sipush 3, 1), (37, .isub, 1), (38, .imul, 1), (39, .sipush 6, 2), (41, .idiv, 1), (42, .iload 2, 1)]),
  (49, [(43, .sipush 1, 1), (44, .isub, 1), (45, .iload 2, 1), (46, .sipush 2, 1), (47, .isub, 1), (48, .imul, 1), (49, .sipush 2, 1)]),
  (56, [(50, .idiv, 1), (51, .iadd, 1), (52, .iload 1, 1), (53, .iadd, 1), (54, .sipush 1, 1), (55, .isub, 1), (56, .ireturn, 1)])]
/-- 223: EightBlocksModel.fourBy(II)I -/
def tb_223 : am_T := [(3, [(0, .aload 0, 1), (1, .aload 0, 1), (2, .iload 1, 1), (3, .iload 2, 1)]),
  (11, [(4, .invokevirtual 174, 3), (7, .sipush 0, 1), (8, .invokevirtual 166, 3), (11, .ireturn, 1)])]
/-- 224: EightBlocksModel.spreadsFours(II)I -/
def tb_224 : am_T := [(13, [(0, .aload 0, 1), (1, .getfield 601, 3), (4, .iload 2, 1), (5, .invokestatic 222, 3), (8, .baload, 1), (9, .ifCond .eq 14, 3), (12, .sipush 0, 1), (13, .ireturn, 1)]),
  (25, [(14, .sipush 1, 1), (15, .istore 3, 1), (16, .aload 0, 1), (17, .getfield 601, 3), (20, .iload 2, 1), (21, .invokestatic 222, 3), (24, .sipush 1, 1), (25, .bastore, 1)]),
  (36, [(26, .aload 0, 1), (27, .getfield 602, 3), (30, .sipush 0, 1), (31, .iload 2, 1), (32, .iastore, 1), (33, .sipush 0, 1), (34, .istore 4, 2), (36, .iload 4, 2)]),
  (51, [(38, .iload 3, 1), (39, .if_icmp .ge 132, 3), (42, .sipush 0, 1), (43, .istore 5, 2), (45, .iload 5, 2), (47, .sipush 4, 1), (48, .if_icmp .ge 126, 3), (51, .iload 1, 1)]),
  (67, [(52, .iload 5, 2), (54, .invokestatic 146, 3), (57, .ifCond .eq 76, 3), (60, .aload 0, 1), (61, .iload 5, 2), (63, .aload 0, 1), (64, .getfield 602, 3), (67, .iload 4, 2)]),
  (83, [(69, .iaload, 1), (70, .invokevirtual 223, 3), (73, .goto 83, 3), (76, .aload 0, 1), (77, .getfield 602, 3), (80, .iload 4, 2), (82, .iaload, 1), (83, .istore 6, 2)]),
  (99, [(85, .aload 0, 1), (86, .getfield 601, 3), (89, .iload 6, 2), (91, .invokestatic 222, 3), (94, .baload, 1), (95, .ifCond .ne 120, 3), (98, .aload 0, 1), (99, .getfield 601, 3)]),
  (114, [(102, .iload 6, 2), (104, .invokestatic 222, 3), (107, .sipush 1, 1), (108, .bastore, 1), (109, .aload 0, 1), (110, .getfield 602, 3), (113, .iload 3, 1), (114, .iload 6, 2)]),
  (133, [(116, .iastore, 1), (117, .iinc 3 1, 3), (120, .iinc 5 1, 3), (123, .goto 45, 3), (126, .iinc 4 1, 3), (129, .goto 36, 3), (132, .iload 3, 1), (133, .ireturn, 1)])]
/-- 225: EightBlocksModel.orbitsOfSextets(I)I -/
def tb_225 : am_T := [(8, [(0, .aload 0, 1), (1, .invokevirtual 220, 3), (4, .sipush 0, 1), (5, .istore 2, 1), (6, .sipush 1, 1), (7, .istore 3, 1), (8, .iload 3, 1)]),
  (19, [(9, .sipush 22, 2), (11, .if_icmp .ge 88, 3), (14, .iload 3, 1), (15, .sipush 1, 1), (16, .iadd, 1), (17, .istore 4, 2), (19, .iload 4, 2)]),
  (32, [(21, .sipush 23, 2), (23, .if_icmp .ge 82, 3), (26, .iload 4, 2), (28, .sipush 1, 1), (29, .iadd, 1), (30, .istore 5, 2), (32, .iload 5, 2)]),
  (43, [(34, .sipush 24, 2), (36, .if_icmp .ge 76, 3), (39, .iload 2, 1), (40, .aload 0, 1), (41, .iload 1, 1), (42, .sipush 1, 1), (43, .sipush 1, 1)]),
  (51, [(44, .iload 3, 1), (45, .ishl, 1), (46, .ior, 1), (47, .sipush 1, 1), (48, .iload 4, 2), (50, .ishl, 1), (51, .ior, 1)]),
  (63, [(52, .sipush 1, 1), (53, .iload 5, 2), (55, .ishl, 1), (56, .ior, 1), (57, .invokevirtual 224, 3), (60, .ifCond .le 67, 3), (63, .sipush 1, 1)]),
  (76, [(64, .goto 68, 3), (67, .sipush 0, 1), (68, .iadd, 1), (69, .istore 2, 1), (70, .iinc 5 1, 3), (73, .goto 32, 3), (76, .iinc 4 1, 3)]),
  (89, [(79, .goto 19, 3), (82, .iinc 3 1, 3), (85, .goto 8, 3), (88, .iload 2, 1), (89, .ireturn, 1)])]
/-- 226: EightBlocksModel.group(II)I -/
def tb_226 : am_T := [(10, [(0, .iload 1, 1), (1, .invokestatic 213, 3), (4, .ifCond .eq 19, 3), (7, .iload 2, 1), (8, .i2l, 1), (9, .jsr_w 0, 1), (10, .jsr_w 4, 3)]),
  (23, [(13, .invokestatic 144, 3), (16, .ifCond .ne 21, 3), (19, .sipush (-1), 1), (20, .ireturn, 1), (21, .aload 0, 1), (22, .iload 1, 1), (23, .invokevirtual 214, 3)]),
  (69, [(26, .ifCond .ne 32, 3), (29, .sipush (-2), 2), (31, .ireturn, 1), (32, .iload 2, 1), (33, .tableswitch 92 0 4 #[68, 80, 92, 92, 86], 35), (68, .aload 0, 1), (69, .iload 1, 1)]),
  (80, [(70, .sipush 0, 1), (71, .invokevirtual 211, 3), (74, .aload 0, 1), (75, .sipush 0, 1), (76, .invokevirtual 212, 3), (79, .ireturn, 1), (80, .aload 0, 1)]),
  (91, [(81, .iload 1, 1), (82, .invokevirtual 216, 3), (85, .ireturn, 1), (86, .aload 0, 1), (87, .iload 1, 1), (88, .invokevirtual 225, 3), (91, .ireturn, 1)]),
  (101, [(92, .aload 0, 1), (93, .iload 1, 1), (94, .iload 2, 1), (95, .sipush 2, 1), (96, .if_icmp .ne 104, 3), (99, .sipush 8, 2), (101, .goto 106, 3)]),
  (109, [(104, .sipush 12, 2), (106, .invokevirtual 221, 3), (109, .ireturn, 1)])]
/-- 227: EightBlocksModel.held(III)I -/
def tb_227 : am_T := [(15, [(0, .iload 1, 1), (1, .invokestatic 213, 3), (4, .ifCond .eq 26, 3), (7, .iload 2, 1), (8, .invokestatic 149, 3), (11, .ifCond .eq 26, 3), (14, .iload 3, 1), (15, .i2l, 1)]),
  (29, [(16, .jsr_w 0, 1), (17, .jsr_w 2, 3), (20, .invokestatic 144, 3), (23, .ifCond .ne 28, 3), (26, .sipush (-1), 1), (27, .ireturn, 1), (28, .aload 0, 1), (29, .iload 1, 1)]),
  (43, [(30, .invokevirtual 214, 3), (33, .ifCond .eq 49, 3), (36, .iload 3, 1), (37, .sipush 2, 1), (38, .if_icmp .ne 52, 3), (41, .aload 0, 1), (42, .iload 2, 1), (43, .invokevirtual 156, 3)]),
  (58, [(46, .ifCond .ge 52, 3), (49, .sipush (-2), 2), (51, .ireturn, 1), (52, .iload 3, 1), (53, .ifCond .ne 63, 3), (56, .aload 0, 1), (57, .iload 1, 1), (58, .iload 2, 1)]),
  (70, [(59, .invokevirtual 215, 3), (62, .ireturn, 1), (63, .aload 0, 1), (64, .iload 1, 1), (65, .iload 2, 1), (66, .invokevirtual 211, 3), (69, .iload 3, 1), (70, .sipush 1, 1)]),
  (84, [(71, .if_icmp .ne 83, 3), (74, .aload 0, 1), (75, .iload 2, 1), (76, .invokestatic 147, 3), (79, .invokevirtual 212, 3), (82, .ireturn, 1), (83, .aload 0, 1), (84, .iload 1, 1)]),
  (98, [(85, .invokevirtual 217, 3), (88, .aload 0, 1), (89, .invokevirtual 220, 3), (92, .aload 0, 1), (93, .sipush 0, 1), (94, .invokevirtual 212, 3), (97, .aload 0, 1), (98, .aload 0, 1)]),
  (107, [(99, .iload 2, 1), (100, .invokevirtual 156, 3), (103, .invokevirtual 219, 3), (106, .idiv, 1), (107, .ireturn, 1)])]
/-- 228: EightBlocksModel.holds(II)I -/
def tb_228 : am_T := [(11, [(0, .iload 1, 1), (1, .invokestatic 213, 3), (4, .ifCond .eq 14, 3), (7, .iload 2, 1), (8, .invokestatic 171, 3), (11, .ifCond .ne 16, 3)]),
  (21, [(14, .sipush (-1), 1), (15, .ireturn, 1), (16, .aload 0, 1), (17, .iload 1, 1), (18, .invokevirtual 214, 3), (21, .ifCond .ne 27, 3)]),
  (30, [(24, .sipush (-2), 2), (26, .ireturn, 1), (27, .aload 0, 1), (28, .iload 1, 1), (29, .sipush 0, 1), (30, .invokevirtual 211, 3)]),
  (41, [(33, .sipush 0, 1), (34, .istore 3, 1), (35, .iload 3, 1), (36, .sipush 24, 2), (38, .if_icmp .ge 59, 3), (41, .aload 0, 1)]),
  (49, [(42, .getfield 596, 3), (45, .iload 3, 1), (46, .aload 0, 1), (47, .iload 2, 1), (48, .iload 3, 1), (49, .invokevirtual 172, 3)]),
  (63, [(52, .iastore, 1), (53, .iinc 3 1, 3), (56, .goto 35, 3), (59, .aload 0, 1), (60, .invokevirtual 206, 3), (63, .ifCond .ge 70, 3)]),
  (71, [(66, .sipush 1, 1), (67, .goto 71, 3), (70, .sipush 0, 1), (71, .ireturn, 1)])]
/-- 229: EightBlocksModel.choose(I)I -/
def tb_229 : am_T := [(9, [(0, .iload 1, 1), (1, .invokestatic 149, 3), (4, .ifCond .ne 9, 3), (7, .sipush (-1), 1), (8, .ireturn, 1), (9, .aload 0, 1)]),
  (18, [(10, .getfield 576, 3), (13, .sipush 120, 2), (15, .iaload, 1), (16, .istore 2, 1), (17, .iload 1, 1), (18, .invokestatic 147, 3)]),
  (31, [(21, .sipush 12, 2), (23, .if_icmp .ne 39, 3), (26, .aload 0, 1), (27, .iload 1, 1), (28, .invokevirtual 156, 3), (31, .ifCond .lt 39, 3)]),
  (42, [(34, .iload 1, 1), (35, .iload 2, 1), (36, .if_icmp .ne 42, 3), (39, .sipush (-2), 2), (41, .ireturn, 1), (42, .aload 0, 1)]),
  (53, [(43, .invokevirtual 233, 3), (46, .aload 0, 1), (47, .getfield 576, 3), (50, .sipush 120, 2), (52, .iload 1, 1), (53, .iastore, 1)]),
  (55, [(54, .iload 2, 1), (55, .ireturn, 1)])]
/-- 230: EightBlocksModel.hexad(I)I -/
def tb_230 : am_T := [(8, [(0, .iload 1, 1), (1, .invokestatic 149, 3), (4, .ifCond .ne 9, 3), (7, .sipush (-1), 1), (8, .ireturn, 1)]),
  (17, [(9, .iload 1, 1), (10, .invokestatic 147, 3), (13, .sipush 5, 1), (14, .if_icmp .ne 31, 3), (17, .iload 1, 1)]),
  (25, [(18, .aload 0, 1), (19, .getfield 576, 3), (22, .sipush 120, 2), (24, .iaload, 1), (25, .sipush (-1), 1)]),
  (33, [(26, .ixor, 1), (27, .iand, 1), (28, .ifCond .eq 36, 3), (31, .sipush (-2), 2), (33, .goto 49, 3)]),
  (42, [(36, .aload 0, 1), (37, .iload 1, 1), (38, .invokevirtual 164, 3), (41, .aload 0, 1), (42, .getfield 576, 3)]),
  (49, [(45, .sipush 120, 2), (47, .iaload, 1), (48, .iand, 1), (49, .ireturn, 1)])]
/-- 231: EightBlocksModel.turn(II)I -/
def tb_231 : am_T := [(16, [(0, .iload 1, 1), (1, .i2l, 1), (2, .invokestatic 150, 3), (5, .ifCond .eq 16, 3), (8, .iload 2, 1), (9, .i2l, 1), (10, .invokestatic 150, 3), (13, .ifCond .ne 18, 3), (16, .sipush (-1), 1)]),
  (25, [(17, .ireturn, 1), (18, .sipush 1, 1), (19, .iload 1, 1), (20, .ishl, 1), (21, .sipush 1, 1), (22, .iload 2, 1), (23, .ishl, 1), (24, .ior, 1), (25, .istore 3, 1)]),
  (39, [(26, .iload 1, 1), (27, .iload 2, 1), (28, .if_icmp .eq 43, 3), (31, .iload 3, 1), (32, .aload 0, 1), (33, .getfield 576, 3), (36, .sipush 120, 2), (38, .iaload, 1), (39, .iand, 1)]),
  (55, [(40, .ifCond .eq 46, 3), (43, .sipush (-2), 2), (45, .ireturn, 1), (46, .sipush (-4), 2), (48, .istore 4, 2), (50, .sipush 0, 1), (51, .istore 5, 2), (53, .iload 5, 2), (55, .sipush 759, 3)]),
  (74, [(58, .if_icmp .ge 141, 3), (61, .aload 0, 1), (62, .getfield 581, 3), (65, .iload 5, 2), (67, .iaload, 1), (68, .aload 0, 1), (69, .getfield 576, 3), (72, .sipush 120, 2), (74, .iaload, 1)]),
  (88, [(75, .sipush (-1), 1), (76, .ixor, 1), (77, .iand, 1), (78, .iload 3, 1), (79, .if_icmp .ne 109, 3), (82, .aload 0, 1), (83, .getfield 581, 3), (86, .iload 5, 2), (88, .iaload, 1)]),
  (106, [(89, .aload 0, 1), (90, .getfield 576, 3), (93, .sipush 120, 2), (95, .iaload, 1), (96, .invokestatic 148, 3), (99, .invokestatic 146, 3), (102, .ifCond .eq 109, 3), (105, .sipush 1, 1), (106, .goto 110, 3)]),
  (124, [(109, .sipush 0, 1), (110, .istore 6, 2), (112, .iload 6, 2), (114, .ifCond .eq 131, 3), (117, .aload 0, 1), (118, .getfield 581, 3), (121, .iload 5, 2), (123, .iaload, 1), (124, .iload 3, 1)]),
  (141, [(125, .sipush (-1), 1), (126, .ixor, 1), (127, .iand, 1), (128, .goto 133, 3), (131, .iload 4, 2), (133, .istore 4, 2), (135, .iinc 5 1, 3), (138, .goto 53, 3), (141, .iload 4, 2)]),
  (143, [(143, .ireturn, 1)])]
/-- 232: EightBlocksModel.pair(I)I -/
def tb_232 : am_T := [(9, [(0, .iload 1, 1), (1, .invokestatic 149, 3), (4, .ifCond .ne 9, 3), (7, .sipush (-1), 1), (8, .ireturn, 1), (9, .sipush (-2), 2)]),
  (18, [(11, .istore 2, 1), (12, .sipush 0, 1), (13, .istore 3, 1), (14, .iload 3, 1), (15, .sipush 759, 3), (18, .if_icmp .ge 69, 3)]),
  (31, [(21, .iload 1, 1), (22, .invokestatic 147, 3), (25, .sipush 6, 2), (27, .if_icmp .ne 61, 3), (30, .aload 0, 1), (31, .getfield 581, 3)]),
  (42, [(34, .iload 3, 1), (35, .iaload, 1), (36, .aload 0, 1), (37, .getfield 576, 3), (40, .sipush 120, 2), (42, .iaload, 1)]),
  (52, [(43, .iand, 1), (44, .iload 1, 1), (45, .if_icmp .ne 61, 3), (48, .aload 0, 1), (49, .getfield 581, 3), (52, .iload 3, 1)]),
  (58, [(53, .iaload, 1), (54, .iload 1, 1), (55, .sipush (-1), 1), (56, .ixor, 1), (57, .iand, 1), (58, .goto 62, 3)]),
  (70, [(61, .iload 2, 1), (62, .istore 2, 1), (63, .iinc 3 1, 3), (66, .goto 14, 3), (69, .iload 2, 1), (70, .ireturn, 1)])]
/-- 233: EightBlocksModel.notes()V -/
def tb_233 : am_T := [(12, [(0, .aload 0, 1), (1, .getfield 604, 3), (4, .sipush 6, 2), (6, .if_icmp .ne 45, 3), (9, .sipush 122, 2), (11, .istore 1, 1), (12, .iload 1, 1)]),
  (26, [(13, .sipush 732, 3), (16, .if_icmp .ge 40, 3), (19, .aload 0, 1), (20, .getfield 603, 3), (23, .iload 1, 1), (24, .sipush 122, 2), (26, .isub, 1)]),
  (37, [(27, .aload 0, 1), (28, .getfield 603, 3), (31, .iload 1, 1), (32, .iaload, 1), (33, .iastore, 1), (34, .iinc 1 1, 3), (37, .goto 12, 3)]),
  (48, [(40, .aload 0, 1), (41, .sipush 5, 1), (42, .putfield 604, 3), (45, .sipush 0, 1), (46, .istore 1, 1), (47, .iload 1, 1), (48, .sipush 122, 2)]),
  (63, [(50, .if_icmp .ge 79, 3), (53, .aload 0, 1), (54, .getfield 603, 3), (57, .sipush 122, 2), (59, .aload 0, 1), (60, .getfield 604, 3), (63, .imul, 1)]),
  (72, [(64, .iload 1, 1), (65, .iadd, 1), (66, .aload 0, 1), (67, .getfield 576, 3), (70, .iload 1, 1), (71, .iaload, 1), (72, .iastore, 1)]),
  (85, [(73, .iinc 1 1, 3), (76, .goto 47, 3), (79, .aload 0, 1), (80, .dup, 1), (81, .getfield 604, 3), (84, .sipush 1, 1), (85, .iadd, 1)]),
  (89, [(86, .putfield 604, 3), (89, .return_, 1)])]
/-- 234: EightBlocksModel.undo()I -/
def tb_234 : am_T := [(10, [(0, .aload 0, 1), (1, .getfield 604, 3), (4, .ifCond .ne 10, 3), (7, .sipush (-4), 2), (9, .ireturn, 1), (10, .aload 0, 1)]),
  (20, [(11, .dup, 1), (12, .getfield 604, 3), (15, .sipush 1, 1), (16, .isub, 1), (17, .putfield 604, 3), (20, .sipush 0, 1)]),
  (29, [(21, .istore 1, 1), (22, .iload 1, 1), (23, .sipush 122, 2), (25, .if_icmp .ge 54, 3), (28, .aload 0, 1), (29, .getfield 576, 3)]),
  (40, [(32, .iload 1, 1), (33, .aload 0, 1), (34, .getfield 603, 3), (37, .sipush 122, 2), (39, .aload 0, 1), (40, .getfield 604, 3)]),
  (48, [(43, .imul, 1), (44, .iload 1, 1), (45, .iadd, 1), (46, .iaload, 1), (47, .iastore, 1), (48, .iinc 1 1, 3)]),
  (58, [(51, .goto 22, 3), (54, .aload 0, 1), (55, .getfield 604, 3), (58, .ireturn, 1)])]
/-- 235: EightBlocksModel.doubles(II)V -/
def tb_235 : am_T := [(8, [(0, .sipush 0, 1), (1, .istore 3, 1), (2, .iload 3, 1), (3, .sipush 24, 2), (5, .if_icmp .ge 31, 3), (8, .aload 0, 1)]),
  (16, [(9, .getfield 589, 3), (12, .iload 3, 1), (13, .aload 0, 1), (14, .iload 2, 1), (15, .aload 0, 1), (16, .iload 1, 1)]),
  (28, [(17, .iload 3, 1), (18, .invokevirtual 172, 3), (21, .invokevirtual 172, 3), (24, .iastore, 1), (25, .iinc 3 1, 3), (28, .goto 2, 3)]),
  (39, [(31, .sipush 0, 1), (32, .istore 3, 1), (33, .iload 3, 1), (34, .sipush 24, 2), (36, .if_icmp .ge 62, 3), (39, .aload 0, 1)]),
  (48, [(40, .getfield 576, 3), (43, .sipush 24, 2), (45, .iload 1, 1), (46, .imul, 1), (47, .iload 3, 1), (48, .iadd, 1)]),
  (56, [(49, .aload 0, 1), (50, .getfield 589, 3), (53, .iload 3, 1), (54, .iaload, 1), (55, .iastore, 1), (56, .iinc 3 1, 3)]),
  (62, [(59, .goto 33, 3), (62, .return_, 1)])]
/-- 236: EightBlocksModel.drift(I)I -/
def tb_236 : am_T := [(13, [(0, .iload 1, 1), (1, .i2l, 1), (2, .jsr_w 1, 1), (3, .jsr_w 40, 3), (6, .invokestatic 144, 3), (9, .ifCond .ne 14, 3), (12, .sipush (-1), 1), (13, .ireturn, 1)]),
  (25, [(14, .sipush 0, 1), (15, .istore 2, 1), (16, .iload 2, 1), (17, .iload 1, 1), (18, .if_icmp .ge 115, 3), (21, .aload 0, 1), (22, .invokevirtual 233, 3), (25, .aload 0, 1)]),
  (40, [(26, .getfield 576, 3), (29, .sipush 121, 2), (31, .iaload, 1), (32, .i2l, 1), (33, .jsr_w 1103515245, 3), (36, .lmul, 1), (37, .jsr_w 12345, 3), (40, .ladd, 1)]),
  (52, [(41, .jsr_w 2147483648, 3), (44, .lrem, 1), (45, .lstore 3, 1), (46, .lload 3, 1), (47, .jsr_w 65536, 3), (50, .ldiv, 1), (51, .l2i, 1), (52, .istore 5, 2)]),
  (65, [(54, .aload 0, 1), (55, .getfield 576, 3), (58, .sipush 121, 2), (60, .lload 3, 1), (61, .l2i, 1), (62, .iastore, 1), (63, .iload 5, 2), (65, .sipush 8, 2)]),
  (80, [(67, .irem, 1), (68, .ifCond .ne 94, 3), (71, .aload 0, 1), (72, .getfield 576, 3), (75, .sipush 120, 2), (77, .aload 0, 1), (78, .iload 5, 2), (80, .sipush 8, 2)]),
  (95, [(82, .idiv, 1), (83, .sipush 2576, 3), (86, .irem, 1), (87, .invokevirtual 162, 3), (90, .iastore, 1), (91, .goto 109, 3), (94, .aload 0, 1), (95, .iload 5, 2)]),
  (106, [(97, .sipush 4, 1), (98, .irem, 1), (99, .iload 5, 2), (101, .sipush 8, 2), (103, .idiv, 1), (104, .sipush 5, 1), (105, .irem, 1), (106, .invokevirtual 235, 3)]),
  (122, [(109, .iinc 2 1, 3), (112, .goto 16, 3), (115, .aload 0, 1), (116, .getfield 576, 3), (119, .sipush 120, 2), (121, .iaload, 1), (122, .ireturn, 1)])]
/-- 237: EightBlocksModel.seed(I)I -/
def tb_237 : am_T := [(5, [(0, .iload 1, 1), (1, .ifCond .ge 6, 3), (4, .sipush (-1), 1), (5, .ireturn, 1)]),
  (12, [(6, .aload 0, 1), (7, .getfield 576, 3), (10, .sipush 121, 2), (12, .iaload, 1)]),
  (18, [(13, .istore 2, 1), (14, .aload 0, 1), (15, .getfield 576, 3), (18, .sipush 121, 2)]),
  (23, [(20, .iload 1, 1), (21, .iastore, 1), (22, .iload 2, 1), (23, .ireturn, 1)])]
/-- 238: EightBlocksModel.count(I)I -/
def tb_238 : am_T := [(33, [(0, .sipush 0, 1), (1, .istore 2, 1), (2, .iload 1, 1), (3, .tableswitch 91 0 3 #[32, 40, 45, 78], 29), (32, .aload 0, 1), (33, .getfield 576, 3)]),
  (44, [(36, .sipush 120, 2), (38, .iaload, 1), (39, .ireturn, 1), (40, .aload 0, 1), (41, .getfield 604, 3), (44, .ireturn, 1)]),
  (52, [(45, .sipush 0, 1), (46, .istore 3, 1), (47, .iload 3, 1), (48, .sipush 5, 1), (49, .if_icmp .ge 76, 3), (52, .iload 2, 1)]),
  (62, [(53, .aload 0, 1), (54, .iload 3, 1), (55, .invokevirtual 176, 3), (58, .ifCond .eq 67, 3), (61, .sipush 1, 1), (62, .iload 3, 1)]),
  (70, [(63, .ishl, 1), (64, .goto 68, 3), (67, .sipush 0, 1), (68, .ior, 1), (69, .istore 2, 1), (70, .iinc 3 1, 3)]),
  (82, [(73, .goto 47, 3), (76, .iload 2, 1), (77, .ireturn, 1), (78, .aload 0, 1), (79, .getfield 607, 3), (82, .ifCond .ge 89, 3)]),
  (92, [(85, .sipush 0, 1), (86, .goto 90, 3), (89, .sipush 1, 1), (90, .ireturn, 1), (91, .sipush (-1), 1), (92, .ireturn, 1)])]
/-- 239: EightBlocksModel.image()I -/
def tb_239 : am_T := [(8, [(0, .sipush 0, 1), (1, .istore 1, 1), (2, .iload 1, 1), (3, .sipush 122, 2), (5, .if_icmp .ge 26, 3), (8, .aload 0, 1)]),
  (18, [(9, .getfield 605, 3), (12, .iload 1, 1), (13, .aload 0, 1), (14, .getfield 576, 3), (17, .iload 1, 1), (18, .iaload, 1)]),
  (28, [(19, .iastore, 1), (20, .iinc 1 1, 3), (23, .goto 2, 3), (26, .sipush 0, 1), (27, .istore 1, 1), (28, .iload 1, 1)]),
  (40, [(29, .sipush 732, 3), (32, .if_icmp .ge 53, 3), (35, .aload 0, 1), (36, .getfield 606, 3), (39, .iload 1, 1), (40, .aload 0, 1)]),
  (50, [(41, .getfield 603, 3), (44, .iload 1, 1), (45, .iaload, 1), (46, .iastore, 1), (47, .iinc 1 1, 3), (50, .goto 28, 3)]),
  (62, [(53, .aload 0, 1), (54, .aload 0, 1), (55, .getfield 604, 3), (58, .putfield 607, 3), (61, .sipush 1, 1), (62, .ireturn, 1)])]
/-- 240: EightBlocksModel.restore()I -/
def tb_240 : am_T := [(10, [(0, .aload 0, 1), (1, .getfield 607, 3), (4, .ifCond .ge 10, 3), (7, .sipush (-4), 2), (9, .ireturn, 1), (10, .sipush 0, 1)]),
  (19, [(11, .istore 1, 1), (12, .iload 1, 1), (13, .sipush 122, 2), (15, .if_icmp .ge 36, 3), (18, .aload 0, 1), (19, .getfield 576, 3)]),
  (29, [(22, .iload 1, 1), (23, .aload 0, 1), (24, .getfield 605, 3), (27, .iload 1, 1), (28, .iaload, 1), (29, .iastore, 1)]),
  (39, [(30, .iinc 1 1, 3), (33, .goto 12, 3), (36, .sipush 0, 1), (37, .istore 1, 1), (38, .iload 1, 1), (39, .sipush 732, 3)]),
  (51, [(42, .if_icmp .ge 63, 3), (45, .aload 0, 1), (46, .getfield 603, 3), (49, .iload 1, 1), (50, .aload 0, 1), (51, .getfield 606, 3)]),
  (63, [(54, .iload 1, 1), (55, .iaload, 1), (56, .iastore, 1), (57, .iinc 1 1, 3), (60, .goto 38, 3), (63, .aload 0, 1)]),
  (72, [(64, .aload 0, 1), (65, .getfield 607, 3), (68, .putfield 604, 3), (71, .sipush 1, 1), (72, .ireturn, 1)])]
/-- 241: EightBlocksModel.isSheet(I)Z -/
def tb_241 : am_T := [(3, [(0, .iload 0, 1), (1, .i2l, 1), (2, .jsr_w 0, 1), (3, .jsr_w 3, 3)]),
  (9, [(6, .invokestatic 144, 3), (9, .ireturn, 1)])]
/-- 242: EightBlocksModel.cut(JI)J -/
def tb_242 : am_T := [(6, [(0, .iload 2, 1), (1, .ifCond .ne 11, 3), (4, .lload 0, 1), (5, .l2i, 1), (6, .i2b, 1)]),
  (13, [(7, .i2l, 1), (8, .goto 35, 3), (11, .iload 2, 1), (12, .sipush 1, 1), (13, .if_icmp .ne 23, 3)]),
  (20, [(16, .lload 0, 1), (17, .l2i, 1), (18, .i2s, 1), (19, .i2l, 1), (20, .goto 35, 3)]),
  (29, [(23, .iload 2, 1), (24, .sipush 2, 1), (25, .if_icmp .ne 34, 3), (28, .lload 0, 1), (29, .l2i, 1)]),
  (35, [(30, .i2l, 1), (31, .goto 35, 3), (34, .lload 0, 1), (35, .lreturn, 1)])]
/-- 243: EightBlocksModel.sheet(III)I -/
def tb_243 : am_T := [(10, [(0, .iload 1, 1), (1, .invokestatic 241, 3), (4, .ifCond .eq 25, 3), (7, .iload 2, 1), (8, .i2l, 1), (9, .jsr_w 0, 1), (10, .jsr_w 3, 3)]),
  (26, [(13, .invokestatic 144, 3), (16, .ifCond .eq 25, 3), (19, .iload 3, 1), (20, .sipush 32, 2), (22, .if_icmp .le 27, 3), (25, .sipush (-1), 1), (26, .ireturn, 1)]),
  (38, [(27, .iload 3, 1), (28, .ifCond .ge 34, 3), (31, .sipush (-14), 2), (33, .ireturn, 1), (34, .aload 0, 1), (35, .getfield 608, 3), (38, .iload 1, 1)]),
  (47, [(39, .iload 2, 1), (40, .iastore, 1), (41, .aload 0, 1), (42, .getfield 609, 3), (45, .iload 1, 1), (46, .iload 3, 1), (47, .iastore, 1)]),
  (59, [(48, .sipush 0, 1), (49, .istore 4, 2), (51, .iload 4, 2), (53, .sipush 32, 2), (55, .if_icmp .ge 77, 3), (58, .aload 0, 1), (59, .getfield 610, 3)]),
  (70, [(62, .sipush 32, 2), (64, .iload 1, 1), (65, .imul, 1), (66, .iload 4, 2), (68, .iadd, 1), (69, .jsr_w 0, 1), (70, .lastore, 1)]),
  (78, [(71, .iinc 4 1, 3), (74, .goto 51, 3), (77, .iload 3, 1), (78, .ireturn, 1)])]
/-- 244: EightBlocksModel.drop(I)I -/
def tb_244 : am_T := [(8, [(0, .iload 1, 1), (1, .invokestatic 241, 3), (4, .ifCond .ne 9, 3), (7, .sipush (-1), 1), (8, .ireturn, 1)]),
  (15, [(9, .aload 0, 1), (10, .getfield 608, 3), (13, .iload 1, 1), (14, .iaload, 1), (15, .ifCond .ge 21, 3)]),
  (25, [(18, .sipush (-11), 2), (20, .ireturn, 1), (21, .aload 0, 1), (22, .getfield 608, 3), (25, .iload 1, 1)]),
  (32, [(26, .sipush (-1), 1), (27, .iastore, 1), (28, .aload 0, 1), (29, .getfield 609, 3), (32, .iload 1, 1)]),
  (34, [(33, .iaload, 1), (34, .ireturn, 1)])]
/-- 245: EightBlocksModel.why(IIII)I -/
def tb_245 : am_T := [(6, [(0, .aload 0, 1), (1, .getfield 608, 3), (4, .iload 1, 1), (5, .iaload, 1), (6, .ifCond .ge 12, 3)]),
  (16, [(9, .sipush (-11), 2), (11, .ireturn, 1), (12, .aload 0, 1), (13, .getfield 608, 3), (16, .iload 1, 1)]),
  (24, [(17, .iaload, 1), (18, .iload 2, 1), (19, .if_icmp .eq 25, 3), (22, .sipush (-12), 2), (24, .ireturn, 1)]),
  (32, [(25, .iload 3, 1), (26, .ifCond .lt 42, 3), (29, .iload 4, 2), (31, .aload 0, 1), (32, .getfield 609, 3)]),
  (39, [(35, .iload 1, 1), (36, .iaload, 1), (37, .iload 3, 1), (38, .isub, 1), (39, .if_icmp .le 47, 3)]),
  (48, [(42, .sipush (-13), 2), (44, .goto 48, 3), (47, .sipush 0, 1), (48, .ireturn, 1)])]
/-- 246: EightBlocksModel.item(IIIJ)I -/
def tb_246 : am_T := [(9, [(0, .iload 1, 1), (1, .invokestatic 241, 3), (4, .ifCond .eq 19, 3), (7, .iload 2, 1), (8, .i2l, 1), (9, .jsr_w 0, 1)]),
  (21, [(10, .jsr_w 3, 3), (13, .invokestatic 144, 3), (16, .ifCond .ne 21, 3), (19, .sipush (-1), 1), (20, .ireturn, 1), (21, .aload 0, 1)]),
  (29, [(22, .iload 1, 1), (23, .iload 2, 1), (24, .iload 3, 1), (25, .sipush 1, 1), (26, .invokevirtual 245, 3), (29, .istore 6, 2)]),
  (40, [(31, .iload 6, 2), (33, .ifCond .ge 39, 3), (36, .iload 6, 2), (38, .ireturn, 1), (39, .aload 0, 1), (40, .getfield 610, 3)]),
  (49, [(43, .sipush 32, 2), (45, .iload 1, 1), (46, .imul, 1), (47, .iload 3, 1), (48, .iadd, 1), (49, .lload 4, 2)]),
  (57, [(51, .iload 2, 1), (52, .invokestatic 242, 3), (55, .lastore, 1), (56, .sipush 1, 1), (57, .ireturn, 1)])]
/-- 247: EightBlocksModel.copy(IIIII)I -/
def tb_247 : am_T := [(17, [(0, .iload 1, 1), (1, .invokestatic 241, 3), (4, .ifCond .eq 14, 3), (7, .iload 3, 1), (8, .invokestatic 241, 3), (11, .ifCond .ne 16, 3), (14, .sipush (-1), 1), (15, .ireturn, 1), (16, .aload 0, 1), (17, .getfield 608, 3)]),
  (36, [(20, .iload 1, 1), (21, .iaload, 1), (22, .ifCond .lt 34, 3), (25, .aload 0, 1), (26, .getfield 608, 3), (29, .iload 3, 1), (30, .iaload, 1), (31, .ifCond .ge 37, 3), (34, .sipush (-11), 2), (36, .ireturn, 1)]),
  (52, [(37, .aload 0, 1), (38, .getfield 608, 3), (41, .iload 1, 1), (42, .iaload, 1), (43, .aload 0, 1), (44, .getfield 608, 3), (47, .iload 3, 1), (48, .iaload, 1), (49, .if_icmp .eq 55, 3), (52, .sipush (-12), 2)]),
  (71, [(54, .ireturn, 1), (55, .iload 5, 2), (57, .ifCond .lt 104, 3), (60, .iload 2, 1), (61, .ifCond .lt 104, 3), (64, .iload 4, 2), (66, .ifCond .lt 104, 3), (69, .iload 2, 1), (70, .i2l, 1), (71, .iload 5, 2)]),
  (86, [(73, .i2l, 1), (74, .ladd, 1), (75, .aload 0, 1), (76, .getfield 609, 3), (79, .iload 1, 1), (80, .iaload, 1), (81, .i2l, 1), (82, .lcmp, 1), (83, .ifCond .gt 104, 3), (86, .iload 4, 2)]),
  (100, [(88, .i2l, 1), (89, .iload 5, 2), (91, .i2l, 1), (92, .ladd, 1), (93, .aload 0, 1), (94, .getfield 609, 3), (97, .iload 3, 1), (98, .iaload, 1), (99, .i2l, 1), (100, .lcmp, 1)]),
  (118, [(101, .ifCond .le 107, 3), (104, .sipush (-13), 2), (106, .ireturn, 1), (107, .sipush 0, 1), (108, .istore 6, 2), (110, .iload 6, 2), (112, .iload 5, 2), (114, .if_icmp .ge 144, 3), (117, .aload 0, 1), (118, .getfield 611, 3)]),
  (135, [(121, .iload 6, 2), (123, .aload 0, 1), (124, .getfield 610, 3), (127, .sipush 32, 2), (129, .iload 1, 1), (130, .imul, 1), (131, .iload 2, 1), (132, .iadd, 1), (133, .iload 6, 2), (135, .iadd, 1)]),
  (154, [(136, .laload, 1), (137, .lastore, 1), (138, .iinc 6 1, 3), (141, .goto 110, 3), (144, .sipush 0, 1), (145, .istore 6, 2), (147, .iload 6, 2), (149, .iload 5, 2), (151, .if_icmp .ge 182, 3), (154, .aload 0, 1)]),
  (169, [(155, .getfield 610, 3), (158, .sipush 32, 2), (160, .iload 3, 1), (161, .imul, 1), (162, .iload 4, 2), (164, .iadd, 1), (165, .iload 6, 2), (167, .iadd, 1), (168, .aload 0, 1), (169, .getfield 611, 3)]),
  (184, [(172, .iload 6, 2), (174, .laload, 1), (175, .lastore, 1), (176, .iinc 6 1, 3), (179, .goto 147, 3), (182, .iload 5, 2), (184, .ireturn, 1)])]
/-- 248: EightBlocksModel.film(IIII)I -/
def tb_248 : am_T := [(14, [(0, .iload 1, 1), (1, .invokestatic 171, 3), (4, .ifCond .eq 26, 3), (7, .iload 2, 1), (8, .invokestatic 241, 3), (11, .ifCond .eq 26, 3), (14, .iload 3, 1)]),
  (27, [(15, .i2l, 1), (16, .jsr_w 0, 1), (17, .jsr_w 3, 3), (20, .invokestatic 144, 3), (23, .ifCond .ne 28, 3), (26, .sipush (-1), 1), (27, .ireturn, 1)]),
  (38, [(28, .aload 0, 1), (29, .iload 2, 1), (30, .iload 3, 1), (31, .iload 4, 2), (33, .sipush 24, 2), (35, .invokevirtual 245, 3), (38, .istore 5, 2)]),
  (51, [(40, .iload 5, 2), (42, .ifCond .ge 48, 3), (45, .iload 5, 2), (47, .ireturn, 1), (48, .sipush 0, 1), (49, .istore 6, 2), (51, .iload 6, 2)]),
  (65, [(53, .sipush 24, 2), (55, .if_icmp .ge 87, 3), (58, .aload 0, 1), (59, .getfield 610, 3), (62, .sipush 32, 2), (64, .iload 2, 1), (65, .imul, 1)]),
  (74, [(66, .iload 4, 2), (68, .iadd, 1), (69, .iload 6, 2), (71, .iadd, 1), (72, .aload 0, 1), (73, .iload 1, 1), (74, .iload 6, 2)]),
  (89, [(76, .invokevirtual 172, 3), (79, .i2l, 1), (80, .lastore, 1), (81, .iinc 6 1, 3), (84, .goto 51, 3), (87, .sipush 24, 2), (89, .ireturn, 1)])]
/-- 249: EightBlocksModel.wants(II)I -/
def tb_249 : am_T := [(10, [(0, .sipush 0, 1), (1, .istore 3, 1), (2, .sipush 0, 1), (3, .istore 4, 2), (5, .sipush 0, 1), (6, .istore 5, 2), (8, .iload 5, 2), (10, .iload 2, 1)]),
  (23, [(11, .if_icmp .ge 99, 3), (14, .aload 0, 1), (15, .getfield 610, 3), (18, .iload 1, 1), (19, .sipush 2, 1), (20, .iload 5, 2), (22, .imul, 1), (23, .iadd, 1)]),
  (34, [(24, .laload, 1), (25, .l2i, 1), (26, .istore 6, 2), (28, .aload 0, 1), (29, .getfield 610, 3), (32, .iload 1, 1), (33, .sipush 2, 1), (34, .iload 5, 2)]),
  (44, [(36, .imul, 1), (37, .iadd, 1), (38, .sipush 1, 1), (39, .iadd, 1), (40, .laload, 1), (41, .l2i, 1), (42, .istore 7, 2), (44, .iload 4, 2)]),
  (62, [(46, .ifCond .ne 70, 3), (49, .iload 3, 1), (50, .iload 6, 2), (52, .invokestatic 146, 3), (55, .ifCond .eq 74, 3), (58, .aload 0, 1), (59, .getfield 612, 3), (62, .iload 6, 2)]),
  (77, [(64, .iaload, 1), (65, .iload 7, 2), (67, .if_icmp .eq 74, 3), (70, .sipush 1, 1), (71, .goto 75, 3), (74, .sipush 0, 1), (75, .istore 4, 2), (77, .aload 0, 1)]),
  (90, [(78, .getfield 612, 3), (81, .iload 6, 2), (83, .iload 7, 2), (85, .iastore, 1), (86, .iload 3, 1), (87, .sipush 1, 1), (88, .iload 6, 2), (90, .ishl, 1)]),
  (105, [(91, .ior, 1), (92, .istore 3, 1), (93, .iinc 5 1, 3), (96, .goto 8, 3), (99, .iload 4, 2), (101, .ifCond .eq 108, 3), (104, .sipush (-1), 1), (105, .goto 109, 3)]),
  (109, [(108, .iload 3, 1), (109, .ireturn, 1)])]
/-- 250: EightBlocksModel.sends(II)I -/
def tb_250 : am_T := [(12, [(0, .sipush (-1), 1), (1, .istore 3, 1), (2, .sipush 0, 1), (3, .istore 4, 2), (5, .iload 4, 2), (7, .sipush 24, 2), (9, .if_icmp .ge 129, 3), (12, .iload 4, 2)]),
  (27, [(14, .aload 0, 1), (15, .getfield 591, 3), (18, .iload 1, 1), (19, .iaload, 1), (20, .if_icmp .eq 38, 3), (23, .aload 0, 1), (24, .getfield 592, 3), (27, .sipush 24, 2)]),
  (39, [(29, .iload 1, 1), (30, .imul, 1), (31, .iload 4, 2), (33, .iadd, 1), (34, .iaload, 1), (35, .ifCond .lt 42, 3), (38, .sipush 1, 1), (39, .goto 43, 3)]),
  (54, [(42, .sipush 0, 1), (43, .istore 5, 2), (45, .iload 1, 1), (46, .iload 2, 1), (47, .if_icmp .ge 79, 3), (50, .aload 0, 1), (51, .getfield 596, 3), (54, .iload 4, 2)]),
  (67, [(56, .iaload, 1), (57, .aload 0, 1), (58, .getfield 612, 3), (61, .aload 0, 1), (62, .getfield 591, 3), (65, .iload 1, 1), (66, .iaload, 1), (67, .iaload, 1)]),
  (83, [(68, .if_icmp .ne 75, 3), (71, .sipush 1, 1), (72, .goto 104, 3), (75, .sipush 0, 1), (76, .goto 104, 3), (79, .iload 3, 1), (80, .ifCond .lt 99, 3), (83, .aload 0, 1)]),
  (96, [(84, .getfield 596, 3), (87, .iload 4, 2), (89, .iaload, 1), (90, .aload 0, 1), (91, .getfield 596, 3), (94, .iload 3, 1), (95, .iaload, 1), (96, .if_icmp .ge 103, 3)]),
  (113, [(99, .sipush 1, 1), (100, .goto 104, 3), (103, .sipush 0, 1), (104, .istore 6, 2), (106, .iload 5, 2), (108, .ifCond .eq 121, 3), (111, .iload 6, 2), (113, .ifCond .eq 121, 3)]),
  (130, [(116, .iload 4, 2), (118, .goto 122, 3), (121, .iload 3, 1), (122, .istore 3, 1), (123, .iinc 4 1, 3), (126, .goto 5, 3), (129, .iload 3, 1), (130, .ireturn, 1)])]
/-- 251: EightBlocksModel.finds(I)Z -/
def tb_251 : am_T := [(13, [(0, .sipush 0, 1), (1, .istore 2, 1), (2, .iload 2, 1), (3, .sipush 24, 2), (5, .if_icmp .ge 21, 3), (8, .aload 0, 1), (9, .getfield 596, 3), (12, .iload 2, 1), (13, .iload 2, 1)]),
  (29, [(14, .iastore, 1), (15, .iinc 2 1, 3), (18, .goto 2, 3), (21, .sipush 0, 1), (22, .istore 2, 1), (23, .iload 2, 1), (24, .sipush 24, 2), (26, .if_icmp .ge 147, 3), (29, .aload 0, 1)]),
  (42, [(30, .iload 2, 1), (31, .iload 1, 1), (32, .invokevirtual 250, 3), (35, .istore 3, 1), (36, .iload 3, 1), (37, .ifCond .ge 42, 3), (40, .sipush 0, 1), (41, .ireturn, 1), (42, .aload 0, 1)]),
  (55, [(43, .getfield 592, 3), (46, .sipush 24, 2), (48, .iload 2, 1), (49, .imul, 1), (50, .iload 3, 1), (51, .iadd, 1), (52, .iaload, 1), (53, .istore 4, 2), (55, .sipush 0, 1)]),
  (73, [(56, .istore 5, 2), (58, .iload 5, 2), (60, .sipush 24, 2), (62, .if_icmp .ge 111, 3), (65, .aload 0, 1), (66, .getfield 589, 3), (69, .iload 5, 2), (71, .iload 4, 2), (73, .ifCond .ge 86, 3)]),
  (91, [(76, .aload 0, 1), (77, .getfield 596, 3), (80, .iload 5, 2), (82, .iaload, 1), (83, .goto 104, 3), (86, .aload 0, 1), (87, .getfield 596, 3), (90, .aload 0, 1), (91, .getfield 593, 3)]),
  (105, [(94, .sipush 24, 2), (96, .iload 4, 2), (98, .imul, 1), (99, .iload 5, 2), (101, .iadd, 1), (102, .iaload, 1), (103, .iaload, 1), (104, .iastore, 1), (105, .iinc 5 1, 3)]),
  (125, [(108, .goto 58, 3), (111, .sipush 0, 1), (112, .istore 5, 2), (114, .iload 5, 2), (116, .sipush 24, 2), (118, .if_icmp .ge 141, 3), (121, .aload 0, 1), (122, .getfield 596, 3), (125, .iload 5, 2)]),
  (144, [(127, .aload 0, 1), (128, .getfield 589, 3), (131, .iload 5, 2), (133, .iaload, 1), (134, .iastore, 1), (135, .iinc 5 1, 3), (138, .goto 114, 3), (141, .iinc 2 1, 3), (144, .goto 23, 3)]),
  (148, [(147, .sipush 1, 1), (148, .ireturn, 1)])]
/-- 252: EightBlocksModel.retrace(IIIII)I -/
def tb_252 : am_T := [(20, [(0, .iload 1, 1), (1, .invokestatic 213, 3), (4, .ifCond .eq 39, 3), (7, .iload 2, 1), (8, .invokestatic 241, 3), (11, .ifCond .eq 39, 3), (14, .iload 3, 1), (15, .i2l, 1), (16, .jsr_w 0, 1), (17, .jsr_w 3, 3), (20, .invokestatic 144, 3)]),
  (42, [(23, .ifCond .eq 39, 3), (26, .iload 5, 2), (28, .i2l, 1), (29, .jsr_w 1, 1), (30, .jsr_w 8, 3), (33, .invokestatic 144, 3), (36, .ifCond .ne 41, 3), (39, .sipush (-1), 1), (40, .ireturn, 1), (41, .aload 0, 1), (42, .iload 2, 1)]),
  (62, [(43, .iload 3, 1), (44, .iload 4, 2), (46, .sipush 2, 1), (47, .iload 5, 2), (49, .imul, 1), (50, .invokevirtual 245, 3), (53, .istore 6, 2), (55, .iload 6, 2), (57, .ifCond .ge 63, 3), (60, .iload 6, 2), (62, .ireturn, 1)]),
  (79, [(63, .aload 0, 1), (64, .iload 1, 1), (65, .invokevirtual 214, 3), (68, .istore 7, 2), (70, .sipush 0, 1), (71, .istore 8, 2), (73, .iload 8, 2), (75, .sipush 2, 1), (76, .iload 5, 2), (78, .imul, 1), (79, .if_icmp .ge 121, 3)]),
  (100, [(82, .iload 7, 2), (84, .ifCond .eq 112, 3), (87, .aload 0, 1), (88, .getfield 610, 3), (91, .sipush 32, 2), (93, .iload 2, 1), (94, .imul, 1), (95, .iload 4, 2), (97, .iadd, 1), (98, .iload 8, 2), (100, .iadd, 1)]),
  (123, [(101, .laload, 1), (102, .invokestatic 150, 3), (105, .ifCond .eq 112, 3), (108, .sipush 1, 1), (109, .goto 113, 3), (112, .sipush 0, 1), (113, .istore 7, 2), (115, .iinc 8 1, 3), (118, .goto 73, 3), (121, .iload 7, 2), (123, .ifCond .ne 129, 3)]),
  (142, [(126, .sipush (-2), 2), (128, .ireturn, 1), (129, .aload 0, 1), (130, .sipush 32, 2), (132, .iload 2, 1), (133, .imul, 1), (134, .iload 4, 2), (136, .iadd, 1), (137, .iload 5, 2), (139, .invokevirtual 249, 3), (142, .istore 8, 2)]),
  (161, [(144, .iload 8, 2), (146, .ifCond .ge 151, 3), (149, .sipush 0, 1), (150, .ireturn, 1), (151, .aload 0, 1), (152, .iload 1, 1), (153, .iload 8, 2), (155, .invokevirtual 211, 3), (158, .aload 0, 1), (159, .iload 8, 2), (161, .invokestatic 147, 3)]),
  (183, [(164, .invokevirtual 251, 3), (167, .ifCond .ne 172, 3), (170, .sipush 0, 1), (171, .ireturn, 1), (172, .sipush 0, 1), (173, .istore 9, 2), (175, .iload 9, 2), (177, .sipush 24, 2), (179, .if_icmp .ge 205, 3), (182, .aload 0, 1), (183, .getfield 576, 3)]),
  (205, [(186, .sipush 96, 2), (188, .iload 9, 2), (190, .iadd, 1), (191, .aload 0, 1), (192, .getfield 596, 3), (195, .iload 9, 2), (197, .iaload, 1), (198, .iastore, 1), (199, .iinc 9 1, 3), (202, .goto 175, 3), (205, .aload 0, 1)]),
  (214, [(206, .iload 8, 2), (208, .invokestatic 147, 3), (211, .invokevirtual 212, 3), (214, .ireturn, 1)])]
/-- 253: java/lang/Integer.bitCount(I)I -/
def tb_253 : am_T := [(7, [(0, .iload 0, 1), (1, .iload 0, 1), (2, .sipush 1, 1), (3, .iushr, 1), (4, .sipush 1431655765, 3), (7, .iand, 1)]),
  (15, [(8, .isub, 1), (9, .istore 0, 1), (10, .iload 0, 1), (11, .sipush 858993459, 3), (14, .iand, 1), (15, .iload 0, 1)]),
  (23, [(16, .sipush 2, 1), (17, .iushr, 1), (18, .sipush 858993459, 3), (21, .iand, 1), (22, .iadd, 1), (23, .istore 0, 1)]),
  (29, [(24, .iload 0, 1), (25, .iload 0, 1), (26, .sipush 4, 1), (27, .iushr, 1), (28, .iadd, 1), (29, .sipush 252645135, 3)]),
  (38, [(32, .iand, 1), (33, .istore 0, 1), (34, .iload 0, 1), (35, .iload 0, 1), (36, .sipush 8, 2), (38, .iushr, 1)]),
  (45, [(39, .iadd, 1), (40, .istore 0, 1), (41, .iload 0, 1), (42, .iload 0, 1), (43, .sipush 16, 2), (45, .iushr, 1)]),
  (52, [(46, .iadd, 1), (47, .istore 0, 1), (48, .iload 0, 1), (49, .sipush 63, 2), (51, .iand, 1), (52, .ireturn, 1)])]
/-- 254: java/lang/Math.floorMod(II)I -/
def tb_254 : am_T := [(3, [(0, .iload 0, 1), (1, .iload 1, 1), (2, .irem, 1), (3, .istore 2, 1)]),
  (7, [(4, .iload 0, 1), (5, .iload 1, 1), (6, .ixor, 1), (7, .ifCond .ge 18, 3)]),
  (15, [(10, .iload 2, 1), (11, .ifCond .eq 18, 3), (14, .iload 2, 1), (15, .iload 1, 1)]),
  (19, [(16, .iadd, 1), (17, .ireturn, 1), (18, .iload 2, 1), (19, .ireturn, 1)])]
/-- 255: java/util/Arrays.fill([JJ)V -/
def tb_255 : am_T := [(3, [(0, .sipush 0, 1), (1, .istore 3, 1), (2, .aload 0, 1), (3, .arraylength, 1)]),
  (9, [(4, .istore 4, 2), (6, .iload 3, 1), (7, .iload 4, 2), (9, .if_icmp .ge 22, 3)]),
  (15, [(12, .aload 0, 1), (13, .iload 3, 1), (14, .lload 1, 1), (15, .lastore, 1)]),
  (22, [(16, .iinc 3 1, 3), (19, .goto 6, 3), (22, .return_, 1)])]
/-- 256: java/util/Arrays.fill([II)V -/
def tb_256 : am_T := [(3, [(0, .sipush 0, 1), (1, .istore 2, 1), (2, .aload 0, 1), (3, .arraylength, 1)]),
  (7, [(4, .istore 3, 1), (5, .iload 2, 1), (6, .iload 3, 1), (7, .if_icmp .ge 20, 3)]),
  (13, [(10, .aload 0, 1), (11, .iload 2, 1), (12, .iload 1, 1), (13, .iastore, 1)]),
  (20, [(14, .iinc 2 1, 3), (17, .goto 5, 3), (20, .return_, 1)])]
/-- 257: EightBlocksLaw.law([I)Z -/
def tb_law_0 : am_T := [(178, [(0, .new 8, 3), (3, .dup, 1), (4, .invokespecial 102, 3), (7, .astore 1, 1), (8, .new 9, 3), (11, .dup, 1), (12, .invokespecial 145, 3), (15, .astore 2, 1), (16, .sipush 0, 1), (17, .istore 3, 1), (18, .iload 3, 1), (19, .aload 0, 1), (20, .arraylength, 1), (21, .sipush 6, 2), (23, .isub, 1), (24, .if_icmp .gt 1191, 3), (27, .aload 0, 1), (28, .iload 3, 1), (29, .iaload, 1), (30, .sipush 31, 2), (32, .iand, 1), (33, .tableswitch 1185 0 30 #[172, 205, 238, 261, 294, 327, 360, 393, 426, 459, 492, 515, 538, 571, 614, 647, 670, 693, 726, 749, 772, 785, 808, 831, 844, 857, 920, 973, 1016, 1039, 1122], 139), (172, .aload 1, 1), (173, .aload 0, 1), (174, .iload 3, 1), (175, .sipush 1, 1), (176, .iadd, 1), (177, .iaload, 1), (178, .aload 0, 1)]),
  (213, [(179, .iload 3, 1), (180, .sipush 2, 1), (181, .iadd, 1), (182, .iaload, 1), (183, .invokevirtual 103, 3), (186, .aload 2, 1), (187, .aload 0, 1), (188, .iload 3, 1), (189, .sipush 1, 1), (190, .iadd, 1), (191, .iaload, 1), (192, .aload 0, 1), (193, .iload 3, 1), (194, .sipush 2, 1), (195, .iadd, 1), (196, .iaload, 1), (197, .invokevirtual 161, 3), (200, .if_icmp .eq 1185, 3), (203, .sipush 0, 1), (204, .ireturn, 1), (205, .aload 1, 1), (206, .aload 0, 1), (207, .iload 3, 1), (208, .sipush 1, 1), (209, .iadd, 1), (210, .iaload, 1), (211, .aload 0, 1), (212, .iload 3, 1), (213, .sipush 2, 1)])]
def tb_law_1 : am_T := [(250, [(214, .iadd, 1), (215, .iaload, 1), (216, .invokevirtual 104, 3), (219, .aload 2, 1), (220, .aload 0, 1), (221, .iload 3, 1), (222, .sipush 1, 1), (223, .iadd, 1), (224, .iaload, 1), (225, .aload 0, 1), (226, .iload 3, 1), (227, .sipush 2, 1), (228, .iadd, 1), (229, .iaload, 1), (230, .invokevirtual 163, 3), (233, .if_icmp .eq 1185, 3), (236, .sipush 0, 1), (237, .ireturn, 1), (238, .aload 1, 1), (239, .aload 0, 1), (240, .iload 3, 1), (241, .sipush 1, 1), (242, .iadd, 1), (243, .iaload, 1), (244, .invokevirtual 105, 3), (247, .aload 2, 1), (248, .aload 0, 1), (249, .iload 3, 1), (250, .sipush 1, 1)]),
  (285, [(251, .iadd, 1), (252, .iaload, 1), (253, .invokevirtual 165, 3), (256, .if_icmp .eq 1185, 3), (259, .sipush 0, 1), (260, .ireturn, 1), (261, .aload 1, 1), (262, .aload 0, 1), (263, .iload 3, 1), (264, .sipush 1, 1), (265, .iadd, 1), (266, .iaload, 1), (267, .aload 0, 1), (268, .iload 3, 1), (269, .sipush 2, 1), (270, .iadd, 1), (271, .iaload, 1), (272, .invokevirtual 106, 3), (275, .aload 2, 1), (276, .aload 0, 1), (277, .iload 3, 1), (278, .sipush 1, 1), (279, .iadd, 1), (280, .iaload, 1), (281, .aload 0, 1), (282, .iload 3, 1), (283, .sipush 2, 1), (284, .iadd, 1), (285, .iaload, 1)])]
def tb_law_2 : am_T := [(322, [(286, .invokevirtual 167, 3), (289, .if_icmp .eq 1185, 3), (292, .sipush 0, 1), (293, .ireturn, 1), (294, .aload 1, 1), (295, .aload 0, 1), (296, .iload 3, 1), (297, .sipush 1, 1), (298, .iadd, 1), (299, .iaload, 1), (300, .aload 0, 1), (301, .iload 3, 1), (302, .sipush 2, 1), (303, .iadd, 1), (304, .iaload, 1), (305, .invokevirtual 107, 3), (308, .aload 2, 1), (309, .aload 0, 1), (310, .iload 3, 1), (311, .sipush 1, 1), (312, .iadd, 1), (313, .iaload, 1), (314, .aload 0, 1), (315, .iload 3, 1), (316, .sipush 2, 1), (317, .iadd, 1), (318, .iaload, 1), (319, .invokevirtual 169, 3), (322, .if_icmp .eq 1185, 3)]),
  (359, [(325, .sipush 0, 1), (326, .ireturn, 1), (327, .aload 1, 1), (328, .aload 0, 1), (329, .iload 3, 1), (330, .sipush 1, 1), (331, .iadd, 1), (332, .iaload, 1), (333, .aload 0, 1), (334, .iload 3, 1), (335, .sipush 2, 1), (336, .iadd, 1), (337, .iaload, 1), (338, .invokevirtual 108, 3), (341, .aload 2, 1), (342, .aload 0, 1), (343, .iload 3, 1), (344, .sipush 1, 1), (345, .iadd, 1), (346, .iaload, 1), (347, .aload 0, 1), (348, .iload 3, 1), (349, .sipush 2, 1), (350, .iadd, 1), (351, .iaload, 1), (352, .invokevirtual 170, 3), (355, .if_icmp .eq 1185, 3), (358, .sipush 0, 1), (359, .ireturn, 1)])]
def tb_law_3 : am_T := [(394, [(360, .aload 1, 1), (361, .aload 0, 1), (362, .iload 3, 1), (363, .sipush 1, 1), (364, .iadd, 1), (365, .iaload, 1), (366, .aload 0, 1), (367, .iload 3, 1), (368, .sipush 2, 1), (369, .iadd, 1), (370, .iaload, 1), (371, .invokevirtual 109, 3), (374, .aload 2, 1), (375, .aload 0, 1), (376, .iload 3, 1), (377, .sipush 1, 1), (378, .iadd, 1), (379, .iaload, 1), (380, .aload 0, 1), (381, .iload 3, 1), (382, .sipush 2, 1), (383, .iadd, 1), (384, .iaload, 1), (385, .invokevirtual 173, 3), (388, .if_icmp .eq 1185, 3), (391, .sipush 0, 1), (392, .ireturn, 1), (393, .aload 1, 1), (394, .aload 0, 1)]),
  (429, [(395, .iload 3, 1), (396, .sipush 1, 1), (397, .iadd, 1), (398, .iaload, 1), (399, .aload 0, 1), (400, .iload 3, 1), (401, .sipush 2, 1), (402, .iadd, 1), (403, .iaload, 1), (404, .invokevirtual 110, 3), (407, .aload 2, 1), (408, .aload 0, 1), (409, .iload 3, 1), (410, .sipush 1, 1), (411, .iadd, 1), (412, .iaload, 1), (413, .aload 0, 1), (414, .iload 3, 1), (415, .sipush 2, 1), (416, .iadd, 1), (417, .iaload, 1), (418, .invokevirtual 186, 3), (421, .if_icmp .eq 1185, 3), (424, .sipush 0, 1), (425, .ireturn, 1), (426, .aload 1, 1), (427, .aload 0, 1), (428, .iload 3, 1), (429, .sipush 1, 1)])]
def tb_law_4 : am_T := [(464, [(430, .iadd, 1), (431, .iaload, 1), (432, .aload 0, 1), (433, .iload 3, 1), (434, .sipush 2, 1), (435, .iadd, 1), (436, .iaload, 1), (437, .invokevirtual 111, 3), (440, .aload 2, 1), (441, .aload 0, 1), (442, .iload 3, 1), (443, .sipush 1, 1), (444, .iadd, 1), (445, .iaload, 1), (446, .aload 0, 1), (447, .iload 3, 1), (448, .sipush 2, 1), (449, .iadd, 1), (450, .iaload, 1), (451, .invokevirtual 187, 3), (454, .if_icmp .eq 1185, 3), (457, .sipush 0, 1), (458, .ireturn, 1), (459, .aload 1, 1), (460, .aload 0, 1), (461, .iload 3, 1), (462, .sipush 1, 1), (463, .iadd, 1), (464, .iaload, 1)]),
  (501, [(465, .aload 0, 1), (466, .iload 3, 1), (467, .sipush 2, 1), (468, .iadd, 1), (469, .iaload, 1), (470, .invokevirtual 112, 3), (473, .aload 2, 1), (474, .aload 0, 1), (475, .iload 3, 1), (476, .sipush 1, 1), (477, .iadd, 1), (478, .iaload, 1), (479, .aload 0, 1), (480, .iload 3, 1), (481, .sipush 2, 1), (482, .iadd, 1), (483, .iaload, 1), (484, .invokevirtual 175, 3), (487, .if_icmp .eq 1185, 3), (490, .sipush 0, 1), (491, .ireturn, 1), (492, .aload 1, 1), (493, .aload 0, 1), (494, .iload 3, 1), (495, .sipush 1, 1), (496, .iadd, 1), (497, .iaload, 1), (498, .invokevirtual 113, 3), (501, .aload 2, 1)])]
def tb_law_5 : am_T := [(540, [(502, .aload 0, 1), (503, .iload 3, 1), (504, .sipush 1, 1), (505, .iadd, 1), (506, .iaload, 1), (507, .invokevirtual 188, 3), (510, .if_icmp .eq 1185, 3), (513, .sipush 0, 1), (514, .ireturn, 1), (515, .aload 1, 1), (516, .aload 0, 1), (517, .iload 3, 1), (518, .sipush 1, 1), (519, .iadd, 1), (520, .iaload, 1), (521, .invokevirtual 114, 3), (524, .aload 2, 1), (525, .aload 0, 1), (526, .iload 3, 1), (527, .sipush 1, 1), (528, .iadd, 1), (529, .iaload, 1), (530, .invokevirtual 204, 3), (533, .if_icmp .eq 1185, 3), (536, .sipush 0, 1), (537, .ireturn, 1), (538, .aload 1, 1), (539, .aload 0, 1), (540, .iload 3, 1)]),
  (575, [(541, .sipush 1, 1), (542, .iadd, 1), (543, .iaload, 1), (544, .aload 0, 1), (545, .iload 3, 1), (546, .sipush 2, 1), (547, .iadd, 1), (548, .iaload, 1), (549, .invokevirtual 115, 3), (552, .aload 2, 1), (553, .aload 0, 1), (554, .iload 3, 1), (555, .sipush 1, 1), (556, .iadd, 1), (557, .iaload, 1), (558, .aload 0, 1), (559, .iload 3, 1), (560, .sipush 2, 1), (561, .iadd, 1), (562, .iaload, 1), (563, .invokevirtual 226, 3), (566, .if_icmp .eq 1185, 3), (569, .sipush 0, 1), (570, .ireturn, 1), (571, .aload 1, 1), (572, .aload 0, 1), (573, .iload 3, 1), (574, .sipush 1, 1), (575, .iadd, 1)])]
def tb_law_6 : am_T := [(606, [(576, .iaload, 1), (577, .aload 0, 1), (578, .iload 3, 1), (579, .sipush 2, 1), (580, .iadd, 1), (581, .iaload, 1), (582, .aload 0, 1), (583, .iload 3, 1), (584, .sipush 3, 1), (585, .iadd, 1), (586, .iaload, 1), (587, .invokevirtual 116, 3), (590, .aload 2, 1), (591, .aload 0, 1), (592, .iload 3, 1), (593, .sipush 1, 1), (594, .iadd, 1), (595, .iaload, 1), (596, .aload 0, 1), (597, .iload 3, 1), (598, .sipush 2, 1), (599, .iadd, 1), (600, .iaload, 1), (601, .aload 0, 1), (602, .iload 3, 1), (603, .sipush 3, 1), (604, .iadd, 1), (605, .iaload, 1), (606, .invokevirtual 227, 3)]),
  (645, [(609, .if_icmp .eq 1185, 3), (612, .sipush 0, 1), (613, .ireturn, 1), (614, .aload 1, 1), (615, .aload 0, 1), (616, .iload 3, 1), (617, .sipush 1, 1), (618, .iadd, 1), (619, .iaload, 1), (620, .aload 0, 1), (621, .iload 3, 1), (622, .sipush 2, 1), (623, .iadd, 1), (624, .iaload, 1), (625, .invokevirtual 117, 3), (628, .aload 2, 1), (629, .aload 0, 1), (630, .iload 3, 1), (631, .sipush 1, 1), (632, .iadd, 1), (633, .iaload, 1), (634, .aload 0, 1), (635, .iload 3, 1), (636, .sipush 2, 1), (637, .iadd, 1), (638, .iaload, 1), (639, .invokevirtual 228, 3), (642, .if_icmp .eq 1185, 3), (645, .sipush 0, 1)])]
def tb_law_7 : am_T := [(682, [(646, .ireturn, 1), (647, .aload 1, 1), (648, .aload 0, 1), (649, .iload 3, 1), (650, .sipush 1, 1), (651, .iadd, 1), (652, .iaload, 1), (653, .invokevirtual 118, 3), (656, .aload 2, 1), (657, .aload 0, 1), (658, .iload 3, 1), (659, .sipush 1, 1), (660, .iadd, 1), (661, .iaload, 1), (662, .invokevirtual 229, 3), (665, .if_icmp .eq 1185, 3), (668, .sipush 0, 1), (669, .ireturn, 1), (670, .aload 1, 1), (671, .aload 0, 1), (672, .iload 3, 1), (673, .sipush 1, 1), (674, .iadd, 1), (675, .iaload, 1), (676, .invokevirtual 119, 3), (679, .aload 2, 1), (680, .aload 0, 1), (681, .iload 3, 1), (682, .sipush 1, 1)]),
  (717, [(683, .iadd, 1), (684, .iaload, 1), (685, .invokevirtual 230, 3), (688, .if_icmp .eq 1185, 3), (691, .sipush 0, 1), (692, .ireturn, 1), (693, .aload 1, 1), (694, .aload 0, 1), (695, .iload 3, 1), (696, .sipush 1, 1), (697, .iadd, 1), (698, .iaload, 1), (699, .aload 0, 1), (700, .iload 3, 1), (701, .sipush 2, 1), (702, .iadd, 1), (703, .iaload, 1), (704, .invokevirtual 120, 3), (707, .aload 2, 1), (708, .aload 0, 1), (709, .iload 3, 1), (710, .sipush 1, 1), (711, .iadd, 1), (712, .iaload, 1), (713, .aload 0, 1), (714, .iload 3, 1), (715, .sipush 2, 1), (716, .iadd, 1), (717, .iaload, 1)])]
def tb_law_8 : am_T := [(758, [(718, .invokevirtual 231, 3), (721, .if_icmp .eq 1185, 3), (724, .sipush 0, 1), (725, .ireturn, 1), (726, .aload 1, 1), (727, .aload 0, 1), (728, .iload 3, 1), (729, .sipush 1, 1), (730, .iadd, 1), (731, .iaload, 1), (732, .invokevirtual 121, 3), (735, .aload 2, 1), (736, .aload 0, 1), (737, .iload 3, 1), (738, .sipush 1, 1), (739, .iadd, 1), (740, .iaload, 1), (741, .invokevirtual 232, 3), (744, .if_icmp .eq 1185, 3), (747, .sipush 0, 1), (748, .ireturn, 1), (749, .aload 1, 1), (750, .aload 0, 1), (751, .iload 3, 1), (752, .sipush 1, 1), (753, .iadd, 1), (754, .iaload, 1), (755, .invokevirtual 122, 3), (758, .aload 2, 1)]),
  (799, [(759, .aload 0, 1), (760, .iload 3, 1), (761, .sipush 1, 1), (762, .iadd, 1), (763, .iaload, 1), (764, .invokevirtual 236, 3), (767, .if_icmp .eq 1185, 3), (770, .sipush 0, 1), (771, .ireturn, 1), (772, .aload 1, 1), (773, .invokevirtual 123, 3), (776, .aload 2, 1), (777, .invokevirtual 234, 3), (780, .if_icmp .eq 1185, 3), (783, .sipush 0, 1), (784, .ireturn, 1), (785, .aload 1, 1), (786, .aload 0, 1), (787, .iload 3, 1), (788, .sipush 1, 1), (789, .iadd, 1), (790, .iaload, 1), (791, .invokevirtual 124, 3), (794, .aload 2, 1), (795, .aload 0, 1), (796, .iload 3, 1), (797, .sipush 1, 1), (798, .iadd, 1), (799, .iaload, 1)])]
def tb_law_9 : am_T := [(844, [(800, .invokevirtual 237, 3), (803, .if_icmp .eq 1185, 3), (806, .sipush 0, 1), (807, .ireturn, 1), (808, .aload 1, 1), (809, .aload 0, 1), (810, .iload 3, 1), (811, .sipush 1, 1), (812, .iadd, 1), (813, .iaload, 1), (814, .invokevirtual 125, 3), (817, .aload 2, 1), (818, .aload 0, 1), (819, .iload 3, 1), (820, .sipush 1, 1), (821, .iadd, 1), (822, .iaload, 1), (823, .invokevirtual 238, 3), (826, .if_icmp .eq 1185, 3), (829, .sipush 0, 1), (830, .ireturn, 1), (831, .aload 1, 1), (832, .invokevirtual 126, 3), (835, .aload 2, 1), (836, .invokevirtual 239, 3), (839, .if_icmp .eq 1185, 3), (842, .sipush 0, 1), (843, .ireturn, 1), (844, .aload 1, 1)]),
  (879, [(845, .invokevirtual 127, 3), (848, .aload 2, 1), (849, .invokevirtual 240, 3), (852, .if_icmp .eq 1185, 3), (855, .sipush 0, 1), (856, .ireturn, 1), (857, .aload 1, 1), (858, .aload 0, 1), (859, .iload 3, 1), (860, .sipush 1, 1), (861, .iadd, 1), (862, .iaload, 1), (863, .aload 0, 1), (864, .iload 3, 1), (865, .sipush 2, 1), (866, .iadd, 1), (867, .iaload, 1), (868, .aload 0, 1), (869, .iload 3, 1), (870, .sipush 3, 1), (871, .iadd, 1), (872, .iaload, 1), (873, .aload 0, 1), (874, .iload 3, 1), (875, .sipush 4, 1), (876, .iadd, 1), (877, .iaload, 1), (878, .aload 0, 1), (879, .iload 3, 1)])]
def tb_law_10 : am_T := [(910, [(880, .sipush 5, 1), (881, .iadd, 1), (882, .iaload, 1), (883, .invokevirtual 128, 3), (886, .aload 2, 1), (887, .aload 0, 1), (888, .iload 3, 1), (889, .sipush 1, 1), (890, .iadd, 1), (891, .iaload, 1), (892, .aload 0, 1), (893, .iload 3, 1), (894, .sipush 2, 1), (895, .iadd, 1), (896, .iaload, 1), (897, .aload 0, 1), (898, .iload 3, 1), (899, .sipush 3, 1), (900, .iadd, 1), (901, .iaload, 1), (902, .aload 0, 1), (903, .iload 3, 1), (904, .sipush 4, 1), (905, .iadd, 1), (906, .iaload, 1), (907, .aload 0, 1), (908, .iload 3, 1), (909, .sipush 5, 1), (910, .iadd, 1)]),
  (945, [(911, .iaload, 1), (912, .invokevirtual 252, 3), (915, .if_icmp .eq 1185, 3), (918, .sipush 0, 1), (919, .ireturn, 1), (920, .aload 1, 1), (921, .aload 0, 1), (922, .iload 3, 1), (923, .sipush 1, 1), (924, .iadd, 1), (925, .iaload, 1), (926, .aload 0, 1), (927, .iload 3, 1), (928, .sipush 2, 1), (929, .iadd, 1), (930, .iaload, 1), (931, .aload 0, 1), (932, .iload 3, 1), (933, .sipush 3, 1), (934, .iadd, 1), (935, .iaload, 1), (936, .aload 0, 1), (937, .iload 3, 1), (938, .sipush 4, 1), (939, .iadd, 1), (940, .iaload, 1), (941, .invokevirtual 129, 3), (944, .aload 2, 1), (945, .aload 0, 1)])]
def tb_law_11 : am_T := [(978, [(946, .iload 3, 1), (947, .sipush 1, 1), (948, .iadd, 1), (949, .iaload, 1), (950, .aload 0, 1), (951, .iload 3, 1), (952, .sipush 2, 1), (953, .iadd, 1), (954, .iaload, 1), (955, .aload 0, 1), (956, .iload 3, 1), (957, .sipush 3, 1), (958, .iadd, 1), (959, .iaload, 1), (960, .aload 0, 1), (961, .iload 3, 1), (962, .sipush 4, 1), (963, .iadd, 1), (964, .iaload, 1), (965, .invokevirtual 248, 3), (968, .if_icmp .eq 1185, 3), (971, .sipush 0, 1), (972, .ireturn, 1), (973, .aload 1, 1), (974, .aload 0, 1), (975, .iload 3, 1), (976, .sipush 1, 1), (977, .iadd, 1), (978, .iaload, 1)]),
  (1011, [(979, .aload 0, 1), (980, .iload 3, 1), (981, .sipush 2, 1), (982, .iadd, 1), (983, .iaload, 1), (984, .aload 0, 1), (985, .iload 3, 1), (986, .sipush 3, 1), (987, .iadd, 1), (988, .iaload, 1), (989, .invokevirtual 130, 3), (992, .aload 2, 1), (993, .aload 0, 1), (994, .iload 3, 1), (995, .sipush 1, 1), (996, .iadd, 1), (997, .iaload, 1), (998, .aload 0, 1), (999, .iload 3, 1), (1000, .sipush 2, 1), (1001, .iadd, 1), (1002, .iaload, 1), (1003, .aload 0, 1), (1004, .iload 3, 1), (1005, .sipush 3, 1), (1006, .iadd, 1), (1007, .iaload, 1), (1008, .invokevirtual 243, 3), (1011, .if_icmp .eq 1185, 3)])]
def tb_law_12 : am_T := [(1048, [(1014, .sipush 0, 1), (1015, .ireturn, 1), (1016, .aload 1, 1), (1017, .aload 0, 1), (1018, .iload 3, 1), (1019, .sipush 1, 1), (1020, .iadd, 1), (1021, .iaload, 1), (1022, .invokevirtual 131, 3), (1025, .aload 2, 1), (1026, .aload 0, 1), (1027, .iload 3, 1), (1028, .sipush 1, 1), (1029, .iadd, 1), (1030, .iaload, 1), (1031, .invokevirtual 244, 3), (1034, .if_icmp .eq 1185, 3), (1037, .sipush 0, 1), (1038, .ireturn, 1), (1039, .aload 1, 1), (1040, .aload 0, 1), (1041, .iload 3, 1), (1042, .sipush 1, 1), (1043, .iadd, 1), (1044, .iaload, 1), (1045, .aload 0, 1), (1046, .iload 3, 1), (1047, .sipush 2, 1), (1048, .iadd, 1)]),
  (1082, [(1049, .iaload, 1), (1050, .aload 0, 1), (1051, .iload 3, 1), (1052, .sipush 3, 1), (1053, .iadd, 1), (1054, .iaload, 1), (1055, .aload 0, 1), (1056, .iload 3, 1), (1057, .sipush 4, 1), (1058, .iadd, 1), (1059, .iaload, 1), (1060, .i2l, 1), (1061, .sipush 32, 2), (1063, .lshl, 1), (1064, .aload 0, 1), (1065, .iload 3, 1), (1066, .sipush 5, 1), (1067, .iadd, 1), (1068, .iaload, 1), (1069, .i2l, 1), (1070, .jsr_w 4294967295, 3), (1073, .land, 1), (1074, .lor, 1), (1075, .invokevirtual 132, 3), (1078, .aload 2, 1), (1079, .aload 0, 1), (1080, .iload 3, 1), (1081, .sipush 1, 1), (1082, .iadd, 1)])]
def tb_law_13 : am_T := [(1114, [(1083, .iaload, 1), (1084, .aload 0, 1), (1085, .iload 3, 1), (1086, .sipush 2, 1), (1087, .iadd, 1), (1088, .iaload, 1), (1089, .aload 0, 1), (1090, .iload 3, 1), (1091, .sipush 3, 1), (1092, .iadd, 1), (1093, .iaload, 1), (1094, .aload 0, 1), (1095, .iload 3, 1), (1096, .sipush 4, 1), (1097, .iadd, 1), (1098, .iaload, 1), (1099, .i2l, 1), (1100, .sipush 32, 2), (1102, .lshl, 1), (1103, .aload 0, 1), (1104, .iload 3, 1), (1105, .sipush 5, 1), (1106, .iadd, 1), (1107, .iaload, 1), (1108, .i2l, 1), (1109, .jsr_w 4294967295, 3), (1112, .land, 1), (1113, .lor, 1), (1114, .invokevirtual 246, 3)]),
  (1147, [(1117, .if_icmp .eq 1185, 3), (1120, .sipush 0, 1), (1121, .ireturn, 1), (1122, .aload 1, 1), (1123, .aload 0, 1), (1124, .iload 3, 1), (1125, .sipush 1, 1), (1126, .iadd, 1), (1127, .iaload, 1), (1128, .aload 0, 1), (1129, .iload 3, 1), (1130, .sipush 2, 1), (1131, .iadd, 1), (1132, .iaload, 1), (1133, .aload 0, 1), (1134, .iload 3, 1), (1135, .sipush 3, 1), (1136, .iadd, 1), (1137, .iaload, 1), (1138, .aload 0, 1), (1139, .iload 3, 1), (1140, .sipush 4, 1), (1141, .iadd, 1), (1142, .iaload, 1), (1143, .aload 0, 1), (1144, .iload 3, 1), (1145, .sipush 5, 1), (1146, .iadd, 1), (1147, .iaload, 1)])]
def tb_law_14 : am_T := [(1180, [(1148, .invokevirtual 133, 3), (1151, .aload 2, 1), (1152, .aload 0, 1), (1153, .iload 3, 1), (1154, .sipush 1, 1), (1155, .iadd, 1), (1156, .iaload, 1), (1157, .aload 0, 1), (1158, .iload 3, 1), (1159, .sipush 2, 1), (1160, .iadd, 1), (1161, .iaload, 1), (1162, .aload 0, 1), (1163, .iload 3, 1), (1164, .sipush 3, 1), (1165, .iadd, 1), (1166, .iaload, 1), (1167, .aload 0, 1), (1168, .iload 3, 1), (1169, .sipush 4, 1), (1170, .iadd, 1), (1171, .iaload, 1), (1172, .aload 0, 1), (1173, .iload 3, 1), (1174, .sipush 5, 1), (1175, .iadd, 1), (1176, .iaload, 1), (1177, .invokevirtual 247, 3), (1180, .if_icmp .eq 1185, 3)]),
  (1192, [(1183, .sipush 0, 1), (1184, .ireturn, 1), (1185, .iinc 3 6, 3), (1188, .goto 18, 3), (1191, .sipush 1, 1), (1192, .ireturn, 1)])]
def tb_257 : am_T := tb_law_0 ++ (tb_law_1 ++ (tb_law_2 ++ (tb_law_3 ++ (tb_law_4 ++ (tb_law_5 ++ (tb_law_6 ++ (tb_law_7 ++ (tb_law_8 ++ (tb_law_9 ++ (tb_law_10 ++ (tb_law_11 ++ (tb_law_12 ++ (tb_law_13 ++ (tb_law_14))))))))))))))
def am_tb (k : Nat) : am_T := (cond (Nat.ble k 128) (cond (Nat.ble k 63) (cond (Nat.ble k 31) (cond (Nat.ble k 15) (cond (Nat.ble k 7) (cond (Nat.ble k 3) (cond (Nat.ble k 1) (cond (Nat.ble k 0) tb_0 tb_1) (cond (Nat.ble k 2) tb_2 tb_3)) (cond (Nat.ble k 5) (cond (Nat.ble k 4) tb_4 tb_5) (cond (Nat.ble k 6) tb_6 tb_7))) (cond (Nat.ble k 11) (cond (Nat.ble k 9) (cond (Nat.ble k 8) tb_8 tb_9) (cond (Nat.ble k 10) tb_10 tb_11)) (cond (Nat.ble k 13) (cond (Nat.ble k 12) tb_12 tb_13) (cond (Nat.ble k 14) tb_14 tb_15)))) (cond (Nat.ble k 23) (cond (Nat.ble k 19) (cond (Nat.ble k 17) (cond (Nat.ble k 16) tb_16 tb_17) (cond (Nat.ble k 18) tb_18 tb_19)) (cond (Nat.ble k 21) (cond (Nat.ble k 20) tb_20 tb_21) (cond (Nat.ble k 22) tb_22 tb_23))) (cond (Nat.ble k 27) (cond (Nat.ble k 25) (cond (Nat.ble k 24) tb_24 tb_25) (cond (Nat.ble k 26) tb_26 tb_27)) (cond (Nat.ble k 29) (cond (Nat.ble k 28) tb_28 tb_29) (cond (Nat.ble k 30) tb_30 tb_31))))) (cond (Nat.ble k 47) (cond (Nat.ble k 39) (cond (Nat.ble k 35) (cond (Nat.ble k 33) (cond (Nat.ble k 32) tb_32 tb_33) (cond (Nat.ble k 34) tb_34 tb_35)) (cond (Nat.ble k 37) (cond (Nat.ble k 36) tb_36 tb_37) (cond (Nat.ble k 38) tb_38 tb_39))) (cond (Nat.ble k 43) (cond (Nat.ble k 41) (cond (Nat.ble k 40) tb_40 tb_41) (cond (Nat.ble k 42) tb_42 tb_43)) (cond (Nat.ble k 45) (cond (Nat.ble k 44) tb_44 tb_45) (cond (Nat.ble k 46) tb_46 tb_47)))) (cond (Nat.ble k 55) (cond (Nat.ble k 51) (cond (Nat.ble k 49) (cond (Nat.ble k 48) tb_48 tb_49) (cond (Nat.ble k 50) tb_50 tb_51)) (cond (Nat.ble k 53) (cond (Nat.ble k 52) tb_52 tb_53) (cond (Nat.ble k 54) tb_54 tb_55))) (cond (Nat.ble k 59) (cond (Nat.ble k 57) (cond (Nat.ble k 56) tb_56 tb_57) (cond (Nat.ble k 58) tb_58 tb_59)) (cond (Nat.ble k 61) (cond (Nat.ble k 60) tb_60 tb_61) (cond (Nat.ble k 62) tb_62 tb_63)))))) (cond (Nat.ble k 95) (cond (Nat.ble k 79) (cond (Nat.ble k 71) (cond (Nat.ble k 67) (cond (Nat.ble k 65) (cond (Nat.ble k 64) tb_64 tb_65) (cond (Nat.ble k 66) tb_66 tb_67)) (cond (Nat.ble k 69) (cond (Nat.ble k 68) tb_68 tb_69) (cond (Nat.ble k 70) tb_70 tb_71))) (cond (Nat.ble k 75) (cond (Nat.ble k 73) (cond (Nat.ble k 72) tb_72 tb_73) (cond (Nat.ble k 74) tb_74 tb_75)) (cond (Nat.ble k 77) (cond (Nat.ble k 76) tb_76 tb_77) (cond (Nat.ble k 78) tb_78 tb_79)))) (cond (Nat.ble k 87) (cond (Nat.ble k 83) (cond (Nat.ble k 81) (cond (Nat.ble k 80) tb_80 tb_81) (cond (Nat.ble k 82) tb_82 tb_83)) (cond (Nat.ble k 85) (cond (Nat.ble k 84) tb_84 tb_85) (cond (Nat.ble k 86) tb_86 tb_87))) (cond (Nat.ble k 91) (cond (Nat.ble k 89) (cond (Nat.ble k 88) tb_88 tb_89) (cond (Nat.ble k 90) tb_90 tb_91)) (cond (Nat.ble k 93) (cond (Nat.ble k 92) tb_92 tb_93) (cond (Nat.ble k 94) tb_94 tb_95))))) (cond (Nat.ble k 111) (cond (Nat.ble k 103) (cond (Nat.ble k 99) (cond (Nat.ble k 97) (cond (Nat.ble k 96) tb_96 tb_97) (cond (Nat.ble k 98) tb_98 tb_99)) (cond (Nat.ble k 101) (cond (Nat.ble k 100) tb_100 tb_101) (cond (Nat.ble k 102) tb_102 tb_103))) (cond (Nat.ble k 107) (cond (Nat.ble k 105) (cond (Nat.ble k 104) tb_104 tb_105) (cond (Nat.ble k 106) tb_106 tb_107)) (cond (Nat.ble k 109) (cond (Nat.ble k 108) tb_108 tb_109) (cond (Nat.ble k 110) tb_110 tb_111)))) (cond (Nat.ble k 119) (cond (Nat.ble k 115) (cond (Nat.ble k 113) (cond (Nat.ble k 112) tb_112 tb_113) (cond (Nat.ble k 114) tb_114 tb_115)) (cond (Nat.ble k 117) (cond (Nat.ble k 116) tb_116 tb_117) (cond (Nat.ble k 118) tb_118 tb_119))) (cond (Nat.ble k 123) (cond (Nat.ble k 121) (cond (Nat.ble k 120) tb_120 tb_121) (cond (Nat.ble k 122) tb_122 tb_123)) (cond (Nat.ble k 125) (cond (Nat.ble k 124) tb_124 tb_125) (cond (Nat.ble k 126) tb_126 (cond (Nat.ble k 127) tb_127 tb_128)))))))) (cond (Nat.ble k 192) (cond (Nat.ble k 160) (cond (Nat.ble k 144) (cond (Nat.ble k 136) (cond (Nat.ble k 132) (cond (Nat.ble k 130) (cond (Nat.ble k 129) tb_129 tb_130) (cond (Nat.ble k 131) tb_131 tb_132)) (cond (Nat.ble k 134) (cond (Nat.ble k 133) tb_133 tb_134) (cond (Nat.ble k 135) tb_135 tb_136))) (cond (Nat.ble k 140) (cond (Nat.ble k 138) (cond (Nat.ble k 137) tb_137 tb_138) (cond (Nat.ble k 139) tb_139 tb_140)) (cond (Nat.ble k 142) (cond (Nat.ble k 141) tb_141 tb_142) (cond (Nat.ble k 143) tb_143 tb_144)))) (cond (Nat.ble k 152) (cond (Nat.ble k 148) (cond (Nat.ble k 146) (cond (Nat.ble k 145) tb_145 tb_146) (cond (Nat.ble k 147) tb_147 tb_148)) (cond (Nat.ble k 150) (cond (Nat.ble k 149) tb_149 tb_150) (cond (Nat.ble k 151) tb_151 tb_152))) (cond (Nat.ble k 156) (cond (Nat.ble k 154) (cond (Nat.ble k 153) tb_153 tb_154) (cond (Nat.ble k 155) tb_155 tb_156)) (cond (Nat.ble k 158) (cond (Nat.ble k 157) tb_157 tb_158) (cond (Nat.ble k 159) tb_159 tb_160))))) (cond (Nat.ble k 176) (cond (Nat.ble k 168) (cond (Nat.ble k 164) (cond (Nat.ble k 162) (cond (Nat.ble k 161) tb_161 tb_162) (cond (Nat.ble k 163) tb_163 tb_164)) (cond (Nat.ble k 166) (cond (Nat.ble k 165) tb_165 tb_166) (cond (Nat.ble k 167) tb_167 tb_168))) (cond (Nat.ble k 172) (cond (Nat.ble k 170) (cond (Nat.ble k 169) tb_169 tb_170) (cond (Nat.ble k 171) tb_171 tb_172)) (cond (Nat.ble k 174) (cond (Nat.ble k 173) tb_173 tb_174) (cond (Nat.ble k 175) tb_175 tb_176)))) (cond (Nat.ble k 184) (cond (Nat.ble k 180) (cond (Nat.ble k 178) (cond (Nat.ble k 177) tb_177 tb_178) (cond (Nat.ble k 179) tb_179 tb_180)) (cond (Nat.ble k 182) (cond (Nat.ble k 181) tb_181 tb_182) (cond (Nat.ble k 183) tb_183 tb_184))) (cond (Nat.ble k 188) (cond (Nat.ble k 186) (cond (Nat.ble k 185) tb_185 tb_186) (cond (Nat.ble k 187) tb_187 tb_188)) (cond (Nat.ble k 190) (cond (Nat.ble k 189) tb_189 tb_190) (cond (Nat.ble k 191) tb_191 tb_192)))))) (cond (Nat.ble k 224) (cond (Nat.ble k 208) (cond (Nat.ble k 200) (cond (Nat.ble k 196) (cond (Nat.ble k 194) (cond (Nat.ble k 193) tb_193 tb_194) (cond (Nat.ble k 195) tb_195 tb_196)) (cond (Nat.ble k 198) (cond (Nat.ble k 197) tb_197 tb_198) (cond (Nat.ble k 199) tb_199 tb_200))) (cond (Nat.ble k 204) (cond (Nat.ble k 202) (cond (Nat.ble k 201) tb_201 tb_202) (cond (Nat.ble k 203) tb_203 tb_204)) (cond (Nat.ble k 206) (cond (Nat.ble k 205) tb_205 tb_206) (cond (Nat.ble k 207) tb_207 tb_208)))) (cond (Nat.ble k 216) (cond (Nat.ble k 212) (cond (Nat.ble k 210) (cond (Nat.ble k 209) tb_209 tb_210) (cond (Nat.ble k 211) tb_211 tb_212)) (cond (Nat.ble k 214) (cond (Nat.ble k 213) tb_213 tb_214) (cond (Nat.ble k 215) tb_215 tb_216))) (cond (Nat.ble k 220) (cond (Nat.ble k 218) (cond (Nat.ble k 217) tb_217 tb_218) (cond (Nat.ble k 219) tb_219 tb_220)) (cond (Nat.ble k 222) (cond (Nat.ble k 221) tb_221 tb_222) (cond (Nat.ble k 223) tb_223 tb_224))))) (cond (Nat.ble k 240) (cond (Nat.ble k 232) (cond (Nat.ble k 228) (cond (Nat.ble k 226) (cond (Nat.ble k 225) tb_225 tb_226) (cond (Nat.ble k 227) tb_227 tb_228)) (cond (Nat.ble k 230) (cond (Nat.ble k 229) tb_229 tb_230) (cond (Nat.ble k 231) tb_231 tb_232))) (cond (Nat.ble k 236) (cond (Nat.ble k 234) (cond (Nat.ble k 233) tb_233 tb_234) (cond (Nat.ble k 235) tb_235 tb_236)) (cond (Nat.ble k 238) (cond (Nat.ble k 237) tb_237 tb_238) (cond (Nat.ble k 239) tb_239 tb_240)))) (cond (Nat.ble k 248) (cond (Nat.ble k 244) (cond (Nat.ble k 242) (cond (Nat.ble k 241) tb_241 tb_242) (cond (Nat.ble k 243) tb_243 tb_244)) (cond (Nat.ble k 246) (cond (Nat.ble k 245) tb_245 tb_246) (cond (Nat.ble k 247) tb_247 tb_248))) (cond (Nat.ble k 252) (cond (Nat.ble k 250) (cond (Nat.ble k 249) tb_249 tb_250) (cond (Nat.ble k 251) tb_251 tb_252)) (cond (Nat.ble k 254) (cond (Nat.ble k 253) tb_253 tb_254) (cond (Nat.ble k 255) tb_255 (cond (Nat.ble k 256) tb_256 tb_257)))))))))
def am_mt (k : Nat) : Nat × Nat × Nat × Nat × Nat := (cond (Nat.ble k 128) (cond (Nat.ble k 63) (cond (Nat.ble k 31) (cond (Nat.ble k 15) (cond (Nat.ble k 7) (cond (Nat.ble k 3) (cond (Nat.ble k 1) (cond (Nat.ble k 0) (1, 0, 1, 1306, 32544) (2, 0, 1, 0, 0)) (cond (Nat.ble k 2) (2, 0, 1, 0, 0) (3, 1, 1, 0, 0))) (cond (Nat.ble k 5) (cond (Nat.ble k 4) (2, 1, 1, 0, 0) (3, 1, 1, 0, 0)) (cond (Nat.ble k 6) (3, 1, 1, 0, 0) (3, 1, 1, 0, 0)))) (cond (Nat.ble k 11) (cond (Nat.ble k 9) (cond (Nat.ble k 8) (3, 3, 1, 0, 0) (3, 0, 1, 0, 0)) (cond (Nat.ble k 10) (3, 0, 1, 0, 0) (4, 0, 1, 0, 0))) (cond (Nat.ble k 13) (cond (Nat.ble k 12) (1, 0, 2, 1, 74) (2, 1, 2, 0, 0)) (cond (Nat.ble k 14) (3, 0, 2, 0, 0) (2, 0, 2, 0, 0))))) (cond (Nat.ble k 23) (cond (Nat.ble k 19) (cond (Nat.ble k 17) (cond (Nat.ble k 16) (2, 1, 2, 0, 0) (1, 0, 3, 6, 15635)) (cond (Nat.ble k 18) (1, 0, 3, 0, 0) (3, 0, 3, 0, 0))) (cond (Nat.ble k 21) (cond (Nat.ble k 20) (1, 0, 3, 0, 0) (1, 1, 0, 0, 0)) (cond (Nat.ble k 22) (2, 1, 3, 0, 0) (2, 1, 3, 0, 0)))) (cond (Nat.ble k 27) (cond (Nat.ble k 25) (cond (Nat.ble k 24) (2, 1, 3, 0, 0) (2, 1, 3, 0, 0)) (cond (Nat.ble k 26) (2, 1, 3, 0, 0) (2, 1, 3, 0, 0))) (cond (Nat.ble k 29) (cond (Nat.ble k 28) (2, 1, 3, 0, 0) (2, 1, 3, 0, 0)) (cond (Nat.ble k 30) (3, 1, 3, 0, 0) (2, 1, 3, 0, 0)))))) (cond (Nat.ble k 47) (cond (Nat.ble k 39) (cond (Nat.ble k 35) (cond (Nat.ble k 33) (cond (Nat.ble k 32) (2, 1, 3, 0, 0) (2, 1, 3, 0, 0)) (cond (Nat.ble k 34) (3, 1, 3, 0, 0) (3, 1, 3, 0, 0))) (cond (Nat.ble k 37) (cond (Nat.ble k 36) (3, 1, 3, 0, 0) (3, 1, 3, 0, 0)) (cond (Nat.ble k 38) (1, 0, 4, 50, 902) (1, 0, 4, 0, 0)))) (cond (Nat.ble k 43) (cond (Nat.ble k 41) (cond (Nat.ble k 40) (1, 0, 4, 0, 0) (1, 1, 4, 0, 0)) (cond (Nat.ble k 42) (2, 0, 4, 0, 0) (1, 0, 0, 0, 0))) (cond (Nat.ble k 45) (cond (Nat.ble k 44) (2, 1, 0, 0, 0) (1, 0, 0, 0, 0)) (cond (Nat.ble k 46) (2, 0, 0, 0, 0) (2, 0, 0, 0, 0))))) (cond (Nat.ble k 55) (cond (Nat.ble k 51) (cond (Nat.ble k 49) (cond (Nat.ble k 48) (3, 0, 0, 0, 0) (2, 0, 0, 0, 0)) (cond (Nat.ble k 50) (2, 1, 0, 0, 0) (2, 1, 0, 0, 0))) (cond (Nat.ble k 53) (cond (Nat.ble k 52) (2, 1, 0, 0, 0) (1, 1, 0, 0, 0)) (cond (Nat.ble k 54) (2, 1, 0, 0, 0) (2, 1, 0, 0, 0)))) (cond (Nat.ble k 59) (cond (Nat.ble k 57) (cond (Nat.ble k 56) (1, 1, 0, 0, 0) (1, 1, 0, 0, 0)) (cond (Nat.ble k 58) (2, 1, 0, 0, 0) (1, 0, 5, 2, 8192))) (cond (Nat.ble k 61) (cond (Nat.ble k 60) (2, 0, 5, 0, 0) (3, 0, 5, 0, 0)) (cond (Nat.ble k 62) (3, 0, 5, 0, 0) (4, 1, 5, 0, 0))))))) (cond (Nat.ble k 95) (cond (Nat.ble k 79) (cond (Nat.ble k 71) (cond (Nat.ble k 67) (cond (Nat.ble k 65) (cond (Nat.ble k 64) (3, 0, 5, 0, 0) (2, 1, 5, 0, 0)) (cond (Nat.ble k 66) (1, 1, 5, 0, 0) (3, 1, 5, 0, 0))) (cond (Nat.ble k 69) (cond (Nat.ble k 68) (2, 1, 5, 0, 0) (1, 0, 6, 7, 140)) (cond (Nat.ble k 70) (4, 0, 6, 0, 0) (2, 1, 6, 0, 0)))) (cond (Nat.ble k 75) (cond (Nat.ble k 73) (cond (Nat.ble k 72) (5, 1, 6, 0, 0) (4, 1, 6, 0, 0)) (cond (Nat.ble k 74) (4, 0, 6, 0, 0) (4, 1, 6, 0, 0))) (cond (Nat.ble k 77) (cond (Nat.ble k 76) (3, 1, 6, 0, 0) (6, 1, 6, 0, 0)) (cond (Nat.ble k 78) (1, 0, 7, 6, 125) (2, 0, 7, 0, 0))))) (cond (Nat.ble k 87) (cond (Nat.ble k 83) (cond (Nat.ble k 81) (cond (Nat.ble k 80) (2, 0, 8, 18, 474) (2, 1, 8, 0, 0)) (cond (Nat.ble k 82) (1, 0, 8, 0, 0) (1, 1, 8, 0, 0))) (cond (Nat.ble k 85) (cond (Nat.ble k 84) (1, 3, 8, 0, 0) (2, 1, 8, 0, 0)) (cond (Nat.ble k 86) (2, 1, 8, 0, 0) (2, 1, 8, 0, 0)))) (cond (Nat.ble k 91) (cond (Nat.ble k 89) (cond (Nat.ble k 88) (2, 1, 8, 0, 0) (2, 1, 8, 0, 0)) (cond (Nat.ble k 90) (2, 1, 8, 0, 0) (2, 1, 8, 0, 0))) (cond (Nat.ble k 93) (cond (Nat.ble k 92) (1, 3, 0, 0, 0) (3, 1, 8, 0, 0)) (cond (Nat.ble k 94) (2, 1, 8, 0, 0) (1, 1, 8, 0, 0)))))) (cond (Nat.ble k 111) (cond (Nat.ble k 103) (cond (Nat.ble k 99) (cond (Nat.ble k 97) (cond (Nat.ble k 96) (2, 1, 8, 0, 0) (4, 0, 8, 0, 0)) (cond (Nat.ble k 98) (2, 1, 8, 0, 0) (2, 1, 8, 0, 0))) (cond (Nat.ble k 101) (cond (Nat.ble k 100) (1, 1, 8, 0, 0) (3, 1, 8, 0, 0)) (cond (Nat.ble k 102) (1, 0, 9, 1456, 59075) (3, 1, 9, 0, 0)))) (cond (Nat.ble k 107) (cond (Nat.ble k 105) (cond (Nat.ble k 104) (3, 1, 9, 0, 0) (2, 1, 9, 0, 0)) (cond (Nat.ble k 106) (3, 1, 9, 0, 0) (3, 1, 9, 0, 0))) (cond (Nat.ble k 109) (cond (Nat.ble k 108) (3, 1, 9, 0, 0) (3, 1, 9, 0, 0)) (cond (Nat.ble k 110) (3, 1, 9, 0, 0) (3, 1, 9, 0, 0))))) (cond (Nat.ble k 119) (cond (Nat.ble k 115) (cond (Nat.ble k 113) (cond (Nat.ble k 112) (3, 1, 9, 0, 0) (2, 1, 9, 0, 0)) (cond (Nat.ble k 114) (2, 1, 9, 0, 0) (3, 1, 9, 0, 0))) (cond (Nat.ble k 117) (cond (Nat.ble k 116) (4, 1, 9, 0, 0) (3, 1, 9, 0, 0)) (cond (Nat.ble k 118) (2, 1, 9, 0, 0) (2, 1, 9, 0, 0)))) (cond (Nat.ble k 123) (cond (Nat.ble k 121) (cond (Nat.ble k 120) (3, 1, 9, 0, 0) (2, 1, 9, 0, 0)) (cond (Nat.ble k 122) (2, 1, 9, 0, 0) (1, 1, 9, 0, 0))) (cond (Nat.ble k 125) (cond (Nat.ble k 124) (2, 1, 9, 0, 0) (2, 1, 9, 0, 0)) (cond (Nat.ble k 126) (1, 1, 9, 0, 0) (cond (Nat.ble k 127) (1, 1, 9, 0, 0) (6, 1, 9, 0, 0))))))))) (cond (Nat.ble k 192) (cond (Nat.ble k 160) (cond (Nat.ble k 144) (cond (Nat.ble k 136) (cond (Nat.ble k 132) (cond (Nat.ble k 130) (cond (Nat.ble k 129) (5, 1, 9, 0, 0) (4, 1, 9, 0, 0)) (cond (Nat.ble k 131) (2, 1, 9, 0, 0) (5, 1, 9, 0, 0))) (cond (Nat.ble k 134) (cond (Nat.ble k 133) (6, 1, 9, 0, 0) (2, 1, 0, 0, 0)) (cond (Nat.ble k 135) (1, 1, 0, 0, 0) (2, 1, 0, 0, 0)))) (cond (Nat.ble k 140) (cond (Nat.ble k 138) (cond (Nat.ble k 137) (2, 1, 9, 0, 0) (1, 1, 9, 0, 0)) (cond (Nat.ble k 139) (2, 1, 9, 0, 0) (3, 0, 9, 0, 0))) (cond (Nat.ble k 142) (cond (Nat.ble k 141) (3, 0, 9, 0, 0) (3, 1, 9, 0, 0)) (cond (Nat.ble k 143) (2, 0, 9, 0, 0) (3, 1, 0, 0, 0))))) (cond (Nat.ble k 152) (cond (Nat.ble k 148) (cond (Nat.ble k 146) (cond (Nat.ble k 145) (1, 0, 10, 27, 19255) (2, 1, 0, 0, 0)) (cond (Nat.ble k 147) (1, 1, 0, 0, 0) (1, 1, 0, 0, 0))) (cond (Nat.ble k 150) (cond (Nat.ble k 149) (1, 1, 0, 0, 0) (1, 1, 0, 0, 0)) (cond (Nat.ble k 151) (2, 1, 0, 0, 0) (1, 1, 0, 0, 0)))) (cond (Nat.ble k 156) (cond (Nat.ble k 154) (cond (Nat.ble k 153) (1, 1, 0, 0, 0) (1, 1, 0, 0, 0)) (cond (Nat.ble k 155) (3, 0, 10, 0, 0) (2, 1, 10, 0, 0))) (cond (Nat.ble k 158) (cond (Nat.ble k 157) (1, 1, 0, 0, 0) (3, 1, 10, 0, 0)) (cond (Nat.ble k 159) (2, 1, 10, 0, 0) (2, 1, 10, 0, 0)))))) (cond (Nat.ble k 176) (cond (Nat.ble k 168) (cond (Nat.ble k 164) (cond (Nat.ble k 162) (cond (Nat.ble k 161) (3, 1, 10, 0, 0) (2, 1, 10, 0, 0)) (cond (Nat.ble k 163) (3, 1, 10, 0, 0) (2, 1, 10, 0, 0))) (cond (Nat.ble k 166) (cond (Nat.ble k 165) (2, 1, 10, 0, 0) (3, 1, 10, 0, 0)) (cond (Nat.ble k 167) (3, 1, 10, 0, 0) (3, 1, 10, 0, 0)))) (cond (Nat.ble k 172) (cond (Nat.ble k 170) (cond (Nat.ble k 169) (3, 1, 10, 0, 0) (3, 1, 10, 0, 0)) (cond (Nat.ble k 171) (1, 1, 0, 0, 0) (3, 1, 10, 0, 0))) (cond (Nat.ble k 174) (cond (Nat.ble k 173) (3, 1, 10, 0, 0) (3, 1, 10, 0, 0)) (cond (Nat.ble k 175) (3, 1, 10, 0, 0) (2, 1, 10, 0, 0))))) (cond (Nat.ble k 184) (cond (Nat.ble k 180) (cond (Nat.ble k 178) (cond (Nat.ble k 177) (3, 1, 10, 0, 0) (3, 1, 10, 0, 0)) (cond (Nat.ble k 179) (2, 1, 10, 0, 0) (2, 1, 10, 0, 0))) (cond (Nat.ble k 182) (cond (Nat.ble k 181) (2, 1, 10, 0, 0) (2, 1, 10, 0, 0)) (cond (Nat.ble k 183) (2, 0, 10, 0, 0) (3, 0, 10, 0, 0)))) (cond (Nat.ble k 188) (cond (Nat.ble k 186) (cond (Nat.ble k 185) (2, 1, 10, 0, 0) (3, 1, 10, 0, 0)) (cond (Nat.ble k 187) (3, 1, 10, 0, 0) (2, 1, 10, 0, 0))) (cond (Nat.ble k 190) (cond (Nat.ble k 189) (1, 1, 10, 0, 0) (1, 1, 0, 0, 0)) (cond (Nat.ble k 191) (1, 1, 0, 0, 0) (2, 1, 10, 0, 0))))))) (cond (Nat.ble k 224) (cond (Nat.ble k 208) (cond (Nat.ble k 200) (cond (Nat.ble k 196) (cond (Nat.ble k 194) (cond (Nat.ble k 193) (2, 1, 10, 0, 0) (8, 1, 10, 0, 0)) (cond (Nat.ble k 195) (2, 1, 10, 0, 0) (1, 1, 10, 0, 0))) (cond (Nat.ble k 198) (cond (Nat.ble k 197) (1, 1, 10, 0, 0) (1, 0, 10, 0, 0)) (cond (Nat.ble k 199) (1, 1, 10, 0, 0) (1, 0, 10, 0, 0)))) (cond (Nat.ble k 204) (cond (Nat.ble k 202) (cond (Nat.ble k 201) (1, 0, 10, 0, 0) (1, 1, 10, 0, 0)) (cond (Nat.ble k 203) (1, 1, 10, 0, 0) (2, 1, 10, 0, 0))) (cond (Nat.ble k 206) (cond (Nat.ble k 205) (2, 0, 10, 0, 0) (1, 1, 10, 0, 0)) (cond (Nat.ble k 207) (1, 0, 10, 0, 0) (3, 0, 10, 0, 0))))) (cond (Nat.ble k 216) (cond (Nat.ble k 212) (cond (Nat.ble k 210) (cond (Nat.ble k 209) (2, 0, 10, 0, 0) (3, 1, 10, 0, 0)) (cond (Nat.ble k 211) (3, 0, 10, 0, 0) (2, 1, 10, 0, 0))) (cond (Nat.ble k 214) (cond (Nat.ble k 213) (1, 1, 0, 0, 0) (2, 1, 10, 0, 0)) (cond (Nat.ble k 215) (3, 1, 10, 0, 0) (2, 1, 10, 0, 0)))) (cond (Nat.ble k 220) (cond (Nat.ble k 218) (cond (Nat.ble k 217) (2, 0, 10, 0, 0) (3, 1, 10, 0, 0)) (cond (Nat.ble k 219) (2, 1, 10, 0, 0) (1, 0, 10, 0, 0))) (cond (Nat.ble k 222) (cond (Nat.ble k 221) (3, 1, 10, 0, 0) (1, 1, 0, 0, 0)) (cond (Nat.ble k 223) (3, 1, 10, 0, 0) (3, 1, 10, 0, 0)))))) (cond (Nat.ble k 240) (cond (Nat.ble k 232) (cond (Nat.ble k 228) (cond (Nat.ble k 226) (cond (Nat.ble k 225) (2, 1, 10, 0, 0) (3, 1, 10, 0, 0)) (cond (Nat.ble k 227) (4, 1, 10, 0, 0) (3, 1, 10, 0, 0))) (cond (Nat.ble k 230) (cond (Nat.ble k 229) (2, 1, 10, 0, 0) (2, 1, 10, 0, 0)) (cond (Nat.ble k 231) (3, 1, 10, 0, 0) (2, 1, 10, 0, 0)))) (cond (Nat.ble k 236) (cond (Nat.ble k 234) (cond (Nat.ble k 233) (1, 0, 10, 0, 0) (1, 1, 10, 0, 0)) (cond (Nat.ble k 235) (3, 0, 10, 0, 0) (2, 1, 10, 0, 0))) (cond (Nat.ble k 238) (cond (Nat.ble k 237) (2, 1, 10, 0, 0) (2, 1, 10, 0, 0)) (cond (Nat.ble k 239) (1, 1, 10, 0, 0) (1, 1, 10, 0, 0))))) (cond (Nat.ble k 248) (cond (Nat.ble k 244) (cond (Nat.ble k 242) (cond (Nat.ble k 241) (1, 1, 0, 0, 0) (2, 2, 0, 0, 0)) (cond (Nat.ble k 243) (4, 1, 10, 0, 0) (2, 1, 10, 0, 0))) (cond (Nat.ble k 246) (cond (Nat.ble k 245) (5, 1, 10, 0, 0) (5, 1, 10, 0, 0)) (cond (Nat.ble k 247) (6, 1, 10, 0, 0) (5, 1, 10, 0, 0)))) (cond (Nat.ble k 252) (cond (Nat.ble k 250) (cond (Nat.ble k 249) (3, 1, 10, 0, 0) (3, 1, 10, 0, 0)) (cond (Nat.ble k 251) (2, 1, 10, 0, 0) (6, 1, 10, 0, 0))) (cond (Nat.ble k 254) (cond (Nat.ble k 253) (1, 1, 0, 0, 0) (2, 1, 0, 0, 0)) (cond (Nat.ble k 255) (2, 0, 0, 0, 0) (cond (Nat.ble k 256) (2, 0, 0, 0, 0) (1, 1, 0, 0, 0))))))))))
def am_mL (k : Nat) : Nat := (cond (Nat.ble k 128) (cond (Nat.ble k 63) (cond (Nat.ble k 31) (cond (Nat.ble k 15) (cond (Nat.ble k 7) (cond (Nat.ble k 3) (cond (Nat.ble k 1) (cond (Nat.ble k 0) 1 6) (cond (Nat.ble k 2) 2 5)) (cond (Nat.ble k 5) (cond (Nat.ble k 4) 4 6) (cond (Nat.ble k 6) 5 3))) (cond (Nat.ble k 11) (cond (Nat.ble k 9) (cond (Nat.ble k 8) 4 8) (cond (Nat.ble k 10) 4 4)) (cond (Nat.ble k 13) (cond (Nat.ble k 12) 1 3) (cond (Nat.ble k 14) 6 2)))) (cond (Nat.ble k 23) (cond (Nat.ble k 19) (cond (Nat.ble k 17) (cond (Nat.ble k 16) 2 3) (cond (Nat.ble k 18) 6 8)) (cond (Nat.ble k 21) (cond (Nat.ble k 20) 5 1) (cond (Nat.ble k 22) 2 4))) (cond (Nat.ble k 27) (cond (Nat.ble k 25) (cond (Nat.ble k 24) 2 2) (cond (Nat.ble k 26) 2 5)) (cond (Nat.ble k 29) (cond (Nat.ble k 28) 7 7) (cond (Nat.ble k 30) 8 7))))) (cond (Nat.ble k 47) (cond (Nat.ble k 39) (cond (Nat.ble k 35) (cond (Nat.ble k 33) (cond (Nat.ble k 32) 6 2) (cond (Nat.ble k 34) 3 7)) (cond (Nat.ble k 37) (cond (Nat.ble k 36) 6 7) (cond (Nat.ble k 38) 2 1))) (cond (Nat.ble k 43) (cond (Nat.ble k 41) (cond (Nat.ble k 40) 3 1) (cond (Nat.ble k 42) 3 3)) (cond (Nat.ble k 45) (cond (Nat.ble k 44) 2 2) (cond (Nat.ble k 46) 3 3)))) (cond (Nat.ble k 55) (cond (Nat.ble k 51) (cond (Nat.ble k 49) (cond (Nat.ble k 48) 5 4) (cond (Nat.ble k 50) 3 4)) (cond (Nat.ble k 53) (cond (Nat.ble k 52) 4 3) (cond (Nat.ble k 54) 4 4))) (cond (Nat.ble k 59) (cond (Nat.ble k 57) (cond (Nat.ble k 56) 3 3) (cond (Nat.ble k 58) 3 1)) (cond (Nat.ble k 61) (cond (Nat.ble k 60) 3 4) (cond (Nat.ble k 62) 5 4)))))) (cond (Nat.ble k 95) (cond (Nat.ble k 79) (cond (Nat.ble k 71) (cond (Nat.ble k 67) (cond (Nat.ble k 65) (cond (Nat.ble k 64) 5 5) (cond (Nat.ble k 66) 3 5)) (cond (Nat.ble k 69) (cond (Nat.ble k 68) 5 1) (cond (Nat.ble k 70) 4 2))) (cond (Nat.ble k 75) (cond (Nat.ble k 73) (cond (Nat.ble k 72) 5 4) (cond (Nat.ble k 74) 5 5)) (cond (Nat.ble k 77) (cond (Nat.ble k 76) 3 6) (cond (Nat.ble k 78) 1 3)))) (cond (Nat.ble k 87) (cond (Nat.ble k 83) (cond (Nat.ble k 81) (cond (Nat.ble k 80) 2 2) (cond (Nat.ble k 82) 1 1)) (cond (Nat.ble k 85) (cond (Nat.ble k 84) 1 2) (cond (Nat.ble k 86) 3 5))) (cond (Nat.ble k 91) (cond (Nat.ble k 89) (cond (Nat.ble k 88) 2 7) (cond (Nat.ble k 90) 4 3)) (cond (Nat.ble k 93) (cond (Nat.ble k 92) 1 4) (cond (Nat.ble k 94) 3 2))))) (cond (Nat.ble k 111) (cond (Nat.ble k 103) (cond (Nat.ble k 99) (cond (Nat.ble k 97) (cond (Nat.ble k 96) 4 5) (cond (Nat.ble k 98) 2 2)) (cond (Nat.ble k 101) (cond (Nat.ble k 100) 1 4) (cond (Nat.ble k 102) 3 3))) (cond (Nat.ble k 107) (cond (Nat.ble k 105) (cond (Nat.ble k 104) 3 2) (cond (Nat.ble k 106) 3 3)) (cond (Nat.ble k 109) (cond (Nat.ble k 108) 3 3) (cond (Nat.ble k 110) 4 3)))) (cond (Nat.ble k 119) (cond (Nat.ble k 115) (cond (Nat.ble k 113) (cond (Nat.ble k 112) 3 2) (cond (Nat.ble k 114) 5 3)) (cond (Nat.ble k 117) (cond (Nat.ble k 116) 4 3) (cond (Nat.ble k 118) 3 3))) (cond (Nat.ble k 123) (cond (Nat.ble k 121) (cond (Nat.ble k 120) 10 4) (cond (Nat.ble k 122) 3 1)) (cond (Nat.ble k 125) (cond (Nat.ble k 124) 3 2) (cond (Nat.ble k 126) 1 (cond (Nat.ble k 127) 1 11)))))))) (cond (Nat.ble k 192) (cond (Nat.ble k 160) (cond (Nat.ble k 144) (cond (Nat.ble k 136) (cond (Nat.ble k 132) (cond (Nat.ble k 130) (cond (Nat.ble k 129) 7 4) (cond (Nat.ble k 131) 2 7)) (cond (Nat.ble k 134) (cond (Nat.ble k 133) 6 2) (cond (Nat.ble k 135) 1 2))) (cond (Nat.ble k 140) (cond (Nat.ble k 138) (cond (Nat.ble k 137) 4 3) (cond (Nat.ble k 139) 2 4)) (cond (Nat.ble k 142) (cond (Nat.ble k 141) 4 6) (cond (Nat.ble k 143) 4 6)))) (cond (Nat.ble k 152) (cond (Nat.ble k 148) (cond (Nat.ble k 146) (cond (Nat.ble k 145) 3 2) (cond (Nat.ble k 147) 3 2)) (cond (Nat.ble k 150) (cond (Nat.ble k 149) 1 2) (cond (Nat.ble k 151) 2 3))) (cond (Nat.ble k 156) (cond (Nat.ble k 154) (cond (Nat.ble k 153) 3 2) (cond (Nat.ble k 155) 8 5)) (cond (Nat.ble k 158) (cond (Nat.ble k 157) 3 8) (cond (Nat.ble k 159) 4 4))))) (cond (Nat.ble k 176) (cond (Nat.ble k 168) (cond (Nat.ble k 164) (cond (Nat.ble k 162) (cond (Nat.ble k 161) 3 4) (cond (Nat.ble k 163) 3 3)) (cond (Nat.ble k 166) (cond (Nat.ble k 165) 2 3) (cond (Nat.ble k 167) 6 5))) (cond (Nat.ble k 172) (cond (Nat.ble k 170) (cond (Nat.ble k 169) 5 5) (cond (Nat.ble k 171) 1 3)) (cond (Nat.ble k 174) (cond (Nat.ble k 173) 3 5) (cond (Nat.ble k 175) 3 4)))) (cond (Nat.ble k 184) (cond (Nat.ble k 180) (cond (Nat.ble k 178) (cond (Nat.ble k 177) 5 6) (cond (Nat.ble k 179) 4 7)) (cond (Nat.ble k 182) (cond (Nat.ble k 181) 4 4) (cond (Nat.ble k 183) 2 5))) (cond (Nat.ble k 188) (cond (Nat.ble k 186) (cond (Nat.ble k 185) 3 3) (cond (Nat.ble k 187) 3 2)) (cond (Nat.ble k 190) (cond (Nat.ble k 189) 1 1) (cond (Nat.ble k 191) 1 3)))))) (cond (Nat.ble k 224) (cond (Nat.ble k 208) (cond (Nat.ble k 200) (cond (Nat.ble k 196) (cond (Nat.ble k 194) (cond (Nat.ble k 193) 4 9) (cond (Nat.ble k 195) 2 4)) (cond (Nat.ble k 198) (cond (Nat.ble k 197) 7 2) (cond (Nat.ble k 199) 5 2))) (cond (Nat.ble k 204) (cond (Nat.ble k 202) (cond (Nat.ble k 201) 2 2) (cond (Nat.ble k 203) 4 6)) (cond (Nat.ble k 206) (cond (Nat.ble k 205) 3 4) (cond (Nat.ble k 207) 3 4)))) (cond (Nat.ble k 216) (cond (Nat.ble k 212) (cond (Nat.ble k 210) (cond (Nat.ble k 209) 4 5) (cond (Nat.ble k 211) 5 6)) (cond (Nat.ble k 214) (cond (Nat.ble k 213) 1 4) (cond (Nat.ble k 215) 7 5))) (cond (Nat.ble k 220) (cond (Nat.ble k 218) (cond (Nat.ble k 217) 4 5) (cond (Nat.ble k 219) 6 2)) (cond (Nat.ble k 222) (cond (Nat.ble k 221) 5 4) (cond (Nat.ble k 223) 3 7))))) (cond (Nat.ble k 240) (cond (Nat.ble k 232) (cond (Nat.ble k 228) (cond (Nat.ble k 226) (cond (Nat.ble k 225) 6 3) (cond (Nat.ble k 227) 4 4)) (cond (Nat.ble k 230) (cond (Nat.ble k 229) 3 2) (cond (Nat.ble k 231) 7 4))) (cond (Nat.ble k 236) (cond (Nat.ble k 234) (cond (Nat.ble k 233) 2 2) (cond (Nat.ble k 235) 4 6)) (cond (Nat.ble k 238) (cond (Nat.ble k 237) 3 4) (cond (Nat.ble k 239) 2 2)))) (cond (Nat.ble k 248) (cond (Nat.ble k 244) (cond (Nat.ble k 242) (cond (Nat.ble k 241) 1 3) (cond (Nat.ble k 243) 5 2)) (cond (Nat.ble k 246) (cond (Nat.ble k 245) 5 7) (cond (Nat.ble k 247) 7 7))) (cond (Nat.ble k 252) (cond (Nat.ble k 250) (cond (Nat.ble k 249) 8 7) (cond (Nat.ble k 251) 6 10)) (cond (Nat.ble k 254) (cond (Nat.ble k 253) 1 3) (cond (Nat.ble k 255) 5 (cond (Nat.ble k 256) 4 4)))))))))
def am_bz (k : Nat) : Bool := (cond (Nat.ble k 128) (cond (Nat.ble k 63) (cond (Nat.ble k 31) (cond (Nat.ble k 15) (cond (Nat.ble k 7) (cond (Nat.ble k 3) (cond (Nat.ble k 1) (cond (Nat.ble k 0) false false) (cond (Nat.ble k 2) false true)) (cond (Nat.ble k 5) (cond (Nat.ble k 4) false true) (cond (Nat.ble k 6) false true))) (cond (Nat.ble k 11) (cond (Nat.ble k 9) (cond (Nat.ble k 8) false false) (cond (Nat.ble k 10) false false)) (cond (Nat.ble k 13) (cond (Nat.ble k 12) false false) (cond (Nat.ble k 14) false false)))) (cond (Nat.ble k 23) (cond (Nat.ble k 19) (cond (Nat.ble k 17) (cond (Nat.ble k 16) false false) (cond (Nat.ble k 18) false false)) (cond (Nat.ble k 21) (cond (Nat.ble k 20) false false) (cond (Nat.ble k 22) false false))) (cond (Nat.ble k 27) (cond (Nat.ble k 25) (cond (Nat.ble k 24) true false) (cond (Nat.ble k 26) false false)) (cond (Nat.ble k 29) (cond (Nat.ble k 28) false false) (cond (Nat.ble k 30) false false))))) (cond (Nat.ble k 47) (cond (Nat.ble k 39) (cond (Nat.ble k 35) (cond (Nat.ble k 33) (cond (Nat.ble k 32) true false) (cond (Nat.ble k 34) false false)) (cond (Nat.ble k 37) (cond (Nat.ble k 36) true false) (cond (Nat.ble k 38) false false))) (cond (Nat.ble k 43) (cond (Nat.ble k 41) (cond (Nat.ble k 40) false false) (cond (Nat.ble k 42) false false)) (cond (Nat.ble k 45) (cond (Nat.ble k 44) false false) (cond (Nat.ble k 46) false false)))) (cond (Nat.ble k 55) (cond (Nat.ble k 51) (cond (Nat.ble k 49) (cond (Nat.ble k 48) false false) (cond (Nat.ble k 50) false false)) (cond (Nat.ble k 53) (cond (Nat.ble k 52) false false) (cond (Nat.ble k 54) false true))) (cond (Nat.ble k 59) (cond (Nat.ble k 57) (cond (Nat.ble k 56) false false) (cond (Nat.ble k 58) false false)) (cond (Nat.ble k 61) (cond (Nat.ble k 60) false false) (cond (Nat.ble k 62) false false)))))) (cond (Nat.ble k 95) (cond (Nat.ble k 79) (cond (Nat.ble k 71) (cond (Nat.ble k 67) (cond (Nat.ble k 65) (cond (Nat.ble k 64) false false) (cond (Nat.ble k 66) false false)) (cond (Nat.ble k 69) (cond (Nat.ble k 68) false false) (cond (Nat.ble k 70) false false))) (cond (Nat.ble k 75) (cond (Nat.ble k 73) (cond (Nat.ble k 72) false true) (cond (Nat.ble k 74) false true)) (cond (Nat.ble k 77) (cond (Nat.ble k 76) false false) (cond (Nat.ble k 78) false false)))) (cond (Nat.ble k 87) (cond (Nat.ble k 83) (cond (Nat.ble k 81) (cond (Nat.ble k 80) false false) (cond (Nat.ble k 82) false false)) (cond (Nat.ble k 85) (cond (Nat.ble k 84) false true) (cond (Nat.ble k 86) true true))) (cond (Nat.ble k 91) (cond (Nat.ble k 89) (cond (Nat.ble k 88) true true) (cond (Nat.ble k 90) true false)) (cond (Nat.ble k 93) (cond (Nat.ble k 92) false true) (cond (Nat.ble k 94) false false))))) (cond (Nat.ble k 111) (cond (Nat.ble k 103) (cond (Nat.ble k 99) (cond (Nat.ble k 97) (cond (Nat.ble k 96) false false) (cond (Nat.ble k 98) true true)) (cond (Nat.ble k 101) (cond (Nat.ble k 100) true false) (cond (Nat.ble k 102) false false))) (cond (Nat.ble k 107) (cond (Nat.ble k 105) (cond (Nat.ble k 104) false false) (cond (Nat.ble k 106) false false)) (cond (Nat.ble k 109) (cond (Nat.ble k 108) false false) (cond (Nat.ble k 110) false false)))) (cond (Nat.ble k 119) (cond (Nat.ble k 115) (cond (Nat.ble k 113) (cond (Nat.ble k 112) false false) (cond (Nat.ble k 114) false false)) (cond (Nat.ble k 117) (cond (Nat.ble k 116) false false) (cond (Nat.ble k 118) false false))) (cond (Nat.ble k 123) (cond (Nat.ble k 121) (cond (Nat.ble k 120) false false) (cond (Nat.ble k 122) false false)) (cond (Nat.ble k 125) (cond (Nat.ble k 124) false false) (cond (Nat.ble k 126) false (cond (Nat.ble k 127) false false)))))))) (cond (Nat.ble k 192) (cond (Nat.ble k 160) (cond (Nat.ble k 144) (cond (Nat.ble k 136) (cond (Nat.ble k 132) (cond (Nat.ble k 130) (cond (Nat.ble k 129) false false) (cond (Nat.ble k 131) false false)) (cond (Nat.ble k 134) (cond (Nat.ble k 133) false true) (cond (Nat.ble k 135) true true))) (cond (Nat.ble k 140) (cond (Nat.ble k 138) (cond (Nat.ble k 137) false false) (cond (Nat.ble k 139) true false)) (cond (Nat.ble k 142) (cond (Nat.ble k 141) false false) (cond (Nat.ble k 143) false true)))) (cond (Nat.ble k 152) (cond (Nat.ble k 148) (cond (Nat.ble k 146) (cond (Nat.ble k 145) false true) (cond (Nat.ble k 147) false false)) (cond (Nat.ble k 150) (cond (Nat.ble k 149) true true) (cond (Nat.ble k 151) false false))) (cond (Nat.ble k 156) (cond (Nat.ble k 154) (cond (Nat.ble k 153) false false) (cond (Nat.ble k 155) false false)) (cond (Nat.ble k 158) (cond (Nat.ble k 157) false false) (cond (Nat.ble k 159) false false))))) (cond (Nat.ble k 176) (cond (Nat.ble k 168) (cond (Nat.ble k 164) (cond (Nat.ble k 162) (cond (Nat.ble k 161) false false) (cond (Nat.ble k 163) false false)) (cond (Nat.ble k 166) (cond (Nat.ble k 165) false false) (cond (Nat.ble k 167) false true))) (cond (Nat.ble k 172) (cond (Nat.ble k 170) (cond (Nat.ble k 169) false false) (cond (Nat.ble k 171) true false)) (cond (Nat.ble k 174) (cond (Nat.ble k 173) false false) (cond (Nat.ble k 175) false true)))) (cond (Nat.ble k 184) (cond (Nat.ble k 180) (cond (Nat.ble k 178) (cond (Nat.ble k 177) false true) (cond (Nat.ble k 179) false false)) (cond (Nat.ble k 182) (cond (Nat.ble k 181) false false) (cond (Nat.ble k 183) false false))) (cond (Nat.ble k 188) (cond (Nat.ble k 186) (cond (Nat.ble k 185) false false) (cond (Nat.ble k 187) false false)) (cond (Nat.ble k 190) (cond (Nat.ble k 189) false true) (cond (Nat.ble k 191) true false)))))) (cond (Nat.ble k 224) (cond (Nat.ble k 208) (cond (Nat.ble k 200) (cond (Nat.ble k 196) (cond (Nat.ble k 194) (cond (Nat.ble k 193) false true) (cond (Nat.ble k 195) false true)) (cond (Nat.ble k 198) (cond (Nat.ble k 197) true false) (cond (Nat.ble k 199) true false))) (cond (Nat.ble k 204) (cond (Nat.ble k 202) (cond (Nat.ble k 201) false true) (cond (Nat.ble k 203) true false)) (cond (Nat.ble k 206) (cond (Nat.ble k 205) false false) (cond (Nat.ble k 207) false false)))) (cond (Nat.ble k 216) (cond (Nat.ble k 212) (cond (Nat.ble k 210) (cond (Nat.ble k 209) false true) (cond (Nat.ble k 211) false false)) (cond (Nat.ble k 214) (cond (Nat.ble k 213) true true) (cond (Nat.ble k 215) false false))) (cond (Nat.ble k 220) (cond (Nat.ble k 218) (cond (Nat.ble k 217) false false) (cond (Nat.ble k 219) false false)) (cond (Nat.ble k 222) (cond (Nat.ble k 221) false false) (cond (Nat.ble k 223) false false))))) (cond (Nat.ble k 240) (cond (Nat.ble k 232) (cond (Nat.ble k 228) (cond (Nat.ble k 226) (cond (Nat.ble k 225) false false) (cond (Nat.ble k 227) false false)) (cond (Nat.ble k 230) (cond (Nat.ble k 229) false false) (cond (Nat.ble k 231) false false))) (cond (Nat.ble k 236) (cond (Nat.ble k 234) (cond (Nat.ble k 233) false false) (cond (Nat.ble k 235) false false)) (cond (Nat.ble k 238) (cond (Nat.ble k 237) false false) (cond (Nat.ble k 239) false false)))) (cond (Nat.ble k 248) (cond (Nat.ble k 244) (cond (Nat.ble k 242) (cond (Nat.ble k 241) true false) (cond (Nat.ble k 243) false false)) (cond (Nat.ble k 246) (cond (Nat.ble k 245) false false) (cond (Nat.ble k 247) false false))) (cond (Nat.ble k 252) (cond (Nat.ble k 250) (cond (Nat.ble k 249) false false) (cond (Nat.ble k 251) true false)) (cond (Nat.ble k 254) (cond (Nat.ble k 253) false false) (cond (Nat.ble k 255) false (cond (Nat.ble k 256) false true)))))))))
abbrev k_Ch_init : Nat := 0
abbrev k_Ch_begin : Nat := 1
abbrev k_Ch_include : Nat := 2
abbrev k_Ch_contains : Nat := 3
abbrev k_Ch_orderFrom : Nat := 4
abbrev k_Ch_findLowest : Nat := 5
abbrev k_Ch_lowestSource : Nat := 6
abbrev k_Ch_isReached : Nat := 7
abbrev k_Ch_back : Nat := 8
abbrev k_Ch_admit : Nat := 9
abbrev k_Ch_settle : Nat := 10
abbrev k_Ch_reach : Nat := 11
abbrev k_Cy_init : Nat := 12
abbrev k_Cy_write : Nat := 13
abbrev k_Cy_writeCycle : Nat := 14
abbrev k_Cy_append : Nat := 15
abbrev k_Cy_letterAt : Nat := 16
abbrev k_Go_init : Nat := 17
abbrev k_Go_fillBasis : Nat := 18
abbrev k_Go_fillWordsOfWeight : Nat := 19
abbrev k_Go_fillLeaders : Nat := 20
abbrev k_Go_place : Nat := 21
abbrev k_Go_rest : Nat := 22
abbrev k_Go_wordOf : Nat := 23
abbrev k_Go_isWord : Nat := 24
abbrev k_Go_numberOf : Nat := 25
abbrev k_Go_distance : Nat := 26
abbrev k_Go_lowestNearest : Nat := 27
abbrev k_Go_octadsInside : Nat := 28
abbrev k_Go_octadsAround : Nat := 29
abbrev k_Go_octadsMeeting : Nat := 30
abbrev k_Go_octadsFixedBy : Nat := 31
abbrev k_Go_isPreservedBy : Nat := 32
abbrev k_Go_octadWith : Nat := 33
abbrev k_Go_tetradWith : Nat := 34
abbrev k_Go_tetrad : Nat := 35
abbrev k_Go_isUnionOfTetrads : Nat := 36
abbrev k_Go_sharedOctads : Nat := 37
abbrev k_Hi_init : Nat := 38
abbrev k_Hi_keep : Nat := 39
abbrev k_Hi_forgetOldest : Nat := 40
abbrev k_Hi_takeBack : Nat := 41
abbrev k_Hi_become : Nat := 42
abbrev k_Mo_fillNamed : Nat := 43
abbrev k_Mo_to : Nat := 44
abbrev k_Mo_makeSame : Nat := 45
abbrev k_Mo_assign : Nat := 46
abbrev k_Mo_follow : Nat := 47
abbrev k_Mo_combine : Nat := 48
abbrev k_Mo_invert : Nat := 49
abbrev k_Mo_sourceOf : Nat := 50
abbrev k_Mo_imageOf : Nat := 51
abbrev k_Mo_differences : Nat := 52
abbrev k_Mo_fixedPoints : Nat := 53
abbrev k_Mo_cycleLength : Nat := 54
abbrev k_Mo_isLowestInCycle : Nat := 55
abbrev k_Mo_cycleCount : Nat := 56
abbrev k_Mo_order : Nat := 57
abbrev k_Mo_commonMultiple : Nat := 58
abbrev k_Or_init : Nat := 59
abbrev k_Or_begin : Nat := 60
abbrev k_Or_joinBy : Nat := 61
abbrev k_Or_fillGoals : Nat := 62
abbrev k_Or_goalOf : Nat := 63
abbrev k_Or_join : Nat := 64
abbrev k_Or_root : Nat := 65
abbrev k_Or_number : Nat := 66
abbrev k_Or_numberOfWeight : Nat := 67
abbrev k_Or_sizeOf : Nat := 68
abbrev k_Sh_init : Nat := 69
abbrev k_Sh_create : Nat := 70
abbrev k_Sh_remove : Nat := 71
abbrev k_Sh_fault : Nat := 72
abbrev k_Sh_isInside : Nat := 73
abbrev k_Sh_put : Nat := 74
abbrev k_Sh_holdPoints : Nat := 75
abbrev k_Sh_pointAt : Nat := 76
abbrev k_Sh_transfer : Nat := 77
abbrev k_St_init : Nat := 78
abbrev k_St_become : Nat := 79
abbrev k_Ta_init : Nat := 80
abbrev k_Ta_append : Nat := 81
abbrev k_Ta_clear : Nat := 82
abbrev k_Ta_faultPosition : Nat := 83
abbrev k_Ta_value : Nat := 84
abbrev k_Ta_evaluate : Nat := 85
abbrev k_Ta_isProduct : Nat := 86
abbrev k_Ta_isFactor : Nat := 87
abbrev k_Ta_isBracket : Nat := 88
abbrev k_Ta_isCycle : Nat := 89
abbrev k_Ta_isName : Nat := 90
abbrev k_Ta_nameUpTo : Nat := 91
abbrev k_Ta_nameOf : Nat := 92
abbrev k_Ta_isWritten : Nat := 93
abbrev k_Ta_acceptPoint : Nat := 94
abbrev k_Ta_acceptPower : Nat := 95
abbrev k_Ta_numberUpTo : Nat := 96
abbrev k_Ta_raise : Nat := 97
abbrev k_Ta_accept : Nat := 98
abbrev k_Ta_isNext : Nat := 99
abbrev k_Ta_isAtEnd : Nat := 100
abbrev k_Ta_endOfRun : Nat := 101
abbrev k_X_init : Nat := 102
abbrev k_X_word : Nat := 103
abbrev k_X_block : Nat := 104
abbrev k_X_complete : Nat := 105
abbrev k_X_sextet : Nat := 106
abbrev k_X_both : Nat := 107
abbrev k_X_met : Nat := 108
abbrev k_X_move : Nat := 109
abbrev k_X_told : Nat := 110
abbrev k_X_letter : Nat := 111
abbrev k_X_sent : Nat := 112
abbrev k_X_type : Nat := 113
abbrev k_X_read : Nat := 114
abbrev k_X_group : Nat := 115
abbrev k_X_held : Nat := 116
abbrev k_X_holds : Nat := 117
abbrev k_X_choose : Nat := 118
abbrev k_X_hexad : Nat := 119
abbrev k_X_turn : Nat := 120
abbrev k_X_pair : Nat := 121
abbrev k_X_drift : Nat := 122
abbrev k_X_undo : Nat := 123
abbrev k_X_seed : Nat := 124
abbrev k_X_count : Nat := 125
abbrev k_X_image : Nat := 126
abbrev k_X_restore : Nat := 127
abbrev k_X_retrace : Nat := 128
abbrev k_X_film : Nat := 129
abbrev k_X_sheet : Nat := 130
abbrev k_X_drop : Nat := 131
abbrev k_X_item : Nat := 132
abbrev k_X_copy : Nat := 133
abbrev k_X_isOutside : Nat := 134
abbrev k_X_isNoSet : Nat := 135
abbrev k_X_isNoLane : Nat := 136
abbrev k_X_whereChosenGoes : Nat := 137
abbrev k_X_preservingMoves : Nat := 138
abbrev k_X_preserveCode : Nat := 139
abbrev k_X_buildChain : Nat := 140
abbrev k_X_findOrbits : Nat := 141
abbrev k_X_reachedFrom : Nat := 142
abbrev k_X_turnAtRandom : Nat := 143
abbrev k_M_in : Nat := 144
abbrev k_M_init : Nat := 145
abbrev k_M_has : Nat := 146
abbrev k_M_bits : Nat := 147
abbrev k_M_lowest : Nat := 148
abbrev k_M_isSet : Nat := 149
abbrev k_M_isPlace : Nat := 150
abbrev k_M_named : Nat := 151
abbrev k_M_overOf : Nat := 152
abbrev k_M_basic : Nat := 153
abbrev k_M_highest : Nat := 154
abbrev k_M_comes : Nat := 155
abbrev k_M_numberOf : Nat := 156
abbrev k_M_wordOf : Nat := 157
abbrev k_M_closest : Nat := 158
abbrev k_M_octadsIn : Nat := 159
abbrev k_M_octadsWith : Nat := 160
abbrev k_M_word : Nat := 161
abbrev k_M_dodecad : Nat := 162
abbrev k_M_block : Nat := 163
abbrev k_M_octadOf : Nat := 164
abbrev k_M_complete : Nat := 165
abbrev k_M_tetradAt : Nat := 166
abbrev k_M_sextet : Nat := 167
abbrev k_M_isOfTwo : Nat := 168
abbrev k_M_both : Nat := 169
abbrev k_M_met : Nat := 170
abbrev k_M_isMove : Nat := 171
abbrev k_M_to : Nat := 172
abbrev k_M_move : Nat := 173
abbrev k_M_goes : Nat := 174
abbrev k_M_sent : Nat := 175
abbrev k_M_keeps : Nat := 176
abbrev k_M_ring : Nat := 177
abbrev k_M_isLeast : Nat := 178
abbrev k_M_rings : Nat := 179
abbrev k_M_orderOf : Nat := 180
abbrev k_M_stays : Nat := 181
abbrev k_M_octadsKept : Nat := 182
abbrev k_M_puts : Nat := 183
abbrev k_M_putsRing : Nat := 184
abbrev k_M_texts : Nat := 185
abbrev k_M_told : Nat := 186
abbrev k_M_letter : Nat := 187
abbrev k_M_type : Nat := 188
abbrev k_M_here : Nat := 189
abbrev k_M_isFigure : Nat := 190
abbrev k_M_isLow : Nat := 191
abbrev k_M_row : Nat := 192
abbrev k_M_number : Nat := 193
abbrev k_M_isName : Nat := 194
abbrev k_M_nameOf : Nat := 195
abbrev k_M_readsName : Nat := 196
abbrev k_M_readsRing : Nat := 197
abbrev k_M_turnsBack : Nat := 198
abbrev k_M_readsOften : Nat := 199
abbrev k_M_begins : Nat := 200
abbrev k_M_closes : Nat := 201
abbrev k_M_readsFactor : Nat := 202
abbrev k_M_isText : Nat := 203
abbrev k_M_read : Nat := 204
abbrev k_M_takesBack : Nat := 205
abbrev k_M_sifts : Nat := 206
abbrev k_M_adds : Nat := 207
abbrev k_M_tries : Nat := 208
abbrev k_M_bases : Nat := 209
abbrev k_M_stands : Nat := 210
abbrev k_M_builds : Nat := 211
abbrev k_M_manyFrom : Nat := 212
abbrev k_M_isGroup : Nat := 213
abbrev k_M_allKeep : Nat := 214
abbrev k_M_reaches : Nat := 215
abbrev k_M_orbitsOfPlaces : Nat := 216
abbrev k_M_imagesOf : Nat := 217
abbrev k_M_imageOf : Nat := 218
abbrev k_M_spreads : Nat := 219
abbrev k_M_unmarks : Nat := 220
abbrev k_M_orbitsOfWords : Nat := 221
abbrev k_M_rankOf : Nat := 222
abbrev k_M_fourBy : Nat := 223
abbrev k_M_spreadsFours : Nat := 224
abbrev k_M_orbitsOfSextets : Nat := 225
abbrev k_M_group : Nat := 226
abbrev k_M_held : Nat := 227
abbrev k_M_holds : Nat := 228
abbrev k_M_choose : Nat := 229
abbrev k_M_hexad : Nat := 230
abbrev k_M_turn : Nat := 231
abbrev k_M_pair : Nat := 232
abbrev k_M_notes : Nat := 233
abbrev k_M_undo : Nat := 234
abbrev k_M_doubles : Nat := 235
abbrev k_M_drift : Nat := 236
abbrev k_M_seed : Nat := 237
abbrev k_M_count : Nat := 238
abbrev k_M_image : Nat := 239
abbrev k_M_restore : Nat := 240
abbrev k_M_isSheet : Nat := 241
abbrev k_M_cut : Nat := 242
abbrev k_M_sheet : Nat := 243
abbrev k_M_drop : Nat := 244
abbrev k_M_why : Nat := 245
abbrev k_M_item : Nat := 246
abbrev k_M_copy : Nat := 247
abbrev k_M_film : Nat := 248
abbrev k_M_wants : Nat := 249
abbrev k_M_sends : Nat := 250
abbrev k_M_finds : Nat := 251
abbrev k_M_retrace : Nat := 252
abbrev k_J_bitCount : Nat := 253
abbrev k_J_floorMod : Nat := 254
abbrev k_J_fill : Nat := 255
abbrev k_J_fill2 : Nat := 256
abbrev k_L_law : Nat := 257
