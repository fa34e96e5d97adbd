/-! printed by wip/whole/tables.py out of the claim: the tables of the pure machine. Cells: 0 x, 1 tape, 2 bytes, 3 rules, 4 rule0, 5 back0, 6 miss0, 7 poly0, 8 rule1, 9 back1, 10 miss1, 11 poly1, 12 rule2, 13 back2, 14 miss2, 15 poly2, 16 rule3, 17 back3, 18 miss3, 19 poly3, 20 rule4, 21 back4, 22 miss4, 23 poly4, 24 rule5, 25 back5, 26 miss5, 27 poly5, 28 likes, 29 lik0, 30 vals0, 31 lik1, 32 vals1, 33 lik2, 34 vals2, 35 lik3, 36 vals3, 37 lik4, 38 vals4, 39 lik5, 40 vals5, 41 row, 42 numbers, 43 gapPlaces, 44 eq, 45 cells, 46 cell0, 47 cell1, 48 cell2, 49 cell3, 50 right, 51 tops, 52 minors, 53 sums, 54 sumsTops, 55 sums2, 56 sums2Tops, 57 series, 58 guesses, 59 drawn, 60 answer, 61 other, 62 fillings, 63 fill0, 64 fill1, 65 fill2, 66 drop, 67 m, 68 m.tape, 69 m.isRule, 70 m.qs, 71 m.ps, 72 m.ms, 73 m.spreads, 74 m.back, 75 m.miss, 76 m.poly, 77 m.wUp, 78 m.wLow, 79 m.likeUp, 80 m.likeLow, 81 m.eqUp, 82 m.eqLow, 83 m.otherUp, 84 m.otherLow, 85 m.alike, 86 m.many, 87 m.fresh, 88 m.square, 89 m.column, 90 m.row, 91 m.nextUp, 92 m.nextLow, 93 m.gapAt, 94 m.filledUp, 95 m.filledLow, 96 m.normal, 97 out -/
def jal {β : Type} (k : Nat) : List (Nat × β) → Option β
  | [] => none
  | q :: t => bif Nat.beq q.1 k then some q.2 else jal k t
def jal2 {β : Type} (k : Nat) : List (Nat × List (Nat × β)) → Option β
  | [] => none
  | q :: t => bif Nat.ble k q.1 then jal k q.2 else jal2 k t
abbrev vwCl : List vw_C := [(RX0, TX0, 5), (RX1, TX1, 2), (RX2, TX2, 2), (RX3, TX3, 2), (RX4, TX4, 3), (RX5, TX5, 8), (RX6, TX6, 2), (RX7, TX7, 16), (RX8, TX8, 39)]
def jSH : List jS := [
  Sum.inl (7, [(2, 1), (2, 3), (2, 28), (2, 41), (2, 44), (2, 53), (2, 55), (2, 57), (2, 58), (2, 59), (2, 60), (2, 61), (2, 62), (0, 0), (2, 66), (3, 0)]),
  Sum.inl (6, [(2, 2), (0, 0)]),
  Sum.inr (1, 100, []),
  Sum.inr (4, 6, [4, 8, 12, 16, 20, 24]),
  Sum.inl (5, [(3, 0), (0, 0), (0, 0), (0, 0), (0, 0), (2, 5), (2, 6), (2, 7)]),
  Sum.inr (0, 4, []),
  Sum.inr (0, 4, []),
  Sum.inr (3, 4, []),
  Sum.inl (5, [(3, 0), (0, 0), (0, 0), (0, 0), (0, 0), (2, 9), (2, 10), (2, 11)]),
  Sum.inr (0, 4, []),
  Sum.inr (0, 4, []),
  Sum.inr (3, 4, []),
  Sum.inl (5, [(3, 0), (0, 0), (0, 0), (0, 0), (0, 0), (2, 13), (2, 14), (2, 15)]),
  Sum.inr (0, 4, []),
  Sum.inr (0, 4, []),
  Sum.inr (3, 4, []),
  Sum.inl (5, [(3, 0), (0, 0), (0, 0), (0, 0), (0, 0), (2, 17), (2, 18), (2, 19)]),
  Sum.inr (0, 4, []),
  Sum.inr (0, 4, []),
  Sum.inr (3, 4, []),
  Sum.inl (5, [(3, 0), (0, 0), (0, 0), (0, 0), (0, 0), (2, 21), (2, 22), (2, 23)]),
  Sum.inr (0, 4, []),
  Sum.inr (0, 4, []),
  Sum.inr (3, 4, []),
  Sum.inl (5, [(3, 0), (0, 0), (0, 0), (0, 0), (0, 0), (2, 25), (2, 26), (2, 27)]),
  Sum.inr (0, 4, []),
  Sum.inr (0, 4, []),
  Sum.inr (3, 4, []),
  Sum.inr (5, 6, [29, 31, 33, 35, 37, 39]),
  Sum.inl (3, [(2, 30), (0, 0)]),
  Sum.inr (0, 5, []),
  Sum.inl (3, [(2, 32), (0, 0)]),
  Sum.inr (0, 5, []),
  Sum.inl (3, [(2, 34), (0, 0)]),
  Sum.inr (0, 5, []),
  Sum.inl (3, [(2, 36), (0, 0)]),
  Sum.inr (0, 5, []),
  Sum.inl (3, [(2, 38), (0, 0)]),
  Sum.inr (0, 5, []),
  Sum.inl (3, [(2, 40), (0, 0)]),
  Sum.inr (0, 5, []),
  Sum.inl (4, [(2, 42), (2, 43), (0, 0)]),
  Sum.inr (0, 60, []),
  Sum.inr (0, 3, []),
  Sum.inl (0, [(2, 45), (2, 50), (2, 51), (2, 52), (1, 0)]),
  Sum.inr (7, 4, [46, 47, 48, 49]),
  Sum.inr (3, 4, []),
  Sum.inr (3, 4, []),
  Sum.inr (3, 4, []),
  Sum.inr (3, 4, []),
  Sum.inr (3, 4, []),
  Sum.inr (3, 4, []),
  Sum.inr (3, 16, []),
  Sum.inl (2, [(2, 54), (1, 0)]),
  Sum.inr (3, 9, []),
  Sum.inl (2, [(2, 56), (1, 0)]),
  Sum.inr (3, 9, []),
  Sum.inr (3, 9, []),
  Sum.inr (3, 8, []),
  Sum.inr (0, 5, []),
  Sum.inl (1, [(1, 0), (1, 0)]),
  Sum.inl (1, [(1, 0), (1, 0)]),
  Sum.inr (6, 3, [63, 64, 65]),
  Sum.inl (1, [(1, 0), (1, 0)]),
  Sum.inl (1, [(1, 0), (1, 0)]),
  Sum.inl (1, [(1, 0), (1, 0)]),
  Sum.inl (1, [(1, 0), (1, 0)]),
  Sum.inl (8, [(0, 0), (2, 68), (0, 0), (1, 0), (1, 0), (2, 69), (2, 70), (2, 71), (2, 72), (2, 73), (2, 74), (2, 75), (2, 76), (2, 77), (2, 78), (2, 79), (2, 80), (2, 81), (2, 82), (2, 83), (2, 84), (2, 85), (2, 86), (2, 87), (2, 88), (2, 89), (2, 90), (0, 0), (2, 91), (2, 92), (3, 0), (0, 0), (2, 93), (2, 94), (2, 95), (2, 96), (3, 0), (1, 0), (1, 0)]),
  Sum.inr (1, 100, []),
  Sum.inr (2, 6, []),
  Sum.inr (0, 6, []),
  Sum.inr (0, 6, []),
  Sum.inr (0, 6, []),
  Sum.inr (0, 6, []),
  Sum.inr (0, 24, []),
  Sum.inr (0, 24, []),
  Sum.inr (3, 4, []),
  Sum.inr (3, 9, []),
  Sum.inr (3, 9, []),
  Sum.inr (3, 9, []),
  Sum.inr (3, 9, []),
  Sum.inr (3, 20, []),
  Sum.inr (3, 20, []),
  Sum.inr (3, 9, []),
  Sum.inr (3, 9, []),
  Sum.inr (0, 30, []),
  Sum.inr (0, 6, []),
  Sum.inr (0, 5, []),
  Sum.inr (3, 25, []),
  Sum.inr (0, 5, []),
  Sum.inr (0, 60, []),
  Sum.inr (3, 8, []),
  Sum.inr (3, 8, []),
  Sum.inr (0, 60, []),
  Sum.inr (3, 3, []),
  Sum.inr (3, 3, []),
  Sum.inr (3, 12, []),
  Sum.inr (3, 1, [])]
def mi_J6_bitCount_0f7a4 : List (Nat × List (Nat × Instr)) := [(15, [(0, .iload_n 0), (1, .iload_n 0), (2, .iconst 1), (3, .iushr), (4, .ldc_w 265), (7, .iand), (8, .isub), (9, .istore_n 0), (10, .iload_n 0), (11, .ldc_w 266), (14, .iand), (15, .iload_n 0)]),
  (29, [(16, .iconst 2), (17, .iushr), (18, .ldc_w 266), (21, .iand), (22, .iadd), (23, .istore_n 0), (24, .iload_n 0), (25, .iload_n 0), (26, .iconst 4), (27, .iushr), (28, .iadd), (29, .ldc_w 267)]),
  (45, [(32, .iand), (33, .istore_n 0), (34, .iload_n 0), (35, .iload_n 0), (36, .bipush 8), (38, .iushr), (39, .iadd), (40, .istore_n 0), (41, .iload_n 0), (42, .iload_n 0), (43, .bipush 16), (45, .iushr)]),
  (52, [(46, .iadd), (47, .istore_n 0), (48, .iload_n 0), (49, .bipush 63), (51, .iand), (52, .ireturn)])]
def mi_X0_wipeCells : List (Nat × List (Nat × Instr)) := [(15, [(0, .iconst 0), (1, .istore_n 1), (2, .iload_n 1), (3, .iconst 4), (4, .if_icmp .ge 31), (7, .iconst 0), (8, .istore_n 2), (9, .iload_n 2), (10, .iconst 4), (11, .if_icmp .ge 18), (14, .aload_n 0), (15, .getfield 11)]),
  (35, [(18, .iload_n 1), (19, .aaload), (20, .iload_n 2), (21, .lconst 0), (22, .lastore), (23, .iinc 2 1), (26, .goto (-17)), (29, .iinc 1 1), (32, .goto (-30)), (35, .return_)])]
def mi_X1_isLike : List (Nat × List (Nat × Instr)) := [(21, [(0, .aload_n 0), (1, .getfield 17), (4, .aload_n 1), (5, .getfield 17), (8, .lcmp), (9, .ifCond .ne 19), (12, .aload_n 0), (13, .getfield 7), (16, .aload_n 1), (17, .getfield 7), (20, .lcmp), (21, .ifCond .ne 7)]),
  (29, [(24, .iconst 1), (25, .goto 4), (28, .iconst 0), (29, .ireturn)])]
def mi_X1_part : List (Nat × List (Nat × Instr)) := [(15, [(0, .iload_n 1), (1, .ifCond .ne 10), (4, .aload_n 0), (5, .getfield 17), (8, .goto 7), (11, .aload_n 0), (12, .getfield 7), (15, .lreturn)])]
def mi_X3_restTop : List (Nat × List (Nat × Instr)) := [(16, [(0, .aload_n 0), (1, .getfield 9), (4, .iconst 0), (5, .iaload), (6, .i2l), (7, .aload_n 2), (8, .getfield 39), (11, .lmul), (12, .lstore_n 3), (13, .iconst 1), (14, .istore 5), (16, .iload 5)]),
  (36, [(18, .iload_n 1), (19, .if_icmp .gt 30), (22, .lload_n 3), (23, .aload_n 2), (24, .getfield 43), (27, .iload 5), (29, .iconst 1), (30, .isub), (31, .laload), (32, .aload_n 0), (33, .getfield 9), (36, .iload 5)]),
  (50, [(38, .iaload), (39, .i2l), (40, .lmul), (41, .lsub), (42, .lstore_n 3), (43, .iinc 5 1), (46, .goto (-30)), (49, .lload_n 3), (50, .lreturn)])]
def mi_X3_take : List (Nat × List (Nat × Instr)) := [(17, [(0, .aload_n 0), (1, .iload_n 2), (2, .putfield 15), (5, .iconst 0), (6, .istore_n 3), (7, .iload_n 3), (8, .iload_n 2), (9, .if_icmp .ge 18), (12, .aload_n 0), (13, .getfield 9), (16, .iload_n 3), (17, .aload_n 1)]),
  (27, [(18, .iload_n 3), (19, .iaload), (20, .iastore), (21, .iinc 3 1), (24, .goto (-17)), (27, .return_)])]
def mi_X4_findGaps : List (Nat × List (Nat × Instr)) := [(17, [(0, .iconst 0), (1, .istore_n 2), (2, .iconst 0), (3, .istore_n 3), (4, .iload_n 3), (5, .aload_n 0), (6, .getfield 18), (9, .if_icmp .ge 35), (12, .iload_n 2), (13, .iload_n 1), (14, .if_icmp .ge 30), (17, .aload_n 0)]),
  (38, [(18, .getfield 9), (21, .iload_n 3), (22, .iaload), (23, .bipush 100), (25, .if_icmp .ne 13), (28, .aload_n 0), (29, .getfield 15), (32, .iload_n 2), (33, .iload_n 3), (34, .iastore), (35, .iinc 2 1), (38, .iinc 3 1)]),
  (44, [(41, .goto (-37)), (44, .return_)])]
def mi_X4_gapCount : List (Nat × List (Nat × Instr)) := [(17, [(0, .iconst 0), (1, .istore_n 1), (2, .iconst 0), (3, .istore_n 2), (4, .iload_n 2), (5, .aload_n 0), (6, .getfield 18), (9, .if_icmp .ge 28), (12, .iload_n 1), (13, .aload_n 0), (14, .getfield 9), (17, .iload_n 2)]),
  (38, [(18, .iaload), (19, .bipush 100), (21, .if_icmp .ne 7), (24, .iconst 1), (25, .goto 4), (28, .iconst 0), (29, .iadd), (30, .istore_n 1), (31, .iinc 2 1), (34, .goto (-30)), (37, .iload_n 1), (38, .ireturn)])]
def mi_X4_isGapless : List (Nat × List (Nat × Instr)) := [(17, [(0, .iload_n 1), (1, .ifCond .lt 11), (4, .iload_n 2), (5, .aload_n 0), (6, .getfield 18), (9, .if_icmp .le 5), (12, .iconst 0), (13, .ireturn), (14, .iload_n 1), (15, .istore_n 3), (16, .iload_n 3), (17, .iload_n 2)]),
  (40, [(18, .if_icmp .ge 22), (21, .aload_n 0), (22, .getfield 9), (25, .iload_n 3), (26, .iaload), (27, .bipush 100), (29, .if_icmp .ne 5), (32, .iconst 0), (33, .ireturn), (34, .iinc 3 1), (37, .goto (-21)), (40, .iconst 1)]),
  (41, [(41, .ireturn)])]
def mi_X4_productsAt : List (Nat × List (Nat × Instr)) := [(17, [(0, .iconst 0), (1, .istore_n 2), (2, .iload_n 1), (3, .istore_n 3), (4, .iload_n 3), (5, .aload_n 0), (6, .getfield 18), (9, .if_icmp .ge 27), (12, .iload_n 2), (13, .aload_n 0), (14, .getfield 9), (17, .iload_n 3)]),
  (33, [(18, .iaload), (19, .aload_n 0), (20, .getfield 9), (23, .iload_n 3), (24, .iload_n 1), (25, .isub), (26, .iaload), (27, .imul), (28, .iadd), (29, .istore_n 2), (30, .iinc 3 1), (33, .goto (-29))]),
  (37, [(36, .iload_n 2), (37, .ireturn)])]
def mi_X4_take : List (Nat × List (Nat × Instr)) := [(17, [(0, .aload_n 0), (1, .iload_n 2), (2, .putfield 18), (5, .iconst 0), (6, .istore_n 3), (7, .iload_n 3), (8, .iload_n 2), (9, .if_icmp .ge 31), (12, .aload_n 0), (13, .getfield 9), (16, .iload_n 3), (17, .aload_n 1)]),
  (37, [(18, .iload_n 3), (19, .baload), (20, .bipush (-128)), (22, .if_icmp .ne 8), (25, .bipush 100), (27, .goto 6), (30, .aload_n 1), (31, .iload_n 3), (32, .baload), (33, .iastore), (34, .iinc 3 1), (37, .goto (-30))]),
  (40, [(40, .return_)])]
def mi_X5_take : List (Nat × List (Nat × Instr)) := [(18, [(0, .aload_n 0), (1, .iconst 1), (2, .putfield 29), (5, .aload_n 0), (6, .iload_n 2), (7, .putfield 9), (10, .aload_n 0), (11, .iload_n 3), (12, .putfield 33), (15, .aload_n 0), (16, .iload 4), (18, .putfield 36)]),
  (42, [(21, .aload_n 0), (22, .iload 5), (24, .putfield 15), (27, .iconst 1), (28, .istore 6), (30, .iload 6), (32, .iconst 3), (33, .if_icmp .gt 66), (36, .aload_n 0), (37, .getfield 18), (40, .iload 6), (42, .iload 6)]),
  (62, [(44, .aload_n 0), (45, .getfield 33), (48, .if_icmp .gt 12), (51, .aload_n 1), (52, .iload 6), (54, .iconst 1), (55, .isub), (56, .baload), (57, .goto 4), (60, .iconst 0), (61, .iastore), (62, .aload_n 0)]),
  (85, [(63, .getfield 22), (66, .iload 6), (68, .iload 6), (70, .aload_n 0), (71, .getfield 36), (74, .if_icmp .gt 17), (77, .aload_n 1), (78, .aload_n 0), (79, .getfield 33), (82, .iload 6), (84, .iadd), (85, .iconst 1)]),
  (99, [(86, .isub), (87, .baload), (88, .goto 4), (91, .iconst 0), (92, .iastore), (93, .iinc 6 1), (96, .goto (-66)), (99, .return_)])]
def mi_X6_append : List (Nat × List (Nat × Instr)) := [(21, [(0, .bipush 24), (2, .istore_n 2), (3, .iload_n 2), (4, .ifCond .lt 41), (7, .aload_n 0), (8, .getfield 15), (11, .bipush 100), (13, .if_icmp .ge 32), (16, .aload_n 0), (17, .getfield 9), (20, .aload_n 0), (21, .getfield 15)]),
  (39, [(24, .iload_n 1), (25, .iload_n 2), (26, .ishr), (27, .i2b), (28, .bastore), (29, .aload_n 0), (30, .dup), (31, .getfield 15), (34, .iconst 1), (35, .iadd), (36, .putfield 15), (39, .iinc 2 (-8))]),
  (45, [(42, .goto (-39)), (45, .return_)])]
def mi_X6_pair : List (Nat × List (Nat × Instr)) := [(17, [(0, .aload_n 0), (1, .getfield 9), (4, .iconst 2), (5, .iload_n 1), (6, .imul), (7, .baload), (8, .sipush 256), (11, .imul), (12, .aload_n 0), (13, .getfield 9), (16, .iconst 2), (17, .iload_n 1)]),
  (27, [(18, .imul), (19, .iconst 1), (20, .iadd), (21, .baload), (22, .sipush 255), (25, .iand), (26, .iadd), (27, .ireturn)])]
def mi_X7_at : List (Nat × List (Nat × Instr)) := [(22, [(0, .iload_n 1), (1, .ifCond .lt 14), (4, .iload_n 1), (5, .aload_n 0), (6, .getfield 33), (9, .getfield 233), (12, .if_icmp .lt 6), (15, .bipush 101), (17, .ireturn), (18, .aload_n 0), (19, .getfield 33), (22, .getfield 234)]),
  (27, [(25, .iload_n 1), (26, .iaload), (27, .ireturn)])]
def mi_X7_end : List (Nat × List (Nat × Instr)) := [(21, [(0, .iload_n 1), (1, .ifCond .lt 14), (4, .iload_n 1), (5, .aload_n 0), (6, .getfield 10), (9, .getfield 82), (12, .if_icmp .le 5), (15, .iconst 0), (16, .ireturn), (17, .aload_n 0), (18, .getfield 10), (21, .iload_n 1)]),
  (26, [(22, .putfield 82), (25, .iconst 1), (26, .ireturn)])]
def mi_X7_isPart : List (Nat × List (Nat × Instr)) := [(14, [(0, .iload_n 0), (1, .ifCond .eq 8), (4, .iload_n 0), (5, .iconst 1), (6, .if_icmp .ne 7), (9, .iconst 1), (10, .goto 4), (13, .iconst 0), (14, .ireturn)])]
def mi_X7_isWithin : List (Nat × List (Nat × Instr)) := [(15, [(0, .iload_n 0), (1, .iload_n 1), (2, .if_icmp .lt 12), (5, .iload_n 0), (6, .iload_n 2), (7, .if_icmp .gt 7), (10, .iconst 1), (11, .goto 4), (14, .iconst 0), (15, .ireturn)])]
def mi_X7_likenessesCount : List (Nat × List (Nat × Instr)) := [(16, [(0, .iconst 0), (1, .istore_n 1), (2, .iconst 0), (3, .istore_n 2), (4, .iload_n 2), (5, .bipush 6), (7, .if_icmp .ge 29), (10, .iload_n 1), (11, .aload_n 0), (12, .getfield 24), (15, .iload_n 2), (16, .aaload)]),
  (37, [(17, .getfield 185), (20, .ifCond .le 7), (23, .iconst 1), (24, .goto 4), (27, .iconst 0), (28, .iadd), (29, .istore_n 1), (30, .iinc 2 1), (33, .goto (-29)), (36, .iload_n 1), (37, .ireturn)])]
def mi_X7_power : List (Nat × List (Nat × Instr)) := [(15, [(0, .lconst 1), (1, .lstore_n 3), (2, .iconst 0), (3, .istore 5), (5, .iload 5), (7, .iload_n 2), (8, .if_icmp .ge 13), (11, .lload_n 3), (12, .lload_n 0), (13, .lmul), (14, .lstore_n 3), (15, .iinc 5 1)]),
  (22, [(18, .goto (-13)), (21, .lload_n 3), (22, .lreturn)])]
def mi_X7_ruleCount : List (Nat × List (Nat × Instr)) := [(16, [(0, .iconst 0), (1, .istore_n 1), (2, .iconst 0), (3, .istore_n 2), (4, .iload_n 2), (5, .bipush 6), (7, .if_icmp .ge 29), (10, .iload_n 1), (11, .aload_n 0), (12, .getfield 18), (15, .iload_n 2), (16, .aaload)]),
  (37, [(17, .getfield 297), (20, .ifCond .eq 7), (23, .iconst 1), (24, .goto 4), (27, .iconst 0), (28, .iadd), (29, .istore_n 1), (30, .iinc 2 1), (33, .goto (-29)), (36, .iload_n 1), (37, .ireturn)])]
def mi_X8_at : List (Nat × List (Nat × Instr)) := [(22, [(0, .aload_n 0), (1, .iconst 0), (2, .putfield 100), (5, .iload_n 1), (6, .ifCond .lt 11), (9, .iload_n 1), (10, .aload_n 0), (11, .getfield 176), (14, .if_icmp .lt 8), (17, .bipush 101), (19, .goto 9), (22, .aload_n 0)]),
  (28, [(23, .getfield 79), (26, .iload_n 1), (27, .iaload), (28, .ireturn)])]
def mi_X8_common : List (Nat × List (Nat × Instr)) := [(16, [(0, .lload_n 0), (1, .lconst 0), (2, .lcmp), (3, .ifCond .ge 8), (6, .lload_n 0), (7, .lneg), (8, .goto 4), (11, .lload_n 0), (12, .lstore 4), (14, .lload_n 2), (15, .lconst 0), (16, .lcmp)]),
  (37, [(17, .ifCond .ge 8), (20, .lload_n 2), (21, .lneg), (22, .goto 4), (25, .lload_n 2), (26, .lstore 6), (28, .lload 6), (30, .lconst 0), (31, .lcmp), (32, .ifCond .eq 21), (35, .lload 4), (37, .lload 6)]),
  (55, [(39, .lrem), (40, .lstore 8), (42, .lload 6), (44, .lstore 4), (46, .lload 8), (48, .lstore 6), (50, .goto (-22)), (53, .lload 4), (55, .lreturn)])]
def mi_X8_determinant : List (Nat × List (Nat × Instr)) := [(13, [(0, .iconst 1), (1, .istore_n 2), (2, .iconst 0), (3, .istore_n 3), (4, .iload_n 3), (5, .iload_n 1), (6, .if_icmp .ge 13), (9, .iload_n 2), (10, .iload_n 1), (11, .imul), (12, .istore_n 2), (13, .iinc 3 1)]),
  (35, [(16, .goto (-12)), (19, .lconst 0), (20, .lstore_n 3), (21, .iconst 0), (22, .istore 5), (24, .iload 5), (26, .iload_n 2), (27, .if_icmp .ge 176), (30, .iload 5), (32, .istore 6), (34, .lconst 1), (35, .lstore 7)]),
  (56, [(37, .iconst 0), (38, .istore 9), (40, .iload 9), (42, .iload_n 1), (43, .if_icmp .ge 26), (46, .aload_n 0), (47, .getfield 76), (50, .iload 9), (52, .iload 6), (54, .iload_n 1), (55, .irem), (56, .iastore)]),
  (78, [(57, .iload 6), (59, .iload_n 1), (60, .idiv), (61, .istore 6), (63, .iinc 9 1), (66, .goto (-26)), (69, .iconst 0), (70, .istore 9), (72, .iload 9), (74, .iload_n 1), (75, .if_icmp .ge 73), (78, .iconst 0)]),
  (101, [(79, .istore 10), (81, .iload 10), (83, .iload 9), (85, .if_icmp .ge 57), (88, .aload_n 0), (89, .getfield 76), (92, .iload 10), (94, .iaload), (95, .aload_n 0), (96, .getfield 76), (99, .iload 9), (101, .iaload)]),
  (123, [(102, .if_icmp .ne 7), (105, .lconst 0), (106, .goto 28), (109, .aload_n 0), (110, .getfield 76), (113, .iload 10), (115, .iaload), (116, .aload_n 0), (117, .getfield 76), (120, .iload 9), (122, .iaload), (123, .if_icmp .le 9)]),
  (151, [(126, .lload 7), (128, .lneg), (129, .goto 5), (132, .lload 7), (134, .lstore 7), (136, .iinc 10 1), (139, .goto (-58)), (142, .iinc 9 1), (145, .goto (-73)), (148, .iconst 0), (149, .istore 9), (151, .iload 9)]),
  (173, [(153, .iload_n 1), (154, .if_icmp .ge 38), (157, .lload 7), (159, .lconst 0), (160, .lcmp), (161, .ifCond .eq 31), (164, .lload 7), (166, .aload_n 0), (167, .getfield 73), (170, .iconst 5), (171, .iload 9), (173, .imul)]),
  (193, [(174, .aload_n 0), (175, .getfield 76), (178, .iload 9), (180, .iaload), (181, .iadd), (182, .laload), (183, .lmul), (184, .lstore 7), (186, .iinc 9 1), (189, .goto (-38)), (192, .lload_n 3), (193, .lload 7)]),
  (204, [(195, .ladd), (196, .lstore_n 3), (197, .iinc 5 1), (200, .goto (-176)), (203, .lload_n 3), (204, .lreturn)])]
def mi_X8_end : List (Nat × List (Nat × Instr)) := [(19, [(0, .aload_n 0), (1, .iconst 0), (2, .putfield 100), (5, .iload_n 1), (6, .ifCond .lt 11), (9, .iload_n 1), (10, .aload_n 0), (11, .getfield 104), (14, .if_icmp .le 5), (17, .iconst 0), (18, .ireturn), (19, .aload_n 0)]),
  (25, [(20, .iload_n 1), (21, .putfield 104), (24, .iconst 1), (25, .ireturn)])]
def mi_X8_four : List (Nat × List (Nat × Instr)) := [(18, [(0, .bipush 24), (2, .istore_n 2), (3, .iload_n 2), (4, .ifCond .lt 32), (7, .aload_n 0), (8, .getfield 7), (11, .aload_n 0), (12, .getfield 104), (15, .iload_n 1), (16, .iload_n 2), (17, .ishr), (18, .i2b)]),
  (36, [(19, .bastore), (20, .aload_n 0), (21, .dup), (22, .getfield 104), (25, .iconst 1), (26, .iadd), (27, .putfield 104), (30, .iinc 2 (-8)), (33, .goto (-30)), (36, .return_)])]
def mi_X8_gaps : List (Nat × List (Nat × Instr)) := [(17, [(0, .iconst 0), (1, .istore_n 1), (2, .iconst 0), (3, .istore_n 2), (4, .iload_n 2), (5, .aload_n 0), (6, .getfield 176), (9, .if_icmp .ge 28), (12, .iload_n 1), (13, .aload_n 0), (14, .getfield 79), (17, .iload_n 2)]),
  (38, [(18, .iaload), (19, .bipush 100), (21, .if_icmp .ne 7), (24, .iconst 1), (25, .goto 4), (28, .iconst 0), (29, .iadd), (30, .istore_n 1), (31, .iinc 2 1), (34, .goto (-30)), (37, .iload_n 1), (38, .ireturn)])]
def mi_X8_has : List (Nat × List (Nat × Instr)) := [(20, [(0, .iload_n 1), (1, .ifCond .lt 22), (4, .iload_n 1), (5, .bipush 6), (7, .if_icmp .ge 16), (10, .aload_n 0), (11, .getfield 67), (14, .iload_n 1), (15, .iaload), (16, .ifCond .le 7), (19, .iconst 1), (20, .goto 4)]),
  (24, [(23, .iconst 0), (24, .ireturn)])]
def mi_X8_hasRule : List (Nat × List (Nat × Instr)) := [(20, [(0, .iload_n 1), (1, .ifCond .lt 22), (4, .iload_n 1), (5, .bipush 6), (7, .if_icmp .ge 16), (10, .aload_n 0), (11, .getfield 13), (14, .iload_n 1), (15, .baload), (16, .ifCond .eq 7), (19, .iconst 1), (20, .goto 4)]),
  (24, [(23, .iconst 0), (24, .ireturn)])]
def mi_X8_isWhole : List (Nat × List (Nat × Instr)) := [(17, [(0, .iload_n 2), (1, .aload_n 0), (2, .getfield 21), (5, .iload_n 1), (6, .iaload), (7, .if_icmp .lt 7), (10, .iconst 1), (11, .goto 4), (14, .iconst 0), (15, .istore_n 3), (16, .iconst 0), (17, .istore 4)]),
  (39, [(19, .iload 4), (21, .aload_n 0), (22, .getfield 21), (25, .iload_n 1), (26, .iaload), (27, .if_icmp .gt 33), (30, .iload_n 3), (31, .ifCond .eq 29), (34, .aload_n 0), (35, .getfield 79), (38, .iload_n 2), (39, .iload 4)]),
  (61, [(41, .isub), (42, .iaload), (43, .bipush 100), (45, .if_icmp .eq 7), (48, .iconst 1), (49, .goto 4), (52, .iconst 0), (53, .istore_n 3), (54, .iinc 4 1), (57, .goto (-38)), (60, .iload_n 3), (61, .ireturn)])]
def mi_X8_part : List (Nat × List (Nat × Instr)) := [(17, [(0, .iload_n 2), (1, .iload_n 3), (2, .isub), (3, .istore 4), (5, .iload 4), (7, .ifCond .ne 13), (10, .aload_n 0), (11, .getfield 17), (14, .iload_n 1), (15, .iaload), (16, .i2l), (17, .goto 36)]),
  (41, [(20, .iload 4), (22, .ifCond .le 30), (25, .iload 4), (27, .aload_n 0), (28, .getfield 21), (31, .iload_n 1), (32, .iaload), (33, .if_icmp .gt 19), (36, .aload_n 0), (37, .getfield 30), (40, .iconst 4), (41, .iload_n 1)]),
  (53, [(42, .imul), (43, .iload 4), (45, .iadd), (46, .iaload), (47, .ineg), (48, .i2l), (49, .goto 4), (52, .lconst 0), (53, .lreturn)])]
def mi_X8_put : List (Nat × List (Nat × Instr)) := [(20, [(0, .aload_n 0), (1, .iconst 0), (2, .putfield 100), (5, .iload_n 1), (6, .ifCond .lt 35), (9, .iload_n 1), (10, .bipush 60), (12, .if_icmp .ge 29), (15, .iload_n 1), (16, .aload_n 0), (17, .getfield 176), (20, .if_icmp .gt 21)]),
  (43, [(23, .iload_n 2), (24, .bipush 100), (26, .if_icmp .eq 17), (29, .iload_n 2), (30, .bipush (-20)), (32, .if_icmp .lt 9), (35, .iload_n 2), (36, .bipush 20), (38, .if_icmp .le 5), (41, .iconst 0), (42, .ireturn), (43, .aload_n 0)]),
  (63, [(44, .getfield 79), (47, .iload_n 1), (48, .iload_n 2), (49, .iastore), (50, .iload_n 1), (51, .aload_n 0), (52, .getfield 176), (55, .if_icmp .ne 13), (58, .aload_n 0), (59, .dup), (60, .getfield 176), (63, .iconst 1)]),
  (74, [(64, .iadd), (65, .putfield 176), (68, .aload_n 0), (69, .iconst 0), (70, .putfield 209), (73, .iconst 1), (74, .ireturn)])]
def mi_X8_puts : List (Nat × List (Nat × Instr)) := [(20, [(0, .iload_n 1), (1, .ifCond .lt 41), (4, .iload_n 1), (5, .bipush 6), (7, .if_icmp .ge 35), (10, .iload_n 2), (11, .iconst 1), (12, .if_icmp .lt 30), (15, .iload_n 2), (16, .iconst 5), (17, .if_icmp .gt 25), (20, .aload_n 0)]),
  (42, [(21, .getfield 70), (24, .iconst 0), (25, .iaload), (26, .iconst 1), (27, .if_icmp .lt 15), (30, .aload_n 0), (31, .getfield 70), (34, .iconst 0), (35, .iaload), (36, .sipush 1000), (39, .if_icmp .le 5), (42, .iconst 0)]),
  (58, [(43, .ireturn), (44, .iconst 1), (45, .istore_n 3), (46, .iload_n 3), (47, .iload_n 2), (48, .if_icmp .ge 42), (51, .aload_n 0), (52, .getfield 70), (55, .iload_n 3), (56, .iaload), (57, .aload_n 0), (58, .getfield 70)]),
  (78, [(61, .iconst 0), (62, .iaload), (63, .if_icmp .gt 19), (66, .aload_n 0), (67, .getfield 70), (70, .iload_n 3), (71, .iaload), (72, .aload_n 0), (73, .getfield 70), (76, .iconst 0), (77, .iaload), (78, .ineg)]),
  (98, [(79, .if_icmp .ge 5), (82, .iconst 0), (83, .ireturn), (84, .iinc 3 1), (87, .goto (-41)), (90, .aload_n 0), (91, .getfield 67), (94, .iload_n 1), (95, .iload_n 2), (96, .iastore), (97, .iconst 0), (98, .istore_n 3)]),
  (114, [(99, .iload_n 3), (100, .iload_n 2), (101, .if_icmp .ge 25), (104, .aload_n 0), (105, .getfield 64), (108, .iconst 5), (109, .iload_n 1), (110, .imul), (111, .iload_n 3), (112, .iadd), (113, .aload_n 0), (114, .getfield 70)]),
  (127, [(117, .iload_n 3), (118, .iaload), (119, .iastore), (120, .iinc 3 1), (123, .goto (-24)), (126, .iconst 1), (127, .ireturn)])]
def mi_X8_taken : List (Nat × List (Nat × Instr)) := [(11, [(0, .aload_n 0), (1, .getfield 104), (4, .istore_n 1), (5, .aload_n 0), (6, .iconst 0), (7, .putfield 104), (10, .iload_n 1), (11, .ireturn)])]
def mi_X8_thrown : List (Nat × List (Nat × Instr)) := [(4, [(0, .aload_n 0), (1, .getfield 100), (4, .ireturn)])]
def mi_X8_throwsIf : List (Nat × List (Nat × Instr)) := [(14, [(0, .aload_n 0), (1, .iload_n 1), (2, .ifCond .eq 7), (5, .iconst 1), (6, .goto 4), (9, .iconst 0), (10, .putfield 100), (13, .iload_n 1), (14, .ireturn)])]
def mi_X8_toeplitz : List (Nat × List (Nat × Instr)) := [(17, [(0, .iconst 0), (1, .istore_n 3), (2, .iload_n 3), (3, .iload_n 2), (4, .if_icmp .ge 62), (7, .iconst 0), (8, .istore 4), (10, .iload 4), (12, .iload_n 2), (13, .if_icmp .ge 47), (16, .aload_n 0), (17, .getfield 73)]),
  (34, [(20, .iconst 5), (21, .iload_n 3), (22, .imul), (23, .iload 4), (25, .iadd), (26, .aload_n 0), (27, .getfield 64), (30, .iconst 5), (31, .iload_n 1), (32, .imul), (33, .iload_n 3), (34, .iload 4)]),
  (53, [(36, .if_icmp .le 10), (39, .iload_n 3), (40, .iload 4), (42, .isub), (43, .goto 7), (46, .iload 4), (48, .iload_n 3), (49, .isub), (50, .iadd), (51, .iaload), (52, .i2l), (53, .lastore)]),
  (66, [(54, .iinc 4 1), (57, .goto (-47)), (60, .iinc 3 1), (63, .goto (-61)), (66, .return_)])]
def mi_X8_told : List (Nat × List (Nat × Instr)) := [(15, [(0, .iload_n 1), (1, .ifCond .ne 10), (4, .aload_n 0), (5, .getfield 115), (8, .goto 7), (11, .aload_n 0), (12, .getfield 119), (15, .lreturn)])]
def mi_X0_determinant : List (Nat × List (Nat × Instr)) := [(14, [(0, .iconst 1), (1, .iload_n 1), (2, .ishl), (3, .istore_n 3), (4, .aload_n 0), (5, .getfield 23), (8, .iconst 0), (9, .lconst 1), (10, .lastore), (11, .iconst 1), (12, .istore 4), (14, .iload 4)]),
  (35, [(16, .iload_n 3), (17, .if_icmp .ge 133), (20, .iload 4), (22, .invokestatic 34), (25, .iconst 1), (26, .isub), (27, .istore 5), (29, .lconst 0), (30, .lstore 6), (32, .iconst 0), (33, .istore 8), (35, .iload 8)]),
  (58, [(37, .iload_n 1), (38, .if_icmp .ge 97), (41, .iconst 1), (42, .iload 8), (44, .ishl), (45, .istore 9), (47, .iload 4), (49, .iload 9), (51, .iand), (52, .ifCond .ne 6), (55, .goto 74), (58, .iload 8)]),
  (81, [(60, .iload_n 2), (61, .if_icmp .ne 13), (64, .aload_n 0), (65, .getfield 16), (68, .iload 5), (70, .laload), (71, .goto 13), (74, .aload_n 0), (75, .getfield 11), (78, .iload 5), (80, .aaload), (81, .iload 8)]),
  (101, [(83, .laload), (84, .lstore 10), (86, .lload 10), (88, .aload_n 0), (89, .getfield 23), (92, .iload 4), (94, .iload 9), (96, .ixor), (97, .laload), (98, .lmul), (99, .lstore 12), (101, .lload 6)]),
  (123, [(103, .iload 4), (105, .iload 8), (107, .iconst 1), (108, .iadd), (109, .ishr), (110, .invokestatic 34), (113, .iconst 2), (114, .irem), (115, .ifCond .ne 8), (118, .lload 12), (120, .goto 6), (123, .lload 12)]),
  (147, [(125, .lneg), (126, .ladd), (127, .lstore 6), (129, .iinc 8 1), (132, .goto (-97)), (135, .aload_n 0), (136, .getfield 23), (139, .iload 4), (141, .lload 6), (143, .lastore), (144, .iinc 4 1), (147, .goto (-133))]),
  (158, [(150, .aload_n 0), (151, .getfield 23), (154, .iload_n 3), (155, .iconst 1), (156, .isub), (157, .laload), (158, .lreturn)])]
def mi_X1_commonDivisor : List (Nat × List (Nat × Instr)) := [(23, [(0, .lload_n 0), (1, .invokestatic 20), (4, .lstore 4), (6, .lload_n 2), (7, .invokestatic 20), (10, .lstore 6), (12, .iconst 0), (13, .istore 8), (15, .iload 8), (17, .sipush 200), (20, .if_icmp .ge 31), (23, .lload 6)]),
  (45, [(25, .lconst 0), (26, .lcmp), (27, .ifCond .eq 24), (30, .lload 4), (32, .lload 6), (34, .lrem), (35, .lstore 9), (37, .lload 6), (39, .lstore 4), (41, .lload 9), (43, .lstore 6), (45, .iinc 8 1)]),
  (64, [(48, .goto (-33)), (51, .lload 4), (53, .lconst 0), (54, .lcmp), (55, .ifCond .le 8), (58, .lload 4), (60, .goto 4), (63, .lconst 1), (64, .lreturn)])]
def mi_X2_missPart : List (Nat × List (Nat × Instr)) := [(19, [(0, .iload_n 1), (1, .ifCond .ne 21), (4, .aload_n 0), (5, .getfield 38), (8, .i2l), (9, .aload_n 0), (10, .getfield 38), (13, .i2l), (14, .iconst 3), (15, .invokestatic 62), (18, .lmul), (19, .goto 4)]),
  (41, [(22, .lconst 0), (23, .lstore_n 3), (24, .iload_n 1), (25, .iconst 1), (26, .invokestatic 68), (29, .istore 5), (31, .iload 5), (33, .aload_n 0), (34, .getfield 72), (37, .if_icmp .gt 42), (40, .lload_n 3), (41, .aload_n 0)]),
  (57, [(42, .getfield 75), (45, .iload 5), (47, .iaload), (48, .i2l), (49, .aload_n 2), (50, .iload 5), (52, .iload_n 1), (53, .isub), (54, .laload), (55, .lmul), (56, .aload_n 0), (57, .getfield 38)]),
  (76, [(60, .i2l), (61, .iconst 3), (62, .iload 5), (64, .iload_n 1), (65, .isub), (66, .isub), (67, .invokestatic 62), (70, .lmul), (71, .ladd), (72, .lstore_n 3), (73, .iinc 5 1), (76, .goto (-45))]),
  (86, [(79, .aload_n 0), (80, .getfield 78), (83, .i2l), (84, .lload_n 3), (85, .lmul), (86, .lreturn)])]
def mi_X3_isNowhereBelowZero : List (Nat × List (Nat × Instr)) := [(19, [(0, .aload_n 0), (1, .getfield 9), (4, .iconst 0), (5, .iaload), (6, .istore_n 1), (7, .aload_n 0), (8, .getfield 15), (11, .iconst 1), (12, .if_icmp .le 12), (15, .aload_n 0), (16, .getfield 9), (19, .iconst 1)]),
  (39, [(20, .iaload), (21, .goto 4), (24, .iconst 0), (25, .istore_n 2), (26, .aload_n 0), (27, .getfield 15), (30, .iconst 2), (31, .if_icmp .le 12), (34, .aload_n 0), (35, .getfield 9), (38, .iconst 2), (39, .iaload)]),
  (55, [(40, .goto 4), (43, .iconst 0), (44, .istore_n 3), (45, .iload_n 1), (46, .iconst 2), (47, .iload_n 3), (48, .imul), (49, .iadd), (50, .iconst 2), (51, .iload_n 2), (52, .invokestatic 29), (55, .imul)]),
  (75, [(56, .if_icmp .ge 5), (59, .iconst 0), (60, .ireturn), (61, .iload_n 3), (62, .ifCond .le 17), (65, .iload_n 2), (66, .invokestatic 29), (69, .iconst 4), (70, .iload_n 3), (71, .imul), (72, .if_icmp .ge 7), (75, .iconst 1)]),
  (93, [(76, .goto 4), (79, .iconst 0), (80, .istore 4), (82, .iload 4), (84, .ifCond .eq 18), (87, .iconst 4), (88, .iload_n 3), (89, .imul), (90, .iload_n 1), (91, .iconst 2), (92, .iload_n 3), (93, .imul)]),
  (107, [(94, .isub), (95, .imul), (96, .iload_n 2), (97, .iload_n 2), (98, .imul), (99, .if_icmp .lt 7), (102, .iconst 1), (103, .goto 4), (106, .iconst 0), (107, .ireturn)])]
def mi_X4_endsWhole : List (Nat × List (Nat × Instr)) := [(14, [(0, .aload_n 0), (1, .aload_n 0), (2, .getfield 18), (5, .iload_n 1), (6, .isub), (7, .aload_n 0), (8, .getfield 18), (11, .invokevirtual 28), (14, .ireturn)])]
def mi_X4_guessOn : List (Nat × List (Nat × Instr)) := [(19, [(0, .aload_n 1), (1, .getfield 32), (4, .i2l), (5, .iconst 5), (6, .invokestatic 37), (9, .lstore_n 3), (10, .iconst 0), (11, .istore 5), (13, .iload 5), (15, .aload_n 1), (16, .getfield 41), (19, .if_icmp .ge 33)]),
  (41, [(22, .aload_n 2), (23, .iload 5), (25, .aload_n 0), (26, .getfield 9), (29, .aload_n 0), (30, .getfield 18), (33, .aload_n 1), (34, .getfield 41), (37, .isub), (38, .iload 5), (40, .iadd), (41, .iaload)]),
  (61, [(42, .i2l), (43, .lload_n 3), (44, .lmul), (45, .lastore), (46, .iinc 5 1), (49, .goto (-36)), (52, .aload_n 1), (53, .getfield 41), (56, .istore 5), (58, .iload 5), (60, .aload_n 1), (61, .getfield 41)]),
  (84, [(64, .iconst 5), (65, .iadd), (66, .if_icmp .ge 74), (69, .lconst 0), (70, .lstore 6), (72, .iconst 1), (73, .istore 8), (75, .iload 8), (77, .aload_n 1), (78, .getfield 41), (81, .if_icmp .gt 30), (84, .lload 6)]),
  (102, [(86, .aload_n 1), (87, .getfield 44), (90, .iload 8), (92, .iaload), (93, .i2l), (94, .aload_n 2), (95, .iload 5), (97, .iload 8), (99, .isub), (100, .laload), (101, .lmul), (102, .ladd)]),
  (127, [(103, .lstore 6), (105, .iinc 8 1), (108, .goto (-33)), (111, .aload_n 2), (112, .iload 5), (114, .aload_n 1), (115, .getfield 32), (118, .ifCond .ne 7), (121, .lconst 0), (122, .goto 11), (125, .lload 6), (127, .aload_n 1)]),
  (140, [(128, .getfield 32), (131, .i2l), (132, .ldiv), (133, .lastore), (134, .iinc 5 1), (137, .goto (-79)), (140, .return_)])]
def mi_X4_wholeCount : List (Nat × List (Nat × Instr)) := [(17, [(0, .iconst 0), (1, .istore_n 2), (2, .aload_n 1), (3, .getfield 41), (6, .istore_n 3), (7, .iload_n 3), (8, .aload_n 0), (9, .getfield 18), (12, .if_icmp .ge 33), (15, .iload_n 2), (16, .aload_n 0), (17, .iload_n 3)]),
  (37, [(18, .aload_n 1), (19, .getfield 41), (22, .isub), (23, .iload_n 3), (24, .iconst 1), (25, .iadd), (26, .invokevirtual 28), (29, .ifCond .eq 7), (32, .iconst 1), (33, .goto 4), (36, .iconst 0), (37, .iadd)]),
  (46, [(38, .istore_n 2), (39, .iinc 3 1), (42, .goto (-35)), (45, .iload_n 2), (46, .ireturn)])]
def mi_X4_write : List (Nat × List (Nat × Instr)) := [(15, [(0, .aload_n 0), (1, .getfield 9), (4, .iload_n 1), (5, .iload_n 2), (6, .iastore), (7, .aload_n 0), (8, .aload_n 0), (9, .getfield 18), (12, .iload_n 1), (13, .iconst 1), (14, .iadd), (15, .invokestatic 22)]),
  (21, [(18, .putfield 18), (21, .return_)])]
def mi_X5_polyHasNoInnerRoot : List (Nat × List (Nat × Instr)) := [(15, [(0, .iconst 3), (1, .istore_n 1), (2, .iload_n 1), (3, .iconst 1), (4, .if_icmp .lt 112), (7, .aload_n 0), (8, .getfield 25), (11, .iconst 0), (12, .laload), (13, .lstore_n 2), (14, .aload_n 0), (15, .getfield 25)]),
  (37, [(18, .iload_n 1), (19, .laload), (20, .lstore 4), (22, .lload_n 2), (23, .invokestatic 43), (26, .lload 4), (28, .invokestatic 43), (31, .lcmp), (32, .ifCond .gt 5), (35, .iconst 0), (36, .ireturn), (37, .iconst 0)]),
  (57, [(38, .istore 6), (40, .iconst 2), (41, .iload 6), (43, .imul), (44, .iload_n 1), (45, .if_icmp .gt 65), (48, .aload_n 0), (49, .getfield 25), (52, .iload 6), (54, .laload), (55, .lstore 7), (57, .aload_n 0)]),
  (77, [(58, .getfield 25), (61, .iload_n 1), (62, .iload 6), (64, .isub), (65, .laload), (66, .lstore 9), (68, .aload_n 0), (69, .getfield 25), (72, .iload 6), (74, .lload_n 2), (75, .lload 7), (77, .lmul)]),
  (94, [(78, .lload 4), (80, .lload 9), (82, .lmul), (83, .lsub), (84, .lastore), (85, .aload_n 0), (86, .getfield 25), (89, .iload_n 1), (90, .iload 6), (92, .isub), (93, .lload_n 2), (94, .lload 9)]),
  (117, [(96, .lmul), (97, .lload 4), (99, .lload 7), (101, .lmul), (102, .lsub), (103, .lastore), (104, .iinc 6 1), (107, .goto (-67)), (110, .iinc 1 (-1)), (113, .goto (-111)), (116, .iconst 1), (117, .ireturn)])]
def mi_X5_pull : List (Nat × List (Nat × Instr)) := [(19, [(0, .iload_n 1), (1, .ifCond .ne 8), (4, .aload_n 0), (5, .getfield 9), (8, .ireturn), (9, .iload_n 1), (10, .iconst 1), (11, .iconst 3), (12, .invokestatic 55), (15, .ifCond .eq 13), (18, .aload_n 0), (19, .getfield 18)]),
  (29, [(22, .iload_n 1), (23, .iaload), (24, .ineg), (25, .goto 4), (28, .iconst 0), (29, .ireturn)])]
def mi_X5_weigh : List (Nat × List (Nat × Instr)) := [(21, [(0, .iload_n 1), (1, .ifCond .eq 10), (4, .aload_n 0), (5, .getfield 18), (8, .goto 7), (11, .aload_n 0), (12, .getfield 22), (15, .astore_n 3), (16, .iload_n 1), (17, .ifCond .eq 10), (20, .aload_n 0), (21, .getfield 22)]),
  (47, [(24, .goto 7), (27, .aload_n 0), (28, .getfield 18), (31, .astore 4), (33, .iload_n 1), (34, .ifCond .eq 9), (37, .ldc2_w 49), (40, .goto 4), (43, .lconst 1), (44, .lstore 5), (46, .aload_n 2), (47, .iconst 0)]),
  (67, [(48, .lconst 1), (49, .lastore), (50, .iconst 1), (51, .istore 7), (53, .iload 7), (55, .bipush 8), (57, .if_icmp .gt 102), (60, .iload 7), (62, .iconst 3), (63, .if_icmp .gt 24), (66, .aload_n 3), (67, .iload 7)]),
  (87, [(69, .iaload), (70, .i2l), (71, .aload_n 0), (72, .getfield 9), (75, .i2l), (76, .iload 7), (78, .iconst 1), (79, .isub), (80, .invokestatic 51), (83, .lmul), (84, .goto 4), (87, .lconst 0)]),
  (110, [(88, .lstore 8), (90, .iconst 1), (91, .istore 10), (93, .iload 10), (95, .iconst 3), (96, .if_icmp .gt 48), (99, .iload 10), (101, .iload 7), (103, .if_icmp .gt 41), (106, .lload 8), (108, .aload 4), (110, .iload 10)]),
  (128, [(112, .iaload), (113, .i2l), (114, .aload_n 0), (115, .getfield 9), (118, .i2l), (119, .iload 10), (121, .iconst 1), (122, .isub), (123, .invokestatic 51), (126, .lmul), (127, .aload_n 2), (128, .iload 7)]),
  (149, [(130, .iload 10), (132, .isub), (133, .laload), (134, .lmul), (135, .ladd), (136, .lstore 8), (138, .iinc 10 1), (141, .goto (-48)), (144, .aload_n 2), (145, .iload 7), (147, .lload 5), (149, .lload 8)]),
  (159, [(151, .lmul), (152, .lastore), (153, .iinc 7 1), (156, .goto (-103)), (159, .return_)])]
def mi_X6_isEachPlace : List (Nat × List (Nat × Instr)) := [(18, [(0, .iconst 0), (1, .istore_n 2), (2, .iload_n 2), (3, .iload_n 1), (4, .if_icmp .ge 38), (7, .aload_n 0), (8, .getfield 9), (11, .iload_n 2), (12, .baload), (13, .bipush (-128)), (15, .if_icmp .eq 21), (18, .aload_n 0)]),
  (42, [(19, .getfield 9), (22, .iload_n 2), (23, .baload), (24, .bipush (-20)), (26, .bipush 20), (28, .invokestatic 19), (31, .ifCond .ne 5), (34, .iconst 0), (35, .ireturn), (36, .iinc 2 1), (39, .goto (-37)), (42, .iconst 1)]),
  (43, [(43, .ireturn)])]
def mi_X6_isEachWithin : List (Nat × List (Nat × Instr)) := [(15, [(0, .iconst 0), (1, .istore_n 3), (2, .iload_n 3), (3, .iload_n 1), (4, .if_icmp .ge 26), (7, .aload_n 0), (8, .getfield 9), (11, .iload_n 3), (12, .baload), (13, .iload_n 2), (14, .ineg), (15, .iload_n 2)]),
  (31, [(16, .invokestatic 19), (19, .ifCond .ne 5), (22, .iconst 0), (23, .ireturn), (24, .iinc 3 1), (27, .goto (-25)), (30, .iconst 1), (31, .ireturn)])]
def mi_X7_areLikenesses : List (Nat × List (Nat × Instr)) := [(19, [(0, .iload_n 1), (1, .iconst 1), (2, .if_icmp .lt 16), (5, .aload_n 0), (6, .iconst 0), (7, .iaload), (8, .iconst 1), (9, .sipush 1000), (12, .invokestatic 94), (15, .ifCond .ne 5), (18, .iconst 0), (19, .ireturn)]),
  (33, [(20, .iconst 1), (21, .istore_n 2), (22, .iload_n 2), (23, .iload_n 1), (24, .if_icmp .ge 27), (27, .aload_n 0), (28, .iload_n 2), (29, .iaload), (30, .aload_n 0), (31, .iconst 0), (32, .iaload), (33, .ineg)]),
  (52, [(34, .aload_n 0), (35, .iconst 0), (36, .iaload), (37, .invokestatic 94), (40, .ifCond .ne 5), (43, .iconst 0), (44, .ireturn), (45, .iinc 2 1), (48, .goto (-26)), (51, .iconst 1), (52, .ireturn)])]
def mi_X7_count : List (Nat × List (Nat × Instr)) := [(53, [(0, .iload_n 1), (1, .tableswitch 69 0 4 #[35, 40, 45, 53, 61]), (36, .aload_n 0), (37, .invokevirtual 291), (40, .ireturn), (41, .aload_n 0), (42, .invokevirtual 294), (45, .ireturn), (46, .aload_n 0), (47, .getfield 33), (50, .getfield 233), (53, .ireturn)]),
  (71, [(54, .aload_n 0), (55, .getfield 33), (58, .invokevirtual 174), (61, .ireturn), (62, .aload_n 0), (63, .getfield 10), (66, .getfield 82), (69, .ireturn), (70, .iconst (-1)), (71, .ireturn)])]
def mi_X7_feed : List (Nat × List (Nat × Instr)) := [(21, [(0, .aload_n 0), (1, .getfield 10), (4, .getfield 82), (7, .bipush 20), (9, .iadd), (10, .bipush 100), (12, .if_icmp .le 5), (15, .iconst (-1)), (16, .ireturn), (17, .aload_n 0), (18, .getfield 10), (21, .iload_n 1)]),
  (45, [(22, .invokevirtual 86), (25, .aload_n 0), (26, .getfield 10), (29, .iload_n 2), (30, .invokevirtual 86), (33, .aload_n 0), (34, .getfield 10), (37, .iload_n 3), (38, .invokevirtual 86), (41, .aload_n 0), (42, .getfield 10), (45, .iload 4)]),
  (66, [(47, .invokevirtual 86), (50, .aload_n 0), (51, .getfield 10), (54, .iload 5), (56, .invokevirtual 86), (59, .aload_n 0), (60, .getfield 10), (63, .getfield 82), (66, .ireturn)])]
def mi_X7_filled : List (Nat × List (Nat × Instr)) := [(31, [(0, .iload_n 1), (1, .ifCond .lt 18), (4, .iload_n 1), (5, .aload_n 0), (6, .getfield 230), (9, .if_icmp .ge 10), (12, .iload_n 2), (13, .invokestatic 121), (16, .ifCond .ne 14), (19, .new 124), (30, .aload_n 0), (31, .getfield 75)]),
  (40, [(34, .iload_n 1), (35, .aaload), (36, .iload_n 2), (37, .invokevirtual 146), (40, .lreturn)])]
def mi_X7_isSlot : List (Nat × List (Nat × Instr)) := [(6, [(0, .iload_n 0), (1, .iconst 0), (2, .iconst 5), (3, .invokestatic 94), (6, .ireturn)])]
def mi_X7_lower : List (Nat × List (Nat × Instr)) := [(33, [(0, .aload_n 0), (1, .getfield 285), (4, .ifCond .eq 10), (7, .iload_n 1), (8, .invokestatic 121), (11, .ifCond .ne 14), (14, .new 124), (25, .aload_n 0), (26, .getfield 79), (29, .iload_n 1), (30, .invokevirtual 146), (33, .lreturn)])]
def mi_X8_block : List (Nat × List (Nat × Instr)) := [(11, [(0, .aload_n 0), (1, .iload_n 1), (2, .iload_n 2), (3, .invokevirtual 182), (6, .aload_n 0), (7, .iload_n 2), (8, .invokevirtual 185), (11, .lreturn)])]
def mi_X8_count : List (Nat × List (Nat × Instr)) := [(49, [(0, .aload_n 0), (1, .iconst 0), (2, .putfield 100), (5, .iconst 0), (6, .istore_n 2), (7, .iload_n 1), (8, .tableswitch 117 0 4 #[36, 69, 102, 107, 112]), (44, .iconst 0), (45, .istore_n 3), (46, .iload_n 3), (47, .bipush 6), (49, .if_icmp .ge 26)]),
  (69, [(52, .iload_n 2), (53, .aload_n 0), (54, .getfield 13), (57, .iload_n 3), (58, .baload), (59, .ifCond .eq 7), (62, .iconst 1), (63, .goto 4), (66, .iconst 0), (67, .iadd), (68, .istore_n 2), (69, .iinc 3 1)]),
  (90, [(72, .goto (-26)), (75, .iload_n 2), (76, .ireturn), (77, .iconst 0), (78, .istore_n 3), (79, .iload_n 3), (80, .bipush 6), (82, .if_icmp .ge 26), (85, .iload_n 2), (86, .aload_n 0), (87, .getfield 67), (90, .iload_n 3)]),
  (110, [(91, .iaload), (92, .ifCond .le 7), (95, .iconst 1), (96, .goto 4), (99, .iconst 0), (100, .iadd), (101, .istore_n 2), (102, .iinc 3 1), (105, .goto (-26)), (108, .iload_n 2), (109, .ireturn), (110, .aload_n 0)]),
  (126, [(111, .getfield 176), (114, .ireturn), (115, .aload_n 0), (116, .invokevirtual 173), (119, .ireturn), (120, .aload_n 0), (121, .getfield 104), (124, .ireturn), (125, .iconst (-1)), (126, .ireturn)])]
def mi_X8_counted : List (Nat × List (Nat × Instr)) := [(21, [(0, .aload_n 0), (1, .iconst 0), (2, .putfield 100), (5, .iload_n 2), (6, .ifCond .lt 15), (9, .iload_n 2), (10, .iconst 4), (11, .if_icmp .gt 10), (14, .aload_n 0), (15, .invokevirtual 173), (18, .ifCond .le 5), (21, .iconst 0)]),
  (37, [(22, .ireturn), (23, .iconst 0), (24, .istore_n 3), (25, .iload_n 3), (26, .iload_n 2), (27, .if_icmp .gt 60), (30, .aload_n 0), (31, .getfield 70), (34, .iload_n 3), (35, .iconst 0), (36, .iastore), (37, .iload_n 3)]),
  (57, [(38, .istore 4), (40, .iload 4), (42, .aload_n 0), (43, .getfield 176), (46, .if_icmp .ge 35), (49, .aload_n 0), (50, .getfield 70), (53, .iload_n 3), (54, .dup2), (55, .iaload), (56, .aload_n 0), (57, .getfield 79)]),
  (75, [(60, .iload 4), (62, .iaload), (63, .aload_n 0), (64, .getfield 79), (67, .iload 4), (69, .iload_n 3), (70, .isub), (71, .iaload), (72, .imul), (73, .iadd), (74, .iastore), (75, .iinc 4 1)]),
  (95, [(78, .goto (-38)), (81, .iinc 3 1), (84, .goto (-59)), (87, .aload_n 0), (88, .iload_n 1), (89, .iload_n 2), (90, .iconst 1), (91, .iadd), (92, .invokevirtual 169), (95, .ireturn)])]
def mi_X8_cramer : List (Nat × List (Nat × Instr)) := [(17, [(0, .iconst 0), (1, .istore_n 3), (2, .iload_n 3), (3, .iload_n 1), (4, .if_icmp .ge 56), (7, .iconst 0), (8, .istore 4), (10, .iload 4), (12, .iload_n 1), (13, .if_icmp .ge 41), (16, .aload_n 0), (17, .getfield 73)]),
  (35, [(20, .iconst 5), (21, .iload_n 3), (22, .imul), (23, .iload 4), (25, .iadd), (26, .aload_n 0), (27, .getfield 97), (30, .iconst 4), (31, .iload_n 3), (32, .imul), (33, .iload 4), (35, .iload_n 2)]),
  (60, [(36, .if_icmp .ne 7), (39, .iload_n 1), (40, .goto 5), (43, .iload 4), (45, .iadd), (46, .laload), (47, .lastore), (48, .iinc 4 1), (51, .goto (-41)), (54, .iinc 3 1), (57, .goto (-55)), (60, .aload_n 0)]),
  (65, [(61, .iload_n 1), (62, .invokevirtual 185), (65, .lreturn)])]
def mi_X8_even : List (Nat × List (Nat × Instr)) := [(19, [(0, .aload_n 0), (1, .iconst 0), (2, .putfield 100), (5, .aload_n 0), (6, .iload_n 1), (7, .invokevirtual 179), (10, .ifCond .eq 13), (13, .aload_n 0), (14, .getfield 67), (17, .iload_n 1), (18, .iaload), (19, .iconst 3)]),
  (35, [(20, .if_icmp .le 5), (23, .iconst (-1)), (24, .ireturn), (25, .aload_n 0), (26, .getfield 64), (29, .iconst 5), (30, .iload_n 1), (31, .imul), (32, .iaload), (33, .i2l), (34, .lstore_n 2), (35, .aload_n 0)]),
  (53, [(36, .getfield 67), (39, .iload_n 1), (40, .iaload), (41, .iconst 1), (42, .if_icmp .le 17), (45, .aload_n 0), (46, .getfield 64), (49, .iconst 5), (50, .iload_n 1), (51, .imul), (52, .iconst 1), (53, .iadd)]),
  (72, [(54, .iaload), (55, .i2l), (56, .goto 4), (59, .lconst 0), (60, .lstore 4), (62, .aload_n 0), (63, .getfield 67), (66, .iload_n 1), (67, .iaload), (68, .iconst 2), (69, .if_icmp .le 17), (72, .aload_n 0)]),
  (89, [(73, .getfield 64), (76, .iconst 5), (77, .iload_n 1), (78, .imul), (79, .iconst 2), (80, .iadd), (81, .iaload), (82, .i2l), (83, .goto 4), (86, .lconst 0), (87, .lstore 6), (89, .lload_n 2)]),
  (109, [(90, .ldc2_w 203), (93, .lload 4), (95, .lmul), (96, .ladd), (97, .ldc2_w 203), (100, .lload 6), (102, .lmul), (103, .ladd), (104, .lconst 0), (105, .lcmp), (106, .ifCond .lt 23), (109, .lload_n 2)]),
  (129, [(110, .ldc2_w 203), (113, .lload 4), (115, .lmul), (116, .lsub), (117, .ldc2_w 203), (120, .lload 6), (122, .lmul), (123, .ladd), (124, .lconst 0), (125, .lcmp), (126, .ifCond .ge 5), (129, .iconst 0)]),
  (150, [(130, .ireturn), (131, .lload 6), (133, .lconst 0), (134, .lcmp), (135, .ifCond .le 31), (138, .lload 4), (140, .ldc2_w 205), (143, .lload 6), (145, .lmul), (146, .lcmp), (147, .ifCond .gt 19), (150, .lload 4)]),
  (174, [(152, .ldc2_w 207), (155, .lload 6), (157, .lmul), (158, .lcmp), (159, .ifCond .lt 7), (162, .iconst 1), (163, .goto 4), (166, .iconst 0), (167, .istore 8), (169, .iload 8), (171, .ifCond .eq 31), (174, .ldc2_w 205)]),
  (194, [(177, .lload 6), (179, .lmul), (180, .lload_n 2), (181, .ldc2_w 203), (184, .lload 6), (186, .lmul), (187, .lsub), (188, .lmul), (189, .lload 4), (191, .lload 4), (193, .lmul), (194, .lcmp)]),
  (203, [(195, .ifCond .ge 7), (198, .iconst 0), (199, .goto 4), (202, .iconst 1), (203, .ireturn)])]
def mi_X8_feed : List (Nat × List (Nat × Instr)) := [(19, [(0, .aload_n 0), (1, .iconst 0), (2, .putfield 100), (5, .aload_n 0), (6, .getfield 104), (9, .bipush 20), (11, .iadd), (12, .bipush 100), (14, .if_icmp .le 5), (17, .iconst (-1)), (18, .ireturn), (19, .aload_n 0)]),
  (40, [(20, .iload_n 1), (21, .invokevirtual 107), (24, .aload_n 0), (25, .iload_n 2), (26, .invokevirtual 107), (29, .aload_n 0), (30, .iload_n 3), (31, .invokevirtual 107), (34, .aload_n 0), (35, .iload 4), (37, .invokevirtual 107), (40, .aload_n 0)]),
  (50, [(41, .iload 5), (43, .invokevirtual 107), (46, .aload_n 0), (47, .getfield 104), (50, .ireturn)])]
def mi_X8_filled : List (Nat × List (Nat × Instr)) := [(21, [(0, .aload_n 0), (1, .aload_n 0), (2, .getfield 209), (5, .ifCond .eq 24), (8, .iload_n 1), (9, .ifCond .lt 20), (12, .iload_n 1), (13, .aload_n 0), (14, .getfield 229), (17, .if_icmp .ge 12), (20, .iload_n 2), (21, .ifCond .lt 8)]),
  (43, [(24, .iload_n 2), (25, .iconst 1), (26, .if_icmp .le 7), (29, .iconst 1), (30, .goto 4), (33, .iconst 0), (34, .invokevirtual 147), (37, .ifCond .eq 5), (40, .lconst 0), (41, .lreturn), (42, .iload_n 2), (43, .ifCond .ne 12)]),
  (61, [(46, .aload_n 0), (47, .getfield 91), (50, .iload_n 1), (51, .laload), (52, .goto 9), (55, .aload_n 0), (56, .getfield 94), (59, .iload_n 1), (60, .laload), (61, .lreturn)])]
def mi_X8_given : List (Nat × List (Nat × Instr)) := [(18, [(0, .aload_n 0), (1, .iconst 0), (2, .putfield 100), (5, .aload_n 0), (6, .invokevirtual 126), (9, .istore_n 2), (10, .iload_n 2), (11, .iconst 2), (12, .if_icmp .lt 16), (15, .iload_n 2), (16, .bipush 10), (18, .if_icmp .gt 10)]),
  (34, [(21, .iload_n 2), (22, .iconst 2), (23, .irem), (24, .iconst 1), (25, .if_icmp .ne 5), (28, .iconst 0), (29, .ireturn), (30, .iconst 0), (31, .istore_n 3), (32, .iload_n 3), (33, .iload_n 2), (34, .iconst 2)]),
  (52, [(35, .idiv), (36, .if_icmp .ge 41), (39, .aload_n 0), (40, .getfield 70), (43, .iload_n 3), (44, .aload_n 0), (45, .getfield 7), (48, .iconst 2), (49, .iload_n 3), (50, .imul), (51, .baload), (52, .bipush 8)]),
  (69, [(54, .ishl), (55, .aload_n 0), (56, .getfield 7), (59, .iconst 2), (60, .iload_n 3), (61, .imul), (62, .iconst 1), (63, .iadd), (64, .baload), (65, .sipush 255), (68, .iand), (69, .ior)]),
  (85, [(70, .iastore), (71, .iinc 3 1), (74, .goto (-42)), (77, .aload_n 0), (78, .iload_n 1), (79, .iload_n 2), (80, .iconst 2), (81, .idiv), (82, .invokevirtual 169), (85, .ireturn)])]
def mi_X8_isBare : List (Nat × List (Nat × Instr)) := [(21, [(0, .aload_n 0), (1, .iload_n 1), (2, .invokevirtual 134), (5, .ifCond .eq 16), (8, .aload_n 0), (9, .getfield 24), (12, .iload_n 1), (13, .iaload), (14, .ifCond .ne 7), (17, .iconst 1), (18, .goto 4), (21, .iconst 0)]),
  (22, [(22, .ireturn)])]
def mi_X8_isFree : List (Nat × List (Nat × Instr)) := [(17, [(0, .iconst 3), (1, .istore_n 1), (2, .iload_n 1), (3, .ifCond .le 214), (6, .aload_n 0), (7, .getfield 36), (10, .iconst 0), (11, .laload), (12, .lstore_n 2), (13, .aload_n 0), (14, .getfield 36), (17, .iload_n 1)]),
  (35, [(18, .laload), (19, .lstore 4), (21, .lload_n 2), (22, .lconst 0), (23, .lcmp), (24, .ifCond .ge 8), (27, .lload_n 2), (28, .lneg), (29, .goto 4), (32, .lload_n 2), (33, .lload 4), (35, .lconst 0)]),
  (55, [(36, .lcmp), (37, .ifCond .ge 9), (40, .lload 4), (42, .lneg), (43, .goto 5), (46, .lload 4), (48, .lcmp), (49, .ifCond .gt 5), (52, .iconst 0), (53, .ireturn), (54, .aload_n 0), (55, .getfield 36)]),
  (75, [(58, .iconst 1), (59, .laload), (60, .lstore 6), (62, .aload_n 0), (63, .getfield 36), (66, .iconst 2), (67, .laload), (68, .lstore 8), (70, .aload_n 0), (71, .getfield 36), (74, .iconst 0), (75, .lload_n 2)]),
  (91, [(76, .lload_n 2), (77, .lmul), (78, .lload 4), (80, .lload 4), (82, .lmul), (83, .lsub), (84, .lastore), (85, .iload_n 1), (86, .iconst 3), (87, .if_icmp .ne 38), (90, .aload_n 0), (91, .getfield 36)]),
  (110, [(94, .iconst 1), (95, .lload_n 2), (96, .lload 6), (98, .lmul), (99, .lload 4), (101, .lload 8), (103, .lmul), (104, .lsub), (105, .lastore), (106, .aload_n 0), (107, .getfield 36), (110, .iconst 2)]),
  (127, [(111, .lload_n 2), (112, .lload 8), (114, .lmul), (115, .lload 4), (117, .lload 6), (119, .lmul), (120, .lsub), (121, .lastore), (122, .goto 24), (125, .iload_n 1), (126, .iconst 2), (127, .if_icmp .ne 19)]),
  (146, [(130, .aload_n 0), (131, .getfield 36), (134, .iconst 1), (135, .lload_n 2), (136, .lload 6), (138, .lmul), (139, .lload 4), (141, .lload 6), (143, .lmul), (144, .lsub), (145, .lastore), (146, .aload_n 0)]),
  (166, [(147, .getfield 36), (150, .iconst 0), (151, .laload), (152, .aload_n 0), (153, .getfield 36), (156, .iconst 1), (157, .laload), (158, .invokestatic 111), (161, .aload_n 0), (162, .getfield 36), (165, .iconst 2), (166, .laload)]),
  (188, [(167, .invokestatic 111), (170, .lstore 10), (172, .iconst 0), (173, .istore 12), (175, .iload 12), (177, .iconst 3), (178, .if_icmp .ge 33), (181, .lload 10), (183, .lconst 1), (184, .lcmp), (185, .ifCond .le 26), (188, .aload_n 0)]),
  (211, [(189, .getfield 36), (192, .iload 12), (194, .aload_n 0), (195, .getfield 36), (198, .iload 12), (200, .laload), (201, .lload 10), (203, .ldiv), (204, .lastore), (205, .iinc 12 1), (208, .goto (-33)), (211, .iinc 1 (-1))]),
  (233, [(214, .goto (-212)), (217, .aload_n 0), (218, .getfield 36), (221, .iconst 0), (222, .laload), (223, .lconst 0), (224, .lcmp), (225, .ifCond .eq 7), (228, .iconst 1), (229, .goto 4), (232, .iconst 0), (233, .ireturn)])]
def mi_X8_joined : List (Nat × List (Nat × Instr)) := [(21, [(0, .aload_n 0), (1, .iconst 0), (2, .putfield 100), (5, .aload_n 0), (6, .iload_n 2), (7, .invokevirtual 179), (10, .ifCond .eq 11), (13, .aload_n 0), (14, .iload_n 3), (15, .invokevirtual 179), (18, .ifCond .ne 5), (21, .iconst 0)]),
  (39, [(22, .ireturn), (23, .aload_n 0), (24, .getfield 67), (27, .iload_n 2), (28, .iaload), (29, .aload_n 0), (30, .getfield 67), (33, .iload_n 3), (34, .iaload), (35, .if_icmp .ge 12), (38, .aload_n 0), (39, .getfield 67)]),
  (60, [(42, .iload_n 2), (43, .iaload), (44, .goto 9), (47, .aload_n 0), (48, .getfield 67), (51, .iload_n 3), (52, .iaload), (53, .istore 4), (55, .iconst 0), (56, .istore 5), (58, .iload 5), (60, .iload 4)]),
  (81, [(62, .if_icmp .ge 39), (65, .aload_n 0), (66, .getfield 70), (69, .iload 5), (71, .aload_n 0), (72, .getfield 64), (75, .iconst 5), (76, .iload_n 2), (77, .imul), (78, .iload 5), (80, .iadd), (81, .iaload)]),
  (98, [(82, .aload_n 0), (83, .getfield 64), (86, .iconst 5), (87, .iload_n 3), (88, .imul), (89, .iload 5), (91, .iadd), (92, .iaload), (93, .iadd), (94, .iastore), (95, .iinc 5 1), (98, .goto (-40))]),
  (108, [(101, .aload_n 0), (102, .iload_n 1), (103, .iload 4), (105, .invokevirtual 169), (108, .ireturn)])]
def mi_X8_likeness : List (Nat × List (Nat × Instr)) := [(19, [(0, .aload_n 0), (1, .aload_n 0), (2, .iload_n 1), (3, .invokevirtual 179), (6, .ifCond .eq 17), (9, .iload_n 2), (10, .ifCond .lt 13), (13, .iload_n 2), (14, .aload_n 0), (15, .getfield 67), (18, .iload_n 1), (19, .iaload)]),
  (43, [(20, .if_icmp .lt 7), (23, .iconst 1), (24, .goto 4), (27, .iconst 0), (28, .invokevirtual 147), (31, .ifCond .eq 7), (34, .iconst 0), (35, .goto 13), (38, .aload_n 0), (39, .getfield 64), (42, .iconst 5), (43, .iload_n 1)]),
  (48, [(44, .imul), (45, .iload_n 2), (46, .iadd), (47, .iaload), (48, .ireturn)])]
def mi_X8_lower : List (Nat × List (Nat × Instr)) := [(21, [(0, .aload_n 0), (1, .aload_n 0), (2, .getfield 232), (5, .ifCond .eq 12), (8, .iload_n 1), (9, .ifCond .lt 8), (12, .iload_n 1), (13, .iconst 1), (14, .if_icmp .le 7), (17, .iconst 1), (18, .goto 4), (21, .iconst 0)]),
  (45, [(22, .invokevirtual 147), (25, .ifCond .eq 5), (28, .lconst 0), (29, .lreturn), (30, .iload_n 1), (31, .ifCond .ne 10), (34, .aload_n 0), (35, .getfield 235), (38, .goto 7), (41, .aload_n 0), (42, .getfield 238), (45, .lreturn)])]
def mi_X8_missOf : List (Nat × List (Nat × Instr)) := [(17, [(0, .lconst 0), (1, .lstore_n 3), (2, .iconst 0), (3, .istore 5), (5, .iload 5), (7, .aload_n 0), (8, .getfield 21), (11, .iload_n 1), (12, .iaload), (13, .if_icmp .gt 51), (16, .lload_n 3), (17, .aload_n 0)]),
  (37, [(18, .getfield 79), (21, .iload_n 2), (22, .iload 5), (24, .isub), (25, .iaload), (26, .bipush 100), (28, .if_icmp .ne 7), (31, .lconst 0), (32, .goto 24), (35, .aload_n 0), (36, .iload_n 1), (37, .iload_n 2)]),
  (55, [(38, .iload_n 2), (39, .iload 5), (41, .isub), (42, .invokevirtual 219), (45, .aload_n 0), (46, .getfield 79), (49, .iload_n 2), (50, .iload 5), (52, .isub), (53, .iaload), (54, .i2l), (55, .lmul)]),
  (65, [(56, .ladd), (57, .lstore_n 3), (58, .iinc 5 1), (61, .goto (-56)), (64, .lload_n 3), (65, .lreturn)])]
def mi_X8_row : List (Nat × List (Nat × Instr)) := [(18, [(0, .aload_n 0), (1, .iconst 0), (2, .putfield 100), (5, .aload_n 0), (6, .invokevirtual 126), (9, .istore_n 1), (10, .iload_n 1), (11, .bipush 60), (13, .if_icmp .le 5), (16, .iconst (-1)), (17, .ireturn), (18, .iconst 0)]),
  (37, [(19, .istore_n 2), (20, .iload_n 2), (21, .iload_n 1), (22, .if_icmp .ge 44), (25, .aload_n 0), (26, .getfield 7), (29, .iload_n 2), (30, .baload), (31, .bipush (-128)), (33, .if_icmp .eq 27), (36, .aload_n 0), (37, .getfield 7)]),
  (59, [(40, .iload_n 2), (41, .baload), (42, .bipush (-20)), (44, .if_icmp .lt 14), (47, .aload_n 0), (48, .getfield 7), (51, .iload_n 2), (52, .baload), (53, .bipush 20), (55, .if_icmp .le 5), (58, .iconst (-1)), (59, .ireturn)]),
  (79, [(60, .iinc 2 1), (63, .goto (-43)), (66, .iconst 0), (67, .istore_n 2), (68, .iload_n 2), (69, .iload_n 1), (70, .if_icmp .ge 37), (73, .aload_n 0), (74, .getfield 79), (77, .iload_n 2), (78, .aload_n 0), (79, .getfield 7)]),
  (101, [(82, .iload_n 2), (83, .baload), (84, .bipush (-128)), (86, .if_icmp .ne 8), (89, .bipush 100), (91, .goto 9), (94, .aload_n 0), (95, .getfield 7), (98, .iload_n 2), (99, .baload), (100, .iastore), (101, .iinc 2 1)]),
  (118, [(104, .goto (-36)), (107, .aload_n 0), (108, .iload_n 1), (109, .putfield 176), (112, .aload_n 0), (113, .iconst 0), (114, .putfield 209), (117, .iload_n 1), (118, .ireturn)])]
def mi_X8_rule : List (Nat × List (Nat × Instr)) := [(21, [(0, .aload_n 0), (1, .iconst 0), (2, .putfield 100), (5, .aload_n 0), (6, .invokevirtual 126), (9, .istore 6), (11, .iload_n 1), (12, .ifCond .lt 61), (15, .iload_n 1), (16, .bipush 6), (18, .if_icmp .ge 55), (21, .iload_n 2)]),
  (42, [(22, .iconst 1), (23, .if_icmp .lt 50), (26, .iload_n 2), (27, .iconst 4), (28, .if_icmp .gt 45), (31, .iload_n 3), (32, .ifCond .lt 41), (35, .iload_n 3), (36, .iconst 3), (37, .if_icmp .gt 36), (40, .iload 4), (42, .ifCond .lt 31)]),
  (67, [(45, .iload 4), (47, .iconst 3), (48, .if_icmp .gt 25), (51, .iload 5), (53, .iconst 1), (54, .if_icmp .lt 19), (57, .iload 5), (59, .bipush 20), (61, .if_icmp .gt 12), (64, .iload 6), (66, .iload_n 3), (67, .iload 4)]),
  (89, [(69, .iadd), (70, .if_icmp .eq 5), (73, .iconst 0), (74, .ireturn), (75, .iconst 0), (76, .istore 7), (78, .iload 7), (80, .iload 6), (82, .if_icmp .ge 35), (85, .aload_n 0), (86, .getfield 7), (89, .iload 7)]),
  (111, [(91, .baload), (92, .bipush (-8)), (94, .if_icmp .lt 15), (97, .aload_n 0), (98, .getfield 7), (101, .iload 7), (103, .baload), (104, .bipush 8), (106, .if_icmp .le 5), (109, .iconst 0), (110, .ireturn), (111, .iinc 7 1)]),
  (131, [(114, .goto (-36)), (117, .aload_n 0), (118, .getfield 13), (121, .iload_n 1), (122, .iconst 1), (123, .bastore), (124, .aload_n 0), (125, .getfield 17), (128, .iload_n 1), (129, .iload_n 2), (130, .iastore), (131, .aload_n 0)]),
  (150, [(132, .getfield 21), (135, .iload_n 1), (136, .iload_n 3), (137, .iastore), (138, .aload_n 0), (139, .getfield 24), (142, .iload_n 1), (143, .iload 4), (145, .iastore), (146, .aload_n 0), (147, .getfield 27), (150, .iload_n 1)]),
  (169, [(151, .iload 5), (153, .iastore), (154, .iconst 1), (155, .istore 7), (157, .iload 7), (159, .iconst 4), (160, .if_icmp .ge 72), (163, .aload_n 0), (164, .getfield 30), (167, .iconst 4), (168, .iload_n 1), (169, .imul)]),
  (188, [(170, .iload 7), (172, .iadd), (173, .iload 7), (175, .iload_n 3), (176, .if_icmp .gt 15), (179, .aload_n 0), (180, .getfield 7), (183, .iload 7), (185, .iconst 1), (186, .isub), (187, .baload), (188, .goto 4)]),
  (207, [(191, .iconst 0), (192, .iastore), (193, .aload_n 0), (194, .getfield 33), (197, .iconst 4), (198, .iload_n 1), (199, .imul), (200, .iload 7), (202, .iadd), (203, .iload 7), (205, .iload 4), (207, .if_icmp .gt 17)]),
  (226, [(210, .aload_n 0), (211, .getfield 7), (214, .iload_n 3), (215, .iload 7), (217, .iadd), (218, .iconst 1), (219, .isub), (220, .baload), (221, .goto 4), (224, .iconst 0), (225, .iastore), (226, .iinc 7 1)]),
  (233, [(229, .goto (-72)), (232, .iconst 1), (233, .ireturn)])]
def mi_X8_set : List (Nat × List (Nat × Instr)) := [(16, [(0, .lload_n 1), (1, .lload_n 3), (2, .invokestatic 111), (5, .lstore 5), (7, .aload_n 0), (8, .lload_n 3), (9, .lconst 0), (10, .lcmp), (11, .ifCond .ge 11), (14, .lload_n 1), (15, .lneg), (16, .lload 5)]),
  (36, [(18, .ldiv), (19, .goto 7), (22, .lload_n 1), (23, .lload 5), (25, .ldiv), (26, .putfield 115), (29, .aload_n 0), (30, .lload_n 3), (31, .lconst 0), (32, .lcmp), (33, .ifCond .ge 11), (36, .lload_n 3)]),
  (51, [(37, .lneg), (38, .lload 5), (40, .ldiv), (41, .goto 7), (44, .lload_n 3), (45, .lload 5), (47, .ldiv), (48, .putfield 119), (51, .return_)])]
def mi_X8_thin : List (Nat × List (Nat × Instr)) := [(19, [(0, .aload_n 0), (1, .iconst 0), (2, .putfield 100), (5, .aload_n 0), (6, .iload_n 2), (7, .invokevirtual 179), (10, .ifCond .ne 5), (13, .iconst 0), (14, .ireturn), (15, .aload_n 0), (16, .getfield 67), (19, .iload_n 2)]),
  (35, [(20, .iaload), (21, .iconst 1), (22, .iadd), (23, .iconst 2), (24, .idiv), (25, .istore_n 3), (26, .iconst 0), (27, .istore 4), (29, .iload 4), (31, .iload_n 3), (32, .if_icmp .ge 29), (35, .aload_n 0)]),
  (53, [(36, .getfield 70), (39, .iload 4), (41, .aload_n 0), (42, .getfield 64), (45, .iconst 5), (46, .iload_n 2), (47, .imul), (48, .iconst 2), (49, .iload 4), (51, .imul), (52, .iadd), (53, .iaload)]),
  (67, [(54, .iastore), (55, .iinc 4 1), (58, .goto (-29)), (61, .aload_n 0), (62, .iload_n 1), (63, .iload_n 3), (64, .invokevirtual 169), (67, .ireturn)])]
def mi_X0_solve : List (Nat × List (Nat × Instr)) := [(19, [(0, .aload_n 0), (1, .aload_n 0), (2, .iload_n 1), (3, .iconst (-1)), (4, .invokevirtual 30), (7, .putfield 26), (10, .aload_n 0), (11, .getfield 26), (14, .lconst 0), (15, .lcmp), (16, .ifCond .ne 10), (19, .aload_n 0)]),
  (37, [(20, .lconst 1), (21, .putfield 26), (24, .iconst 0), (25, .ireturn), (26, .iconst 0), (27, .istore_n 2), (28, .iload_n 2), (29, .iload_n 1), (30, .if_icmp .ge 21), (33, .aload_n 0), (34, .getfield 20), (37, .iload_n 2)]),
  (52, [(38, .aload_n 0), (39, .iload_n 1), (40, .iload_n 2), (41, .invokevirtual 30), (44, .lastore), (45, .iinc 2 1), (48, .goto (-20)), (51, .iconst 1), (52, .ireturn)])]
def mi_X1_set : List (Nat × List (Nat × Instr)) := [(18, [(0, .lload_n 1), (1, .lload_n 3), (2, .invokestatic 13), (5, .lstore 5), (7, .lload_n 3), (8, .lconst 0), (9, .lcmp), (10, .ifCond .ge 8), (13, .lload 5), (15, .lneg), (16, .lstore 5), (18, .aload_n 0)]),
  (34, [(19, .lload_n 1), (20, .lload 5), (22, .ldiv), (23, .putfield 17), (26, .aload_n 0), (27, .lload_n 3), (28, .lload 5), (30, .ldiv), (31, .putfield 7), (34, .return_)])]
def mi_X4_jointPulls : List (Nat × List (Nat × Instr)) := [(22, [(0, .lconst 0), (1, .lstore 4), (3, .aload_n 1), (4, .getfield 41), (7, .iload_n 2), (8, .invokestatic 22), (11, .istore 6), (13, .iload 6), (15, .aload_n 0), (16, .getfield 18), (19, .if_icmp .ge 43), (22, .iload 6)]),
  (43, [(24, .iload_n 2), (25, .aload_n 1), (26, .getfield 41), (29, .iadd), (30, .if_icmp .gt 32), (33, .lload 4), (35, .aload_n 1), (36, .iload 6), (38, .iload_n 2), (39, .isub), (40, .invokevirtual 47), (43, .aload_n 1)]),
  (64, [(44, .iload 6), (46, .iload_n 3), (47, .isub), (48, .invokevirtual 47), (51, .imul), (52, .i2l), (53, .ladd), (54, .lstore 4), (56, .iinc 6 1), (59, .goto (-46)), (62, .lload 4), (64, .lreturn)])]
def mi_X4_missAt : List (Nat × List (Nat × Instr)) := [(19, [(0, .lconst 0), (1, .lstore_n 3), (2, .iconst 0), (3, .istore 5), (5, .iload 5), (7, .aload_n 1), (8, .getfield 41), (11, .if_icmp .gt 44), (14, .aload_n 0), (15, .getfield 9), (18, .iload_n 2), (19, .iload 5)]),
  (40, [(21, .isub), (22, .iaload), (23, .istore 6), (25, .lload_n 3), (26, .iload 6), (28, .bipush 100), (30, .if_icmp .ne 7), (33, .lconst 0), (34, .goto 13), (37, .aload_n 1), (38, .iload 5), (40, .invokevirtual 47)]),
  (56, [(43, .iload 6), (45, .imul), (46, .i2l), (47, .ladd), (48, .lstore_n 3), (49, .iinc 5 1), (52, .goto (-47)), (55, .lload_n 3), (56, .lreturn)])]
def mi_X5_diesAway : List (Nat × List (Nat × Instr)) := [(15, [(0, .aload_n 0), (1, .getfield 25), (4, .iconst 0), (5, .aload_n 0), (6, .getfield 9), (9, .i2l), (10, .lastore), (11, .iconst 1), (12, .istore_n 1), (13, .iload_n 1), (14, .iconst 3), (15, .if_icmp .gt 23)]),
  (35, [(18, .aload_n 0), (19, .getfield 25), (22, .iload_n 1), (23, .aload_n 0), (24, .getfield 18), (27, .iload_n 1), (28, .iaload), (29, .ineg), (30, .i2l), (31, .lastore), (32, .iinc 1 1), (35, .goto (-22))]),
  (42, [(38, .aload_n 0), (39, .invokevirtual 39), (42, .ireturn)])]
def mi_X5_showsMisses : List (Nat × List (Nat × Instr)) := [(15, [(0, .aload_n 0), (1, .getfield 25), (4, .iconst 0), (5, .aload_n 0), (6, .getfield 9), (9, .i2l), (10, .lastore), (11, .iconst 1), (12, .istore_n 1), (13, .iload_n 1), (14, .iconst 3), (15, .if_icmp .gt 22)]),
  (37, [(18, .aload_n 0), (19, .getfield 25), (22, .iload_n 1), (23, .aload_n 0), (24, .getfield 22), (27, .iload_n 1), (28, .iaload), (29, .i2l), (30, .lastore), (31, .iinc 1 1), (34, .goto (-21)), (37, .aload_n 0)]),
  (41, [(38, .invokevirtual 39), (41, .ireturn)])]
def mi_X7_put : List (Nat × List (Nat × Instr)) := [(22, [(0, .iload_n 1), (1, .iconst 0), (2, .bipush 59), (4, .invokestatic 94), (7, .ifCond .eq 14), (10, .iload_n 1), (11, .aload_n 0), (12, .getfield 33), (15, .getfield 233), (18, .if_icmp .le 5), (21, .iconst 0), (22, .ireturn)]),
  (43, [(23, .iload_n 2), (24, .bipush 100), (26, .if_icmp .eq 16), (29, .iload_n 2), (30, .bipush (-20)), (32, .bipush 20), (34, .invokestatic 94), (37, .ifCond .ne 5), (40, .iconst 0), (41, .ireturn), (42, .aload_n 0), (43, .getfield 33)]),
  (57, [(46, .iload_n 1), (47, .iload_n 2), (48, .invokevirtual 237), (51, .aload_n 0), (52, .iconst 0), (53, .putfield 230), (56, .iconst 1), (57, .ireturn)])]
def mi_X7_row : List (Nat × List (Nat × Instr)) := [(22, [(0, .aload_n 0), (1, .getfield 10), (4, .getfield 82), (7, .istore_n 1), (8, .aload_n 0), (9, .getfield 10), (12, .iconst 0), (13, .putfield 82), (16, .iload_n 1), (17, .bipush 60), (19, .if_icmp .gt 14), (22, .aload_n 0)]),
  (46, [(23, .getfield 10), (26, .iload_n 1), (27, .invokevirtual 224), (30, .ifCond .ne 5), (33, .iconst (-1)), (34, .ireturn), (35, .aload_n 0), (36, .getfield 33), (39, .aload_n 0), (40, .getfield 10), (43, .getfield 102), (46, .iload_n 1)]),
  (56, [(47, .invokevirtual 227), (50, .aload_n 0), (51, .iconst 0), (52, .putfield 230), (55, .iload_n 1), (56, .ireturn)])]
def mi_X7_rule : List (Nat × List (Nat × Instr)) := [(24, [(0, .aload_n 0), (1, .getfield 10), (4, .getfield 82), (7, .istore 6), (9, .aload_n 0), (10, .getfield 10), (13, .iconst 0), (14, .putfield 82), (17, .iload_n 1), (18, .invokestatic 90), (21, .ifCond .eq 23), (24, .iload_n 2)]),
  (46, [(25, .iconst 1), (26, .iconst 4), (27, .invokestatic 94), (30, .ifCond .eq 14), (33, .iload 5), (35, .iconst 1), (36, .bipush 20), (38, .invokestatic 94), (41, .ifCond .ne 5), (44, .iconst 0), (45, .ireturn), (46, .iload_n 3)]),
  (68, [(47, .iconst 0), (48, .iconst 3), (49, .invokestatic 94), (52, .ifCond .eq 22), (55, .iload 4), (57, .iconst 0), (58, .iconst 3), (59, .invokestatic 94), (62, .ifCond .eq 12), (65, .iload 6), (67, .iload_n 3), (68, .iload 4)]),
  (91, [(70, .iadd), (71, .if_icmp .eq 5), (74, .iconst 0), (75, .ireturn), (76, .aload_n 0), (77, .getfield 10), (80, .iload 6), (82, .bipush 8), (84, .invokevirtual 98), (87, .ifCond .ne 5), (90, .iconst 0), (91, .ireturn)]),
  (111, [(92, .aload_n 0), (93, .getfield 18), (96, .iload_n 1), (97, .aaload), (98, .aload_n 0), (99, .getfield 10), (102, .getfield 102), (105, .iload_n 2), (106, .iload_n 3), (107, .iload 4), (109, .iload 5), (111, .invokevirtual 106)]),
  (115, [(114, .iconst 1), (115, .ireturn)])]
def mi_X7_takeDrawn : List (Nat × List (Nat × Instr)) := [(19, [(0, .aload_n 0), (1, .getfield 61), (4, .iload_n 2), (5, .invokestatic 302), (8, .ifCond .ne 5), (11, .iconst 0), (12, .ireturn), (13, .aload_n 0), (14, .getfield 24), (17, .iload_n 1), (18, .aaload), (19, .aload_n 0)]),
  (28, [(20, .getfield 61), (23, .iload_n 2), (24, .invokevirtual 306), (27, .iconst 1), (28, .ireturn)])]
def mi_X7_toldLikenesses : List (Nat × List (Nat × Instr)) := [(21, [(0, .iload_n 1), (1, .invokestatic 90), (4, .ifCond .eq 15), (7, .aload_n 0), (8, .getfield 24), (11, .iload_n 1), (12, .aaload), (13, .getfield 185), (16, .ifCond .ne 5), (19, .aconst_null), (20, .areturn), (21, .aload_n 0)]),
  (27, [(22, .getfield 24), (25, .iload_n 1), (26, .aaload), (27, .areturn)])]
def mi_X7_toldRule : List (Nat × List (Nat × Instr)) := [(21, [(0, .iload_n 1), (1, .invokestatic 90), (4, .ifCond .eq 15), (7, .aload_n 0), (8, .getfield 18), (11, .iload_n 1), (12, .aaload), (13, .getfield 297), (16, .ifCond .ne 5), (19, .aconst_null), (20, .areturn), (21, .aload_n 0)]),
  (27, [(22, .getfield 18), (25, .iload_n 1), (26, .aaload), (27, .areturn)])]
def mi_X8_amiss : List (Nat × List (Nat × Instr)) := [(21, [(0, .aload_n 0), (1, .iconst 0), (2, .putfield 100), (5, .aload_n 0), (6, .iload_n 1), (7, .invokevirtual 213), (10, .ifCond .eq 23), (13, .aload_n 0), (14, .invokevirtual 173), (17, .ifCond .gt 16), (20, .aload_n 0), (21, .getfield 176)]),
  (39, [(24, .aload_n 0), (25, .getfield 21), (28, .iload_n 1), (29, .iaload), (30, .if_icmp .gt 5), (33, .iconst (-1)), (34, .ireturn), (35, .iconst 0), (36, .istore_n 2), (37, .lconst 0), (38, .lstore_n 3), (39, .lconst 1)]),
  (60, [(40, .lstore 5), (42, .iconst 0), (43, .istore 7), (45, .iload 7), (47, .aload_n 0), (48, .getfield 176), (51, .if_icmp .ge 155), (54, .lconst 0), (55, .lstore 8), (57, .lconst 0), (58, .lstore 10), (60, .aload_n 0)]),
  (81, [(61, .getfield 21), (64, .iload_n 1), (65, .iaload), (66, .istore 12), (68, .iload 12), (70, .aload_n 0), (71, .getfield 176), (74, .if_icmp .ge 55), (77, .lload 8), (79, .aload_n 0), (80, .iload_n 1), (81, .iload 12)]),
  (102, [(83, .iload 7), (85, .invokevirtual 219), (88, .aload_n 0), (89, .iload_n 1), (90, .iload 12), (92, .invokevirtual 223), (95, .lmul), (96, .ladd), (97, .lstore 8), (99, .lload 10), (101, .aload_n 0), (102, .iload_n 1)]),
  (123, [(103, .iload 12), (105, .iload 7), (107, .invokevirtual 219), (110, .aload_n 0), (111, .iload_n 1), (112, .iload 12), (114, .iload 7), (116, .invokevirtual 219), (119, .lmul), (120, .ladd), (121, .lstore 10), (123, .iinc 12 1)]),
  (147, [(126, .goto (-58)), (129, .lload 10), (131, .lconst 0), (132, .lcmp), (133, .ifCond .ne 6), (136, .goto 64), (139, .aload_n 0), (140, .lload 8), (142, .lload 8), (144, .lmul), (145, .lload 10), (147, .aload_n 0)]),
  (163, [(148, .getfield 17), (151, .iload_n 1), (152, .iaload), (153, .i2l), (154, .lmul), (155, .aload_n 0), (156, .getfield 17), (159, .iload_n 1), (160, .iaload), (161, .i2l), (162, .lmul), (163, .invokevirtual 122)]),
  (186, [(166, .aload_n 0), (167, .getfield 115), (170, .lload 5), (172, .lmul), (173, .lload_n 3), (174, .aload_n 0), (175, .getfield 119), (178, .lmul), (179, .lcmp), (180, .ifCond .gt 6), (183, .goto 17), (186, .iload 7)]),
  (208, [(188, .istore_n 2), (189, .aload_n 0), (190, .getfield 115), (193, .lstore_n 3), (194, .aload_n 0), (195, .getfield 119), (198, .lstore 5), (200, .iinc 7 1), (203, .goto (-158)), (206, .aload_n 0), (207, .iconst 1), (208, .putfield 232)]),
  (223, [(211, .aload_n 0), (212, .lload_n 3), (213, .putfield 235), (216, .aload_n 0), (217, .lload 5), (219, .putfield 238), (222, .iload_n 2), (223, .ireturn)])]
def mi_X8_clear : List (Nat × List (Nat × Instr)) := [(19, [(0, .aload_n 0), (1, .iconst 0), (2, .putfield 100), (5, .aload_n 0), (6, .iload_n 1), (7, .invokevirtual 134), (10, .ifCond .ne 5), (13, .iconst (-1)), (14, .ireturn), (15, .aload_n 0), (16, .getfield 36), (19, .iconst 0)]),
  (35, [(20, .aload_n 0), (21, .getfield 17), (24, .iload_n 1), (25, .iaload), (26, .i2l), (27, .lastore), (28, .iconst 1), (29, .istore_n 2), (30, .iload_n 2), (31, .iconst 4), (32, .if_icmp .ge 26), (35, .aload_n 0)]),
  (51, [(36, .getfield 36), (39, .iload_n 2), (40, .aload_n 0), (41, .getfield 33), (44, .iconst 4), (45, .iload_n 1), (46, .imul), (47, .iload_n 2), (48, .iadd), (49, .iaload), (50, .i2l), (51, .lastore)]),
  (70, [(52, .iinc 2 1), (55, .goto (-25)), (58, .aload_n 0), (59, .invokevirtual 130), (62, .ifCond .eq 7), (65, .iconst 1), (66, .goto 4), (69, .iconst 0), (70, .ireturn)])]
def mi_X8_fill : List (Nat × List (Nat × Instr)) := [(17, [(0, .aload_n 0), (1, .iconst 0), (2, .putfield 100), (5, .aload_n 0), (6, .iload_n 1), (7, .invokevirtual 213), (10, .ifCond .ne 5), (13, .iconst (-1)), (14, .ireturn), (15, .iconst 0), (16, .istore_n 2), (17, .iconst 0)]),
  (38, [(18, .istore_n 3), (19, .iload_n 3), (20, .aload_n 0), (21, .getfield 176), (24, .if_icmp .ge 33), (27, .aload_n 0), (28, .getfield 79), (31, .iload_n 3), (32, .iaload), (33, .bipush 100), (35, .if_icmp .eq 6), (38, .goto 13)]),
  (62, [(41, .aload_n 0), (42, .getfield 88), (45, .iload_n 2), (46, .iload_n 3), (47, .iastore), (48, .iinc 2 1), (51, .iinc 3 1), (54, .goto (-35)), (57, .iload_n 2), (58, .iconst 1), (59, .if_icmp .lt 8), (62, .iload_n 2)]),
  (79, [(63, .iconst 3), (64, .if_icmp .le 5), (67, .iconst 0), (68, .ireturn), (69, .iconst 0), (70, .istore_n 3), (71, .iload_n 3), (72, .iload_n 2), (73, .if_icmp .ge 113), (76, .iconst 0), (77, .istore 4), (79, .iload 4)]),
  (99, [(81, .iload_n 2), (82, .if_icmp .gt 98), (85, .lconst 0), (86, .lstore 5), (88, .aload_n 0), (89, .getfield 21), (92, .iload_n 1), (93, .iaload), (94, .istore 7), (96, .iload 7), (98, .aload_n 0), (99, .getfield 176)]),
  (122, [(102, .if_icmp .ge 59), (105, .lload 5), (107, .aload_n 0), (108, .iload_n 1), (109, .iload 7), (111, .aload_n 0), (112, .getfield 88), (115, .iload_n 3), (116, .iaload), (117, .invokevirtual 219), (120, .iload 4), (122, .iload_n 2)]),
  (144, [(123, .if_icmp .ge 20), (126, .aload_n 0), (127, .iload_n 1), (128, .iload 7), (130, .aload_n 0), (131, .getfield 88), (134, .iload 4), (136, .iaload), (137, .invokevirtual 219), (140, .goto 11), (143, .aload_n 0), (144, .iload_n 1)]),
  (166, [(145, .iload 7), (147, .invokevirtual 223), (150, .lneg), (151, .lmul), (152, .ladd), (153, .lstore 5), (155, .iinc 7 1), (158, .goto (-62)), (161, .aload_n 0), (162, .getfield 97), (165, .iconst 4), (166, .iload_n 3)]),
  (188, [(167, .imul), (168, .iload 4), (170, .iadd), (171, .lload 5), (173, .lastore), (174, .iinc 4 1), (177, .goto (-98)), (180, .iinc 3 1), (183, .goto (-112)), (186, .aload_n 0), (187, .iload_n 2), (188, .iconst (-1))]),
  (206, [(189, .invokevirtual 226), (192, .lstore_n 3), (193, .lload_n 3), (194, .lconst 0), (195, .lcmp), (196, .ifCond .ne 5), (199, .iconst 0), (200, .ireturn), (201, .iconst 0), (202, .istore 5), (204, .iload 5), (206, .iload_n 2)]),
  (228, [(207, .if_icmp .ge 43), (210, .aload_n 0), (211, .aload_n 0), (212, .iload_n 2), (213, .iload 5), (215, .invokevirtual 226), (218, .lload_n 3), (219, .invokevirtual 122), (222, .aload_n 0), (223, .getfield 91), (226, .iload 5), (228, .aload_n 0)]),
  (251, [(229, .getfield 115), (232, .lastore), (233, .aload_n 0), (234, .getfield 94), (237, .iload 5), (239, .aload_n 0), (240, .getfield 119), (243, .lastore), (244, .iinc 5 1), (247, .goto (-43)), (250, .aload_n 0), (251, .iconst 1)]),
  (261, [(252, .putfield 209), (255, .aload_n 0), (256, .iload_n 2), (257, .putfield 229), (260, .iload_n 2), (261, .ireturn)])]
def mi_X8_isSteady : List (Nat × List (Nat × Instr)) := [(15, [(0, .aload_n 0), (1, .getfield 36), (4, .iconst 0), (5, .aload_n 0), (6, .getfield 17), (9, .iload_n 1), (10, .iaload), (11, .i2l), (12, .lastore), (13, .iconst 1), (14, .istore_n 2), (15, .iload_n 2)]),
  (33, [(16, .iconst 4), (17, .if_icmp .ge 27), (20, .aload_n 0), (21, .getfield 36), (24, .iload_n 2), (25, .aload_n 0), (26, .getfield 30), (29, .iconst 4), (30, .iload_n 1), (31, .imul), (32, .iload_n 2), (33, .iadd)]),
  (48, [(34, .iaload), (35, .ineg), (36, .i2l), (37, .lastore), (38, .iinc 2 1), (41, .goto (-26)), (44, .aload_n 0), (45, .invokevirtual 130), (48, .ireturn)])]
def mi_X8_leftOf : List (Nat × List (Nat × Instr)) := [(13, [(0, .aload_n 0), (1, .iload_n 1), (2, .iload_n 2), (3, .iconst 1), (4, .iadd), (5, .invokevirtual 188), (8, .lstore_n 3), (9, .aload_n 0), (10, .lload_n 3), (11, .aload_n 0), (12, .iload_n 1), (13, .iload_n 2)]),
  (20, [(14, .invokevirtual 188), (17, .invokevirtual 122), (20, .return_)])]
def mi_X8_plus : List (Nat × List (Nat × Instr)) := [(19, [(0, .aload_n 0), (1, .getfield 119), (4, .lload_n 3), (5, .invokestatic 111), (8, .lstore 5), (10, .aload_n 0), (11, .aload_n 0), (12, .getfield 115), (15, .lload_n 3), (16, .lload 5), (18, .ldiv), (19, .lmul)]),
  (37, [(20, .lload_n 1), (21, .aload_n 0), (22, .getfield 119), (25, .lload 5), (27, .ldiv), (28, .lmul), (29, .ladd), (30, .aload_n 0), (31, .getfield 119), (34, .lload 5), (36, .ldiv), (37, .lload_n 3)]),
  (42, [(38, .lmul), (39, .invokevirtual 122), (42, .return_)])]
def mi_X8_shareOf : List (Nat × List (Nat × Instr)) := [(19, [(0, .aload_n 0), (1, .iload_n 1), (2, .iload_n 2), (3, .invokevirtual 182), (6, .iconst 0), (7, .istore 4), (9, .iload 4), (11, .iload_n 2), (12, .if_icmp .ge 36), (15, .aload_n 0), (16, .getfield 73), (19, .iconst 5)]),
  (34, [(20, .iload 4), (22, .imul), (23, .iload_n 3), (24, .iadd), (25, .iconst 1), (26, .isub), (27, .aload_n 0), (28, .getfield 64), (31, .iconst 5), (32, .iload_n 1), (33, .imul), (34, .iload 4)]),
  (53, [(36, .iadd), (37, .iconst 1), (38, .iadd), (39, .iaload), (40, .i2l), (41, .lastore), (42, .iinc 4 1), (45, .goto (-36)), (48, .aload_n 0), (49, .iload_n 2), (50, .invokevirtual 185), (53, .lstore 4)]),
  (67, [(55, .aload_n 0), (56, .lload 4), (58, .aload_n 0), (59, .iload_n 1), (60, .iload_n 2), (61, .invokevirtual 188), (64, .invokevirtual 122), (67, .return_)])]
def mi_X8_squares : List (Nat × List (Nat × Instr)) := [(19, [(0, .aload_n 0), (1, .aload_n 0), (2, .iload_n 1), (3, .invokevirtual 213), (6, .ifCond .eq 12), (9, .iload_n 2), (10, .ifCond .lt 8), (13, .iload_n 2), (14, .iconst 1), (15, .if_icmp .le 7), (18, .iconst 1), (19, .goto 4)]),
  (39, [(22, .iconst 0), (23, .invokevirtual 147), (26, .ifCond .eq 5), (29, .lconst 0), (30, .lreturn), (31, .lconst 0), (32, .lstore_n 3), (33, .iconst 0), (34, .istore 5), (36, .iload 5), (38, .aload_n 0), (39, .getfield 176)]),
  (63, [(42, .if_icmp .ge 41), (45, .lload_n 3), (46, .aload_n 0), (47, .iload_n 1), (48, .iload 5), (50, .invokevirtual 216), (53, .ifCond .eq 21), (56, .aload_n 0), (57, .iload_n 1), (58, .iload 5), (60, .invokevirtual 223), (63, .aload_n 0)]),
  (84, [(64, .iload_n 1), (65, .iload 5), (67, .invokevirtual 223), (70, .lmul), (71, .goto 4), (74, .lconst 0), (75, .ladd), (76, .lstore_n 3), (77, .iinc 5 1), (80, .goto (-44)), (83, .aload_n 0), (84, .lload_n 3)]),
  (100, [(85, .aload_n 0), (86, .getfield 17), (89, .iload_n 1), (90, .iaload), (91, .i2l), (92, .aload_n 0), (93, .getfield 17), (96, .iload_n 1), (97, .iaload), (98, .i2l), (99, .lmul), (100, .invokevirtual 122)]),
  (108, [(103, .aload_n 0), (104, .iload_n 2), (105, .invokevirtual 155), (108, .lreturn)])]
def mi_X8_stepsOf : List (Nat × List (Nat × Instr)) := [(15, [(0, .iconst 0), (1, .istore_n 2), (2, .iload_n 2), (3, .iconst 1), (4, .iadd), (5, .aload_n 0), (6, .getfield 67), (9, .iload_n 1), (10, .iaload), (11, .if_icmp .ge 22), (14, .aload_n 0), (15, .iload_n 1)]),
  (34, [(16, .iload_n 2), (17, .iconst 1), (18, .iadd), (19, .invokevirtual 188), (22, .lconst 0), (23, .lcmp), (24, .ifCond .le 9), (27, .iinc 2 1), (30, .goto (-28)), (33, .iload_n 2), (34, .ireturn)])]
def mi_X8_times : List (Nat × List (Nat × Instr)) := [(22, [(0, .aload_n 0), (1, .getfield 115), (4, .lload_n 3), (5, .invokestatic 111), (8, .lstore 5), (10, .lload_n 1), (11, .aload_n 0), (12, .getfield 119), (15, .invokestatic 111), (18, .lstore 7), (20, .lload 5), (22, .lconst 0)]),
  (41, [(23, .lcmp), (24, .ifCond .ne 6), (27, .lconst 1), (28, .lstore 5), (30, .lload 7), (32, .lconst 0), (33, .lcmp), (34, .ifCond .ne 6), (37, .lconst 1), (38, .lstore 7), (40, .aload_n 0), (41, .aload_n 0)]),
  (60, [(42, .getfield 115), (45, .lload 5), (47, .ldiv), (48, .lload_n 1), (49, .lload 7), (51, .ldiv), (52, .lmul), (53, .aload_n 0), (54, .getfield 119), (57, .lload 7), (59, .ldiv), (60, .lload_n 3)]),
  (68, [(61, .lload 5), (63, .ldiv), (64, .lmul), (65, .invokevirtual 122), (68, .return_)])]
def mi_X8_whole : List (Nat × List (Nat × Instr)) := [(17, [(0, .aload_n 0), (1, .iconst 0), (2, .putfield 100), (5, .aload_n 0), (6, .iload_n 1), (7, .invokevirtual 213), (10, .ifCond .ne 5), (13, .iconst (-1)), (14, .ireturn), (15, .iconst 0), (16, .istore_n 2), (17, .iconst 0)]),
  (37, [(18, .istore_n 3), (19, .iload_n 3), (20, .aload_n 0), (21, .getfield 176), (24, .if_icmp .ge 26), (27, .iload_n 2), (28, .aload_n 0), (29, .iload_n 1), (30, .iload_n 3), (31, .invokevirtual 216), (34, .ifCond .eq 7), (37, .iconst 1)]),
  (51, [(38, .goto 4), (41, .iconst 0), (42, .iadd), (43, .istore_n 2), (44, .iinc 3 1), (47, .goto (-28)), (50, .iload_n 2), (51, .ireturn)])]
def mi_X2_find : List (Nat × List (Nat × Instr)) := [(19, [(0, .aload_n 1), (1, .iconst 0), (2, .aload_n 3), (3, .invokevirtual 19), (6, .aload_n 2), (7, .invokevirtual 25), (10, .iconst 0), (11, .istore 4), (13, .iload 4), (15, .aload_n 1), (16, .getfield 30), (19, .if_icmp .gt 38)]),
  (41, [(22, .aload_n 2), (23, .getfield 34), (26, .iload 4), (28, .aaload), (29, .iload 4), (31, .aload_n 1), (32, .getfield 38), (35, .i2l), (36, .lastore), (37, .aload_n 2), (38, .getfield 41), (41, .iload 4)]),
  (63, [(43, .aload_n 1), (44, .iload 4), (46, .aload_n 3), (47, .invokestatic 44), (50, .lastore), (51, .iinc 4 1), (54, .goto (-41)), (57, .iconst 0), (58, .istore 4), (60, .iload 4), (62, .aload_n 1), (63, .getfield 30)]),
  (88, [(66, .if_icmp .gt 54), (69, .iconst 1), (70, .istore 5), (72, .iload 5), (74, .aload_n 1), (75, .getfield 30), (78, .if_icmp .gt 36), (81, .aload_n 2), (82, .getfield 34), (85, .iload 4), (87, .aaload), (88, .iload 4)]),
  (107, [(90, .iload 5), (92, .isub), (93, .invokestatic 48), (96, .dup2), (97, .laload), (98, .aload_n 1), (99, .getfield 54), (102, .iload 5), (104, .iaload), (105, .i2l), (106, .lsub), (107, .lastore)]),
  (131, [(108, .iinc 5 1), (111, .goto (-39)), (114, .iinc 4 1), (117, .goto (-57)), (120, .aload_n 2), (121, .aload_n 1), (122, .getfield 30), (125, .iconst 1), (126, .iadd), (127, .invokevirtual 58), (130, .pop), (131, .aload_n 1)]),
  (153, [(132, .getfield 38), (135, .i2l), (136, .bipush 8), (138, .invokestatic 62), (141, .lstore 4), (143, .aload_n 0), (144, .aload_n 2), (145, .getfield 66), (148, .aload_n 1), (149, .getfield 38), (152, .i2l), (153, .iconst 3)]),
  (176, [(154, .invokestatic 62), (157, .lmul), (158, .lload 4), (160, .lmul), (161, .putfield 15), (164, .iconst 0), (165, .istore 6), (167, .iload 6), (169, .aload_n 1), (170, .getfield 30), (173, .if_icmp .gt 26), (176, .aload_n 0)]),
  (199, [(177, .getfield 9), (180, .iload 6), (182, .aload_n 2), (183, .getfield 67), (186, .iload 6), (188, .laload), (189, .lload 4), (191, .lmul), (192, .lastore), (193, .iinc 6 1), (196, .goto (-29)), (199, .aload_n 1)]),
  (221, [(200, .getfield 30), (203, .iconst 1), (204, .iadd), (205, .istore 6), (207, .iload 6), (209, .bipush 8), (211, .if_icmp .gt 94), (214, .aload_n 1), (215, .iload 6), (217, .aload_n 3), (218, .invokestatic 44), (221, .aload_n 2)]),
  (243, [(222, .getfield 66), (225, .lmul), (226, .lload 4), (228, .lmul), (229, .lstore 7), (231, .iconst 1), (232, .istore 9), (234, .iload 9), (236, .aload_n 1), (237, .getfield 30), (240, .if_icmp .gt 33), (243, .lload 7)]),
  (263, [(245, .aload_n 1), (246, .getfield 54), (249, .iload 9), (251, .iaload), (252, .i2l), (253, .aload_n 0), (254, .getfield 9), (257, .iload 6), (259, .iload 9), (261, .isub), (262, .laload), (263, .lmul)]),
  (287, [(264, .ladd), (265, .lstore 7), (267, .iinc 9 1), (270, .goto (-36)), (273, .aload_n 0), (274, .getfield 9), (277, .iload 6), (279, .aload_n 1), (280, .getfield 38), (283, .ifCond .ne 7), (286, .lconst 0), (287, .goto 11)]),
  (305, [(290, .lload 7), (292, .aload_n 1), (293, .getfield 38), (296, .i2l), (297, .ldiv), (298, .lastore), (299, .iinc 6 1), (302, .goto (-95)), (305, .return_)])]
def mi_X3_solveStep : List (Nat × List (Nat × Instr)) := [(17, [(0, .iconst 0), (1, .istore_n 3), (2, .iload_n 3), (3, .iload_n 1), (4, .if_icmp .ge 61), (7, .aload_n 2), (8, .getfield 19), (11, .iload_n 3), (12, .aload_n 0), (13, .getfield 9), (16, .iload_n 3), (17, .iconst 1)]),
  (35, [(18, .iadd), (19, .iaload), (20, .i2l), (21, .lastore), (22, .iconst 0), (23, .istore 4), (25, .iload 4), (27, .iload_n 1), (28, .if_icmp .ge 31), (31, .aload_n 2), (32, .getfield 25), (35, .iload_n 3)]),
  (53, [(36, .aaload), (37, .iload 4), (39, .aload_n 0), (40, .getfield 9), (43, .iload_n 3), (44, .iload 4), (46, .isub), (47, .invokestatic 29), (50, .iaload), (51, .i2l), (52, .lastore), (53, .iinc 4 1)]),
  (71, [(56, .goto (-31)), (59, .iinc 3 1), (62, .goto (-60)), (65, .aload_n 2), (66, .iload_n 1), (67, .invokevirtual 35), (70, .pop), (71, .return_)])]
def mi_X4_pulledMisses : List (Nat × List (Nat × Instr)) := [(21, [(0, .lconst 0), (1, .lstore_n 3), (2, .aload_n 1), (3, .getfield 41), (6, .iload_n 2), (7, .invokestatic 22), (10, .istore 5), (12, .iload 5), (14, .aload_n 0), (15, .getfield 18), (18, .if_icmp .ge 40), (21, .iload 5)]),
  (41, [(23, .iload_n 2), (24, .aload_n 1), (25, .getfield 41), (28, .iadd), (29, .if_icmp .gt 29), (32, .lload_n 3), (33, .aload_n 1), (34, .iload 5), (36, .iload_n 2), (37, .isub), (38, .invokevirtual 47), (41, .i2l)]),
  (59, [(42, .aload_n 0), (43, .aload_n 1), (44, .iload 5), (46, .invokevirtual 51), (49, .lmul), (50, .ladd), (51, .lstore_n 3), (52, .iinc 5 1), (55, .goto (-43)), (58, .lload_n 3), (59, .lreturn)])]
def mi_X4_squaredPulls : List (Nat × List (Nat × Instr)) := [(7, [(0, .aload_n 0), (1, .aload_n 1), (2, .iload_n 2), (3, .iload_n 2), (4, .invokevirtual 72), (7, .lreturn)])]
def mi_X4_squaresTop : List (Nat × List (Nat × Instr)) := [(20, [(0, .lconst 0), (1, .lstore_n 2), (2, .aload_n 1), (3, .getfield 41), (6, .istore 4), (8, .iload 4), (10, .aload_n 0), (11, .getfield 18), (14, .if_icmp .ge 44), (17, .aload_n 0), (18, .iload 4), (20, .aload_n 1)]),
  (42, [(21, .getfield 41), (24, .isub), (25, .iload 4), (27, .iconst 1), (28, .iadd), (29, .invokevirtual 28), (32, .ifCond .eq 20), (35, .aload_n 0), (36, .aload_n 1), (37, .iload 4), (39, .invokevirtual 51), (42, .lstore 5)]),
  (59, [(44, .lload_n 2), (45, .lload 5), (47, .lload 5), (49, .lmul), (50, .ladd), (51, .lstore_n 2), (52, .iinc 4 1), (55, .goto (-47)), (58, .lload_n 2), (59, .lreturn)])]
def mi_X7_clear : List (Nat × List (Nat × Instr)) := [(19, [(0, .aload_n 0), (1, .iload_n 1), (2, .invokevirtual 110), (5, .astore_n 2), (6, .aload_n 2), (7, .ifnonnull 5), (10, .iconst (-1)), (11, .ireturn), (12, .aload_n 2), (13, .invokevirtual 118), (16, .ifCond .eq 7), (19, .iconst 1)]),
  (24, [(20, .goto 4), (23, .iconst 0), (24, .ireturn)])]
def mi_X7_counted : List (Nat × List (Nat × Instr)) := [(23, [(0, .iload_n 1), (1, .invokestatic 90), (4, .ifCond .eq 22), (7, .iload_n 2), (8, .iconst 0), (9, .iconst 4), (10, .invokestatic 94), (13, .ifCond .eq 13), (16, .aload_n 0), (17, .getfield 33), (20, .invokevirtual 174), (23, .ifCond .le 5)]),
  (41, [(26, .iconst 0), (27, .ireturn), (28, .iconst 0), (29, .istore_n 3), (30, .iload_n 3), (31, .iload_n 2), (32, .if_icmp .gt 23), (35, .aload_n 0), (36, .getfield 61), (39, .iload_n 3), (40, .aload_n 0), (41, .getfield 33)]),
  (63, [(44, .iload_n 3), (45, .invokevirtual 178), (48, .iastore), (49, .iinc 3 1), (52, .goto (-22)), (55, .aload_n 0), (56, .iload_n 1), (57, .iload_n 2), (58, .iconst 1), (59, .iadd), (60, .invokevirtual 171), (63, .ireturn)])]
def mi_X7_even : List (Nat × List (Nat × Instr)) := [(19, [(0, .aload_n 0), (1, .iload_n 1), (2, .invokevirtual 181), (5, .astore_n 2), (6, .aload_n 2), (7, .ifnull 11), (10, .aload_n 2), (11, .getfield 185), (14, .iconst 3), (15, .if_icmp .le 5), (18, .iconst (-1)), (19, .ireturn)]),
  (32, [(20, .aload_n 2), (21, .invokevirtual 221), (24, .ifCond .eq 7), (27, .iconst 1), (28, .goto 4), (31, .iconst 0), (32, .ireturn)])]
def mi_X7_given : List (Nat × List (Nat × Instr)) := [(23, [(0, .aload_n 0), (1, .getfield 10), (4, .getfield 82), (7, .istore_n 2), (8, .aload_n 0), (9, .getfield 10), (12, .iconst 0), (13, .putfield 82), (16, .iload_n 1), (17, .invokestatic 90), (20, .ifCond .eq 16), (23, .iload_n 2)]),
  (39, [(24, .iconst 2), (25, .irem), (26, .ifCond .ne 10), (29, .iload_n 2), (30, .iconst 2), (31, .idiv), (32, .iconst 5), (33, .if_icmp .le 5), (36, .iconst 0), (37, .ireturn), (38, .iload_n 2), (39, .iconst 2)]),
  (58, [(40, .idiv), (41, .istore_n 3), (42, .iconst 0), (43, .istore 4), (45, .iload 4), (47, .iload_n 3), (48, .if_icmp .ge 25), (51, .aload_n 0), (52, .getfield 61), (55, .iload 4), (57, .aload_n 0), (58, .getfield 10)]),
  (79, [(61, .iload 4), (63, .invokevirtual 167), (66, .iastore), (67, .iinc 4 1), (70, .goto (-25)), (73, .aload_n 0), (74, .iload_n 1), (75, .iload_n 3), (76, .invokevirtual 171), (79, .ireturn)])]
def mi_X7_joined : List (Nat × List (Nat × Instr)) := [(21, [(0, .aload_n 0), (1, .iload_n 2), (2, .invokevirtual 181), (5, .astore 4), (7, .aload_n 0), (8, .iload_n 3), (9, .invokevirtual 181), (12, .astore 5), (14, .iload_n 1), (15, .invokestatic 90), (18, .ifCond .eq 13), (21, .aload 4)]),
  (48, [(23, .ifnull 8), (26, .aload 5), (28, .ifnonnull 5), (31, .iconst 0), (32, .ireturn), (33, .aload 4), (35, .getfield 185), (38, .aload 5), (40, .getfield 185), (43, .invokestatic 188), (46, .istore 6), (48, .iconst 0)]),
  (72, [(49, .istore 7), (51, .iload 7), (53, .iload 6), (55, .if_icmp .ge 33), (58, .aload_n 0), (59, .getfield 61), (62, .iload 7), (64, .aload 4), (66, .getfield 194), (69, .iload 7), (71, .iaload), (72, .aload 5)]),
  (95, [(74, .getfield 194), (77, .iload 7), (79, .iaload), (80, .iadd), (81, .iastore), (82, .iinc 7 1), (85, .goto (-34)), (88, .aload_n 0), (89, .iload_n 1), (90, .iload 6), (92, .invokevirtual 171), (95, .ireturn)])]
def mi_X7_likeness : List (Nat × List (Nat × Instr)) := [(19, [(0, .aload_n 0), (1, .iload_n 1), (2, .invokevirtual 181), (5, .astore_n 3), (6, .aload_n 3), (7, .ifnull 15), (10, .iload_n 2), (11, .ifCond .lt 11), (14, .iload_n 2), (15, .aload_n 3), (16, .getfield 185), (19, .if_icmp .lt 13)]),
  (38, [(22, .new 124), (32, .aload_n 3), (33, .getfield 194), (36, .iload_n 2), (37, .iaload), (38, .ireturn)])]
def mi_X7_plainRule : List (Nat × List (Nat × Instr)) := [(19, [(0, .aload_n 0), (1, .iload_n 1), (2, .invokevirtual 110), (5, .astore_n 2), (6, .aload_n 2), (7, .ifnull 10), (10, .aload_n 2), (11, .getfield 299), (14, .ifCond .le 5), (17, .aconst_null), (18, .areturn), (19, .aload_n 2)]),
  (20, [(20, .areturn)])]
def mi_X7_steady : List (Nat × List (Nat × Instr)) := [(19, [(0, .aload_n 0), (1, .iload_n 1), (2, .invokevirtual 110), (5, .astore_n 2), (6, .aload_n 2), (7, .ifnonnull 5), (10, .iconst (-1)), (11, .ireturn), (12, .aload_n 2), (13, .invokevirtual 114), (16, .ifCond .eq 7), (19, .iconst 1)]),
  (24, [(20, .goto 4), (23, .iconst 0), (24, .ireturn)])]
def mi_X7_thin : List (Nat × List (Nat × Instr)) := [(19, [(0, .aload_n 0), (1, .iload_n 2), (2, .invokevirtual 181), (5, .astore_n 3), (6, .iload_n 1), (7, .invokestatic 90), (10, .ifCond .eq 7), (13, .aload_n 3), (14, .ifnonnull 5), (17, .iconst 0), (18, .ireturn), (19, .aload_n 3)]),
  (39, [(20, .getfield 185), (23, .iconst 1), (24, .iadd), (25, .iconst 2), (26, .idiv), (27, .istore 4), (29, .iconst 0), (30, .istore 5), (32, .iload 5), (34, .iload 4), (36, .if_icmp .ge 25), (39, .aload_n 0)]),
  (61, [(40, .getfield 61), (43, .iload 5), (45, .aload_n 3), (46, .getfield 194), (49, .iconst 2), (50, .iload 5), (52, .imul), (53, .iaload), (54, .iastore), (55, .iinc 5 1), (58, .goto (-26)), (61, .aload_n 0)]),
  (68, [(62, .iload_n 1), (63, .iload 4), (65, .invokevirtual 171), (68, .ireturn)])]
def mi_X7_weight : List (Nat × List (Nat × Instr)) := [(22, [(0, .aload_n 0), (1, .iload_n 1), (2, .invokevirtual 110), (5, .astore 5), (7, .aload 5), (9, .ifnull 21), (12, .iload_n 2), (13, .iconst 0), (14, .bipush 8), (16, .invokestatic 94), (19, .ifCond .eq 11), (22, .iload 4)]),
  (55, [(24, .invokestatic 121), (27, .ifCond .ne 13), (30, .new 124), (40, .aload 5), (42, .iload_n 3), (43, .aload_n 0), (44, .getfield 54), (47, .invokevirtual 131), (50, .aload_n 0), (51, .getfield 68), (54, .aload_n 0), (55, .getfield 54)]),
  (79, [(58, .iload_n 2), (59, .laload), (60, .aload 5), (62, .getfield 135), (65, .i2l), (66, .iload_n 2), (67, .invokestatic 138), (70, .invokevirtual 142), (73, .aload_n 0), (74, .getfield 68), (77, .iload 4), (79, .invokevirtual 146)]),
  (82, [(82, .lreturn)])]
def mi_X8_eliminate : List (Nat × List (Nat × Instr)) := [(13, [(0, .iload_n 1), (1, .istore_n 3), (2, .aload_n 0), (3, .getfield 52), (6, .iconst 5), (7, .iload_n 3), (8, .imul), (9, .iload_n 1), (10, .iadd), (11, .laload), (12, .lconst 0), (13, .lcmp)]),
  (37, [(14, .ifCond .ne 9), (17, .iinc 3 1), (20, .goto (-18)), (23, .iconst 0), (24, .istore 4), (26, .iload 4), (28, .iconst 5), (29, .if_icmp .ge 105), (32, .aload_n 0), (33, .getfield 52), (36, .iconst 5), (37, .iload_n 1)]),
  (54, [(38, .imul), (39, .iload 4), (41, .iadd), (42, .laload), (43, .lstore 5), (45, .aload_n 0), (46, .getfield 55), (49, .iconst 5), (50, .iload_n 1), (51, .imul), (52, .iload 4), (54, .iadd)]),
  (72, [(55, .laload), (56, .lstore 7), (58, .aload_n 0), (59, .getfield 52), (62, .iconst 5), (63, .iload_n 1), (64, .imul), (65, .iload 4), (67, .iadd), (68, .aload_n 0), (69, .getfield 52), (72, .iconst 5)]),
  (87, [(73, .iload_n 3), (74, .imul), (75, .iload 4), (77, .iadd), (78, .laload), (79, .lastore), (80, .aload_n 0), (81, .getfield 55), (84, .iconst 5), (85, .iload_n 1), (86, .imul), (87, .iload 4)]),
  (103, [(89, .iadd), (90, .aload_n 0), (91, .getfield 55), (94, .iconst 5), (95, .iload_n 3), (96, .imul), (97, .iload 4), (99, .iadd), (100, .laload), (101, .lastore), (102, .aload_n 0), (103, .getfield 52)]),
  (121, [(106, .iconst 5), (107, .iload_n 3), (108, .imul), (109, .iload 4), (111, .iadd), (112, .lload 5), (114, .lastore), (115, .aload_n 0), (116, .getfield 55), (119, .iconst 5), (120, .iload_n 3), (121, .imul)]),
  (143, [(122, .iload 4), (124, .iadd), (125, .lload 7), (127, .lastore), (128, .iinc 4 1), (131, .goto (-105)), (134, .iconst 0), (135, .istore 4), (137, .iload 4), (139, .iload_n 2), (140, .if_icmp .ge 223), (143, .iload 4)]),
  (161, [(145, .iload_n 1), (146, .if_icmp .eq 211), (149, .aload_n 0), (150, .getfield 52), (153, .iconst 5), (154, .iload 4), (156, .imul), (157, .iload_n 1), (158, .iadd), (159, .laload), (160, .lconst 0), (161, .lcmp)]),
  (180, [(162, .ifCond .ne 6), (165, .goto 192), (168, .aload_n 0), (169, .aload_n 0), (170, .getfield 52), (173, .iconst 5), (174, .iload 4), (176, .imul), (177, .iload_n 1), (178, .iadd), (179, .laload), (180, .aload_n 0)]),
  (199, [(181, .getfield 55), (184, .iconst 5), (185, .iload 4), (187, .imul), (188, .iload_n 1), (189, .iadd), (190, .laload), (191, .invokevirtual 122), (194, .aload_n 0), (195, .aload_n 0), (196, .getfield 55), (199, .iconst 5)]),
  (213, [(200, .iload_n 1), (201, .imul), (202, .iload_n 1), (203, .iadd), (204, .laload), (205, .aload_n 0), (206, .getfield 52), (209, .iconst 5), (210, .iload_n 1), (211, .imul), (212, .iload_n 1), (213, .iadd)]),
  (234, [(214, .laload), (215, .invokevirtual 141), (218, .aload_n 0), (219, .getfield 115), (222, .lneg), (223, .lstore 5), (225, .aload_n 0), (226, .getfield 119), (229, .lstore 7), (231, .iconst 0), (232, .istore 9), (234, .iload 9)]),
  (257, [(236, .iconst 5), (237, .if_icmp .ge 120), (240, .iload 9), (242, .iload_n 2), (243, .iconst 1), (244, .isub), (245, .if_icmp .le 12), (248, .iload 9), (250, .iconst 4), (251, .if_icmp .ge 6), (254, .goto 97), (257, .aload_n 0)]),
  (274, [(258, .aload_n 0), (259, .getfield 52), (262, .iconst 5), (263, .iload_n 1), (264, .imul), (265, .iload 9), (267, .iadd), (268, .laload), (269, .aload_n 0), (270, .getfield 55), (273, .iconst 5), (274, .iload_n 1)]),
  (293, [(275, .imul), (276, .iload 9), (278, .iadd), (279, .laload), (280, .invokevirtual 122), (283, .aload_n 0), (284, .lload 5), (286, .lload 7), (288, .invokevirtual 141), (291, .aload_n 0), (292, .aload_n 0), (293, .getfield 52)]),
  (312, [(296, .iconst 5), (297, .iload 4), (299, .imul), (300, .iload 9), (302, .iadd), (303, .laload), (304, .aload_n 0), (305, .getfield 55), (308, .iconst 5), (309, .iload 4), (311, .imul), (312, .iload 9)]),
  (331, [(314, .iadd), (315, .laload), (316, .invokevirtual 144), (319, .aload_n 0), (320, .getfield 52), (323, .iconst 5), (324, .iload 4), (326, .imul), (327, .iload 9), (329, .iadd), (330, .aload_n 0), (331, .getfield 115)]),
  (351, [(334, .lastore), (335, .aload_n 0), (336, .getfield 55), (339, .iconst 5), (340, .iload 4), (342, .imul), (343, .iload 9), (345, .iadd), (346, .aload_n 0), (347, .getfield 119), (350, .lastore), (351, .iinc 9 1)]),
  (363, [(354, .goto (-120)), (357, .iinc 4 1), (360, .goto (-223)), (363, .return_)])]
def mi_X8_left : List (Nat × List (Nat × Instr)) := [(19, [(0, .aload_n 0), (1, .aload_n 0), (2, .iload_n 1), (3, .invokevirtual 179), (6, .ifCond .eq 25), (9, .iload_n 2), (10, .ifCond .lt 21), (13, .iload_n 2), (14, .aload_n 0), (15, .iload_n 1), (16, .invokevirtual 192), (19, .if_icmp .gt 12)]),
  (43, [(22, .iload_n 3), (23, .ifCond .lt 8), (26, .iload_n 3), (27, .iconst 1), (28, .if_icmp .le 7), (31, .iconst 1), (32, .goto 4), (35, .iconst 0), (36, .invokevirtual 147), (39, .ifCond .eq 5), (42, .lconst 0), (43, .lreturn)]),
  (55, [(44, .aload_n 0), (45, .iload_n 1), (46, .iload_n 2), (47, .invokevirtual 200), (50, .aload_n 0), (51, .iload_n 3), (52, .invokevirtual 155), (55, .lreturn)])]
def mi_X8_next : List (Nat × List (Nat × Instr)) := [(19, [(0, .aload_n 0), (1, .iload_n 1), (2, .invokevirtual 213), (5, .ifCond .eq 39), (8, .iload_n 2), (9, .iconst 1), (10, .if_icmp .lt 34), (13, .iload_n 2), (14, .iconst 5), (15, .if_icmp .gt 29), (18, .iload_n 3), (19, .ifCond .lt 25)]),
  (41, [(22, .iload_n 3), (23, .iconst 1), (24, .if_icmp .gt 20), (27, .aload_n 0), (28, .getfield 176), (31, .aload_n 0), (32, .getfield 21), (35, .iload_n 1), (36, .iaload), (37, .if_icmp .lt 7), (40, .iconst 1), (41, .goto 4)]),
  (63, [(44, .iconst 0), (45, .istore 4), (47, .iconst 1), (48, .istore 5), (50, .iload 4), (52, .ifCond .eq 44), (55, .iload 5), (57, .aload_n 0), (58, .getfield 21), (61, .iload_n 1), (62, .iaload), (63, .if_icmp .gt 33)]),
  (87, [(66, .aload_n 0), (67, .getfield 79), (70, .aload_n 0), (71, .getfield 176), (74, .iload 5), (76, .isub), (77, .iaload), (78, .bipush 100), (80, .if_icmp .eq 7), (83, .iconst 1), (84, .goto 4), (87, .iconst 0)]),
  (113, [(88, .istore 4), (90, .iinc 5 1), (93, .goto (-43)), (96, .aload_n 0), (97, .iload 4), (99, .ifCond .ne 7), (102, .iconst 1), (103, .goto 4), (106, .iconst 0), (107, .invokevirtual 147), (110, .ifCond .eq 5), (113, .lconst 0)]),
  (133, [(114, .lreturn), (115, .aload_n 0), (116, .getfield 21), (119, .iload_n 1), (120, .iaload), (121, .istore 5), (123, .iconst 0), (124, .istore 6), (126, .iload 6), (128, .iload 5), (130, .if_icmp .ge 40), (133, .aload_n 0)]),
  (154, [(134, .getfield 82), (137, .iload 6), (139, .aload_n 0), (140, .getfield 79), (143, .aload_n 0), (144, .getfield 176), (147, .iload 5), (149, .isub), (150, .iload 6), (152, .iadd), (153, .iaload), (154, .i2l)]),
  (176, [(155, .lastore), (156, .aload_n 0), (157, .getfield 85), (160, .iload 6), (162, .lconst 1), (163, .lastore), (164, .iinc 6 1), (167, .goto (-41)), (170, .iload 5), (172, .istore 6), (174, .iload 6), (176, .iload 5)]),
  (196, [(178, .iload_n 2), (179, .iadd), (180, .if_icmp .ge 116), (183, .lconst 0), (184, .lstore 7), (186, .lconst 1), (187, .lstore 9), (189, .iconst 1), (190, .istore 11), (192, .iload 11), (194, .iload 5), (196, .if_icmp .gt 76)]),
  (213, [(199, .aload_n 0), (200, .aload_n 0), (201, .getfield 30), (204, .iconst 4), (205, .iload_n 1), (206, .imul), (207, .iload 11), (209, .iadd), (210, .iaload), (211, .i2l), (212, .aload_n 0), (213, .getfield 17)]),
  (233, [(216, .iload_n 1), (217, .iaload), (218, .i2l), (219, .invokevirtual 122), (222, .aload_n 0), (223, .aload_n 0), (224, .getfield 82), (227, .iload 6), (229, .iload 11), (231, .isub), (232, .laload), (233, .aload_n 0)]),
  (255, [(234, .getfield 85), (237, .iload 6), (239, .iload 11), (241, .isub), (242, .laload), (243, .invokevirtual 141), (246, .aload_n 0), (247, .lload 7), (249, .lload 9), (251, .invokevirtual 144), (254, .aload_n 0), (255, .getfield 115)]),
  (281, [(258, .lstore 7), (260, .aload_n 0), (261, .getfield 119), (264, .lstore 9), (266, .iinc 11 1), (269, .goto (-77)), (272, .aload_n 0), (273, .getfield 82), (276, .iload 6), (278, .lload 7), (280, .lastore), (281, .aload_n 0)]),
  (304, [(282, .getfield 85), (285, .iload 6), (287, .lload 9), (289, .lastore), (290, .iinc 6 1), (293, .goto (-119)), (296, .aload_n 0), (297, .aload_n 0), (298, .getfield 82), (301, .iload 5), (303, .iload_n 2), (304, .iadd)]),
  (319, [(305, .iconst 1), (306, .isub), (307, .laload), (308, .aload_n 0), (309, .getfield 85), (312, .iload 5), (314, .iload_n 2), (315, .iadd), (316, .iconst 1), (317, .isub), (318, .laload), (319, .invokevirtual 122)]),
  (327, [(322, .aload_n 0), (323, .iload_n 3), (324, .invokevirtual 155), (327, .lreturn)])]
def mi_X8_right : List (Nat × List (Nat × Instr)) := [(16, [(0, .aload_n 0), (1, .lconst 0), (2, .lconst 1), (3, .invokevirtual 122), (6, .lconst 0), (7, .lstore_n 3), (8, .lconst 1), (9, .lstore 5), (11, .iload_n 2), (12, .istore 7), (14, .iload 7), (16, .iconst 4)]),
  (37, [(17, .if_icmp .ge 99), (20, .aload_n 0), (21, .iload 7), (23, .ifCond .ne 13), (26, .aload_n 0), (27, .getfield 17), (30, .iload_n 1), (31, .iaload), (32, .i2l), (33, .goto 15), (36, .aload_n 0), (37, .getfield 33)]),
  (54, [(40, .iconst 4), (41, .iload_n 1), (42, .imul), (43, .iload 7), (45, .iadd), (46, .iaload), (47, .i2l), (48, .aload_n 0), (49, .getfield 17), (52, .iload_n 1), (53, .iaload), (54, .i2l)]),
  (74, [(55, .invokevirtual 122), (58, .aload_n 0), (59, .aload_n 0), (60, .getfield 40), (63, .iload 7), (65, .iload_n 2), (66, .isub), (67, .laload), (68, .aload_n 0), (69, .getfield 43), (72, .iload 7), (74, .iload_n 2)]),
  (92, [(75, .isub), (76, .laload), (77, .invokevirtual 141), (80, .aload_n 0), (81, .aload_n 0), (82, .getfield 27), (85, .iload_n 1), (86, .iaload), (87, .i2l), (88, .lconst 1), (89, .invokevirtual 141), (92, .aload_n 0)]),
  (116, [(93, .lload_n 3), (94, .lload 5), (96, .invokevirtual 144), (99, .aload_n 0), (100, .getfield 115), (103, .lstore_n 3), (104, .aload_n 0), (105, .getfield 119), (108, .lstore 5), (110, .iinc 7 1), (113, .goto (-99)), (116, .return_)])]
def mi_X8_share : List (Nat × List (Nat × Instr)) := [(17, [(0, .aload_n 0), (1, .aload_n 0), (2, .iload_n 1), (3, .invokevirtual 179), (6, .ifCond .eq 38), (9, .iload_n 2), (10, .iconst 1), (11, .if_icmp .lt 33), (14, .iload_n 2), (15, .aload_n 0), (16, .iload_n 1), (17, .invokevirtual 192)]),
  (41, [(20, .if_icmp .gt 24), (23, .iload_n 3), (24, .iconst 1), (25, .if_icmp .lt 19), (28, .iload_n 3), (29, .iload_n 2), (30, .if_icmp .gt 14), (33, .iload 4), (35, .ifCond .lt 9), (38, .iload 4), (40, .iconst 1), (41, .if_icmp .le 7)]),
  (61, [(44, .iconst 1), (45, .goto 4), (48, .iconst 0), (49, .invokevirtual 147), (52, .ifCond .eq 5), (55, .lconst 0), (56, .lreturn), (57, .aload_n 0), (58, .iload_n 1), (59, .iload_n 2), (60, .iload_n 3), (61, .invokevirtual 196)]),
  (70, [(64, .aload_n 0), (65, .iload 4), (67, .invokevirtual 155), (70, .lreturn)])]
def mi_X8_solid : List (Nat × List (Nat × Instr)) := [(19, [(0, .aload_n 0), (1, .iconst 0), (2, .putfield 100), (5, .aload_n 0), (6, .iload_n 1), (7, .invokevirtual 179), (10, .ifCond .ne 5), (13, .iconst (-1)), (14, .ireturn), (15, .aload_n 0), (16, .getfield 67), (19, .iload_n 1)]),
  (35, [(20, .iaload), (21, .iconst 1), (22, .isub), (23, .istore_n 2), (24, .aload_n 0), (25, .iload_n 1), (26, .invokevirtual 192), (29, .iload_n 2), (30, .if_icmp .ne 20), (33, .aload_n 0), (34, .iload_n 1), (35, .iload_n 2)]),
  (51, [(36, .iconst 1), (37, .iadd), (38, .invokevirtual 188), (41, .lconst 0), (42, .lcmp), (43, .ifCond .lt 7), (46, .iconst 1), (47, .goto 4), (50, .iconst 0), (51, .ireturn)])]
def mi_X8_steady : List (Nat × List (Nat × Instr)) := [(21, [(0, .aload_n 0), (1, .iconst 0), (2, .putfield 100), (5, .aload_n 0), (6, .iload_n 1), (7, .invokevirtual 134), (10, .ifCond .eq 19), (13, .aload_n 0), (14, .iload_n 1), (15, .invokevirtual 138), (18, .ifCond .eq 7), (21, .iconst 1)]),
  (30, [(22, .goto 8), (25, .iconst 0), (26, .goto 4), (29, .iconst (-1)), (30, .ireturn)])]
def mi_X8_steps : List (Nat × List (Nat × Instr)) := [(21, [(0, .aload_n 0), (1, .iconst 0), (2, .putfield 100), (5, .aload_n 0), (6, .iload_n 1), (7, .invokevirtual 179), (10, .ifCond .eq 11), (13, .aload_n 0), (14, .iload_n 1), (15, .invokevirtual 192), (18, .goto 4), (21, .iconst (-1))]),
  (22, [(22, .ireturn)])]
def mi_X8_weights : List (Nat × List (Nat × Instr)) := [(18, [(0, .aload_n 0), (1, .getfield 17), (4, .iload_n 1), (5, .iaload), (6, .istore_n 3), (7, .iconst 0), (8, .istore 4), (10, .iload 4), (12, .bipush 9), (14, .if_icmp .ge 201), (17, .aload_n 0), (18, .iload 4)]),
  (42, [(20, .ifCond .ne 8), (23, .iload_n 3), (24, .i2l), (25, .goto 45), (28, .iload 4), (30, .iconst 3), (31, .if_icmp .le 7), (34, .lconst 0), (35, .goto 35), (38, .iload_n 2), (39, .ifCond .eq 19), (42, .aload_n 0)]),
  (59, [(43, .getfield 30), (46, .iconst 4), (47, .iload_n 1), (48, .imul), (49, .iload 4), (51, .iadd), (52, .iaload), (53, .ineg), (54, .i2l), (55, .goto 15), (58, .aload_n 0), (59, .getfield 33)]),
  (76, [(62, .iconst 4), (63, .iload_n 1), (64, .imul), (65, .iload 4), (67, .iadd), (68, .iaload), (69, .i2l), (70, .iload_n 3), (71, .i2l), (72, .invokevirtual 122), (75, .aload_n 0), (76, .getfield 115)]),
  (100, [(79, .lstore 5), (81, .aload_n 0), (82, .getfield 119), (85, .lstore 7), (87, .iconst 1), (88, .istore 9), (90, .iload 9), (92, .iconst 4), (93, .if_icmp .ge 98), (96, .iload 9), (98, .iload 4), (100, .if_icmp .gt 91)]),
  (119, [(103, .aload_n 0), (104, .iload_n 2), (105, .ifCond .eq 19), (108, .aload_n 0), (109, .getfield 33), (112, .iconst 4), (113, .iload_n 1), (114, .imul), (115, .iload 9), (117, .iadd), (118, .iaload), (119, .ineg)]),
  (136, [(120, .i2l), (121, .goto 15), (124, .aload_n 0), (125, .getfield 30), (128, .iconst 4), (129, .iload_n 1), (130, .imul), (131, .iload 9), (133, .iadd), (134, .iaload), (135, .i2l), (136, .iload_n 3)]),
  (156, [(137, .i2l), (138, .invokevirtual 122), (141, .aload_n 0), (142, .aload_n 0), (143, .getfield 40), (146, .iload 4), (148, .iload 9), (150, .isub), (151, .laload), (152, .aload_n 0), (153, .getfield 43), (156, .iload 4)]),
  (179, [(158, .iload 9), (160, .isub), (161, .laload), (162, .invokevirtual 141), (165, .aload_n 0), (166, .lload 5), (168, .lload 7), (170, .invokevirtual 144), (173, .aload_n 0), (174, .getfield 115), (177, .lstore 5), (179, .aload_n 0)]),
  (204, [(180, .getfield 119), (183, .lstore 7), (185, .iinc 9 1), (188, .goto (-98)), (191, .aload_n 0), (192, .getfield 40), (195, .iload 4), (197, .lload 5), (199, .lastore), (200, .aload_n 0), (201, .getfield 43), (204, .iload 4)]),
  (215, [(206, .lload 7), (208, .lastore), (209, .iinc 4 1), (212, .goto (-202)), (215, .return_)])]
def mi_X3_stepsThere : List (Nat × List (Nat × Instr)) := [(15, [(0, .iconst 0), (1, .istore_n 2), (2, .iload_n 2), (3, .aload_n 0), (4, .getfield 15), (7, .iconst 1), (8, .isub), (9, .if_icmp .ge 28), (12, .aload_n 0), (13, .iload_n 2), (14, .aload_n 1), (15, .invokevirtual 46)]),
  (37, [(18, .aload_n 0), (19, .iload_n 2), (20, .aload_n 1), (21, .invokevirtual 50), (24, .lconst 0), (25, .lcmp), (26, .ifCond .gt 5), (29, .iload_n 2), (30, .ireturn), (31, .iinc 2 1), (34, .goto (-32)), (37, .aload_n 0)]),
  (43, [(38, .getfield 15), (41, .iconst 1), (42, .isub), (43, .ireturn)])]
def mi_X4_askForGaps : List (Nat × List (Nat × Instr)) := [(20, [(0, .aload_n 0), (1, .iload_n 2), (2, .invokevirtual 55), (5, .iconst 0), (6, .istore 4), (8, .iload 4), (10, .iload_n 2), (11, .if_icmp .ge 73), (14, .aload_n 3), (15, .getfield 59), (18, .iload 4), (20, .aload_n 0)]),
  (39, [(21, .aload_n 1), (22, .aload_n 0), (23, .getfield 15), (26, .iload 4), (28, .iaload), (29, .invokevirtual 65), (32, .lneg), (33, .lastore), (34, .iconst 0), (35, .istore 5), (37, .iload 5), (39, .iload_n 2)]),
  (60, [(40, .if_icmp .ge 38), (43, .aload_n 3), (44, .getfield 68), (47, .iload 4), (49, .aaload), (50, .iload 5), (52, .aload_n 0), (53, .aload_n 1), (54, .aload_n 0), (55, .getfield 15), (58, .iload 4), (60, .iaload)]),
  (84, [(61, .aload_n 0), (62, .getfield 15), (65, .iload 5), (67, .iaload), (68, .invokevirtual 72), (71, .lastore), (72, .iinc 5 1), (75, .goto (-38)), (78, .iinc 4 1), (81, .goto (-73)), (84, .return_)])]
def mi_X4_worstPlace : List (Nat × List (Nat × Instr)) := [(16, [(0, .iconst 0), (1, .istore_n 2), (2, .lconst 0), (3, .lstore_n 3), (4, .lconst 1), (5, .lstore 5), (7, .iconst 0), (8, .istore 7), (10, .iload 7), (12, .aload_n 0), (13, .getfield 18), (16, .if_icmp .ge 56)]),
  (39, [(19, .aload_n 0), (20, .aload_n 1), (21, .iload 7), (23, .invokevirtual 65), (26, .lstore 8), (28, .aload_n 0), (29, .aload_n 1), (30, .iload 7), (32, .invokevirtual 76), (35, .lstore 10), (37, .lload 8), (39, .lload 8)]),
  (58, [(41, .lmul), (42, .lload 5), (44, .lmul), (45, .lload_n 3), (46, .lload 10), (48, .lmul), (49, .lcmp), (50, .ifCond .le 16), (53, .iload 7), (55, .istore_n 2), (56, .lload 8), (58, .lload 8)]),
  (73, [(60, .lmul), (61, .lstore_n 3), (62, .lload 10), (64, .lstore 5), (66, .iinc 7 1), (69, .goto (-59)), (72, .iload_n 2), (73, .ireturn)])]
def mi_X7_like : List (Nat × List (Nat × Instr)) := [(22, [(0, .aload_n 0), (1, .iload_n 1), (2, .invokevirtual 110), (5, .astore 4), (7, .aload 4), (9, .ifnull 28), (12, .aload 4), (14, .invokevirtual 114), (17, .ifCond .eq 20), (20, .iload_n 2), (21, .iconst 0), (22, .bipush 8)]),
  (57, [(24, .invokestatic 94), (27, .ifCond .eq 10), (30, .iload_n 3), (31, .invokestatic 121), (34, .ifCond .ne 13), (37, .new 124), (47, .aload_n 0), (48, .getfield 47), (51, .aload 4), (53, .aload_n 0), (54, .getfield 40), (57, .aload_n 0)]),
  (81, [(58, .getfield 54), (61, .invokevirtual 152), (64, .aload_n 0), (65, .getfield 68), (68, .aload_n 0), (69, .getfield 47), (72, .getfield 156), (75, .iload_n 2), (76, .laload), (77, .aload_n 0), (78, .getfield 47), (81, .getfield 159)]),
  (95, [(84, .invokevirtual 142), (87, .aload_n 0), (88, .getfield 68), (91, .iload_n 3), (92, .invokevirtual 146), (95, .lreturn)])]
def mi_X7_next : List (Nat × List (Nat × Instr)) := [(21, [(0, .aload_n 0), (1, .iload_n 1), (2, .invokevirtual 241), (5, .astore 4), (7, .aload 4), (9, .ifnull 34), (12, .iload_n 2), (13, .iconst 1), (14, .iconst 5), (15, .invokestatic 94), (18, .ifCond .eq 25), (21, .iload_n 3)]),
  (57, [(22, .invokestatic 121), (25, .ifCond .eq 18), (28, .aload_n 0), (29, .getfield 33), (32, .aload 4), (34, .getfield 244), (37, .invokevirtual 247), (40, .ifCond .ne 13), (43, .new 124), (53, .aload_n 0), (54, .getfield 33), (57, .aload 4)]),
  (81, [(59, .aload_n 0), (60, .getfield 58), (63, .invokevirtual 252), (66, .aload_n 0), (67, .getfield 68), (70, .aload_n 0), (71, .getfield 58), (74, .aload 4), (76, .getfield 244), (79, .iload_n 2), (80, .iadd), (81, .iconst 1)]),
  (102, [(82, .isub), (83, .laload), (84, .aload 4), (86, .getfield 135), (89, .i2l), (90, .iconst 5), (91, .invokestatic 138), (94, .invokevirtual 142), (97, .aload_n 0), (98, .getfield 68), (101, .iload_n 3), (102, .invokevirtual 146)]),
  (105, [(105, .lreturn)])]
def mi_X7_same : List (Nat × List (Nat × Instr)) := [(19, [(0, .aload_n 0), (1, .iload_n 1), (2, .invokevirtual 110), (5, .astore_n 3), (6, .aload_n 0), (7, .iload_n 2), (8, .invokevirtual 110), (11, .astore 4), (13, .aload_n 3), (14, .ifnull 23), (17, .aload 4), (19, .ifnull 18)]),
  (44, [(22, .aload_n 3), (23, .invokevirtual 114), (26, .ifCond .eq 11), (29, .aload 4), (31, .invokevirtual 114), (34, .ifCond .ne 5), (37, .iconst (-1)), (38, .ireturn), (39, .aload_n 0), (40, .getfield 47), (43, .aload_n 3), (44, .aload_n 0)]),
  (69, [(45, .getfield 40), (48, .aload_n 0), (49, .getfield 54), (52, .invokevirtual 152), (55, .aload_n 0), (56, .getfield 51), (59, .aload 4), (61, .aload_n 0), (62, .getfield 40), (65, .aload_n 0), (66, .getfield 54), (69, .invokevirtual 152)]),
  (95, [(72, .iconst 0), (73, .istore 5), (75, .iload 5), (77, .bipush 8), (79, .if_icmp .gt 73), (82, .aload_n 0), (83, .getfield 68), (86, .aload_n 0), (87, .getfield 47), (90, .getfield 156), (93, .iload 5), (95, .laload)]),
  (120, [(96, .aload_n 0), (97, .getfield 47), (100, .getfield 159), (103, .invokevirtual 142), (106, .aload_n 0), (107, .getfield 72), (110, .aload_n 0), (111, .getfield 51), (114, .getfield 156), (117, .iload 5), (119, .laload), (120, .aload_n 0)]),
  (146, [(121, .getfield 51), (124, .getfield 159), (127, .invokevirtual 142), (130, .aload_n 0), (131, .getfield 68), (134, .aload_n 0), (135, .getfield 72), (138, .invokevirtual 163), (141, .ifCond .ne 5), (144, .iconst 0), (145, .ireturn), (146, .iinc 5 1)]),
  (153, [(149, .goto (-74)), (152, .iconst 1), (153, .ireturn)])]
def mi_X7_squares : List (Nat × List (Nat × Instr)) := [(29, [(0, .aload_n 0), (1, .iload_n 1), (2, .invokevirtual 241), (5, .astore_n 3), (6, .aload_n 3), (7, .ifnull 10), (10, .iload_n 2), (11, .invokestatic 121), (14, .ifCond .ne 14), (17, .new 124), (28, .aload_n 0), (29, .getfield 68)]),
  (53, [(32, .aload_n 0), (33, .getfield 33), (36, .aload_n 3), (37, .invokevirtual 262), (40, .aload_n 3), (41, .getfield 135), (44, .i2l), (45, .iconst 2), (46, .invokestatic 138), (49, .invokevirtual 142), (52, .aload_n 0), (53, .getfield 68)]),
  (60, [(56, .iload_n 2), (57, .invokevirtual 146), (60, .lreturn)])]
def mi_X7_whole : List (Nat × List (Nat × Instr)) := [(17, [(0, .aload_n 0), (1, .iload_n 1), (2, .invokevirtual 241), (5, .astore_n 2), (6, .aload_n 2), (7, .ifnonnull 5), (10, .iconst (-1)), (11, .ireturn), (12, .aload_n 0), (13, .getfield 33), (16, .aload_n 2), (17, .invokevirtual 256)]),
  (20, [(20, .ireturn)])]
def mi_X8_likes : List (Nat × List (Nat × Instr)) := [(15, [(0, .aload_n 0), (1, .iload_n 1), (2, .iconst 0), (3, .invokevirtual 151), (6, .aload_n 0), (7, .getfield 21), (10, .iload_n 1), (11, .iaload), (12, .iconst 1), (13, .iadd), (14, .istore_n 2), (15, .iconst 0)]),
  (35, [(16, .istore_n 3), (17, .iload_n 3), (18, .iload_n 2), (19, .if_icmp .ge 170), (22, .iconst 0), (23, .istore 4), (25, .iload 4), (27, .iload_n 2), (28, .if_icmp .ge 33), (31, .aload_n 0), (32, .getfield 52), (35, .iconst 5)]),
  (50, [(36, .iload_n 3), (37, .imul), (38, .iload 4), (40, .iadd), (41, .lconst 0), (42, .lastore), (43, .aload_n 0), (44, .getfield 55), (47, .iconst 5), (48, .iload_n 3), (49, .imul), (50, .iload 4)]),
  (71, [(52, .iadd), (53, .lconst 1), (54, .lastore), (55, .iinc 4 1), (58, .goto (-33)), (61, .iconst 0), (62, .istore 4), (64, .iload 4), (66, .iload_n 2), (67, .if_icmp .ge 70), (70, .iload_n 3), (71, .iload 4)]),
  (93, [(73, .if_icmp .le 10), (76, .iload_n 3), (77, .iload 4), (79, .isub), (80, .goto 7), (83, .iload 4), (85, .iload_n 3), (86, .isub), (87, .istore 5), (89, .aload_n 0), (90, .getfield 52), (93, .iconst 5)]),
  (111, [(94, .iload_n 3), (95, .imul), (96, .iload 5), (98, .iadd), (99, .dup2), (100, .laload), (101, .iload 4), (103, .ifCond .ne 13), (106, .aload_n 0), (107, .getfield 17), (110, .iload_n 1), (111, .iaload)]),
  (128, [(112, .i2l), (113, .goto 16), (116, .aload_n 0), (117, .getfield 30), (120, .iconst 4), (121, .iload_n 1), (122, .imul), (123, .iload 4), (125, .iadd), (126, .iaload), (127, .ineg), (128, .i2l)]),
  (148, [(129, .ladd), (130, .lastore), (131, .iinc 4 1), (134, .goto (-70)), (137, .aload_n 0), (138, .iload_n 1), (139, .iload_n 3), (140, .invokevirtual 159), (143, .aload_n 0), (144, .aload_n 0), (145, .getfield 17), (148, .iload_n 1)]),
  (164, [(149, .iaload), (150, .i2l), (151, .lconst 1), (152, .invokevirtual 141), (155, .aload_n 0), (156, .getfield 52), (159, .iconst 5), (160, .iload_n 3), (161, .imul), (162, .iconst 4), (163, .iadd), (164, .aload_n 0)]),
  (182, [(165, .getfield 115), (168, .lastore), (169, .aload_n 0), (170, .getfield 55), (173, .iconst 5), (174, .iload_n 3), (175, .imul), (176, .iconst 4), (177, .iadd), (178, .aload_n 0), (179, .getfield 119), (182, .lastore)]),
  (202, [(183, .iinc 3 1), (186, .goto (-169)), (189, .iconst 0), (190, .istore_n 3), (191, .iload_n 3), (192, .iload_n 2), (193, .if_icmp .ge 15), (196, .aload_n 0), (197, .iload_n 3), (198, .iload_n 2), (199, .invokevirtual 163), (202, .iinc 3 1)]),
  (222, [(205, .goto (-14)), (208, .iconst 0), (209, .istore_n 3), (210, .iload_n 3), (211, .iload_n 2), (212, .if_icmp .ge 77), (215, .aload_n 0), (216, .aload_n 0), (217, .getfield 52), (220, .iconst 5), (221, .iload_n 3), (222, .imul)]),
  (236, [(223, .iconst 4), (224, .iadd), (225, .laload), (226, .aload_n 0), (227, .getfield 55), (230, .iconst 5), (231, .iload_n 3), (232, .imul), (233, .iconst 4), (234, .iadd), (235, .laload), (236, .invokevirtual 122)]),
  (254, [(239, .aload_n 0), (240, .aload_n 0), (241, .getfield 55), (244, .iconst 5), (245, .iload_n 3), (246, .imul), (247, .iload_n 3), (248, .iadd), (249, .laload), (250, .aload_n 0), (251, .getfield 52), (254, .iconst 5)]),
  (272, [(255, .iload_n 3), (256, .imul), (257, .iload_n 3), (258, .iadd), (259, .laload), (260, .invokevirtual 141), (263, .aload_n 0), (264, .getfield 46), (267, .iload_n 3), (268, .aload_n 0), (269, .getfield 115), (272, .lastore)]),
  (292, [(273, .aload_n 0), (274, .getfield 49), (277, .iload_n 3), (278, .aload_n 0), (279, .getfield 119), (282, .lastore), (283, .iinc 3 1), (286, .goto (-76)), (289, .iload_n 2), (290, .istore_n 3), (291, .iload_n 3), (292, .bipush 9)]),
  (313, [(294, .if_icmp .ge 137), (297, .iload_n 3), (298, .iconst 4), (299, .if_icmp .ge 12), (302, .aload_n 0), (303, .iload_n 1), (304, .iload_n 3), (305, .invokevirtual 159), (308, .goto 9), (311, .aload_n 0), (312, .lconst 0), (313, .lconst 1)]),
  (335, [(314, .invokevirtual 122), (317, .aload_n 0), (318, .getfield 115), (321, .lstore 4), (323, .aload_n 0), (324, .getfield 119), (327, .lstore 6), (329, .iconst 1), (330, .istore 8), (332, .iload 8), (334, .iload_n 2), (335, .if_icmp .ge 74)]),
  (352, [(338, .aload_n 0), (339, .aload_n 0), (340, .getfield 30), (343, .iconst 4), (344, .iload_n 1), (345, .imul), (346, .iload 8), (348, .iadd), (349, .iaload), (350, .i2l), (351, .aload_n 0), (352, .getfield 17)]),
  (371, [(355, .iload_n 1), (356, .iaload), (357, .i2l), (358, .invokevirtual 122), (361, .aload_n 0), (362, .aload_n 0), (363, .getfield 46), (366, .iload_n 3), (367, .iload 8), (369, .isub), (370, .laload), (371, .aload_n 0)]),
  (392, [(372, .getfield 49), (375, .iload_n 3), (376, .iload 8), (378, .isub), (379, .laload), (380, .invokevirtual 141), (383, .aload_n 0), (384, .lload 4), (386, .lload 6), (388, .invokevirtual 144), (391, .aload_n 0), (392, .getfield 115)]),
  (417, [(395, .lstore 4), (397, .aload_n 0), (398, .getfield 119), (401, .lstore 6), (403, .iinc 8 1), (406, .goto (-74)), (409, .aload_n 0), (410, .getfield 46), (413, .iload_n 3), (414, .lload 4), (416, .lastore), (417, .aload_n 0)]),
  (431, [(418, .getfield 49), (421, .iload_n 3), (422, .lload 6), (424, .lastore), (425, .iinc 3 1), (428, .goto (-137)), (431, .return_)])]
def mi_X8_weight : List (Nat × List (Nat × Instr)) := [(21, [(0, .aload_n 0), (1, .aload_n 0), (2, .iload_n 1), (3, .invokevirtual 134), (6, .ifCond .eq 24), (9, .iload_n 2), (10, .ifCond .lt 20), (13, .iload_n 2), (14, .bipush 8), (16, .if_icmp .gt 14), (19, .iload 4), (21, .ifCond .lt 9)]),
  (44, [(24, .iload 4), (26, .iconst 1), (27, .if_icmp .le 7), (30, .iconst 1), (31, .goto 4), (34, .iconst 0), (35, .invokevirtual 147), (38, .ifCond .eq 5), (41, .lconst 0), (42, .lreturn), (43, .aload_n 0), (44, .iload_n 1)]),
  (62, [(45, .iload_n 3), (46, .invokevirtual 151), (49, .aload_n 0), (50, .aload_n 0), (51, .getfield 40), (54, .iload_n 2), (55, .laload), (56, .aload_n 0), (57, .getfield 43), (60, .iload_n 2), (61, .laload), (62, .invokevirtual 122)]),
  (71, [(65, .aload_n 0), (66, .iload 4), (68, .invokevirtual 155), (71, .lreturn)])]
def mi_X3_holds : List (Nat × List (Nat × Instr)) := [(17, [(0, .aload_n 0), (1, .getfield 15), (4, .iconst 1), (5, .isub), (6, .istore_n 2), (7, .aload_n 0), (8, .aload_n 1), (9, .invokevirtual 54), (12, .iload_n 2), (13, .if_icmp .ge 5), (16, .iconst 0), (17, .ireturn)]),
  (35, [(18, .aload_n 0), (19, .iload_n 2), (20, .aload_n 1), (21, .invokevirtual 46), (24, .aload_n 0), (25, .iload_n 2), (26, .aload_n 1), (27, .invokevirtual 50), (30, .lconst 0), (31, .lcmp), (32, .ifCond .lt 7), (35, .iconst 1)]),
  (40, [(36, .goto 4), (39, .iconst 0), (40, .ireturn)])]
def mi_X7_amiss : List (Nat × List (Nat × Instr)) := [(21, [(0, .aload_n 0), (1, .iload_n 1), (2, .invokevirtual 241), (5, .astore_n 2), (6, .aload_n 2), (7, .ifnull 27), (10, .aload_n 0), (11, .getfield 33), (14, .invokevirtual 174), (17, .ifCond .gt 17), (20, .aload_n 0), (21, .getfield 33)]),
  (45, [(24, .getfield 233), (27, .aload_n 2), (28, .getfield 244), (31, .if_icmp .gt 5), (34, .iconst (-1)), (35, .ireturn), (36, .aload_n 0), (37, .getfield 33), (40, .aload_n 2), (41, .invokevirtual 275), (44, .istore_n 3), (45, .aload_n 0)]),
  (67, [(46, .getfield 33), (49, .aload_n 2), (50, .iload_n 3), (51, .invokevirtual 278), (54, .lstore 4), (56, .aload_n 0), (57, .getfield 33), (60, .aload_n 2), (61, .iload_n 3), (62, .invokevirtual 282), (65, .lstore 6), (67, .aload_n 0)]),
  (89, [(68, .getfield 79), (71, .lload 4), (73, .lload 4), (75, .lmul), (76, .lload 6), (78, .lconst 0), (79, .lcmp), (80, .ifCond .ne 7), (83, .lconst 1), (84, .goto 15), (87, .lload 6), (89, .aload_n 2)]),
  (108, [(90, .getfield 135), (93, .i2l), (94, .iconst 2), (95, .invokestatic 138), (98, .lmul), (99, .invokevirtual 142), (102, .aload_n 0), (103, .iconst 1), (104, .putfield 285), (107, .iload_n 3), (108, .ireturn)])]
def mi_X7_fill : List (Nat × List (Nat × Instr)) := [(19, [(0, .aload_n 0), (1, .iload_n 1), (2, .invokevirtual 241), (5, .astore_n 2), (6, .aload_n 2), (7, .ifnonnull 5), (10, .iconst (-1)), (11, .ireturn), (12, .aload_n 0), (13, .getfield 33), (16, .invokevirtual 174), (19, .istore_n 3)]),
  (37, [(20, .iload_n 3), (21, .iconst 1), (22, .iconst 3), (23, .invokestatic 94), (26, .ifCond .ne 5), (29, .iconst 0), (30, .ireturn), (31, .aload_n 0), (32, .getfield 33), (35, .aload_n 2), (36, .iload_n 3), (37, .aload_n 0)]),
  (60, [(38, .getfield 40), (41, .invokevirtual 266), (44, .aload_n 0), (45, .getfield 40), (48, .iload_n 3), (49, .invokevirtual 270), (52, .ifCond .ne 5), (55, .iconst 0), (56, .ireturn), (57, .iconst 0), (58, .istore 4), (60, .iload 4)]),
  (83, [(62, .iload_n 3), (63, .if_icmp .ge 36), (66, .aload_n 0), (67, .getfield 75), (70, .iload 4), (72, .aaload), (73, .aload_n 0), (74, .getfield 40), (77, .getfield 209), (80, .iload 4), (82, .laload), (83, .aload_n 0)]),
  (105, [(84, .getfield 40), (87, .getfield 210), (90, .invokevirtual 142), (93, .iinc 4 1), (96, .goto (-36)), (99, .aload_n 0), (100, .iload_n 3), (101, .putfield 230), (104, .iload_n 3), (105, .ireturn)])]
def mi_X7_left : List (Nat × List (Nat × Instr)) := [(20, [(0, .aload_n 0), (1, .iload_n 1), (2, .invokevirtual 181), (5, .astore 4), (7, .aload 4), (9, .ifnull 27), (12, .iload_n 2), (13, .ifCond .lt 23), (16, .iload_n 2), (17, .aload 4), (19, .aload_n 0), (20, .getfield 40)]),
  (56, [(23, .invokevirtual 199), (26, .if_icmp .gt 10), (29, .iload_n 3), (30, .invokestatic 121), (33, .ifCond .ne 13), (36, .new 124), (46, .aload 4), (48, .iload_n 2), (49, .aload_n 0), (50, .getfield 40), (53, .invokevirtual 205), (56, .aload_n 0)]),
  (81, [(57, .getfield 68), (60, .aload 4), (62, .iload_n 2), (63, .aload_n 0), (64, .getfield 40), (67, .invokevirtual 213), (70, .aload_n 0), (71, .getfield 40), (74, .getfield 210), (77, .invokevirtual 142), (80, .aload_n 0), (81, .getfield 68)]),
  (88, [(84, .iload_n 3), (85, .invokevirtual 146), (88, .lreturn)])]
def mi_X7_share : List (Nat × List (Nat × Instr)) := [(19, [(0, .aload_n 0), (1, .iload_n 1), (2, .invokevirtual 181), (5, .astore 5), (7, .aload 5), (9, .ifnull 34), (12, .iload_n 3), (13, .iconst 1), (14, .if_icmp .lt 29), (17, .iload_n 3), (18, .iload_n 2), (19, .if_icmp .gt 24)]),
  (55, [(22, .iload_n 2), (23, .aload 5), (25, .aload_n 0), (26, .getfield 40), (29, .invokevirtual 199), (32, .if_icmp .gt 11), (35, .iload 4), (37, .invokestatic 121), (40, .ifCond .ne 13), (43, .new 124), (53, .aload 5), (55, .iload_n 2)]),
  (77, [(56, .aload_n 0), (57, .getfield 40), (60, .invokevirtual 205), (63, .aload_n 0), (64, .getfield 68), (67, .aload_n 0), (68, .getfield 40), (71, .getfield 209), (74, .iload_n 3), (75, .iconst 1), (76, .isub), (77, .laload)]),
  (97, [(78, .aload_n 0), (79, .getfield 40), (82, .getfield 210), (85, .invokevirtual 142), (88, .aload_n 0), (89, .getfield 68), (92, .iload 4), (94, .invokevirtual 146), (97, .lreturn)])]
def mi_X7_steps : List (Nat × List (Nat × Instr)) := [(17, [(0, .aload_n 0), (1, .iload_n 1), (2, .invokevirtual 181), (5, .astore_n 2), (6, .aload_n 2), (7, .ifnonnull 5), (10, .iconst (-1)), (11, .ireturn), (12, .aload_n 2), (13, .aload_n 0), (14, .getfield 40), (17, .invokevirtual 199)]),
  (20, [(20, .ireturn)])]
def mi_X8_like : List (Nat × List (Nat × Instr)) := [(21, [(0, .aload_n 0), (1, .aload_n 0), (2, .iload_n 1), (3, .invokevirtual 134), (6, .ifCond .eq 30), (9, .aload_n 0), (10, .iload_n 1), (11, .invokevirtual 138), (14, .ifCond .eq 22), (17, .iload_n 2), (18, .ifCond .lt 18), (21, .iload_n 2)]),
  (44, [(22, .bipush 8), (24, .if_icmp .gt 12), (27, .iload_n 3), (28, .ifCond .lt 8), (31, .iload_n 3), (32, .iconst 1), (33, .if_icmp .le 7), (36, .iconst 1), (37, .goto 4), (40, .iconst 0), (41, .invokevirtual 147), (44, .ifCond .eq 5)]),
  (64, [(47, .lconst 0), (48, .lreturn), (49, .aload_n 0), (50, .iload_n 1), (51, .invokevirtual 166), (54, .iload_n 3), (55, .ifCond .ne 12), (58, .aload_n 0), (59, .getfield 46), (62, .iload_n 2), (63, .laload), (64, .goto 9)]),
  (73, [(67, .aload_n 0), (68, .getfield 49), (71, .iload_n 2), (72, .laload), (73, .lreturn)])]
def mi_X8_same : List (Nat × List (Nat × Instr)) := [(21, [(0, .aload_n 0), (1, .iconst 0), (2, .putfield 100), (5, .aload_n 0), (6, .iload_n 1), (7, .invokevirtual 134), (10, .ifCond .eq 27), (13, .aload_n 0), (14, .iload_n 2), (15, .invokevirtual 134), (18, .ifCond .eq 19), (21, .aload_n 0)]),
  (41, [(22, .iload_n 1), (23, .invokevirtual 138), (26, .ifCond .eq 11), (29, .aload_n 0), (30, .iload_n 2), (31, .invokevirtual 138), (34, .ifCond .ne 5), (37, .iconst (-1)), (38, .ireturn), (39, .aload_n 0), (40, .iload_n 1), (41, .invokevirtual 166)]),
  (62, [(44, .iconst 0), (45, .istore_n 3), (46, .iload_n 3), (47, .bipush 9), (49, .if_icmp .ge 33), (52, .aload_n 0), (53, .getfield 58), (56, .iload_n 3), (57, .aload_n 0), (58, .getfield 46), (61, .iload_n 3), (62, .laload)]),
  (82, [(63, .lastore), (64, .aload_n 0), (65, .getfield 61), (68, .iload_n 3), (69, .aload_n 0), (70, .getfield 49), (73, .iload_n 3), (74, .laload), (75, .lastore), (76, .iinc 3 1), (79, .goto (-33)), (82, .aload_n 0)]),
  (101, [(83, .iload_n 2), (84, .invokevirtual 166), (87, .iconst 0), (88, .istore_n 3), (89, .iload_n 3), (90, .bipush 9), (92, .if_icmp .ge 43), (95, .aload_n 0), (96, .getfield 58), (99, .iload_n 3), (100, .laload), (101, .aload_n 0)]),
  (121, [(102, .getfield 46), (105, .iload_n 3), (106, .laload), (107, .lcmp), (108, .ifCond .ne 19), (111, .aload_n 0), (112, .getfield 61), (115, .iload_n 3), (116, .laload), (117, .aload_n 0), (118, .getfield 49), (121, .iload_n 3)]),
  (136, [(122, .laload), (123, .lcmp), (124, .ifCond .eq 5), (127, .iconst 0), (128, .ireturn), (129, .iinc 3 1), (132, .goto (-43)), (135, .iconst 1), (136, .ireturn)])]
def mi_X7_solid : List (Nat × List (Nat × Instr)) := [(17, [(0, .aload_n 0), (1, .iload_n 1), (2, .invokevirtual 181), (5, .astore_n 2), (6, .aload_n 2), (7, .ifnonnull 5), (10, .iconst (-1)), (11, .ireturn), (12, .aload_n 2), (13, .aload_n 0), (14, .getfield 40), (17, .invokevirtual 217)]),
  (28, [(20, .ifCond .eq 7), (23, .iconst 1), (24, .goto 4), (27, .iconst 0), (28, .ireturn)])]
abbrev nJ6_bitCount_0f7a4 : Nat := 0
abbrev nX0_wipeCells : Nat := 1
abbrev nX1_isLike : Nat := 2
abbrev nX1_part : Nat := 3
abbrev nX3_restTop : Nat := 4
abbrev nX3_take : Nat := 5
abbrev nX4_findGaps : Nat := 6
abbrev nX4_gapCount : Nat := 7
abbrev nX4_isGapless : Nat := 8
abbrev nX4_productsAt : Nat := 9
abbrev nX4_take : Nat := 10
abbrev nX5_take : Nat := 11
abbrev nX6_append : Nat := 12
abbrev nX6_pair : Nat := 13
abbrev nX7_at : Nat := 14
abbrev nX7_end : Nat := 15
abbrev nX7_isPart : Nat := 16
abbrev nX7_isWithin : Nat := 17
abbrev nX7_likenessesCount : Nat := 18
abbrev nX7_power : Nat := 19
abbrev nX7_ruleCount : Nat := 20
abbrev nX8_at : Nat := 21
abbrev nX8_common : Nat := 22
abbrev nX8_determinant : Nat := 23
abbrev nX8_end : Nat := 24
abbrev nX8_four : Nat := 25
abbrev nX8_gaps : Nat := 26
abbrev nX8_has : Nat := 27
abbrev nX8_hasRule : Nat := 28
abbrev nX8_isWhole : Nat := 29
abbrev nX8_part : Nat := 30
abbrev nX8_put : Nat := 31
abbrev nX8_puts : Nat := 32
abbrev nX8_taken : Nat := 33
abbrev nX8_thrown : Nat := 34
abbrev nX8_throwsIf : Nat := 35
abbrev nX8_toeplitz : Nat := 36
abbrev nX8_told : Nat := 37
abbrev nX0_determinant : Nat := 38
abbrev nX1_commonDivisor : Nat := 39
abbrev nX2_missPart : Nat := 40
abbrev nX3_isNowhereBelowZero : Nat := 41
abbrev nX4_endsWhole : Nat := 42
abbrev nX4_guessOn : Nat := 43
abbrev nX4_wholeCount : Nat := 44
abbrev nX4_write : Nat := 45
abbrev nX5_polyHasNoInnerRoot : Nat := 46
abbrev nX5_pull : Nat := 47
abbrev nX5_weigh : Nat := 48
abbrev nX6_isEachPlace : Nat := 49
abbrev nX6_isEachWithin : Nat := 50
abbrev nX7_areLikenesses : Nat := 51
abbrev nX7_count : Nat := 52
abbrev nX7_feed : Nat := 53
abbrev nX7_filled : Nat := 54
abbrev nX7_isSlot : Nat := 55
abbrev nX7_lower : Nat := 56
abbrev nX8_block : Nat := 57
abbrev nX8_count : Nat := 58
abbrev nX8_counted : Nat := 59
abbrev nX8_cramer : Nat := 60
abbrev nX8_even : Nat := 61
abbrev nX8_feed : Nat := 62
abbrev nX8_filled : Nat := 63
abbrev nX8_given : Nat := 64
abbrev nX8_isBare : Nat := 65
abbrev nX8_isFree : Nat := 66
abbrev nX8_joined : Nat := 67
abbrev nX8_likeness : Nat := 68
abbrev nX8_lower : Nat := 69
abbrev nX8_missOf : Nat := 70
abbrev nX8_row : Nat := 71
abbrev nX8_rule : Nat := 72
abbrev nX8_set : Nat := 73
abbrev nX8_thin : Nat := 74
abbrev nX0_solve : Nat := 75
abbrev nX1_set : Nat := 76
abbrev nX4_jointPulls : Nat := 77
abbrev nX4_missAt : Nat := 78
abbrev nX5_diesAway : Nat := 79
abbrev nX5_showsMisses : Nat := 80
abbrev nX7_put : Nat := 81
abbrev nX7_row : Nat := 82
abbrev nX7_rule : Nat := 83
abbrev nX7_takeDrawn : Nat := 84
abbrev nX7_toldLikenesses : Nat := 85
abbrev nX7_toldRule : Nat := 86
abbrev nX8_amiss : Nat := 87
abbrev nX8_clear : Nat := 88
abbrev nX8_fill : Nat := 89
abbrev nX8_isSteady : Nat := 90
abbrev nX8_leftOf : Nat := 91
abbrev nX8_plus : Nat := 92
abbrev nX8_shareOf : Nat := 93
abbrev nX8_squares : Nat := 94
abbrev nX8_stepsOf : Nat := 95
abbrev nX8_times : Nat := 96
abbrev nX8_whole : Nat := 97
abbrev nX2_find : Nat := 98
abbrev nX3_solveStep : Nat := 99
abbrev nX4_pulledMisses : Nat := 100
abbrev nX4_squaredPulls : Nat := 101
abbrev nX4_squaresTop : Nat := 102
abbrev nX7_clear : Nat := 103
abbrev nX7_counted : Nat := 104
abbrev nX7_even : Nat := 105
abbrev nX7_given : Nat := 106
abbrev nX7_joined : Nat := 107
abbrev nX7_likeness : Nat := 108
abbrev nX7_plainRule : Nat := 109
abbrev nX7_steady : Nat := 110
abbrev nX7_thin : Nat := 111
abbrev nX7_weight : Nat := 112
abbrev nX8_eliminate : Nat := 113
abbrev nX8_left : Nat := 114
abbrev nX8_next : Nat := 115
abbrev nX8_right : Nat := 116
abbrev nX8_share : Nat := 117
abbrev nX8_solid : Nat := 118
abbrev nX8_steady : Nat := 119
abbrev nX8_steps : Nat := 120
abbrev nX8_weights : Nat := 121
abbrev nX3_stepsThere : Nat := 122
abbrev nX4_askForGaps : Nat := 123
abbrev nX4_worstPlace : Nat := 124
abbrev nX7_like : Nat := 125
abbrev nX7_next : Nat := 126
abbrev nX7_same : Nat := 127
abbrev nX7_squares : Nat := 128
abbrev nX7_whole : Nat := 129
abbrev nX8_likes : Nat := 130
abbrev nX8_weight : Nat := 131
abbrev nX3_holds : Nat := 132
abbrev nX7_amiss : Nat := 133
abbrev nX7_fill : Nat := 134
abbrev nX7_left : Nat := 135
abbrev nX7_share : Nat := 136
abbrev nX7_steps : Nat := 137
abbrev nX8_like : Nat := 138
abbrev nX8_same : Nat := 139
abbrev nX7_solid : Nat := 140
def jMIs : List (Nat × List (Nat × List (Nat × List (Nat × Instr)))) := [(11, [(0, mi_J6_bitCount_0f7a4), (1, mi_X0_wipeCells), (2, mi_X1_isLike), (3, mi_X1_part), (4, mi_X3_restTop), (5, mi_X3_take), (6, mi_X4_findGaps), (7, mi_X4_gapCount), (8, mi_X4_isGapless), (9, mi_X4_productsAt), (10, mi_X4_take), (11, mi_X5_take)]),
  (23, [(12, mi_X6_append), (13, mi_X6_pair), (14, mi_X7_at), (15, mi_X7_end), (16, mi_X7_isPart), (17, mi_X7_isWithin), (18, mi_X7_likenessesCount), (19, mi_X7_power), (20, mi_X7_ruleCount), (21, mi_X8_at), (22, mi_X8_common), (23, mi_X8_determinant)]),
  (35, [(24, mi_X8_end), (25, mi_X8_four), (26, mi_X8_gaps), (27, mi_X8_has), (28, mi_X8_hasRule), (29, mi_X8_isWhole), (30, mi_X8_part), (31, mi_X8_put), (32, mi_X8_puts), (33, mi_X8_taken), (34, mi_X8_thrown), (35, mi_X8_throwsIf)]),
  (47, [(36, mi_X8_toeplitz), (37, mi_X8_told), (38, mi_X0_determinant), (39, mi_X1_commonDivisor), (40, mi_X2_missPart), (41, mi_X3_isNowhereBelowZero), (42, mi_X4_endsWhole), (43, mi_X4_guessOn), (44, mi_X4_wholeCount), (45, mi_X4_write), (46, mi_X5_polyHasNoInnerRoot), (47, mi_X5_pull)]),
  (59, [(48, mi_X5_weigh), (49, mi_X6_isEachPlace), (50, mi_X6_isEachWithin), (51, mi_X7_areLikenesses), (52, mi_X7_count), (53, mi_X7_feed), (54, mi_X7_filled), (55, mi_X7_isSlot), (56, mi_X7_lower), (57, mi_X8_block), (58, mi_X8_count), (59, mi_X8_counted)]),
  (71, [(60, mi_X8_cramer), (61, mi_X8_even), (62, mi_X8_feed), (63, mi_X8_filled), (64, mi_X8_given), (65, mi_X8_isBare), (66, mi_X8_isFree), (67, mi_X8_joined), (68, mi_X8_likeness), (69, mi_X8_lower), (70, mi_X8_missOf), (71, mi_X8_row)]),
  (83, [(72, mi_X8_rule), (73, mi_X8_set), (74, mi_X8_thin), (75, mi_X0_solve), (76, mi_X1_set), (77, mi_X4_jointPulls), (78, mi_X4_missAt), (79, mi_X5_diesAway), (80, mi_X5_showsMisses), (81, mi_X7_put), (82, mi_X7_row), (83, mi_X7_rule)]),
  (95, [(84, mi_X7_takeDrawn), (85, mi_X7_toldLikenesses), (86, mi_X7_toldRule), (87, mi_X8_amiss), (88, mi_X8_clear), (89, mi_X8_fill), (90, mi_X8_isSteady), (91, mi_X8_leftOf), (92, mi_X8_plus), (93, mi_X8_shareOf), (94, mi_X8_squares), (95, mi_X8_stepsOf)]),
  (107, [(96, mi_X8_times), (97, mi_X8_whole), (98, mi_X2_find), (99, mi_X3_solveStep), (100, mi_X4_pulledMisses), (101, mi_X4_squaredPulls), (102, mi_X4_squaresTop), (103, mi_X7_clear), (104, mi_X7_counted), (105, mi_X7_even), (106, mi_X7_given), (107, mi_X7_joined)]),
  (119, [(108, mi_X7_likeness), (109, mi_X7_plainRule), (110, mi_X7_steady), (111, mi_X7_thin), (112, mi_X7_weight), (113, mi_X8_eliminate), (114, mi_X8_left), (115, mi_X8_next), (116, mi_X8_right), (117, mi_X8_share), (118, mi_X8_solid), (119, mi_X8_steady)]),
  (131, [(120, mi_X8_steps), (121, mi_X8_weights), (122, mi_X3_stepsThere), (123, mi_X4_askForGaps), (124, mi_X4_worstPlace), (125, mi_X7_like), (126, mi_X7_next), (127, mi_X7_same), (128, mi_X7_squares), (129, mi_X7_whole), (130, mi_X8_likes), (131, mi_X8_weight)]),
  (140, [(132, mi_X3_holds), (133, mi_X7_amiss), (134, mi_X7_fill), (135, mi_X7_left), (136, mi_X7_share), (137, mi_X7_steps), (138, mi_X8_like), (139, mi_X8_same), (140, mi_X7_solid)])]
def jMI (y pc : Nat) : Option Instr := match jal2 y jMIs with
  | some l => jal2 pc l
  | none => none
def me_J6_bitCount_0f7a4 : jE := (yJ6_bitCount_0f7a4, cJ6_bitCount_0f7a4, 1, (some .int), 0, 11, true, 1)
def me_X0_wipeCells : jE := (yX0_wipeCells, cX0_wipeCells, 3, none, 0, 0, false, 0)
def me_X1_isLike : jE := (yX1_isLike, cX1_isLike, 2, (some .boolean), 0, 1, false, 1)
def me_X1_part : jE := (yX1_part, cX1_part, 2, (some .long), 0, 1, false, 1)
def me_X3_restTop : jE := (yX3_restTop, cX3_restTop, 6, (some .long), 0, 3, false, 2)
def me_X3_take : jE := (yX3_take, cX3_take, 4, none, 0, 3, false, 2)
def me_X4_findGaps : jE := (yX4_findGaps, cX4_findGaps, 4, none, 0, 4, false, 1)
def me_X4_gapCount : jE := (yX4_gapCount, cX4_gapCount, 3, (some .int), 0, 4, false, 0)
def me_X4_isGapless : jE := (yX4_isGapless, cX4_isGapless, 4, (some .boolean), 0, 4, false, 2)
def me_X4_productsAt : jE := (yX4_productsAt, cX4_productsAt, 4, (some .int), 0, 4, false, 1)
def me_X4_take : jE := (yX4_take, cX4_take, 4, none, 0, 4, false, 2)
def me_X5_take : jE := (yX5_take, cX5_take, 7, none, 0, 5, false, 5)
def me_X6_append : jE := (yX6_append, cX6_append, 3, none, 0, 6, false, 1)
def me_X6_pair : jE := (yX6_pair, cX6_pair, 2, (some .int), 0, 6, false, 1)
def me_X7_at : jE := (yX7_at, cX7_at, 2, (some .int), 0, 7, false, 1)
def me_X7_end : jE := (yX7_end, cX7_end, 2, (some .boolean), 0, 7, false, 1)
def me_X7_isPart : jE := (yX7_isPart, cX7_isPart, 1, (some .boolean), 0, 7, true, 1)
def me_X7_isWithin : jE := (yX7_isWithin, cX7_isWithin, 3, (some .boolean), 0, 7, true, 3)
def me_X7_likenessesCount : jE := (yX7_likenessesCount, cX7_likenessesCount, 3, (some .int), 0, 7, false, 0)
def me_X7_power : jE := (yX7_power, cX7_power, 6, (some .long), 0, 7, true, 2)
def me_X7_ruleCount : jE := (yX7_ruleCount, cX7_ruleCount, 3, (some .int), 0, 7, false, 0)
def me_X8_at : jE := (yX8_at, cX8_at, 2, (some .int), 0, 8, false, 1)
def me_X8_common : jE := (yX8_common, cX8_common, 10, (some .long), 0, 8, true, 2)
def me_X8_determinant : jE := (yX8_determinant, cX8_determinant, 11, (some .long), 0, 8, false, 1)
def me_X8_end : jE := (yX8_end, cX8_end, 2, (some .boolean), 0, 8, false, 1)
def me_X8_four : jE := (yX8_four, cX8_four, 3, none, 0, 8, false, 1)
def me_X8_gaps : jE := (yX8_gaps, cX8_gaps, 3, (some .int), 0, 8, false, 0)
def me_X8_has : jE := (yX8_has, cX8_has, 2, (some .boolean), 0, 8, false, 1)
def me_X8_hasRule : jE := (yX8_hasRule, cX8_hasRule, 2, (some .boolean), 0, 8, false, 1)
def me_X8_isWhole : jE := (yX8_isWhole, cX8_isWhole, 5, (some .boolean), 0, 8, false, 2)
def me_X8_part : jE := (yX8_part, cX8_part, 5, (some .long), 0, 8, false, 3)
def me_X8_put : jE := (yX8_put, cX8_put, 3, (some .boolean), 0, 8, false, 2)
def me_X8_puts : jE := (yX8_puts, cX8_puts, 4, (some .boolean), 0, 8, false, 2)
def me_X8_taken : jE := (yX8_taken, cX8_taken, 2, (some .int), 0, 8, false, 0)
def me_X8_thrown : jE := (yX8_thrown, cX8_thrown, 1, (some .int), 0, 8, false, 0)
def me_X8_throwsIf : jE := (yX8_throwsIf, cX8_throwsIf, 2, (some .boolean), 0, 8, false, 1)
def me_X8_toeplitz : jE := (yX8_toeplitz, cX8_toeplitz, 5, none, 0, 8, false, 2)
def me_X8_told : jE := (yX8_told, cX8_told, 2, (some .long), 0, 8, false, 1)
def me_X0_determinant : jE := (yX0_determinant, cX0_determinant, 14, (some .long), 1, 0, false, 2)
def me_X1_commonDivisor : jE := (yX1_commonDivisor, cX1_commonDivisor, 11, (some .long), 1, 1, true, 2)
def me_X2_missPart : jE := (yX2_missPart, cX2_missPart, 6, (some .long), 1, 2, true, 3)
def me_X3_isNowhereBelowZero : jE := (yX3_isNowhereBelowZero, cX3_isNowhereBelowZero, 5, (some .boolean), 1, 3, false, 0)
def me_X4_endsWhole : jE := (yX4_endsWhole, cX4_endsWhole, 2, (some .boolean), 1, 4, false, 1)
def me_X4_guessOn : jE := (yX4_guessOn, cX4_guessOn, 9, none, 1, 4, false, 2)
def me_X4_wholeCount : jE := (yX4_wholeCount, cX4_wholeCount, 4, (some .int), 1, 4, false, 1)
def me_X4_write : jE := (yX4_write, cX4_write, 3, none, 1, 4, false, 2)
def me_X5_polyHasNoInnerRoot : jE := (yX5_polyHasNoInnerRoot, cX5_polyHasNoInnerRoot, 11, (some .boolean), 1, 5, false, 0)
def me_X5_pull : jE := (yX5_pull, cX5_pull, 2, (some .int), 1, 5, false, 1)
def me_X5_weigh : jE := (yX5_weigh, cX5_weigh, 11, none, 1, 5, false, 2)
def me_X6_isEachPlace : jE := (yX6_isEachPlace, cX6_isEachPlace, 3, (some .boolean), 1, 6, false, 1)
def me_X6_isEachWithin : jE := (yX6_isEachWithin, cX6_isEachWithin, 4, (some .boolean), 1, 6, false, 2)
def me_X7_areLikenesses : jE := (yX7_areLikenesses, cX7_areLikenesses, 3, (some .boolean), 1, 7, true, 2)
def me_X7_count : jE := (yX7_count, cX7_count, 2, (some .int), 1, 7, false, 1)
def me_X7_feed : jE := (yX7_feed, cX7_feed, 6, (some .int), 1, 7, false, 5)
def me_X7_filled : jE := (yX7_filled, cX7_filled, 3, (some .long), 1, 7, false, 2)
def me_X7_isSlot : jE := (yX7_isSlot, cX7_isSlot, 1, (some .boolean), 1, 7, true, 1)
def me_X7_lower : jE := (yX7_lower, cX7_lower, 2, (some .long), 1, 7, false, 1)
def me_X8_block : jE := (yX8_block, cX8_block, 3, (some .long), 1, 8, false, 2)
def me_X8_count : jE := (yX8_count, cX8_count, 4, (some .int), 1, 8, false, 1)
def me_X8_counted : jE := (yX8_counted, cX8_counted, 5, (some .boolean), 1, 8, false, 2)
def me_X8_cramer : jE := (yX8_cramer, cX8_cramer, 5, (some .long), 1, 8, false, 2)
def me_X8_even : jE := (yX8_even, cX8_even, 9, (some .int), 1, 8, false, 1)
def me_X8_feed : jE := (yX8_feed, cX8_feed, 6, (some .int), 1, 8, false, 5)
def me_X8_filled : jE := (yX8_filled, cX8_filled, 3, (some .long), 1, 8, false, 2)
def me_X8_given : jE := (yX8_given, cX8_given, 4, (some .boolean), 1, 8, false, 1)
def me_X8_isBare : jE := (yX8_isBare, cX8_isBare, 2, (some .boolean), 1, 8, false, 1)
def me_X8_isFree : jE := (yX8_isFree, cX8_isFree, 13, (some .boolean), 1, 8, false, 0)
def me_X8_joined : jE := (yX8_joined, cX8_joined, 6, (some .boolean), 1, 8, false, 3)
def me_X8_likeness : jE := (yX8_likeness, cX8_likeness, 3, (some .int), 1, 8, false, 2)
def me_X8_lower : jE := (yX8_lower, cX8_lower, 2, (some .long), 1, 8, false, 1)
def me_X8_missOf : jE := (yX8_missOf, cX8_missOf, 6, (some .long), 1, 8, false, 2)
def me_X8_row : jE := (yX8_row, cX8_row, 3, (some .int), 1, 8, false, 0)
def me_X8_rule : jE := (yX8_rule, cX8_rule, 8, (some .boolean), 1, 8, false, 5)
def me_X8_set : jE := (yX8_set, cX8_set, 7, none, 1, 8, false, 2)
def me_X8_thin : jE := (yX8_thin, cX8_thin, 5, (some .boolean), 1, 8, false, 2)
def me_X0_solve : jE := (yX0_solve, cX0_solve, 3, (some .boolean), 2, 0, false, 1)
def me_X1_set : jE := (yX1_set, cX1_set, 7, none, 2, 1, false, 2)
def me_X4_jointPulls : jE := (yX4_jointPulls, cX4_jointPulls, 7, (some .long), 2, 4, false, 3)
def me_X4_missAt : jE := (yX4_missAt, cX4_missAt, 7, (some .long), 2, 4, false, 2)
def me_X5_diesAway : jE := (yX5_diesAway, cX5_diesAway, 2, (some .boolean), 2, 5, false, 0)
def me_X5_showsMisses : jE := (yX5_showsMisses, cX5_showsMisses, 2, (some .boolean), 2, 5, false, 0)
def me_X7_put : jE := (yX7_put, cX7_put, 3, (some .boolean), 2, 7, false, 2)
def me_X7_row : jE := (yX7_row, cX7_row, 2, (some .int), 2, 7, false, 0)
def me_X7_rule : jE := (yX7_rule, cX7_rule, 7, (some .boolean), 2, 7, false, 5)
def me_X7_takeDrawn : jE := (yX7_takeDrawn, cX7_takeDrawn, 3, (some .boolean), 2, 7, false, 2)
def me_X7_toldLikenesses : jE := (yX7_toldLikenesses, cX7_toldLikenesses, 2, (some (.object "MemoryRows$Likenesses")), 2, 7, false, 1)
def me_X7_toldRule : jE := (yX7_toldRule, cX7_toldRule, 2, (some (.object "MemoryRows$Rule")), 2, 7, false, 1)
def me_X8_amiss : jE := (yX8_amiss, cX8_amiss, 13, (some .int), 2, 8, false, 1)
def me_X8_clear : jE := (yX8_clear, cX8_clear, 3, (some .int), 2, 8, false, 1)
def me_X8_fill : jE := (yX8_fill, cX8_fill, 8, (some .int), 2, 8, false, 1)
def me_X8_isSteady : jE := (yX8_isSteady, cX8_isSteady, 3, (some .boolean), 2, 8, false, 1)
def me_X8_leftOf : jE := (yX8_leftOf, cX8_leftOf, 5, none, 2, 8, false, 2)
def me_X8_plus : jE := (yX8_plus, cX8_plus, 7, none, 2, 8, false, 2)
def me_X8_shareOf : jE := (yX8_shareOf, cX8_shareOf, 6, none, 2, 8, false, 3)
def me_X8_squares : jE := (yX8_squares, cX8_squares, 6, (some .long), 2, 8, false, 2)
def me_X8_stepsOf : jE := (yX8_stepsOf, cX8_stepsOf, 3, (some .int), 2, 8, false, 1)
def me_X8_times : jE := (yX8_times, cX8_times, 9, none, 2, 8, false, 2)
def me_X8_whole : jE := (yX8_whole, cX8_whole, 4, (some .int), 2, 8, false, 1)
def me_X2_find : jE := (yX2_find, cX2_find, 10, none, 3, 2, false, 3)
def me_X3_solveStep : jE := (yX3_solveStep, cX3_solveStep, 5, none, 3, 3, false, 2)
def me_X4_pulledMisses : jE := (yX4_pulledMisses, cX4_pulledMisses, 6, (some .long), 3, 4, false, 2)
def me_X4_squaredPulls : jE := (yX4_squaredPulls, cX4_squaredPulls, 3, (some .long), 3, 4, false, 2)
def me_X4_squaresTop : jE := (yX4_squaresTop, cX4_squaresTop, 7, (some .long), 3, 4, false, 1)
def me_X7_clear : jE := (yX7_clear, cX7_clear, 3, (some .int), 3, 7, false, 1)
def me_X7_counted : jE := (yX7_counted, cX7_counted, 4, (some .boolean), 3, 7, false, 2)
def me_X7_even : jE := (yX7_even, cX7_even, 3, (some .int), 3, 7, false, 1)
def me_X7_given : jE := (yX7_given, cX7_given, 5, (some .boolean), 3, 7, false, 1)
def me_X7_joined : jE := (yX7_joined, cX7_joined, 8, (some .boolean), 3, 7, false, 3)
def me_X7_likeness : jE := (yX7_likeness, cX7_likeness, 4, (some .int), 3, 7, false, 2)
def me_X7_plainRule : jE := (yX7_plainRule, cX7_plainRule, 3, (some (.object "MemoryRows$Rule")), 3, 7, false, 1)
def me_X7_steady : jE := (yX7_steady, cX7_steady, 3, (some .int), 3, 7, false, 1)
def me_X7_thin : jE := (yX7_thin, cX7_thin, 6, (some .boolean), 3, 7, false, 2)
def me_X7_weight : jE := (yX7_weight, cX7_weight, 6, (some .long), 3, 7, false, 4)
def me_X8_eliminate : jE := (yX8_eliminate, cX8_eliminate, 10, none, 3, 8, false, 2)
def me_X8_left : jE := (yX8_left, cX8_left, 4, (some .long), 3, 8, false, 3)
def me_X8_next : jE := (yX8_next, cX8_next, 12, (some .long), 3, 8, false, 3)
def me_X8_right : jE := (yX8_right, cX8_right, 8, none, 3, 8, false, 2)
def me_X8_share : jE := (yX8_share, cX8_share, 5, (some .long), 3, 8, false, 4)
def me_X8_solid : jE := (yX8_solid, cX8_solid, 3, (some .int), 3, 8, false, 1)
def me_X8_steady : jE := (yX8_steady, cX8_steady, 2, (some .int), 3, 8, false, 1)
def me_X8_steps : jE := (yX8_steps, cX8_steps, 2, (some .int), 3, 8, false, 1)
def me_X8_weights : jE := (yX8_weights, cX8_weights, 10, none, 3, 8, false, 2)
def me_X3_stepsThere : jE := (yX3_stepsThere, cX3_stepsThere, 3, (some .int), 4, 3, false, 1)
def me_X4_askForGaps : jE := (yX4_askForGaps, cX4_askForGaps, 6, none, 4, 4, false, 3)
def me_X4_worstPlace : jE := (yX4_worstPlace, cX4_worstPlace, 12, (some .int), 4, 4, false, 1)
def me_X7_like : jE := (yX7_like, cX7_like, 5, (some .long), 4, 7, false, 3)
def me_X7_next : jE := (yX7_next, cX7_next, 5, (some .long), 4, 7, false, 3)
def me_X7_same : jE := (yX7_same, cX7_same, 6, (some .int), 4, 7, false, 2)
def me_X7_squares : jE := (yX7_squares, cX7_squares, 4, (some .long), 4, 7, false, 2)
def me_X7_whole : jE := (yX7_whole, cX7_whole, 3, (some .int), 4, 7, false, 1)
def me_X8_likes : jE := (yX8_likes, cX8_likes, 9, none, 4, 8, false, 1)
def me_X8_weight : jE := (yX8_weight, cX8_weight, 5, (some .long), 4, 8, false, 4)
def me_X3_holds : jE := (yX3_holds, cX3_holds, 3, (some .boolean), 5, 3, false, 1)
def me_X7_amiss : jE := (yX7_amiss, cX7_amiss, 8, (some .int), 5, 7, false, 1)
def me_X7_fill : jE := (yX7_fill, cX7_fill, 5, (some .int), 5, 7, false, 1)
def me_X7_left : jE := (yX7_left, cX7_left, 5, (some .long), 5, 7, false, 3)
def me_X7_share : jE := (yX7_share, cX7_share, 6, (some .long), 5, 7, false, 4)
def me_X7_steps : jE := (yX7_steps, cX7_steps, 3, (some .int), 5, 7, false, 1)
def me_X8_like : jE := (yX8_like, cX8_like, 4, (some .long), 5, 8, false, 3)
def me_X8_same : jE := (yX8_same, cX8_same, 4, (some .int), 5, 8, false, 2)
def me_X7_solid : jE := (yX7_solid, cX7_solid, 3, (some .int), 6, 7, false, 1)
def jMEs : List (Nat × List (Nat × jE)) := [(11, [(0, me_J6_bitCount_0f7a4), (1, me_X0_wipeCells), (2, me_X1_isLike), (3, me_X1_part), (4, me_X3_restTop), (5, me_X3_take), (6, me_X4_findGaps), (7, me_X4_gapCount), (8, me_X4_isGapless), (9, me_X4_productsAt), (10, me_X4_take), (11, me_X5_take)]),
  (23, [(12, me_X6_append), (13, me_X6_pair), (14, me_X7_at), (15, me_X7_end), (16, me_X7_isPart), (17, me_X7_isWithin), (18, me_X7_likenessesCount), (19, me_X7_power), (20, me_X7_ruleCount), (21, me_X8_at), (22, me_X8_common), (23, me_X8_determinant)]),
  (35, [(24, me_X8_end), (25, me_X8_four), (26, me_X8_gaps), (27, me_X8_has), (28, me_X8_hasRule), (29, me_X8_isWhole), (30, me_X8_part), (31, me_X8_put), (32, me_X8_puts), (33, me_X8_taken), (34, me_X8_thrown), (35, me_X8_throwsIf)]),
  (47, [(36, me_X8_toeplitz), (37, me_X8_told), (38, me_X0_determinant), (39, me_X1_commonDivisor), (40, me_X2_missPart), (41, me_X3_isNowhereBelowZero), (42, me_X4_endsWhole), (43, me_X4_guessOn), (44, me_X4_wholeCount), (45, me_X4_write), (46, me_X5_polyHasNoInnerRoot), (47, me_X5_pull)]),
  (59, [(48, me_X5_weigh), (49, me_X6_isEachPlace), (50, me_X6_isEachWithin), (51, me_X7_areLikenesses), (52, me_X7_count), (53, me_X7_feed), (54, me_X7_filled), (55, me_X7_isSlot), (56, me_X7_lower), (57, me_X8_block), (58, me_X8_count), (59, me_X8_counted)]),
  (71, [(60, me_X8_cramer), (61, me_X8_even), (62, me_X8_feed), (63, me_X8_filled), (64, me_X8_given), (65, me_X8_isBare), (66, me_X8_isFree), (67, me_X8_joined), (68, me_X8_likeness), (69, me_X8_lower), (70, me_X8_missOf), (71, me_X8_row)]),
  (83, [(72, me_X8_rule), (73, me_X8_set), (74, me_X8_thin), (75, me_X0_solve), (76, me_X1_set), (77, me_X4_jointPulls), (78, me_X4_missAt), (79, me_X5_diesAway), (80, me_X5_showsMisses), (81, me_X7_put), (82, me_X7_row), (83, me_X7_rule)]),
  (95, [(84, me_X7_takeDrawn), (85, me_X7_toldLikenesses), (86, me_X7_toldRule), (87, me_X8_amiss), (88, me_X8_clear), (89, me_X8_fill), (90, me_X8_isSteady), (91, me_X8_leftOf), (92, me_X8_plus), (93, me_X8_shareOf), (94, me_X8_squares), (95, me_X8_stepsOf)]),
  (107, [(96, me_X8_times), (97, me_X8_whole), (98, me_X2_find), (99, me_X3_solveStep), (100, me_X4_pulledMisses), (101, me_X4_squaredPulls), (102, me_X4_squaresTop), (103, me_X7_clear), (104, me_X7_counted), (105, me_X7_even), (106, me_X7_given), (107, me_X7_joined)]),
  (119, [(108, me_X7_likeness), (109, me_X7_plainRule), (110, me_X7_steady), (111, me_X7_thin), (112, me_X7_weight), (113, me_X8_eliminate), (114, me_X8_left), (115, me_X8_next), (116, me_X8_right), (117, me_X8_share), (118, me_X8_solid), (119, me_X8_steady)]),
  (131, [(120, me_X8_steps), (121, me_X8_weights), (122, me_X3_stepsThere), (123, me_X4_askForGaps), (124, me_X4_worstPlace), (125, me_X7_like), (126, me_X7_next), (127, me_X7_same), (128, me_X7_squares), (129, me_X7_whole), (130, me_X8_likes), (131, me_X8_weight)]),
  (140, [(132, me_X3_holds), (133, me_X7_amiss), (134, me_X7_fill), (135, me_X7_left), (136, me_X7_share), (137, me_X7_steps), (138, me_X8_like), (139, me_X8_same), (140, me_X7_solid)])]
def jMT (y : Nat) : Option jE := jal2 y jMEs
def jFT_0 : List (Nat × List (Nat × (Nat × Nat × Bool))) := [(26, [(11, (0, 0, false)), (16, (0, 1, false)), (20, (0, 2, false)), (23, (0, 3, false)), (26, (0, 4, false))])]
def jFT_1 : List (Nat × List (Nat × (Nat × Nat × Bool))) := [(17, [(7, (1, 1, false)), (17, (1, 0, false))])]
def jFT_2 : List (Nat × List (Nat × (Nat × Nat × Bool))) := [(66, [(9, (2, 0, false)), (15, (2, 1, false)), (30, (5, 2, true)), (34, (0, 0, true)), (38, (5, 1, true)), (41, (0, 1, true)), (54, (5, 5, true)), (66, (0, 4, true))]), (78, [(67, (0, 2, true)), (72, (5, 3, true)), (75, (5, 6, true)), (78, (5, 4, true))])]
def jFT_3 : List (Nat × List (Nat × (Nat × Nat × Bool))) := [(43, [(9, (3, 0, false)), (15, (3, 1, false)), (19, (0, 1, true)), (25, (0, 0, true)), (39, (0, 4, true)), (43, (0, 2, true))])]
def jFT_4 : List (Nat × List (Nat × (Nat × Nat × Bool))) := [(68, [(9, (4, 0, false)), (15, (4, 1, false)), (18, (4, 2, false)), (32, (5, 1, true)), (41, (5, 2, true)), (44, (5, 5, true)), (59, (0, 1, true)), (68, (0, 0, true))])]
def jFT_5 : List (Nat × List (Nat × (Nat × Nat × Bool))) := [(36, [(9, (5, 1, false)), (15, (5, 4, false)), (18, (5, 5, false)), (22, (5, 6, false)), (25, (5, 7, false)), (29, (5, 0, false)), (33, (5, 2, false)), (36, (5, 3, false))])]
def jFT_6 : List (Nat × List (Nat × (Nat × Nat × Bool))) := [(15, [(9, (6, 0, false)), (15, (6, 1, false))])]
def jFT_7 : List (Nat × List (Nat × (Nat × Nat × Bool))) := [(54, [(10, (7, 0, false)), (18, (7, 1, false)), (24, (7, 2, false)), (33, (7, 3, false)), (40, (7, 4, false)), (47, (7, 5, false)), (51, (7, 6, false)), (54, (7, 7, false))]), (102, [(58, (7, 8, false)), (61, (7, 9, false)), (68, (7, 10, false)), (72, (7, 11, false)), (75, (7, 12, false)), (79, (7, 14, false)), (82, (6, 1, true)), (102, (6, 0, true))]), (230, [(135, (5, 1, true)), (156, (2, 0, true)), (159, (2, 1, true)), (185, (3, 1, true)), (194, (3, 0, true)), (209, (0, 2, true)), (210, (0, 4, true)), (230, (7, 13, false))]), (299, [(233, (4, 2, true)), (234, (4, 0, true)), (244, (5, 2, true)), (285, (7, 15, false)), (297, (5, 0, true)), (299, (5, 3, true))])]
def jFT_8 : List (Nat × List (Nat × (Nat × Nat × Bool))) := [(33, [(7, (8, 1, false)), (13, (8, 5, false)), (17, (8, 6, false)), (21, (8, 7, false)), (24, (8, 8, false)), (27, (8, 9, false)), (30, (8, 10, false)), (33, (8, 11, false))]), (58, [(36, (8, 12, false)), (40, (8, 13, false)), (43, (8, 14, false)), (46, (8, 15, false)), (49, (8, 16, false)), (52, (8, 17, false)), (55, (8, 18, false)), (58, (8, 19, false))]), (82, [(61, (8, 20, false)), (64, (8, 21, false)), (67, (8, 22, false)), (70, (8, 23, false)), (73, (8, 24, false)), (76, (8, 25, false)), (79, (8, 26, false)), (82, (8, 28, false))]), (115, [(85, (8, 29, false)), (88, (8, 32, false)), (91, (8, 33, false)), (94, (8, 34, false)), (97, (8, 35, false)), (100, (8, 0, false)), (104, (8, 2, false)), (115, (8, 3, false))]), (238, [(119, (8, 4, false)), (176, (8, 27, false)), (209, (8, 30, false)), (229, (8, 31, false)), (232, (8, 36, false)), (235, (8, 37, false)), (238, (8, 38, false))])]
def jFTs : List (Nat × List (Nat × List (Nat × (Nat × Nat × Bool)))) := [(0, jFT_0), (1, jFT_1), (2, jFT_2), (3, jFT_3), (4, jFT_4), (5, jFT_5), (6, jFT_6), (7, jFT_7), (8, jFT_8)]
def jFT (c i : Nat) : Option (Nat × Nat × Bool) := match jal c jFTs with
  | some l => jal2 i l
  | none => none
def jMM_1 : List (Nat × List (Nat × Nat)) := [(20, [(20, 1)])]
def jMM_2 : List (Nat × List (Nat × Nat)) := [(68, [(48, 0), (68, 2)])]
def jMM_3 : List (Nat × List (Nat × Nat)) := [(29, [(29, 0)])]
def jMM_4 : List (Nat × List (Nat × Nat)) := [(22, [(22, 2)])]
def jMM_5 : List (Nat × List (Nat × Nat)) := [(43, [(43, 1)])]
def jMM_7 : List (Nat × List (Nat × Nat)) := [(188, [(188, 3)])]
def jMMs : List (Nat × List (Nat × List (Nat × Nat))) := [(1, jMM_1), (2, jMM_2), (3, jMM_3), (4, jMM_4), (5, jMM_5), (7, jMM_7)]
def jMM (c i : Nat) : Option Nat := match jal c jMMs with
  | some l => jal2 i l
  | none => none
def jCT_0 : List (Nat × List (Nat × (Nat × Bool))) := [(34, [(30, (38, false)), (34, (0, false))])]
def jCT_1 : List (Nat × List (Nat × (Nat × Bool))) := [(13, [(13, (39, false))])]
def jCT_2 : List (Nat × List (Nat × (Nat × Bool))) := [(62, [(19, (48, false)), (25, (1, false)), (44, (40, false)), (58, (75, false)), (62, (19, true))])]
def jCT_3 : List (Nat × List (Nat × (Nat × Bool))) := [(54, [(35, (75, false)), (46, (99, false)), (50, (4, false)), (54, (122, false))])]
def jCT_4 : List (Nat × List (Nat × (Nat × Bool))) := [(76, [(28, (8, false)), (37, (19, true)), (47, (47, false)), (51, (78, false)), (55, (6, false)), (65, (100, false)), (72, (77, false)), (76, (101, false))])]
def jCT_5 : List (Nat × List (Nat × (Nat × Bool))) := [(55, [(39, (46, false)), (51, (19, true)), (55, (17, true))])]
def jCT_6 : List (Nat × List (Nat × (Nat × Bool))) := [(19, [(19, (17, true))])]
def jCT_7 : List (Nat × List (Nat × (Nat × Bool))) := [(118, [(86, (12, false)), (90, (55, false)), (94, (17, false)), (98, (50, false)), (106, (11, false)), (110, (86, false)), (114, (79, false)), (118, (80, false))]), (167, [(121, (16, false)), (131, (48, false)), (138, (19, false)), (142, (76, false)), (146, (3, false)), (152, (98, false)), (163, (2, false)), (167, (13, false))]), (217, [(171, (84, false)), (174, (7, false)), (178, (9, false)), (181, (85, false)), (199, (122, false)), (205, (99, false)), (213, (4, false)), (217, (132, false))]), (256, [(221, (41, false)), (224, (49, false)), (227, (10, false)), (237, (45, false)), (241, (109, false)), (247, (42, false)), (252, (43, false)), (256, (44, false))]), (294, [(262, (102, false)), (266, (123, false)), (270, (75, false)), (275, (124, false)), (278, (100, false)), (282, (101, false)), (291, (20, false)), (294, (18, false))]), (306, [(302, (51, false)), (306, (5, false))])]
def jCT_8 : List (Nat × List (Nat × (Nat × Bool))) := [(141, [(107, (25, false)), (111, (22, false)), (122, (73, false)), (126, (33, false)), (130, (66, false)), (134, (28, false)), (138, (90, false)), (141, (96, false))]), (169, [(144, (92, false)), (147, (35, false)), (151, (121, false)), (155, (37, false)), (159, (116, false)), (163, (113, false)), (166, (130, false)), (169, (32, false))]), (200, [(173, (26, false)), (179, (27, false)), (182, (36, false)), (185, (23, false)), (188, (57, false)), (192, (95, false)), (196, (93, false)), (200, (91, false))]), (226, [(213, (65, false)), (216, (29, false)), (219, (30, false)), (223, (70, false)), (226, (60, false))])]
def jCTs : List (Nat × List (Nat × List (Nat × (Nat × Bool)))) := [(0, jCT_0), (1, jCT_1), (2, jCT_2), (3, jCT_3), (4, jCT_4), (5, jCT_5), (6, jCT_6), (7, jCT_7), (8, jCT_8)]
def jCT (c i : Nat) : Option (Nat × Bool) := match jal c jCTs with
  | some l => jal2 i l
  | none => none
def jKT_5 : List (Nat × List (Nat × Value)) := [(49, [(49, .long (-1))])]
def jKT_8 : List (Nat × List (Nat × Value)) := [(207, [(203, .long (2)), (205, .long (4)), (207, .long (-4))])]
def jKT_11 : List (Nat × List (Nat × Value)) := [(267, [(265, .int (1431655765)), (266, .int (858993459)), (267, .int (252645135))])]
def jKTs : List (Nat × List (Nat × List (Nat × Value))) := [(5, jKT_5), (8, jKT_8), (11, jKT_11)]
def jKT (c i : Nat) : Option Value := match jal c jKTs with
  | some l => jal2 i l
  | none => none
def jLVs : List (Nat × List (Nat × List (Nat × List Nat))) := [(12, [(1, [(2, [0, 1]), (9, [0, 1, 2])]), (4, [(16, [0, 1, 2, 3, 5])]), (5, [(7, [0, 1, 2, 3])]), (6, [(4, [0, 1, 2, 3])]), (7, [(4, [0, 1, 2])]), (8, [(16, [0, 2, 3])]), (9, [(4, [0, 1, 2, 3])]), (10, [(7, [0, 1, 2, 3])]), (11, [(30, [0, 1, 6])]), (12, [(3, [0, 1, 2])])]),
  (36, [(18, [(4, [0, 1, 2])]), (19, [(5, [0, 2, 3, 5])]), (20, [(4, [0, 1, 2])]), (22, [(28, [4, 6])]), (23, [(4, [0, 1, 2, 3]), (24, [0, 1, 2, 3, 5]), (40, [0, 1, 2, 3, 5, 6, 7, 9]), (72, [0, 1, 2, 3, 5, 7, 9]), (81, [0, 1, 2, 3, 5, 7, 9, 10]), (151, [0, 1, 2, 3, 5, 7, 9])]), (25, [(3, [0, 1, 2])]), (26, [(4, [0, 1, 2])]), (29, [(19, [0, 1, 2, 3, 4])]), (32, [(46, [0, 1, 2, 3]), (99, [0, 1, 2, 3])]), (36, [(2, [0, 1, 2, 3]), (10, [0, 1, 2, 3, 4])])]),
  (51, [(38, [(14, [0, 1, 2, 3, 4]), (35, [0, 1, 2, 3, 4, 5, 6, 8])]), (39, [(15, [4, 6, 8])]), (40, [(31, [0, 1, 2, 3, 5])]), (43, [(13, [0, 1, 2, 3, 5]), (58, [1, 2, 5]), (75, [1, 2, 5, 6, 8])]), (44, [(7, [0, 1, 2, 3])]), (46, [(2, [0, 1]), (40, [0, 1, 2, 4, 6])]), (48, [(53, [0, 2, 3, 4, 5, 7]), (93, [0, 2, 3, 4, 5, 7, 8, 10])]), (49, [(2, [0, 1, 2])]), (50, [(2, [0, 1, 2, 3])]), (51, [(22, [0, 1, 2])])]),
  (74, [(58, [(46, [0, 2, 3]), (79, [0, 2, 3])]), (59, [(25, [0, 1, 2, 3]), (40, [0, 1, 2, 3, 4])]), (60, [(2, [0, 1, 2, 3]), (10, [0, 1, 2, 3, 4])]), (64, [(32, [0, 1, 2, 3])]), (66, [(2, [0, 1]), (175, [0, 1, 10, 12])]), (67, [(58, [0, 1, 2, 3, 4, 5])]), (70, [(5, [0, 1, 2, 3, 5])]), (71, [(20, [0, 1, 2]), (68, [0, 1, 2])]), (72, [(78, [0, 1, 2, 3, 4, 5, 6, 7]), (157, [0, 1, 3, 4, 7])]), (74, [(29, [0, 1, 2, 3, 4])])]),
  (93, [(75, [(28, [0, 1, 2])]), (77, [(13, [0, 1, 2, 3, 4, 6])]), (78, [(5, [0, 1, 2, 3, 5])]), (79, [(13, [0, 1])]), (80, [(13, [0, 1])]), (87, [(45, [0, 1, 2, 3, 5, 7]), (68, [0, 1, 2, 3, 5, 7, 8, 10, 12])]), (88, [(30, [0, 1, 2])]), (89, [(19, [0, 1, 2, 3]), (71, [0, 1, 2, 3]), (79, [0, 1, 2, 3, 4]), (96, [0, 1, 2, 3, 4, 5, 7]), (204, [0, 2, 3, 5])]), (90, [(15, [0, 1, 2])]), (93, [(9, [0, 1, 2, 3, 4])])]),
  (107, [(94, [(36, [0, 1, 2, 3, 5])]), (95, [(2, [0, 1, 2])]), (97, [(19, [0, 1, 2, 3])]), (98, [(13, [0, 1, 2, 3, 4]), (60, [0, 1, 2, 3, 4]), (72, [0, 1, 2, 3, 4, 5]), (167, [0, 1, 2, 3, 4, 6]), (207, [0, 1, 2, 3, 4, 6]), (234, [0, 1, 2, 3, 4, 6, 7, 9])]), (99, [(2, [0, 1, 2, 3]), (25, [0, 1, 2, 3, 4])]), (100, [(12, [0, 1, 2, 3, 5])]), (102, [(8, [0, 1, 2, 4])]), (104, [(30, [0, 1, 2, 3])]), (106, [(45, [0, 1, 3, 4])]), (107, [(51, [0, 1, 4, 5, 6, 7])])]),
  (130, [(111, [(32, [0, 1, 3, 4, 5])]), (113, [(2, [0, 1, 2, 3]), (26, [0, 1, 2, 3, 4]), (137, [0, 1, 2, 4]), (234, [0, 1, 2, 4, 5, 7, 9])]), (115, [(50, [0, 1, 2, 3, 4, 5]), (126, [0, 1, 2, 3, 5, 6]), (174, [0, 1, 2, 3, 5, 6]), (192, [0, 1, 2, 3, 5, 6, 7, 9, 11])]), (116, [(14, [0, 1, 2, 3, 5, 7])]), (121, [(10, [0, 1, 2, 3, 4]), (90, [0, 1, 2, 3, 4, 5, 7, 9])]), (122, [(2, [0, 1, 2])]), (123, [(8, [0, 1, 2, 3, 4]), (37, [0, 1, 2, 3, 4, 5])]), (124, [(10, [0, 1, 2, 3, 5, 7])]), (127, [(75, [0, 5])]), (130, [(17, [0, 1, 2, 3]), (25, [0, 1, 2, 3, 4]), (64, [0, 1, 2, 3, 4]), (191, [0, 1, 2, 3]), (210, [0, 1, 2, 3]), (291, [0, 1, 2, 3]), (332, [0, 1, 2, 3, 4, 6, 8])])]),
  (139, [(134, [(60, [0, 3, 4])]), (139, [(46, [0, 2, 3]), (89, [0, 3])])])]
def jLV0 (y pc : Nat) : Option (List Nat) := match jal2 y jLVs with
  | some l => jal pc l
  | none => none
def jT0 : jT := (jSH, jMI, jMT, jFT, jCT, jKT, jLV0, jMM)
