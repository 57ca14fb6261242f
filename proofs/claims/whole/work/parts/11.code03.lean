set_option maxRecDepth 100000 in
def zc_67 : List zE := [(0, 1, .aload_n 0, .aload 0, 0, 0), (1, 1, .iload_n 1, .iload 1, 0, 0), (2, 3, .invokevirtual 102, .invokevirtual 680501, 3012, 102), (5, 1, .aload_n 0, .aload 0, 0, 0), (6, 3, .getfield 35, .getfield 504, 1225, 35), (9, 3, .ifCond .ne 64, .ifCond .ne 37, 0, 0), (12, 1, .aload_n 0, .aload 0, 0, 0), (13, 3, .getfield 22, .getfield 502, 1223, 22), (16, 1, .aload_n 0, .aload 0, 0, 0), (17, 3, .getfield 32, .getfield 503, 1224, 32), (20, 3, .if_icmp .ge 53, .if_icmp .ge 37, 0, 0), (23, 1, .aload_n 0, .aload 0, 0, 0), (24, 3, .invokevirtual 57, .invokevirtual 590510, 2231, 57), (27, 2, .bipush 43, .iconst 43, 0, 0), (29, 3, .if_icmp .eq 12, .if_icmp .eq 19, 0, 0), (32, 1, .aload_n 0, .aload 0, 0, 0), (33, 3, .invokevirtual 57, .invokevirtual 590510, 2231, 57), (36, 2, .bipush 45, .iconst 45, 0, 0), (38, 3, .if_icmp .ne 35, .if_icmp .ne 37, 0, 0), (41, 1, .aload_n 0, .aload 0, 0, 0), (42, 3, .invokevirtual 57, .invokevirtual 590510, 2231, 57), (45, 1, .istore_n 2, .istore 2, 0, 0), (46, 1, .aload_n 0, .aload 0, 0, 0), (47, 1, .dup, .dup, 0, 0), (48, 3, .getfield 22, .getfield 502, 1223, 22), (51, 1, .iconst 1, .iconst 1, 0, 0), (52, 1, .iadd, .iadd, 0, 0), (53, 3, .putfield 22, .putfield 502, 1223, 22), (56, 1, .aload_n 0, .aload 0, 0, 0), (57, 1, .iload_n 1, .iload 1, 0, 0), (58, 3, .invokevirtual 102, .invokevirtual 680501, 3012, 102), (61, 1, .aload_n 0, .aload 0, 0, 0), (62, 3, .getfield 18, .getstatic 501, 1222, 18), (65, 1, .iload_n 2, .iload 2, 0, 0), (66, 1, .iconst 0, .iconst 0, 0, 0), (67, 3, .invokevirtual 98, .invokevirtual 350202, 3031, 98), (70, 3, .goto (-65), .goto 3, 0, 0), (73, 1, .return_, .return_, 0, 0)]
set_option maxRecDepth 100000 in
def zi_67 : List Instr := [.aload 0, .iload 1, .invokevirtual 680501, .aload 0, .getfield 504, .ifCond .ne 37, .aload 0, .getfield 502, .aload 0, .getfield 503, .if_icmp .ge 37, .aload 0, .invokevirtual 590510, .iconst 43, .if_icmp .eq 19, .aload 0, .invokevirtual 590510, .iconst 45, .if_icmp .ne 37, .aload 0, .invokevirtual 590510, .istore 2, .aload 0, .dup, .getfield 502, .iconst 1, .iadd, .putfield 502, .aload 0, .iload 1, .invokevirtual 680501, .aload 0, .getstatic 501, .iload 2, .iconst 0, .invokevirtual 350202, .goto 3, .return_]
set_option maxRecDepth 100000 in
theorem ze_67 : zc_67.map (fun e => e.2.2.2.1) = zi_67 := rfl
set_option maxRecDepth 100000 in
theorem zk_67 : zckm (zmd 67) false zc_67 zmd [35, 59, 68] = true := by decide +kernel
set_option maxRecDepth 100000 in
def zc_68 : List zE := [(0, 1, .aload_n 0, .aload 0, 0, 0), (1, 1, .iload_n 1, .iload 1, 0, 0), (2, 3, .invokevirtual 105, .invokevirtual 690501, 3016, 105), (5, 1, .aload_n 0, .aload 0, 0, 0), (6, 3, .getfield 35, .getfield 504, 1225, 35), (9, 3, .ifCond .ne 73, .ifCond .ne 41, 0, 0), (12, 1, .aload_n 0, .aload 0, 0, 0), (13, 3, .getfield 22, .getfield 502, 1223, 22), (16, 1, .aload_n 0, .aload 0, 0, 0), (17, 3, .getfield 32, .getfield 503, 1224, 32), (20, 3, .if_icmp .ge 62, .if_icmp .ge 41, 0, 0), (23, 1, .aload_n 0, .aload 0, 0, 0), (24, 3, .invokevirtual 57, .invokevirtual 590510, 2231, 57), (27, 2, .bipush 42, .iconst 42, 0, 0), (29, 3, .if_icmp .eq 21, .if_icmp .eq 23, 0, 0), (32, 1, .aload_n 0, .aload 0, 0, 0), (33, 3, .invokevirtual 57, .invokevirtual 590510, 2231, 57), (36, 2, .bipush 47, .iconst 47, 0, 0), (38, 3, .if_icmp .eq 12, .if_icmp .eq 23, 0, 0), (41, 1, .aload_n 0, .aload 0, 0, 0), (42, 3, .invokevirtual 57, .invokevirtual 590510, 2231, 57), (45, 2, .bipush 37, .iconst 37, 0, 0), (47, 3, .if_icmp .ne 35, .if_icmp .ne 41, 0, 0), (50, 1, .aload_n 0, .aload 0, 0, 0), (51, 3, .invokevirtual 57, .invokevirtual 590510, 2231, 57), (54, 1, .istore_n 2, .istore 2, 0, 0), (55, 1, .aload_n 0, .aload 0, 0, 0), (56, 1, .dup, .dup, 0, 0), (57, 3, .getfield 22, .getfield 502, 1223, 22), (60, 1, .iconst 1, .iconst 1, 0, 0), (61, 1, .iadd, .iadd, 0, 0), (62, 3, .putfield 22, .putfield 502, 1223, 22), (65, 1, .aload_n 0, .aload 0, 0, 0), (66, 1, .iload_n 1, .iload 1, 0, 0), (67, 3, .invokevirtual 105, .invokevirtual 690501, 3016, 105), (70, 1, .aload_n 0, .aload 0, 0, 0), (71, 3, .getfield 18, .getstatic 501, 1222, 18), (74, 1, .iload_n 2, .iload 2, 0, 0), (75, 1, .iconst 0, .iconst 0, 0, 0), (76, 3, .invokevirtual 98, .invokevirtual 350202, 3031, 98), (79, 3, .goto (-74), .goto 3, 0, 0), (82, 1, .return_, .return_, 0, 0)]
set_option maxRecDepth 100000 in
def zi_68 : List Instr := [.aload 0, .iload 1, .invokevirtual 690501, .aload 0, .getfield 504, .ifCond .ne 41, .aload 0, .getfield 502, .aload 0, .getfield 503, .if_icmp .ge 41, .aload 0, .invokevirtual 590510, .iconst 42, .if_icmp .eq 23, .aload 0, .invokevirtual 590510, .iconst 47, .if_icmp .eq 23, .aload 0, .invokevirtual 590510, .iconst 37, .if_icmp .ne 41, .aload 0, .invokevirtual 590510, .istore 2, .aload 0, .dup, .getfield 502, .iconst 1, .iadd, .putfield 502, .aload 0, .iload 1, .invokevirtual 690501, .aload 0, .getstatic 501, .iload 2, .iconst 0, .invokevirtual 350202, .goto 3, .return_]
set_option maxRecDepth 100000 in
theorem ze_68 : zc_68.map (fun e => e.2.2.2.1) = zi_68 := rfl
set_option maxRecDepth 100000 in
theorem zk_68 : zckm (zmd 68) false zc_68 zmd [35, 59, 69] = true := by decide +kernel
set_option maxRecDepth 100000 in
def zc_69 : List zE := [(0, 1, .aload_n 0, .aload 0, 0, 0), (1, 3, .getfield 35, .getfield 504, 1225, 35), (4, 3, .ifCond .eq 4, .ifCond .eq 4, 0, 0), (7, 1, .return_, .return_, 0, 0), (8, 1, .aload_n 0, .aload 0, 0, 0), (9, 3, .invokevirtual 57, .invokevirtual 590510, 2231, 57), (12, 1, .istore_n 2, .istore 2, 0, 0), (13, 1, .iload_n 2, .iload 2, 0, 0), (14, 2, .bipush 91, .iconst 91, 0, 0), (16, 3, .if_icmp .ne 41, .if_icmp .ne 32, 0, 0), (19, 1, .iload_n 1, .iload 1, 0, 0), (20, 2, .bipush 6, .iconst 6, 0, 0), (22, 3, .if_icmp .lt 9, .if_icmp .lt 17, 0, 0), (25, 1, .aload_n 0, .aload 0, 0, 0), (26, 1, .iconst 5, .iconst 5, 0, 0), (27, 3, .invokevirtual 61, .invokevirtual 600501, 2235, 61), (30, 1, .return_, .return_, 0, 0), (31, 1, .aload_n 0, .aload 0, 0, 0), (32, 1, .dup, .dup, 0, 0), (33, 3, .getfield 22, .getfield 502, 1223, 22), (36, 1, .iconst 1, .iconst 1, 0, 0), (37, 1, .iadd, .iadd, 0, 0), (38, 3, .putfield 22, .putfield 502, 1223, 22), (41, 1, .aload_n 0, .aload 0, 0, 0), (42, 1, .iload_n 1, .iload 1, 0, 0), (43, 1, .iconst 1, .iconst 1, 0, 0), (44, 1, .iadd, .iadd, 0, 0), (45, 3, .invokevirtual 71, .invokevirtual 670501, 3008, 71), (48, 1, .aload_n 0, .aload 0, 0, 0), (49, 2, .bipush 93, .iconst 93, 0, 0), (51, 3, .invokevirtual 50, .invokevirtual 610501, 3020, 50), (54, 3, .goto 22, .goto 41, 0, 0), (57, 1, .iload_n 2, .iload 2, 0, 0), (58, 3, .invokestatic 108, .invokestatic 720011, 3024, 108), (61, 3, .ifCond .eq 10, .ifCond .eq 38, 0, 0), (64, 1, .aload_n 0, .aload 0, 0, 0), (65, 3, .invokevirtual 112, .invokevirtual 700500, 3027, 112), (68, 3, .goto 8, .goto 41, 0, 0), (71, 1, .aload_n 0, .aload 0, 0, 0), (72, 1, .iload_n 2, .iload 2, 0, 0), (73, 3, .invokevirtual 115, .invokevirtual 710501, 3035, 115), (76, 1, .return_, .return_, 0, 0)]
set_option maxRecDepth 100000 in
def zi_69 : List Instr := [.aload 0, .getfield 504, .ifCond .eq 4, .return_, .aload 0, .invokevirtual 590510, .istore 2, .iload 2, .iconst 91, .if_icmp .ne 32, .iload 1, .iconst 6, .if_icmp .lt 17, .aload 0, .iconst 5, .invokevirtual 600501, .return_, .aload 0, .dup, .getfield 502, .iconst 1, .iadd, .putfield 502, .aload 0, .iload 1, .iconst 1, .iadd, .invokevirtual 670501, .aload 0, .iconst 93, .invokevirtual 610501, .goto 41, .iload 2, .invokestatic 720011, .ifCond .eq 38, .aload 0, .invokevirtual 700500, .goto 41, .aload 0, .iload 2, .invokevirtual 710501, .return_]
set_option maxRecDepth 100000 in
theorem ze_69 : zc_69.map (fun e => e.2.2.2.1) = zi_69 := rfl
set_option maxRecDepth 100000 in
theorem zk_69 : zckm (zmd 69) false zc_69 zmd [59, 60, 61, 67, 70, 71, 72] = true := by decide +kernel
set_option maxRecDepth 100000 in
def zc_63 : List zE := [(0, 1, .aload_n 0, .aload 0, 0, 0), (1, 1, .iload_n 1, .iload 1, 0, 0), (2, 3, .invokevirtual 83, .invokevirtual 640501, 3132, 83), (5, 1, .iconst (-1), .iconst (-1), 0, 0), (6, 1, .istore_n 2, .istore 2, 0, 0), (7, 1, .aload_n 0, .aload 0, 0, 0), (8, 3, .getfield 35, .getfield 504, 1225, 35), (11, 3, .ifCond .ne 52, .ifCond .ne 33, 0, 0), (14, 1, .aload_n 0, .aload 0, 0, 0), (15, 3, .getfield 22, .getfield 502, 1223, 22), (18, 1, .aload_n 0, .aload 0, 0, 0), (19, 3, .getfield 32, .getfield 503, 1224, 32), (22, 3, .if_icmp .ge 41, .if_icmp .ge 33, 0, 0), (25, 1, .aload_n 0, .aload 0, 0, 0), (26, 3, .invokevirtual 57, .invokevirtual 590510, 2231, 57), (29, 2, .bipush 124, .iconst 124, 0, 0), (31, 3, .if_icmp .ne 32, .if_icmp .ne 33, 0, 0), (34, 1, .aload_n 0, .aload 0, 0, 0), (35, 1, .dup, .dup, 0, 0), (36, 3, .getfield 22, .getfield 502, 1223, 22), (39, 1, .iconst 1, .iconst 1, 0, 0), (40, 1, .iadd, .iadd, 0, 0), (41, 3, .putfield 22, .putfield 502, 1223, 22), (44, 1, .aload_n 0, .aload 0, 0, 0), (45, 3, .getfield 18, .getstatic 501, 1222, 18), (48, 2, .bipush 124, .iconst 124, 0, 0), (50, 1, .iload_n 2, .iload 2, 0, 0), (51, 3, .invokevirtual 86, .invokevirtual 360212, 3144, 86), (54, 1, .istore_n 2, .istore 2, 0, 0), (55, 1, .aload_n 0, .aload 0, 0, 0), (56, 1, .iload_n 1, .iload 1, 0, 0), (57, 3, .invokevirtual 83, .invokevirtual 640501, 3132, 83), (60, 3, .goto (-53), .goto 5, 0, 0), (63, 1, .aload_n 0, .aload 0, 0, 0), (64, 3, .getfield 18, .getstatic 501, 1222, 18), (67, 1, .iload_n 2, .iload 2, 0, 0), (68, 3, .invokevirtual 89, .invokevirtual 370201, 3153, 89), (71, 1, .return_, .return_, 0, 0)]
set_option maxRecDepth 100000 in
def zi_63 : List Instr := [.aload 0, .iload 1, .invokevirtual 640501, .iconst (-1), .istore 2, .aload 0, .getfield 504, .ifCond .ne 33, .aload 0, .getfield 502, .aload 0, .getfield 503, .if_icmp .ge 33, .aload 0, .invokevirtual 590510, .iconst 124, .if_icmp .ne 33, .aload 0, .dup, .getfield 502, .iconst 1, .iadd, .putfield 502, .aload 0, .getstatic 501, .iconst 124, .iload 2, .invokevirtual 360212, .istore 2, .aload 0, .iload 1, .invokevirtual 640501, .goto 5, .aload 0, .getstatic 501, .iload 2, .invokevirtual 370201, .return_]
set_option maxRecDepth 100000 in
theorem ze_63 : zc_63.map (fun e => e.2.2.2.1) = zi_63 := rfl
set_option maxRecDepth 100000 in
theorem zk_63 : zckm (zmd 63) false zc_63 zmd [36, 37, 59, 64] = true := by decide +kernel
set_option maxRecDepth 100000 in
def zc_64 : List zE := [(0, 1, .aload_n 0, .aload 0, 0, 0), (1, 1, .iload_n 1, .iload 1, 0, 0), (2, 3, .invokevirtual 92, .invokevirtual 650501, 3136, 92), (5, 1, .iconst (-1), .iconst (-1), 0, 0), (6, 1, .istore_n 2, .istore 2, 0, 0), (7, 1, .aload_n 0, .aload 0, 0, 0), (8, 3, .getfield 35, .getfield 504, 1225, 35), (11, 3, .ifCond .ne 52, .ifCond .ne 33, 0, 0), (14, 1, .aload_n 0, .aload 0, 0, 0), (15, 3, .getfield 22, .getfield 502, 1223, 22), (18, 1, .aload_n 0, .aload 0, 0, 0), (19, 3, .getfield 32, .getfield 503, 1224, 32), (22, 3, .if_icmp .ge 41, .if_icmp .ge 33, 0, 0), (25, 1, .aload_n 0, .aload 0, 0, 0), (26, 3, .invokevirtual 57, .invokevirtual 590510, 2231, 57), (29, 2, .bipush 38, .iconst 38, 0, 0), (31, 3, .if_icmp .ne 32, .if_icmp .ne 33, 0, 0), (34, 1, .aload_n 0, .aload 0, 0, 0), (35, 1, .dup, .dup, 0, 0), (36, 3, .getfield 22, .getfield 502, 1223, 22), (39, 1, .iconst 1, .iconst 1, 0, 0), (40, 1, .iadd, .iadd, 0, 0), (41, 3, .putfield 22, .putfield 502, 1223, 22), (44, 1, .aload_n 0, .aload 0, 0, 0), (45, 3, .getfield 18, .getstatic 501, 1222, 18), (48, 2, .bipush 38, .iconst 38, 0, 0), (50, 1, .iload_n 2, .iload 2, 0, 0), (51, 3, .invokevirtual 86, .invokevirtual 360212, 3144, 86), (54, 1, .istore_n 2, .istore 2, 0, 0), (55, 1, .aload_n 0, .aload 0, 0, 0), (56, 1, .iload_n 1, .iload 1, 0, 0), (57, 3, .invokevirtual 92, .invokevirtual 650501, 3136, 92), (60, 3, .goto (-53), .goto 5, 0, 0), (63, 1, .aload_n 0, .aload 0, 0, 0), (64, 3, .getfield 18, .getstatic 501, 1222, 18), (67, 1, .iload_n 2, .iload 2, 0, 0), (68, 3, .invokevirtual 89, .invokevirtual 370201, 3153, 89), (71, 1, .return_, .return_, 0, 0)]
set_option maxRecDepth 100000 in
def zi_64 : List Instr := [.aload 0, .iload 1, .invokevirtual 650501, .iconst (-1), .istore 2, .aload 0, .getfield 504, .ifCond .ne 33, .aload 0, .getfield 502, .aload 0, .getfield 503, .if_icmp .ge 33, .aload 0, .invokevirtual 590510, .iconst 38, .if_icmp .ne 33, .aload 0, .dup, .getfield 502, .iconst 1, .iadd, .putfield 502, .aload 0, .getstatic 501, .iconst 38, .iload 2, .invokevirtual 360212, .istore 2, .aload 0, .iload 1, .invokevirtual 650501, .goto 5, .aload 0, .getstatic 501, .iload 2, .invokevirtual 370201, .return_]
set_option maxRecDepth 100000 in
theorem ze_64 : zc_64.map (fun e => e.2.2.2.1) = zi_64 := rfl
set_option maxRecDepth 100000 in
theorem zk_64 : zckm (zmd 64) false zc_64 zmd [36, 37, 59, 65] = true := by decide +kernel
set_option maxRecDepth 100000 in
def zc_65 : List zE := [(0, 1, .aload_n 0, .aload 0, 0, 0), (1, 3, .getfield 35, .getfield 504, 1225, 35), (4, 3, .ifCond .eq 4, .ifCond .eq 4, 0, 0), (7, 1, .return_, .return_, 0, 0), (8, 1, .aload_n 0, .aload 0, 0, 0), (9, 3, .invokevirtual 57, .invokevirtual 590510, 2231, 57), (12, 1, .istore_n 2, .istore 2, 0, 0), (13, 1, .iload_n 2, .iload 2, 0, 0), (14, 2, .bipush 33, .iconst 33, 0, 0), (16, 3, .if_icmp .eq 15, .if_icmp .eq 17, 0, 0), (19, 1, .iload_n 2, .iload 2, 0, 0), (20, 2, .bipush 40, .iconst 40, 0, 0), (22, 3, .if_icmp .eq 9, .if_icmp .eq 17, 0, 0), (25, 1, .aload_n 0, .aload 0, 0, 0), (26, 1, .iload_n 1, .iload 1, 0, 0), (27, 3, .invokevirtual 95, .invokevirtual 660501, 3140, 95), (30, 1, .return_, .return_, 0, 0), (31, 1, .iload_n 1, .iload 1, 0, 0), (32, 2, .bipush 6, .iconst 6, 0, 0), (34, 3, .if_icmp .lt 9, .if_icmp .lt 24, 0, 0), (37, 1, .aload_n 0, .aload 0, 0, 0), (38, 1, .iconst 5, .iconst 5, 0, 0), (39, 3, .invokevirtual 61, .invokevirtual 600501, 2235, 61), (42, 1, .return_, .return_, 0, 0), (43, 1, .aload_n 0, .aload 0, 0, 0), (44, 1, .dup, .dup, 0, 0), (45, 3, .getfield 22, .getfield 502, 1223, 22), (48, 1, .iconst 1, .iconst 1, 0, 0), (49, 1, .iadd, .iadd, 0, 0), (50, 3, .putfield 22, .putfield 502, 1223, 22), (53, 1, .iload_n 2, .iload 2, 0, 0), (54, 2, .bipush 33, .iconst 33, 0, 0), (56, 3, .if_icmp .ne 23, .if_icmp .ne 44, 0, 0), (59, 1, .aload_n 0, .aload 0, 0, 0), (60, 1, .iload_n 1, .iload 1, 0, 0), (61, 1, .iconst 1, .iconst 1, 0, 0), (62, 1, .iadd, .iadd, 0, 0), (63, 3, .invokevirtual 92, .invokevirtual 650501, 3136, 92), (66, 1, .aload_n 0, .aload 0, 0, 0), (67, 3, .getfield 18, .getstatic 501, 1222, 18), (70, 2, .bipush 33, .iconst 33, 0, 0), (72, 1, .iconst 0, .iconst 0, 0, 0), (73, 3, .invokevirtual 98, .invokevirtual 350202, 3031, 98), (76, 3, .goto 16, .goto 52, 0, 0), (79, 1, .aload_n 0, .aload 0, 0, 0), (80, 1, .iload_n 1, .iload 1, 0, 0), (81, 1, .iconst 1, .iconst 1, 0, 0), (82, 1, .iadd, .iadd, 0, 0), (83, 3, .invokevirtual 77, .invokevirtual 630501, 3128, 77), (86, 1, .aload_n 0, .aload 0, 0, 0), (87, 2, .bipush 41, .iconst 41, 0, 0), (89, 3, .invokevirtual 50, .invokevirtual 610501, 3020, 50), (92, 1, .return_, .return_, 0, 0)]
set_option maxRecDepth 100000 in
def zi_65 : List Instr := [.aload 0, .getfield 504, .ifCond .eq 4, .return_, .aload 0, .invokevirtual 590510, .istore 2, .iload 2, .iconst 33, .if_icmp .eq 17, .iload 2, .iconst 40, .if_icmp .eq 17, .aload 0, .iload 1, .invokevirtual 660501, .return_, .iload 1, .iconst 6, .if_icmp .lt 24, .aload 0, .iconst 5, .invokevirtual 600501, .return_, .aload 0, .dup, .getfield 502, .iconst 1, .iadd, .putfield 502, .iload 2, .iconst 33, .if_icmp .ne 44, .aload 0, .iload 1, .iconst 1, .iadd, .invokevirtual 650501, .aload 0, .getstatic 501, .iconst 33, .iconst 0, .invokevirtual 350202, .goto 52, .aload 0, .iload 1, .iconst 1, .iadd, .invokevirtual 630501, .aload 0, .iconst 41, .invokevirtual 610501, .return_]
set_option maxRecDepth 100000 in
theorem ze_65 : zc_65.map (fun e => e.2.2.2.1) = zi_65 := rfl
set_option maxRecDepth 100000 in
theorem zk_65 : zckm (zmd 65) false zc_65 zmd [35, 59, 60, 61, 63, 65, 66] = true := by decide +kernel
noncomputable def zg_69 (s : zF) : zF := zden zX0 zi_69 (zlk [(59, zf_59), (60, zf_60), (61, zf_61), (67, s), (70, zf_70), (71, zf_71), (72, zf_72)]) 3
noncomputable def zg_68 (s : zF) : zF := zden zX0 zi_68 (zlk [(35, zf_35), (59, zf_59), (69, zg_69 s)]) 3
noncomputable def zf_67 : Nat → zF
  | 0 => fun _ _ => none
  | n + 1 => zden zX0 zi_67 (zlk [(35, zf_35), (59, zf_59), (68, zg_68 (zf_67 n))]) 3
theorem zs_none (d : Nat) (md : zMd) (h : zMok md) : zSnd d md (fun _ _ => none) := ⟨h, fun _ _ _ _ h => by cases h⟩
theorem zt_69 : ∀ (s : zF) (d : Nat), 6 ≤ d → zSnd (d - 1) (zmd 67) s → zSnd d (zmd 69) (zg_69 s) := by
  intro s d hd hs
  obtain ⟨d, rfl⟩ : ∃ k, d = k + 1 := ⟨d - 1, by omega⟩
  have h := zsound (d := d) (l := [(59, zf_59), (60, zf_60), (61, zf_61), (67, s), (70, zf_70), (71, zf_71), (72, zf_72)]) zo_69 (fun h => by cases h) zk_69 (fun q hq => by
    simp only [List.mem_cons, List.not_mem_nil, or_false] at hq
    rcases hq with rfl | rfl | rfl | rfl | rfl | rfl | rfl
    · exact zs_59 d (by omega)
    · exact zs_60 d (by omega)
    · exact zs_61 d (by omega)
    · exact hs
    · exact zs_70 d (by omega)
    · exact zs_71 d (by omega)
    · exact zs_72 d (by omega))
  rw [ze_69] at h
  exact h
theorem zt_68 : ∀ (s : zF) (d : Nat), 7 ≤ d → zSnd (d - 2) (zmd 67) s → zSnd d (zmd 68) (zg_68 s) := by
  intro s d hd hs
  obtain ⟨d, rfl⟩ : ∃ k, d = k + 1 := ⟨d - 1, by omega⟩
  have h := zsound (d := d) (l := [(35, zf_35), (59, zf_59), (69, zg_69 s)]) zo_68 (fun h => by cases h) zk_68 (fun q hq => by
    simp only [List.mem_cons, List.not_mem_nil, or_false] at hq
    rcases hq with rfl | rfl | rfl
    · exact zs_35 d (by omega)
    · exact zs_59 d (by omega)
    · exact zt_69 s d (by omega) (by rw [show d - 1 = d + 1 - 2 by omega]; exact hs))
  rw [ze_68] at h
  exact h
theorem zs_67 : ∀ (n d : Nat), 3 * n + 5 ≤ d → zSnd d (zmd 67) (zf_67 n) := by
  intro n
  induction n with
  | zero => exact fun d _ => zs_none d _ zo_67
  | succ n ih =>
  intro d hd
  obtain ⟨d, rfl⟩ : ∃ k, d = k + 1 := ⟨d - 1, by omega⟩
  have h := zsound (d := d) (l := [(35, zf_35), (59, zf_59), (68, zg_68 (zf_67 n))]) zo_67 (fun h => by cases h) zk_67 (fun q hq => by
    simp only [List.mem_cons, List.not_mem_nil, or_false] at hq
    rcases hq with rfl | rfl | rfl
    · exact zs_35 d (by omega)
    · exact zs_59 d (by omega)
    · exact zt_68 _ d (by omega) (ih (d - 2) (by omega)))
  rw [ze_67] at h
  exact h
set_option maxRecDepth 100000 in
def zc_66 : List zE := [(0, 1, .aload_n 0, .aload 0, 0, 0), (1, 1, .iload_n 1, .iload 1, 0, 0), (2, 3, .invokevirtual 71, .invokevirtual 670501, 3008, 71), (5, 1, .aload_n 0, .aload 0, 0, 0), (6, 3, .invokevirtual 57, .invokevirtual 590510, 2231, 57), (9, 1, .istore_n 2, .istore 2, 0, 0), (10, 1, .iload_n 2, .iload 2, 0, 0), (11, 2, .bipush 60, .iconst 60, 0, 0), (13, 3, .if_icmp .eq 20, .if_icmp .eq 18, 0, 0), (16, 1, .iload_n 2, .iload 2, 0, 0), (17, 2, .bipush 62, .iconst 62, 0, 0), (19, 3, .if_icmp .eq 14, .if_icmp .eq 18, 0, 0), (22, 1, .iload_n 2, .iload 2, 0, 0), (23, 2, .bipush 61, .iconst 61, 0, 0), (25, 3, .if_icmp .eq 8, .if_icmp .eq 18, 0, 0), (28, 1, .aload_n 0, .aload 0, 0, 0), (29, 1, .iconst 1, .iconst 1, 0, 0), (30, 3, .invokevirtual 61, .invokevirtual 600501, 2235, 61), (33, 1, .aload_n 0, .aload 0, 0, 0), (34, 3, .getfield 35, .getfield 504, 1225, 35), (37, 3, .ifCond .eq 4, .ifCond .eq 22, 0, 0), (40, 1, .return_, .return_, 0, 0), (41, 1, .aload_n 0, .aload 0, 0, 0), (42, 1, .dup, .dup, 0, 0), (43, 3, .getfield 22, .getfield 502, 1223, 22), (46, 1, .iconst 1, .iconst 1, 0, 0), (47, 1, .iadd, .iadd, 0, 0), (48, 3, .putfield 22, .putfield 502, 1223, 22), (51, 1, .aload_n 0, .aload 0, 0, 0), (52, 1, .iload_n 1, .iload 1, 0, 0), (53, 3, .invokevirtual 71, .invokevirtual 670501, 3008, 71), (56, 1, .aload_n 0, .aload 0, 0, 0), (57, 3, .getfield 18, .getstatic 501, 1222, 18), (60, 1, .iload_n 2, .iload 2, 0, 0), (61, 1, .iconst 0, .iconst 0, 0, 0), (62, 3, .invokevirtual 98, .invokevirtual 350202, 3031, 98), (65, 1, .return_, .return_, 0, 0)]
set_option maxRecDepth 100000 in
def zi_66 : List Instr := [.aload 0, .iload 1, .invokevirtual 670501, .aload 0, .invokevirtual 590510, .istore 2, .iload 2, .iconst 60, .if_icmp .eq 18, .iload 2, .iconst 62, .if_icmp .eq 18, .iload 2, .iconst 61, .if_icmp .eq 18, .aload 0, .iconst 1, .invokevirtual 600501, .aload 0, .getfield 504, .ifCond .eq 22, .return_, .aload 0, .dup, .getfield 502, .iconst 1, .iadd, .putfield 502, .aload 0, .iload 1, .invokevirtual 670501, .aload 0, .getstatic 501, .iload 2, .iconst 0, .invokevirtual 350202, .return_]
set_option maxRecDepth 100000 in
theorem ze_66 : zc_66.map (fun e => e.2.2.2.1) = zi_66 := rfl
set_option maxRecDepth 100000 in
theorem zk_66 : zckm (zmd 66) false zc_66 zmd [35, 59, 60, 67] = true := by decide +kernel
noncomputable def zf_66 : zF := zden zX0 zi_66 (zlk [(35, zf_35), (59, zf_59), (60, zf_60), (67, (zf_67 8))]) 3
/-- HillErrands$Reader.comparison -/
theorem zs_66 : ∀ d, 30 ≤ d → zSnd d (zmd 66) zf_66 := by
  intro d hd
  obtain ⟨d, rfl⟩ : ∃ k, d = k + 1 := ⟨d - 1, by omega⟩
  have h := zsound (d := d) (l := [(35, zf_35), (59, zf_59), (60, zf_60), (67, (zf_67 8))]) zo_66 (fun h => by cases h) zk_66 (fun q hq => by
    simp only [List.mem_cons, List.not_mem_nil, or_false] at hq
    rcases hq with rfl | rfl | rfl | rfl
    · exact zs_35 d (by omega)
    · exact zs_59 d (by omega)
    · exact zs_60 d (by omega)
    · exact zs_67 8 d (by omega))
  rw [ze_66] at h
  exact h
noncomputable def zg_64 (s : zF) : zF := zden zX0 zi_64 (zlk [(36, zf_36), (37, zf_37), (59, zf_59), (65, s)]) 3
noncomputable def zg_63 (s : zF) : zF := zden zX0 zi_63 (zlk [(36, zf_36), (37, zf_37), (59, zf_59), (64, zg_64 s)]) 3
noncomputable def zf_65 : Nat → zF
  | 0 => fun _ _ => none
  | n + 1 => zden zX0 zi_65 (zlk [(35, zf_35), (59, zf_59), (60, zf_60), (61, zf_61), (63, zg_63 (zf_65 n)), (65, zf_65 n), (66, zf_66)]) 3
theorem zt_64 : ∀ (s : zF) (d : Nat), 32 ≤ d → zSnd (d - 1) (zmd 65) s → zSnd d (zmd 64) (zg_64 s) := by
  intro s d hd hs
  obtain ⟨d, rfl⟩ : ∃ k, d = k + 1 := ⟨d - 1, by omega⟩
  have h := zsound (d := d) (l := [(36, zf_36), (37, zf_37), (59, zf_59), (65, s)]) zo_64 (fun h => by cases h) zk_64 (fun q hq => by
    simp only [List.mem_cons, List.not_mem_nil, or_false] at hq
    rcases hq with rfl | rfl | rfl | rfl
    · exact zs_36 d (by omega)
    · exact zs_37 d (by omega)
    · exact zs_59 d (by omega)
    · exact hs)
  rw [ze_64] at h
  exact h
theorem zt_63 : ∀ (s : zF) (d : Nat), 33 ≤ d → zSnd (d - 2) (zmd 65) s → zSnd d (zmd 63) (zg_63 s) := by
  intro s d hd hs
  obtain ⟨d, rfl⟩ : ∃ k, d = k + 1 := ⟨d - 1, by omega⟩
  have h := zsound (d := d) (l := [(36, zf_36), (37, zf_37), (59, zf_59), (64, zg_64 s)]) zo_63 (fun h => by cases h) zk_63 (fun q hq => by
    simp only [List.mem_cons, List.not_mem_nil, or_false] at hq
    rcases hq with rfl | rfl | rfl | rfl
    · exact zs_36 d (by omega)
    · exact zs_37 d (by omega)
    · exact zs_59 d (by omega)
    · exact zt_64 s d (by omega) (by rw [show d - 1 = d + 1 - 2 by omega]; exact hs))
  rw [ze_63] at h
  exact h
theorem zs_65 : ∀ (n d : Nat), 3 * n + 34 ≤ d → zSnd d (zmd 65) (zf_65 n) := by
  intro n
  induction n with
  | zero => exact fun d _ => zs_none d _ zo_65
  | succ n ih =>
  intro d hd
  obtain ⟨d, rfl⟩ : ∃ k, d = k + 1 := ⟨d - 1, by omega⟩
  have h := zsound (d := d) (l := [(35, zf_35), (59, zf_59), (60, zf_60), (61, zf_61), (63, zg_63 (zf_65 n)), (65, zf_65 n), (66, zf_66)]) zo_65 (fun h => by cases h) zk_65 (fun q hq => by
    simp only [List.mem_cons, List.not_mem_nil, or_false] at hq
    rcases hq with rfl | rfl | rfl | rfl | rfl | rfl | rfl
    · exact zs_35 d (by omega)
    · exact zs_59 d (by omega)
    · exact zs_60 d (by omega)
    · exact zs_61 d (by omega)
    · exact zt_63 _ d (by omega) (ih (d - 2) (by omega))
    · exact ih d (by omega)
    · exact zs_66 d (by omega))
  rw [ze_65] at h
  exact h
theorem zs_63 : ∀ (n d : Nat), 3 * n + 37 ≤ d → zSnd d (zmd 63) (zg_63 (zf_65 n)) := fun n d hd => zt_63 _ d (by omega) (zs_65 n (d - 2) (by omega))
