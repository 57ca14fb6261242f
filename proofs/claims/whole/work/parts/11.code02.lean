set_option maxRecDepth 100000 in
def zc_45 : List zE := [(0, 1, .iconst 0, .iconst 0, 0, 0), (1, 2, .istore 4, .istore 4, 0, 0), (3, 1, .iconst 0, .iconst 0, 0, 0), (4, 2, .istore 5, .istore 5, 0, 0), (6, 2, .iload 5, .iload 5, 0, 0), (8, 1, .aload_n 0, .aload 0, 0, 0), (9, 3, .getfield 26, .getstatic 302, 2059, 26), (12, 3, .getfield 36, .getfield 110, 1169, 36), (15, 3, .if_icmp .ge 71, .if_icmp .ge 45, 0, 0), (18, 2, .iload 5, .iload 5, 0, 0), (20, 2, .bipush 20, .iconst 20, 0, 0), (22, 1, .imul, .imul, 0, 0), (23, 2, .istore 6, .istore 6, 0, 0), (25, 1, .aload_n 0, .aload 0, 0, 0), (26, 3, .getfield 9, .getstatic 303, 2060, 9), (29, 2, .iload 6, .iload 6, 0, 0), (31, 1, .iload_n 1, .iload 1, 0, 0), (32, 1, .iadd, .iadd, 0, 0), (33, 1, .iaload, .iaload, 0, 0), (34, 1, .aload_n 0, .aload 0, 0, 0), (35, 3, .getfield 9, .getstatic 303, 2060, 9), (38, 2, .iload 6, .iload 6, 0, 0), (40, 1, .iload_n 2, .iload 2, 0, 0), (41, 1, .iadd, .iadd, 0, 0), (42, 1, .iaload, .iaload, 0, 0), (43, 1, .aload_n 0, .aload 0, 0, 0), (44, 3, .getfield 9, .getstatic 303, 2060, 9), (47, 2, .iload 6, .iload 6, 0, 0), (49, 1, .iload_n 3, .iload 3, 0, 0), (50, 1, .iadd, .iadd, 0, 0), (51, 1, .iaload, .iaload, 0, 0), (52, 3, .invokestatic 59, .fsub, 5033, 59), (55, 3, .invokestatic 59, .fsub, 5033, 59), (58, 2, .istore 7, .istore 7, 0, 0), (60, 2, .iload 4, .iload 4, 0, 0), (62, 2, .iload 7, .iload 7, 0, 0), (64, 2, .ldc 64, .iconst 100000000, 5034, 64), (66, 3, .if_icmp .lt 9, .if_icmp .lt 40, 0, 0), (69, 3, .sipush 1000, .iconst 1000, 0, 0), (72, 3, .goto 5, .goto 41, 0, 0), (75, 2, .iload 7, .iload 7, 0, 0), (77, 1, .iadd, .iadd, 0, 0), (78, 2, .istore 4, .istore 4, 0, 0), (80, 3, .iinc 5 1, .iinc 5 1, 0, 0), (83, 3, .goto (-77), .goto 4, 0, 0), (86, 2, .iload 4, .iload 4, 0, 0), (88, 1, .ireturn, .ireturn, 0, 0)]
set_option maxRecDepth 100000 in
def zi_45 : List Instr := [.iconst 0, .istore 4, .iconst 0, .istore 5, .iload 5, .aload 0, .getstatic 302, .getfield 110, .if_icmp .ge 45, .iload 5, .iconst 20, .imul, .istore 6, .aload 0, .getstatic 303, .iload 6, .iload 1, .iadd, .iaload, .aload 0, .getstatic 303, .iload 6, .iload 2, .iadd, .iaload, .aload 0, .getstatic 303, .iload 6, .iload 3, .iadd, .iaload, .fsub, .fsub, .istore 7, .iload 4, .iload 7, .iconst 100000000, .if_icmp .lt 40, .iconst 1000, .goto 41, .iload 7, .iadd, .istore 4, .iinc 5 1, .goto 4, .iload 4, .ireturn]
set_option maxRecDepth 100000 in
theorem ze_45 : zc_45.map (fun e => e.2.2.2.1) = zi_45 := rfl
set_option maxRecDepth 100000 in
theorem zk_45 : zckm (zmd 45) false zc_45 zmd [] = true := by decide +kernel
noncomputable def zf_45 : zF := zden zX0 zi_45 (zlk []) 8
/-- HillErrands$Market.costs -/
theorem zs_45 : ∀ d, 1 ≤ d → zSnd d (zmd 45) zf_45 := by
  intro d hd
  obtain ⟨d, rfl⟩ : ∃ k, d = k + 1 := ⟨d - 1, by omega⟩
  have h := zsound (d := d) (l := []) zo_45 (fun h => by cases h) zk_45 (fun q hq => by cases hq)
  rw [ze_45] at h
  exact h
set_option maxRecDepth 100000 in
def zc_44 : List zE := [(0, 1, .iconst 0, .iconst 0, 0, 0), (1, 1, .istore_n 2, .istore 2, 0, 0), (2, 1, .iconst 0, .iconst 0, 0, 0), (3, 1, .istore_n 3, .istore 3, 0, 0), (4, 1, .iload_n 3, .iload 3, 0, 0), (5, 1, .aload_n 0, .aload 0, 0, 0), (6, 3, .getfield 18, .getstatic 300, 2057, 18), (9, 3, .getfield 42, .getfield 810, 1091, 42), (12, 3, .if_icmp .ge 32, .if_icmp .ge 26, 0, 0), (15, 1, .iload_n 2, .iload 2, 0, 0), (16, 1, .iconst 3, .iconst 3, 0, 0), (17, 3, .if_icmp .ge 27, .if_icmp .ge 26, 0, 0), (20, 1, .iload_n 1, .iload 1, 0, 0), (21, 1, .iload_n 3, .iload 3, 0, 0), (22, 1, .ishr, .ishr, 0, 0), (23, 1, .iconst 1, .iconst 1, 0, 0), (24, 1, .iand, .iand, 0, 0), (25, 3, .ifCond .eq 13, .ifCond .eq 24, 0, 0), (28, 1, .aload_n 0, .aload 0, 0, 0), (29, 3, .getfield 15, .getstatic 304, 2061, 15), (32, 1, .iload_n 2, .iload 2, 0, 0), (33, 1, .iload_n 3, .iload 3, 0, 0), (34, 1, .iastore, .iastore, 0, 0), (35, 3, .iinc 2 1, .iinc 2 1, 0, 0), (38, 3, .iinc 3 1, .iinc 3 1, 0, 0), (41, 3, .goto (-37), .goto 4, 0, 0), (44, 1, .aload_n 0, .aload 0, 0, 0), (45, 1, .aload_n 0, .aload 0, 0, 0), (46, 3, .getfield 15, .getstatic 304, 2061, 15), (49, 1, .iconst 0, .iconst 0, 0, 0), (50, 1, .iaload, .iaload, 0, 0), (51, 1, .aload_n 0, .aload 0, 0, 0), (52, 3, .getfield 15, .getstatic 304, 2061, 15), (55, 1, .iload_n 2, .iload 2, 0, 0), (56, 1, .iconst 1, .iconst 1, 0, 0), (57, 3, .if_icmp .le 7, .if_icmp .le 38, 0, 0), (60, 1, .iconst 1, .iconst 1, 0, 0), (61, 3, .goto 4, .goto 39, 0, 0), (64, 1, .iconst 0, .iconst 0, 0, 0), (65, 1, .iaload, .iaload, 0, 0), (66, 1, .aload_n 0, .aload 0, 0, 0), (67, 3, .getfield 15, .getstatic 304, 2061, 15), (70, 1, .iload_n 2, .iload 2, 0, 0), (71, 1, .iconst 2, .iconst 2, 0, 0), (72, 3, .if_icmp .le 7, .if_icmp .le 47, 0, 0), (75, 1, .iconst 2, .iconst 2, 0, 0), (76, 3, .goto 4, .goto 48, 0, 0), (79, 1, .iconst 0, .iconst 0, 0, 0), (80, 1, .iaload, .iaload, 0, 0), (81, 3, .invokevirtual 55, .invokevirtual 450313, 5029, 55), (84, 1, .ireturn, .ireturn, 0, 0)]
set_option maxRecDepth 100000 in
def zi_44 : List Instr := [.iconst 0, .istore 2, .iconst 0, .istore 3, .iload 3, .aload 0, .getstatic 300, .getfield 810, .if_icmp .ge 26, .iload 2, .iconst 3, .if_icmp .ge 26, .iload 1, .iload 3, .ishr, .iconst 1, .iand, .ifCond .eq 24, .aload 0, .getstatic 304, .iload 2, .iload 3, .iastore, .iinc 2 1, .iinc 3 1, .goto 4, .aload 0, .aload 0, .getstatic 304, .iconst 0, .iaload, .aload 0, .getstatic 304, .iload 2, .iconst 1, .if_icmp .le 38, .iconst 1, .goto 39, .iconst 0, .iaload, .aload 0, .getstatic 304, .iload 2, .iconst 2, .if_icmp .le 47, .iconst 2, .goto 48, .iconst 0, .iaload, .invokevirtual 450313, .ireturn]
set_option maxRecDepth 100000 in
theorem ze_44 : zc_44.map (fun e => e.2.2.2.1) = zi_44 := rfl
set_option maxRecDepth 100000 in
theorem zk_44 : zckm (zmd 44) false zc_44 zmd [45] = true := by decide +kernel
noncomputable def zf_44 : zF := zden zX0 zi_44 (zlk [(45, zf_45)]) 4
/-- HillErrands$Market.costsOfSet -/
theorem zs_44 : ∀ d, 2 ≤ d → zSnd d (zmd 44) zf_44 := by
  intro d hd
  obtain ⟨d, rfl⟩ : ∃ k, d = k + 1 := ⟨d - 1, by omega⟩
  have h := zsound (d := d) (l := [(45, zf_45)]) zo_44 (fun h => by cases h) zk_44 (fun q hq => by
    simp only [List.mem_cons, List.not_mem_nil, or_false] at hq
    subst hq
    · exact zs_45 d (by omega))
  rw [ze_44] at h
  exact h
set_option maxRecDepth 100000 in
def zc_46 : List zE := [(0, 2, .ldc 64, .iconst 100000000, 5034, 64), (2, 1, .istore_n 2, .istore 2, 0, 0), (3, 1, .aload_n 0, .aload 0, 0, 0), (4, 3, .getfield 18, .getstatic 300, 2057, 18), (7, 3, .getfield 42, .getfield 810, 1091, 42), (10, 1, .istore_n 3, .istore 3, 0, 0), (11, 1, .iconst 0, .iconst 0, 0, 0), (12, 2, .istore 4, .istore 4, 0, 0), (14, 2, .iload 4, .iload 4, 0, 0), (16, 1, .iload_n 3, .iload 3, 0, 0), (17, 3, .if_icmp .ge 142, .if_icmp .ge 85, 0, 0), (20, 1, .iload_n 1, .iload 1, 0, 0), (21, 1, .iconst 1, .iconst 1, 0, 0), (22, 3, .if_icmp .le 7, .if_icmp .le 16, 0, 0), (25, 1, .iload_n 3, .iload 3, 0, 0), (26, 3, .goto 7, .goto 19, 0, 0), (29, 2, .iload 4, .iload 4, 0, 0), (31, 1, .iconst 1, .iconst 1, 0, 0), (32, 1, .iadd, .iadd, 0, 0), (33, 2, .istore 5, .istore 5, 0, 0), (35, 1, .iload_n 1, .iload 1, 0, 0), (36, 1, .iconst 1, .iconst 1, 0, 0), (37, 3, .if_icmp .le 10, .if_icmp .le 27, 0, 0), (40, 2, .iload 4, .iload 4, 0, 0), (42, 1, .iconst 1, .iconst 1, 0, 0), (43, 1, .iadd, .iadd, 0, 0), (44, 3, .goto 5, .goto 28, 0, 0), (47, 2, .iload 4, .iload 4, 0, 0), (49, 2, .istore 6, .istore 6, 0, 0), (51, 2, .iload 6, .iload 6, 0, 0), (53, 2, .iload 5, .iload 5, 0, 0), (55, 3, .if_icmp .ge 98, .if_icmp .ge 83, 0, 0), (58, 1, .iload_n 1, .iload 1, 0, 0), (59, 1, .iconst 2, .iconst 2, 0, 0), (60, 3, .if_icmp .le 7, .if_icmp .le 37, 0, 0), (63, 1, .iload_n 3, .iload 3, 0, 0), (64, 3, .goto 7, .goto 40, 0, 0), (67, 2, .iload 6, .iload 6, 0, 0), (69, 1, .iconst 1, .iconst 1, 0, 0), (70, 1, .iadd, .iadd, 0, 0), (71, 2, .istore 7, .istore 7, 0, 0), (73, 1, .iload_n 1, .iload 1, 0, 0), (74, 1, .iconst 2, .iconst 2, 0, 0), (75, 3, .if_icmp .le 10, .if_icmp .le 48, 0, 0), (78, 2, .iload 6, .iload 6, 0, 0), (80, 1, .iconst 1, .iconst 1, 0, 0), (81, 1, .iadd, .iadd, 0, 0), (82, 3, .goto 5, .goto 49, 0, 0), (85, 2, .iload 6, .iload 6, 0, 0), (87, 2, .istore 8, .istore 8, 0, 0), (89, 2, .iload 8, .iload 8, 0, 0), (91, 2, .iload 7, .iload 7, 0, 0), (93, 3, .if_icmp .ge 54, .if_icmp .ge 81, 0, 0), (96, 1, .aload_n 0, .aload 0, 0, 0), (97, 2, .iload 4, .iload 4, 0, 0), (99, 2, .iload 6, .iload 6, 0, 0), (101, 2, .iload 8, .iload 8, 0, 0), (103, 3, .invokevirtual 55, .invokevirtual 450313, 5029, 55), (106, 2, .istore 9, .istore 9, 0, 0), (108, 2, .iload 9, .iload 9, 0, 0), (110, 1, .iload_n 2, .iload 2, 0, 0), (111, 3, .if_icmp .ge 30, .if_icmp .ge 79, 0, 0), (114, 2, .iload 9, .iload 9, 0, 0), (116, 1, .istore_n 2, .istore 2, 0, 0), (117, 1, .aload_n 0, .aload 0, 0, 0), (118, 3, .getfield 15, .getstatic 304, 2061, 15), (121, 1, .iconst 0, .iconst 0, 0, 0), (122, 2, .iload 4, .iload 4, 0, 0), (124, 1, .iastore, .iastore, 0, 0), (125, 1, .aload_n 0, .aload 0, 0, 0), (126, 3, .getfield 15, .getstatic 304, 2061, 15), (129, 1, .iconst 1, .iconst 1, 0, 0), (130, 2, .iload 6, .iload 6, 0, 0), (132, 1, .iastore, .iastore, 0, 0), (133, 1, .aload_n 0, .aload 0, 0, 0), (134, 3, .getfield 15, .getstatic 304, 2061, 15), (137, 1, .iconst 2, .iconst 2, 0, 0), (138, 2, .iload 8, .iload 8, 0, 0), (140, 1, .iastore, .iastore, 0, 0), (141, 3, .iinc 8 1, .iinc 8 1, 0, 0), (144, 3, .goto (-55), .goto 50, 0, 0), (147, 3, .iinc 6 1, .iinc 6 1, 0, 0), (150, 3, .goto (-99), .goto 29, 0, 0), (153, 3, .iinc 4 1, .iinc 4 1, 0, 0), (156, 3, .goto (-142), .goto 8, 0, 0), (159, 1, .iload_n 2, .iload 2, 0, 0), (160, 1, .ireturn, .ireturn, 0, 0)]
set_option maxRecDepth 100000 in
def zi_46 : List Instr := [.iconst 100000000, .istore 2, .aload 0, .getstatic 300, .getfield 810, .istore 3, .iconst 0, .istore 4, .iload 4, .iload 3, .if_icmp .ge 85, .iload 1, .iconst 1, .if_icmp .le 16, .iload 3, .goto 19, .iload 4, .iconst 1, .iadd, .istore 5, .iload 1, .iconst 1, .if_icmp .le 27, .iload 4, .iconst 1, .iadd, .goto 28, .iload 4, .istore 6, .iload 6, .iload 5, .if_icmp .ge 83, .iload 1, .iconst 2, .if_icmp .le 37, .iload 3, .goto 40, .iload 6, .iconst 1, .iadd, .istore 7, .iload 1, .iconst 2, .if_icmp .le 48, .iload 6, .iconst 1, .iadd, .goto 49, .iload 6, .istore 8, .iload 8, .iload 7, .if_icmp .ge 81, .aload 0, .iload 4, .iload 6, .iload 8, .invokevirtual 450313, .istore 9, .iload 9, .iload 2, .if_icmp .ge 79, .iload 9, .istore 2, .aload 0, .getstatic 304, .iconst 0, .iload 4, .iastore, .aload 0, .getstatic 304, .iconst 1, .iload 6, .iastore, .aload 0, .getstatic 304, .iconst 2, .iload 8, .iastore, .iinc 8 1, .goto 50, .iinc 6 1, .goto 29, .iinc 4 1, .goto 8, .iload 2, .ireturn]
set_option maxRecDepth 100000 in
theorem ze_46 : zc_46.map (fun e => e.2.2.2.1) = zi_46 := rfl
set_option maxRecDepth 100000 in
theorem zk_46 : zckm (zmd 46) false zc_46 zmd [45] = true := by decide +kernel
noncomputable def zf_46 : zF := zden zX0 zi_46 (zlk [(45, zf_45)]) 10
/-- HillErrands$Market.settle -/
theorem zs_46 : ∀ d, 2 ≤ d → zSnd d (zmd 46) zf_46 := by
  intro d hd
  obtain ⟨d, rfl⟩ : ∃ k, d = k + 1 := ⟨d - 1, by omega⟩
  have h := zsound (d := d) (l := [(45, zf_45)]) zo_46 (fun h => by cases h) zk_46 (fun q hq => by
    simp only [List.mem_cons, List.not_mem_nil, or_false] at hq
    subst hq
    · exact zs_45 d (by omega))
  rw [ze_46] at h
  exact h
set_option maxRecDepth 100000 in
def zc_97 : List zE := [(0, 1, .iload_n 1, .iload 1, 0, 0), (1, 3, .ifCond .lt 15, .ifCond .lt 8, 0, 0), (4, 1, .iload_n 1, .iload 1, 0, 0), (5, 1, .aload_n 0, .aload 0, 0, 0), (6, 3, .getfield 44, .getfield 810, 1090, 44), (9, 3, .if_icmp .ge 7, .if_icmp .ge 8, 0, 0), (12, 1, .iconst 1, .iconst 1, 0, 0), (13, 3, .goto 4, .goto 9, 0, 0), (16, 1, .iconst 0, .iconst 0, 0, 0), (17, 1, .ireturn, .lreturn, 0, 0)]
set_option maxRecDepth 100000 in
def zi_97 : List Instr := [.iload 1, .ifCond .lt 8, .iload 1, .aload 0, .getfield 810, .if_icmp .ge 8, .iconst 1, .goto 9, .iconst 0, .lreturn]
set_option maxRecDepth 100000 in
theorem ze_97 : zc_97.map (fun e => e.2.2.2.1) = zi_97 := rfl
set_option maxRecDepth 100000 in
theorem zk_97 : zckm (zmd 97) false zc_97 zmd [] = true := by decide +kernel
noncomputable def zf_97 : zF := zden zX0 zi_97 (zlk []) 2
/-- HillErrands$Town.isPlace -/
theorem zs_97 : ∀ d, 1 ≤ d → zSnd d (zmd 97) zf_97 := by
  intro d hd
  obtain ⟨d, rfl⟩ : ∃ k, d = k + 1 := ⟨d - 1, by omega⟩
  have h := zsound (d := d) (l := []) zo_97 (fun h => by cases h) zk_97 (fun q hq => by cases hq)
  rw [ze_97] at h
  exact h
set_option maxRecDepth 100000 in
def zc_47 : List zE := [(0, 1, .iload_n 1, .iload 1, 0, 0), (1, 1, .istore_n 3, .istore 3, 0, 0), (2, 1, .iconst 0, .iconst 0, 0, 0), (3, 2, .istore 4, .istore 4, 0, 0), (5, 2, .iload 4, .iload 4, 0, 0), (7, 1, .iload_n 2, .iload 2, 0, 0), (8, 3, .if_icmp .ge 51, .if_icmp .ge 34, 0, 0), (11, 2, .iload 4, .iload 4, 0, 0), (13, 1, .iconst 3, .iconst 3, 0, 0), (14, 3, .if_icmp .ge 45, .if_icmp .ge 34, 0, 0), (17, 1, .iload_n 3, .iload 3, 0, 0), (18, 3, .ifCond .lt 17, .ifCond .lt 19, 0, 0), (21, 1, .aload_n 0, .aload 0, 0, 0), (22, 3, .getfield 18, .getstatic 300, 2057, 18), (25, 1, .iload_n 3, .iload 3, 0, 0), (26, 2, .bipush 20, .iconst 20, 0, 0), (28, 1, .irem, .irem, 0, 0), (29, 3, .invokevirtual 65, .invokevirtual 970811, 5055, 65), (32, 3, .ifCond .ne 5, .ifCond .ne 21, 0, 0), (35, 1, .iconst 0, .iconst 0, 0, 0), (36, 1, .ireturn, .lreturn, 0, 0), (37, 1, .aload_n 0, .aload 0, 0, 0), (38, 3, .getfield 15, .getstatic 304, 2061, 15), (41, 2, .iload 4, .iload 4, 0, 0), (43, 1, .iload_n 3, .iload 3, 0, 0), (44, 2, .bipush 20, .iconst 20, 0, 0), (46, 1, .irem, .irem, 0, 0), (47, 1, .iastore, .iastore, 0, 0), (48, 1, .iload_n 3, .iload 3, 0, 0), (49, 2, .bipush 20, .iconst 20, 0, 0), (51, 1, .idiv, .idiv, 0, 0), (52, 1, .istore_n 3, .istore 3, 0, 0), (53, 3, .iinc 4 1, .iinc 4 1, 0, 0), (56, 3, .goto (-51), .goto 4, 0, 0), (59, 1, .iload_n 3, .iload 3, 0, 0), (60, 3, .ifCond .ne 7, .ifCond .ne 38, 0, 0), (63, 1, .iconst 1, .iconst 1, 0, 0), (64, 3, .goto 4, .goto 39, 0, 0), (67, 1, .iconst 0, .iconst 0, 0, 0), (68, 1, .ireturn, .lreturn, 0, 0)]
set_option maxRecDepth 100000 in
def zi_47 : List Instr := [.iload 1, .istore 3, .iconst 0, .istore 4, .iload 4, .iload 2, .if_icmp .ge 34, .iload 4, .iconst 3, .if_icmp .ge 34, .iload 3, .ifCond .lt 19, .aload 0, .getstatic 300, .iload 3, .iconst 20, .irem, .invokevirtual 970811, .ifCond .ne 21, .iconst 0, .lreturn, .aload 0, .getstatic 304, .iload 4, .iload 3, .iconst 20, .irem, .iastore, .iload 3, .iconst 20, .idiv, .istore 3, .iinc 4 1, .goto 4, .iload 3, .ifCond .ne 38, .iconst 1, .goto 39, .iconst 0, .lreturn]
set_option maxRecDepth 100000 in
theorem ze_47 : zc_47.map (fun e => e.2.2.2.1) = zi_47 := rfl
set_option maxRecDepth 100000 in
theorem zk_47 : zckm (zmd 47) false zc_47 zmd [97] = true := by decide +kernel
noncomputable def zf_47 : zF := zden zX0 zi_47 (zlk [(97, zf_97)]) 5
/-- HillErrands$Market.open -/
theorem zs_47 : ∀ d, 2 ≤ d → zSnd d (zmd 47) zf_47 := by
  intro d hd
  obtain ⟨d, rfl⟩ : ∃ k, d = k + 1 := ⟨d - 1, by omega⟩
  have h := zsound (d := d) (l := [(97, zf_97)]) zo_47 (fun h => by cases h) zk_47 (fun q hq => by
    simp only [List.mem_cons, List.not_mem_nil, or_false] at hq
    subst hq
    · exact zs_97 d (by omega))
  rw [ze_47] at h
  exact h
set_option maxRecDepth 100000 in
def zc_51 : List zE := [(0, 1, .iconst (-1), .iconst (-1), 0, 0), (1, 1, .istore_n 3, .istore 3, 0, 0), (2, 2, .ldc 64, .iconst 100000000, 5034, 64), (4, 2, .istore 4, .istore 4, 0, 0), (6, 1, .iconst 0, .iconst 0, 0, 0), (7, 2, .istore 5, .istore 5, 0, 0), (9, 2, .iload 5, .iload 5, 0, 0), (11, 1, .iload_n 2, .iload 2, 0, 0), (12, 3, .if_icmp .ge 48, .if_icmp .ge 33, 0, 0), (15, 2, .iload 5, .iload 5, 0, 0), (17, 1, .iconst 3, .iconst 3, 0, 0), (18, 3, .if_icmp .ge 42, .if_icmp .ge 33, 0, 0), (21, 1, .aload_n 0, .aload 0, 0, 0), (22, 3, .getfield 9, .getstatic 303, 2060, 9), (25, 1, .iload_n 1, .iload 1, 0, 0), (26, 2, .bipush 20, .iconst 20, 0, 0), (28, 1, .imul, .imul, 0, 0), (29, 1, .aload_n 0, .aload 0, 0, 0), (30, 3, .getfield 15, .getstatic 304, 2061, 15), (33, 2, .iload 5, .iload 5, 0, 0), (35, 1, .iaload, .iaload, 0, 0), (36, 1, .iadd, .iadd, 0, 0), (37, 1, .iaload, .iaload, 0, 0), (38, 2, .istore 6, .istore 6, 0, 0), (40, 2, .iload 6, .iload 6, 0, 0), (42, 2, .iload 4, .iload 4, 0, 0), (44, 3, .if_icmp .ge 10, .if_icmp .ge 31, 0, 0), (47, 2, .iload 6, .iload 6, 0, 0), (49, 2, .istore 4, .istore 4, 0, 0), (51, 2, .iload 5, .iload 5, 0, 0), (53, 1, .istore_n 3, .istore 3, 0, 0), (54, 3, .iinc 5 1, .iinc 5 1, 0, 0), (57, 3, .goto (-48), .goto 6, 0, 0), (60, 1, .iload_n 3, .iload 3, 0, 0), (61, 1, .ireturn, .ireturn, 0, 0)]
set_option maxRecDepth 100000 in
def zi_51 : List Instr := [.iconst (-1), .istore 3, .iconst 100000000, .istore 4, .iconst 0, .istore 5, .iload 5, .iload 2, .if_icmp .ge 33, .iload 5, .iconst 3, .if_icmp .ge 33, .aload 0, .getstatic 303, .iload 1, .iconst 20, .imul, .aload 0, .getstatic 304, .iload 5, .iaload, .iadd, .iaload, .istore 6, .iload 6, .iload 4, .if_icmp .ge 31, .iload 6, .istore 4, .iload 5, .istore 3, .iinc 5 1, .goto 6, .iload 3, .ireturn]
set_option maxRecDepth 100000 in
theorem ze_51 : zc_51.map (fun e => e.2.2.2.1) = zi_51 := rfl
set_option maxRecDepth 100000 in
theorem zk_51 : zckm (zmd 51) false zc_51 zmd [] = true := by decide +kernel
noncomputable def zf_51 : zF := zden zX0 zi_51 (zlk []) 7
/-- HillErrands$Market.nearestTo -/
theorem zs_51 : ∀ d, 1 ≤ d → zSnd d (zmd 51) zf_51 := by
  intro d hd
  obtain ⟨d, rfl⟩ : ∃ k, d = k + 1 := ⟨d - 1, by omega⟩
  have h := zsound (d := d) (l := []) zo_51 (fun h => by cases h) zk_51 (fun q hq => by cases hq)
  rw [ze_51] at h
  exact h
set_option maxRecDepth 100000 in
def zc_50 : List zE := [(0, 1, .iconst 0, .iconst 0, 0, 0), (1, 1, .istore_n 3, .istore 3, 0, 0), (2, 1, .iconst 0, .iconst 0, 0, 0), (3, 2, .istore 4, .istore 4, 0, 0), (5, 2, .iload 4, .iload 4, 0, 0), (7, 1, .aload_n 0, .aload 0, 0, 0), (8, 3, .getfield 26, .getstatic 302, 2059, 26), (11, 3, .getfield 36, .getfield 110, 1169, 36), (14, 3, .if_icmp .ge 23, .if_icmp .ge 18, 0, 0), (17, 1, .aload_n 0, .aload 0, 0, 0), (18, 2, .iload 4, .iload 4, 0, 0), (20, 1, .iload_n 2, .iload 2, 0, 0), (21, 3, .invokevirtual 75, .invokevirtual 510312, 5068, 75), (24, 1, .iload_n 1, .iload 1, 0, 0), (25, 3, .if_icmp .ne 6, .if_icmp .ne 16, 0, 0), (28, 3, .iinc 3 1, .iinc 3 1, 0, 0), (31, 3, .iinc 4 1, .iinc 4 1, 0, 0), (34, 3, .goto (-29), .goto 4, 0, 0), (37, 1, .iload_n 3, .iload 3, 0, 0), (38, 1, .ireturn, .ireturn, 0, 0)]
set_option maxRecDepth 100000 in
def zi_50 : List Instr := [.iconst 0, .istore 3, .iconst 0, .istore 4, .iload 4, .aload 0, .getstatic 302, .getfield 110, .if_icmp .ge 18, .aload 0, .iload 4, .iload 2, .invokevirtual 510312, .iload 1, .if_icmp .ne 16, .iinc 3 1, .iinc 4 1, .goto 4, .iload 3, .ireturn]
set_option maxRecDepth 100000 in
theorem ze_50 : zc_50.map (fun e => e.2.2.2.1) = zi_50 := rfl
set_option maxRecDepth 100000 in
theorem zk_50 : zckm (zmd 50) false zc_50 zmd [51] = true := by decide +kernel
noncomputable def zf_50 : zF := zden zX0 zi_50 (zlk [(51, zf_51)]) 5
/-- HillErrands$Market.comersTo -/
theorem zs_50 : ∀ d, 2 ≤ d → zSnd d (zmd 50) zf_50 := by
  intro d hd
  obtain ⟨d, rfl⟩ : ∃ k, d = k + 1 := ⟨d - 1, by omega⟩
  have h := zsound (d := d) (l := [(51, zf_51)]) zo_50 (fun h => by cases h) zk_50 (fun q hq => by
    simp only [List.mem_cons, List.not_mem_nil, or_false] at hq
    subst hq
    · exact zs_51 d (by omega))
  rw [ze_50] at h
  exact h
set_option maxRecDepth 100000 in
def zc_49 : List zE := [(0, 1, .aload_n 0, .aload 0, 0, 0), (1, 3, .getfield 15, .getstatic 304, 2061, 15), (4, 1, .iload_n 1, .iload 1, 0, 0), (5, 1, .iaload, .iaload, 0, 0), (6, 1, .istore_n 3, .istore 3, 0, 0), (7, 1, .iload_n 3, .iload 3, 0, 0), (8, 2, .istore 4, .istore 4, 0, 0), (10, 1, .aload_n 0, .aload 0, 0, 0), (11, 1, .iload_n 1, .iload 1, 0, 0), (12, 1, .iload_n 2, .iload 2, 0, 0), (13, 3, .invokevirtual 72, .invokevirtual 500312, 5064, 72), (16, 2, .istore 5, .istore 5, 0, 0), (18, 1, .iconst 0, .iconst 0, 0, 0), (19, 2, .istore 6, .istore 6, 0, 0), (21, 2, .iload 6, .iload 6, 0, 0), (23, 1, .aload_n 0, .aload 0, 0, 0), (24, 3, .getfield 18, .getstatic 300, 2057, 18), (27, 3, .getfield 42, .getfield 810, 1091, 42), (30, 3, .if_icmp .ge 40, .if_icmp .ge 38, 0, 0), (33, 1, .aload_n 0, .aload 0, 0, 0), (34, 3, .getfield 15, .getstatic 304, 2061, 15), (37, 1, .iload_n 1, .iload 1, 0, 0), (38, 2, .iload 6, .iload 6, 0, 0), (40, 1, .iastore, .iastore, 0, 0), (41, 1, .aload_n 0, .aload 0, 0, 0), (42, 1, .iload_n 1, .iload 1, 0, 0), (43, 1, .iload_n 2, .iload 2, 0, 0), (44, 3, .invokevirtual 72, .invokevirtual 500312, 5064, 72), (47, 2, .istore 7, .istore 7, 0, 0), (49, 2, .iload 7, .iload 7, 0, 0), (51, 2, .iload 5, .iload 5, 0, 0), (53, 3, .if_icmp .le 11, .if_icmp .le 36, 0, 0), (56, 2, .iload 7, .iload 7, 0, 0), (58, 2, .istore 5, .istore 5, 0, 0), (60, 2, .iload 6, .iload 6, 0, 0), (62, 2, .istore 4, .istore 4, 0, 0), (64, 3, .iinc 6 1, .iinc 6 1, 0, 0), (67, 3, .goto (-46), .goto 14, 0, 0), (70, 1, .aload_n 0, .aload 0, 0, 0), (71, 3, .getfield 15, .getstatic 304, 2061, 15), (74, 1, .iload_n 1, .iload 1, 0, 0), (75, 1, .iload_n 3, .iload 3, 0, 0), (76, 1, .iastore, .iastore, 0, 0), (77, 2, .iload 4, .iload 4, 0, 0), (79, 1, .ireturn, .ireturn, 0, 0)]
set_option maxRecDepth 100000 in
def zi_49 : List Instr := [.aload 0, .getstatic 304, .iload 1, .iaload, .istore 3, .iload 3, .istore 4, .aload 0, .iload 1, .iload 2, .invokevirtual 500312, .istore 5, .iconst 0, .istore 6, .iload 6, .aload 0, .getstatic 300, .getfield 810, .if_icmp .ge 38, .aload 0, .getstatic 304, .iload 1, .iload 6, .iastore, .aload 0, .iload 1, .iload 2, .invokevirtual 500312, .istore 7, .iload 7, .iload 5, .if_icmp .le 36, .iload 7, .istore 5, .iload 6, .istore 4, .iinc 6 1, .goto 14, .aload 0, .getstatic 304, .iload 1, .iload 3, .iastore, .iload 4, .ireturn]
set_option maxRecDepth 100000 in
theorem ze_49 : zc_49.map (fun e => e.2.2.2.1) = zi_49 := rfl
set_option maxRecDepth 100000 in
theorem zk_49 : zckm (zmd 49) false zc_49 zmd [50] = true := by decide +kernel
noncomputable def zf_49 : zF := zden zX0 zi_49 (zlk [(50, zf_50)]) 8
/-- HillErrands$Market.likedSpot -/
theorem zs_49 : ∀ d, 3 ≤ d → zSnd d (zmd 49) zf_49 := by
  intro d hd
  obtain ⟨d, rfl⟩ : ∃ k, d = k + 1 := ⟨d - 1, by omega⟩
  have h := zsound (d := d) (l := [(50, zf_50)]) zo_49 (fun h => by cases h) zk_49 (fun q hq => by
    simp only [List.mem_cons, List.not_mem_nil, or_false] at hq
    subst hq
    · exact zs_50 d (by omega))
  rw [ze_49] at h
  exact h
set_option maxRecDepth 100000 in
def zc_48 : List zE := [(0, 1, .iconst 0, .iconst 0, 0, 0), (1, 1, .istore_n 2, .istore 2, 0, 0), (2, 1, .iconst 1, .iconst 1, 0, 0), (3, 1, .istore_n 3, .istore 3, 0, 0), (4, 1, .iload_n 3, .iload 3, 0, 0), (5, 3, .ifCond .eq 74, .ifCond .eq 44, 0, 0), (8, 1, .iload_n 2, .iload 2, 0, 0), (9, 2, .bipush 20, .iconst 20, 0, 0), (11, 3, .if_icmp .ge 68, .if_icmp .ge 44, 0, 0), (14, 1, .iconst 0, .iconst 0, 0, 0), (15, 1, .istore_n 3, .istore 3, 0, 0), (16, 1, .iconst 0, .iconst 0, 0, 0), (17, 2, .istore 4, .istore 4, 0, 0), (19, 2, .iload 4, .iload 4, 0, 0), (21, 1, .iload_n 1, .iload 1, 0, 0), (22, 3, .if_icmp .ge 47, .if_icmp .ge 40, 0, 0), (25, 1, .aload_n 0, .aload 0, 0, 0), (26, 2, .iload 4, .iload 4, 0, 0), (28, 1, .iload_n 1, .iload 1, 0, 0), (29, 3, .invokevirtual 69, .invokevirtual 490312, 5060, 69), (32, 2, .istore 5, .istore 5, 0, 0), (34, 1, .iload_n 3, .iload 3, 0, 0), (35, 2, .iload 5, .iload 5, 0, 0), (37, 1, .aload_n 0, .aload 0, 0, 0), (38, 3, .getfield 15, .getstatic 304, 2061, 15), (41, 2, .iload 4, .iload 4, 0, 0), (43, 1, .iaload, .iaload, 0, 0), (44, 3, .if_icmp .eq 7, .if_icmp .eq 30, 0, 0), (47, 1, .iconst 1, .iconst 1, 0, 0), (48, 3, .goto 4, .goto 31, 0, 0), (51, 1, .iconst 0, .iconst 0, 0, 0), (52, 1, .ior, .ior, 0, 0), (53, 1, .istore_n 3, .istore 3, 0, 0), (54, 1, .aload_n 0, .aload 0, 0, 0), (55, 3, .getfield 15, .getstatic 304, 2061, 15), (58, 2, .iload 4, .iload 4, 0, 0), (60, 2, .iload 5, .iload 5, 0, 0), (62, 1, .iastore, .iastore, 0, 0), (63, 3, .iinc 4 1, .iinc 4 1, 0, 0), (66, 3, .goto (-47), .goto 13, 0, 0), (69, 1, .iload_n 3, .iload 3, 0, 0), (70, 3, .ifCond .eq (-66), .ifCond .eq 4, 0, 0), (73, 3, .iinc 2 1, .iinc 2 1, 0, 0), (76, 3, .goto (-72), .goto 4, 0, 0), (79, 1, .iload_n 2, .iload 2, 0, 0), (80, 1, .ireturn, .ireturn, 0, 0)]
set_option maxRecDepth 100000 in
def zi_48 : List Instr := [.iconst 0, .istore 2, .iconst 1, .istore 3, .iload 3, .ifCond .eq 44, .iload 2, .iconst 20, .if_icmp .ge 44, .iconst 0, .istore 3, .iconst 0, .istore 4, .iload 4, .iload 1, .if_icmp .ge 40, .aload 0, .iload 4, .iload 1, .invokevirtual 490312, .istore 5, .iload 3, .iload 5, .aload 0, .getstatic 304, .iload 4, .iaload, .if_icmp .eq 30, .iconst 1, .goto 31, .iconst 0, .ior, .istore 3, .aload 0, .getstatic 304, .iload 4, .iload 5, .iastore, .iinc 4 1, .goto 13, .iload 3, .ifCond .eq 4, .iinc 2 1, .goto 4, .iload 2, .ireturn]
set_option maxRecDepth 100000 in
theorem ze_48 : zc_48.map (fun e => e.2.2.2.1) = zi_48 := rfl
set_option maxRecDepth 100000 in
theorem zk_48 : zckm (zmd 48) false zc_48 zmd [49] = true := by decide +kernel
noncomputable def zf_48 : zF := zden zX0 zi_48 (zlk [(49, zf_49)]) 6
/-- HillErrands$Market.moveAll -/
theorem zs_48 : ∀ d, 4 ≤ d → zSnd d (zmd 48) zf_48 := by
  intro d hd
  obtain ⟨d, rfl⟩ : ∃ k, d = k + 1 := ⟨d - 1, by omega⟩
  have h := zsound (d := d) (l := [(49, zf_49)]) zo_48 (fun h => by cases h) zk_48 (fun q hq => by
    simp only [List.mem_cons, List.not_mem_nil, or_false] at hq
    subst hq
    · exact zs_49 d (by omega))
  rw [ze_48] at h
  exact h
set_option maxRecDepth 100000 in
def zc_52 : List zE := [(0, 1, .aload_n 0, .aload 0, 0, 0), (1, 3, .invokespecial 3, .pop, 2078, 3), (4, 1, .aload_n 0, .aload 0, 0, 0), (5, 1, .aload_n 1, .aload 1, 0, 0), (6, 3, .putfield 9, .putstatic 400, 2079, 9), (9, 1, .aload_n 0, .aload 0, 0, 0), (10, 1, .aload_n 2, .aload 2, 0, 0), (11, 3, .putfield 15, .putstatic 401, 2080, 15), (14, 1, .aload_n 0, .aload 0, 0, 0), (15, 1, .aload_n 3, .aload 3, 0, 0), (16, 3, .putfield 19, .putstatic 402, 2081, 19), (19, 1, .return_, .return_, 0, 0)]
set_option maxRecDepth 100000 in
def zi_52 : List Instr := [.aload 0, .pop, .aload 0, .aload 1, .putstatic 400, .aload 0, .aload 2, .putstatic 401, .aload 0, .aload 3, .putstatic 402, .return_]
set_option maxRecDepth 100000 in
theorem ze_52 : zc_52.map (fun e => e.2.2.2.1) = zi_52 := rfl
set_option maxRecDepth 100000 in
theorem zk_52 : zckm (zmd 52) true zc_52 zmd [] = true := by decide +kernel
noncomputable def zf_52 : zF := zden zX0 zi_52 (zlk []) 4
/-- HillErrands$Mason.<init> -/
theorem zs_52 : ∀ d, 1 ≤ d → zSnd d (zmd 52) zf_52 := by
  intro d hd
  obtain ⟨d, rfl⟩ : ∃ k, d = k + 1 := ⟨d - 1, by omega⟩
  have h := zsound (d := d) (l := []) zo_52 (fun _ => rfl) zk_52 (fun q hq => by cases hq)
  rw [ze_52] at h
  exact h
set_option maxRecDepth 100000 in
def zc_53 : List zE := [(0, 1, .iload_n 1, .iload 1, 0, 0), (1, 1, .iconst 2, .iconst 2, 0, 0), (2, 3, .if_icmp .ne 8, .if_icmp .ne 6, 0, 0), (5, 1, .aload_n 0, .aload 0, 0, 0), (6, 3, .getfield 23, .getfield 405, 2084, 23), (9, 1, .ireturn, .ireturn, 0, 0), (10, 1, .iload_n 1, .iload 1, 0, 0), (11, 3, .ifCond .ne 10, .ifCond .ne 11, 0, 0), (14, 1, .aload_n 0, .aload 0, 0, 0), (15, 3, .getfield 27, .getfield 403, 2082, 27), (18, 3, .goto 7, .goto 13, 0, 0), (21, 1, .aload_n 0, .aload 0, 0, 0), (22, 3, .getfield 30, .getfield 404, 2083, 30), (25, 1, .ireturn, .ireturn, 0, 0)]
set_option maxRecDepth 100000 in
def zi_53 : List Instr := [.iload 1, .iconst 2, .if_icmp .ne 6, .aload 0, .getfield 405, .ireturn, .iload 1, .ifCond .ne 11, .aload 0, .getfield 403, .goto 13, .aload 0, .getfield 404, .ireturn]
set_option maxRecDepth 100000 in
theorem ze_53 : zc_53.map (fun e => e.2.2.2.1) = zi_53 := rfl
set_option maxRecDepth 100000 in
theorem zk_53 : zckm (zmd 53) false zc_53 zmd [] = true := by decide +kernel
noncomputable def zf_53 : zF := zden zX0 zi_53 (zlk []) 2
/-- HillErrands$Mason.planned -/
theorem zs_53 : ∀ d, 1 ≤ d → zSnd d (zmd 53) zf_53 := by
  intro d hd
  obtain ⟨d, rfl⟩ : ∃ k, d = k + 1 := ⟨d - 1, by omega⟩
  have h := zsound (d := d) (l := []) zo_53 (fun h => by cases h) zk_53 (fun q hq => by cases hq)
  rw [ze_53] at h
  exact h
set_option maxRecDepth 100000 in
def zc_116 : List zE := [(0, 1, .aload_n 0, .aload 0, 0, 0), (1, 1, .iload_n 1, .iload 1, 0, 0), (2, 1, .iload_n 2, .iload 2, 0, 0), (3, 3, .invokevirtual 63, .invokevirtual 1170802, 3183, 63), (6, 1, .aload_n 0, .aload 0, 0, 0), (7, 1, .iload_n 3, .iload 3, 0, 0), (8, 1, .aload_n 0, .aload 0, 0, 0), (9, 3, .getfield 47, .getfield 811, 1096, 47), (12, 1, .iconst 0, .iconst 0, 0, 0), (13, 3, .invokevirtual 67, .invokevirtual 1180803, 3188, 67), (16, 1, .aload_n 0, .aload 0, 0, 0), (17, 3, .getfield 33, .getstatic 806, 1086, 33), (20, 1, .aload_n 0, .aload 0, 0, 0), (21, 3, .getfield 27, .getstatic 805, 1085, 27), (24, 3, .invokevirtual 71, .invokevirtual 380211, 3192, 71), (27, 1, .ireturn, .ireturn, 0, 0)]
set_option maxRecDepth 100000 in
def zi_116 : List Instr := [.aload 0, .iload 1, .iload 2, .invokevirtual 1170802, .aload 0, .iload 3, .aload 0, .getfield 811, .iconst 0, .invokevirtual 1180803, .aload 0, .getstatic 806, .aload 0, .getstatic 805, .invokevirtual 380211, .ireturn]
set_option maxRecDepth 100000 in
theorem ze_116 : zc_116.map (fun e => e.2.2.2.1) = zi_116 := rfl
set_option maxRecDepth 100000 in
theorem zk_116 : zckm (zmd 116) false zc_116 zmd [38, 117, 118] = true := by decide +kernel
noncomputable def zf_116 : zF := zden zX0 zi_116 (zlk [(38, zf_38), (117, zf_117), (118, zf_118)]) 4
/-- HillErrands$Town.alongNew -/
theorem zs_116 : ∀ d, 4 ≤ d → zSnd d (zmd 116) zf_116 := by
  intro d hd
  obtain ⟨d, rfl⟩ : ∃ k, d = k + 1 := ⟨d - 1, by omega⟩
  have h := zsound (d := d) (l := [(38, zf_38), (117, zf_117), (118, zf_118)]) zo_116 (fun h => by cases h) zk_116 (fun q hq => by
    simp only [List.mem_cons, List.not_mem_nil, or_false] at hq
    rcases hq with rfl | rfl | rfl
    · exact zs_38 d (by omega)
    · exact zs_117 d (by omega)
    · exact zs_118 d (by omega))
  rw [ze_116] at h
  exact h
set_option maxRecDepth 100000 in
def zc_55 : List zE := [(0, 1, .aload_n 0, .aload 0, 0, 0), (1, 3, .getfield 9, .getstatic 400, 2079, 9), (4, 1, .iload_n 1, .iload 1, 0, 0), (5, 1, .iload_n 2, .iload 2, 0, 0), (6, 1, .iload_n 3, .iload 3, 0, 0), (7, 3, .invokevirtual 53, .invokevirtual 1160813, 5088, 53), (10, 2, .istore 4, .istore 4, 0, 0), (12, 1, .iload_n 3, .iload 3, 0, 0), (13, 1, .iconst 1, .iconst 1, 0, 0), (14, 3, .if_icmp .ne 8, .if_icmp .ne 12, 0, 0), (17, 2, .bipush (-2), .iconst (-2), 0, 0), (19, 3, .goto 13, .goto 18, 0, 0), (22, 1, .aload_n 0, .aload 0, 0, 0), (23, 3, .getfield 9, .getstatic 400, 2079, 9), (26, 1, .iload_n 2, .iload 2, 0, 0), (27, 1, .iload_n 1, .iload 1, 0, 0), (28, 1, .iload_n 3, .iload 3, 0, 0), (29, 3, .invokevirtual 53, .invokevirtual 1160813, 5088, 53), (32, 2, .istore 5, .istore 5, 0, 0), (34, 1, .iconst 0, .iconst 0, 0, 0), (35, 2, .istore 6, .istore 6, 0, 0), (37, 1, .iconst 0, .iconst 0, 0, 0), (38, 2, .istore 7, .istore 7, 0, 0), (40, 2, .iload 7, .iload 7, 0, 0), (42, 1, .aload_n 0, .aload 0, 0, 0), (43, 3, .getfield 19, .getstatic 402, 2081, 19), (46, 3, .getfield 56, .getfield 110, 1171, 56), (49, 3, .if_icmp .ge 141, .if_icmp .ge 96, 0, 0), (52, 1, .aload_n 0, .aload 0, 0, 0), (53, 3, .getfield 19, .getstatic 402, 2081, 19), (56, 2, .iload 7, .iload 7, 0, 0), (58, 3, .invokevirtual 61, .invokevirtual 170111, 5092, 61), (61, 2, .istore 8, .istore 8, 0, 0), (63, 1, .aload_n 0, .aload 0, 0, 0), (64, 3, .getfield 19, .getstatic 402, 2081, 19), (67, 2, .iload 7, .iload 7, 0, 0), (69, 3, .invokevirtual 65, .invokevirtual 180111, 5093, 65), (72, 2, .istore 9, .istore 9, 0, 0), (74, 1, .aload_n 0, .aload 0, 0, 0), (75, 3, .getfield 15, .getstatic 401, 2080, 15), (78, 2, .iload 8, .iload 8, 0, 0), (80, 2, .iload 9, .iload 9, 0, 0), (82, 1, .iconst 0, .iconst 0, 0, 0), (83, 3, .invokevirtual 68, .invokevirtual 1210913, 5094, 68), (86, 2, .istore 10, .istore 10, 0, 0), (88, 2, .iload 4, .iload 4, 0, 0), (90, 3, .ifCond .lt 36, .ifCond .lt 65, 0, 0), (93, 2, .iload 10, .iload 10, 0, 0), (95, 1, .aload_n 0, .aload 0, 0, 0), (96, 3, .getfield 15, .getstatic 401, 2080, 15), (99, 2, .iload 8, .iload 8, 0, 0), (101, 1, .iload_n 1, .iload 1, 0, 0), (102, 1, .iconst 0, .iconst 0, 0, 0), (103, 3, .invokevirtual 68, .invokevirtual 1210913, 5094, 68), (106, 2, .iload 4, .iload 4, 0, 0), (108, 1, .iadd, .iadd, 0, 0), (109, 1, .aload_n 0, .aload 0, 0, 0), (110, 3, .getfield 15, .getstatic 401, 2080, 15), (113, 1, .iload_n 2, .iload 2, 0, 0), (114, 2, .iload 9, .iload 9, 0, 0), (116, 1, .iconst 0, .iconst 0, 0, 0), (117, 3, .invokevirtual 68, .invokevirtual 1210913, 5094, 68), (120, 1, .iadd, .iadd, 0, 0), (121, 3, .invokestatic 71, .fsub, 5095, 71), (124, 2, .istore 10, .istore 10, 0, 0), (126, 2, .iload 5, .iload 5, 0, 0), (128, 3, .ifCond .lt 36, .ifCond .lt 85, 0, 0), (131, 2, .iload 10, .iload 10, 0, 0), (133, 1, .aload_n 0, .aload 0, 0, 0), (134, 3, .getfield 15, .getstatic 401, 2080, 15), (137, 2, .iload 8, .iload 8, 0, 0), (139, 1, .iload_n 2, .iload 2, 0, 0), (140, 1, .iconst 0, .iconst 0, 0, 0), (141, 3, .invokevirtual 68, .invokevirtual 1210913, 5094, 68), (144, 2, .iload 5, .iload 5, 0, 0), (146, 1, .iadd, .iadd, 0, 0), (147, 1, .aload_n 0, .aload 0, 0, 0), (148, 3, .getfield 15, .getstatic 401, 2080, 15), (151, 1, .iload_n 1, .iload 1, 0, 0), (152, 2, .iload 9, .iload 9, 0, 0), (154, 1, .iconst 0, .iconst 0, 0, 0), (155, 3, .invokevirtual 68, .invokevirtual 1210913, 5094, 68), (158, 1, .iadd, .iadd, 0, 0), (159, 3, .invokestatic 71, .fsub, 5095, 71), (162, 2, .istore 10, .istore 10, 0, 0), (164, 2, .iload 6, .iload 6, 0, 0), (166, 2, .iload 10, .iload 10, 0, 0), (168, 2, .ldc 39, .iconst 100000000, 5082, 39), (170, 3, .if_icmp .lt 9, .if_icmp .lt 91, 0, 0), (173, 3, .sipush 1000, .iconst 1000, 0, 0), (176, 3, .goto 5, .goto 92, 0, 0), (179, 2, .iload 10, .iload 10, 0, 0), (181, 1, .iadd, .iadd, 0, 0), (182, 2, .istore 6, .istore 6, 0, 0), (184, 3, .iinc 7 1, .iinc 7 1, 0, 0), (187, 3, .goto (-147), .goto 23, 0, 0), (190, 2, .iload 6, .iload 6, 0, 0), (192, 1, .ireturn, .ireturn, 0, 0)]
set_option maxRecDepth 100000 in
def zi_55 : List Instr := [.aload 0, .getstatic 400, .iload 1, .iload 2, .iload 3, .invokevirtual 1160813, .istore 4, .iload 3, .iconst 1, .if_icmp .ne 12, .iconst (-2), .goto 18, .aload 0, .getstatic 400, .iload 2, .iload 1, .iload 3, .invokevirtual 1160813, .istore 5, .iconst 0, .istore 6, .iconst 0, .istore 7, .iload 7, .aload 0, .getstatic 402, .getfield 110, .if_icmp .ge 96, .aload 0, .getstatic 402, .iload 7, .invokevirtual 170111, .istore 8, .aload 0, .getstatic 402, .iload 7, .invokevirtual 180111, .istore 9, .aload 0, .getstatic 401, .iload 8, .iload 9, .iconst 0, .invokevirtual 1210913, .istore 10, .iload 4, .ifCond .lt 65, .iload 10, .aload 0, .getstatic 401, .iload 8, .iload 1, .iconst 0, .invokevirtual 1210913, .iload 4, .iadd, .aload 0, .getstatic 401, .iload 2, .iload 9, .iconst 0, .invokevirtual 1210913, .iadd, .fsub, .istore 10, .iload 5, .ifCond .lt 85, .iload 10, .aload 0, .getstatic 401, .iload 8, .iload 2, .iconst 0, .invokevirtual 1210913, .iload 5, .iadd, .aload 0, .getstatic 401, .iload 1, .iload 9, .iconst 0, .invokevirtual 1210913, .iadd, .fsub, .istore 10, .iload 6, .iload 10, .iconst 100000000, .if_icmp .lt 91, .iconst 1000, .goto 92, .iload 10, .iadd, .istore 6, .iinc 7 1, .goto 23, .iload 6, .ireturn]
set_option maxRecDepth 100000 in
theorem ze_55 : zc_55.map (fun e => e.2.2.2.1) = zi_55 := rfl
set_option maxRecDepth 100000 in
theorem zk_55 : zckm (zmd 55) false zc_55 zmd [17, 18, 116, 121] = true := by decide +kernel
noncomputable def zf_55 : zF := zden zX0 zi_55 (zlk [(17, zf_17), (18, zf_18), (116, zf_116), (121, zf_121)]) 11
/-- HillErrands$Mason.costsWith -/
theorem zs_55 : ∀ d, 5 ≤ d → zSnd d (zmd 55) zf_55 := by
  intro d hd
  obtain ⟨d, rfl⟩ : ∃ k, d = k + 1 := ⟨d - 1, by omega⟩
  have h := zsound (d := d) (l := [(17, zf_17), (18, zf_18), (116, zf_116), (121, zf_121)]) zo_55 (fun h => by cases h) zk_55 (fun q hq => by
    simp only [List.mem_cons, List.not_mem_nil, or_false] at hq
    rcases hq with rfl | rfl | rfl | rfl
    · exact zs_17 d (by omega)
    · exact zs_18 d (by omega)
    · exact zs_116 d (by omega)
    · exact zs_121 d (by omega))
  rw [ze_55] at h
  exact h
set_option maxRecDepth 100000 in
def zc_99 : List zE := [(0, 1, .aload_n 0, .aload 0, 0, 0), (1, 3, .getfield 9, .getstatic 800, 1080, 9), (4, 1, .iload_n 1, .iload 1, 0, 0), (5, 1, .iaload, .iaload, 0, 0), (6, 1, .aload_n 0, .aload 0, 0, 0), (7, 3, .getfield 9, .getstatic 800, 1080, 9), (10, 1, .iload_n 2, .iload 2, 0, 0), (11, 1, .iaload, .iaload, 0, 0), (12, 3, .if_icmp .lt 7, .if_icmp .lt 11, 0, 0), (15, 1, .iconst 1, .iconst 1, 0, 0), (16, 3, .goto 4, .goto 12, 0, 0), (19, 1, .iconst 0, .iconst 0, 0, 0), (20, 1, .ireturn, .lreturn, 0, 0)]
set_option maxRecDepth 100000 in
def zi_99 : List Instr := [.aload 0, .getstatic 800, .iload 1, .iaload, .aload 0, .getstatic 800, .iload 2, .iaload, .if_icmp .lt 11, .iconst 1, .goto 12, .iconst 0, .lreturn]
set_option maxRecDepth 100000 in
theorem ze_99 : zc_99.map (fun e => e.2.2.2.1) = zi_99 := rfl
set_option maxRecDepth 100000 in
theorem zk_99 : zckm (zmd 99) false zc_99 zmd [] = true := by decide +kernel
noncomputable def zf_99 : zF := zden zX0 zi_99 (zlk []) 3
/-- HillErrands$Town.isSlope -/
theorem zs_99 : ∀ d, 1 ≤ d → zSnd d (zmd 99) zf_99 := by
  intro d hd
  obtain ⟨d, rfl⟩ : ∃ k, d = k + 1 := ⟨d - 1, by omega⟩
  have h := zsound (d := d) (l := []) zo_99 (fun h => by cases h) zk_99 (fun q hq => by cases hq)
  rw [ze_99] at h
  exact h
set_option maxRecDepth 100000 in
def zc_54 : List zE := [(0, 1, .aload_n 0, .aload 0, 0, 0), (1, 3, .getfield 15, .getstatic 401, 2080, 15), (4, 1, .iconst 0, .iconst 0, 0, 0), (5, 3, .invokevirtual 33, .invokevirtual 1200901, 5081, 33), (8, 1, .aload_n 0, .aload 0, 0, 0), (9, 2, .ldc 39, .iconst 100000000, 5082, 39), (11, 3, .putfield 23, .putfield 405, 2084, 23), (14, 1, .iconst 0, .iconst 0, 0, 0), (15, 1, .istore_n 2, .istore 2, 0, 0), (16, 1, .iload_n 2, .iload 2, 0, 0), (17, 1, .aload_n 0, .aload 0, 0, 0), (18, 3, .getfield 9, .getstatic 400, 2079, 9), (21, 3, .getfield 40, .getfield 810, 1092, 40), (24, 3, .if_icmp .ge 98, .if_icmp .ge 64, 0, 0), (27, 1, .iload_n 1, .iload 1, 0, 0), (28, 1, .iconst 1, .iconst 1, 0, 0), (29, 3, .if_icmp .ne 7, .if_icmp .ne 19, 0, 0), (32, 1, .iconst 0, .iconst 0, 0, 0), (33, 3, .goto 6, .goto 22, 0, 0), (36, 1, .iload_n 2, .iload 2, 0, 0), (37, 1, .iconst 1, .iconst 1, 0, 0), (38, 1, .iadd, .iadd, 0, 0), (39, 1, .istore_n 3, .istore 3, 0, 0), (40, 1, .iload_n 3, .iload 3, 0, 0), (41, 1, .aload_n 0, .aload 0, 0, 0), (42, 3, .getfield 9, .getstatic 400, 2079, 9), (45, 3, .getfield 40, .getfield 810, 1092, 40), (48, 3, .if_icmp .ge 68, .if_icmp .ge 62, 0, 0), (51, 1, .iload_n 2, .iload 2, 0, 0), (52, 1, .iload_n 3, .iload 3, 0, 0), (53, 3, .if_icmp .eq 57, .if_icmp .eq 60, 0, 0), (56, 1, .iload_n 1, .iload 1, 0, 0), (57, 1, .iconst 1, .iconst 1, 0, 0), (58, 3, .if_icmp .ne 18, .if_icmp .ne 41, 0, 0), (61, 1, .aload_n 0, .aload 0, 0, 0), (62, 3, .getfield 9, .getstatic 400, 2079, 9), (65, 1, .iload_n 2, .iload 2, 0, 0), (66, 1, .iload_n 3, .iload 3, 0, 0), (67, 3, .invokevirtual 45, .invokevirtual 990812, 5083, 45), (70, 3, .ifCond .ne 6, .ifCond .ne 41, 0, 0), (73, 3, .goto 37, .goto 60, 0, 0), (76, 1, .aload_n 0, .aload 0, 0, 0), (77, 1, .iload_n 2, .iload 2, 0, 0), (78, 1, .iload_n 3, .iload 3, 0, 0), (79, 1, .iload_n 1, .iload 1, 0, 0), (80, 3, .invokevirtual 49, .invokevirtual 550413, 5084, 49), (83, 2, .istore 4, .istore 4, 0, 0), (85, 2, .iload 4, .iload 4, 0, 0), (87, 1, .aload_n 0, .aload 0, 0, 0), (88, 3, .getfield 23, .getfield 405, 2084, 23), (91, 3, .if_icmp .ge 19, .if_icmp .ge 60, 0, 0), (94, 1, .aload_n 0, .aload 0, 0, 0), (95, 2, .iload 4, .iload 4, 0, 0), (97, 3, .putfield 23, .putfield 405, 2084, 23), (100, 1, .aload_n 0, .aload 0, 0, 0), (101, 1, .iload_n 2, .iload 2, 0, 0), (102, 3, .putfield 27, .putfield 403, 2082, 27), (105, 1, .aload_n 0, .aload 0, 0, 0), (106, 1, .iload_n 3, .iload 3, 0, 0), (107, 3, .putfield 30, .putfield 404, 2083, 30), (110, 3, .iinc 3 1, .iinc 3 1, 0, 0), (113, 3, .goto (-73), .goto 23, 0, 0), (116, 3, .iinc 2 1, .iinc 2 1, 0, 0), (119, 3, .goto (-103), .goto 9, 0, 0), (122, 1, .return_, .return_, 0, 0)]
set_option maxRecDepth 100000 in
def zi_54 : List Instr := [.aload 0, .getstatic 401, .iconst 0, .invokevirtual 1200901, .aload 0, .iconst 100000000, .putfield 405, .iconst 0, .istore 2, .iload 2, .aload 0, .getstatic 400, .getfield 810, .if_icmp .ge 64, .iload 1, .iconst 1, .if_icmp .ne 19, .iconst 0, .goto 22, .iload 2, .iconst 1, .iadd, .istore 3, .iload 3, .aload 0, .getstatic 400, .getfield 810, .if_icmp .ge 62, .iload 2, .iload 3, .if_icmp .eq 60, .iload 1, .iconst 1, .if_icmp .ne 41, .aload 0, .getstatic 400, .iload 2, .iload 3, .invokevirtual 990812, .ifCond .ne 41, .goto 60, .aload 0, .iload 2, .iload 3, .iload 1, .invokevirtual 550413, .istore 4, .iload 4, .aload 0, .getfield 405, .if_icmp .ge 60, .aload 0, .iload 4, .putfield 405, .aload 0, .iload 2, .putfield 403, .aload 0, .iload 3, .putfield 404, .iinc 3 1, .goto 23, .iinc 2 1, .goto 9, .return_]
set_option maxRecDepth 100000 in
theorem ze_54 : zc_54.map (fun e => e.2.2.2.1) = zi_54 := rfl
set_option maxRecDepth 100000 in
theorem zk_54 : zckm (zmd 54) false zc_54 zmd [55, 99, 120] = true := by decide +kernel
noncomputable def zf_54 : zF := zden zX0 zi_54 (zlk [(55, zf_55), (99, zf_99), (120, zf_120)]) 5
/-- HillErrands$Mason.plan -/
theorem zs_54 : ∀ d, 7 ≤ d → zSnd d (zmd 54) zf_54 := by
  intro d hd
  obtain ⟨d, rfl⟩ : ∃ k, d = k + 1 := ⟨d - 1, by omega⟩
  have h := zsound (d := d) (l := [(55, zf_55), (99, zf_99), (120, zf_120)]) zo_54 (fun h => by cases h) zk_54 (fun q hq => by
    simp only [List.mem_cons, List.not_mem_nil, or_false] at hq
    rcases hq with rfl | rfl | rfl
    · exact zs_55 d (by omega)
    · exact zs_99 d (by omega)
    · exact zs_120 d (by omega))
  rw [ze_54] at h
  exact h
set_option maxRecDepth 100000 in
def zc_56 : List zE := [(0, 1, .aload_n 0, .aload 0, 0, 0), (1, 3, .invokespecial 3, .pop, 1218, 3), (4, 1, .aload_n 0, .aload 0, 0, 0), (5, 3, .sipush 160, .iconst 160, 0, 0), (8, 2, .newarray .int, .newarray .int, 1079, 0), (10, 3, .putfield 9, .putstatic 500, 1221, 9), (13, 1, .aload_n 0, .aload 0, 0, 0), (14, 3, .new 15, .new 2, 1219, 15), (17, 1, .dup, .dup, 0, 0), (18, 3, .invokespecial 17, .invokespecial 290000, 1220, 17), (21, 3, .putfield 18, .putstatic 501, 1222, 18), (24, 1, .return_, .return_, 0, 0)]
set_option maxRecDepth 100000 in
def zi_56 : List Instr := [.aload 0, .pop, .aload 0, .iconst 160, .newarray .int, .putstatic 500, .aload 0, .new 2, .dup, .invokespecial 290000, .putstatic 501, .return_]
set_option maxRecDepth 100000 in
theorem ze_56 : zc_56.map (fun e => e.2.2.2.1) = zi_56 := rfl
set_option maxRecDepth 100000 in
theorem zk_56 : zckm (zmd 56) true zc_56 zmd [29] = true := by decide +kernel
noncomputable def zf_56 : zF := zden zX0 zi_56 (zlk [(29, zf_29)]) 1
/-- HillErrands$Reader.<init> -/
theorem zs_56 : ∀ d, 2 ≤ d → zSnd d (zmd 56) zf_56 := by
  intro d hd
  obtain ⟨d, rfl⟩ : ∃ k, d = k + 1 := ⟨d - 1, by omega⟩
  have h := zsound (d := d) (l := [(29, zf_29)]) zo_56 (fun _ => rfl) zk_56 (fun q hq => by
    simp only [List.mem_cons, List.not_mem_nil, or_false] at hq
    subst hq
    · exact zs_29 d (by omega))
  rw [ze_56] at h
  exact h
set_option maxRecDepth 100000 in
def zc_59 : List zE := [(0, 1, .aload_n 0, .aload 0, 0, 0), (1, 3, .getfield 22, .getfield 502, 1223, 22), (4, 3, .ifCond .lt 26, .ifCond .lt 14, 0, 0), (7, 1, .aload_n 0, .aload 0, 0, 0), (8, 3, .getfield 22, .getfield 502, 1223, 22), (11, 1, .aload_n 0, .aload 0, 0, 0), (12, 3, .getfield 32, .getfield 503, 1224, 32), (15, 3, .if_icmp .ge 15, .if_icmp .ge 14, 0, 0), (18, 1, .aload_n 0, .aload 0, 0, 0), (19, 3, .getfield 9, .getstatic 500, 1221, 9), (22, 1, .aload_n 0, .aload 0, 0, 0), (23, 3, .getfield 22, .getfield 502, 1223, 22), (26, 1, .iaload, .iaload, 0, 0), (27, 3, .goto 4, .goto 15, 0, 0), (30, 1, .iconst (-1), .iconst (-1), 0, 0), (31, 1, .ireturn, .ireturn, 0, 0)]
set_option maxRecDepth 100000 in
def zi_59 : List Instr := [.aload 0, .getfield 502, .ifCond .lt 14, .aload 0, .getfield 502, .aload 0, .getfield 503, .if_icmp .ge 14, .aload 0, .getstatic 500, .aload 0, .getfield 502, .iaload, .goto 15, .iconst (-1), .ireturn]
set_option maxRecDepth 100000 in
theorem ze_59 : zc_59.map (fun e => e.2.2.2.1) = zi_59 := rfl
set_option maxRecDepth 100000 in
theorem zk_59 : zckm (zmd 59) false zc_59 zmd [] = true := by decide +kernel
noncomputable def zf_59 : zF := zden zX0 zi_59 (zlk []) 1
/-- HillErrands$Reader.sign -/
theorem zs_59 : ∀ d, 1 ≤ d → zSnd d (zmd 59) zf_59 := by
  intro d hd
  obtain ⟨d, rfl⟩ : ∃ k, d = k + 1 := ⟨d - 1, by omega⟩
  have h := zsound (d := d) (l := []) zo_59 (fun h => by cases h) zk_59 (fun q hq => by cases hq)
  rw [ze_59] at h
  exact h
set_option maxRecDepth 100000 in
def zc_60 : List zE := [(0, 1, .aload_n 0, .aload 0, 0, 0), (1, 3, .getfield 35, .getfield 504, 1225, 35), (4, 3, .ifCond .ne 17, .ifCond .ne 11, 0, 0), (7, 1, .aload_n 0, .aload 0, 0, 0), (8, 3, .sipush (-1000), .iconst (-1000), 0, 0), (11, 1, .iload_n 1, .iload 1, 0, 0), (12, 1, .imul, .imul, 0, 0), (13, 1, .aload_n 0, .aload 0, 0, 0), (14, 3, .getfield 22, .getfield 502, 1223, 22), (17, 1, .isub, .isub, 0, 0), (18, 3, .putfield 35, .putfield 504, 1225, 35), (21, 1, .return_, .return_, 0, 0)]
set_option maxRecDepth 100000 in
def zi_60 : List Instr := [.aload 0, .getfield 504, .ifCond .ne 11, .aload 0, .iconst (-1000), .iload 1, .imul, .aload 0, .getfield 502, .isub, .putfield 504, .return_]
set_option maxRecDepth 100000 in
theorem ze_60 : zc_60.map (fun e => e.2.2.2.1) = zi_60 := rfl
set_option maxRecDepth 100000 in
theorem zk_60 : zckm (zmd 60) false zc_60 zmd [] = true := by decide +kernel
noncomputable def zf_60 : zF := zden zX0 zi_60 (zlk []) 2
/-- HillErrands$Reader.fail -/
theorem zs_60 : ∀ d, 1 ≤ d → zSnd d (zmd 60) zf_60 := by
  intro d hd
  obtain ⟨d, rfl⟩ : ∃ k, d = k + 1 := ⟨d - 1, by omega⟩
  have h := zsound (d := d) (l := []) zo_60 (fun h => by cases h) zk_60 (fun q hq => by cases hq)
  rw [ze_60] at h
  exact h
set_option maxRecDepth 100000 in
def zc_61 : List zE := [(0, 1, .aload_n 0, .aload 0, 0, 0), (1, 3, .getfield 35, .getfield 504, 1225, 35), (4, 3, .ifCond .ne 16, .ifCond .ne 10, 0, 0), (7, 1, .aload_n 0, .aload 0, 0, 0), (8, 3, .invokevirtual 57, .invokevirtual 590510, 2231, 57), (11, 1, .iload_n 1, .iload 1, 0, 0), (12, 3, .if_icmp .eq 8, .if_icmp .eq 10, 0, 0), (15, 1, .aload_n 0, .aload 0, 0, 0), (16, 1, .iconst 1, .iconst 1, 0, 0), (17, 3, .invokevirtual 61, .invokevirtual 600501, 2235, 61), (20, 1, .aload_n 0, .aload 0, 0, 0), (21, 3, .getfield 35, .getfield 504, 1225, 35), (24, 3, .ifCond .ne 13, .ifCond .ne 19, 0, 0), (27, 1, .aload_n 0, .aload 0, 0, 0), (28, 1, .dup, .dup, 0, 0), (29, 3, .getfield 22, .getfield 502, 1223, 22), (32, 1, .iconst 1, .iconst 1, 0, 0), (33, 1, .iadd, .iadd, 0, 0), (34, 3, .putfield 22, .putfield 502, 1223, 22), (37, 1, .return_, .return_, 0, 0)]
set_option maxRecDepth 100000 in
def zi_61 : List Instr := [.aload 0, .getfield 504, .ifCond .ne 10, .aload 0, .invokevirtual 590510, .iload 1, .if_icmp .eq 10, .aload 0, .iconst 1, .invokevirtual 600501, .aload 0, .getfield 504, .ifCond .ne 19, .aload 0, .dup, .getfield 502, .iconst 1, .iadd, .putfield 502, .return_]
set_option maxRecDepth 100000 in
theorem ze_61 : zc_61.map (fun e => e.2.2.2.1) = zi_61 := rfl
set_option maxRecDepth 100000 in
theorem zk_61 : zckm (zmd 61) false zc_61 zmd [59, 60] = true := by decide +kernel
noncomputable def zf_61 : zF := zden zX0 zi_61 (zlk [(59, zf_59), (60, zf_60)]) 2
/-- HillErrands$Reader.take -/
theorem zs_61 : ∀ d, 2 ≤ d → zSnd d (zmd 61) zf_61 := by
  intro d hd
  obtain ⟨d, rfl⟩ : ∃ k, d = k + 1 := ⟨d - 1, by omega⟩
  have h := zsound (d := d) (l := [(59, zf_59), (60, zf_60)]) zo_61 (fun h => by cases h) zk_61 (fun q hq => by
    simp only [List.mem_cons, List.not_mem_nil, or_false] at hq
    rcases hq with rfl | rfl
    · exact zs_59 d (by omega)
    · exact zs_60 d (by omega))
  rw [ze_61] at h
  exact h
set_option maxRecDepth 100000 in
def zc_72 : List zE := [(0, 1, .iload_n 0, .iload 0, 0, 0), (1, 2, .bipush 48, .iconst 48, 0, 0), (3, 3, .if_icmp .lt 13, .if_icmp .lt 8, 0, 0), (6, 1, .iload_n 0, .iload 0, 0, 0), (7, 2, .bipush 57, .iconst 57, 0, 0), (9, 3, .if_icmp .gt 7, .if_icmp .gt 8, 0, 0), (12, 1, .iconst 1, .iconst 1, 0, 0), (13, 3, .goto 4, .goto 9, 0, 0), (16, 1, .iconst 0, .iconst 0, 0, 0), (17, 1, .ireturn, .lreturn, 0, 0)]
set_option maxRecDepth 100000 in
def zi_72 : List Instr := [.iload 0, .iconst 48, .if_icmp .lt 8, .iload 0, .iconst 57, .if_icmp .gt 8, .iconst 1, .goto 9, .iconst 0, .lreturn]
set_option maxRecDepth 100000 in
theorem ze_72 : zc_72.map (fun e => e.2.2.2.1) = zi_72 := rfl
set_option maxRecDepth 100000 in
theorem zk_72 : zckm (zmd 72) false zc_72 zmd [] = true := by decide +kernel
noncomputable def zf_72 : zF := zden zX0 zi_72 (zlk []) 1
/-- HillErrands$Reader.isDigit -/
theorem zs_72 : ∀ d, 1 ≤ d → zSnd d (zmd 72) zf_72 := by
  intro d hd
  obtain ⟨d, rfl⟩ : ∃ k, d = k + 1 := ⟨d - 1, by omega⟩
  have h := zsound (d := d) (l := []) zo_72 (fun h => by cases h) zk_72 (fun q hq => by cases hq)
  rw [ze_72] at h
  exact h
set_option maxRecDepth 100000 in
def zc_70 : List zE := [(0, 1, .iconst 0, .iconst 0, 0, 0), (1, 1, .istore_n 1, .istore 1, 0, 0), (2, 1, .iconst 0, .iconst 0, 0, 0), (3, 1, .istore_n 2, .istore 2, 0, 0), (4, 1, .aload_n 0, .aload 0, 0, 0), (5, 3, .getfield 22, .getfield 502, 1223, 22), (8, 1, .aload_n 0, .aload 0, 0, 0), (9, 3, .getfield 32, .getfield 503, 1224, 32), (12, 3, .if_icmp .ge 53, .if_icmp .ge 37, 0, 0), (15, 1, .aload_n 0, .aload 0, 0, 0), (16, 3, .invokevirtual 57, .invokevirtual 590510, 2231, 57), (19, 3, .invokestatic 108, .invokestatic 720011, 3024, 108), (22, 3, .ifCond .eq 43, .ifCond .eq 37, 0, 0), (25, 1, .iload_n 2, .iload 2, 0, 0), (26, 1, .iconst 5, .iconst 5, 0, 0), (27, 3, .if_icmp .ne 9, .if_icmp .ne 20, 0, 0), (30, 1, .aload_n 0, .aload 0, 0, 0), (31, 1, .iconst 2, .iconst 2, 0, 0), (32, 3, .invokevirtual 61, .invokevirtual 600501, 2235, 61), (35, 1, .return_, .return_, 0, 0), (36, 2, .bipush 10, .iconst 10, 0, 0), (38, 1, .iload_n 1, .iload 1, 0, 0), (39, 1, .imul, .imul, 0, 0), (40, 1, .aload_n 0, .aload 0, 0, 0), (41, 3, .invokevirtual 57, .invokevirtual 590510, 2231, 57), (44, 1, .iadd, .iadd, 0, 0), (45, 2, .bipush 48, .iconst 48, 0, 0), (47, 1, .isub, .isub, 0, 0), (48, 1, .istore_n 1, .istore 1, 0, 0), (49, 3, .iinc 2 1, .iinc 2 1, 0, 0), (52, 1, .aload_n 0, .aload 0, 0, 0), (53, 1, .dup, .dup, 0, 0), (54, 3, .getfield 22, .getfield 502, 1223, 22), (57, 1, .iconst 1, .iconst 1, 0, 0), (58, 1, .iadd, .iadd, 0, 0), (59, 3, .putfield 22, .putfield 502, 1223, 22), (62, 3, .goto (-58), .goto 4, 0, 0), (65, 1, .aload_n 0, .aload 0, 0, 0), (66, 3, .getfield 18, .getstatic 501, 1222, 18), (69, 2, .bipush 48, .iconst 48, 0, 0), (71, 1, .iload_n 1, .iload 1, 0, 0), (72, 3, .invokevirtual 98, .invokevirtual 350202, 3031, 98), (75, 1, .return_, .return_, 0, 0)]
set_option maxRecDepth 100000 in
def zi_70 : List Instr := [.iconst 0, .istore 1, .iconst 0, .istore 2, .aload 0, .getfield 502, .aload 0, .getfield 503, .if_icmp .ge 37, .aload 0, .invokevirtual 590510, .invokestatic 720011, .ifCond .eq 37, .iload 2, .iconst 5, .if_icmp .ne 20, .aload 0, .iconst 2, .invokevirtual 600501, .return_, .iconst 10, .iload 1, .imul, .aload 0, .invokevirtual 590510, .iadd, .iconst 48, .isub, .istore 1, .iinc 2 1, .aload 0, .dup, .getfield 502, .iconst 1, .iadd, .putfield 502, .goto 4, .aload 0, .getstatic 501, .iconst 48, .iload 1, .invokevirtual 350202, .return_]
set_option maxRecDepth 100000 in
theorem ze_70 : zc_70.map (fun e => e.2.2.2.1) = zi_70 := rfl
set_option maxRecDepth 100000 in
theorem zk_70 : zckm (zmd 70) false zc_70 zmd [35, 59, 60, 72] = true := by decide +kernel
noncomputable def zf_70 : zF := zden zX0 zi_70 (zlk [(35, zf_35), (59, zf_59), (60, zf_60), (72, zf_72)]) 3
/-- HillErrands$Reader.number -/
theorem zs_70 : ∀ d, 2 ≤ d → zSnd d (zmd 70) zf_70 := by
  intro d hd
  obtain ⟨d, rfl⟩ : ∃ k, d = k + 1 := ⟨d - 1, by omega⟩
  have h := zsound (d := d) (l := [(35, zf_35), (59, zf_59), (60, zf_60), (72, zf_72)]) zo_70 (fun h => by cases h) zk_70 (fun q hq => by
    simp only [List.mem_cons, List.not_mem_nil, or_false] at hq
    rcases hq with rfl | rfl | rfl | rfl
    · exact zs_35 d (by omega)
    · exact zs_59 d (by omega)
    · exact zs_60 d (by omega)
    · exact zs_72 d (by omega))
  rw [ze_70] at h
  exact h
set_option maxRecDepth 100000 in
def zc_71 : List zE := [(0, 1, .iload_n 1, .iload 1, 0, 0), (1, 3, .ifCond .ge 7, .ifCond .ge 4, 0, 0), (4, 1, .iconst (-1), .iconst (-1), 0, 0), (5, 3, .goto 10, .goto 8, 0, 0), (8, 2, .ldc 118, .ldc 0, 0, 118), (10, 1, .iload_n 1, .iload 1, 0, 0), (11, 1, .i2c, .i2c, 0, 0), (12, 3, .invokevirtual 120, .invokevirtual 29911, 3040, 120), (15, 1, .istore_n 2, .istore 2, 0, 0), (16, 1, .iload_n 2, .iload 2, 0, 0), (17, 3, .ifCond .ge 9, .ifCond .ge 15, 0, 0), (20, 1, .aload_n 0, .aload 0, 0, 0), (21, 1, .iconst 1, .iconst 1, 0, 0), (22, 3, .invokevirtual 61, .invokevirtual 600501, 2235, 61), (25, 1, .return_, .return_, 0, 0), (26, 1, .aload_n 0, .aload 0, 0, 0), (27, 1, .dup, .dup, 0, 0), (28, 3, .getfield 22, .getfield 502, 1223, 22), (31, 1, .iconst 1, .iconst 1, 0, 0), (32, 1, .iadd, .iadd, 0, 0), (33, 3, .putfield 22, .putfield 502, 1223, 22), (36, 1, .aload_n 0, .aload 0, 0, 0), (37, 3, .getfield 18, .getstatic 501, 1222, 18), (40, 2, .bipush 97, .iconst 97, 0, 0), (42, 1, .iload_n 2, .iload 2, 0, 0), (43, 3, .invokevirtual 98, .invokevirtual 350202, 3031, 98), (46, 1, .return_, .return_, 0, 0)]
set_option maxRecDepth 100000 in
def zi_71 : List Instr := [.iload 1, .ifCond .ge 4, .iconst (-1), .goto 8, .ldc 0, .iload 1, .i2c, .invokevirtual 29911, .istore 2, .iload 2, .ifCond .ge 15, .aload 0, .iconst 1, .invokevirtual 600501, .return_, .aload 0, .dup, .getfield 502, .iconst 1, .iadd, .putfield 502, .aload 0, .getstatic 501, .iconst 97, .iload 2, .invokevirtual 350202, .return_]
set_option maxRecDepth 100000 in
theorem ze_71 : zc_71.map (fun e => e.2.2.2.1) = zi_71 := rfl
set_option maxRecDepth 100000 in
theorem zk_71 : zckm (zmd 71) false zc_71 zmd [2, 35, 60] = true := by decide +kernel
noncomputable def zf_71 : zF := zden zX0 zi_71 (zlk [(2, zf_2), (35, zf_35), (60, zf_60)]) 3
/-- HillErrands$Reader.letter -/
theorem zs_71 : ∀ d, 5 ≤ d → zSnd d (zmd 71) zf_71 := by
  intro d hd
  obtain ⟨d, rfl⟩ : ∃ k, d = k + 1 := ⟨d - 1, by omega⟩
  have h := zsound (d := d) (l := [(2, zf_2), (35, zf_35), (60, zf_60)]) zo_71 (fun h => by cases h) zk_71 (fun q hq => by
    simp only [List.mem_cons, List.not_mem_nil, or_false] at hq
    rcases hq with rfl | rfl | rfl
    · exact zs_2 d (by omega)
    · exact zs_35 d (by omega)
    · exact zs_60 d (by omega))
  rw [ze_71] at h
  exact h
