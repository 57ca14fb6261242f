set_option maxRecDepth 100000 in
def zc_212 : List zE := [(0, 1, .iconst 0, .iconst 0, 0, 0), (1, 1, .istore_n 3, .istore 3, 0, 0), (2, 3, .sipush 180, .iconst 180, 0, 0), (5, 1, .iload_n 1, .iload 1, 0, 0), (6, 3, .sipush 180, .iconst 180, 0, 0), (9, 1, .idiv, .idiv, 0, 0), (10, 1, .imul, .imul, 0, 0), (11, 2, .istore 4, .istore 4, 0, 0), (13, 1, .iload_n 1, .iload 1, 0, 0), (14, 2, .istore 5, .istore 5, 0, 0), (16, 2, .iload 5, .iload 5, 0, 0), (18, 1, .iload_n 2, .iload 2, 0, 0), (19, 3, .if_icmp .ge 214, .if_icmp .ge 136, 0, 0), (22, 1, .aload_n 0, .aload 0, 0, 0), (23, 3, .getfield 44, .getstatic 1225, 5233, 44), (26, 2, .iload 5, .iload 5, 0, 0), (28, 1, .iaload, .iaload, 0, 0), (29, 2, .ldc 205, .iconst 1048576, 6236, 205), (31, 1, .idiv, .idiv, 0, 0), (32, 2, .istore 6, .istore 6, 0, 0), (34, 1, .aload_n 0, .aload 0, 0, 0), (35, 3, .getfield 44, .getstatic 1225, 5233, 44), (38, 2, .iload 5, .iload 5, 0, 0), (40, 1, .iaload, .iaload, 0, 0), (41, 2, .ldc 205, .iconst 1048576, 6236, 205), (43, 1, .irem, .irem, 0, 0), (44, 2, .istore 7, .istore 7, 0, 0), (46, 2, .iload 5, .iload 5, 0, 0), (48, 1, .iconst 1, .iconst 1, 0, 0), (49, 1, .iadd, .iadd, 0, 0), (50, 2, .istore 5, .istore 5, 0, 0), (52, 2, .iload 6, .iload 6, 0, 0), (54, 3, .ifCond .eq 9, .ifCond .eq 36, 0, 0), (57, 2, .iload 6, .iload 6, 0, 0), (59, 1, .iconst 1, .iconst 1, 0, 0), (60, 3, .if_icmp .ne 33, .if_icmp .ne 53, 0, 0), (63, 1, .aload_n 0, .aload 0, 0, 0), (64, 3, .getfield 59, .getstatic 1230, 5238, 59), (67, 1, .iload_n 3, .iload 3, 0, 0), (68, 2, .iload 6, .iload 6, 0, 0), (70, 3, .ifCond .ne 8, .ifCond .ne 43, 0, 0), (73, 2, .iload 7, .iload 7, 0, 0), (75, 3, .goto 10, .goto 47, 0, 0), (78, 1, .aload_n 0, .aload 0, 0, 0), (79, 3, .getfield 62, .getstatic 1231, 5239, 62), (82, 2, .iload 7, .iload 7, 0, 0), (84, 1, .iaload, .iaload, 0, 0), (85, 1, .iastore, .iastore, 0, 0), (86, 1, .iload_n 3, .iload 3, 0, 0), (87, 1, .iconst 1, .iconst 1, 0, 0), (88, 1, .iadd, .iadd, 0, 0), (89, 1, .istore_n 3, .istore 3, 0, 0), (90, 3, .goto 140, .goto 135, 0, 0), (93, 2, .iload 6, .iload 6, 0, 0), (95, 2, .bipush 10, .iconst 10, 0, 0), (97, 3, .if_icmp .ne 24, .if_icmp .ne 71, 0, 0), (100, 1, .aload_n 0, .aload 0, 0, 0), (101, 3, .getfield 59, .getstatic 1230, 5238, 59), (104, 1, .iload_n 3, .iload 3, 0, 0), (105, 1, .iconst 1, .iconst 1, 0, 0), (106, 1, .isub, .isub, 0, 0), (107, 1, .iconst 1, .iconst 1, 0, 0), (108, 1, .aload_n 0, .aload 0, 0, 0), (109, 3, .getfield 59, .getstatic 1230, 5238, 59), (112, 1, .iload_n 3, .iload 3, 0, 0), (113, 1, .iconst 1, .iconst 1, 0, 0), (114, 1, .isub, .isub, 0, 0), (115, 1, .iaload, .iaload, 0, 0), (116, 1, .isub, .isub, 0, 0), (117, 1, .iastore, .iastore, 0, 0), (118, 3, .goto 112, .goto 135, 0, 0), (121, 2, .iload 6, .iload 6, 0, 0), (123, 2, .bipush 11, .iconst 11, 0, 0), (125, 3, .if_icmp .eq 10, .if_icmp .eq 77, 0, 0), (128, 2, .iload 6, .iload 6, 0, 0), (130, 2, .bipush 12, .iconst 12, 0, 0), (132, 3, .if_icmp .ne 43, .if_icmp .ne 100, 0, 0), (135, 1, .aload_n 0, .aload 0, 0, 0), (136, 3, .getfield 59, .getstatic 1230, 5238, 59), (139, 1, .iload_n 3, .iload 3, 0, 0), (140, 1, .iconst 1, .iconst 1, 0, 0), (141, 1, .isub, .isub, 0, 0), (142, 1, .iaload, .iaload, 0, 0), (143, 2, .iload 6, .iload 6, 0, 0), (145, 2, .bipush 12, .iconst 12, 0, 0), (147, 3, .if_icmp .ne 7, .if_icmp .ne 88, 0, 0), (150, 1, .iconst 1, .iconst 1, 0, 0), (151, 3, .goto 4, .goto 89, 0, 0), (154, 1, .iconst 0, .iconst 0, 0, 0), (155, 3, .if_icmp .ne 13, .if_icmp .ne 95, 0, 0), (158, 2, .iload 4, .iload 4, 0, 0), (160, 2, .iload 7, .iload 7, 0, 0), (162, 1, .iadd, .iadd, 0, 0), (163, 2, .istore 5, .istore 5, 0, 0), (165, 3, .goto 65, .goto 135, 0, 0), (168, 1, .iload_n 3, .iload 3, 0, 0), (169, 1, .iconst 1, .iconst 1, 0, 0), (170, 1, .isub, .isub, 0, 0), (171, 1, .istore_n 3, .istore 3, 0, 0), (172, 3, .goto 58, .goto 135, 0, 0), (175, 1, .iload_n 3, .iload 3, 0, 0), (176, 1, .iconst 1, .iconst 1, 0, 0), (177, 1, .isub, .isub, 0, 0), (178, 1, .istore_n 3, .istore 3, 0, 0), (179, 2, .iload 6, .iload 6, 0, 0), (181, 1, .iconst 5, .iconst 5, 0, 0), (182, 3, .if_icmp .eq 10, .if_icmp .eq 110, 0, 0), (185, 2, .iload 6, .iload 6, 0, 0), (187, 2, .bipush 6, .iconst 6, 0, 0), (189, 3, .if_icmp .ne 14, .if_icmp .ne 117, 0, 0), (192, 1, .aload_n 0, .aload 0, 0, 0), (193, 3, .getfield 59, .getstatic 1230, 5238, 59), (196, 1, .iload_n 3, .iload 3, 0, 0), (197, 1, .iaload, .iaload, 0, 0), (198, 3, .ifCond .ne 5, .ifCond .ne 117, 0, 0), (201, 1, .iconst 0, .iconst 0, 0, 0), (202, 1, .ireturn, .ireturn, 0, 0), (203, 1, .aload_n 0, .aload 0, 0, 0), (204, 3, .getfield 59, .getstatic 1230, 5238, 59), (207, 1, .iload_n 3, .iload 3, 0, 0), (208, 1, .iconst 1, .iconst 1, 0, 0), (209, 1, .isub, .isub, 0, 0), (210, 2, .iload 6, .iload 6, 0, 0), (212, 1, .aload_n 0, .aload 0, 0, 0), (213, 3, .getfield 59, .getstatic 1230, 5238, 59), (216, 1, .iload_n 3, .iload 3, 0, 0), (217, 1, .iconst 1, .iconst 1, 0, 0), (218, 1, .isub, .isub, 0, 0), (219, 1, .iaload, .iaload, 0, 0), (220, 1, .aload_n 0, .aload 0, 0, 0), (221, 3, .getfield 59, .getstatic 1230, 5238, 59), (224, 1, .iload_n 3, .iload 3, 0, 0), (225, 1, .iaload, .iaload, 0, 0), (226, 3, .invokestatic 272, .invokestatic 2110013, 7067, 272), (229, 1, .iastore, .iastore, 0, 0), (230, 3, .goto (-214), .goto 10, 0, 0), (233, 1, .aload_n 0, .aload 0, 0, 0), (234, 3, .getfield 59, .getstatic 1230, 5238, 59), (237, 1, .iconst 0, .iconst 0, 0, 0), (238, 1, .iaload, .iaload, 0, 0), (239, 1, .ireturn, .ireturn, 0, 0)]
set_option maxRecDepth 100000 in
def zi_212 : List Instr := [.iconst 0, .istore 3, .iconst 180, .iload 1, .iconst 180, .idiv, .imul, .istore 4, .iload 1, .istore 5, .iload 5, .iload 2, .if_icmp .ge 136, .aload 0, .getstatic 1225, .iload 5, .iaload, .iconst 1048576, .idiv, .istore 6, .aload 0, .getstatic 1225, .iload 5, .iaload, .iconst 1048576, .irem, .istore 7, .iload 5, .iconst 1, .iadd, .istore 5, .iload 6, .ifCond .eq 36, .iload 6, .iconst 1, .if_icmp .ne 53, .aload 0, .getstatic 1230, .iload 3, .iload 6, .ifCond .ne 43, .iload 7, .goto 47, .aload 0, .getstatic 1231, .iload 7, .iaload, .iastore, .iload 3, .iconst 1, .iadd, .istore 3, .goto 135, .iload 6, .iconst 10, .if_icmp .ne 71, .aload 0, .getstatic 1230, .iload 3, .iconst 1, .isub, .iconst 1, .aload 0, .getstatic 1230, .iload 3, .iconst 1, .isub, .iaload, .isub, .iastore, .goto 135, .iload 6, .iconst 11, .if_icmp .eq 77, .iload 6, .iconst 12, .if_icmp .ne 100, .aload 0, .getstatic 1230, .iload 3, .iconst 1, .isub, .iaload, .iload 6, .iconst 12, .if_icmp .ne 88, .iconst 1, .goto 89, .iconst 0, .if_icmp .ne 95, .iload 4, .iload 7, .iadd, .istore 5, .goto 135, .iload 3, .iconst 1, .isub, .istore 3, .goto 135, .iload 3, .iconst 1, .isub, .istore 3, .iload 6, .iconst 5, .if_icmp .eq 110, .iload 6, .iconst 6, .if_icmp .ne 117, .aload 0, .getstatic 1230, .iload 3, .iaload, .ifCond .ne 117, .iconst 0, .ireturn, .aload 0, .getstatic 1230, .iload 3, .iconst 1, .isub, .iload 6, .aload 0, .getstatic 1230, .iload 3, .iconst 1, .isub, .iaload, .aload 0, .getstatic 1230, .iload 3, .iaload, .invokestatic 2110013, .iastore, .goto 10, .aload 0, .getstatic 1230, .iconst 0, .iaload, .ireturn]
set_option maxRecDepth 100000 in
theorem ze_212 : zc_212.map (fun e => e.2.2.2.1) = zi_212 := rfl
set_option maxRecDepth 100000 in
theorem zk_212 : zckm (zmd 212) false zc_212 zmd [211] = true := by decide +kernel
noncomputable def zf_212 : zF := zden zX0 zi_212 (zlk [(211, zf_211)]) 8
/-- HillErrandsModel.comesTo -/
theorem zs_212 : ∀ d, 2 ≤ d → zSnd d (zmd 212) zf_212 := by
  intro d hd
  obtain ⟨d, rfl⟩ : ∃ k, d = k + 1 := ⟨d - 1, by omega⟩
  have h := zsound (d := d) (l := [(211, zf_211)]) zo_212 (fun h => by cases h) zk_212 (fun q hq => by
    simp only [List.mem_cons, List.not_mem_nil, or_false] at hq
    subst hq
    · exact zs_211 d (by omega))
  rw [ze_212] at h
  exact h
set_option maxRecDepth 100000 in
def zc_213 : List zE := [(0, 1, .iload_n 2, .iload 2, 0, 0), (1, 3, .ifCond .eq 16, .ifCond .eq 10, 0, 0), (4, 1, .aload_n 0, .aload 0, 0, 0), (5, 3, .getfield 19, .getstatic 1207, 5215, 19), (8, 1, .iload_n 1, .iload 1, 0, 0), (9, 1, .iaload, .iaload, 0, 0), (10, 1, .iconst 1, .iconst 1, 0, 0), (11, 3, .if_icmp .ne 6, .if_icmp .ne 10, 0, 0), (14, 2, .ldc 149, .iconst 1000000000, 7062, 149), (16, 1, .ireturn, .ireturn, 0, 0), (17, 1, .iload_n 2, .iload 2, 0, 0), (18, 3, .ifCond .eq 12, .ifCond .eq 17, 0, 0), (21, 1, .aload_n 0, .aload 0, 0, 0), (22, 3, .getfield 16, .getstatic 1206, 5214, 16), (25, 1, .iload_n 1, .iload 1, 0, 0), (26, 1, .iaload, .iaload, 0, 0), (27, 3, .goto 9, .goto 21, 0, 0), (30, 1, .aload_n 0, .aload 0, 0, 0), (31, 3, .getfield 13, .getstatic 1205, 5213, 13), (34, 1, .iload_n 1, .iload 1, 0, 0), (35, 1, .iaload, .iaload, 0, 0), (36, 2, .istore 4, .istore 4, 0, 0), (38, 1, .iload_n 2, .iload 2, 0, 0), (39, 3, .ifCond .eq 12, .ifCond .eq 29, 0, 0), (42, 1, .aload_n 0, .aload 0, 0, 0), (43, 3, .getfield 13, .getstatic 1205, 5213, 13), (46, 1, .iload_n 1, .iload 1, 0, 0), (47, 1, .iaload, .iaload, 0, 0), (48, 3, .goto 9, .goto 33, 0, 0), (51, 1, .aload_n 0, .aload 0, 0, 0), (52, 3, .getfield 16, .getstatic 1206, 5214, 16), (55, 1, .iload_n 1, .iload 1, 0, 0), (56, 1, .iaload, .iaload, 0, 0), (57, 2, .istore 5, .istore 5, 0, 0), (59, 1, .aload_n 0, .aload 0, 0, 0), (60, 3, .getfield 7, .getstatic 1204, 5212, 7), (63, 2, .iload 5, .iload 5, 0, 0), (65, 1, .iaload, .iaload, 0, 0), (66, 1, .aload_n 0, .aload 0, 0, 0), (67, 3, .getfield 7, .getstatic 1204, 5212, 7), (70, 2, .iload 4, .iload 4, 0, 0), (72, 1, .iaload, .iaload, 0, 0), (73, 1, .isub, .isub, 0, 0), (74, 2, .istore 6, .istore 6, 0, 0), (76, 1, .aload_n 0, .aload 0, 0, 0), (77, 3, .getfield 62, .getstatic 1231, 5239, 62), (80, 1, .iconst 0, .iconst 0, 0, 0), (81, 2, .iload 6, .iload 6, 0, 0), (83, 3, .ifCond .le 8, .ifCond .le 51, 0, 0), (86, 2, .iload 6, .iload 6, 0, 0), (88, 3, .goto 4, .goto 52, 0, 0), (91, 1, .iconst 0, .iconst 0, 0, 0), (92, 1, .iastore, .iastore, 0, 0), (93, 1, .aload_n 0, .aload 0, 0, 0), (94, 3, .getfield 62, .getstatic 1231, 5239, 62), (97, 1, .iconst 1, .iconst 1, 0, 0), (98, 2, .iload 6, .iload 6, 0, 0), (100, 3, .ifCond .ge 9, .ifCond .ge 61, 0, 0), (103, 2, .iload 6, .iload 6, 0, 0), (105, 1, .ineg, .ineg, 0, 0), (106, 3, .goto 4, .goto 62, 0, 0), (109, 1, .iconst 0, .iconst 0, 0, 0), (110, 1, .iastore, .iastore, 0, 0), (111, 1, .aload_n 0, .aload 0, 0, 0), (112, 3, .getfield 62, .getstatic 1231, 5239, 62), (115, 1, .iconst 2, .iconst 2, 0, 0), (116, 1, .aload_n 0, .aload 0, 0, 0), (117, 3, .getfield 19, .getstatic 1207, 5215, 19), (120, 1, .iload_n 1, .iload 1, 0, 0), (121, 1, .iaload, .iaload, 0, 0), (122, 1, .iastore, .iastore, 0, 0), (123, 1, .aload_n 0, .aload 0, 0, 0), (124, 3, .getfield 62, .getstatic 1231, 5239, 62), (127, 1, .iconst 3, .iconst 3, 0, 0), (128, 1, .iload_n 3, .iload 3, 0, 0), (129, 1, .iastore, .iastore, 0, 0), (130, 1, .aload_n 0, .aload 0, 0, 0), (131, 3, .getfield 62, .getstatic 1231, 5239, 62), (134, 1, .iconst 4, .iconst 4, 0, 0), (135, 1, .aload_n 0, .aload 0, 0, 0), (136, 3, .getfield 168, .getfield 1202, 5210, 168), (139, 1, .iastore, .iastore, 0, 0), (140, 1, .aload_n 0, .aload 0, 0, 0), (141, 3, .getfield 62, .getstatic 1231, 5239, 62), (144, 1, .iconst 5, .iconst 5, 0, 0), (145, 2, .iload 4, .iload 4, 0, 0), (147, 1, .iastore, .iastore, 0, 0), (148, 1, .aload_n 0, .aload 0, 0, 0), (149, 3, .getfield 62, .getstatic 1231, 5239, 62), (152, 2, .bipush 6, .iconst 6, 0, 0), (154, 2, .iload 5, .iload 5, 0, 0), (156, 1, .iastore, .iastore, 0, 0), (157, 1, .aload_n 0, .aload 0, 0, 0), (158, 3, .getfield 62, .getstatic 1231, 5239, 62), (161, 2, .bipush 7, .iconst 7, 0, 0), (163, 1, .iload_n 1, .iload 1, 0, 0), (164, 1, .iastore, .iastore, 0, 0), (165, 1, .aload_n 0, .aload 0, 0, 0), (166, 3, .getfield 62, .getstatic 1231, 5239, 62), (169, 2, .bipush 8, .iconst 8, 0, 0), (171, 1, .aload_n 0, .aload 0, 0, 0), (172, 3, .getfield 7, .getstatic 1204, 5212, 7), (175, 2, .iload 4, .iload 4, 0, 0), (177, 1, .iaload, .iaload, 0, 0), (178, 1, .iastore, .iastore, 0, 0), (179, 1, .iconst (-1), .iconst (-1), 0, 0), (180, 2, .istore 7, .istore 7, 0, 0), (182, 1, .iconst 0, .iconst 0, 0, 0), (183, 2, .istore 8, .istore 8, 0, 0), (185, 2, .iload 8, .iload 8, 0, 0), (187, 1, .aload_n 0, .aload 0, 0, 0), (188, 3, .getfield 269, .getfield 1218, 5226, 269), (191, 3, .if_icmp .ge 114, .if_icmp .ge 167, 0, 0), (194, 1, .aload_n 0, .aload 0, 0, 0), (195, 3, .getfield 47, .getstatic 1226, 5234, 47), (198, 2, .iload 8, .iload 8, 0, 0), (200, 1, .iaload, .iaload, 0, 0), (201, 2, .bipush 99, .iconst 99, 0, 0), (203, 3, .if_icmp .ne 9, .if_icmp .ne 122, 0, 0), (206, 2, .iload 7, .iload 7, 0, 0), (208, 1, .iconst (-1), .iconst (-1), 0, 0), (209, 3, .if_icmp .ne 90, .if_icmp .ne 165, 0, 0), (212, 1, .aload_n 0, .aload 0, 0, 0), (213, 1, .aload_n 0, .aload 0, 0, 0), (214, 3, .getfield 53, .getstatic 1228, 5236, 53), (217, 2, .iload 8, .iload 8, 0, 0), (219, 1, .iaload, .iaload, 0, 0), (220, 1, .aload_n 0, .aload 0, 0, 0), (221, 3, .getfield 56, .getstatic 1229, 5237, 56), (224, 2, .iload 8, .iload 8, 0, 0), (226, 1, .iaload, .iaload, 0, 0), (227, 3, .invokevirtual 276, .invokevirtual 2121212, 7063, 276), (230, 1, .iconst 1, .iconst 1, 0, 0), (231, 3, .if_icmp .eq 6, .if_icmp .eq 135, 0, 0), (234, 3, .goto 65, .goto 165, 0, 0), (237, 1, .aload_n 0, .aload 0, 0, 0), (238, 3, .getfield 47, .getstatic 1226, 5234, 47), (241, 2, .iload 8, .iload 8, 0, 0), (243, 1, .iaload, .iaload, 0, 0), (244, 2, .bipush 110, .iconst 110, 0, 0), (246, 3, .if_icmp .ne 6, .if_icmp .ne 143, 0, 0), (249, 2, .ldc 149, .iconst 1000000000, 7062, 149), (251, 1, .ireturn, .ireturn, 0, 0), (252, 1, .aload_n 0, .aload 0, 0, 0), (253, 1, .aload_n 0, .aload 0, 0, 0), (254, 3, .getfield 50, .getstatic 1227, 5235, 50), (257, 2, .iload 8, .iload 8, 0, 0), (259, 1, .iaload, .iaload, 0, 0), (260, 1, .aload_n 0, .aload 0, 0, 0), (261, 3, .getfield 53, .getstatic 1228, 5236, 53), (264, 2, .iload 8, .iload 8, 0, 0), (266, 1, .iaload, .iaload, 0, 0), (267, 3, .invokevirtual 276, .invokevirtual 2121212, 7063, 276), (270, 2, .istore 9, .istore 9, 0, 0), (272, 2, .iload 9, .iload 9, 0, 0), (274, 3, .ifCond .ge 7, .ifCond .ge 158, 0, 0), (277, 1, .iconst 0, .iconst 0, 0, 0), (278, 3, .goto 19, .goto 164, 0, 0), (281, 2, .iload 9, .iload 9, 0, 0), (283, 3, .sipush 9999, .iconst 9999, 0, 0), (286, 3, .if_icmp .le 9, .if_icmp .le 163, 0, 0), (289, 3, .sipush 9999, .iconst 9999, 0, 0), (292, 3, .goto 5, .goto 164, 0, 0), (295, 2, .iload 9, .iload 9, 0, 0), (297, 2, .istore 7, .istore 7, 0, 0), (299, 3, .iinc 8 1, .iinc 8 1, 0, 0), (302, 3, .goto (-117), .goto 109, 0, 0), (305, 2, .iload 7, .iload 7, 0, 0), (307, 1, .iconst (-1), .iconst (-1), 0, 0), (308, 3, .if_icmp .ne 12, .if_icmp .ne 175, 0, 0), (311, 1, .aload_n 0, .aload 0, 0, 0), (312, 3, .getfield 62, .getstatic 1231, 5239, 62), (315, 1, .iconst 0, .iconst 0, 0, 0), (316, 1, .iaload, .iaload, 0, 0), (317, 3, .goto 5, .goto 176, 0, 0), (320, 2, .iload 7, .iload 7, 0, 0), (322, 1, .ireturn, .ireturn, 0, 0)]
set_option maxRecDepth 100000 in
def zi_213 : List Instr := [.iload 2, .ifCond .eq 10, .aload 0, .getstatic 1207, .iload 1, .iaload, .iconst 1, .if_icmp .ne 10, .iconst 1000000000, .ireturn, .iload 2, .ifCond .eq 17, .aload 0, .getstatic 1206, .iload 1, .iaload, .goto 21, .aload 0, .getstatic 1205, .iload 1, .iaload, .istore 4, .iload 2, .ifCond .eq 29, .aload 0, .getstatic 1205, .iload 1, .iaload, .goto 33, .aload 0, .getstatic 1206, .iload 1, .iaload, .istore 5, .aload 0, .getstatic 1204, .iload 5, .iaload, .aload 0, .getstatic 1204, .iload 4, .iaload, .isub, .istore 6, .aload 0, .getstatic 1231, .iconst 0, .iload 6, .ifCond .le 51, .iload 6, .goto 52, .iconst 0, .iastore, .aload 0, .getstatic 1231, .iconst 1, .iload 6, .ifCond .ge 61, .iload 6, .ineg, .goto 62, .iconst 0, .iastore, .aload 0, .getstatic 1231, .iconst 2, .aload 0, .getstatic 1207, .iload 1, .iaload, .iastore, .aload 0, .getstatic 1231, .iconst 3, .iload 3, .iastore, .aload 0, .getstatic 1231, .iconst 4, .aload 0, .getfield 1202, .iastore, .aload 0, .getstatic 1231, .iconst 5, .iload 4, .iastore, .aload 0, .getstatic 1231, .iconst 6, .iload 5, .iastore, .aload 0, .getstatic 1231, .iconst 7, .iload 1, .iastore, .aload 0, .getstatic 1231, .iconst 8, .aload 0, .getstatic 1204, .iload 4, .iaload, .iastore, .iconst (-1), .istore 7, .iconst 0, .istore 8, .iload 8, .aload 0, .getfield 1218, .if_icmp .ge 167, .aload 0, .getstatic 1226, .iload 8, .iaload, .iconst 99, .if_icmp .ne 122, .iload 7, .iconst (-1), .if_icmp .ne 165, .aload 0, .aload 0, .getstatic 1228, .iload 8, .iaload, .aload 0, .getstatic 1229, .iload 8, .iaload, .invokevirtual 2121212, .iconst 1, .if_icmp .eq 135, .goto 165, .aload 0, .getstatic 1226, .iload 8, .iaload, .iconst 110, .if_icmp .ne 143, .iconst 1000000000, .ireturn, .aload 0, .aload 0, .getstatic 1227, .iload 8, .iaload, .aload 0, .getstatic 1228, .iload 8, .iaload, .invokevirtual 2121212, .istore 9, .iload 9, .ifCond .ge 158, .iconst 0, .goto 164, .iload 9, .iconst 9999, .if_icmp .le 163, .iconst 9999, .goto 164, .iload 9, .istore 7, .iinc 8 1, .goto 109, .iload 7, .iconst (-1), .if_icmp .ne 175, .aload 0, .getstatic 1231, .iconst 0, .iaload, .goto 176, .iload 7, .ireturn]
set_option maxRecDepth 100000 in
theorem ze_213 : zc_213.map (fun e => e.2.2.2.1) = zi_213 := rfl
set_option maxRecDepth 100000 in
theorem zk_213 : zckm (zmd 213) false zc_213 zmd [212] = true := by decide +kernel
noncomputable def zf_213 : zF := zden zX0 zi_213 (zlk [(212, zf_212)]) 10
/-- HillErrandsModel.goes -/
theorem zs_213 : ∀ d, 3 ≤ d → zSnd d (zmd 213) zf_213 := by
  intro d hd
  obtain ⟨d, rfl⟩ : ∃ k, d = k + 1 := ⟨d - 1, by omega⟩
  have h := zsound (d := d) (l := [(212, zf_212)]) zo_213 (fun h => by cases h) zk_213 (fun q hq => by
    simp only [List.mem_cons, List.not_mem_nil, or_false] at hq
    subst hq
    · exact zs_212 d (by omega))
  rw [ze_213] at h
  exact h
set_option maxRecDepth 100000 in
def zc_214 : List zE := [(0, 1, .iload_n 0, .iload 0, 0, 0), (1, 3, .ifCond .lt 13, .ifCond .lt 7, 0, 0), (4, 1, .iload_n 0, .iload 0, 0, 0), (5, 2, .bipush 100, .iconst 100, 0, 0), (7, 3, .if_icmp .ge 7, .if_icmp .ge 7, 0, 0), (10, 1, .iconst 1, .iconst 1, 0, 0), (11, 3, .goto 4, .goto 8, 0, 0), (14, 1, .iconst 0, .iconst 0, 0, 0), (15, 1, .ireturn, .lreturn, 0, 0)]
set_option maxRecDepth 100000 in
def zi_214 : List Instr := [.iload 0, .ifCond .lt 7, .iload 0, .iconst 100, .if_icmp .ge 7, .iconst 1, .goto 8, .iconst 0, .lreturn]
set_option maxRecDepth 100000 in
theorem ze_214 : zc_214.map (fun e => e.2.2.2.1) = zi_214 := rfl
set_option maxRecDepth 100000 in
theorem zk_214 : zckm (zmd 214) false zc_214 zmd [] = true := by decide +kernel
noncomputable def zf_214 : zF := zden zX0 zi_214 (zlk []) 1
/-- HillErrandsModel.isLoad -/
theorem zs_214 : ∀ d, 1 ≤ d → zSnd d (zmd 214) zf_214 := by
  intro d hd
  obtain ⟨d, rfl⟩ : ∃ k, d = k + 1 := ⟨d - 1, by omega⟩
  have h := zsound (d := d) (l := []) zo_214 (fun h => by cases h) zk_214 (fun q hq => by cases hq)
  rw [ze_214] at h
  exact h
set_option maxRecDepth 100000 in
def zc_215 : List zE := [(0, 1, .iload_n 1, .iload 1, 0, 0), (1, 3, .ifCond .lt 18, .ifCond .lt 9, 0, 0), (4, 1, .iload_n 1, .iload 1, 0, 0), (5, 1, .aload_n 0, .aload 0, 0, 0), (6, 3, .getfield 157, .getfield 1201, 5209, 157), (9, 3, .if_icmp .ge 10, .if_icmp .ge 9, 0, 0), (12, 1, .iload_n 3, .iload 3, 0, 0), (13, 3, .invokestatic 280, .invokestatic 2140011, 7055, 280), (16, 3, .ifCond .ne 5, .ifCond .ne 11, 0, 0), (19, 1, .iconst (-1), .iconst (-1), 0, 0), (20, 1, .ireturn, .ireturn, 0, 0), (21, 1, .aload_n 0, .aload 0, 0, 0), (22, 1, .iload_n 1, .iload 1, 0, 0), (23, 1, .iload_n 2, .iload 2, 0, 0), (24, 1, .iload_n 3, .iload 3, 0, 0), (25, 3, .invokevirtual 283, .invokevirtual 2131213, 7058, 283), (28, 2, .istore 4, .istore 4, 0, 0), (30, 2, .iload 4, .iload 4, 0, 0), (32, 2, .ldc 149, .iconst 1000000000, 7062, 149), (34, 3, .if_icmp .ne 8, .if_icmp .ne 22, 0, 0), (37, 2, .bipush (-2), .iconst (-2), 0, 0), (39, 3, .goto 5, .goto 23, 0, 0), (42, 2, .iload 4, .iload 4, 0, 0), (44, 1, .ireturn, .ireturn, 0, 0)]
set_option maxRecDepth 100000 in
def zi_215 : List Instr := [.iload 1, .ifCond .lt 9, .iload 1, .aload 0, .getfield 1201, .if_icmp .ge 9, .iload 3, .invokestatic 2140011, .ifCond .ne 11, .iconst (-1), .ireturn, .aload 0, .iload 1, .iload 2, .iload 3, .invokevirtual 2131213, .istore 4, .iload 4, .iconst 1000000000, .if_icmp .ne 22, .iconst (-2), .goto 23, .iload 4, .ireturn]
set_option maxRecDepth 100000 in
theorem ze_215 : zc_215.map (fun e => e.2.2.2.1) = zi_215 := rfl
set_option maxRecDepth 100000 in
theorem zk_215 : zckm (zmd 215) false zc_215 zmd [213, 214] = true := by decide +kernel
noncomputable def zf_215 : zF := zden zX0 zi_215 (zlk [(213, zf_213), (214, zf_214)]) 5
/-- HillErrandsModel.going -/
theorem zs_215 : ∀ d, 4 ≤ d → zSnd d (zmd 215) zf_215 := by
  intro d hd
  obtain ⟨d, rfl⟩ : ∃ k, d = k + 1 := ⟨d - 1, by omega⟩
  have h := zsound (d := d) (l := [(213, zf_213), (214, zf_214)]) zo_215 (fun h => by cases h) zk_215 (fun q hq => by
    simp only [List.mem_cons, List.not_mem_nil, or_false] at hq
    rcases hq with rfl | rfl
    · exact zs_213 d (by omega)
    · exact zs_214 d (by omega))
  rw [ze_215] at h
  exact h
set_option maxRecDepth 100000 in
def zc_216 : List zE := [(0, 1, .iconst 0, .iconst 0, 0, 0), (1, 1, .istore_n 1, .istore 1, 0, 0), (2, 1, .iload_n 1, .iload 1, 0, 0), (3, 2, .bipush 100, .iconst 100, 0, 0), (5, 3, .if_icmp .ge 16, .if_icmp .ge 12, 0, 0), (8, 1, .aload_n 0, .aload 0, 0, 0), (9, 3, .getfield 72, .getstatic 1234, 6002, 72), (12, 1, .iload_n 1, .iload 1, 0, 0), (13, 1, .iconst 0, .iconst 0, 0, 0), (14, 1, .bastore, .bastore, 0, 0), (15, 3, .iinc 1 1, .iinc 1 1, 0, 0), (18, 3, .goto (-16), .goto 2, 0, 0), (21, 1, .return_, .return_, 0, 0)]
set_option maxRecDepth 100000 in
def zi_216 : List Instr := [.iconst 0, .istore 1, .iload 1, .iconst 100, .if_icmp .ge 12, .aload 0, .getstatic 1234, .iload 1, .iconst 0, .bastore, .iinc 1 1, .goto 2, .return_]
set_option maxRecDepth 100000 in
theorem ze_216 : zc_216.map (fun e => e.2.2.2.1) = zi_216 := rfl
set_option maxRecDepth 100000 in
theorem zk_216 : zckm (zmd 216) false zc_216 zmd [] = true := by decide +kernel
noncomputable def zf_216 : zF := zden zX0 zi_216 (zlk []) 2
/-- HillErrandsModel.begins -/
theorem zs_216 : ∀ d, 1 ≤ d → zSnd d (zmd 216) zf_216 := by
  intro d hd
  obtain ⟨d, rfl⟩ : ∃ k, d = k + 1 := ⟨d - 1, by omega⟩
  have h := zsound (d := d) (l := []) zo_216 (fun h => by cases h) zk_216 (fun q hq => by cases hq)
  rw [ze_216] at h
  exact h
set_option maxRecDepth 100000 in
def zc_217 : List zE := [(0, 3, .sipush 400, .iconst 400, 0, 0), (3, 1, .iload_n 1, .iload 1, 0, 0), (4, 1, .imul, .imul, 0, 0), (5, 2, .bipush 20, .iconst 20, 0, 0), (7, 1, .iload_n 2, .iload 2, 0, 0), (8, 1, .imul, .imul, 0, 0), (9, 1, .iadd, .iadd, 0, 0), (10, 1, .iload_n 3, .iload 3, 0, 0), (11, 1, .iadd, .iadd, 0, 0), (12, 2, .istore 5, .istore 5, 0, 0), (14, 2, .iload 4, .iload 4, 0, 0), (16, 2, .ldc 149, .iconst 1000000000, 7062, 149), (18, 3, .if_icmp .ge 27, .if_icmp .ge 27, 0, 0), (21, 1, .aload_n 0, .aload 0, 0, 0), (22, 3, .getfield 69, .getstatic 1233, 6001, 69), (25, 2, .iload 5, .iload 5, 0, 0), (27, 1, .aload_n 0, .aload 0, 0, 0), (28, 3, .getfield 69, .getstatic 1233, 6001, 69), (31, 2, .iload 5, .iload 5, 0, 0), (33, 1, .iaload, .iaload, 0, 0), (34, 2, .bipush 64, .iconst 64, 0, 0), (36, 2, .iload 4, .iload 4, 0, 0), (38, 1, .imul, .imul, 0, 0), (39, 1, .iconst 1, .iconst 1, 0, 0), (40, 1, .iadd, .iadd, 0, 0), (41, 3, .invokestatic 287, .invokestatic 1810012, 7090, 287), (44, 1, .iastore, .iastore, 0, 0), (45, 1, .return_, .return_, 0, 0)]
set_option maxRecDepth 100000 in
def zi_217 : List Instr := [.iconst 400, .iload 1, .imul, .iconst 20, .iload 2, .imul, .iadd, .iload 3, .iadd, .istore 5, .iload 4, .iconst 1000000000, .if_icmp .ge 27, .aload 0, .getstatic 1233, .iload 5, .aload 0, .getstatic 1233, .iload 5, .iaload, .iconst 64, .iload 4, .imul, .iconst 1, .iadd, .invokestatic 1810012, .iastore, .return_]
set_option maxRecDepth 100000 in
theorem ze_217 : zc_217.map (fun e => e.2.2.2.1) = zi_217 := rfl
set_option maxRecDepth 100000 in
theorem zk_217 : zckm (zmd 217) false zc_217 zmd [181] = true := by decide +kernel
noncomputable def zf_217 : zF := zden zX0 zi_217 (zlk [(181, zf_181)]) 6
/-- HillErrandsModel.step -/
theorem zs_217 : ∀ d, 2 ≤ d → zSnd d (zmd 217) zf_217 := by
  intro d hd
  obtain ⟨d, rfl⟩ : ∃ k, d = k + 1 := ⟨d - 1, by omega⟩
  have h := zsound (d := d) (l := [(181, zf_181)]) zo_217 (fun h => by cases h) zk_217 (fun q hq => by
    simp only [List.mem_cons, List.not_mem_nil, or_false] at hq
    subst hq
    · exact zs_181 d (by omega))
  rw [ze_217] at h
  exact h
set_option maxRecDepth 100000 in
def zc_218 : List zE := [(0, 1, .aload_n 0, .aload 0, 0, 0), (1, 3, .getfield 72, .getstatic 1234, 6002, 72), (4, 1, .iload_n 1, .iload 1, 0, 0), (5, 1, .iconst 1, .iconst 1, 0, 0), (6, 1, .bastore, .bastore, 0, 0), (7, 3, .sipush 400, .iconst 400, 0, 0), (10, 1, .iload_n 1, .iload 1, 0, 0), (11, 1, .imul, .imul, 0, 0), (12, 1, .istore_n 2, .istore 2, 0, 0), (13, 1, .iconst 0, .iconst 0, 0, 0), (14, 1, .istore_n 3, .istore 3, 0, 0), (15, 1, .iload_n 3, .iload 3, 0, 0), (16, 3, .sipush 400, .iconst 400, 0, 0), (19, 3, .if_icmp .ge 19, .if_icmp .ge 23, 0, 0), (22, 1, .aload_n 0, .aload 0, 0, 0), (23, 3, .getfield 69, .getstatic 1233, 6001, 69), (26, 1, .iload_n 2, .iload 2, 0, 0), (27, 1, .iload_n 3, .iload 3, 0, 0), (28, 1, .iadd, .iadd, 0, 0), (29, 2, .ldc 149, .iconst 1000000000, 7062, 149), (31, 1, .iastore, .iastore, 0, 0), (32, 3, .iinc 3 1, .iinc 3 1, 0, 0), (35, 3, .goto (-20), .goto 11, 0, 0), (38, 1, .iconst 0, .iconst 0, 0, 0), (39, 1, .istore_n 3, .istore 3, 0, 0), (40, 1, .iload_n 3, .iload 3, 0, 0), (41, 1, .aload_n 0, .aload 0, 0, 0), (42, 3, .getfield 157, .getfield 1201, 5209, 157), (45, 3, .if_icmp .ge 57, .if_icmp .ge 63, 0, 0), (48, 1, .aload_n 0, .aload 0, 0, 0), (49, 1, .iload_n 1, .iload 1, 0, 0), (50, 1, .aload_n 0, .aload 0, 0, 0), (51, 3, .getfield 13, .getstatic 1205, 5213, 13), (54, 1, .iload_n 3, .iload 3, 0, 0), (55, 1, .iaload, .iaload, 0, 0), (56, 1, .aload_n 0, .aload 0, 0, 0), (57, 3, .getfield 16, .getstatic 1206, 5214, 16), (60, 1, .iload_n 3, .iload 3, 0, 0), (61, 1, .iaload, .iaload, 0, 0), (62, 1, .aload_n 0, .aload 0, 0, 0), (63, 1, .iload_n 3, .iload 3, 0, 0), (64, 1, .iconst 0, .iconst 0, 0, 0), (65, 1, .iload_n 1, .iload 1, 0, 0), (66, 3, .invokevirtual 283, .invokevirtual 2131213, 7058, 283), (69, 3, .invokevirtual 290, .invokevirtual 2171204, 7086, 290), (72, 1, .aload_n 0, .aload 0, 0, 0), (73, 1, .iload_n 1, .iload 1, 0, 0), (74, 1, .aload_n 0, .aload 0, 0, 0), (75, 3, .getfield 16, .getstatic 1206, 5214, 16), (78, 1, .iload_n 3, .iload 3, 0, 0), (79, 1, .iaload, .iaload, 0, 0), (80, 1, .aload_n 0, .aload 0, 0, 0), (81, 3, .getfield 13, .getstatic 1205, 5213, 13), (84, 1, .iload_n 3, .iload 3, 0, 0), (85, 1, .iaload, .iaload, 0, 0), (86, 1, .aload_n 0, .aload 0, 0, 0), (87, 1, .iload_n 3, .iload 3, 0, 0), (88, 1, .iconst 1, .iconst 1, 0, 0), (89, 1, .iload_n 1, .iload 1, 0, 0), (90, 3, .invokevirtual 283, .invokevirtual 2131213, 7058, 283), (93, 3, .invokevirtual 290, .invokevirtual 2171204, 7086, 290), (96, 3, .iinc 3 1, .iinc 3 1, 0, 0), (99, 3, .goto (-59), .goto 25, 0, 0), (102, 1, .iconst 0, .iconst 0, 0, 0), (103, 1, .istore_n 3, .istore 3, 0, 0), (104, 1, .iload_n 3, .iload 3, 0, 0), (105, 3, .sipush 400, .iconst 400, 0, 0), (108, 3, .if_icmp .ge 40, .if_icmp .ge 91, 0, 0), (111, 1, .aload_n 0, .aload 0, 0, 0), (112, 3, .getfield 66, .getstatic 1232, 6000, 66), (115, 1, .iload_n 2, .iload 2, 0, 0), (116, 1, .iload_n 3, .iload 3, 0, 0), (117, 1, .iadd, .iadd, 0, 0), (118, 1, .iload_n 3, .iload 3, 0, 0), (119, 2, .bipush 20, .iconst 20, 0, 0), (121, 1, .idiv, .idiv, 0, 0), (122, 1, .iload_n 3, .iload 3, 0, 0), (123, 2, .bipush 20, .iconst 20, 0, 0), (125, 1, .irem, .irem, 0, 0), (126, 3, .if_icmp .ne 7, .if_icmp .ne 82, 0, 0), (129, 1, .iconst 0, .iconst 0, 0, 0), (130, 3, .goto 11, .goto 88, 0, 0), (133, 1, .aload_n 0, .aload 0, 0, 0), (134, 3, .getfield 69, .getstatic 1233, 6001, 69), (137, 1, .iload_n 2, .iload 2, 0, 0), (138, 1, .iload_n 3, .iload 3, 0, 0), (139, 1, .iadd, .iadd, 0, 0), (140, 1, .iaload, .iaload, 0, 0), (141, 1, .iastore, .iastore, 0, 0), (142, 3, .iinc 3 1, .iinc 3 1, 0, 0), (145, 3, .goto (-41), .goto 65, 0, 0), (148, 1, .iconst 0, .iconst 0, 0, 0), (149, 1, .istore_n 3, .istore 3, 0, 0), (150, 1, .iload_n 3, .iload 3, 0, 0), (151, 1, .aload_n 0, .aload 0, 0, 0), (152, 3, .getfield 150, .getfield 1200, 5208, 150), (155, 3, .if_icmp .ge 109, .if_icmp .ge 157, 0, 0), (158, 1, .iconst 0, .iconst 0, 0, 0), (159, 2, .istore 4, .istore 4, 0, 0), (161, 2, .iload 4, .iload 4, 0, 0), (163, 1, .aload_n 0, .aload 0, 0, 0), (164, 3, .getfield 150, .getfield 1200, 5208, 150), (167, 3, .if_icmp .ge 91, .if_icmp .ge 155, 0, 0), (170, 1, .iconst 0, .iconst 0, 0, 0), (171, 2, .istore 5, .istore 5, 0, 0), (173, 2, .iload 5, .iload 5, 0, 0), (175, 1, .aload_n 0, .aload 0, 0, 0), (176, 3, .getfield 150, .getfield 1200, 5208, 150), (179, 3, .if_icmp .ge 73, .if_icmp .ge 153, 0, 0), (182, 1, .aload_n 0, .aload 0, 0, 0), (183, 3, .getfield 66, .getstatic 1232, 6000, 66), (186, 1, .iload_n 2, .iload 2, 0, 0), (187, 2, .bipush 20, .iconst 20, 0, 0), (189, 2, .iload 4, .iload 4, 0, 0), (191, 1, .imul, .imul, 0, 0), (192, 1, .iadd, .iadd, 0, 0), (193, 2, .iload 5, .iload 5, 0, 0), (195, 1, .iadd, .iadd, 0, 0), (196, 1, .aload_n 0, .aload 0, 0, 0), (197, 3, .getfield 66, .getstatic 1232, 6000, 66), (200, 1, .iload_n 2, .iload 2, 0, 0), (201, 2, .bipush 20, .iconst 20, 0, 0), (203, 2, .iload 4, .iload 4, 0, 0), (205, 1, .imul, .imul, 0, 0), (206, 1, .iadd, .iadd, 0, 0), (207, 2, .iload 5, .iload 5, 0, 0), (209, 1, .iadd, .iadd, 0, 0), (210, 1, .iaload, .iaload, 0, 0), (211, 1, .aload_n 0, .aload 0, 0, 0), (212, 3, .getfield 66, .getstatic 1232, 6000, 66), (215, 1, .iload_n 2, .iload 2, 0, 0), (216, 2, .bipush 20, .iconst 20, 0, 0), (218, 2, .iload 4, .iload 4, 0, 0), (220, 1, .imul, .imul, 0, 0), (221, 1, .iadd, .iadd, 0, 0), (222, 1, .iload_n 3, .iload 3, 0, 0), (223, 1, .iadd, .iadd, 0, 0), (224, 1, .iaload, .iaload, 0, 0), (225, 1, .aload_n 0, .aload 0, 0, 0), (226, 3, .getfield 66, .getstatic 1232, 6000, 66), (229, 1, .iload_n 2, .iload 2, 0, 0), (230, 2, .bipush 20, .iconst 20, 0, 0), (232, 1, .iload_n 3, .iload 3, 0, 0), (233, 1, .imul, .imul, 0, 0), (234, 1, .iadd, .iadd, 0, 0), (235, 2, .iload 5, .iload 5, 0, 0), (237, 1, .iadd, .iadd, 0, 0), (238, 1, .iaload, .iaload, 0, 0), (239, 3, .invokestatic 294, .invokestatic 1800012, 7093, 294), (242, 3, .invokestatic 287, .invokestatic 1810012, 7090, 287), (245, 1, .iastore, .iastore, 0, 0), (246, 3, .iinc 5 1, .iinc 5 1, 0, 0), (249, 3, .goto (-76), .goto 105, 0, 0), (252, 3, .iinc 4 1, .iinc 4 1, 0, 0), (255, 3, .goto (-94), .goto 99, 0, 0), (258, 3, .iinc 3 1, .iinc 3 1, 0, 0), (261, 3, .goto (-111), .goto 93, 0, 0), (264, 1, .return_, .return_, 0, 0)]
set_option maxRecDepth 100000 in
def zi_218 : List Instr := [.aload 0, .getstatic 1234, .iload 1, .iconst 1, .bastore, .iconst 400, .iload 1, .imul, .istore 2, .iconst 0, .istore 3, .iload 3, .iconst 400, .if_icmp .ge 23, .aload 0, .getstatic 1233, .iload 2, .iload 3, .iadd, .iconst 1000000000, .iastore, .iinc 3 1, .goto 11, .iconst 0, .istore 3, .iload 3, .aload 0, .getfield 1201, .if_icmp .ge 63, .aload 0, .iload 1, .aload 0, .getstatic 1205, .iload 3, .iaload, .aload 0, .getstatic 1206, .iload 3, .iaload, .aload 0, .iload 3, .iconst 0, .iload 1, .invokevirtual 2131213, .invokevirtual 2171204, .aload 0, .iload 1, .aload 0, .getstatic 1206, .iload 3, .iaload, .aload 0, .getstatic 1205, .iload 3, .iaload, .aload 0, .iload 3, .iconst 1, .iload 1, .invokevirtual 2131213, .invokevirtual 2171204, .iinc 3 1, .goto 25, .iconst 0, .istore 3, .iload 3, .iconst 400, .if_icmp .ge 91, .aload 0, .getstatic 1232, .iload 2, .iload 3, .iadd, .iload 3, .iconst 20, .idiv, .iload 3, .iconst 20, .irem, .if_icmp .ne 82, .iconst 0, .goto 88, .aload 0, .getstatic 1233, .iload 2, .iload 3, .iadd, .iaload, .iastore, .iinc 3 1, .goto 65, .iconst 0, .istore 3, .iload 3, .aload 0, .getfield 1200, .if_icmp .ge 157, .iconst 0, .istore 4, .iload 4, .aload 0, .getfield 1200, .if_icmp .ge 155, .iconst 0, .istore 5, .iload 5, .aload 0, .getfield 1200, .if_icmp .ge 153, .aload 0, .getstatic 1232, .iload 2, .iconst 20, .iload 4, .imul, .iadd, .iload 5, .iadd, .aload 0, .getstatic 1232, .iload 2, .iconst 20, .iload 4, .imul, .iadd, .iload 5, .iadd, .iaload, .aload 0, .getstatic 1232, .iload 2, .iconst 20, .iload 4, .imul, .iadd, .iload 3, .iadd, .iaload, .aload 0, .getstatic 1232, .iload 2, .iconst 20, .iload 3, .imul, .iadd, .iload 5, .iadd, .iaload, .invokestatic 1800012, .invokestatic 1810012, .iastore, .iinc 5 1, .goto 105, .iinc 4 1, .goto 99, .iinc 3 1, .goto 93, .return_]
set_option maxRecDepth 100000 in
theorem ze_218 : zc_218.map (fun e => e.2.2.2.1) = zi_218 := rfl
set_option maxRecDepth 100000 in
theorem zk_218 : zckm (zmd 218) false zc_218 zmd [180, 181, 213, 217] = true := by decide +kernel
noncomputable def zf_218 : zF := zden zX0 zi_218 (zlk [(180, zf_180), (181, zf_181), (213, zf_213), (217, zf_217)]) 6
/-- HillErrandsModel.lays -/
theorem zs_218 : ∀ d, 4 ≤ d → zSnd d (zmd 218) zf_218 := by
  intro d hd
  obtain ⟨d, rfl⟩ : ∃ k, d = k + 1 := ⟨d - 1, by omega⟩
  have h := zsound (d := d) (l := [(180, zf_180), (181, zf_181), (213, zf_213), (217, zf_217)]) zo_218 (fun h => by cases h) zk_218 (fun q hq => by
    simp only [List.mem_cons, List.not_mem_nil, or_false] at hq
    rcases hq with rfl | rfl | rfl | rfl
    · exact zs_180 d (by omega)
    · exact zs_181 d (by omega)
    · exact zs_213 d (by omega)
    · exact zs_217 d (by omega))
  rw [ze_218] at h
  exact h
set_option maxRecDepth 100000 in
def zc_219 : List zE := [(0, 1, .aload_n 0, .aload 0, 0, 0), (1, 3, .getfield 72, .getstatic 1234, 6002, 72), (4, 1, .iload_n 3, .iload 3, 0, 0), (5, 1, .baload, .baload, 0, 0), (6, 3, .ifCond .ne 8, .ifCond .ne 8, 0, 0), (9, 1, .aload_n 0, .aload 0, 0, 0), (10, 1, .iload_n 3, .iload 3, 0, 0), (11, 3, .invokevirtual 297, .invokevirtual 2181201, 7082, 297), (14, 1, .aload_n 0, .aload 0, 0, 0), (15, 3, .getfield 66, .getstatic 1232, 6000, 66), (18, 3, .sipush 400, .iconst 400, 0, 0), (21, 1, .iload_n 3, .iload 3, 0, 0), (22, 1, .imul, .imul, 0, 0), (23, 2, .bipush 20, .iconst 20, 0, 0), (25, 1, .iload_n 1, .iload 1, 0, 0), (26, 1, .imul, .imul, 0, 0), (27, 1, .iadd, .iadd, 0, 0), (28, 1, .iload_n 2, .iload 2, 0, 0), (29, 1, .iadd, .iadd, 0, 0), (30, 1, .iaload, .iaload, 0, 0), (31, 1, .ireturn, .ireturn, 0, 0)]
set_option maxRecDepth 100000 in
def zi_219 : List Instr := [.aload 0, .getstatic 1234, .iload 3, .baload, .ifCond .ne 8, .aload 0, .iload 3, .invokevirtual 2181201, .aload 0, .getstatic 1232, .iconst 400, .iload 3, .imul, .iconst 20, .iload 1, .imul, .iadd, .iload 2, .iadd, .iaload, .ireturn]
set_option maxRecDepth 100000 in
theorem ze_219 : zc_219.map (fun e => e.2.2.2.1) = zi_219 := rfl
set_option maxRecDepth 100000 in
theorem zk_219 : zckm (zmd 219) false zc_219 zmd [218] = true := by decide +kernel
noncomputable def zf_219 : zF := zden zX0 zi_219 (zlk [(218, zf_218)]) 4
/-- HillErrandsModel.wayAt -/
theorem zs_219 : ∀ d, 5 ≤ d → zSnd d (zmd 219) zf_219 := by
  intro d hd
  obtain ⟨d, rfl⟩ : ∃ k, d = k + 1 := ⟨d - 1, by omega⟩
  have h := zsound (d := d) (l := [(218, zf_218)]) zo_219 (fun h => by cases h) zk_219 (fun q hq => by
    simp only [List.mem_cons, List.not_mem_nil, or_false] at hq
    subst hq
    · exact zs_218 d (by omega))
  rw [ze_219] at h
  exact h
set_option maxRecDepth 100000 in
def zc_220 : List zE := [(0, 1, .aload_n 0, .aload 0, 0, 0), (1, 1, .iload_n 1, .iload 1, 0, 0), (2, 1, .iload_n 2, .iload 2, 0, 0), (3, 1, .iload_n 3, .iload 3, 0, 0), (4, 3, .invokevirtual 300, .invokevirtual 2191213, 7078, 300), (7, 2, .istore 4, .istore 4, 0, 0), (9, 2, .iload 4, .iload 4, 0, 0), (11, 2, .ldc 149, .iconst 1000000000, 7062, 149), (13, 3, .if_icmp .lt 8, .if_icmp .lt 11, 0, 0), (16, 2, .ldc 149, .iconst 1000000000, 7062, 149), (18, 3, .goto 8, .goto 14, 0, 0), (21, 2, .iload 4, .iload 4, 0, 0), (23, 2, .bipush 64, .iconst 64, 0, 0), (25, 1, .idiv, .idiv, 0, 0), (26, 1, .ireturn, .ireturn, 0, 0)]
set_option maxRecDepth 100000 in
def zi_220 : List Instr := [.aload 0, .iload 1, .iload 2, .iload 3, .invokevirtual 2191213, .istore 4, .iload 4, .iconst 1000000000, .if_icmp .lt 11, .iconst 1000000000, .goto 14, .iload 4, .iconst 64, .idiv, .ireturn]
set_option maxRecDepth 100000 in
theorem ze_220 : zc_220.map (fun e => e.2.2.2.1) = zi_220 := rfl
set_option maxRecDepth 100000 in
theorem zk_220 : zckm (zmd 220) false zc_220 zmd [219] = true := by decide +kernel
noncomputable def zf_220 : zF := zden zX0 zi_220 (zlk [(219, zf_219)]) 5
/-- HillErrandsModel.costOf -/
theorem zs_220 : ∀ d, 6 ≤ d → zSnd d (zmd 220) zf_220 := by
  intro d hd
  obtain ⟨d, rfl⟩ : ∃ k, d = k + 1 := ⟨d - 1, by omega⟩
  have h := zsound (d := d) (l := [(219, zf_219)]) zo_220 (fun h => by cases h) zk_220 (fun q hq => by
    simp only [List.mem_cons, List.not_mem_nil, or_false] at hq
    subst hq
    · exact zs_219 d (by omega))
  rw [ze_220] at h
  exact h
set_option maxRecDepth 100000 in
def zc_221 : List zE := [(0, 1, .iconst 0, .iconst 0, 0, 0), (1, 2, .istore 4, .istore 4, 0, 0), (3, 2, .iload 4, .iload 4, 0, 0), (5, 1, .iload_n 1, .iload 1, 0, 0), (6, 3, .if_icmp .eq 42, .if_icmp .eq 29, 0, 0), (9, 1, .aload_n 0, .aload 0, 0, 0), (10, 3, .getfield 69, .getstatic 1233, 6001, 69), (13, 3, .sipush 400, .iconst 400, 0, 0), (16, 1, .iload_n 3, .iload 3, 0, 0), (17, 1, .imul, .imul, 0, 0), (18, 2, .bipush 20, .iconst 20, 0, 0), (20, 1, .iload_n 1, .iload 1, 0, 0), (21, 1, .imul, .imul, 0, 0), (22, 1, .iadd, .iadd, 0, 0), (23, 2, .iload 4, .iload 4, 0, 0), (25, 1, .iadd, .iadd, 0, 0), (26, 1, .iaload, .iaload, 0, 0), (27, 1, .aload_n 0, .aload 0, 0, 0), (28, 2, .iload 4, .iload 4, 0, 0), (30, 1, .iload_n 2, .iload 2, 0, 0), (31, 1, .iload_n 3, .iload 3, 0, 0), (32, 3, .invokevirtual 300, .invokevirtual 2191213, 7078, 300), (35, 3, .invokestatic 294, .invokestatic 1800012, 7093, 294), (38, 1, .aload_n 0, .aload 0, 0, 0), (39, 1, .iload_n 1, .iload 1, 0, 0), (40, 1, .iload_n 2, .iload 2, 0, 0), (41, 1, .iload_n 3, .iload 3, 0, 0), (42, 3, .invokevirtual 300, .invokevirtual 2191213, 7078, 300), (45, 3, .if_icmp .eq 12, .if_icmp .eq 34, 0, 0), (48, 2, .iload 4, .iload 4, 0, 0), (50, 1, .iconst 1, .iconst 1, 0, 0), (51, 1, .iadd, .iadd, 0, 0), (52, 2, .istore 4, .istore 4, 0, 0), (54, 3, .goto (-51), .goto 2, 0, 0), (57, 2, .iload 4, .iload 4, 0, 0), (59, 1, .ireturn, .ireturn, 0, 0)]
set_option maxRecDepth 100000 in
def zi_221 : List Instr := [.iconst 0, .istore 4, .iload 4, .iload 1, .if_icmp .eq 29, .aload 0, .getstatic 1233, .iconst 400, .iload 3, .imul, .iconst 20, .iload 1, .imul, .iadd, .iload 4, .iadd, .iaload, .aload 0, .iload 4, .iload 2, .iload 3, .invokevirtual 2191213, .invokestatic 1800012, .aload 0, .iload 1, .iload 2, .iload 3, .invokevirtual 2191213, .if_icmp .eq 34, .iload 4, .iconst 1, .iadd, .istore 4, .goto 2, .iload 4, .ireturn]
set_option maxRecDepth 100000 in
theorem ze_221 : zc_221.map (fun e => e.2.2.2.1) = zi_221 := rfl
set_option maxRecDepth 100000 in
theorem zk_221 : zckm (zmd 221) false zc_221 zmd [180, 219] = true := by decide +kernel
noncomputable def zf_221 : zF := zden zX0 zi_221 (zlk [(180, zf_180), (219, zf_219)]) 5
/-- HillErrandsModel.nextOn -/
theorem zs_221 : ∀ d, 6 ≤ d → zSnd d (zmd 221) zf_221 := by
  intro d hd
  obtain ⟨d, rfl⟩ : ∃ k, d = k + 1 := ⟨d - 1, by omega⟩
  have h := zsound (d := d) (l := [(180, zf_180), (219, zf_219)]) zo_221 (fun h => by cases h) zk_221 (fun q hq => by
    simp only [List.mem_cons, List.not_mem_nil, or_false] at hq
    rcases hq with rfl | rfl
    · exact zs_180 d (by omega)
    · exact zs_219 d (by omega))
  rw [ze_221] at h
  exact h
set_option maxRecDepth 100000 in
def zc_222 : List zE := [(0, 1, .aload_n 0, .aload 0, 0, 0), (1, 1, .iconst 1, .iconst 1, 0, 0), (2, 3, .putfield 303, .putfield 1236, 6004, 303), (5, 1, .aload_n 0, .aload 0, 0, 0), (6, 3, .getfield 76, .getstatic 1235, 6003, 76), (9, 1, .iconst 0, .iconst 0, 0, 0), (10, 1, .iload_n 1, .iload 1, 0, 0), (11, 1, .iastore, .iastore, 0, 0), (12, 1, .aload_n 0, .aload 0, 0, 0), (13, 3, .getfield 76, .getstatic 1235, 6003, 76), (16, 1, .aload_n 0, .aload 0, 0, 0), (17, 3, .getfield 303, .getfield 1236, 6004, 303), (20, 1, .iconst 1, .iconst 1, 0, 0), (21, 1, .isub, .isub, 0, 0), (22, 1, .iaload, .iaload, 0, 0), (23, 1, .iload_n 2, .iload 2, 0, 0), (24, 3, .if_icmp .eq 42, .if_icmp .eq 40, 0, 0), (27, 1, .aload_n 0, .aload 0, 0, 0), (28, 3, .getfield 76, .getstatic 1235, 6003, 76), (31, 1, .aload_n 0, .aload 0, 0, 0), (32, 3, .getfield 303, .getfield 1236, 6004, 303), (35, 1, .aload_n 0, .aload 0, 0, 0), (36, 1, .aload_n 0, .aload 0, 0, 0), (37, 3, .getfield 76, .getstatic 1235, 6003, 76), (40, 1, .aload_n 0, .aload 0, 0, 0), (41, 3, .getfield 303, .getfield 1236, 6004, 303), (44, 1, .iconst 1, .iconst 1, 0, 0), (45, 1, .isub, .isub, 0, 0), (46, 1, .iaload, .iaload, 0, 0), (47, 1, .iload_n 2, .iload 2, 0, 0), (48, 1, .iload_n 3, .iload 3, 0, 0), (49, 3, .invokevirtual 306, .invokevirtual 2211213, 7100, 306), (52, 1, .iastore, .iastore, 0, 0), (53, 1, .aload_n 0, .aload 0, 0, 0), (54, 1, .aload_n 0, .aload 0, 0, 0), (55, 3, .getfield 303, .getfield 1236, 6004, 303), (58, 1, .iconst 1, .iconst 1, 0, 0), (59, 1, .iadd, .iadd, 0, 0), (60, 3, .putfield 303, .putfield 1236, 6004, 303), (63, 3, .goto (-51), .goto 8, 0, 0), (66, 1, .return_, .return_, 0, 0)]
set_option maxRecDepth 100000 in
def zi_222 : List Instr := [.aload 0, .iconst 1, .putfield 1236, .aload 0, .getstatic 1235, .iconst 0, .iload 1, .iastore, .aload 0, .getstatic 1235, .aload 0, .getfield 1236, .iconst 1, .isub, .iaload, .iload 2, .if_icmp .eq 40, .aload 0, .getstatic 1235, .aload 0, .getfield 1236, .aload 0, .aload 0, .getstatic 1235, .aload 0, .getfield 1236, .iconst 1, .isub, .iaload, .iload 2, .iload 3, .invokevirtual 2211213, .iastore, .aload 0, .aload 0, .getfield 1236, .iconst 1, .iadd, .putfield 1236, .goto 8, .return_]
set_option maxRecDepth 100000 in
theorem ze_222 : zc_222.map (fun e => e.2.2.2.1) = zi_222 := rfl
set_option maxRecDepth 100000 in
theorem zk_222 : zckm (zmd 222) false zc_222 zmd [221] = true := by decide +kernel
noncomputable def zf_222 : zF := zden zX0 zi_222 (zlk [(221, zf_221)]) 4
/-- HillErrandsModel.laysRow -/
theorem zs_222 : ∀ d, 7 ≤ d → zSnd d (zmd 222) zf_222 := by
  intro d hd
  obtain ⟨d, rfl⟩ : ∃ k, d = k + 1 := ⟨d - 1, by omega⟩
  have h := zsound (d := d) (l := [(221, zf_221)]) zo_222 (fun h => by cases h) zk_222 (fun q hq => by
    simp only [List.mem_cons, List.not_mem_nil, or_false] at hq
    subst hq
    · exact zs_221 d (by omega))
  rw [ze_222] at h
  exact h
set_option maxRecDepth 100000 in
def zc_223 : List zE := [(0, 1, .aload_n 0, .aload 0, 0, 0), (1, 1, .iload_n 1, .iload 1, 0, 0), (2, 3, .invokevirtual 160, .invokevirtual 1831211, 6188, 160), (5, 3, .ifCond .eq 29, .ifCond .eq 16, 0, 0), (8, 1, .aload_n 0, .aload 0, 0, 0), (9, 1, .iload_n 2, .iload 2, 0, 0), (10, 3, .invokevirtual 160, .invokevirtual 1831211, 6188, 160), (13, 3, .ifCond .eq 21, .ifCond .eq 16, 0, 0), (16, 1, .iload_n 3, .iload 3, 0, 0), (17, 3, .invokestatic 280, .invokestatic 2140011, 7055, 280), (20, 3, .ifCond .eq 14, .ifCond .eq 16, 0, 0), (23, 2, .iload 4, .iload 4, 0, 0), (25, 1, .iconst (-1), .iconst (-1), 0, 0), (26, 2, .bipush 20, .iconst 20, 0, 0), (28, 3, .invokestatic 153, .invokestatic 1790013, 6181, 153), (31, 3, .ifCond .ne 5, .ifCond .ne 18, 0, 0), (34, 1, .iconst (-1), .iconst (-1), 0, 0), (35, 1, .ireturn, .ireturn, 0, 0), (36, 1, .aload_n 0, .aload 0, 0, 0), (37, 3, .invokevirtual 309, .invokevirtual 2161200, 7074, 309), (40, 1, .aload_n 0, .aload 0, 0, 0), (41, 1, .iload_n 1, .iload 1, 0, 0), (42, 1, .iload_n 2, .iload 2, 0, 0), (43, 1, .iload_n 3, .iload 3, 0, 0), (44, 3, .invokevirtual 300, .invokevirtual 2191213, 7078, 300), (47, 2, .istore 5, .istore 5, 0, 0), (49, 2, .iload 5, .iload 5, 0, 0), (51, 2, .ldc 149, .iconst 1000000000, 7062, 149), (53, 3, .if_icmp .lt 6, .if_icmp .lt 31, 0, 0), (56, 2, .bipush (-2), .iconst (-2), 0, 0), (58, 1, .ireturn, .ireturn, 0, 0), (59, 2, .iload 4, .iload 4, 0, 0), (61, 1, .iconst (-1), .iconst (-1), 0, 0), (62, 3, .if_icmp .ne 9, .if_icmp .ne 38, 0, 0), (65, 2, .iload 5, .iload 5, 0, 0), (67, 2, .bipush 64, .iconst 64, 0, 0), (69, 1, .idiv, .idiv, 0, 0), (70, 1, .ireturn, .ireturn, 0, 0), (71, 2, .iload 4, .iload 4, 0, 0), (73, 2, .bipush 20, .iconst 20, 0, 0), (75, 3, .if_icmp .ne 9, .if_icmp .ne 45, 0, 0), (78, 2, .iload 5, .iload 5, 0, 0), (80, 2, .bipush 64, .iconst 64, 0, 0), (82, 1, .irem, .irem, 0, 0), (83, 1, .ireturn, .ireturn, 0, 0), (84, 1, .aload_n 0, .aload 0, 0, 0), (85, 1, .iload_n 1, .iload 1, 0, 0), (86, 1, .iload_n 2, .iload 2, 0, 0), (87, 1, .iload_n 3, .iload 3, 0, 0), (88, 3, .invokevirtual 312, .invokevirtual 2221203, 7096, 312), (91, 2, .iload 4, .iload 4, 0, 0), (93, 1, .aload_n 0, .aload 0, 0, 0), (94, 3, .getfield 303, .getfield 1236, 6004, 303), (97, 3, .if_icmp .ge 13, .if_icmp .ge 59, 0, 0), (100, 1, .aload_n 0, .aload 0, 0, 0), (101, 3, .getfield 76, .getstatic 1235, 6003, 76), (104, 2, .iload 4, .iload 4, 0, 0), (106, 1, .iaload, .iaload, 0, 0), (107, 3, .goto 4, .goto 60, 0, 0), (110, 1, .iconst (-1), .iconst (-1), 0, 0), (111, 1, .ireturn, .ireturn, 0, 0)]
set_option maxRecDepth 100000 in
def zi_223 : List Instr := [.aload 0, .iload 1, .invokevirtual 1831211, .ifCond .eq 16, .aload 0, .iload 2, .invokevirtual 1831211, .ifCond .eq 16, .iload 3, .invokestatic 2140011, .ifCond .eq 16, .iload 4, .iconst (-1), .iconst 20, .invokestatic 1790013, .ifCond .ne 18, .iconst (-1), .ireturn, .aload 0, .invokevirtual 2161200, .aload 0, .iload 1, .iload 2, .iload 3, .invokevirtual 2191213, .istore 5, .iload 5, .iconst 1000000000, .if_icmp .lt 31, .iconst (-2), .ireturn, .iload 4, .iconst (-1), .if_icmp .ne 38, .iload 5, .iconst 64, .idiv, .ireturn, .iload 4, .iconst 20, .if_icmp .ne 45, .iload 5, .iconst 64, .irem, .ireturn, .aload 0, .iload 1, .iload 2, .iload 3, .invokevirtual 2221203, .iload 4, .aload 0, .getfield 1236, .if_icmp .ge 59, .aload 0, .getstatic 1235, .iload 4, .iaload, .goto 60, .iconst (-1), .ireturn]
set_option maxRecDepth 100000 in
theorem ze_223 : zc_223.map (fun e => e.2.2.2.1) = zi_223 := rfl
set_option maxRecDepth 100000 in
theorem zk_223 : zckm (zmd 223) false zc_223 zmd [179, 183, 214, 216, 219, 222] = true := by decide +kernel
noncomputable def zf_223 : zF := zden zX0 zi_223 (zlk [(179, zf_179), (183, zf_183), (214, zf_214), (216, zf_216), (219, zf_219), (222, zf_222)]) 6
/-- HillErrandsModel.way -/
theorem zs_223 : ∀ d, 8 ≤ d → zSnd d (zmd 223) zf_223 := by
  intro d hd
  obtain ⟨d, rfl⟩ : ∃ k, d = k + 1 := ⟨d - 1, by omega⟩
  have h := zsound (d := d) (l := [(179, zf_179), (183, zf_183), (214, zf_214), (216, zf_216), (219, zf_219), (222, zf_222)]) zo_223 (fun h => by cases h) zk_223 (fun q hq => by
    simp only [List.mem_cons, List.not_mem_nil, or_false] at hq
    rcases hq with rfl | rfl | rfl | rfl | rfl | rfl
    · exact zs_179 d (by omega)
    · exact zs_183 d (by omega)
    · exact zs_214 d (by omega)
    · exact zs_216 d (by omega)
    · exact zs_219 d (by omega)
    · exact zs_222 d (by omega))
  rw [ze_223] at h
  exact h
set_option maxRecDepth 100000 in
def zc_224 : List zE := [(0, 1, .iload_n 1, .iload 1, 0, 0), (1, 1, .iconst 0, .iconst 0, 0, 0), (2, 2, .bipush 7, .iconst 7, 0, 0), (4, 3, .invokestatic 153, .invokestatic 1790013, 6181, 153), (7, 3, .ifCond .eq 33, .ifCond .eq 19, 0, 0), (10, 1, .aload_n 0, .aload 0, 0, 0), (11, 1, .iload_n 2, .iload 2, 0, 0), (12, 3, .invokevirtual 160, .invokevirtual 1831211, 6188, 160), (15, 3, .ifCond .eq 25, .ifCond .eq 19, 0, 0), (18, 1, .iload_n 3, .iload 3, 0, 0), (19, 1, .iconst 0, .iconst 0, 0, 0), (20, 2, .bipush 12, .iconst 12, 0, 0), (22, 3, .invokestatic 153, .invokestatic 1790013, 6181, 153), (25, 3, .ifCond .eq 15, .ifCond .eq 19, 0, 0), (28, 2, .iload 4, .iload 4, 0, 0), (30, 1, .iconst 0, .iconst 0, 0, 0), (31, 3, .sipush 999, .iconst 999, 0, 0), (34, 3, .invokestatic 153, .invokestatic 1790013, 6181, 153), (37, 3, .ifCond .ne 5, .ifCond .ne 21, 0, 0), (40, 1, .iconst 0, .iconst 0, 0, 0), (41, 1, .ireturn, .lreturn, 0, 0), (42, 1, .aload_n 0, .aload 0, 0, 0), (43, 3, .getfield 79, .getstatic 1238, 6006, 79), (46, 1, .iload_n 1, .iload 1, 0, 0), (47, 1, .iload_n 2, .iload 2, 0, 0), (48, 1, .iastore, .iastore, 0, 0), (49, 1, .aload_n 0, .aload 0, 0, 0), (50, 3, .getfield 82, .getstatic 1239, 6007, 82), (53, 1, .iload_n 1, .iload 1, 0, 0), (54, 1, .iload_n 3, .iload 3, 0, 0), (55, 1, .iastore, .iastore, 0, 0), (56, 1, .aload_n 0, .aload 0, 0, 0), (57, 3, .getfield 85, .getstatic 1240, 6008, 85), (60, 1, .iload_n 1, .iload 1, 0, 0), (61, 2, .iload 4, .iload 4, 0, 0), (63, 1, .iastore, .iastore, 0, 0), (64, 1, .aload_n 0, .aload 0, 0, 0), (65, 1, .aload_n 0, .aload 0, 0, 0), (66, 3, .getfield 315, .getfield 1237, 6005, 315), (69, 1, .iconst 1, .iconst 1, 0, 0), (70, 1, .iload_n 1, .iload 1, 0, 0), (71, 1, .ishl, .ishl, 0, 0), (72, 1, .ior, .ior, 0, 0), (73, 3, .putfield 315, .putfield 1237, 6005, 315), (76, 1, .iconst 1, .iconst 1, 0, 0), (77, 1, .ireturn, .lreturn, 0, 0)]
set_option maxRecDepth 100000 in
def zi_224 : List Instr := [.iload 1, .iconst 0, .iconst 7, .invokestatic 1790013, .ifCond .eq 19, .aload 0, .iload 2, .invokevirtual 1831211, .ifCond .eq 19, .iload 3, .iconst 0, .iconst 12, .invokestatic 1790013, .ifCond .eq 19, .iload 4, .iconst 0, .iconst 999, .invokestatic 1790013, .ifCond .ne 21, .iconst 0, .lreturn, .aload 0, .getstatic 1238, .iload 1, .iload 2, .iastore, .aload 0, .getstatic 1239, .iload 1, .iload 3, .iastore, .aload 0, .getstatic 1240, .iload 1, .iload 4, .iastore, .aload 0, .aload 0, .getfield 1237, .iconst 1, .iload 1, .ishl, .ior, .putfield 1237, .iconst 1, .lreturn]
set_option maxRecDepth 100000 in
theorem ze_224 : zc_224.map (fun e => e.2.2.2.1) = zi_224 := rfl
set_option maxRecDepth 100000 in
theorem zk_224 : zckm (zmd 224) false zc_224 zmd [179, 183] = true := by decide +kernel
noncomputable def zf_224 : zF := zden zX0 zi_224 (zlk [(179, zf_179), (183, zf_183)]) 5
/-- HillErrandsModel.errand -/
theorem zs_224 : ∀ d, 2 ≤ d → zSnd d (zmd 224) zf_224 := by
  intro d hd
  obtain ⟨d, rfl⟩ : ∃ k, d = k + 1 := ⟨d - 1, by omega⟩
  have h := zsound (d := d) (l := [(179, zf_179), (183, zf_183)]) zo_224 (fun h => by cases h) zk_224 (fun q hq => by
    simp only [List.mem_cons, List.not_mem_nil, or_false] at hq
    rcases hq with rfl | rfl
    · exact zs_179 d (by omega)
    · exact zs_183 d (by omega))
  rw [ze_224] at h
  exact h
set_option maxRecDepth 100000 in
def zc_225 : List zE := [(0, 1, .iconst 0, .iconst 0, 0, 0), (1, 1, .istore_n 2, .istore 2, 0, 0), (2, 1, .iconst 0, .iconst 0, 0, 0), (3, 1, .istore_n 3, .istore 3, 0, 0), (4, 1, .iload_n 3, .iload 3, 0, 0), (5, 2, .bipush 8, .iconst 8, 0, 0), (7, 3, .if_icmp .ge 31, .if_icmp .ge 25, 0, 0), (10, 1, .iload_n 2, .iload 2, 0, 0), (11, 1, .iload_n 1, .iload 1, 0, 0), (12, 1, .iload_n 3, .iload 3, 0, 0), (13, 1, .ishr, .ishr, 0, 0), (14, 1, .iconst 1, .iconst 1, 0, 0), (15, 1, .iand, .iand, 0, 0), (16, 1, .iconst 1, .iconst 1, 0, 0), (17, 3, .if_icmp .ne 12, .if_icmp .ne 20, 0, 0), (20, 1, .aload_n 0, .aload 0, 0, 0), (21, 3, .getfield 82, .getstatic 1239, 6007, 82), (24, 1, .iload_n 3, .iload 3, 0, 0), (25, 1, .iaload, .iaload, 0, 0), (26, 3, .goto 4, .goto 21, 0, 0), (29, 1, .iconst 0, .iconst 0, 0, 0), (30, 1, .iadd, .iadd, 0, 0), (31, 1, .istore_n 2, .istore 2, 0, 0), (32, 3, .iinc 3 1, .iinc 3 1, 0, 0), (35, 3, .goto (-31), .goto 4, 0, 0), (38, 1, .iload_n 2, .iload 2, 0, 0), (39, 1, .ireturn, .ireturn, 0, 0)]
set_option maxRecDepth 100000 in
def zi_225 : List Instr := [.iconst 0, .istore 2, .iconst 0, .istore 3, .iload 3, .iconst 8, .if_icmp .ge 25, .iload 2, .iload 1, .iload 3, .ishr, .iconst 1, .iand, .iconst 1, .if_icmp .ne 20, .aload 0, .getstatic 1239, .iload 3, .iaload, .goto 21, .iconst 0, .iadd, .istore 2, .iinc 3 1, .goto 4, .iload 2, .ireturn]
set_option maxRecDepth 100000 in
theorem ze_225 : zc_225.map (fun e => e.2.2.2.1) = zi_225 := rfl
set_option maxRecDepth 100000 in
theorem zk_225 : zckm (zmd 225) false zc_225 zmd [] = true := by decide +kernel
noncomputable def zf_225 : zF := zden zX0 zi_225 (zlk []) 4
/-- HillErrandsModel.loadOf -/
theorem zs_225 : ∀ d, 1 ≤ d → zSnd d (zmd 225) zf_225 := by
  intro d hd
  obtain ⟨d, rfl⟩ : ∃ k, d = k + 1 := ⟨d - 1, by omega⟩
  have h := zsound (d := d) (l := []) zo_225 (fun h => by cases h) zk_225 (fun q hq => by cases hq)
  rw [ze_225] at h
  exact h
set_option maxRecDepth 100000 in
def zc_226 : List zE := [(0, 1, .aload_n 0, .aload 0, 0, 0), (1, 1, .iload_n 1, .iload 1, 0, 0), (2, 3, .invokevirtual 160, .invokevirtual 1831211, 6188, 160), (5, 3, .ifCond .eq 21, .ifCond .eq 13, 0, 0), (8, 1, .iload_n 2, .iload 2, 0, 0), (9, 1, .iconst 1, .iconst 1, 0, 0), (10, 2, .bipush 8, .iconst 8, 0, 0), (12, 3, .invokestatic 153, .invokestatic 1790013, 6181, 153), (15, 3, .ifCond .eq 11, .ifCond .eq 13, 0, 0), (18, 1, .iload_n 2, .iload 2, 0, 0), (19, 1, .aload_n 0, .aload 0, 0, 0), (20, 3, .getfield 171, .getfield 1209, 5217, 171), (23, 3, .if_icmp .le 5, .if_icmp .le 15, 0, 0), (26, 1, .iconst (-1), .iconst (-1), 0, 0), (27, 1, .ireturn, .ireturn, 0, 0), (28, 1, .aload_n 0, .aload 0, 0, 0), (29, 1, .iconst 0, .iconst 0, 0, 0), (30, 3, .putfield 171, .putfield 1209, 5217, 171), (33, 1, .iconst 0, .iconst 0, 0, 0), (34, 1, .istore_n 3, .istore 3, 0, 0), (35, 1, .iconst 0, .iconst 0, 0, 0), (36, 2, .istore 4, .istore 4, 0, 0), (38, 2, .iload 4, .iload 4, 0, 0), (40, 1, .iload_n 2, .iload 2, 0, 0), (41, 3, .if_icmp .ge 61, .if_icmp .ge 59, 0, 0), (44, 1, .aload_n 0, .aload 0, 0, 0), (45, 3, .getfield 22, .getstatic 1208, 5216, 22), (48, 2, .iload 4, .iload 4, 0, 0), (50, 1, .baload, .baload, 0, 0), (51, 2, .istore 5, .istore 5, 0, 0), (53, 2, .iload 5, .iload 5, 0, 0), (55, 1, .iconst 0, .iconst 0, 0, 0), (56, 2, .bipush 7, .iconst 7, 0, 0), (58, 3, .invokestatic 153, .invokestatic 1790013, 6181, 153), (61, 3, .ifCond .eq 25, .ifCond .eq 49, 0, 0), (64, 1, .aload_n 0, .aload 0, 0, 0), (65, 3, .getfield 315, .getfield 1237, 6005, 315), (68, 2, .iload 5, .iload 5, 0, 0), (70, 1, .ishr, .ishr, 0, 0), (71, 1, .iconst 1, .iconst 1, 0, 0), (72, 1, .iand, .iand, 0, 0), (73, 3, .ifCond .eq 13, .ifCond .eq 49, 0, 0), (76, 1, .iload_n 3, .iload 3, 0, 0), (77, 2, .iload 5, .iload 5, 0, 0), (79, 1, .ishr, .ishr, 0, 0), (80, 1, .iconst 1, .iconst 1, 0, 0), (81, 1, .iand, .iand, 0, 0), (82, 1, .iconst 1, .iconst 1, 0, 0), (83, 3, .if_icmp .ne 6, .if_icmp .ne 51, 0, 0), (86, 2, .bipush (-3), .iconst (-3), 0, 0), (88, 1, .ireturn, .ireturn, 0, 0), (89, 1, .iload_n 3, .iload 3, 0, 0), (90, 1, .iconst 1, .iconst 1, 0, 0), (91, 2, .iload 5, .iload 5, 0, 0), (93, 1, .ishl, .ishl, 0, 0), (94, 1, .ior, .ior, 0, 0), (95, 1, .istore_n 3, .istore 3, 0, 0), (96, 3, .iinc 4 1, .iinc 4 1, 0, 0), (99, 3, .goto (-61), .goto 22, 0, 0), (102, 1, .aload_n 0, .aload 0, 0, 0), (103, 3, .invokevirtual 309, .invokevirtual 2161200, 7074, 309), (106, 1, .iconst 0, .iconst 0, 0, 0), (107, 2, .istore 4, .istore 4, 0, 0), (109, 1, .iload_n 1, .iload 1, 0, 0), (110, 2, .istore 5, .istore 5, 0, 0), (112, 1, .iconst 0, .iconst 0, 0, 0), (113, 2, .istore 6, .istore 6, 0, 0), (115, 1, .iconst 0, .iconst 0, 0, 0), (116, 2, .istore 7, .istore 7, 0, 0), (118, 2, .iload 7, .iload 7, 0, 0), (120, 1, .iload_n 2, .iload 2, 0, 0), (121, 3, .if_icmp .ge 67, .if_icmp .ge 106, 0, 0), (124, 2, .iload 4, .iload 4, 0, 0), (126, 1, .aload_n 0, .aload 0, 0, 0), (127, 2, .iload 5, .iload 5, 0, 0), (129, 1, .aload_n 0, .aload 0, 0, 0), (130, 3, .getfield 79, .getstatic 1238, 6006, 79), (133, 1, .aload_n 0, .aload 0, 0, 0), (134, 3, .getfield 22, .getstatic 1208, 5216, 22), (137, 2, .iload 7, .iload 7, 0, 0), (139, 1, .baload, .baload, 0, 0), (140, 1, .iaload, .iaload, 0, 0), (141, 2, .iload 6, .iload 6, 0, 0), (143, 3, .invokevirtual 318, .invokevirtual 2201213, 7112, 318), (146, 3, .invokestatic 294, .invokestatic 1800012, 7093, 294), (149, 2, .istore 4, .istore 4, 0, 0), (151, 1, .aload_n 0, .aload 0, 0, 0), (152, 3, .getfield 79, .getstatic 1238, 6006, 79), (155, 1, .aload_n 0, .aload 0, 0, 0), (156, 3, .getfield 22, .getstatic 1208, 5216, 22), (159, 2, .iload 7, .iload 7, 0, 0), (161, 1, .baload, .baload, 0, 0), (162, 1, .iaload, .iaload, 0, 0), (163, 2, .istore 5, .istore 5, 0, 0), (165, 2, .iload 6, .iload 6, 0, 0), (167, 1, .aload_n 0, .aload 0, 0, 0), (168, 3, .getfield 82, .getstatic 1239, 6007, 82), (171, 1, .aload_n 0, .aload 0, 0, 0), (172, 3, .getfield 22, .getstatic 1208, 5216, 22), (175, 2, .iload 7, .iload 7, 0, 0), (177, 1, .baload, .baload, 0, 0), (178, 1, .iaload, .iaload, 0, 0), (179, 1, .iadd, .iadd, 0, 0), (180, 2, .istore 6, .istore 6, 0, 0), (182, 3, .iinc 7 1, .iinc 7 1, 0, 0), (185, 3, .goto (-67), .goto 69, 0, 0), (188, 2, .iload 4, .iload 4, 0, 0), (190, 1, .aload_n 0, .aload 0, 0, 0), (191, 2, .iload 5, .iload 5, 0, 0), (193, 1, .iload_n 1, .iload 1, 0, 0), (194, 2, .iload 6, .iload 6, 0, 0), (196, 3, .invokevirtual 318, .invokevirtual 2201213, 7112, 318), (199, 3, .invokestatic 294, .invokestatic 1800012, 7093, 294), (202, 2, .istore 4, .istore 4, 0, 0), (204, 2, .iload 4, .iload 4, 0, 0), (206, 2, .ldc 149, .iconst 1000000000, 7062, 149), (208, 3, .if_icmp .lt 8, .if_icmp .lt 119, 0, 0), (211, 2, .bipush (-2), .iconst (-2), 0, 0), (213, 3, .goto 5, .goto 120, 0, 0), (216, 2, .iload 4, .iload 4, 0, 0), (218, 1, .ireturn, .ireturn, 0, 0)]
set_option maxRecDepth 100000 in
def zi_226 : List Instr := [.aload 0, .iload 1, .invokevirtual 1831211, .ifCond .eq 13, .iload 2, .iconst 1, .iconst 8, .invokestatic 1790013, .ifCond .eq 13, .iload 2, .aload 0, .getfield 1209, .if_icmp .le 15, .iconst (-1), .ireturn, .aload 0, .iconst 0, .putfield 1209, .iconst 0, .istore 3, .iconst 0, .istore 4, .iload 4, .iload 2, .if_icmp .ge 59, .aload 0, .getstatic 1208, .iload 4, .baload, .istore 5, .iload 5, .iconst 0, .iconst 7, .invokestatic 1790013, .ifCond .eq 49, .aload 0, .getfield 1237, .iload 5, .ishr, .iconst 1, .iand, .ifCond .eq 49, .iload 3, .iload 5, .ishr, .iconst 1, .iand, .iconst 1, .if_icmp .ne 51, .iconst (-3), .ireturn, .iload 3, .iconst 1, .iload 5, .ishl, .ior, .istore 3, .iinc 4 1, .goto 22, .aload 0, .invokevirtual 2161200, .iconst 0, .istore 4, .iload 1, .istore 5, .iconst 0, .istore 6, .iconst 0, .istore 7, .iload 7, .iload 2, .if_icmp .ge 106, .iload 4, .aload 0, .iload 5, .aload 0, .getstatic 1238, .aload 0, .getstatic 1208, .iload 7, .baload, .iaload, .iload 6, .invokevirtual 2201213, .invokestatic 1800012, .istore 4, .aload 0, .getstatic 1238, .aload 0, .getstatic 1208, .iload 7, .baload, .iaload, .istore 5, .iload 6, .aload 0, .getstatic 1239, .aload 0, .getstatic 1208, .iload 7, .baload, .iaload, .iadd, .istore 6, .iinc 7 1, .goto 69, .iload 4, .aload 0, .iload 5, .iload 1, .iload 6, .invokevirtual 2201213, .invokestatic 1800012, .istore 4, .iload 4, .iconst 1000000000, .if_icmp .lt 119, .iconst (-2), .goto 120, .iload 4, .ireturn]
set_option maxRecDepth 100000 in
theorem ze_226 : zc_226.map (fun e => e.2.2.2.1) = zi_226 := rfl
set_option maxRecDepth 100000 in
theorem zk_226 : zckm (zmd 226) false zc_226 zmd [179, 180, 183, 216, 220] = true := by decide +kernel
noncomputable def zf_226 : zF := zden zX0 zi_226 (zlk [(179, zf_179), (180, zf_180), (183, zf_183), (216, zf_216), (220, zf_220)]) 8
/-- HillErrandsModel.round -/
theorem zs_226 : ∀ d, 7 ≤ d → zSnd d (zmd 226) zf_226 := by
  intro d hd
  obtain ⟨d, rfl⟩ : ∃ k, d = k + 1 := ⟨d - 1, by omega⟩
  have h := zsound (d := d) (l := [(179, zf_179), (180, zf_180), (183, zf_183), (216, zf_216), (220, zf_220)]) zo_226 (fun h => by cases h) zk_226 (fun q hq => by
    simp only [List.mem_cons, List.not_mem_nil, or_false] at hq
    rcases hq with rfl | rfl | rfl | rfl | rfl
    · exact zs_179 d (by omega)
    · exact zs_180 d (by omega)
    · exact zs_183 d (by omega)
    · exact zs_216 d (by omega)
    · exact zs_220 d (by omega))
  rw [ze_226] at h
  exact h
set_option maxRecDepth 100000 in
def zc_227 : List zE := [(0, 1, .iload_n 2, .iload 2, 0, 0), (1, 2, .bipush 8, .iconst 8, 0, 0), (3, 3, .if_icmp .ne 7, .if_icmp .ne 5, 0, 0), (6, 1, .iload_n 1, .iload 1, 0, 0), (7, 3, .goto 9, .goto 9, 0, 0), (10, 1, .aload_n 0, .aload 0, 0, 0), (11, 3, .getfield 79, .getstatic 1238, 6006, 79), (14, 1, .iload_n 2, .iload 2, 0, 0), (15, 1, .iaload, .iaload, 0, 0), (16, 1, .ireturn, .ireturn, 0, 0)]
set_option maxRecDepth 100000 in
def zi_227 : List Instr := [.iload 2, .iconst 8, .if_icmp .ne 5, .iload 1, .goto 9, .aload 0, .getstatic 1238, .iload 2, .iaload, .ireturn]
set_option maxRecDepth 100000 in
theorem ze_227 : zc_227.map (fun e => e.2.2.2.1) = zi_227 := rfl
set_option maxRecDepth 100000 in
theorem zk_227 : zckm (zmd 227) false zc_227 zmd [] = true := by decide +kernel
noncomputable def zf_227 : zF := zden zX0 zi_227 (zlk []) 3
/-- HillErrandsModel.placeOf -/
theorem zs_227 : ∀ d, 1 ≤ d → zSnd d (zmd 227) zf_227 := by
  intro d hd
  obtain ⟨d, rfl⟩ : ∃ k, d = k + 1 := ⟨d - 1, by omega⟩
  have h := zsound (d := d) (l := []) zo_227 (fun h => by cases h) zk_227 (fun q hq => by cases hq)
  rw [ze_227] at h
  exact h
set_option maxRecDepth 100000 in
def zc_228 : List zE := [(0, 1, .iload_n 2, .iload 2, 0, 0), (1, 1, .iload_n 3, .iload 3, 0, 0), (2, 1, .iconst (-1), .iconst (-1), 0, 0), (3, 1, .ixor, .ixor, 0, 0), (4, 1, .iand, .iand, 0, 0), (5, 2, .iload 5, .iload 5, 0, 0), (7, 1, .ishr, .ishr, 0, 0), (8, 1, .iconst 1, .iconst 1, 0, 0), (9, 1, .iand, .iand, 0, 0), (10, 3, .ifCond .ne 6, .ifCond .ne 12, 0, 0), (13, 2, .ldc 149, .iconst 1000000000, 7062, 149), (15, 1, .ireturn, .ireturn, 0, 0), (16, 1, .aload_n 0, .aload 0, 0, 0), (17, 1, .aload_n 0, .aload 0, 0, 0), (18, 1, .iload_n 1, .iload 1, 0, 0), (19, 2, .iload 4, .iload 4, 0, 0), (21, 3, .invokevirtual 321, .invokevirtual 2271212, 7139, 321), (24, 1, .aload_n 0, .aload 0, 0, 0), (25, 3, .getfield 79, .getstatic 1238, 6006, 79), (28, 2, .iload 5, .iload 5, 0, 0), (30, 1, .iaload, .iaload, 0, 0), (31, 1, .aload_n 0, .aload 0, 0, 0), (32, 1, .iload_n 3, .iload 3, 0, 0), (33, 3, .invokevirtual 324, .invokevirtual 2251211, 7143, 324), (36, 3, .invokevirtual 318, .invokevirtual 2201213, 7112, 318), (39, 1, .aload_n 0, .aload 0, 0, 0), (40, 3, .getfield 88, .getstatic 1241, 6009, 88), (43, 2, .bipush 9, .iconst 9, 0, 0), (45, 1, .iload_n 3, .iload 3, 0, 0), (46, 1, .iconst 1, .iconst 1, 0, 0), (47, 2, .iload 5, .iload 5, 0, 0), (49, 1, .ishl, .ishl, 0, 0), (50, 1, .ior, .ior, 0, 0), (51, 1, .imul, .imul, 0, 0), (52, 2, .iload 5, .iload 5, 0, 0), (54, 1, .iadd, .iadd, 0, 0), (55, 1, .iaload, .iaload, 0, 0), (56, 3, .invokestatic 294, .invokestatic 1800012, 7093, 294), (59, 1, .ireturn, .ireturn, 0, 0)]
set_option maxRecDepth 100000 in
def zi_228 : List Instr := [.iload 2, .iload 3, .iconst (-1), .ixor, .iand, .iload 5, .ishr, .iconst 1, .iand, .ifCond .ne 12, .iconst 1000000000, .ireturn, .aload 0, .aload 0, .iload 1, .iload 4, .invokevirtual 2271212, .aload 0, .getstatic 1238, .iload 5, .iaload, .aload 0, .iload 3, .invokevirtual 2251211, .invokevirtual 2201213, .aload 0, .getstatic 1241, .iconst 9, .iload 3, .iconst 1, .iload 5, .ishl, .ior, .imul, .iload 5, .iadd, .iaload, .invokestatic 1800012, .ireturn]
set_option maxRecDepth 100000 in
theorem ze_228 : zc_228.map (fun e => e.2.2.2.1) = zi_228 := rfl
set_option maxRecDepth 100000 in
theorem zk_228 : zckm (zmd 228) false zc_228 zmd [180, 220, 225, 227] = true := by decide +kernel
noncomputable def zf_228 : zF := zden zX0 zi_228 (zlk [(180, zf_180), (220, zf_220), (225, zf_225), (227, zf_227)]) 6
/-- HillErrandsModel.restBy -/
theorem zs_228 : ∀ d, 7 ≤ d → zSnd d (zmd 228) zf_228 := by
  intro d hd
  obtain ⟨d, rfl⟩ : ∃ k, d = k + 1 := ⟨d - 1, by omega⟩
  have h := zsound (d := d) (l := [(180, zf_180), (220, zf_220), (225, zf_225), (227, zf_227)]) zo_228 (fun h => by cases h) zk_228 (fun q hq => by
    simp only [List.mem_cons, List.not_mem_nil, or_false] at hq
    rcases hq with rfl | rfl | rfl | rfl
    · exact zs_180 d (by omega)
    · exact zs_220 d (by omega)
    · exact zs_225 d (by omega)
    · exact zs_227 d (by omega))
  rw [ze_228] at h
  exact h
