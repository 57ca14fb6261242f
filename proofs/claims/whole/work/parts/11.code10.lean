set_option maxRecDepth 100000 in
def zc_229 : List zE := [(0, 3, .sipush 255, .iconst 255, 0, 0), (3, 1, .istore_n 3, .istore 3, 0, 0), (4, 1, .iload_n 3, .iload 3, 0, 0), (5, 3, .ifCond .lt 160, .ifCond .lt 88, 0, 0), (8, 1, .iload_n 3, .iload 3, 0, 0), (9, 1, .iload_n 2, .iload 2, 0, 0), (10, 1, .iconst (-1), .iconst (-1), 0, 0), (11, 1, .ixor, .ixor, 0, 0), (12, 1, .iand, .iand, 0, 0), (13, 3, .ifCond .eq 6, .ifCond .eq 11, 0, 0), (16, 3, .goto 143, .goto 86, 0, 0), (19, 1, .iconst 0, .iconst 0, 0, 0), (20, 2, .istore 4, .istore 4, 0, 0), (22, 2, .iload 4, .iload 4, 0, 0), (24, 2, .bipush 9, .iconst 9, 0, 0), (26, 3, .if_icmp .ge 133, .if_icmp .ge 86, 0, 0), (29, 1, .iload_n 3, .iload 3, 0, 0), (30, 1, .iload_n 2, .iload 2, 0, 0), (31, 3, .if_icmp .ne 48, .if_icmp .ne 43, 0, 0), (34, 2, .iload 4, .iload 4, 0, 0), (36, 2, .bipush 8, .iconst 8, 0, 0), (38, 3, .if_icmp .eq 16, .if_icmp .eq 30, 0, 0), (41, 1, .aload_n 0, .aload 0, 0, 0), (42, 3, .getfield 315, .getfield 1237, 6005, 315), (45, 2, .iload 4, .iload 4, 0, 0), (47, 1, .ishr, .ishr, 0, 0), (48, 1, .iconst 1, .iconst 1, 0, 0), (49, 1, .iand, .iand, 0, 0), (50, 1, .iconst 1, .iconst 1, 0, 0), (51, 3, .if_icmp .ne 23, .if_icmp .ne 41, 0, 0), (54, 1, .aload_n 0, .aload 0, 0, 0), (55, 1, .aload_n 0, .aload 0, 0, 0), (56, 1, .iload_n 1, .iload 1, 0, 0), (57, 2, .iload 4, .iload 4, 0, 0), (59, 3, .invokevirtual 321, .invokevirtual 2271212, 7139, 321), (62, 1, .iload_n 1, .iload 1, 0, 0), (63, 1, .aload_n 0, .aload 0, 0, 0), (64, 1, .iload_n 3, .iload 3, 0, 0), (65, 3, .invokevirtual 324, .invokevirtual 2251211, 7143, 324), (68, 3, .invokevirtual 318, .invokevirtual 2201213, 7112, 318), (71, 3, .goto 10, .goto 44, 0, 0), (74, 2, .ldc 149, .iconst 1000000000, 7062, 149), (76, 3, .goto 5, .goto 44, 0, 0), (79, 2, .ldc 149, .iconst 1000000000, 7062, 149), (81, 2, .istore 5, .istore 5, 0, 0), (83, 1, .iconst 0, .iconst 0, 0, 0), (84, 2, .istore 6, .istore 6, 0, 0), (86, 2, .iload 6, .iload 6, 0, 0), (88, 2, .bipush 8, .iconst 8, 0, 0), (90, 3, .if_icmp .ge 49, .if_icmp .ge 75, 0, 0), (93, 1, .iload_n 3, .iload 3, 0, 0), (94, 1, .iload_n 2, .iload 2, 0, 0), (95, 3, .if_icmp .eq 44, .if_icmp .eq 75, 0, 0), (98, 2, .iload 4, .iload 4, 0, 0), (100, 2, .bipush 8, .iconst 8, 0, 0), (102, 3, .if_icmp .eq 13, .if_icmp .eq 63, 0, 0), (105, 1, .iload_n 3, .iload 3, 0, 0), (106, 2, .iload 4, .iload 4, 0, 0), (108, 1, .ishr, .ishr, 0, 0), (109, 1, .iconst 1, .iconst 1, 0, 0), (110, 1, .iand, .iand, 0, 0), (111, 1, .iconst 1, .iconst 1, 0, 0), (112, 3, .if_icmp .ne 21, .if_icmp .ne 73, 0, 0), (115, 2, .iload 5, .iload 5, 0, 0), (117, 1, .aload_n 0, .aload 0, 0, 0), (118, 1, .iload_n 1, .iload 1, 0, 0), (119, 1, .iload_n 2, .iload 2, 0, 0), (120, 1, .iload_n 3, .iload 3, 0, 0), (121, 2, .iload 4, .iload 4, 0, 0), (123, 2, .iload 6, .iload 6, 0, 0), (125, 3, .invokevirtual 327, .invokevirtual 2281215, 7147, 327), (128, 3, .invokestatic 287, .invokestatic 1810012, 7090, 287), (131, 2, .istore 5, .istore 5, 0, 0), (133, 3, .iinc 6 1, .iinc 6 1, 0, 0), (136, 3, .goto (-50), .goto 47, 0, 0), (139, 1, .aload_n 0, .aload 0, 0, 0), (140, 3, .getfield 88, .getstatic 1241, 6009, 88), (143, 2, .bipush 9, .iconst 9, 0, 0), (145, 1, .iload_n 3, .iload 3, 0, 0), (146, 1, .imul, .imul, 0, 0), (147, 2, .iload 4, .iload 4, 0, 0), (149, 1, .iadd, .iadd, 0, 0), (150, 2, .iload 5, .iload 5, 0, 0), (152, 1, .iastore, .iastore, 0, 0), (153, 3, .iinc 4 1, .iinc 4 1, 0, 0), (156, 3, .goto (-134), .goto 13, 0, 0), (159, 3, .iinc 3 (-1), .iinc 3 (-1), 0, 0), (162, 3, .goto (-158), .goto 2, 0, 0), (165, 1, .return_, .return_, 0, 0)]
set_option maxRecDepth 100000 in
def zi_229 : List Instr := [.iconst 255, .istore 3, .iload 3, .ifCond .lt 88, .iload 3, .iload 2, .iconst (-1), .ixor, .iand, .ifCond .eq 11, .goto 86, .iconst 0, .istore 4, .iload 4, .iconst 9, .if_icmp .ge 86, .iload 3, .iload 2, .if_icmp .ne 43, .iload 4, .iconst 8, .if_icmp .eq 30, .aload 0, .getfield 1237, .iload 4, .ishr, .iconst 1, .iand, .iconst 1, .if_icmp .ne 41, .aload 0, .aload 0, .iload 1, .iload 4, .invokevirtual 2271212, .iload 1, .aload 0, .iload 3, .invokevirtual 2251211, .invokevirtual 2201213, .goto 44, .iconst 1000000000, .goto 44, .iconst 1000000000, .istore 5, .iconst 0, .istore 6, .iload 6, .iconst 8, .if_icmp .ge 75, .iload 3, .iload 2, .if_icmp .eq 75, .iload 4, .iconst 8, .if_icmp .eq 63, .iload 3, .iload 4, .ishr, .iconst 1, .iand, .iconst 1, .if_icmp .ne 73, .iload 5, .aload 0, .iload 1, .iload 2, .iload 3, .iload 4, .iload 6, .invokevirtual 2281215, .invokestatic 1810012, .istore 5, .iinc 6 1, .goto 47, .aload 0, .getstatic 1241, .iconst 9, .iload 3, .imul, .iload 4, .iadd, .iload 5, .iastore, .iinc 4 1, .goto 13, .iinc 3 (-1), .goto 2, .return_]
set_option maxRecDepth 100000 in
theorem ze_229 : zc_229.map (fun e => e.2.2.2.1) = zi_229 := rfl
set_option maxRecDepth 100000 in
theorem zk_229 : zckm (zmd 229) false zc_229 zmd [181, 220, 225, 227, 228] = true := by decide +kernel
noncomputable def zf_229 : zF := zden zX0 zi_229 (zlk [(181, zf_181), (220, zf_220), (225, zf_225), (227, zf_227), (228, zf_228)]) 7
/-- HillErrandsModel.laysRest -/
theorem zs_229 : ∀ d, 8 ≤ d → zSnd d (zmd 229) zf_229 := by
  intro d hd
  obtain ⟨d, rfl⟩ : ∃ k, d = k + 1 := ⟨d - 1, by omega⟩
  have h := zsound (d := d) (l := [(181, zf_181), (220, zf_220), (225, zf_225), (227, zf_227), (228, zf_228)]) zo_229 (fun h => by cases h) zk_229 (fun q hq => by
    simp only [List.mem_cons, List.not_mem_nil, or_false] at hq
    rcases hq with rfl | rfl | rfl | rfl | rfl
    · exact zs_181 d (by omega)
    · exact zs_220 d (by omega)
    · exact zs_225 d (by omega)
    · exact zs_227 d (by omega)
    · exact zs_228 d (by omega))
  rw [ze_229] at h
  exact h
set_option maxRecDepth 100000 in
def zc_230 : List zE := [(0, 1, .iload_n 2, .iload 2, 0, 0), (1, 3, .ifCond .ne 5, .ifCond .ne 4, 0, 0), (4, 1, .iconst 0, .iconst 0, 0, 0), (5, 1, .ireturn, .ireturn, 0, 0), (6, 1, .aload_n 0, .aload 0, 0, 0), (7, 1, .iload_n 1, .iload 1, 0, 0), (8, 1, .iload_n 2, .iload 2, 0, 0), (9, 3, .invokevirtual 331, .invokevirtual 2291202, 7135, 331), (12, 1, .aload_n 0, .aload 0, 0, 0), (13, 3, .getfield 88, .getstatic 1241, 6009, 88), (16, 2, .bipush 8, .iconst 8, 0, 0), (18, 1, .iaload, .iaload, 0, 0), (19, 1, .ireturn, .ireturn, 0, 0)]
set_option maxRecDepth 100000 in
def zi_230 : List Instr := [.iload 2, .ifCond .ne 4, .iconst 0, .ireturn, .aload 0, .iload 1, .iload 2, .invokevirtual 2291202, .aload 0, .getstatic 1241, .iconst 8, .iaload, .ireturn]
set_option maxRecDepth 100000 in
theorem ze_230 : zc_230.map (fun e => e.2.2.2.1) = zi_230 := rfl
set_option maxRecDepth 100000 in
theorem zk_230 : zckm (zmd 230) false zc_230 zmd [229] = true := by decide +kernel
noncomputable def zf_230 : zF := zden zX0 zi_230 (zlk [(229, zf_229)]) 3
/-- HillErrandsModel.roundOf -/
theorem zs_230 : ∀ d, 9 ≤ d → zSnd d (zmd 230) zf_230 := by
  intro d hd
  obtain ⟨d, rfl⟩ : ∃ k, d = k + 1 := ⟨d - 1, by omega⟩
  have h := zsound (d := d) (l := [(229, zf_229)]) zo_230 (fun h => by cases h) zk_230 (fun q hq => by
    simp only [List.mem_cons, List.not_mem_nil, or_false] at hq
    subst hq
    · exact zs_229 d (by omega))
  rw [ze_230] at h
  exact h
set_option maxRecDepth 100000 in
def zc_231 : List zE := [(0, 1, .iconst 0, .iconst 0, 0, 0), (1, 1, .istore_n 3, .istore 3, 0, 0), (2, 1, .iconst 0, .iconst 0, 0, 0), (3, 2, .istore 4, .istore 4, 0, 0), (5, 2, .iload 4, .iload 4, 0, 0), (7, 2, .bipush 8, .iconst 8, 0, 0), (9, 3, .if_icmp .ge 59, .if_icmp .ge 39, 0, 0), (12, 1, .iload_n 2, .iload 2, 0, 0), (13, 2, .iload 4, .iload 4, 0, 0), (15, 1, .ishr, .ishr, 0, 0), (16, 1, .iconst 1, .iconst 1, 0, 0), (17, 1, .iand, .iand, 0, 0), (18, 1, .iconst 1, .iconst 1, 0, 0), (19, 3, .if_icmp .ne 43, .if_icmp .ne 37, 0, 0), (22, 1, .iload_n 3, .iload 3, 0, 0), (23, 1, .aload_n 0, .aload 0, 0, 0), (24, 1, .iload_n 1, .iload 1, 0, 0), (25, 1, .aload_n 0, .aload 0, 0, 0), (26, 3, .getfield 79, .getstatic 1238, 6006, 79), (29, 2, .iload 4, .iload 4, 0, 0), (31, 1, .iaload, .iaload, 0, 0), (32, 1, .iconst 0, .iconst 0, 0, 0), (33, 3, .invokevirtual 318, .invokevirtual 2201213, 7112, 318), (36, 1, .aload_n 0, .aload 0, 0, 0), (37, 1, .aload_n 0, .aload 0, 0, 0), (38, 3, .getfield 79, .getstatic 1238, 6006, 79), (41, 2, .iload 4, .iload 4, 0, 0), (43, 1, .iaload, .iaload, 0, 0), (44, 1, .iload_n 1, .iload 1, 0, 0), (45, 1, .aload_n 0, .aload 0, 0, 0), (46, 3, .getfield 82, .getstatic 1239, 6007, 82), (49, 2, .iload 4, .iload 4, 0, 0), (51, 1, .iaload, .iaload, 0, 0), (52, 3, .invokevirtual 318, .invokevirtual 2201213, 7112, 318), (55, 3, .invokestatic 294, .invokestatic 1800012, 7093, 294), (58, 3, .invokestatic 294, .invokestatic 1800012, 7093, 294), (61, 1, .istore_n 3, .istore 3, 0, 0), (62, 3, .iinc 4 1, .iinc 4 1, 0, 0), (65, 3, .goto (-60), .goto 4, 0, 0), (68, 1, .iload_n 3, .iload 3, 0, 0), (69, 2, .ldc 149, .iconst 1000000000, 7062, 149), (71, 3, .if_icmp .lt 8, .if_icmp .lt 44, 0, 0), (74, 2, .bipush (-2), .iconst (-2), 0, 0), (76, 3, .goto 4, .goto 45, 0, 0), (79, 1, .iload_n 3, .iload 3, 0, 0), (80, 1, .ireturn, .ireturn, 0, 0)]
set_option maxRecDepth 100000 in
def zi_231 : List Instr := [.iconst 0, .istore 3, .iconst 0, .istore 4, .iload 4, .iconst 8, .if_icmp .ge 39, .iload 2, .iload 4, .ishr, .iconst 1, .iand, .iconst 1, .if_icmp .ne 37, .iload 3, .aload 0, .iload 1, .aload 0, .getstatic 1238, .iload 4, .iaload, .iconst 0, .invokevirtual 2201213, .aload 0, .aload 0, .getstatic 1238, .iload 4, .iaload, .iload 1, .aload 0, .getstatic 1239, .iload 4, .iaload, .invokevirtual 2201213, .invokestatic 1800012, .invokestatic 1800012, .istore 3, .iinc 4 1, .goto 4, .iload 3, .iconst 1000000000, .if_icmp .lt 44, .iconst (-2), .goto 45, .iload 3, .ireturn]
set_option maxRecDepth 100000 in
theorem ze_231 : zc_231.map (fun e => e.2.2.2.1) = zi_231 := rfl
set_option maxRecDepth 100000 in
theorem zk_231 : zckm (zmd 231) false zc_231 zmd [180, 220] = true := by decide +kernel
noncomputable def zf_231 : zF := zden zX0 zi_231 (zlk [(180, zf_180), (220, zf_220)]) 5
/-- HillErrandsModel.separate -/
theorem zs_231 : ∀ d, 7 ≤ d → zSnd d (zmd 231) zf_231 := by
  intro d hd
  obtain ⟨d, rfl⟩ : ∃ k, d = k + 1 := ⟨d - 1, by omega⟩
  have h := zsound (d := d) (l := [(180, zf_180), (220, zf_220)]) zo_231 (fun h => by cases h) zk_231 (fun q hq => by
    simp only [List.mem_cons, List.not_mem_nil, or_false] at hq
    rcases hq with rfl | rfl
    · exact zs_180 d (by omega)
    · exact zs_220 d (by omega))
  rw [ze_231] at h
  exact h
set_option maxRecDepth 100000 in
def zc_232 : List zE := [(0, 1, .iload_n 1, .iload 1, 0, 0), (1, 1, .iconst 0, .iconst 0, 0, 0), (2, 3, .sipush 255, .iconst 255, 0, 0), (5, 3, .invokestatic 153, .invokestatic 1790013, 6181, 153), (8, 3, .ifCond .eq 18, .ifCond .eq 14, 0, 0), (11, 1, .iload_n 1, .iload 1, 0, 0), (12, 1, .aload_n 0, .aload 0, 0, 0), (13, 3, .getfield 315, .getfield 1237, 6005, 315), (16, 1, .iconst (-1), .iconst (-1), 0, 0), (17, 1, .ixor, .ixor, 0, 0), (18, 1, .iand, .iand, 0, 0), (19, 3, .ifCond .ne 7, .ifCond .ne 14, 0, 0), (22, 1, .iconst 1, .iconst 1, 0, 0), (23, 3, .goto 4, .goto 15, 0, 0), (26, 1, .iconst 0, .iconst 0, 0, 0), (27, 1, .ireturn, .lreturn, 0, 0)]
set_option maxRecDepth 100000 in
def zi_232 : List Instr := [.iload 1, .iconst 0, .iconst 255, .invokestatic 1790013, .ifCond .eq 14, .iload 1, .aload 0, .getfield 1237, .iconst (-1), .ixor, .iand, .ifCond .ne 14, .iconst 1, .goto 15, .iconst 0, .lreturn]
set_option maxRecDepth 100000 in
theorem ze_232 : zc_232.map (fun e => e.2.2.2.1) = zi_232 := rfl
set_option maxRecDepth 100000 in
theorem zk_232 : zckm (zmd 232) false zc_232 zmd [179] = true := by decide +kernel
noncomputable def zf_232 : zF := zden zX0 zi_232 (zlk [(179, zf_179)]) 2
/-- HillErrandsModel.areErrands -/
theorem zs_232 : ∀ d, 2 ≤ d → zSnd d (zmd 232) zf_232 := by
  intro d hd
  obtain ⟨d, rfl⟩ : ∃ k, d = k + 1 := ⟨d - 1, by omega⟩
  have h := zsound (d := d) (l := [(179, zf_179)]) zo_232 (fun h => by cases h) zk_232 (fun q hq => by
    simp only [List.mem_cons, List.not_mem_nil, or_false] at hq
    subst hq
    · exact zs_179 d (by omega))
  rw [ze_232] at h
  exact h
set_option maxRecDepth 100000 in
def zc_233 : List zE := [(0, 1, .aload_n 0, .aload 0, 0, 0), (1, 1, .iload_n 1, .iload 1, 0, 0), (2, 3, .invokevirtual 160, .invokevirtual 1831211, 6188, 160), (5, 3, .ifCond .eq 35, .ifCond .eq 21, 0, 0), (8, 1, .aload_n 0, .aload 0, 0, 0), (9, 1, .iload_n 2, .iload 2, 0, 0), (10, 3, .invokevirtual 334, .invokevirtual 2321211, 7120, 334), (13, 3, .ifCond .eq 27, .ifCond .eq 21, 0, 0), (16, 1, .iload_n 2, .iload 2, 0, 0), (17, 3, .ifCond .eq 23, .ifCond .eq 21, 0, 0), (20, 1, .iload_n 3, .iload 3, 0, 0), (21, 2, .bipush 10, .iconst 10, 0, 0), (23, 3, .if_icmp .eq 19, .if_icmp .eq 23, 0, 0), (26, 1, .iload_n 3, .iload 3, 0, 0), (27, 1, .iconst (-1), .iconst (-1), 0, 0), (28, 1, .iload_n 2, .iload 2, 0, 0), (29, 3, .invokestatic 337, .invokestatic 1820011, 7124, 337), (32, 1, .iconst 1, .iconst 1, 0, 0), (33, 1, .isub, .isub, 0, 0), (34, 3, .invokestatic 153, .invokestatic 1790013, 6181, 153), (37, 3, .ifCond .ne 5, .ifCond .ne 23, 0, 0), (40, 1, .iconst (-1), .iconst (-1), 0, 0), (41, 1, .ireturn, .ireturn, 0, 0), (42, 1, .aload_n 0, .aload 0, 0, 0), (43, 3, .invokevirtual 309, .invokevirtual 2161200, 7074, 309), (46, 1, .iload_n 3, .iload 3, 0, 0), (47, 2, .bipush 10, .iconst 10, 0, 0), (49, 3, .if_icmp .ne 10, .if_icmp .ne 33, 0, 0), (52, 1, .aload_n 0, .aload 0, 0, 0), (53, 1, .iload_n 1, .iload 1, 0, 0), (54, 1, .iload_n 2, .iload 2, 0, 0), (55, 3, .invokevirtual 340, .invokevirtual 2311212, 7127, 340), (58, 1, .ireturn, .ireturn, 0, 0), (59, 1, .aload_n 0, .aload 0, 0, 0), (60, 1, .iload_n 1, .iload 1, 0, 0), (61, 1, .iload_n 2, .iload 2, 0, 0), (62, 3, .invokevirtual 343, .invokevirtual 2301212, 7131, 343), (65, 2, .istore 4, .istore 4, 0, 0), (67, 2, .iload 4, .iload 4, 0, 0), (69, 2, .ldc 149, .iconst 1000000000, 7062, 149), (71, 3, .if_icmp .lt 6, .if_icmp .lt 43, 0, 0), (74, 2, .bipush (-2), .iconst (-2), 0, 0), (76, 1, .ireturn, .ireturn, 0, 0), (77, 1, .iload_n 3, .iload 3, 0, 0), (78, 1, .iconst (-1), .iconst (-1), 0, 0), (79, 3, .if_icmp .ne 6, .if_icmp .ne 48, 0, 0), (82, 2, .iload 4, .iload 4, 0, 0), (84, 1, .ireturn, .ireturn, 0, 0), (85, 1, .iconst 0, .iconst 0, 0, 0), (86, 2, .istore 5, .istore 5, 0, 0), (88, 2, .bipush 8, .iconst 8, 0, 0), (90, 2, .istore 6, .istore 6, 0, 0), (92, 1, .iconst 0, .iconst 0, 0, 0), (93, 2, .istore 7, .istore 7, 0, 0), (95, 1, .iconst 0, .iconst 0, 0, 0), (96, 2, .istore 8, .istore 8, 0, 0), (98, 1, .aload_n 0, .aload 0, 0, 0), (99, 1, .iload_n 1, .iload 1, 0, 0), (100, 1, .iload_n 2, .iload 2, 0, 0), (101, 2, .iload 5, .iload 5, 0, 0), (103, 2, .iload 6, .iload 6, 0, 0), (105, 2, .iload 8, .iload 8, 0, 0), (107, 3, .invokevirtual 327, .invokevirtual 2281215, 7147, 327), (110, 1, .aload_n 0, .aload 0, 0, 0), (111, 3, .getfield 88, .getstatic 1241, 6009, 88), (114, 2, .bipush 9, .iconst 9, 0, 0), (116, 2, .iload 5, .iload 5, 0, 0), (118, 1, .imul, .imul, 0, 0), (119, 2, .iload 6, .iload 6, 0, 0), (121, 1, .iadd, .iadd, 0, 0), (122, 1, .iaload, .iaload, 0, 0), (123, 3, .if_icmp .eq 12, .if_icmp .eq 77, 0, 0), (126, 2, .iload 8, .iload 8, 0, 0), (128, 1, .iconst 1, .iconst 1, 0, 0), (129, 1, .iadd, .iadd, 0, 0), (130, 2, .istore 8, .istore 8, 0, 0), (132, 3, .goto (-34), .goto 56, 0, 0), (135, 2, .iload 7, .iload 7, 0, 0), (137, 1, .iload_n 3, .iload 3, 0, 0), (138, 3, .if_icmp .ne 6, .if_icmp .ne 82, 0, 0), (141, 2, .iload 8, .iload 8, 0, 0), (143, 1, .ireturn, .ireturn, 0, 0), (144, 2, .iload 5, .iload 5, 0, 0), (146, 1, .iconst 1, .iconst 1, 0, 0), (147, 2, .iload 8, .iload 8, 0, 0), (149, 1, .ishl, .ishl, 0, 0), (150, 1, .ior, .ior, 0, 0), (151, 2, .istore 5, .istore 5, 0, 0), (153, 2, .iload 8, .iload 8, 0, 0), (155, 2, .istore 6, .istore 6, 0, 0), (157, 3, .iinc 7 1, .iinc 7 1, 0, 0), (160, 3, .goto (-65), .goto 54, 0, 0)]
set_option maxRecDepth 100000 in
def zi_233 : List Instr := [.aload 0, .iload 1, .invokevirtual 1831211, .ifCond .eq 21, .aload 0, .iload 2, .invokevirtual 2321211, .ifCond .eq 21, .iload 2, .ifCond .eq 21, .iload 3, .iconst 10, .if_icmp .eq 23, .iload 3, .iconst (-1), .iload 2, .invokestatic 1820011, .iconst 1, .isub, .invokestatic 1790013, .ifCond .ne 23, .iconst (-1), .ireturn, .aload 0, .invokevirtual 2161200, .iload 3, .iconst 10, .if_icmp .ne 33, .aload 0, .iload 1, .iload 2, .invokevirtual 2311212, .ireturn, .aload 0, .iload 1, .iload 2, .invokevirtual 2301212, .istore 4, .iload 4, .iconst 1000000000, .if_icmp .lt 43, .iconst (-2), .ireturn, .iload 3, .iconst (-1), .if_icmp .ne 48, .iload 4, .ireturn, .iconst 0, .istore 5, .iconst 8, .istore 6, .iconst 0, .istore 7, .iconst 0, .istore 8, .aload 0, .iload 1, .iload 2, .iload 5, .iload 6, .iload 8, .invokevirtual 2281215, .aload 0, .getstatic 1241, .iconst 9, .iload 5, .imul, .iload 6, .iadd, .iaload, .if_icmp .eq 77, .iload 8, .iconst 1, .iadd, .istore 8, .goto 56, .iload 7, .iload 3, .if_icmp .ne 82, .iload 8, .ireturn, .iload 5, .iconst 1, .iload 8, .ishl, .ior, .istore 5, .iload 8, .istore 6, .iinc 7 1, .goto 54]
set_option maxRecDepth 100000 in
theorem ze_233 : zc_233.map (fun e => e.2.2.2.1) = zi_233 := rfl
set_option maxRecDepth 100000 in
theorem zk_233 : zckm (zmd 233) false zc_233 zmd [179, 182, 183, 216, 228, 230, 231, 232] = true := by decide +kernel
noncomputable def zf_233 : zF := zden zX0 zi_233 (zlk [(179, zf_179), (182, zf_182), (183, zf_183), (216, zf_216), (228, zf_228), (230, zf_230), (231, zf_231), (232, zf_232)]) 9
/-- HillErrandsModel.best -/
theorem zs_233 : ∀ d, 10 ≤ d → zSnd d (zmd 233) zf_233 := by
  intro d hd
  obtain ⟨d, rfl⟩ : ∃ k, d = k + 1 := ⟨d - 1, by omega⟩
  have h := zsound (d := d) (l := [(179, zf_179), (182, zf_182), (183, zf_183), (216, zf_216), (228, zf_228), (230, zf_230), (231, zf_231), (232, zf_232)]) zo_233 (fun h => by cases h) zk_233 (fun q hq => by
    simp only [List.mem_cons, List.not_mem_nil, or_false] at hq
    rcases hq with rfl | rfl | rfl | rfl | rfl | rfl | rfl | rfl
    · exact zs_179 d (by omega)
    · exact zs_182 d (by omega)
    · exact zs_183 d (by omega)
    · exact zs_216 d (by omega)
    · exact zs_228 d (by omega)
    · exact zs_230 d (by omega)
    · exact zs_231 d (by omega)
    · exact zs_232 d (by omega))
  rw [ze_233] at h
  exact h
set_option maxRecDepth 100000 in
def zc_234 : List zE := [(0, 1, .iconst 0, .iconst 0, 0, 0), (1, 1, .istore_n 2, .istore 2, 0, 0), (2, 1, .iconst 0, .iconst 0, 0, 0), (3, 1, .istore_n 3, .istore 3, 0, 0), (4, 1, .iload_n 3, .iload 3, 0, 0), (5, 2, .bipush 8, .iconst 8, 0, 0), (7, 3, .if_icmp .ge 31, .if_icmp .ge 25, 0, 0), (10, 1, .iload_n 2, .iload 2, 0, 0), (11, 1, .iload_n 1, .iload 1, 0, 0), (12, 1, .iload_n 3, .iload 3, 0, 0), (13, 1, .ishr, .ishr, 0, 0), (14, 1, .iconst 1, .iconst 1, 0, 0), (15, 1, .iand, .iand, 0, 0), (16, 1, .iconst 1, .iconst 1, 0, 0), (17, 3, .if_icmp .ne 12, .if_icmp .ne 20, 0, 0), (20, 1, .aload_n 0, .aload 0, 0, 0), (21, 3, .getfield 85, .getstatic 1240, 6008, 85), (24, 1, .iload_n 3, .iload 3, 0, 0), (25, 1, .iaload, .iaload, 0, 0), (26, 3, .goto 4, .goto 21, 0, 0), (29, 1, .iconst 0, .iconst 0, 0, 0), (30, 1, .iadd, .iadd, 0, 0), (31, 1, .istore_n 2, .istore 2, 0, 0), (32, 3, .iinc 3 1, .iinc 3 1, 0, 0), (35, 3, .goto (-31), .goto 4, 0, 0), (38, 1, .iload_n 2, .iload 2, 0, 0), (39, 1, .ireturn, .ireturn, 0, 0)]
set_option maxRecDepth 100000 in
def zi_234 : List Instr := [.iconst 0, .istore 2, .iconst 0, .istore 3, .iload 3, .iconst 8, .if_icmp .ge 25, .iload 2, .iload 1, .iload 3, .ishr, .iconst 1, .iand, .iconst 1, .if_icmp .ne 20, .aload 0, .getstatic 1240, .iload 3, .iaload, .goto 21, .iconst 0, .iadd, .istore 2, .iinc 3 1, .goto 4, .iload 2, .ireturn]
set_option maxRecDepth 100000 in
theorem ze_234 : zc_234.map (fun e => e.2.2.2.1) = zi_234 := rfl
set_option maxRecDepth 100000 in
theorem zk_234 : zckm (zmd 234) false zc_234 zmd [] = true := by decide +kernel
noncomputable def zf_234 : zF := zden zX0 zi_234 (zlk []) 4
/-- HillErrandsModel.worthAll -/
theorem zs_234 : ∀ d, 1 ≤ d → zSnd d (zmd 234) zf_234 := by
  intro d hd
  obtain ⟨d, rfl⟩ : ∃ k, d = k + 1 := ⟨d - 1, by omega⟩
  have h := zsound (d := d) (l := []) zo_234 (fun h => by cases h) zk_234 (fun q hq => by cases hq)
  rw [ze_234] at h
  exact h
set_option maxRecDepth 100000 in
def zc_235 : List zE := [(0, 1, .aload_n 0, .aload 0, 0, 0), (1, 1, .iload_n 1, .iload 1, 0, 0), (2, 3, .invokevirtual 160, .invokevirtual 1831211, 6188, 160), (5, 3, .ifCond .eq 23, .ifCond .eq 14, 0, 0), (8, 1, .iload_n 2, .iload 2, 0, 0), (9, 1, .iconst 0, .iconst 0, 0, 0), (10, 3, .ldc_w 346, .iconst 99999, 7155, 346), (13, 3, .invokestatic 153, .invokestatic 1790013, 6181, 153), (16, 3, .ifCond .eq 12, .ifCond .eq 14, 0, 0), (19, 1, .iload_n 3, .iload 3, 0, 0), (20, 1, .iconst 0, .iconst 0, 0, 0), (21, 1, .iconst 2, .iconst 2, 0, 0), (22, 3, .invokestatic 153, .invokestatic 1790013, 6181, 153), (25, 3, .ifCond .ne 5, .ifCond .ne 16, 0, 0), (28, 1, .iconst (-1), .iconst (-1), 0, 0), (29, 1, .ireturn, .ireturn, 0, 0), (30, 1, .aload_n 0, .aload 0, 0, 0), (31, 3, .invokevirtual 309, .invokevirtual 2161200, 7074, 309), (34, 1, .iconst 0, .iconst 0, 0, 0), (35, 2, .istore 4, .istore 4, 0, 0), (37, 1, .iconst 0, .iconst 0, 0, 0), (38, 2, .istore 5, .istore 5, 0, 0), (40, 1, .iconst 1, .iconst 1, 0, 0), (41, 2, .istore 6, .istore 6, 0, 0), (43, 2, .iload 6, .iload 6, 0, 0), (45, 3, .sipush 256, .iconst 256, 0, 0), (48, 3, .if_icmp .ge 84, .if_icmp .ge 64, 0, 0), (51, 1, .aload_n 0, .aload 0, 0, 0), (52, 2, .iload 6, .iload 6, 0, 0), (54, 3, .invokevirtual 334, .invokevirtual 2321211, 7120, 334), (57, 3, .ifCond .eq 69, .ifCond .eq 62, 0, 0), (60, 1, .aload_n 0, .aload 0, 0, 0), (61, 2, .iload 6, .iload 6, 0, 0), (63, 3, .invokevirtual 347, .invokevirtual 2341211, 7156, 347), (66, 1, .aload_n 0, .aload 0, 0, 0), (67, 2, .iload 4, .iload 4, 0, 0), (69, 3, .invokevirtual 347, .invokevirtual 2341211, 7156, 347), (72, 3, .if_icmp .ge 6, .if_icmp .ge 39, 0, 0), (75, 3, .goto 51, .goto 62, 0, 0), (78, 1, .aload_n 0, .aload 0, 0, 0), (79, 1, .iload_n 1, .iload 1, 0, 0), (80, 2, .iload 6, .iload 6, 0, 0), (82, 3, .invokevirtual 343, .invokevirtual 2301212, 7131, 343), (85, 2, .istore 7, .istore 7, 0, 0), (87, 2, .iload 7, .iload 7, 0, 0), (89, 1, .iload_n 2, .iload 2, 0, 0), (90, 3, .if_icmp .gt 36, .if_icmp .gt 62, 0, 0), (93, 1, .aload_n 0, .aload 0, 0, 0), (94, 2, .iload 6, .iload 6, 0, 0), (96, 3, .invokevirtual 347, .invokevirtual 2341211, 7156, 347), (99, 1, .aload_n 0, .aload 0, 0, 0), (100, 2, .iload 4, .iload 4, 0, 0), (102, 3, .invokevirtual 347, .invokevirtual 2341211, 7156, 347), (105, 3, .if_icmp .ne 13, .if_icmp .ne 58, 0, 0), (108, 2, .iload 7, .iload 7, 0, 0), (110, 2, .iload 5, .iload 5, 0, 0), (112, 3, .if_icmp .lt 6, .if_icmp .lt 58, 0, 0), (115, 3, .goto 11, .goto 62, 0, 0), (118, 2, .iload 6, .iload 6, 0, 0), (120, 2, .istore 4, .istore 4, 0, 0), (122, 2, .iload 7, .iload 7, 0, 0), (124, 2, .istore 5, .istore 5, 0, 0), (126, 3, .iinc 6 1, .iinc 6 1, 0, 0), (129, 3, .goto (-86), .goto 24, 0, 0), (132, 1, .iload_n 3, .iload 3, 0, 0), (133, 3, .ifCond .ne 12, .ifCond .ne 70, 0, 0), (136, 1, .aload_n 0, .aload 0, 0, 0), (137, 2, .iload 4, .iload 4, 0, 0), (139, 3, .invokevirtual 347, .invokevirtual 2341211, 7156, 347), (142, 3, .goto 15, .goto 76, 0, 0), (145, 1, .iload_n 3, .iload 3, 0, 0), (146, 1, .iconst 1, .iconst 1, 0, 0), (147, 3, .if_icmp .ne 8, .if_icmp .ne 75, 0, 0), (150, 2, .iload 4, .iload 4, 0, 0), (152, 3, .goto 5, .goto 76, 0, 0), (155, 2, .iload 5, .iload 5, 0, 0), (157, 1, .ireturn, .ireturn, 0, 0)]
set_option maxRecDepth 100000 in
def zi_235 : List Instr := [.aload 0, .iload 1, .invokevirtual 1831211, .ifCond .eq 14, .iload 2, .iconst 0, .iconst 99999, .invokestatic 1790013, .ifCond .eq 14, .iload 3, .iconst 0, .iconst 2, .invokestatic 1790013, .ifCond .ne 16, .iconst (-1), .ireturn, .aload 0, .invokevirtual 2161200, .iconst 0, .istore 4, .iconst 0, .istore 5, .iconst 1, .istore 6, .iload 6, .iconst 256, .if_icmp .ge 64, .aload 0, .iload 6, .invokevirtual 2321211, .ifCond .eq 62, .aload 0, .iload 6, .invokevirtual 2341211, .aload 0, .iload 4, .invokevirtual 2341211, .if_icmp .ge 39, .goto 62, .aload 0, .iload 1, .iload 6, .invokevirtual 2301212, .istore 7, .iload 7, .iload 2, .if_icmp .gt 62, .aload 0, .iload 6, .invokevirtual 2341211, .aload 0, .iload 4, .invokevirtual 2341211, .if_icmp .ne 58, .iload 7, .iload 5, .if_icmp .lt 58, .goto 62, .iload 6, .istore 4, .iload 7, .istore 5, .iinc 6 1, .goto 24, .iload 3, .ifCond .ne 70, .aload 0, .iload 4, .invokevirtual 2341211, .goto 76, .iload 3, .iconst 1, .if_icmp .ne 75, .iload 4, .goto 76, .iload 5, .ireturn]
set_option maxRecDepth 100000 in
theorem ze_235 : zc_235.map (fun e => e.2.2.2.1) = zi_235 := rfl
set_option maxRecDepth 100000 in
theorem zk_235 : zckm (zmd 235) false zc_235 zmd [179, 183, 216, 230, 232, 234] = true := by decide +kernel
noncomputable def zf_235 : zF := zden zX0 zi_235 (zlk [(179, zf_179), (183, zf_183), (216, zf_216), (230, zf_230), (232, zf_232), (234, zf_234)]) 8
/-- HillErrandsModel.day -/
theorem zs_235 : ∀ d, 10 ≤ d → zSnd d (zmd 235) zf_235 := by
  intro d hd
  obtain ⟨d, rfl⟩ : ∃ k, d = k + 1 := ⟨d - 1, by omega⟩
  have h := zsound (d := d) (l := [(179, zf_179), (183, zf_183), (216, zf_216), (230, zf_230), (232, zf_232), (234, zf_234)]) zo_235 (fun h => by cases h) zk_235 (fun q hq => by
    simp only [List.mem_cons, List.not_mem_nil, or_false] at hq
    rcases hq with rfl | rfl | rfl | rfl | rfl | rfl
    · exact zs_179 d (by omega)
    · exact zs_183 d (by omega)
    · exact zs_216 d (by omega)
    · exact zs_230 d (by omega)
    · exact zs_232 d (by omega)
    · exact zs_234 d (by omega))
  rw [ze_235] at h
  exact h
set_option maxRecDepth 100000 in
def zc_236 : List zE := [(0, 1, .iload_n 1, .iload 1, 0, 0), (1, 3, .ifCond .lt 15, .ifCond .lt 8, 0, 0), (4, 1, .iload_n 1, .iload 1, 0, 0), (5, 1, .aload_n 0, .aload 0, 0, 0), (6, 3, .getfield 350, .getfield 1242, 6010, 350), (9, 3, .if_icmp .ge 7, .if_icmp .ge 8, 0, 0), (12, 1, .iconst 1, .iconst 1, 0, 0), (13, 3, .goto 4, .goto 9, 0, 0), (16, 1, .iconst 0, .iconst 0, 0, 0), (17, 1, .ireturn, .lreturn, 0, 0)]
set_option maxRecDepth 100000 in
def zi_236 : List Instr := [.iload 1, .ifCond .lt 8, .iload 1, .aload 0, .getfield 1242, .if_icmp .ge 8, .iconst 1, .goto 9, .iconst 0, .lreturn]
set_option maxRecDepth 100000 in
theorem ze_236 : zc_236.map (fun e => e.2.2.2.1) = zi_236 := rfl
set_option maxRecDepth 100000 in
theorem zk_236 : zckm (zmd 236) false zc_236 zmd [] = true := by decide +kernel
noncomputable def zf_236 : zF := zden zX0 zi_236 (zlk []) 2
/-- HillErrandsModel.isPerson -/
theorem zs_236 : ∀ d, 1 ≤ d → zSnd d (zmd 236) zf_236 := by
  intro d hd
  obtain ⟨d, rfl⟩ : ∃ k, d = k + 1 := ⟨d - 1, by omega⟩
  have h := zsound (d := d) (l := []) zo_236 (fun h => by cases h) zk_236 (fun q hq => by cases hq)
  rw [ze_236] at h
  exact h
set_option maxRecDepth 100000 in
def zc_237 : List zE := [(0, 1, .iload_n 1, .iload 1, 0, 0), (1, 3, .ifCond .lt 25, .ifCond .lt 15, 0, 0), (4, 1, .iload_n 1, .iload 1, 0, 0), (5, 2, .bipush 8, .iconst 8, 0, 0), (7, 3, .if_icmp .ge 19, .if_icmp .ge 15, 0, 0), (10, 1, .aload_n 0, .aload 0, 0, 0), (11, 3, .getfield 353, .getfield 1243, 6011, 353), (14, 1, .iload_n 1, .iload 1, 0, 0), (15, 1, .ishr, .ishr, 0, 0), (16, 1, .iconst 1, .iconst 1, 0, 0), (17, 1, .iand, .iand, 0, 0), (18, 1, .iconst 1, .iconst 1, 0, 0), (19, 3, .if_icmp .ne 7, .if_icmp .ne 15, 0, 0), (22, 1, .iconst 1, .iconst 1, 0, 0), (23, 3, .goto 4, .goto 16, 0, 0), (26, 1, .iconst 0, .iconst 0, 0, 0), (27, 1, .ireturn, .lreturn, 0, 0)]
set_option maxRecDepth 100000 in
def zi_237 : List Instr := [.iload 1, .ifCond .lt 15, .iload 1, .iconst 8, .if_icmp .ge 15, .aload 0, .getfield 1243, .iload 1, .ishr, .iconst 1, .iand, .iconst 1, .if_icmp .ne 15, .iconst 1, .goto 16, .iconst 0, .lreturn]
set_option maxRecDepth 100000 in
theorem ze_237 : zc_237.map (fun e => e.2.2.2.1) = zi_237 := rfl
set_option maxRecDepth 100000 in
theorem zk_237 : zckm (zmd 237) false zc_237 zmd [] = true := by decide +kernel
noncomputable def zf_237 : zF := zden zX0 zi_237 (zlk []) 2
/-- HillErrandsModel.isThing -/
theorem zs_237 : ∀ d, 1 ≤ d → zSnd d (zmd 237) zf_237 := by
  intro d hd
  obtain ⟨d, rfl⟩ : ∃ k, d = k + 1 := ⟨d - 1, by omega⟩
  have h := zsound (d := d) (l := []) zo_237 (fun h => by cases h) zk_237 (fun q hq => by cases hq)
  rw [ze_237] at h
  exact h
set_option maxRecDepth 100000 in
def zc_238 : List zE := [(0, 1, .aload_n 0, .aload 0, 0, 0), (1, 1, .iload_n 1, .iload 1, 0, 0), (2, 3, .invokevirtual 160, .invokevirtual 1831211, 6188, 160), (5, 3, .ifCond .eq 30, .ifCond .eq 17, 0, 0), (8, 1, .aload_n 0, .aload 0, 0, 0), (9, 1, .iload_n 2, .iload 2, 0, 0), (10, 3, .invokevirtual 160, .invokevirtual 1831211, 6188, 160), (13, 3, .ifCond .eq 22, .ifCond .eq 17, 0, 0), (16, 1, .iload_n 3, .iload 3, 0, 0), (17, 1, .iconst 0, .iconst 0, 0, 0), (18, 2, .bipush 99, .iconst 99, 0, 0), (20, 3, .invokestatic 153, .invokestatic 1790013, 6181, 153), (23, 3, .ifCond .eq 12, .ifCond .eq 17, 0, 0), (26, 1, .aload_n 0, .aload 0, 0, 0), (27, 3, .getfield 350, .getfield 1242, 6010, 350), (30, 2, .bipush 8, .iconst 8, 0, 0), (32, 3, .if_icmp .ne 5, .if_icmp .ne 19, 0, 0), (35, 1, .iconst (-1), .iconst (-1), 0, 0), (36, 1, .ireturn, .ireturn, 0, 0), (37, 1, .aload_n 0, .aload 0, 0, 0), (38, 3, .getfield 91, .getstatic 1244, 6012, 91), (41, 1, .aload_n 0, .aload 0, 0, 0), (42, 3, .getfield 350, .getfield 1242, 6010, 350), (45, 1, .iload_n 1, .iload 1, 0, 0), (46, 1, .iastore, .iastore, 0, 0), (47, 1, .aload_n 0, .aload 0, 0, 0), (48, 3, .getfield 94, .getstatic 1245, 6013, 94), (51, 1, .aload_n 0, .aload 0, 0, 0), (52, 3, .getfield 350, .getfield 1242, 6010, 350), (55, 1, .iload_n 2, .iload 2, 0, 0), (56, 1, .iastore, .iastore, 0, 0), (57, 1, .aload_n 0, .aload 0, 0, 0), (58, 3, .getfield 97, .getstatic 1246, 6014, 97), (61, 1, .aload_n 0, .aload 0, 0, 0), (62, 3, .getfield 350, .getfield 1242, 6010, 350), (65, 1, .iload_n 3, .iload 3, 0, 0), (66, 1, .iastore, .iastore, 0, 0), (67, 1, .aload_n 0, .aload 0, 0, 0), (68, 1, .aload_n 0, .aload 0, 0, 0), (69, 3, .getfield 350, .getfield 1242, 6010, 350), (72, 1, .iconst 1, .iconst 1, 0, 0), (73, 1, .iadd, .iadd, 0, 0), (74, 3, .putfield 350, .putfield 1242, 6010, 350), (77, 1, .aload_n 0, .aload 0, 0, 0), (78, 3, .getfield 350, .getfield 1242, 6010, 350), (81, 1, .iconst 1, .iconst 1, 0, 0), (82, 1, .isub, .isub, 0, 0), (83, 1, .ireturn, .ireturn, 0, 0)]
set_option maxRecDepth 100000 in
def zi_238 : List Instr := [.aload 0, .iload 1, .invokevirtual 1831211, .ifCond .eq 17, .aload 0, .iload 2, .invokevirtual 1831211, .ifCond .eq 17, .iload 3, .iconst 0, .iconst 99, .invokestatic 1790013, .ifCond .eq 17, .aload 0, .getfield 1242, .iconst 8, .if_icmp .ne 19, .iconst (-1), .ireturn, .aload 0, .getstatic 1244, .aload 0, .getfield 1242, .iload 1, .iastore, .aload 0, .getstatic 1245, .aload 0, .getfield 1242, .iload 2, .iastore, .aload 0, .getstatic 1246, .aload 0, .getfield 1242, .iload 3, .iastore, .aload 0, .aload 0, .getfield 1242, .iconst 1, .iadd, .putfield 1242, .aload 0, .getfield 1242, .iconst 1, .isub, .ireturn]
set_option maxRecDepth 100000 in
theorem ze_238 : zc_238.map (fun e => e.2.2.2.1) = zi_238 := rfl
set_option maxRecDepth 100000 in
theorem zk_238 : zckm (zmd 238) false zc_238 zmd [179, 183] = true := by decide +kernel
noncomputable def zf_238 : zF := zden zX0 zi_238 (zlk [(179, zf_179), (183, zf_183)]) 4
/-- HillErrandsModel.person -/
theorem zs_238 : ∀ d, 2 ≤ d → zSnd d (zmd 238) zf_238 := by
  intro d hd
  obtain ⟨d, rfl⟩ : ∃ k, d = k + 1 := ⟨d - 1, by omega⟩
  have h := zsound (d := d) (l := [(179, zf_179), (183, zf_183)]) zo_238 (fun h => by cases h) zk_238 (fun q hq => by
    simp only [List.mem_cons, List.not_mem_nil, or_false] at hq
    rcases hq with rfl | rfl
    · exact zs_179 d (by omega)
    · exact zs_183 d (by omega))
  rw [ze_238] at h
  exact h
set_option maxRecDepth 100000 in
def zc_239 : List zE := [(0, 1, .iload_n 1, .iload 1, 0, 0), (1, 1, .iconst 0, .iconst 0, 0, 0), (2, 2, .bipush 7, .iconst 7, 0, 0), (4, 3, .invokestatic 153, .invokestatic 1790013, 6181, 153), (7, 3, .ifCond .eq 30, .ifCond .eq 18, 0, 0), (10, 1, .aload_n 0, .aload 0, 0, 0), (11, 1, .iload_n 2, .iload 2, 0, 0), (12, 3, .invokevirtual 160, .invokevirtual 1831211, 6188, 160), (15, 3, .ifCond .eq 22, .ifCond .eq 18, 0, 0), (18, 1, .aload_n 0, .aload 0, 0, 0), (19, 1, .iload_n 3, .iload 3, 0, 0), (20, 3, .invokevirtual 160, .invokevirtual 1831211, 6188, 160), (23, 3, .ifCond .eq 14, .ifCond .eq 18, 0, 0), (26, 2, .iload 4, .iload 4, 0, 0), (28, 1, .iconst 0, .iconst 0, 0, 0), (29, 2, .bipush 99, .iconst 99, 0, 0), (31, 3, .invokestatic 153, .invokestatic 1790013, 6181, 153), (34, 3, .ifCond .ne 5, .ifCond .ne 20, 0, 0), (37, 1, .iconst 0, .iconst 0, 0, 0), (38, 1, .ireturn, .lreturn, 0, 0), (39, 1, .aload_n 0, .aload 0, 0, 0), (40, 3, .getfield 100, .getstatic 1247, 6015, 100), (43, 1, .iload_n 1, .iload 1, 0, 0), (44, 1, .iload_n 2, .iload 2, 0, 0), (45, 1, .iastore, .iastore, 0, 0), (46, 1, .aload_n 0, .aload 0, 0, 0), (47, 3, .getfield 103, .getstatic 1248, 6016, 103), (50, 1, .iload_n 1, .iload 1, 0, 0), (51, 1, .iload_n 3, .iload 3, 0, 0), (52, 1, .iastore, .iastore, 0, 0), (53, 1, .aload_n 0, .aload 0, 0, 0), (54, 3, .getfield 106, .getstatic 1249, 6017, 106), (57, 1, .iload_n 1, .iload 1, 0, 0), (58, 2, .iload 4, .iload 4, 0, 0), (60, 1, .iastore, .iastore, 0, 0), (61, 1, .aload_n 0, .aload 0, 0, 0), (62, 1, .aload_n 0, .aload 0, 0, 0), (63, 3, .getfield 353, .getfield 1243, 6011, 353), (66, 1, .iconst 1, .iconst 1, 0, 0), (67, 1, .iload_n 1, .iload 1, 0, 0), (68, 1, .ishl, .ishl, 0, 0), (69, 1, .ior, .ior, 0, 0), (70, 3, .putfield 353, .putfield 1243, 6011, 353), (73, 1, .iconst 1, .iconst 1, 0, 0), (74, 1, .ireturn, .lreturn, 0, 0)]
set_option maxRecDepth 100000 in
def zi_239 : List Instr := [.iload 1, .iconst 0, .iconst 7, .invokestatic 1790013, .ifCond .eq 18, .aload 0, .iload 2, .invokevirtual 1831211, .ifCond .eq 18, .aload 0, .iload 3, .invokevirtual 1831211, .ifCond .eq 18, .iload 4, .iconst 0, .iconst 99, .invokestatic 1790013, .ifCond .ne 20, .iconst 0, .lreturn, .aload 0, .getstatic 1247, .iload 1, .iload 2, .iastore, .aload 0, .getstatic 1248, .iload 1, .iload 3, .iastore, .aload 0, .getstatic 1249, .iload 1, .iload 4, .iastore, .aload 0, .aload 0, .getfield 1243, .iconst 1, .iload 1, .ishl, .ior, .putfield 1243, .iconst 1, .lreturn]
set_option maxRecDepth 100000 in
theorem ze_239 : zc_239.map (fun e => e.2.2.2.1) = zi_239 := rfl
set_option maxRecDepth 100000 in
theorem zk_239 : zckm (zmd 239) false zc_239 zmd [179, 183] = true := by decide +kernel
noncomputable def zf_239 : zF := zden zX0 zi_239 (zlk [(179, zf_179), (183, zf_183)]) 5
/-- HillErrandsModel.thing -/
theorem zs_239 : ∀ d, 2 ≤ d → zSnd d (zmd 239) zf_239 := by
  intro d hd
  obtain ⟨d, rfl⟩ : ∃ k, d = k + 1 := ⟨d - 1, by omega⟩
  have h := zsound (d := d) (l := [(179, zf_179), (183, zf_183)]) zo_239 (fun h => by cases h) zk_239 (fun q hq => by
    simp only [List.mem_cons, List.not_mem_nil, or_false] at hq
    rcases hq with rfl | rfl
    · exact zs_179 d (by omega)
    · exact zs_183 d (by omega))
  rw [ze_239] at h
  exact h
set_option maxRecDepth 100000 in
def zc_240 : List zE := [(0, 1, .aload_n 0, .aload 0, 0, 0), (1, 1, .aload_n 0, .aload 0, 0, 0), (2, 3, .getfield 91, .getstatic 1244, 6012, 91), (5, 1, .iload_n 1, .iload 1, 0, 0), (6, 1, .iaload, .iaload, 0, 0), (7, 1, .aload_n 0, .aload 0, 0, 0), (8, 3, .getfield 94, .getstatic 1245, 6013, 94), (11, 1, .iload_n 1, .iload 1, 0, 0), (12, 1, .iaload, .iaload, 0, 0), (13, 1, .iconst 0, .iconst 0, 0, 0), (14, 3, .invokevirtual 318, .invokevirtual 2201213, 7112, 318), (17, 1, .istore_n 3, .istore 3, 0, 0), (18, 1, .aload_n 0, .aload 0, 0, 0), (19, 1, .aload_n 0, .aload 0, 0, 0), (20, 3, .getfield 91, .getstatic 1244, 6012, 91), (23, 1, .iload_n 1, .iload 1, 0, 0), (24, 1, .iaload, .iaload, 0, 0), (25, 1, .aload_n 0, .aload 0, 0, 0), (26, 3, .getfield 100, .getstatic 1247, 6015, 100), (29, 1, .iload_n 2, .iload 2, 0, 0), (30, 1, .iaload, .iaload, 0, 0), (31, 1, .iconst 0, .iconst 0, 0, 0), (32, 3, .invokevirtual 318, .invokevirtual 2201213, 7112, 318), (35, 1, .aload_n 0, .aload 0, 0, 0), (36, 1, .aload_n 0, .aload 0, 0, 0), (37, 3, .getfield 100, .getstatic 1247, 6015, 100), (40, 1, .iload_n 2, .iload 2, 0, 0), (41, 1, .iaload, .iaload, 0, 0), (42, 1, .aload_n 0, .aload 0, 0, 0), (43, 3, .getfield 103, .getstatic 1248, 6016, 103), (46, 1, .iload_n 2, .iload 2, 0, 0), (47, 1, .iaload, .iaload, 0, 0), (48, 1, .aload_n 0, .aload 0, 0, 0), (49, 3, .getfield 106, .getstatic 1249, 6017, 106), (52, 1, .iload_n 2, .iload 2, 0, 0), (53, 1, .iaload, .iaload, 0, 0), (54, 3, .invokevirtual 318, .invokevirtual 2201213, 7112, 318), (57, 1, .aload_n 0, .aload 0, 0, 0), (58, 1, .aload_n 0, .aload 0, 0, 0), (59, 3, .getfield 103, .getstatic 1248, 6016, 103), (62, 1, .iload_n 2, .iload 2, 0, 0), (63, 1, .iaload, .iaload, 0, 0), (64, 1, .aload_n 0, .aload 0, 0, 0), (65, 3, .getfield 94, .getstatic 1245, 6013, 94), (68, 1, .iload_n 1, .iload 1, 0, 0), (69, 1, .iaload, .iaload, 0, 0), (70, 1, .iconst 0, .iconst 0, 0, 0), (71, 3, .invokevirtual 318, .invokevirtual 2201213, 7112, 318), (74, 3, .invokestatic 294, .invokestatic 1800012, 7093, 294), (77, 3, .invokestatic 294, .invokestatic 1800012, 7093, 294), (80, 2, .istore 4, .istore 4, 0, 0), (82, 1, .iload_n 3, .iload 3, 0, 0), (83, 2, .ldc 149, .iconst 1000000000, 7062, 149), (85, 3, .if_icmp .ge 10, .if_icmp .ge 57, 0, 0), (88, 2, .iload 4, .iload 4, 0, 0), (90, 2, .ldc 149, .iconst 1000000000, 7062, 149), (92, 3, .if_icmp .lt 8, .if_icmp .lt 59, 0, 0), (95, 2, .ldc 149, .iconst 1000000000, 7062, 149), (97, 3, .goto 7, .goto 62, 0, 0), (100, 2, .iload 4, .iload 4, 0, 0), (102, 1, .iload_n 3, .iload 3, 0, 0), (103, 1, .isub, .isub, 0, 0), (104, 1, .ireturn, .ireturn, 0, 0)]
set_option maxRecDepth 100000 in
def zi_240 : List Instr := [.aload 0, .aload 0, .getstatic 1244, .iload 1, .iaload, .aload 0, .getstatic 1245, .iload 1, .iaload, .iconst 0, .invokevirtual 2201213, .istore 3, .aload 0, .aload 0, .getstatic 1244, .iload 1, .iaload, .aload 0, .getstatic 1247, .iload 2, .iaload, .iconst 0, .invokevirtual 2201213, .aload 0, .aload 0, .getstatic 1247, .iload 2, .iaload, .aload 0, .getstatic 1248, .iload 2, .iaload, .aload 0, .getstatic 1249, .iload 2, .iaload, .invokevirtual 2201213, .aload 0, .aload 0, .getstatic 1248, .iload 2, .iaload, .aload 0, .getstatic 1245, .iload 1, .iaload, .iconst 0, .invokevirtual 2201213, .invokestatic 1800012, .invokestatic 1800012, .istore 4, .iload 3, .iconst 1000000000, .if_icmp .ge 57, .iload 4, .iconst 1000000000, .if_icmp .lt 59, .iconst 1000000000, .goto 62, .iload 4, .iload 3, .isub, .ireturn]
set_option maxRecDepth 100000 in
theorem ze_240 : zc_240.map (fun e => e.2.2.2.1) = zi_240 := rfl
set_option maxRecDepth 100000 in
theorem zk_240 : zckm (zmd 240) false zc_240 zmd [180, 220] = true := by decide +kernel
noncomputable def zf_240 : zF := zden zX0 zi_240 (zlk [(180, zf_180), (220, zf_220)]) 5
/-- HillErrandsModel.takesBy -/
theorem zs_240 : ∀ d, 7 ≤ d → zSnd d (zmd 240) zf_240 := by
  intro d hd
  obtain ⟨d, rfl⟩ : ∃ k, d = k + 1 := ⟨d - 1, by omega⟩
  have h := zsound (d := d) (l := [(180, zf_180), (220, zf_220)]) zo_240 (fun h => by cases h) zk_240 (fun q hq => by
    simp only [List.mem_cons, List.not_mem_nil, or_false] at hq
    rcases hq with rfl | rfl
    · exact zs_180 d (by omega)
    · exact zs_220 d (by omega))
  rw [ze_240] at h
  exact h
set_option maxRecDepth 100000 in
def zc_241 : List zE := [(0, 1, .aload_n 0, .aload 0, 0, 0), (1, 1, .iload_n 1, .iload 1, 0, 0), (2, 3, .invokevirtual 356, .invokevirtual 2361211, 7172, 356), (5, 3, .ifCond .eq 11, .ifCond .eq 8, 0, 0), (8, 1, .aload_n 0, .aload 0, 0, 0), (9, 1, .iload_n 2, .iload 2, 0, 0), (10, 3, .invokevirtual 359, .invokevirtual 2371211, 7176, 359), (13, 3, .ifCond .ne 7, .ifCond .ne 10, 0, 0), (16, 3, .ldc_w 362, .iconst (-2000000), 7180, 362), (19, 1, .ireturn, .ireturn, 0, 0), (20, 1, .aload_n 0, .aload 0, 0, 0), (21, 3, .invokevirtual 309, .invokevirtual 2161200, 7074, 309), (24, 1, .aload_n 0, .aload 0, 0, 0), (25, 1, .iload_n 1, .iload 1, 0, 0), (26, 1, .iload_n 2, .iload 2, 0, 0), (27, 3, .invokevirtual 363, .invokevirtual 2401212, 7181, 363), (30, 1, .istore_n 3, .istore 3, 0, 0), (31, 1, .iload_n 3, .iload 3, 0, 0), (32, 2, .ldc 149, .iconst 1000000000, 7062, 149), (34, 3, .if_icmp .lt 9, .if_icmp .lt 22, 0, 0), (37, 3, .ldc_w 366, .iconst (-1000000), 7185, 366), (40, 3, .goto 4, .goto 23, 0, 0), (43, 1, .iload_n 3, .iload 3, 0, 0), (44, 1, .ireturn, .ireturn, 0, 0)]
set_option maxRecDepth 100000 in
def zi_241 : List Instr := [.aload 0, .iload 1, .invokevirtual 2361211, .ifCond .eq 8, .aload 0, .iload 2, .invokevirtual 2371211, .ifCond .ne 10, .iconst (-2000000), .ireturn, .aload 0, .invokevirtual 2161200, .aload 0, .iload 1, .iload 2, .invokevirtual 2401212, .istore 3, .iload 3, .iconst 1000000000, .if_icmp .lt 22, .iconst (-1000000), .goto 23, .iload 3, .ireturn]
set_option maxRecDepth 100000 in
theorem ze_241 : zc_241.map (fun e => e.2.2.2.1) = zi_241 := rfl
set_option maxRecDepth 100000 in
theorem zk_241 : zckm (zmd 241) false zc_241 zmd [216, 236, 237, 240] = true := by decide +kernel
noncomputable def zf_241 : zF := zden zX0 zi_241 (zlk [(216, zf_216), (236, zf_236), (237, zf_237), (240, zf_240)]) 4
/-- HillErrandsModel.brought -/
theorem zs_241 : ∀ d, 8 ≤ d → zSnd d (zmd 241) zf_241 := by
  intro d hd
  obtain ⟨d, rfl⟩ : ∃ k, d = k + 1 := ⟨d - 1, by omega⟩
  have h := zsound (d := d) (l := [(216, zf_216), (236, zf_236), (237, zf_237), (240, zf_240)]) zo_241 (fun h => by cases h) zk_241 (fun q hq => by
    simp only [List.mem_cons, List.not_mem_nil, or_false] at hq
    rcases hq with rfl | rfl | rfl | rfl
    · exact zs_216 d (by omega)
    · exact zs_236 d (by omega)
    · exact zs_237 d (by omega)
    · exact zs_240 d (by omega))
  rw [ze_241] at h
  exact h
set_option maxRecDepth 100000 in
def zc_242 : List zE := [(0, 1, .iload_n 3, .iload 3, 0, 0), (1, 2, .bipush 8, .iconst 8, 0, 0), (3, 3, .if_icmp .ne 19, .if_icmp .ne 14, 0, 0), (6, 1, .aload_n 0, .aload 0, 0, 0), (7, 3, .getfield 112, .getstatic 1251, 6019, 112), (10, 3, .sipush 256, .iconst 256, 0, 0), (13, 1, .iload_n 2, .iload 2, 0, 0), (14, 1, .iconst 1, .iconst 1, 0, 0), (15, 1, .iadd, .iadd, 0, 0), (16, 1, .imul, .imul, 0, 0), (17, 2, .iload 4, .iload 4, 0, 0), (19, 1, .iadd, .iadd, 0, 0), (20, 1, .iaload, .iaload, 0, 0), (21, 1, .ireturn, .ireturn, 0, 0), (22, 1, .iload_n 1, .iload 1, 0, 0), (23, 1, .iload_n 2, .iload 2, 0, 0), (24, 1, .ishr, .ishr, 0, 0), (25, 1, .iconst 1, .iconst 1, 0, 0), (26, 1, .iand, .iand, 0, 0), (27, 3, .ifCond .eq 37, .ifCond .eq 41, 0, 0), (30, 1, .aload_n 0, .aload 0, 0, 0), (31, 1, .iload_n 3, .iload 3, 0, 0), (32, 3, .invokevirtual 356, .invokevirtual 2361211, 7172, 356), (35, 3, .ifCond .eq 29, .ifCond .eq 41, 0, 0), (38, 2, .iload 4, .iload 4, 0, 0), (40, 1, .iload_n 3, .iload 3, 0, 0), (41, 1, .ishr, .ishr, 0, 0), (42, 1, .iconst 1, .iconst 1, 0, 0), (43, 1, .iand, .iand, 0, 0), (44, 1, .iconst 1, .iconst 1, 0, 0), (45, 3, .if_icmp .eq 19, .if_icmp .eq 41, 0, 0), (48, 1, .aload_n 0, .aload 0, 0, 0), (49, 3, .getfield 109, .getstatic 1250, 6018, 109), (52, 2, .bipush 8, .iconst 8, 0, 0), (54, 1, .iload_n 2, .iload 2, 0, 0), (55, 1, .imul, .imul, 0, 0), (56, 1, .iload_n 3, .iload 3, 0, 0), (57, 1, .iadd, .iadd, 0, 0), (58, 1, .iaload, .iaload, 0, 0), (59, 2, .ldc 149, .iconst 1000000000, 7062, 149), (61, 3, .if_icmp .lt 7, .if_icmp .lt 43, 0, 0), (64, 3, .ldc_w 367, .iconst (-1000000000), 7198, 367), (67, 1, .ireturn, .ireturn, 0, 0), (68, 3, .ldc_w 368, .iconst 20000000, 7199, 368), (71, 1, .aload_n 0, .aload 0, 0, 0), (72, 3, .getfield 109, .getstatic 1250, 6018, 109), (75, 2, .bipush 8, .iconst 8, 0, 0), (77, 1, .iload_n 2, .iload 2, 0, 0), (78, 1, .imul, .imul, 0, 0), (79, 1, .iload_n 3, .iload 3, 0, 0), (80, 1, .iadd, .iadd, 0, 0), (81, 1, .iaload, .iaload, 0, 0), (82, 1, .isub, .isub, 0, 0), (83, 1, .aload_n 0, .aload 0, 0, 0), (84, 3, .getfield 112, .getstatic 1251, 6019, 112), (87, 3, .sipush 256, .iconst 256, 0, 0), (90, 1, .iload_n 2, .iload 2, 0, 0), (91, 1, .iconst 1, .iconst 1, 0, 0), (92, 1, .iadd, .iadd, 0, 0), (93, 1, .imul, .imul, 0, 0), (94, 2, .iload 4, .iload 4, 0, 0), (96, 1, .iconst 1, .iconst 1, 0, 0), (97, 1, .iload_n 3, .iload 3, 0, 0), (98, 1, .ishl, .ishl, 0, 0), (99, 1, .ior, .ior, 0, 0), (100, 1, .iadd, .iadd, 0, 0), (101, 1, .iaload, .iaload, 0, 0), (102, 1, .iadd, .iadd, 0, 0), (103, 1, .ireturn, .ireturn, 0, 0)]
set_option maxRecDepth 100000 in
def zi_242 : List Instr := [.iload 3, .iconst 8, .if_icmp .ne 14, .aload 0, .getstatic 1251, .iconst 256, .iload 2, .iconst 1, .iadd, .imul, .iload 4, .iadd, .iaload, .ireturn, .iload 1, .iload 2, .ishr, .iconst 1, .iand, .ifCond .eq 41, .aload 0, .iload 3, .invokevirtual 2361211, .ifCond .eq 41, .iload 4, .iload 3, .ishr, .iconst 1, .iand, .iconst 1, .if_icmp .eq 41, .aload 0, .getstatic 1250, .iconst 8, .iload 2, .imul, .iload 3, .iadd, .iaload, .iconst 1000000000, .if_icmp .lt 43, .iconst (-1000000000), .ireturn, .iconst 20000000, .aload 0, .getstatic 1250, .iconst 8, .iload 2, .imul, .iload 3, .iadd, .iaload, .isub, .aload 0, .getstatic 1251, .iconst 256, .iload 2, .iconst 1, .iadd, .imul, .iload 4, .iconst 1, .iload 3, .ishl, .ior, .iadd, .iaload, .iadd, .ireturn]
set_option maxRecDepth 100000 in
theorem ze_242 : zc_242.map (fun e => e.2.2.2.1) = zi_242 := rfl
set_option maxRecDepth 100000 in
theorem zk_242 : zckm (zmd 242) false zc_242 zmd [236] = true := by decide +kernel
noncomputable def zf_242 : zF := zden zX0 zi_242 (zlk [(236, zf_236)]) 5
/-- HillErrandsModel.sentBy -/
theorem zs_242 : ∀ d, 2 ≤ d → zSnd d (zmd 242) zf_242 := by
  intro d hd
  obtain ⟨d, rfl⟩ : ∃ k, d = k + 1 := ⟨d - 1, by omega⟩
  have h := zsound (d := d) (l := [(236, zf_236)]) zo_242 (fun h => by cases h) zk_242 (fun q hq => by
    simp only [List.mem_cons, List.not_mem_nil, or_false] at hq
    subst hq
    · exact zs_236 d (by omega))
  rw [ze_242] at h
  exact h
set_option maxRecDepth 100000 in
def zc_243 : List zE := [(0, 1, .iconst 0, .iconst 0, 0, 0), (1, 1, .istore_n 2, .istore 2, 0, 0), (2, 1, .iload_n 2, .iload 2, 0, 0), (3, 2, .bipush 8, .iconst 8, 0, 0), (5, 3, .if_icmp .ge 56, .if_icmp .ge 36, 0, 0), (8, 1, .iconst 0, .iconst 0, 0, 0), (9, 1, .istore_n 3, .istore 3, 0, 0), (10, 1, .iload_n 3, .iload 3, 0, 0), (11, 1, .aload_n 0, .aload 0, 0, 0), (12, 3, .getfield 350, .getfield 1242, 6010, 350), (15, 3, .if_icmp .ge 40, .if_icmp .ge 34, 0, 0), (18, 1, .aload_n 0, .aload 0, 0, 0), (19, 3, .getfield 109, .getstatic 1250, 6018, 109), (22, 2, .bipush 8, .iconst 8, 0, 0), (24, 1, .iload_n 2, .iload 2, 0, 0), (25, 1, .imul, .imul, 0, 0), (26, 1, .iload_n 3, .iload 3, 0, 0), (27, 1, .iadd, .iadd, 0, 0), (28, 1, .iload_n 1, .iload 1, 0, 0), (29, 1, .iload_n 2, .iload 2, 0, 0), (30, 1, .ishr, .ishr, 0, 0), (31, 1, .iconst 1, .iconst 1, 0, 0), (32, 1, .iand, .iand, 0, 0), (33, 1, .iconst 1, .iconst 1, 0, 0), (34, 3, .if_icmp .ne 12, .if_icmp .ne 30, 0, 0), (37, 1, .aload_n 0, .aload 0, 0, 0), (38, 1, .iload_n 3, .iload 3, 0, 0), (39, 1, .iload_n 2, .iload 2, 0, 0), (40, 3, .invokevirtual 363, .invokevirtual 2401212, 7181, 363), (43, 3, .goto 5, .goto 31, 0, 0), (46, 2, .ldc 149, .iconst 1000000000, 7062, 149), (48, 1, .iastore, .iastore, 0, 0), (49, 3, .iinc 3 1, .iinc 3 1, 0, 0), (52, 3, .goto (-42), .goto 7, 0, 0), (55, 3, .iinc 2 1, .iinc 2 1, 0, 0), (58, 3, .goto (-56), .goto 2, 0, 0), (61, 1, .iconst 0, .iconst 0, 0, 0), (62, 1, .istore_n 2, .istore 2, 0, 0), (63, 1, .iload_n 2, .iload 2, 0, 0), (64, 3, .sipush 256, .iconst 256, 0, 0), (67, 3, .if_icmp .ge 20, .if_icmp .ge 50, 0, 0), (70, 1, .aload_n 0, .aload 0, 0, 0), (71, 3, .getfield 112, .getstatic 1251, 6019, 112), (74, 3, .sipush 2048, .iconst 2048, 0, 0), (77, 1, .iload_n 2, .iload 2, 0, 0), (78, 1, .iadd, .iadd, 0, 0), (79, 1, .iconst 0, .iconst 0, 0, 0), (80, 1, .iastore, .iastore, 0, 0), (81, 3, .iinc 2 1, .iinc 2 1, 0, 0), (84, 3, .goto (-21), .goto 38, 0, 0), (87, 2, .bipush 7, .iconst 7, 0, 0), (89, 1, .istore_n 2, .istore 2, 0, 0), (90, 1, .iload_n 2, .iload 2, 0, 0), (91, 3, .ifCond .lt 97, .ifCond .lt 104, 0, 0), (94, 1, .iconst 0, .iconst 0, 0, 0), (95, 1, .istore_n 3, .istore 3, 0, 0), (96, 1, .iload_n 3, .iload 3, 0, 0), (97, 3, .sipush 256, .iconst 256, 0, 0), (100, 3, .if_icmp .ge 82, .if_icmp .ge 102, 0, 0), (103, 1, .aload_n 0, .aload 0, 0, 0), (104, 1, .iload_n 1, .iload 1, 0, 0), (105, 1, .iload_n 2, .iload 2, 0, 0), (106, 2, .bipush 8, .iconst 8, 0, 0), (108, 1, .iload_n 3, .iload 3, 0, 0), (109, 3, .invokevirtual 369, .invokevirtual 2421214, 7194, 369), (112, 2, .istore 4, .istore 4, 0, 0), (114, 1, .iconst 0, .iconst 0, 0, 0), (115, 2, .istore 5, .istore 5, 0, 0), (117, 2, .iload 5, .iload 5, 0, 0), (119, 1, .aload_n 0, .aload 0, 0, 0), (120, 3, .getfield 350, .getfield 1242, 6010, 350), (123, 3, .if_icmp .ge 39, .if_icmp .ge 91, 0, 0), (126, 1, .aload_n 0, .aload 0, 0, 0), (127, 1, .iload_n 1, .iload 1, 0, 0), (128, 1, .iload_n 2, .iload 2, 0, 0), (129, 2, .iload 5, .iload 5, 0, 0), (131, 1, .iload_n 3, .iload 3, 0, 0), (132, 3, .invokevirtual 369, .invokevirtual 2421214, 7194, 369), (135, 2, .iload 4, .iload 4, 0, 0), (137, 3, .if_icmp .le 15, .if_icmp .le 87, 0, 0), (140, 1, .aload_n 0, .aload 0, 0, 0), (141, 1, .iload_n 1, .iload 1, 0, 0), (142, 1, .iload_n 2, .iload 2, 0, 0), (143, 2, .iload 5, .iload 5, 0, 0), (145, 1, .iload_n 3, .iload 3, 0, 0), (146, 3, .invokevirtual 369, .invokevirtual 2421214, 7194, 369), (149, 3, .goto 5, .goto 88, 0, 0), (152, 2, .iload 4, .iload 4, 0, 0), (154, 2, .istore 4, .istore 4, 0, 0), (156, 3, .iinc 5 1, .iinc 5 1, 0, 0), (159, 3, .goto (-42), .goto 68, 0, 0), (162, 1, .aload_n 0, .aload 0, 0, 0), (163, 3, .getfield 112, .getstatic 1251, 6019, 112), (166, 3, .sipush 256, .iconst 256, 0, 0), (169, 1, .iload_n 2, .iload 2, 0, 0), (170, 1, .imul, .imul, 0, 0), (171, 1, .iload_n 3, .iload 3, 0, 0), (172, 1, .iadd, .iadd, 0, 0), (173, 2, .iload 4, .iload 4, 0, 0), (175, 1, .iastore, .iastore, 0, 0), (176, 3, .iinc 3 1, .iinc 3 1, 0, 0), (179, 3, .goto (-83), .goto 56, 0, 0), (182, 3, .iinc 2 (-1), .iinc 2 (-1), 0, 0), (185, 3, .goto (-95), .goto 52, 0, 0), (188, 1, .return_, .return_, 0, 0)]
set_option maxRecDepth 100000 in
def zi_243 : List Instr := [.iconst 0, .istore 2, .iload 2, .iconst 8, .if_icmp .ge 36, .iconst 0, .istore 3, .iload 3, .aload 0, .getfield 1242, .if_icmp .ge 34, .aload 0, .getstatic 1250, .iconst 8, .iload 2, .imul, .iload 3, .iadd, .iload 1, .iload 2, .ishr, .iconst 1, .iand, .iconst 1, .if_icmp .ne 30, .aload 0, .iload 3, .iload 2, .invokevirtual 2401212, .goto 31, .iconst 1000000000, .iastore, .iinc 3 1, .goto 7, .iinc 2 1, .goto 2, .iconst 0, .istore 2, .iload 2, .iconst 256, .if_icmp .ge 50, .aload 0, .getstatic 1251, .iconst 2048, .iload 2, .iadd, .iconst 0, .iastore, .iinc 2 1, .goto 38, .iconst 7, .istore 2, .iload 2, .ifCond .lt 104, .iconst 0, .istore 3, .iload 3, .iconst 256, .if_icmp .ge 102, .aload 0, .iload 1, .iload 2, .iconst 8, .iload 3, .invokevirtual 2421214, .istore 4, .iconst 0, .istore 5, .iload 5, .aload 0, .getfield 1242, .if_icmp .ge 91, .aload 0, .iload 1, .iload 2, .iload 5, .iload 3, .invokevirtual 2421214, .iload 4, .if_icmp .le 87, .aload 0, .iload 1, .iload 2, .iload 5, .iload 3, .invokevirtual 2421214, .goto 88, .iload 4, .istore 4, .iinc 5 1, .goto 68, .aload 0, .getstatic 1251, .iconst 256, .iload 2, .imul, .iload 3, .iadd, .iload 4, .iastore, .iinc 3 1, .goto 56, .iinc 2 (-1), .goto 52, .return_]
set_option maxRecDepth 100000 in
theorem ze_243 : zc_243.map (fun e => e.2.2.2.1) = zi_243 := rfl
set_option maxRecDepth 100000 in
theorem zk_243 : zckm (zmd 243) false zc_243 zmd [240, 242] = true := by decide +kernel
noncomputable def zf_243 : zF := zden zX0 zi_243 (zlk [(240, zf_240), (242, zf_242)]) 6
/-- HillErrandsModel.laysSent -/
theorem zs_243 : ∀ d, 8 ≤ d → zSnd d (zmd 243) zf_243 := by
  intro d hd
  obtain ⟨d, rfl⟩ : ∃ k, d = k + 1 := ⟨d - 1, by omega⟩
  have h := zsound (d := d) (l := [(240, zf_240), (242, zf_242)]) zo_243 (fun h => by cases h) zk_243 (fun q hq => by
    simp only [List.mem_cons, List.not_mem_nil, or_false] at hq
    rcases hq with rfl | rfl
    · exact zs_240 d (by omega)
    · exact zs_242 d (by omega))
  rw [ze_243] at h
  exact h
set_option maxRecDepth 100000 in
def zc_244 : List zE := [(0, 1, .iconst 0, .iconst 0, 0, 0), (1, 1, .istore_n 3, .istore 3, 0, 0), (2, 1, .iconst 0, .iconst 0, 0, 0), (3, 2, .istore 4, .istore 4, 0, 0), (5, 1, .iconst 0, .iconst 0, 0, 0), (6, 2, .istore 5, .istore 5, 0, 0), (8, 2, .iload 5, .iload 5, 0, 0), (10, 2, .bipush 8, .iconst 8, 0, 0), (12, 3, .if_icmp .ge 38, .if_icmp .ge 29, 0, 0), (15, 1, .aload_n 0, .aload 0, 0, 0), (16, 1, .iload_n 1, .iload 1, 0, 0), (17, 2, .iload 4, .iload 4, 0, 0), (19, 2, .iload 5, .iload 5, 0, 0), (21, 1, .iload_n 3, .iload 3, 0, 0), (22, 3, .invokevirtual 369, .invokevirtual 2421214, 7194, 369), (25, 1, .aload_n 0, .aload 0, 0, 0), (26, 3, .getfield 112, .getstatic 1251, 6019, 112), (29, 3, .sipush 256, .iconst 256, 0, 0), (32, 2, .iload 4, .iload 4, 0, 0), (34, 1, .imul, .imul, 0, 0), (35, 1, .iload_n 3, .iload 3, 0, 0), (36, 1, .iadd, .iadd, 0, 0), (37, 1, .iaload, .iaload, 0, 0), (38, 3, .if_icmp .eq 12, .if_icmp .eq 29, 0, 0), (41, 2, .iload 5, .iload 5, 0, 0), (43, 1, .iconst 1, .iconst 1, 0, 0), (44, 1, .iadd, .iadd, 0, 0), (45, 2, .istore 5, .istore 5, 0, 0), (47, 3, .goto (-39), .goto 6, 0, 0), (50, 2, .iload 4, .iload 4, 0, 0), (52, 1, .iload_n 2, .iload 2, 0, 0), (53, 3, .if_icmp .ne 6, .if_icmp .ne 34, 0, 0), (56, 2, .iload 5, .iload 5, 0, 0), (58, 1, .ireturn, .ireturn, 0, 0), (59, 2, .iload 5, .iload 5, 0, 0), (61, 2, .bipush 8, .iconst 8, 0, 0), (63, 3, .if_icmp .ne 7, .if_icmp .ne 39, 0, 0), (66, 1, .iload_n 3, .iload 3, 0, 0), (67, 3, .goto 9, .goto 44, 0, 0), (70, 1, .iload_n 3, .iload 3, 0, 0), (71, 1, .iconst 1, .iconst 1, 0, 0), (72, 2, .iload 5, .iload 5, 0, 0), (74, 1, .ishl, .ishl, 0, 0), (75, 1, .ior, .ior, 0, 0), (76, 1, .istore_n 3, .istore 3, 0, 0), (77, 3, .iinc 4 1, .iinc 4 1, 0, 0), (80, 3, .goto (-75), .goto 4, 0, 0)]
set_option maxRecDepth 100000 in
def zi_244 : List Instr := [.iconst 0, .istore 3, .iconst 0, .istore 4, .iconst 0, .istore 5, .iload 5, .iconst 8, .if_icmp .ge 29, .aload 0, .iload 1, .iload 4, .iload 5, .iload 3, .invokevirtual 2421214, .aload 0, .getstatic 1251, .iconst 256, .iload 4, .imul, .iload 3, .iadd, .iaload, .if_icmp .eq 29, .iload 5, .iconst 1, .iadd, .istore 5, .goto 6, .iload 4, .iload 2, .if_icmp .ne 34, .iload 5, .ireturn, .iload 5, .iconst 8, .if_icmp .ne 39, .iload 3, .goto 44, .iload 3, .iconst 1, .iload 5, .ishl, .ior, .istore 3, .iinc 4 1, .goto 4]
set_option maxRecDepth 100000 in
theorem ze_244 : zc_244.map (fun e => e.2.2.2.1) = zi_244 := rfl
set_option maxRecDepth 100000 in
theorem zk_244 : zckm (zmd 244) false zc_244 zmd [242] = true := by decide +kernel
noncomputable def zf_244 : zF := zden zX0 zi_244 (zlk [(242, zf_242)]) 6
/-- HillErrandsModel.bringer -/
theorem zs_244 : ∀ d, 3 ≤ d → zSnd d (zmd 244) zf_244 := by
  intro d hd
  obtain ⟨d, rfl⟩ : ∃ k, d = k + 1 := ⟨d - 1, by omega⟩
  have h := zsound (d := d) (l := [(242, zf_242)]) zo_244 (fun h => by cases h) zk_244 (fun q hq => by
    simp only [List.mem_cons, List.not_mem_nil, or_false] at hq
    subst hq
    · exact zs_242 d (by omega))
  rw [ze_244] at h
  exact h
set_option maxRecDepth 100000 in
def zc_245 : List zE := [(0, 1, .iload_n 1, .iload 1, 0, 0), (1, 1, .iconst 1, .iconst 1, 0, 0), (2, 3, .sipush 255, .iconst 255, 0, 0), (5, 3, .invokestatic 153, .invokestatic 1790013, 6181, 153), (8, 3, .ifCond .eq 30, .ifCond .eq 20, 0, 0), (11, 1, .iload_n 1, .iload 1, 0, 0), (12, 1, .aload_n 0, .aload 0, 0, 0), (13, 3, .getfield 353, .getfield 1243, 6011, 353), (16, 1, .iconst (-1), .iconst (-1), 0, 0), (17, 1, .ixor, .ixor, 0, 0), (18, 1, .iand, .iand, 0, 0), (19, 3, .ifCond .ne 19, .ifCond .ne 20, 0, 0), (22, 1, .iload_n 2, .iload 2, 0, 0), (23, 2, .bipush 10, .iconst 10, 0, 0), (25, 3, .if_icmp .eq 15, .if_icmp .eq 22, 0, 0), (28, 1, .iload_n 2, .iload 2, 0, 0), (29, 1, .iconst (-1), .iconst (-1), 0, 0), (30, 2, .bipush 7, .iconst 7, 0, 0), (32, 3, .invokestatic 153, .invokestatic 1790013, 6181, 153), (35, 3, .ifCond .ne 5, .ifCond .ne 22, 0, 0), (38, 1, .iconst (-1), .iconst (-1), 0, 0), (39, 1, .ireturn, .ireturn, 0, 0), (40, 1, .iload_n 2, .iload 2, 0, 0), (41, 1, .iconst 0, .iconst 0, 0, 0), (42, 2, .bipush 7, .iconst 7, 0, 0), (44, 3, .invokestatic 153, .invokestatic 1790013, 6181, 153), (47, 3, .ifCond .eq 14, .ifCond .eq 35, 0, 0), (50, 1, .iload_n 1, .iload 1, 0, 0), (51, 1, .iload_n 2, .iload 2, 0, 0), (52, 1, .ishr, .ishr, 0, 0), (53, 1, .iconst 1, .iconst 1, 0, 0), (54, 1, .iand, .iand, 0, 0), (55, 3, .ifCond .ne 6, .ifCond .ne 35, 0, 0), (58, 2, .bipush (-2), .iconst (-2), 0, 0), (60, 1, .ireturn, .ireturn, 0, 0), (61, 1, .aload_n 0, .aload 0, 0, 0), (62, 3, .invokevirtual 309, .invokevirtual 2161200, 7074, 309), (65, 1, .aload_n 0, .aload 0, 0, 0), (66, 1, .iload_n 1, .iload 1, 0, 0), (67, 3, .invokevirtual 373, .invokevirtual 2431201, 7190, 373), (70, 1, .iload_n 2, .iload 2, 0, 0), (71, 1, .iconst 0, .iconst 0, 0, 0), (72, 2, .bipush 7, .iconst 7, 0, 0), (74, 3, .invokestatic 153, .invokestatic 1790013, 6181, 153), (77, 3, .ifCond .eq 10, .ifCond .eq 50, 0, 0), (80, 1, .aload_n 0, .aload 0, 0, 0), (81, 1, .iload_n 1, .iload 1, 0, 0), (82, 1, .iload_n 2, .iload 2, 0, 0), (83, 3, .invokevirtual 376, .invokevirtual 2441212, 7200, 376), (86, 1, .ireturn, .ireturn, 0, 0), (87, 1, .iconst 0, .iconst 0, 0, 0), (88, 1, .istore_n 3, .istore 3, 0, 0), (89, 1, .iconst 0, .iconst 0, 0, 0), (90, 2, .istore 4, .istore 4, 0, 0), (92, 1, .iconst 0, .iconst 0, 0, 0), (93, 2, .istore 5, .istore 5, 0, 0), (95, 2, .iload 5, .iload 5, 0, 0), (97, 2, .bipush 8, .iconst 8, 0, 0), (99, 3, .if_icmp .ge 50, .if_icmp .ge 85, 0, 0), (102, 1, .aload_n 0, .aload 0, 0, 0), (103, 1, .iload_n 1, .iload 1, 0, 0), (104, 2, .iload 5, .iload 5, 0, 0), (106, 3, .invokevirtual 376, .invokevirtual 2441212, 7200, 376), (109, 2, .istore 6, .istore 6, 0, 0), (111, 2, .iload 6, .iload 6, 0, 0), (113, 2, .bipush 8, .iconst 8, 0, 0), (115, 3, .if_icmp .ne 6, .if_icmp .ne 68, 0, 0), (118, 3, .goto 25, .goto 83, 0, 0), (121, 1, .iload_n 3, .iload 3, 0, 0), (122, 1, .iconst 1, .iconst 1, 0, 0), (123, 1, .iadd, .iadd, 0, 0), (124, 1, .istore_n 3, .istore 3, 0, 0), (125, 2, .iload 4, .iload 4, 0, 0), (127, 1, .aload_n 0, .aload 0, 0, 0), (128, 3, .getfield 109, .getstatic 1250, 6018, 109), (131, 2, .bipush 8, .iconst 8, 0, 0), (133, 2, .iload 5, .iload 5, 0, 0), (135, 1, .imul, .imul, 0, 0), (136, 2, .iload 6, .iload 6, 0, 0), (138, 1, .iadd, .iadd, 0, 0), (139, 1, .iaload, .iaload, 0, 0), (140, 1, .iadd, .iadd, 0, 0), (141, 2, .istore 4, .istore 4, 0, 0), (143, 3, .iinc 5 1, .iinc 5 1, 0, 0), (146, 3, .goto (-51), .goto 56, 0, 0), (149, 1, .iload_n 2, .iload 2, 0, 0), (150, 1, .iconst (-1), .iconst (-1), 0, 0), (151, 3, .if_icmp .ne 7, .if_icmp .ne 90, 0, 0), (154, 1, .iload_n 3, .iload 3, 0, 0), (155, 3, .goto 5, .goto 91, 0, 0), (158, 2, .iload 4, .iload 4, 0, 0), (160, 1, .ireturn, .ireturn, 0, 0)]
set_option maxRecDepth 100000 in
def zi_245 : List Instr := [.iload 1, .iconst 1, .iconst 255, .invokestatic 1790013, .ifCond .eq 20, .iload 1, .aload 0, .getfield 1243, .iconst (-1), .ixor, .iand, .ifCond .ne 20, .iload 2, .iconst 10, .if_icmp .eq 22, .iload 2, .iconst (-1), .iconst 7, .invokestatic 1790013, .ifCond .ne 22, .iconst (-1), .ireturn, .iload 2, .iconst 0, .iconst 7, .invokestatic 1790013, .ifCond .eq 35, .iload 1, .iload 2, .ishr, .iconst 1, .iand, .ifCond .ne 35, .iconst (-2), .ireturn, .aload 0, .invokevirtual 2161200, .aload 0, .iload 1, .invokevirtual 2431201, .iload 2, .iconst 0, .iconst 7, .invokestatic 1790013, .ifCond .eq 50, .aload 0, .iload 1, .iload 2, .invokevirtual 2441212, .ireturn, .iconst 0, .istore 3, .iconst 0, .istore 4, .iconst 0, .istore 5, .iload 5, .iconst 8, .if_icmp .ge 85, .aload 0, .iload 1, .iload 5, .invokevirtual 2441212, .istore 6, .iload 6, .iconst 8, .if_icmp .ne 68, .goto 83, .iload 3, .iconst 1, .iadd, .istore 3, .iload 4, .aload 0, .getstatic 1250, .iconst 8, .iload 5, .imul, .iload 6, .iadd, .iaload, .iadd, .istore 4, .iinc 5 1, .goto 56, .iload 2, .iconst (-1), .if_icmp .ne 90, .iload 3, .goto 91, .iload 4, .ireturn]
set_option maxRecDepth 100000 in
theorem ze_245 : zc_245.map (fun e => e.2.2.2.1) = zi_245 := rfl
set_option maxRecDepth 100000 in
theorem zk_245 : zckm (zmd 245) false zc_245 zmd [179, 216, 243, 244] = true := by decide +kernel
noncomputable def zf_245 : zF := zden zX0 zi_245 (zlk [(179, zf_179), (216, zf_216), (243, zf_243), (244, zf_244)]) 7
/-- HillErrandsModel.sent -/
theorem zs_245 : ∀ d, 9 ≤ d → zSnd d (zmd 245) zf_245 := by
  intro d hd
  obtain ⟨d, rfl⟩ : ∃ k, d = k + 1 := ⟨d - 1, by omega⟩
  have h := zsound (d := d) (l := [(179, zf_179), (216, zf_216), (243, zf_243), (244, zf_244)]) zo_245 (fun h => by cases h) zk_245 (fun q hq => by
    simp only [List.mem_cons, List.not_mem_nil, or_false] at hq
    rcases hq with rfl | rfl | rfl | rfl
    · exact zs_179 d (by omega)
    · exact zs_216 d (by omega)
    · exact zs_243 d (by omega)
    · exact zs_244 d (by omega))
  rw [ze_245] at h
  exact h
set_option maxRecDepth 100000 in
def zc_246 : List zE := [(0, 1, .aload_n 0, .aload 0, 0, 0), (1, 1, .iload_n 1, .iload 1, 0, 0), (2, 3, .invokevirtual 160, .invokevirtual 1831211, 6188, 160), (5, 3, .ifCond .eq 13, .ifCond .eq 9, 0, 0), (8, 1, .iload_n 2, .iload 2, 0, 0), (9, 1, .iconst 0, .iconst 0, 0, 0), (10, 2, .bipush 99, .iconst 99, 0, 0), (12, 3, .invokestatic 153, .invokestatic 1790013, 6181, 153), (15, 3, .ifCond .ne 5, .ifCond .ne 11, 0, 0), (18, 1, .iconst 0, .iconst 0, 0, 0), (19, 1, .ireturn, .lreturn, 0, 0), (20, 1, .aload_n 0, .aload 0, 0, 0), (21, 3, .getfield 115, .getstatic 1252, 6020, 115), (24, 1, .iload_n 1, .iload 1, 0, 0), (25, 1, .iload_n 2, .iload 2, 0, 0), (26, 1, .iastore, .iastore, 0, 0), (27, 1, .iconst 1, .iconst 1, 0, 0), (28, 1, .ireturn, .lreturn, 0, 0)]
set_option maxRecDepth 100000 in
def zi_246 : List Instr := [.aload 0, .iload 1, .invokevirtual 1831211, .ifCond .eq 9, .iload 2, .iconst 0, .iconst 99, .invokestatic 1790013, .ifCond .ne 11, .iconst 0, .lreturn, .aload 0, .getstatic 1252, .iload 1, .iload 2, .iastore, .iconst 1, .lreturn]
set_option maxRecDepth 100000 in
theorem ze_246 : zc_246.map (fun e => e.2.2.2.1) = zi_246 := rfl
set_option maxRecDepth 100000 in
theorem zk_246 : zckm (zmd 246) false zc_246 zmd [179, 183] = true := by decide +kernel
noncomputable def zf_246 : zF := zden zX0 zi_246 (zlk [(179, zf_179), (183, zf_183)]) 3
/-- HillErrandsModel.wants -/
theorem zs_246 : ∀ d, 2 ≤ d → zSnd d (zmd 246) zf_246 := by
  intro d hd
  obtain ⟨d, rfl⟩ : ∃ k, d = k + 1 := ⟨d - 1, by omega⟩
  have h := zsound (d := d) (l := [(179, zf_179), (183, zf_183)]) zo_246 (fun h => by cases h) zk_246 (fun q hq => by
    simp only [List.mem_cons, List.not_mem_nil, or_false] at hq
    rcases hq with rfl | rfl
    · exact zs_179 d (by omega)
    · exact zs_183 d (by omega))
  rw [ze_246] at h
  exact h
