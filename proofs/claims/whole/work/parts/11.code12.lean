set_option maxRecDepth 100000 in
def zc_263 : List zE := [(0, 1, .aload_n 0, .aload 0, 0, 0), (1, 1, .iload_n 1, .iload 1, 0, 0), (2, 3, .invokevirtual 160, .invokevirtual 1831211, 6188, 160), (5, 3, .ifCond .eq 38, .ifCond .eq 20, 0, 0), (8, 1, .aload_n 0, .aload 0, 0, 0), (9, 1, .iload_n 2, .iload 2, 0, 0), (10, 3, .invokevirtual 160, .invokevirtual 1831211, 6188, 160), (13, 3, .ifCond .eq 30, .ifCond .eq 20, 0, 0), (16, 1, .iload_n 1, .iload 1, 0, 0), (17, 1, .iload_n 2, .iload 2, 0, 0), (18, 3, .if_icmp .eq 25, .if_icmp .eq 20, 0, 0), (21, 1, .iload_n 3, .iload 3, 0, 0), (22, 3, .sipush (-200), .iconst (-200), 0, 0), (25, 3, .sipush 200, .iconst 200, 0, 0), (28, 3, .invokestatic 153, .invokestatic 1790013, 6181, 153), (31, 3, .ifCond .eq 12, .ifCond .eq 20, 0, 0), (34, 1, .aload_n 0, .aload 0, 0, 0), (35, 3, .getfield 419, .getfield 1259, 6027, 419), (38, 2, .bipush 30, .iconst 30, 0, 0), (40, 3, .if_icmp .ne 5, .if_icmp .ne 22, 0, 0), (43, 1, .iconst (-1), .iconst (-1), 0, 0), (44, 1, .ireturn, .ireturn, 0, 0), (45, 1, .aload_n 0, .aload 0, 0, 0), (46, 3, .getfield 127, .getstatic 1260, 6028, 127), (49, 1, .aload_n 0, .aload 0, 0, 0), (50, 3, .getfield 419, .getfield 1259, 6027, 419), (53, 1, .iload_n 1, .iload 1, 0, 0), (54, 1, .iastore, .iastore, 0, 0), (55, 1, .aload_n 0, .aload 0, 0, 0), (56, 3, .getfield 130, .getstatic 1261, 6029, 130), (59, 1, .aload_n 0, .aload 0, 0, 0), (60, 3, .getfield 419, .getfield 1259, 6027, 419), (63, 1, .iload_n 2, .iload 2, 0, 0), (64, 1, .iastore, .iastore, 0, 0), (65, 1, .aload_n 0, .aload 0, 0, 0), (66, 3, .getfield 133, .getstatic 1262, 6030, 133), (69, 1, .aload_n 0, .aload 0, 0, 0), (70, 3, .getfield 419, .getfield 1259, 6027, 419), (73, 1, .iload_n 3, .iload 3, 0, 0), (74, 1, .iastore, .iastore, 0, 0), (75, 1, .aload_n 0, .aload 0, 0, 0), (76, 1, .aload_n 0, .aload 0, 0, 0), (77, 3, .getfield 419, .getfield 1259, 6027, 419), (80, 1, .iconst 1, .iconst 1, 0, 0), (81, 1, .iadd, .iadd, 0, 0), (82, 3, .putfield 419, .putfield 1259, 6027, 419), (85, 1, .aload_n 0, .aload 0, 0, 0), (86, 3, .getfield 419, .getfield 1259, 6027, 419), (89, 1, .ireturn, .ireturn, 0, 0)]
set_option maxRecDepth 100000 in
def zi_263 : List Instr := [.aload 0, .iload 1, .invokevirtual 1831211, .ifCond .eq 20, .aload 0, .iload 2, .invokevirtual 1831211, .ifCond .eq 20, .iload 1, .iload 2, .if_icmp .eq 20, .iload 3, .iconst (-200), .iconst 200, .invokestatic 1790013, .ifCond .eq 20, .aload 0, .getfield 1259, .iconst 30, .if_icmp .ne 22, .iconst (-1), .ireturn, .aload 0, .getstatic 1260, .aload 0, .getfield 1259, .iload 1, .iastore, .aload 0, .getstatic 1261, .aload 0, .getfield 1259, .iload 2, .iastore, .aload 0, .getstatic 1262, .aload 0, .getfield 1259, .iload 3, .iastore, .aload 0, .aload 0, .getfield 1259, .iconst 1, .iadd, .putfield 1259, .aload 0, .getfield 1259, .ireturn]
set_option maxRecDepth 100000 in
theorem ze_263 : zc_263.map (fun e => e.2.2.2.1) = zi_263 := rfl
set_option maxRecDepth 100000 in
theorem zk_263 : zckm (zmd 263) false zc_263 zmd [179, 183] = true := by decide +kernel
noncomputable def zf_263 : zF := zden zX0 zi_263 (zlk [(179, zf_179), (183, zf_183)]) 4
/-- HillErrandsModel.fare -/
theorem zs_263 : ∀ d, 2 ≤ d → zSnd d (zmd 263) zf_263 := by
  intro d hd
  obtain ⟨d, rfl⟩ : ∃ k, d = k + 1 := ⟨d - 1, by omega⟩
  have h := zsound (d := d) (l := [(179, zf_179), (183, zf_183)]) zo_263 (fun h => by cases h) zk_263 (fun q hq => by
    simp only [List.mem_cons, List.not_mem_nil, or_false] at hq
    rcases hq with rfl | rfl
    · exact zs_179 d (by omega)
    · exact zs_183 d (by omega))
  rw [ze_263] at h
  exact h
set_option maxRecDepth 100000 in
def zc_264 : List zE := [(0, 1, .aload_n 0, .aload 0, 0, 0), (1, 3, .getfield 127, .getstatic 1260, 6028, 127), (4, 1, .iload_n 1, .iload 1, 0, 0), (5, 1, .iaload, .iaload, 0, 0), (6, 1, .istore_n 2, .istore 2, 0, 0), (7, 1, .aload_n 0, .aload 0, 0, 0), (8, 3, .getfield 130, .getstatic 1261, 6029, 130), (11, 1, .iload_n 1, .iload 1, 0, 0), (12, 1, .iaload, .iaload, 0, 0), (13, 1, .istore_n 3, .istore 3, 0, 0), (14, 1, .aload_n 0, .aload 0, 0, 0), (15, 3, .getfield 136, .getstatic 1263, 6031, 136), (18, 1, .iload_n 2, .iload 2, 0, 0), (19, 1, .iaload, .iaload, 0, 0), (20, 1, .aload_n 0, .aload 0, 0, 0), (21, 3, .getfield 133, .getstatic 1262, 6030, 133), (24, 1, .iload_n 1, .iload 1, 0, 0), (25, 1, .iaload, .iaload, 0, 0), (26, 1, .iadd, .iadd, 0, 0), (27, 1, .aload_n 0, .aload 0, 0, 0), (28, 3, .getfield 136, .getstatic 1263, 6031, 136), (31, 1, .iload_n 3, .iload 3, 0, 0), (32, 1, .iaload, .iaload, 0, 0), (33, 1, .isub, .isub, 0, 0), (34, 2, .istore 4, .istore 4, 0, 0), (36, 1, .aload_n 0, .aload 0, 0, 0), (37, 3, .getfield 142, .getstatic 1265, 6033, 142), (40, 1, .iload_n 1, .iload 1, 0, 0), (41, 1, .aload_n 0, .aload 0, 0, 0), (42, 3, .getfield 139, .getstatic 1264, 6032, 139), (45, 1, .iload_n 2, .iload 2, 0, 0), (46, 1, .iaload, .iaload, 0, 0), (47, 1, .aload_n 0, .aload 0, 0, 0), (48, 3, .getfield 139, .getstatic 1264, 6032, 139), (51, 1, .iload_n 3, .iload 3, 0, 0), (52, 1, .iaload, .iaload, 0, 0), (53, 3, .if_icmp .ne 12, .if_icmp .ne 41, 0, 0), (56, 2, .iload 4, .iload 4, 0, 0), (58, 3, .ifCond .eq 7, .ifCond .eq 41, 0, 0), (61, 1, .iconst 1, .iconst 1, 0, 0), (62, 3, .goto 4, .goto 42, 0, 0), (65, 1, .iconst 0, .iconst 0, 0, 0), (66, 1, .bastore, .bastore, 0, 0), (67, 1, .aload_n 0, .aload 0, 0, 0), (68, 3, .getfield 139, .getstatic 1264, 6032, 139), (71, 1, .iload_n 2, .iload 2, 0, 0), (72, 1, .iaload, .iaload, 0, 0), (73, 1, .aload_n 0, .aload 0, 0, 0), (74, 3, .getfield 139, .getstatic 1264, 6032, 139), (77, 1, .iload_n 3, .iload 3, 0, 0), (78, 1, .iaload, .iaload, 0, 0), (79, 3, .if_icmp .ne 4, .if_icmp .ne 53, 0, 0), (82, 1, .return_, .return_, 0, 0), (83, 1, .aload_n 0, .aload 0, 0, 0), (84, 3, .getfield 139, .getstatic 1264, 6032, 139), (87, 1, .iload_n 3, .iload 3, 0, 0), (88, 1, .iaload, .iaload, 0, 0), (89, 2, .istore 5, .istore 5, 0, 0), (91, 1, .iconst 0, .iconst 0, 0, 0), (92, 2, .istore 6, .istore 6, 0, 0), (94, 2, .iload 6, .iload 6, 0, 0), (96, 2, .bipush 20, .iconst 20, 0, 0), (98, 3, .if_icmp .ge 54, .if_icmp .ge 90, 0, 0), (101, 1, .aload_n 0, .aload 0, 0, 0), (102, 3, .getfield 139, .getstatic 1264, 6032, 139), (105, 2, .iload 6, .iload 6, 0, 0), (107, 1, .iaload, .iaload, 0, 0), (108, 2, .iload 5, .iload 5, 0, 0), (110, 3, .if_icmp .eq 6, .if_icmp .eq 70, 0, 0), (113, 3, .goto 33, .goto 88, 0, 0), (116, 1, .aload_n 0, .aload 0, 0, 0), (117, 3, .getfield 139, .getstatic 1264, 6032, 139), (120, 2, .iload 6, .iload 6, 0, 0), (122, 1, .aload_n 0, .aload 0, 0, 0), (123, 3, .getfield 139, .getstatic 1264, 6032, 139), (126, 1, .iload_n 2, .iload 2, 0, 0), (127, 1, .iaload, .iaload, 0, 0), (128, 1, .iastore, .iastore, 0, 0), (129, 1, .aload_n 0, .aload 0, 0, 0), (130, 3, .getfield 136, .getstatic 1263, 6031, 136), (133, 2, .iload 6, .iload 6, 0, 0), (135, 1, .aload_n 0, .aload 0, 0, 0), (136, 3, .getfield 136, .getstatic 1263, 6031, 136), (139, 2, .iload 6, .iload 6, 0, 0), (141, 1, .iaload, .iaload, 0, 0), (142, 2, .iload 4, .iload 4, 0, 0), (144, 1, .iadd, .iadd, 0, 0), (145, 1, .iastore, .iastore, 0, 0), (146, 3, .iinc 6 1, .iinc 6 1, 0, 0), (149, 3, .goto (-55), .goto 60, 0, 0), (152, 1, .return_, .return_, 0, 0)]
set_option maxRecDepth 100000 in
def zi_264 : List Instr := [.aload 0, .getstatic 1260, .iload 1, .iaload, .istore 2, .aload 0, .getstatic 1261, .iload 1, .iaload, .istore 3, .aload 0, .getstatic 1263, .iload 2, .iaload, .aload 0, .getstatic 1262, .iload 1, .iaload, .iadd, .aload 0, .getstatic 1263, .iload 3, .iaload, .isub, .istore 4, .aload 0, .getstatic 1265, .iload 1, .aload 0, .getstatic 1264, .iload 2, .iaload, .aload 0, .getstatic 1264, .iload 3, .iaload, .if_icmp .ne 41, .iload 4, .ifCond .eq 41, .iconst 1, .goto 42, .iconst 0, .bastore, .aload 0, .getstatic 1264, .iload 2, .iaload, .aload 0, .getstatic 1264, .iload 3, .iaload, .if_icmp .ne 53, .return_, .aload 0, .getstatic 1264, .iload 3, .iaload, .istore 5, .iconst 0, .istore 6, .iload 6, .iconst 20, .if_icmp .ge 90, .aload 0, .getstatic 1264, .iload 6, .iaload, .iload 5, .if_icmp .eq 70, .goto 88, .aload 0, .getstatic 1264, .iload 6, .aload 0, .getstatic 1264, .iload 2, .iaload, .iastore, .aload 0, .getstatic 1263, .iload 6, .aload 0, .getstatic 1263, .iload 6, .iaload, .iload 4, .iadd, .iastore, .iinc 6 1, .goto 60, .return_]
set_option maxRecDepth 100000 in
theorem ze_264 : zc_264.map (fun e => e.2.2.2.1) = zi_264 := rfl
set_option maxRecDepth 100000 in
theorem zk_264 : zckm (zmd 264) false zc_264 zmd [] = true := by decide +kernel
noncomputable def zf_264 : zF := zden zX0 zi_264 (zlk []) 7
/-- HillErrandsModel.joins -/
theorem zs_264 : ∀ d, 1 ≤ d → zSnd d (zmd 264) zf_264 := by
  intro d hd
  obtain ⟨d, rfl⟩ : ∃ k, d = k + 1 := ⟨d - 1, by omega⟩
  have h := zsound (d := d) (l := []) zo_264 (fun h => by cases h) zk_264 (fun q hq => by cases hq)
  rw [ze_264] at h
  exact h
set_option maxRecDepth 100000 in
def zc_265 : List zE := [(0, 1, .iconst 0, .iconst 0, 0, 0), (1, 1, .istore_n 1, .istore 1, 0, 0), (2, 1, .iload_n 1, .iload 1, 0, 0), (3, 2, .bipush 20, .iconst 20, 0, 0), (5, 3, .if_icmp .ge 23, .if_icmp .ge 17, 0, 0), (8, 1, .aload_n 0, .aload 0, 0, 0), (9, 3, .getfield 139, .getstatic 1264, 6032, 139), (12, 1, .iload_n 1, .iload 1, 0, 0), (13, 1, .iload_n 1, .iload 1, 0, 0), (14, 1, .iastore, .iastore, 0, 0), (15, 1, .aload_n 0, .aload 0, 0, 0), (16, 3, .getfield 136, .getstatic 1263, 6031, 136), (19, 1, .iload_n 1, .iload 1, 0, 0), (20, 1, .iconst 0, .iconst 0, 0, 0), (21, 1, .iastore, .iastore, 0, 0), (22, 3, .iinc 1 1, .iinc 1 1, 0, 0), (25, 3, .goto (-23), .goto 2, 0, 0), (28, 1, .iconst 0, .iconst 0, 0, 0), (29, 1, .istore_n 1, .istore 1, 0, 0), (30, 1, .iload_n 1, .iload 1, 0, 0), (31, 1, .aload_n 0, .aload 0, 0, 0), (32, 3, .getfield 419, .getfield 1259, 6027, 419), (35, 3, .if_icmp .ge 14, .if_icmp .ge 28, 0, 0), (38, 1, .aload_n 0, .aload 0, 0, 0), (39, 1, .iload_n 1, .iload 1, 0, 0), (40, 3, .invokevirtual 422, .invokevirtual 2641201, 8044, 422), (43, 3, .iinc 1 1, .iinc 1 1, 0, 0), (46, 3, .goto (-16), .goto 19, 0, 0), (49, 1, .return_, .return_, 0, 0)]
set_option maxRecDepth 100000 in
def zi_265 : List Instr := [.iconst 0, .istore 1, .iload 1, .iconst 20, .if_icmp .ge 17, .aload 0, .getstatic 1264, .iload 1, .iload 1, .iastore, .aload 0, .getstatic 1263, .iload 1, .iconst 0, .iastore, .iinc 1 1, .goto 2, .iconst 0, .istore 1, .iload 1, .aload 0, .getfield 1259, .if_icmp .ge 28, .aload 0, .iload 1, .invokevirtual 2641201, .iinc 1 1, .goto 19, .return_]
set_option maxRecDepth 100000 in
theorem ze_265 : zc_265.map (fun e => e.2.2.2.1) = zi_265 := rfl
set_option maxRecDepth 100000 in
theorem zk_265 : zckm (zmd 265) false zc_265 zmd [264] = true := by decide +kernel
noncomputable def zf_265 : zF := zden zX0 zi_265 (zlk [(264, zf_264)]) 2
/-- HillErrandsModel.laysFares -/
theorem zs_265 : ∀ d, 2 ≤ d → zSnd d (zmd 265) zf_265 := by
  intro d hd
  obtain ⟨d, rfl⟩ : ∃ k, d = k + 1 := ⟨d - 1, by omega⟩
  have h := zsound (d := d) (l := [(264, zf_264)]) zo_265 (fun h => by cases h) zk_265 (fun q hq => by
    simp only [List.mem_cons, List.not_mem_nil, or_false] at hq
    subst hq
    · exact zs_264 d (by omega))
  rw [ze_265] at h
  exact h
set_option maxRecDepth 100000 in
def zc_266 : List zE := [(0, 1, .aload_n 0, .aload 0, 0, 0), (1, 1, .iload_n 1, .iload 1, 0, 0), (2, 3, .invokevirtual 160, .invokevirtual 1831211, 6188, 160), (5, 3, .ifCond .eq 11, .ifCond .eq 8, 0, 0), (8, 1, .aload_n 0, .aload 0, 0, 0), (9, 1, .iload_n 2, .iload 2, 0, 0), (10, 3, .invokevirtual 160, .invokevirtual 1831211, 6188, 160), (13, 3, .ifCond .ne 7, .ifCond .ne 10, 0, 0), (16, 3, .sipush (-1000), .iconst (-1000), 0, 0), (19, 1, .ireturn, .ireturn, 0, 0), (20, 1, .aload_n 0, .aload 0, 0, 0), (21, 3, .invokevirtual 425, .invokevirtual 2651200, 8040, 425), (24, 1, .aload_n 0, .aload 0, 0, 0), (25, 3, .getfield 139, .getstatic 1264, 6032, 139), (28, 1, .iload_n 1, .iload 1, 0, 0), (29, 1, .iaload, .iaload, 0, 0), (30, 1, .aload_n 0, .aload 0, 0, 0), (31, 3, .getfield 139, .getstatic 1264, 6032, 139), (34, 1, .iload_n 2, .iload 2, 0, 0), (35, 1, .iaload, .iaload, 0, 0), (36, 3, .if_icmp .ne 19, .if_icmp .ne 31, 0, 0), (39, 1, .aload_n 0, .aload 0, 0, 0), (40, 3, .getfield 136, .getstatic 1263, 6031, 136), (43, 1, .iload_n 2, .iload 2, 0, 0), (44, 1, .iaload, .iaload, 0, 0), (45, 1, .aload_n 0, .aload 0, 0, 0), (46, 3, .getfield 136, .getstatic 1263, 6031, 136), (49, 1, .iload_n 1, .iload 1, 0, 0), (50, 1, .iaload, .iaload, 0, 0), (51, 1, .isub, .isub, 0, 0), (52, 3, .goto 6, .goto 32, 0, 0), (55, 3, .sipush (-1000), .iconst (-1000), 0, 0), (58, 1, .ireturn, .ireturn, 0, 0)]
set_option maxRecDepth 100000 in
def zi_266 : List Instr := [.aload 0, .iload 1, .invokevirtual 1831211, .ifCond .eq 8, .aload 0, .iload 2, .invokevirtual 1831211, .ifCond .ne 10, .iconst (-1000), .ireturn, .aload 0, .invokevirtual 2651200, .aload 0, .getstatic 1264, .iload 1, .iaload, .aload 0, .getstatic 1264, .iload 2, .iaload, .if_icmp .ne 31, .aload 0, .getstatic 1263, .iload 2, .iaload, .aload 0, .getstatic 1263, .iload 1, .iaload, .isub, .goto 32, .iconst (-1000), .ireturn]
set_option maxRecDepth 100000 in
theorem ze_266 : zc_266.map (fun e => e.2.2.2.1) = zi_266 := rfl
set_option maxRecDepth 100000 in
theorem zk_266 : zckm (zmd 266) false zc_266 zmd [183, 265] = true := by decide +kernel
noncomputable def zf_266 : zF := zden zX0 zi_266 (zlk [(183, zf_183), (265, zf_265)]) 3
/-- HillErrandsModel.ends -/
theorem zs_266 : ∀ d, 3 ≤ d → zSnd d (zmd 266) zf_266 := by
  intro d hd
  obtain ⟨d, rfl⟩ : ∃ k, d = k + 1 := ⟨d - 1, by omega⟩
  have h := zsound (d := d) (l := [(183, zf_183), (265, zf_265)]) zo_266 (fun h => by cases h) zk_266 (fun q hq => by
    simp only [List.mem_cons, List.not_mem_nil, or_false] at hq
    rcases hq with rfl | rfl
    · exact zs_183 d (by omega)
    · exact zs_265 d (by omega))
  rw [ze_266] at h
  exact h
set_option maxRecDepth 100000 in
def zc_267 : List zE := [(0, 1, .iload_n 1, .iload 1, 0, 0), (1, 1, .iconst (-1), .iconst (-1), 0, 0), (2, 3, .if_icmp .ge 5, .if_icmp .ge 5, 0, 0), (5, 1, .iconst (-1), .iconst (-1), 0, 0), (6, 1, .ireturn, .ireturn, 0, 0), (7, 1, .aload_n 0, .aload 0, 0, 0), (8, 3, .invokevirtual 425, .invokevirtual 2651200, 8040, 425), (11, 1, .iconst 0, .iconst 0, 0, 0), (12, 1, .istore_n 2, .istore 2, 0, 0), (13, 1, .iconst 0, .iconst 0, 0, 0), (14, 1, .istore_n 3, .istore 3, 0, 0), (15, 1, .iload_n 3, .iload 3, 0, 0), (16, 1, .aload_n 0, .aload 0, 0, 0), (17, 3, .getfield 419, .getfield 1259, 6027, 419), (20, 3, .if_icmp .ge 32, .if_icmp .ge 32, 0, 0), (23, 1, .aload_n 0, .aload 0, 0, 0), (24, 3, .getfield 142, .getstatic 1265, 6033, 142), (27, 1, .iload_n 3, .iload 3, 0, 0), (28, 1, .baload, .baload, 0, 0), (29, 3, .ifCond .ne 6, .ifCond .ne 21, 0, 0), (32, 3, .goto 14, .goto 30, 0, 0), (35, 1, .iload_n 2, .iload 2, 0, 0), (36, 1, .iload_n 1, .iload 1, 0, 0), (37, 3, .if_icmp .ne 5, .if_icmp .ne 26, 0, 0), (40, 1, .iload_n 3, .iload 3, 0, 0), (41, 1, .ireturn, .ireturn, 0, 0), (42, 1, .iload_n 2, .iload 2, 0, 0), (43, 1, .iconst 1, .iconst 1, 0, 0), (44, 1, .iadd, .iadd, 0, 0), (45, 1, .istore_n 2, .istore 2, 0, 0), (46, 3, .iinc 3 1, .iinc 3 1, 0, 0), (49, 3, .goto (-34), .goto 11, 0, 0), (52, 1, .iload_n 1, .iload 1, 0, 0), (53, 1, .iconst (-1), .iconst (-1), 0, 0), (54, 3, .if_icmp .ne 7, .if_icmp .ne 37, 0, 0), (57, 1, .iload_n 2, .iload 2, 0, 0), (58, 3, .goto 4, .goto 38, 0, 0), (61, 1, .iconst (-1), .iconst (-1), 0, 0), (62, 1, .ireturn, .ireturn, 0, 0)]
set_option maxRecDepth 100000 in
def zi_267 : List Instr := [.iload 1, .iconst (-1), .if_icmp .ge 5, .iconst (-1), .ireturn, .aload 0, .invokevirtual 2651200, .iconst 0, .istore 2, .iconst 0, .istore 3, .iload 3, .aload 0, .getfield 1259, .if_icmp .ge 32, .aload 0, .getstatic 1265, .iload 3, .baload, .ifCond .ne 21, .goto 30, .iload 2, .iload 1, .if_icmp .ne 26, .iload 3, .ireturn, .iload 2, .iconst 1, .iadd, .istore 2, .iinc 3 1, .goto 11, .iload 1, .iconst (-1), .if_icmp .ne 37, .iload 2, .goto 38, .iconst (-1), .ireturn]
set_option maxRecDepth 100000 in
theorem ze_267 : zc_267.map (fun e => e.2.2.2.1) = zi_267 := rfl
set_option maxRecDepth 100000 in
theorem zk_267 : zckm (zmd 267) false zc_267 zmd [265] = true := by decide +kernel
noncomputable def zf_267 : zF := zden zX0 zi_267 (zlk [(265, zf_265)]) 4
/-- HillErrandsModel.falseFares -/
theorem zs_267 : ∀ d, 3 ≤ d → zSnd d (zmd 267) zf_267 := by
  intro d hd
  obtain ⟨d, rfl⟩ : ∃ k, d = k + 1 := ⟨d - 1, by omega⟩
  have h := zsound (d := d) (l := [(265, zf_265)]) zo_267 (fun h => by cases h) zk_267 (fun q hq => by
    simp only [List.mem_cons, List.not_mem_nil, or_false] at hq
    subst hq
    · exact zs_265 d (by omega))
  rw [ze_267] at h
  exact h
set_option maxRecDepth 100000 in
def zc_268 : List zE := [(0, 1, .iload_n 1, .iload 1, 0, 0), (1, 1, .iconst 0, .iconst 0, 0, 0), (2, 3, .ldc_w 428, .iconst 65535, 8056, 428), (5, 3, .invokestatic 153, .invokestatic 1790013, 6181, 153), (8, 3, .ifCond .ne 5, .ifCond .ne 7, 0, 0), (11, 1, .iconst 0, .iconst 0, 0, 0), (12, 1, .ireturn, .lreturn, 0, 0), (13, 1, .aload_n 0, .aload 0, 0, 0), (14, 1, .iload_n 1, .iload 1, 0, 0), (15, 3, .putfield 145, .putfield 1203, 5211, 145), (18, 1, .iconst 1, .iconst 1, 0, 0), (19, 1, .ireturn, .lreturn, 0, 0)]
set_option maxRecDepth 100000 in
def zi_268 : List Instr := [.iload 1, .iconst 0, .iconst 65535, .invokestatic 1790013, .ifCond .ne 7, .iconst 0, .lreturn, .aload 0, .iload 1, .putfield 1203, .iconst 1, .lreturn]
set_option maxRecDepth 100000 in
theorem ze_268 : zc_268.map (fun e => e.2.2.2.1) = zi_268 := rfl
set_option maxRecDepth 100000 in
theorem zk_268 : zckm (zmd 268) false zc_268 zmd [179] = true := by decide +kernel
noncomputable def zf_268 : zF := zden zX0 zi_268 (zlk [(179, zf_179)]) 2
/-- HillErrandsModel.seed -/
theorem zs_268 : ∀ d, 2 ≤ d → zSnd d (zmd 268) zf_268 := by
  intro d hd
  obtain ⟨d, rfl⟩ : ∃ k, d = k + 1 := ⟨d - 1, by omega⟩
  have h := zsound (d := d) (l := [(179, zf_179)]) zo_268 (fun h => by cases h) zk_268 (fun q hq => by
    simp only [List.mem_cons, List.not_mem_nil, or_false] at hq
    subst hq
    · exact zs_179 d (by omega))
  rw [ze_268] at h
  exact h
set_option maxRecDepth 100000 in
def zc_269 : List zE := [(0, 1, .aload_n 0, .aload 0, 0, 0), (1, 1, .iload_n 1, .iload 1, 0, 0), (2, 3, .invokevirtual 160, .invokevirtual 1831211, 6188, 160), (5, 3, .ifCond .eq 22, .ifCond .eq 14, 0, 0), (8, 1, .iload_n 2, .iload 2, 0, 0), (9, 1, .iconst 1, .iconst 1, 0, 0), (10, 2, .bipush 20, .iconst 20, 0, 0), (12, 3, .invokestatic 153, .invokestatic 1790013, 6181, 153), (15, 3, .ifCond .eq 12, .ifCond .eq 14, 0, 0), (18, 1, .iload_n 3, .iload 3, 0, 0), (19, 1, .iconst 0, .iconst 0, 0, 0), (20, 1, .iconst 1, .iconst 1, 0, 0), (21, 3, .invokestatic 153, .invokestatic 1790013, 6181, 153), (24, 3, .ifCond .ne 5, .ifCond .ne 16, 0, 0), (27, 1, .iconst (-1), .iconst (-1), 0, 0), (28, 1, .ireturn, .ireturn, 0, 0), (29, 1, .iconst 0, .iconst 0, 0, 0), (30, 2, .istore 4, .istore 4, 0, 0), (32, 1, .iconst 0, .iconst 0, 0, 0), (33, 2, .istore 5, .istore 5, 0, 0), (35, 2, .iload 5, .iload 5, 0, 0), (37, 1, .iload_n 2, .iload 2, 0, 0), (38, 3, .if_icmp .ge 61, .if_icmp .ge 55, 0, 0), (41, 1, .aload_n 0, .aload 0, 0, 0), (42, 3, .sipush 25173, .iconst 25173, 0, 0), (45, 1, .aload_n 0, .aload 0, 0, 0), (46, 3, .getfield 145, .getfield 1203, 5211, 145), (49, 1, .imul, .imul, 0, 0), (50, 3, .sipush 13849, .iconst 13849, 0, 0), (53, 1, .iadd, .iadd, 0, 0), (54, 3, .ldc_w 429, .iconst 65536, 8061, 429), (57, 1, .irem, .irem, 0, 0), (58, 3, .putfield 145, .putfield 1203, 5211, 145), (61, 1, .aload_n 0, .aload 0, 0, 0), (62, 3, .getfield 315, .getfield 1237, 6005, 315), (65, 1, .aload_n 0, .aload 0, 0, 0), (66, 3, .getfield 145, .getfield 1203, 5211, 145), (69, 2, .bipush 8, .iconst 8, 0, 0), (71, 1, .irem, .irem, 0, 0), (72, 1, .ishr, .ishr, 0, 0), (73, 1, .iconst 1, .iconst 1, 0, 0), (74, 1, .iand, .iand, 0, 0), (75, 1, .iconst 1, .iconst 1, 0, 0), (76, 3, .if_icmp .ne 17, .if_icmp .ne 53, 0, 0), (79, 2, .iload 4, .iload 4, 0, 0), (81, 1, .iconst 1, .iconst 1, 0, 0), (82, 1, .aload_n 0, .aload 0, 0, 0), (83, 3, .getfield 145, .getfield 1203, 5211, 145), (86, 2, .bipush 8, .iconst 8, 0, 0), (88, 1, .irem, .irem, 0, 0), (89, 1, .ishl, .ishl, 0, 0), (90, 1, .ixor, .ixor, 0, 0), (91, 2, .istore 4, .istore 4, 0, 0), (93, 3, .iinc 5 1, .iinc 5 1, 0, 0), (96, 3, .goto (-61), .goto 20, 0, 0), (99, 1, .iload_n 3, .iload 3, 0, 0), (100, 3, .ifCond .ne 6, .ifCond .ne 59, 0, 0), (103, 2, .iload 4, .iload 4, 0, 0), (105, 1, .ireturn, .ireturn, 0, 0), (106, 1, .aload_n 0, .aload 0, 0, 0), (107, 3, .invokevirtual 309, .invokevirtual 2161200, 7074, 309), (110, 1, .aload_n 0, .aload 0, 0, 0), (111, 1, .iload_n 1, .iload 1, 0, 0), (112, 2, .iload 4, .iload 4, 0, 0), (114, 3, .invokevirtual 343, .invokevirtual 2301212, 7131, 343), (117, 2, .istore 5, .istore 5, 0, 0), (119, 2, .iload 5, .iload 5, 0, 0), (121, 2, .ldc 149, .iconst 1000000000, 7062, 149), (123, 3, .if_icmp .lt 8, .if_icmp .lt 71, 0, 0), (126, 2, .bipush (-2), .iconst (-2), 0, 0), (128, 3, .goto 5, .goto 72, 0, 0), (131, 2, .iload 5, .iload 5, 0, 0), (133, 1, .ireturn, .ireturn, 0, 0)]
set_option maxRecDepth 100000 in
def zi_269 : List Instr := [.aload 0, .iload 1, .invokevirtual 1831211, .ifCond .eq 14, .iload 2, .iconst 1, .iconst 20, .invokestatic 1790013, .ifCond .eq 14, .iload 3, .iconst 0, .iconst 1, .invokestatic 1790013, .ifCond .ne 16, .iconst (-1), .ireturn, .iconst 0, .istore 4, .iconst 0, .istore 5, .iload 5, .iload 2, .if_icmp .ge 55, .aload 0, .iconst 25173, .aload 0, .getfield 1203, .imul, .iconst 13849, .iadd, .iconst 65536, .irem, .putfield 1203, .aload 0, .getfield 1237, .aload 0, .getfield 1203, .iconst 8, .irem, .ishr, .iconst 1, .iand, .iconst 1, .if_icmp .ne 53, .iload 4, .iconst 1, .aload 0, .getfield 1203, .iconst 8, .irem, .ishl, .ixor, .istore 4, .iinc 5 1, .goto 20, .iload 3, .ifCond .ne 59, .iload 4, .ireturn, .aload 0, .invokevirtual 2161200, .aload 0, .iload 1, .iload 4, .invokevirtual 2301212, .istore 5, .iload 5, .iconst 1000000000, .if_icmp .lt 71, .iconst (-2), .goto 72, .iload 5, .ireturn]
set_option maxRecDepth 100000 in
theorem ze_269 : zc_269.map (fun e => e.2.2.2.1) = zi_269 := rfl
set_option maxRecDepth 100000 in
theorem zk_269 : zckm (zmd 269) false zc_269 zmd [179, 183, 216, 230] = true := by decide +kernel
noncomputable def zf_269 : zF := zden zX0 zi_269 (zlk [(179, zf_179), (183, zf_183), (216, zf_216), (230, zf_230)]) 6
/-- HillErrandsModel.draw -/
theorem zs_269 : ∀ d, 10 ≤ d → zSnd d (zmd 269) zf_269 := by
  intro d hd
  obtain ⟨d, rfl⟩ : ∃ k, d = k + 1 := ⟨d - 1, by omega⟩
  have h := zsound (d := d) (l := [(179, zf_179), (183, zf_183), (216, zf_216), (230, zf_230)]) zo_269 (fun h => by cases h) zk_269 (fun q hq => by
    simp only [List.mem_cons, List.not_mem_nil, or_false] at hq
    rcases hq with rfl | rfl | rfl | rfl
    · exact zs_179 d (by omega)
    · exact zs_183 d (by omega)
    · exact zs_216 d (by omega)
    · exact zs_230 d (by omega))
  rw [ze_269] at h
  exact h
set_option maxRecDepth 100000 in
def zc_270 : List zE := [(0, 1, .aload_n 0, .aload 0, 0, 0), (1, 1, .iconst 1, .iconst 1, 0, 0), (2, 3, .putfield 430, .checkcast 1266, 6034, 430), (5, 1, .aload_n 0, .aload 0, 0, 0), (6, 1, .aload_n 0, .aload 0, 0, 0), (7, 3, .getfield 157, .getfield 1201, 5209, 157), (10, 3, .putfield 434, .putfield 1267, 6035, 434), (13, 1, .aload_n 0, .aload 0, 0, 0), (14, 1, .aload_n 0, .aload 0, 0, 0), (15, 3, .getfield 168, .getfield 1202, 5210, 168), (18, 3, .putfield 437, .putfield 1268, 6036, 437), (21, 1, .aload_n 0, .aload 0, 0, 0), (22, 3, .getfield 157, .getfield 1201, 5209, 157), (25, 1, .ireturn, .ireturn, 0, 0)]
set_option maxRecDepth 100000 in
def zi_270 : List Instr := [.aload 0, .iconst 1, .checkcast 1266, .aload 0, .aload 0, .getfield 1201, .putfield 1267, .aload 0, .aload 0, .getfield 1202, .putfield 1268, .aload 0, .getfield 1201, .ireturn]
set_option maxRecDepth 100000 in
theorem ze_270 : zc_270.map (fun e => e.2.2.2.1) = zi_270 := rfl
set_option maxRecDepth 100000 in
theorem zk_270 : zckm (zmd 270) false zc_270 zmd [] = true := by decide +kernel
noncomputable def zf_270 : zF := zden zX0 zi_270 (zlk []) 1
/-- HillErrandsModel.keep -/
theorem zs_270 : ∀ d, 1 ≤ d → zSnd d (zmd 270) zf_270 := by
  intro d hd
  obtain ⟨d, rfl⟩ : ∃ k, d = k + 1 := ⟨d - 1, by omega⟩
  have h := zsound (d := d) (l := []) zo_270 (fun h => by cases h) zk_270 (fun q hq => by cases hq)
  rw [ze_270] at h
  exact h
set_option maxRecDepth 100000 in
def zc_271 : List zE := [(0, 1, .aload_n 0, .aload 0, 0, 0), (1, 3, .getfield 430, .getfield 1266, 6034, 430), (4, 3, .ifCond .ne 5, .ifCond .ne 5, 0, 0), (7, 1, .iconst 0, .iconst 0, 0, 0), (8, 1, .ireturn, .lreturn, 0, 0), (9, 1, .aload_n 0, .aload 0, 0, 0), (10, 1, .aload_n 0, .aload 0, 0, 0), (11, 3, .getfield 434, .getfield 1267, 6035, 434), (14, 3, .putfield 157, .putfield 1201, 5209, 157), (17, 1, .aload_n 0, .aload 0, 0, 0), (18, 1, .aload_n 0, .aload 0, 0, 0), (19, 3, .getfield 437, .getfield 1268, 6036, 437), (22, 3, .putfield 168, .putfield 1202, 5210, 168), (25, 1, .iconst 1, .iconst 1, 0, 0), (26, 1, .ireturn, .lreturn, 0, 0)]
set_option maxRecDepth 100000 in
def zi_271 : List Instr := [.aload 0, .getfield 1266, .ifCond .ne 5, .iconst 0, .lreturn, .aload 0, .aload 0, .getfield 1267, .putfield 1201, .aload 0, .aload 0, .getfield 1268, .putfield 1202, .iconst 1, .lreturn]
set_option maxRecDepth 100000 in
theorem ze_271 : zc_271.map (fun e => e.2.2.2.1) = zi_271 := rfl
set_option maxRecDepth 100000 in
theorem zk_271 : zckm (zmd 271) false zc_271 zmd [] = true := by decide +kernel
noncomputable def zf_271 : zF := zden zX0 zi_271 (zlk []) 1
/-- HillErrandsModel.undo -/
theorem zs_271 : ∀ d, 1 ≤ d → zSnd d (zmd 271) zf_271 := by
  intro d hd
  obtain ⟨d, rfl⟩ : ∃ k, d = k + 1 := ⟨d - 1, by omega⟩
  have h := zsound (d := d) (l := []) zo_271 (fun h => by cases h) zk_271 (fun q hq => by cases hq)
  rw [ze_271] at h
  exact h
set_option maxRecDepth 100000 in
def zc_272 : List zE := [(0, 1, .iconst 0, .iconst 0, 0, 0), (1, 1, .istore_n 2, .istore 2, 0, 0), (2, 1, .iconst 4, .iconst 4, 0, 0), (3, 1, .iload_n 1, .iload 1, 0, 0), (4, 1, .imul, .imul, 0, 0), (5, 1, .istore_n 3, .istore 3, 0, 0), (6, 1, .iload_n 3, .iload 3, 0, 0), (7, 1, .iconst 4, .iconst 4, 0, 0), (8, 1, .iload_n 1, .iload 1, 0, 0), (9, 1, .imul, .imul, 0, 0), (10, 1, .iconst 4, .iconst 4, 0, 0), (11, 1, .iadd, .iadd, 0, 0), (12, 3, .if_icmp .ge 25, .if_icmp .ge 26, 0, 0), (15, 1, .iload_n 2, .iload 2, 0, 0), (16, 2, .bipush 8, .iconst 8, 0, 0), (18, 1, .ishl, .ishl, 0, 0), (19, 1, .aload_n 0, .aload 0, 0, 0), (20, 3, .getfield 22, .getstatic 1208, 5216, 22), (23, 1, .iload_n 3, .iload 3, 0, 0), (24, 1, .baload, .baload, 0, 0), (25, 3, .sipush 255, .iconst 255, 0, 0), (28, 1, .iand, .iand, 0, 0), (29, 1, .ior, .ior, 0, 0), (30, 1, .istore_n 2, .istore 2, 0, 0), (31, 3, .iinc 3 1, .iinc 3 1, 0, 0), (34, 3, .goto (-28), .goto 6, 0, 0), (37, 1, .iload_n 2, .iload 2, 0, 0), (38, 1, .ireturn, .ireturn, 0, 0)]
set_option maxRecDepth 100000 in
def zi_272 : List Instr := [.iconst 0, .istore 2, .iconst 4, .iload 1, .imul, .istore 3, .iload 3, .iconst 4, .iload 1, .imul, .iconst 4, .iadd, .if_icmp .ge 26, .iload 2, .iconst 8, .ishl, .aload 0, .getstatic 1208, .iload 3, .baload, .iconst 255, .iand, .ior, .istore 2, .iinc 3 1, .goto 6, .iload 2, .ireturn]
set_option maxRecDepth 100000 in
theorem ze_272 : zc_272.map (fun e => e.2.2.2.1) = zi_272 := rfl
set_option maxRecDepth 100000 in
theorem zk_272 : zckm (zmd 272) false zc_272 zmd [] = true := by decide +kernel
noncomputable def zf_272 : zF := zden zX0 zi_272 (zlk []) 4
/-- HillErrandsModel.tapeNumber -/
theorem zs_272 : ∀ d, 1 ≤ d → zSnd d (zmd 272) zf_272 := by
  intro d hd
  obtain ⟨d, rfl⟩ : ∃ k, d = k + 1 := ⟨d - 1, by omega⟩
  have h := zsound (d := d) (l := []) zo_272 (fun h => by cases h) zk_272 (fun q hq => by cases hq)
  rw [ze_272] at h
  exact h
set_option maxRecDepth 100000 in
def zc_273 : List zE := [(0, 1, .aload_n 0, .aload 0, 0, 0), (1, 1, .iload_n 1, .iload 1, 0, 0), (2, 3, .invokevirtual 160, .invokevirtual 1831211, 6188, 160), (5, 3, .ifCond .eq 17, .ifCond .eq 12, 0, 0), (8, 1, .iload_n 2, .iload 2, 0, 0), (9, 3, .ifCond .lt 13, .ifCond .lt 12, 0, 0), (12, 1, .iload_n 2, .iload 2, 0, 0), (13, 1, .aload_n 0, .aload 0, 0, 0), (14, 3, .getfield 171, .getfield 1209, 5217, 171), (17, 1, .iconst 4, .iconst 4, 0, 0), (18, 1, .idiv, .idiv, 0, 0), (19, 3, .if_icmp .le 6, .if_icmp .le 14, 0, 0), (22, 2, .bipush (-2), .iconst (-2), 0, 0), (24, 1, .ireturn, .ireturn, 0, 0), (25, 1, .aload_n 0, .aload 0, 0, 0), (26, 1, .iconst 0, .iconst 0, 0, 0), (27, 3, .putfield 171, .putfield 1209, 5217, 171), (30, 1, .aload_n 0, .aload 0, 0, 0), (31, 3, .invokevirtual 309, .invokevirtual 2161200, 7074, 309), (34, 1, .iconst 0, .iconst 0, 0, 0), (35, 1, .istore_n 3, .istore 3, 0, 0), (36, 1, .iload_n 3, .iload 3, 0, 0), (37, 1, .aload_n 0, .aload 0, 0, 0), (38, 3, .getfield 150, .getfield 1200, 5208, 150), (41, 3, .if_icmp .ge 47, .if_icmp .ge 48, 0, 0), (44, 1, .aload_n 0, .aload 0, 0, 0), (45, 1, .iload_n 1, .iload 1, 0, 0), (46, 1, .iload_n 3, .iload 3, 0, 0), (47, 1, .iconst 0, .iconst 0, 0, 0), (48, 3, .invokevirtual 318, .invokevirtual 2201213, 7112, 318), (51, 2, .istore 4, .istore 4, 0, 0), (53, 1, .iload_n 3, .iload 3, 0, 0), (54, 1, .iload_n 2, .iload 2, 0, 0), (55, 3, .if_icmp .eq 25, .if_icmp .eq 44, 0, 0), (58, 1, .aload_n 0, .aload 0, 0, 0), (59, 1, .iload_n 3, .iload 3, 0, 0), (60, 3, .invokevirtual 440, .invokevirtual 2721211, 8074, 440), (63, 2, .iload 4, .iload 4, 0, 0), (65, 2, .ldc 149, .iconst 1000000000, 7062, 149), (67, 3, .if_icmp .lt 8, .if_icmp .lt 42, 0, 0), (70, 2, .bipush (-2), .iconst (-2), 0, 0), (72, 3, .goto 5, .goto 43, 0, 0), (75, 2, .iload 4, .iload 4, 0, 0), (77, 3, .if_icmp .eq 5, .if_icmp .eq 46, 0, 0), (80, 1, .iload_n 3, .iload 3, 0, 0), (81, 1, .ireturn, .ireturn, 0, 0), (82, 3, .iinc 3 1, .iinc 3 1, 0, 0), (85, 3, .goto (-49), .goto 21, 0, 0), (88, 1, .aload_n 0, .aload 0, 0, 0), (89, 3, .getfield 150, .getfield 1200, 5208, 150), (92, 1, .iload_n 2, .iload 2, 0, 0), (93, 3, .if_icmp .ge 10, .if_icmp .ge 55, 0, 0), (96, 1, .aload_n 0, .aload 0, 0, 0), (97, 3, .getfield 150, .getfield 1200, 5208, 150), (100, 3, .goto 4, .goto 56, 0, 0), (103, 1, .iconst (-1), .iconst (-1), 0, 0), (104, 1, .ireturn, .ireturn, 0, 0)]
set_option maxRecDepth 100000 in
def zi_273 : List Instr := [.aload 0, .iload 1, .invokevirtual 1831211, .ifCond .eq 12, .iload 2, .ifCond .lt 12, .iload 2, .aload 0, .getfield 1209, .iconst 4, .idiv, .if_icmp .le 14, .iconst (-2), .ireturn, .aload 0, .iconst 0, .putfield 1209, .aload 0, .invokevirtual 2161200, .iconst 0, .istore 3, .iload 3, .aload 0, .getfield 1200, .if_icmp .ge 48, .aload 0, .iload 1, .iload 3, .iconst 0, .invokevirtual 2201213, .istore 4, .iload 3, .iload 2, .if_icmp .eq 44, .aload 0, .iload 3, .invokevirtual 2721211, .iload 4, .iconst 1000000000, .if_icmp .lt 42, .iconst (-2), .goto 43, .iload 4, .if_icmp .eq 46, .iload 3, .ireturn, .iinc 3 1, .goto 21, .aload 0, .getfield 1200, .iload 2, .if_icmp .ge 55, .aload 0, .getfield 1200, .goto 56, .iconst (-1), .ireturn]
set_option maxRecDepth 100000 in
theorem ze_273 : zc_273.map (fun e => e.2.2.2.1) = zi_273 := rfl
set_option maxRecDepth 100000 in
theorem zk_273 : zckm (zmd 273) false zc_273 zmd [183, 216, 220, 272] = true := by decide +kernel
noncomputable def zf_273 : zF := zden zX0 zi_273 (zlk [(183, zf_183), (216, zf_216), (220, zf_220), (272, zf_272)]) 5
/-- HillErrandsModel.check -/
theorem zs_273 : ∀ d, 7 ≤ d → zSnd d (zmd 273) zf_273 := by
  intro d hd
  obtain ⟨d, rfl⟩ : ∃ k, d = k + 1 := ⟨d - 1, by omega⟩
  have h := zsound (d := d) (l := [(183, zf_183), (216, zf_216), (220, zf_220), (272, zf_272)]) zo_273 (fun h => by cases h) zk_273 (fun q hq => by
    simp only [List.mem_cons, List.not_mem_nil, or_false] at hq
    rcases hq with rfl | rfl | rfl | rfl
    · exact zs_183 d (by omega)
    · exact zs_216 d (by omega)
    · exact zs_220 d (by omega)
    · exact zs_272 d (by omega))
  rw [ze_273] at h
  exact h
set_option maxRecDepth 100000 in
def zc_274 : List zE := [(0, 1, .iload_n 1, .iload 1, 0, 0), (1, 55, .tableswitch 105 0 9 #[55, 60, 65, 70, 75, 80, 85, 90, 95, 100], .tableswitch 32 0 9 #[2, 5, 8, 11, 14, 17, 20, 23, 26, 29], 0, 0), (56, 1, .aload_n 0, .aload 0, 0, 0), (57, 3, .getfield 150, .getfield 1200, 5208, 150), (60, 1, .ireturn, .ireturn, 0, 0), (61, 1, .aload_n 0, .aload 0, 0, 0), (62, 3, .getfield 157, .getfield 1201, 5209, 157), (65, 1, .ireturn, .ireturn, 0, 0), (66, 1, .aload_n 0, .aload 0, 0, 0), (67, 3, .getfield 269, .getfield 1218, 5226, 269), (70, 1, .ireturn, .ireturn, 0, 0), (71, 1, .aload_n 0, .aload 0, 0, 0), (72, 3, .getfield 171, .getfield 1209, 5217, 171), (75, 1, .ireturn, .ireturn, 0, 0), (76, 1, .aload_n 0, .aload 0, 0, 0), (77, 3, .getfield 168, .getfield 1202, 5210, 168), (80, 1, .ireturn, .ireturn, 0, 0), (81, 1, .aload_n 0, .aload 0, 0, 0), (82, 3, .getfield 315, .getfield 1237, 6005, 315), (85, 1, .ireturn, .ireturn, 0, 0), (86, 1, .aload_n 0, .aload 0, 0, 0), (87, 3, .getfield 350, .getfield 1242, 6010, 350), (90, 1, .ireturn, .ireturn, 0, 0), (91, 1, .aload_n 0, .aload 0, 0, 0), (92, 3, .getfield 353, .getfield 1243, 6011, 353), (95, 1, .ireturn, .ireturn, 0, 0), (96, 1, .aload_n 0, .aload 0, 0, 0), (97, 3, .getfield 419, .getfield 1259, 6027, 419), (100, 1, .ireturn, .ireturn, 0, 0), (101, 1, .aload_n 0, .aload 0, 0, 0), (102, 3, .getfield 145, .getfield 1203, 5211, 145), (105, 1, .ireturn, .ireturn, 0, 0), (106, 1, .iload_n 1, .iload 1, 0, 0), (107, 2, .bipush 20, .iconst 20, 0, 0), (109, 2, .bipush 19, .iconst 19, 0, 0), (111, 1, .aload_n 0, .aload 0, 0, 0), (112, 3, .getfield 150, .getfield 1200, 5208, 150), (115, 1, .iadd, .iadd, 0, 0), (116, 3, .invokestatic 153, .invokestatic 1790013, 6181, 153), (119, 3, .ifCond .eq 13, .ifCond .eq 47, 0, 0), (122, 1, .aload_n 0, .aload 0, 0, 0), (123, 3, .getfield 7, .getstatic 1204, 5212, 7), (126, 1, .iload_n 1, .iload 1, 0, 0), (127, 2, .bipush 20, .iconst 20, 0, 0), (129, 1, .isub, .isub, 0, 0), (130, 1, .iaload, .iaload, 0, 0), (131, 1, .ireturn, .ireturn, 0, 0), (132, 1, .iload_n 1, .iload 1, 0, 0), (133, 2, .bipush 40, .iconst 40, 0, 0), (135, 2, .bipush 39, .iconst 39, 0, 0), (137, 1, .aload_n 0, .aload 0, 0, 0), (138, 3, .getfield 150, .getfield 1200, 5208, 150), (141, 1, .iadd, .iadd, 0, 0), (142, 3, .invokestatic 153, .invokestatic 1790013, 6181, 153), (145, 3, .ifCond .eq 15, .ifCond .eq 62, 0, 0), (148, 1, .aload_n 0, .aload 0, 0, 0), (149, 3, .getfield 115, .getstatic 1252, 6020, 115), (152, 1, .iload_n 1, .iload 1, 0, 0), (153, 2, .bipush 40, .iconst 40, 0, 0), (155, 1, .isub, .isub, 0, 0), (156, 1, .iaload, .iaload, 0, 0), (157, 3, .goto 4, .goto 63, 0, 0), (160, 1, .iconst (-1), .iconst (-1), 0, 0), (161, 1, .ireturn, .ireturn, 0, 0)]
set_option maxRecDepth 100000 in
def zi_274 : List Instr := [.iload 1, .tableswitch 32 0 9 #[2, 5, 8, 11, 14, 17, 20, 23, 26, 29], .aload 0, .getfield 1200, .ireturn, .aload 0, .getfield 1201, .ireturn, .aload 0, .getfield 1218, .ireturn, .aload 0, .getfield 1209, .ireturn, .aload 0, .getfield 1202, .ireturn, .aload 0, .getfield 1237, .ireturn, .aload 0, .getfield 1242, .ireturn, .aload 0, .getfield 1243, .ireturn, .aload 0, .getfield 1259, .ireturn, .aload 0, .getfield 1203, .ireturn, .iload 1, .iconst 20, .iconst 19, .aload 0, .getfield 1200, .iadd, .invokestatic 1790013, .ifCond .eq 47, .aload 0, .getstatic 1204, .iload 1, .iconst 20, .isub, .iaload, .ireturn, .iload 1, .iconst 40, .iconst 39, .aload 0, .getfield 1200, .iadd, .invokestatic 1790013, .ifCond .eq 62, .aload 0, .getstatic 1252, .iload 1, .iconst 40, .isub, .iaload, .goto 63, .iconst (-1), .ireturn]
set_option maxRecDepth 100000 in
theorem ze_274 : zc_274.map (fun e => e.2.2.2.1) = zi_274 := rfl
set_option maxRecDepth 100000 in
theorem zk_274 : zckm (zmd 274) false zc_274 zmd [179] = true := by decide +kernel
noncomputable def zf_274 : zF := zden zX0 zi_274 (zlk [(179, zf_179)]) 2
/-- HillErrandsModel.count -/
theorem zs_274 : ∀ d, 2 ≤ d → zSnd d (zmd 274) zf_274 := by
  intro d hd
  obtain ⟨d, rfl⟩ : ∃ k, d = k + 1 := ⟨d - 1, by omega⟩
  have h := zsound (d := d) (l := [(179, zf_179)]) zo_274 (fun h => by cases h) zk_274 (fun q hq => by
    simp only [List.mem_cons, List.not_mem_nil, or_false] at hq
    subst hq
    · exact zs_179 d (by omega))
  rw [ze_274] at h
  exact h
