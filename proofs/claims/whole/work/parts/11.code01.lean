set_option maxRecDepth 100000 in
def zc_129 : List zE := [(0, 1, .iload_n 2, .iload 2, 0, 0), (1, 3, .ifCond .lt 17, .ifCond .lt 14, 0, 0), (4, 1, .aload_n 0, .aload 0, 0, 0), (5, 1, .iload_n 1, .iload 1, 0, 0), (6, 1, .aload_n 0, .aload 0, 0, 0), (7, 1, .iload_n 1, .iload 1, 0, 0), (8, 1, .iaload, .iaload, 0, 0), (9, 1, .iload_n 2, .iload 2, 0, 0), (10, 1, .iconst 5, .iconst 5, 0, 0), (11, 1, .ishl, .ishl, 0, 0), (12, 1, .iconst 1, .iconst 1, 0, 0), (13, 1, .iadd, .iadd, 0, 0), (14, 3, .invokestatic 83, .fsub, 3239, 83), (17, 1, .iastore, .iastore, 0, 0), (18, 1, .return_, .return_, 0, 0)]
set_option maxRecDepth 100000 in
def zi_129 : List Instr := [.iload 2, .ifCond .lt 14, .aload 0, .iload 1, .aload 0, .iload 1, .iaload, .iload 2, .iconst 5, .ishl, .iconst 1, .iadd, .fsub, .iastore, .return_]
set_option maxRecDepth 100000 in
theorem ze_129 : zc_129.map (fun e => e.2.2.2.1) = zi_129 := rfl
set_option maxRecDepth 100000 in
theorem zk_129 : zckm (zmd 129) false zc_129 zmd [] = true := by decide +kernel
noncomputable def zf_129 : zF := zden zX0 zi_129 (zlk []) 3
/-- HillErrands$Ways.lower -/
theorem zs_129 : ∀ d, 1 ≤ d → zSnd d (zmd 129) zf_129 := by
  intro d hd
  obtain ⟨d, rfl⟩ : ∃ k, d = k + 1 := ⟨d - 1, by omega⟩
  have h := zsound (d := d) (l := []) zo_129 (fun h => by cases h) zk_129 (fun q hq => by cases hq)
  rw [ze_129] at h
  exact h
set_option maxRecDepth 100000 in
def zc_128 : List zE := [(0, 1, .iconst 0, .iconst 0, 0, 0), (1, 1, .istore_n 3, .istore 3, 0, 0), (2, 1, .iload_n 3, .iload 3, 0, 0), (3, 3, .sipush 400, .iconst 400, 0, 0), (6, 3, .if_icmp .ge 25, .if_icmp .ge 17, 0, 0), (9, 1, .aload_n 1, .aload 1, 0, 0), (10, 1, .iload_n 3, .iload 3, 0, 0), (11, 1, .iload_n 3, .iload 3, 0, 0), (12, 2, .bipush 21, .iconst 21, 0, 0), (14, 1, .irem, .irem, 0, 0), (15, 3, .ifCond .ne 7, .ifCond .ne 13, 0, 0), (18, 1, .iconst 0, .iconst 0, 0, 0), (19, 3, .goto 5, .goto 14, 0, 0), (22, 2, .ldc 49, .iconst 100000000, 3226, 49), (24, 1, .iastore, .iastore, 0, 0), (25, 3, .iinc 3 1, .iinc 3 1, 0, 0), (28, 3, .goto (-26), .goto 2, 0, 0), (31, 1, .iconst 0, .iconst 0, 0, 0), (32, 1, .istore_n 3, .istore 3, 0, 0), (33, 1, .iload_n 3, .iload 3, 0, 0), (34, 1, .aload_n 0, .aload 0, 0, 0), (35, 3, .getfield 23, .getstatic 900, 1136, 23), (38, 3, .getfield 66, .getfield 811, 1098, 66), (41, 3, .if_icmp .ge 73, .if_icmp .ge 62, 0, 0), (44, 1, .aload_n 0, .aload 0, 0, 0), (45, 3, .getfield 23, .getstatic 900, 1136, 23), (48, 1, .iload_n 3, .iload 3, 0, 0), (49, 3, .invokevirtual 69, .invokevirtual 1020811, 3227, 69), (52, 2, .istore 4, .istore 4, 0, 0), (54, 1, .aload_n 0, .aload 0, 0, 0), (55, 3, .getfield 23, .getstatic 900, 1136, 23), (58, 1, .iload_n 3, .iload 3, 0, 0), (59, 3, .invokevirtual 72, .invokevirtual 1030811, 3231, 72), (62, 2, .istore 5, .istore 5, 0, 0), (64, 1, .aload_n 1, .aload 1, 0, 0), (65, 2, .iload 4, .iload 4, 0, 0), (67, 2, .bipush 20, .iconst 20, 0, 0), (69, 1, .imul, .imul, 0, 0), (70, 2, .iload 5, .iload 5, 0, 0), (72, 1, .iadd, .iadd, 0, 0), (73, 1, .aload_n 0, .aload 0, 0, 0), (74, 3, .getfield 23, .getstatic 900, 1136, 23), (77, 1, .iload_n 3, .iload 3, 0, 0), (78, 1, .iconst 0, .iconst 0, 0, 0), (79, 1, .iload_n 2, .iload 2, 0, 0), (80, 3, .invokevirtual 75, .invokevirtual 1150813, 3235, 75), (83, 3, .invokestatic 79, .invokestatic 1290003, 3236, 79), (86, 1, .aload_n 1, .aload 1, 0, 0), (87, 2, .iload 5, .iload 5, 0, 0), (89, 2, .bipush 20, .iconst 20, 0, 0), (91, 1, .imul, .imul, 0, 0), (92, 2, .iload 4, .iload 4, 0, 0), (94, 1, .iadd, .iadd, 0, 0), (95, 1, .aload_n 0, .aload 0, 0, 0), (96, 3, .getfield 23, .getstatic 900, 1136, 23), (99, 1, .iload_n 3, .iload 3, 0, 0), (100, 1, .iconst 1, .iconst 1, 0, 0), (101, 1, .iload_n 2, .iload 2, 0, 0), (102, 3, .invokevirtual 75, .invokevirtual 1150813, 3235, 75), (105, 3, .invokestatic 79, .invokestatic 1290003, 3236, 79), (108, 3, .iinc 3 1, .iinc 3 1, 0, 0), (111, 3, .goto (-78), .goto 19, 0, 0), (114, 1, .return_, .return_, 0, 0)]
set_option maxRecDepth 100000 in
def zi_128 : List Instr := [.iconst 0, .istore 3, .iload 3, .iconst 400, .if_icmp .ge 17, .aload 1, .iload 3, .iload 3, .iconst 21, .irem, .ifCond .ne 13, .iconst 0, .goto 14, .iconst 100000000, .iastore, .iinc 3 1, .goto 2, .iconst 0, .istore 3, .iload 3, .aload 0, .getstatic 900, .getfield 811, .if_icmp .ge 62, .aload 0, .getstatic 900, .iload 3, .invokevirtual 1020811, .istore 4, .aload 0, .getstatic 900, .iload 3, .invokevirtual 1030811, .istore 5, .aload 1, .iload 4, .iconst 20, .imul, .iload 5, .iadd, .aload 0, .getstatic 900, .iload 3, .iconst 0, .iload 2, .invokevirtual 1150813, .invokestatic 1290003, .aload 1, .iload 5, .iconst 20, .imul, .iload 4, .iadd, .aload 0, .getstatic 900, .iload 3, .iconst 1, .iload 2, .invokevirtual 1150813, .invokestatic 1290003, .iinc 3 1, .goto 19, .return_]
set_option maxRecDepth 100000 in
theorem ze_128 : zc_128.map (fun e => e.2.2.2.1) = zi_128 := rfl
set_option maxRecDepth 100000 in
theorem zk_128 : zckm (zmd 128) false zc_128 zmd [102, 103, 115, 129] = true := by decide +kernel
noncomputable def zf_128 : zF := zden zX0 zi_128 (zlk [(102, zf_102), (103, zf_103), (115, zf_115), (129, zf_129)]) 6
/-- HillErrands$Ways.lay -/
theorem zs_128 : ∀ d, 5 ≤ d → zSnd d (zmd 128) zf_128 := by
  intro d hd
  obtain ⟨d, rfl⟩ : ∃ k, d = k + 1 := ⟨d - 1, by omega⟩
  have h := zsound (d := d) (l := [(102, zf_102), (103, zf_103), (115, zf_115), (129, zf_129)]) zo_128 (fun h => by cases h) zk_128 (fun q hq => by
    simp only [List.mem_cons, List.not_mem_nil, or_false] at hq
    rcases hq with rfl | rfl | rfl | rfl
    · exact zs_102 d (by omega)
    · exact zs_103 d (by omega)
    · exact zs_115 d (by omega)
    · exact zs_129 d (by omega))
  rw [ze_128] at h
  exact h
set_option maxRecDepth 100000 in
def zc_130 : List zE := [(0, 1, .aload_n 0, .aload 0, 0, 0), (1, 3, .getfield 23, .getstatic 900, 1136, 23), (4, 3, .getfield 59, .getfield 810, 1094, 59), (7, 1, .istore_n 2, .istore 2, 0, 0), (8, 1, .iconst 0, .iconst 0, 0, 0), (9, 1, .istore_n 3, .istore 3, 0, 0), (10, 1, .iload_n 3, .iload 3, 0, 0), (11, 1, .iload_n 2, .iload 2, 0, 0), (12, 3, .if_icmp .ge 107, .if_icmp .ge 67, 0, 0), (15, 1, .iconst 0, .iconst 0, 0, 0), (16, 2, .istore 4, .istore 4, 0, 0), (18, 2, .iload 4, .iload 4, 0, 0), (20, 1, .iload_n 2, .iload 2, 0, 0), (21, 3, .if_icmp .ge 92, .if_icmp .ge 65, 0, 0), (24, 1, .aload_n 1, .aload 1, 0, 0), (25, 2, .iload 4, .iload 4, 0, 0), (27, 2, .bipush 20, .iconst 20, 0, 0), (29, 1, .imul, .imul, 0, 0), (30, 1, .iload_n 3, .iload 3, 0, 0), (31, 1, .iadd, .iadd, 0, 0), (32, 1, .iaload, .iaload, 0, 0), (33, 2, .istore 5, .istore 5, 0, 0), (35, 2, .iload 5, .iload 5, 0, 0), (37, 2, .ldc 49, .iconst 100000000, 3226, 49), (39, 3, .if_icmp .ge 68, .if_icmp .ge 63, 0, 0), (42, 2, .iload 4, .iload 4, 0, 0), (44, 1, .iload_n 3, .iload 3, 0, 0), (45, 3, .if_icmp .ne 6, .if_icmp .ne 29, 0, 0), (48, 3, .goto 59, .goto 63, 0, 0), (51, 1, .iconst 0, .iconst 0, 0, 0), (52, 2, .istore 6, .istore 6, 0, 0), (54, 2, .iload 6, .iload 6, 0, 0), (56, 1, .iload_n 2, .iload 2, 0, 0), (57, 3, .if_icmp .ge 50, .if_icmp .ge 63, 0, 0), (60, 2, .iload 5, .iload 5, 0, 0), (62, 1, .aload_n 1, .aload 1, 0, 0), (63, 1, .iload_n 3, .iload 3, 0, 0), (64, 2, .bipush 20, .iconst 20, 0, 0), (66, 1, .imul, .imul, 0, 0), (67, 2, .iload 6, .iload 6, 0, 0), (69, 1, .iadd, .iadd, 0, 0), (70, 1, .iaload, .iaload, 0, 0), (71, 1, .iadd, .iadd, 0, 0), (72, 2, .istore 7, .istore 7, 0, 0), (74, 2, .iload 7, .iload 7, 0, 0), (76, 1, .aload_n 1, .aload 1, 0, 0), (77, 2, .iload 4, .iload 4, 0, 0), (79, 2, .bipush 20, .iconst 20, 0, 0), (81, 1, .imul, .imul, 0, 0), (82, 2, .iload 6, .iload 6, 0, 0), (84, 1, .iadd, .iadd, 0, 0), (85, 1, .iaload, .iaload, 0, 0), (86, 3, .if_icmp .ge 15, .if_icmp .ge 61, 0, 0), (89, 1, .aload_n 1, .aload 1, 0, 0), (90, 2, .iload 4, .iload 4, 0, 0), (92, 2, .bipush 20, .iconst 20, 0, 0), (94, 1, .imul, .imul, 0, 0), (95, 2, .iload 6, .iload 6, 0, 0), (97, 1, .iadd, .iadd, 0, 0), (98, 2, .iload 7, .iload 7, 0, 0), (100, 1, .iastore, .iastore, 0, 0), (101, 3, .iinc 6 1, .iinc 6 1, 0, 0), (104, 3, .goto (-50), .goto 31, 0, 0), (107, 3, .iinc 4 1, .iinc 4 1, 0, 0), (110, 3, .goto (-92), .goto 11, 0, 0), (113, 3, .iinc 3 1, .iinc 3 1, 0, 0), (116, 3, .goto (-106), .goto 6, 0, 0), (119, 1, .return_, .return_, 0, 0)]
set_option maxRecDepth 100000 in
def zi_130 : List Instr := [.aload 0, .getstatic 900, .getfield 810, .istore 2, .iconst 0, .istore 3, .iload 3, .iload 2, .if_icmp .ge 67, .iconst 0, .istore 4, .iload 4, .iload 2, .if_icmp .ge 65, .aload 1, .iload 4, .iconst 20, .imul, .iload 3, .iadd, .iaload, .istore 5, .iload 5, .iconst 100000000, .if_icmp .ge 63, .iload 4, .iload 3, .if_icmp .ne 29, .goto 63, .iconst 0, .istore 6, .iload 6, .iload 2, .if_icmp .ge 63, .iload 5, .aload 1, .iload 3, .iconst 20, .imul, .iload 6, .iadd, .iaload, .iadd, .istore 7, .iload 7, .aload 1, .iload 4, .iconst 20, .imul, .iload 6, .iadd, .iaload, .if_icmp .ge 61, .aload 1, .iload 4, .iconst 20, .imul, .iload 6, .iadd, .iload 7, .iastore, .iinc 6 1, .goto 31, .iinc 4 1, .goto 11, .iinc 3 1, .goto 6, .return_]
set_option maxRecDepth 100000 in
theorem ze_130 : zc_130.map (fun e => e.2.2.2.1) = zi_130 := rfl
set_option maxRecDepth 100000 in
theorem zk_130 : zckm (zmd 130) false zc_130 zmd [] = true := by decide +kernel
noncomputable def zf_130 : zF := zden zX0 zi_130 (zlk []) 8
/-- HillErrands$Ways.shorten -/
theorem zs_130 : ∀ d, 1 ≤ d → zSnd d (zmd 130) zf_130 := by
  intro d hd
  obtain ⟨d, rfl⟩ : ∃ k, d = k + 1 := ⟨d - 1, by omega⟩
  have h := zsound (d := d) (l := []) zo_130 (fun h => by cases h) zk_130 (fun q hq => by cases hq)
  rw [ze_130] at h
  exact h
set_option maxRecDepth 100000 in
def zc_120 : List zE := [(0, 1, .aload_n 0, .aload 0, 0, 0), (1, 1, .iload_n 1, .iload 1, 0, 0), (2, 3, .invokevirtual 27, .invokevirtual 1260911, 3214, 27), (5, 1, .istore_n 2, .istore 2, 0, 0), (6, 1, .aload_n 0, .aload 0, 0, 0), (7, 3, .getfield 11, .getstatic 901, 1137, 11), (10, 1, .iload_n 2, .iload 2, 0, 0), (11, 1, .aaload, .aaload, 0, 0), (12, 1, .astore_n 3, .astore 3, 0, 0), (13, 1, .aload_n 3, .aload 3, 0, 0), (14, 3, .ifnonnull 19, .ifnonnull 20, 0, 0), (17, 3, .sipush 400, .iconst 400, 0, 0), (20, 2, .newarray .int, .newarray .int, 1079, 0), (22, 1, .astore_n 3, .astore 3, 0, 0), (23, 1, .aload_n 0, .aload 0, 0, 0), (24, 3, .getfield 11, .getstatic 901, 1137, 11), (27, 1, .iload_n 2, .iload 2, 0, 0), (28, 1, .aload_n 3, .aload 3, 0, 0), (29, 1, .aastore, .aastore, 0, 0), (30, 3, .goto 20, .goto 29, 0, 0), (33, 1, .aload_n 0, .aload 0, 0, 0), (34, 3, .getfield 17, .getstatic 902, 1138, 17), (37, 1, .iload_n 2, .iload 2, 0, 0), (38, 1, .iaload, .iaload, 0, 0), (39, 1, .aload_n 0, .aload 0, 0, 0), (40, 3, .getfield 23, .getstatic 900, 1136, 23), (43, 3, .getfield 31, .getfield 812, 1100, 31), (46, 3, .if_icmp .ne 4, .if_icmp .ne 29, 0, 0), (49, 1, .return_, .return_, 0, 0), (50, 1, .aload_n 0, .aload 0, 0, 0), (51, 1, .aload_n 3, .aload 3, 0, 0), (52, 1, .iload_n 2, .iload 2, 0, 0), (53, 3, .invokevirtual 37, .invokevirtual 1280902, 3222, 37), (56, 1, .aload_n 0, .aload 0, 0, 0), (57, 1, .aload_n 3, .aload 3, 0, 0), (58, 3, .invokevirtual 41, .invokevirtual 1300901, 4000, 41), (61, 1, .aload_n 0, .aload 0, 0, 0), (62, 3, .getfield 17, .getstatic 902, 1138, 17), (65, 1, .iload_n 2, .iload 2, 0, 0), (66, 1, .aload_n 0, .aload 0, 0, 0), (67, 3, .getfield 23, .getstatic 900, 1136, 23), (70, 3, .getfield 31, .getfield 812, 1100, 31), (73, 1, .iastore, .iastore, 0, 0), (74, 1, .return_, .return_, 0, 0)]
set_option maxRecDepth 100000 in
def zi_120 : List Instr := [.aload 0, .iload 1, .invokevirtual 1260911, .istore 2, .aload 0, .getstatic 901, .iload 2, .aaload, .astore 3, .aload 3, .ifnonnull 20, .iconst 400, .newarray .int, .astore 3, .aload 0, .getstatic 901, .iload 2, .aload 3, .aastore, .goto 29, .aload 0, .getstatic 902, .iload 2, .iaload, .aload 0, .getstatic 900, .getfield 812, .if_icmp .ne 29, .return_, .aload 0, .aload 3, .iload 2, .invokevirtual 1280902, .aload 0, .aload 3, .invokevirtual 1300901, .aload 0, .getstatic 902, .iload 2, .aload 0, .getstatic 900, .getfield 812, .iastore, .return_]
set_option maxRecDepth 100000 in
theorem ze_120 : zc_120.map (fun e => e.2.2.2.1) = zi_120 := rfl
set_option maxRecDepth 100000 in
theorem zk_120 : zckm (zmd 120) false zc_120 zmd [126, 128, 130] = true := by decide +kernel
noncomputable def zf_120 : zF := zden zX0 zi_120 (zlk [(126, zf_126), (128, zf_128), (130, zf_130)]) 4
/-- HillErrands$Ways.freshen -/
theorem zs_120 : ∀ d, 6 ≤ d → zSnd d (zmd 120) zf_120 := by
  intro d hd
  obtain ⟨d, rfl⟩ : ∃ k, d = k + 1 := ⟨d - 1, by omega⟩
  have h := zsound (d := d) (l := [(126, zf_126), (128, zf_128), (130, zf_130)]) zo_120 (fun h => by cases h) zk_120 (fun q hq => by
    simp only [List.mem_cons, List.not_mem_nil, or_false] at hq
    rcases hq with rfl | rfl | rfl
    · exact zs_126 d (by omega)
    · exact zs_128 d (by omega)
    · exact zs_130 d (by omega))
  rw [ze_120] at h
  exact h
set_option maxRecDepth 100000 in
def zc_21 : List zE := [(0, 1, .aload_n 0, .aload 0, 0, 0), (1, 3, .getfield 39, .getstatic 100, 1158, 39), (4, 1, .iconst 0, .iconst 0, 0, 0), (5, 3, .invokevirtual 50, .invokevirtual 1200901, 4149, 50), (8, 1, .iconst 0, .iconst 0, 0, 0), (9, 1, .istore_n 2, .istore 2, 0, 0), (10, 1, .iload_n 2, .iload 2, 0, 0), (11, 2, .bipush 8, .iconst 8, 0, 0), (13, 3, .if_icmp .ge 30, .if_icmp .ge 24, 0, 0), (16, 1, .iload_n 1, .iload 1, 0, 0), (17, 1, .iload_n 2, .iload 2, 0, 0), (18, 1, .ishr, .ishr, 0, 0), (19, 1, .iconst 1, .iconst 1, 0, 0), (20, 1, .iand, .iand, 0, 0), (21, 3, .ifCond .eq 16, .ifCond .eq 22, 0, 0), (24, 1, .aload_n 0, .aload 0, 0, 0), (25, 3, .getfield 39, .getstatic 100, 1158, 39), (28, 1, .aload_n 0, .aload 0, 0, 0), (29, 3, .getfield 27, .getstatic 106, 1164, 27), (32, 1, .iload_n 2, .iload 2, 0, 0), (33, 1, .iaload, .iaload, 0, 0), (34, 3, .invokevirtual 50, .invokevirtual 1200901, 4149, 50), (37, 3, .iinc 2 1, .iinc 2 1, 0, 0), (40, 3, .goto (-30), .goto 6, 0, 0), (43, 1, .return_, .return_, 0, 0)]
set_option maxRecDepth 100000 in
def zi_21 : List Instr := [.aload 0, .getstatic 100, .iconst 0, .invokevirtual 1200901, .iconst 0, .istore 2, .iload 2, .iconst 8, .if_icmp .ge 24, .iload 1, .iload 2, .ishr, .iconst 1, .iand, .ifCond .eq 22, .aload 0, .getstatic 100, .aload 0, .getstatic 106, .iload 2, .iaload, .invokevirtual 1200901, .iinc 2 1, .goto 6, .return_]
set_option maxRecDepth 100000 in
theorem ze_21 : zc_21.map (fun e => e.2.2.2.1) = zi_21 := rfl
set_option maxRecDepth 100000 in
theorem zk_21 : zckm (zmd 21) false zc_21 zmd [120] = true := by decide +kernel
noncomputable def zf_21 : zF := zden zX0 zi_21 (zlk [(120, zf_120)]) 3
/-- HillErrands$Folk.freshen -/
theorem zs_21 : ∀ d, 7 ≤ d → zSnd d (zmd 21) zf_21 := by
  intro d hd
  obtain ⟨d, rfl⟩ : ∃ k, d = k + 1 := ⟨d - 1, by omega⟩
  have h := zsound (d := d) (l := [(120, zf_120)]) zo_21 (fun h => by cases h) zk_21 (fun q hq => by
    simp only [List.mem_cons, List.not_mem_nil, or_false] at hq
    subst hq
    · exact zs_120 d (by omega))
  rw [ze_21] at h
  exact h
set_option maxRecDepth 100000 in
def zc_127 : List zE := [(0, 1, .aload_n 0, .aload 0, 0, 0), (1, 3, .getfield 11, .getstatic 901, 1137, 11), (4, 1, .aload_n 0, .aload 0, 0, 0), (5, 1, .iload_n 3, .iload 3, 0, 0), (6, 3, .invokevirtual 27, .invokevirtual 1260911, 3214, 27), (9, 1, .aaload, .aaload, 0, 0), (10, 2, .astore 4, .astore 4, 0, 0), (12, 2, .aload 4, .aload 4, 0, 0), (14, 3, .ifnonnull 8, .ifnonnull 11, 0, 0), (17, 2, .ldc 49, .iconst 100000000, 3226, 49), (19, 3, .goto 12, .goto 18, 0, 0), (22, 2, .aload 4, .aload 4, 0, 0), (24, 1, .iload_n 1, .iload 1, 0, 0), (25, 2, .bipush 20, .iconst 20, 0, 0), (27, 1, .imul, .imul, 0, 0), (28, 1, .iload_n 2, .iload 2, 0, 0), (29, 1, .iadd, .iadd, 0, 0), (30, 1, .iaload, .iaload, 0, 0), (31, 1, .ireturn, .ireturn, 0, 0)]
set_option maxRecDepth 100000 in
def zi_127 : List Instr := [.aload 0, .getstatic 901, .aload 0, .iload 3, .invokevirtual 1260911, .aaload, .astore 4, .aload 4, .ifnonnull 11, .iconst 100000000, .goto 18, .aload 4, .iload 1, .iconst 20, .imul, .iload 2, .iadd, .iaload, .ireturn]
set_option maxRecDepth 100000 in
theorem ze_127 : zc_127.map (fun e => e.2.2.2.1) = zi_127 := rfl
set_option maxRecDepth 100000 in
theorem zk_127 : zckm (zmd 127) false zc_127 zmd [126] = true := by decide +kernel
noncomputable def zf_127 : zF := zden zX0 zi_127 (zlk [(126, zf_126)]) 5
/-- HillErrands$Ways.keyOf -/
theorem zs_127 : ∀ d, 3 ≤ d → zSnd d (zmd 127) zf_127 := by
  intro d hd
  obtain ⟨d, rfl⟩ : ∃ k, d = k + 1 := ⟨d - 1, by omega⟩
  have h := zsound (d := d) (l := [(126, zf_126)]) zo_127 (fun h => by cases h) zk_127 (fun q hq => by
    simp only [List.mem_cons, List.not_mem_nil, or_false] at hq
    subst hq
    · exact zs_126 d (by omega))
  rw [ze_127] at h
  exact h
set_option maxRecDepth 100000 in
def zc_121 : List zE := [(0, 1, .aload_n 0, .aload 0, 0, 0), (1, 1, .iload_n 1, .iload 1, 0, 0), (2, 1, .iload_n 2, .iload 2, 0, 0), (3, 1, .iload_n 3, .iload 3, 0, 0), (4, 3, .invokevirtual 45, .invokevirtual 1270913, 4008, 45), (7, 2, .istore 4, .istore 4, 0, 0), (9, 2, .iload 4, .iload 4, 0, 0), (11, 2, .ldc 49, .iconst 100000000, 3226, 49), (13, 3, .if_icmp .lt 8, .if_icmp .lt 11, 0, 0), (16, 2, .ldc 49, .iconst 100000000, 3226, 49), (18, 3, .goto 7, .goto 14, 0, 0), (21, 2, .iload 4, .iload 4, 0, 0), (23, 1, .iconst 5, .iconst 5, 0, 0), (24, 1, .ishr, .ishr, 0, 0), (25, 1, .ireturn, .ireturn, 0, 0)]
set_option maxRecDepth 100000 in
def zi_121 : List Instr := [.aload 0, .iload 1, .iload 2, .iload 3, .invokevirtual 1270913, .istore 4, .iload 4, .iconst 100000000, .if_icmp .lt 11, .iconst 100000000, .goto 14, .iload 4, .iconst 5, .ishr, .ireturn]
set_option maxRecDepth 100000 in
theorem ze_121 : zc_121.map (fun e => e.2.2.2.1) = zi_121 := rfl
set_option maxRecDepth 100000 in
theorem zk_121 : zckm (zmd 121) false zc_121 zmd [127] = true := by decide +kernel
noncomputable def zf_121 : zF := zden zX0 zi_121 (zlk [(127, zf_127)]) 5
/-- HillErrands$Ways.cost -/
theorem zs_121 : ∀ d, 4 ≤ d → zSnd d (zmd 121) zf_121 := by
  intro d hd
  obtain ⟨d, rfl⟩ : ∃ k, d = k + 1 := ⟨d - 1, by omega⟩
  have h := zsound (d := d) (l := [(127, zf_127)]) zo_121 (fun h => by cases h) zk_121 (fun q hq => by
    simp only [List.mem_cons, List.not_mem_nil, or_false] at hq
    subst hq
    · exact zs_127 d (by omega))
  rw [ze_121] at h
  exact h
set_option maxRecDepth 100000 in
def zc_22 : List zE := [(0, 1, .aload_n 0, .aload 0, 0, 0), (1, 3, .getfield 39, .getstatic 100, 1158, 39), (4, 1, .aload_n 0, .aload 0, 0, 0), (5, 3, .getfield 9, .getstatic 101, 1159, 9), (8, 1, .iload_n 1, .iload 1, 0, 0), (9, 1, .iaload, .iaload, 0, 0), (10, 1, .aload_n 0, .aload 0, 0, 0), (11, 3, .getfield 15, .getstatic 102, 1160, 15), (14, 1, .iload_n 1, .iload 1, 0, 0), (15, 1, .iaload, .iaload, 0, 0), (16, 1, .iconst 0, .iconst 0, 0, 0), (17, 3, .invokevirtual 56, .invokevirtual 1210913, 4154, 56), (20, 1, .istore_n 3, .istore 3, 0, 0), (21, 1, .aload_n 0, .aload 0, 0, 0), (22, 3, .getfield 39, .getstatic 100, 1158, 39), (25, 1, .aload_n 0, .aload 0, 0, 0), (26, 3, .getfield 9, .getstatic 101, 1159, 9), (29, 1, .iload_n 1, .iload 1, 0, 0), (30, 1, .iaload, .iaload, 0, 0), (31, 1, .aload_n 0, .aload 0, 0, 0), (32, 3, .getfield 21, .getstatic 104, 1162, 21), (35, 1, .iload_n 2, .iload 2, 0, 0), (36, 1, .iaload, .iaload, 0, 0), (37, 1, .iconst 0, .iconst 0, 0, 0), (38, 3, .invokevirtual 56, .invokevirtual 1210913, 4154, 56), (41, 1, .aload_n 0, .aload 0, 0, 0), (42, 3, .getfield 39, .getstatic 100, 1158, 39), (45, 1, .aload_n 0, .aload 0, 0, 0), (46, 3, .getfield 21, .getstatic 104, 1162, 21), (49, 1, .iload_n 2, .iload 2, 0, 0), (50, 1, .iaload, .iaload, 0, 0), (51, 1, .aload_n 0, .aload 0, 0, 0), (52, 3, .getfield 24, .getstatic 105, 1163, 24), (55, 1, .iload_n 2, .iload 2, 0, 0), (56, 1, .iaload, .iaload, 0, 0), (57, 1, .aload_n 0, .aload 0, 0, 0), (58, 3, .getfield 27, .getstatic 106, 1164, 27), (61, 1, .iload_n 2, .iload 2, 0, 0), (62, 1, .iaload, .iaload, 0, 0), (63, 3, .invokevirtual 56, .invokevirtual 1210913, 4154, 56), (66, 1, .iadd, .iadd, 0, 0), (67, 1, .aload_n 0, .aload 0, 0, 0), (68, 3, .getfield 39, .getstatic 100, 1158, 39), (71, 1, .aload_n 0, .aload 0, 0, 0), (72, 3, .getfield 24, .getstatic 105, 1163, 24), (75, 1, .iload_n 2, .iload 2, 0, 0), (76, 1, .iaload, .iaload, 0, 0), (77, 1, .aload_n 0, .aload 0, 0, 0), (78, 3, .getfield 15, .getstatic 102, 1160, 15), (81, 1, .iload_n 1, .iload 1, 0, 0), (82, 1, .iaload, .iaload, 0, 0), (83, 1, .iconst 0, .iconst 0, 0, 0), (84, 3, .invokevirtual 56, .invokevirtual 1210913, 4154, 56), (87, 1, .iadd, .iadd, 0, 0), (88, 2, .istore 4, .istore 4, 0, 0), (90, 1, .iload_n 3, .iload 3, 0, 0), (91, 2, .ldc 60, .iconst 100000000, 4155, 60), (93, 3, .if_icmp .ge 10, .if_icmp .ge 61, 0, 0), (96, 2, .iload 4, .iload 4, 0, 0), (98, 2, .ldc 60, .iconst 100000000, 4155, 60), (100, 3, .if_icmp .lt 8, .if_icmp .lt 63, 0, 0), (103, 2, .ldc 61, .iconst (-1000000), 4156, 61), (105, 3, .goto 7, .goto 66, 0, 0), (108, 2, .iload 4, .iload 4, 0, 0), (110, 1, .iload_n 3, .iload 3, 0, 0), (111, 1, .isub, .isub, 0, 0), (112, 1, .ireturn, .ireturn, 0, 0)]
set_option maxRecDepth 100000 in
def zi_22 : List Instr := [.aload 0, .getstatic 100, .aload 0, .getstatic 101, .iload 1, .iaload, .aload 0, .getstatic 102, .iload 1, .iaload, .iconst 0, .invokevirtual 1210913, .istore 3, .aload 0, .getstatic 100, .aload 0, .getstatic 101, .iload 1, .iaload, .aload 0, .getstatic 104, .iload 2, .iaload, .iconst 0, .invokevirtual 1210913, .aload 0, .getstatic 100, .aload 0, .getstatic 104, .iload 2, .iaload, .aload 0, .getstatic 105, .iload 2, .iaload, .aload 0, .getstatic 106, .iload 2, .iaload, .invokevirtual 1210913, .iadd, .aload 0, .getstatic 100, .aload 0, .getstatic 105, .iload 2, .iaload, .aload 0, .getstatic 102, .iload 1, .iaload, .iconst 0, .invokevirtual 1210913, .iadd, .istore 4, .iload 3, .iconst 100000000, .if_icmp .ge 61, .iload 4, .iconst 100000000, .if_icmp .lt 63, .iconst (-1000000), .goto 66, .iload 4, .iload 3, .isub, .ireturn]
set_option maxRecDepth 100000 in
theorem ze_22 : zc_22.map (fun e => e.2.2.2.1) = zi_22 := rfl
set_option maxRecDepth 100000 in
theorem zk_22 : zckm (zmd 22) false zc_22 zmd [121] = true := by decide +kernel
noncomputable def zf_22 : zF := zden zX0 zi_22 (zlk [(121, zf_121)]) 5
/-- HillErrands$Folk.bringing -/
theorem zs_22 : ∀ d, 5 ≤ d → zSnd d (zmd 22) zf_22 := by
  intro d hd
  obtain ⟨d, rfl⟩ : ∃ k, d = k + 1 := ⟨d - 1, by omega⟩
  have h := zsound (d := d) (l := [(121, zf_121)]) zo_22 (fun h => by cases h) zk_22 (fun q hq => by
    simp only [List.mem_cons, List.not_mem_nil, or_false] at hq
    subst hq
    · exact zs_121 d (by omega))
  rw [ze_22] at h
  exact h
set_option maxRecDepth 100000 in
def zc_25 : List zE := [(0, 1, .iload_n 3, .iload 3, 0, 0), (1, 2, .bipush 8, .iconst 8, 0, 0), (3, 3, .if_icmp .ne 18, .if_icmp .ne 14, 0, 0), (6, 1, .aload_n 0, .aload 0, 0, 0), (7, 3, .getfield 33, .getstatic 108, 1166, 33), (10, 1, .iload_n 1, .iload 1, 0, 0), (11, 1, .iconst 1, .iconst 1, 0, 0), (12, 1, .iadd, .iadd, 0, 0), (13, 3, .sipush 256, .iconst 256, 0, 0), (16, 1, .imul, .imul, 0, 0), (17, 1, .iload_n 2, .iload 2, 0, 0), (18, 1, .iadd, .iadd, 0, 0), (19, 1, .iaload, .iaload, 0, 0), (20, 1, .ireturn, .ireturn, 0, 0), (21, 1, .aload_n 0, .aload 0, 0, 0), (22, 3, .getfield 30, .getstatic 107, 1165, 30), (25, 1, .iload_n 1, .iload 1, 0, 0), (26, 2, .bipush 8, .iconst 8, 0, 0), (28, 1, .imul, .imul, 0, 0), (29, 1, .iload_n 3, .iload 3, 0, 0), (30, 1, .iadd, .iadd, 0, 0), (31, 1, .iaload, .iaload, 0, 0), (32, 2, .ldc 72, .iconst 10000000, 4174, 72), (34, 1, .isub, .isub, 0, 0), (35, 1, .aload_n 0, .aload 0, 0, 0), (36, 3, .getfield 33, .getstatic 108, 1166, 33), (39, 1, .iload_n 1, .iload 1, 0, 0), (40, 1, .iconst 1, .iconst 1, 0, 0), (41, 1, .iadd, .iadd, 0, 0), (42, 3, .sipush 256, .iconst 256, 0, 0), (45, 1, .imul, .imul, 0, 0), (46, 1, .iload_n 2, .iload 2, 0, 0), (47, 1, .iconst 1, .iconst 1, 0, 0), (48, 1, .iload_n 3, .iload 3, 0, 0), (49, 1, .ishl, .ishl, 0, 0), (50, 1, .ior, .ior, 0, 0), (51, 1, .iadd, .iadd, 0, 0), (52, 1, .iaload, .iaload, 0, 0), (53, 1, .iadd, .iadd, 0, 0), (54, 1, .ireturn, .ireturn, 0, 0)]
set_option maxRecDepth 100000 in
def zi_25 : List Instr := [.iload 3, .iconst 8, .if_icmp .ne 14, .aload 0, .getstatic 108, .iload 1, .iconst 1, .iadd, .iconst 256, .imul, .iload 2, .iadd, .iaload, .ireturn, .aload 0, .getstatic 107, .iload 1, .iconst 8, .imul, .iload 3, .iadd, .iaload, .iconst 10000000, .isub, .aload 0, .getstatic 108, .iload 1, .iconst 1, .iadd, .iconst 256, .imul, .iload 2, .iconst 1, .iload 3, .ishl, .ior, .iadd, .iaload, .iadd, .ireturn]
set_option maxRecDepth 100000 in
theorem ze_25 : zc_25.map (fun e => e.2.2.2.1) = zi_25 := rfl
set_option maxRecDepth 100000 in
theorem zk_25 : zckm (zmd 25) false zc_25 zmd [] = true := by decide +kernel
noncomputable def zf_25 : zF := zden zX0 zi_25 (zlk []) 4
/-- HillErrands$Folk.weigh -/
theorem zs_25 : ∀ d, 1 ≤ d → zSnd d (zmd 25) zf_25 := by
  intro d hd
  obtain ⟨d, rfl⟩ : ∃ k, d = k + 1 := ⟨d - 1, by omega⟩
  have h := zsound (d := d) (l := []) zo_25 (fun h => by cases h) zk_25 (fun q hq => by cases hq)
  rw [ze_25] at h
  exact h
set_option maxRecDepth 100000 in
def zc_24 : List zE := [(0, 2, .bipush 8, .iconst 8, 0, 0), (2, 1, .istore_n 3, .istore 3, 0, 0), (3, 2, .ldc 60, .iconst 100000000, 4155, 60), (5, 2, .istore 4, .istore 4, 0, 0), (7, 1, .iconst 0, .iconst 0, 0, 0), (8, 2, .istore 5, .istore 5, 0, 0), (10, 2, .iload 5, .iload 5, 0, 0), (12, 1, .aload_n 0, .aload 0, 0, 0), (13, 3, .getfield 43, .getfield 110, 1168, 43), (16, 3, .if_icmp .ge 73, .if_icmp .ge 49, 0, 0), (19, 1, .iload_n 2, .iload 2, 0, 0), (20, 2, .iload 5, .iload 5, 0, 0), (22, 1, .ishr, .ishr, 0, 0), (23, 1, .iconst 1, .iconst 1, 0, 0), (24, 1, .iand, .iand, 0, 0), (25, 3, .ifCond .ne 24, .ifCond .ne 28, 0, 0), (28, 1, .aload_n 0, .aload 0, 0, 0), (29, 3, .getfield 30, .getstatic 107, 1165, 30), (32, 1, .iload_n 1, .iload 1, 0, 0), (33, 2, .bipush 8, .iconst 8, 0, 0), (35, 1, .imul, .imul, 0, 0), (36, 2, .iload 5, .iload 5, 0, 0), (38, 1, .iadd, .iadd, 0, 0), (39, 1, .iaload, .iaload, 0, 0), (40, 2, .ldc 61, .iconst (-1000000), 4156, 61), (42, 3, .if_icmp .eq 7, .if_icmp .eq 28, 0, 0), (45, 1, .iconst 1, .iconst 1, 0, 0), (46, 3, .goto 4, .goto 29, 0, 0), (49, 1, .iconst 0, .iconst 0, 0, 0), (50, 2, .istore 6, .istore 6, 0, 0), (52, 2, .iload 6, .iload 6, 0, 0), (54, 3, .ifCond .eq 29, .ifCond .eq 47, 0, 0), (57, 1, .aload_n 0, .aload 0, 0, 0), (58, 1, .iload_n 1, .iload 1, 0, 0), (59, 1, .iload_n 2, .iload 2, 0, 0), (60, 2, .iload 5, .iload 5, 0, 0), (62, 3, .invokevirtual 69, .invokevirtual 250113, 4170, 69), (65, 2, .iload 4, .iload 4, 0, 0), (67, 3, .if_icmp .ge 16, .if_icmp .ge 47, 0, 0), (70, 1, .aload_n 0, .aload 0, 0, 0), (71, 1, .iload_n 1, .iload 1, 0, 0), (72, 1, .iload_n 2, .iload 2, 0, 0), (73, 2, .iload 5, .iload 5, 0, 0), (75, 3, .invokevirtual 69, .invokevirtual 250113, 4170, 69), (78, 2, .istore 4, .istore 4, 0, 0), (80, 2, .iload 5, .iload 5, 0, 0), (82, 1, .istore_n 3, .istore 3, 0, 0), (83, 3, .iinc 5 1, .iinc 5 1, 0, 0), (86, 3, .goto (-76), .goto 6, 0, 0), (89, 1, .aload_n 0, .aload 0, 0, 0), (90, 1, .iload_n 1, .iload 1, 0, 0), (91, 1, .iload_n 2, .iload 2, 0, 0), (92, 2, .bipush 8, .iconst 8, 0, 0), (94, 3, .invokevirtual 69, .invokevirtual 250113, 4170, 69), (97, 2, .iload 4, .iload 4, 0, 0), (99, 3, .if_icmp .ge 8, .if_icmp .ge 58, 0, 0), (102, 2, .bipush 8, .iconst 8, 0, 0), (104, 3, .goto 4, .goto 59, 0, 0), (107, 1, .iload_n 3, .iload 3, 0, 0), (108, 1, .ireturn, .ireturn, 0, 0)]
set_option maxRecDepth 100000 in
def zi_24 : List Instr := [.iconst 8, .istore 3, .iconst 100000000, .istore 4, .iconst 0, .istore 5, .iload 5, .aload 0, .getfield 110, .if_icmp .ge 49, .iload 2, .iload 5, .ishr, .iconst 1, .iand, .ifCond .ne 28, .aload 0, .getstatic 107, .iload 1, .iconst 8, .imul, .iload 5, .iadd, .iaload, .iconst (-1000000), .if_icmp .eq 28, .iconst 1, .goto 29, .iconst 0, .istore 6, .iload 6, .ifCond .eq 47, .aload 0, .iload 1, .iload 2, .iload 5, .invokevirtual 250113, .iload 4, .if_icmp .ge 47, .aload 0, .iload 1, .iload 2, .iload 5, .invokevirtual 250113, .istore 4, .iload 5, .istore 3, .iinc 5 1, .goto 6, .aload 0, .iload 1, .iload 2, .iconst 8, .invokevirtual 250113, .iload 4, .if_icmp .ge 58, .iconst 8, .goto 59, .iload 3, .ireturn]
set_option maxRecDepth 100000 in
theorem ze_24 : zc_24.map (fun e => e.2.2.2.1) = zi_24 := rfl
set_option maxRecDepth 100000 in
theorem zk_24 : zckm (zmd 24) false zc_24 zmd [25] = true := by decide +kernel
noncomputable def zf_24 : zF := zden zX0 zi_24 (zlk [(25, zf_25)]) 7
/-- HillErrands$Folk.bestSender -/
theorem zs_24 : ∀ d, 2 ≤ d → zSnd d (zmd 24) zf_24 := by
  intro d hd
  obtain ⟨d, rfl⟩ : ∃ k, d = k + 1 := ⟨d - 1, by omega⟩
  have h := zsound (d := d) (l := [(25, zf_25)]) zo_24 (fun h => by cases h) zk_24 (fun q hq => by
    simp only [List.mem_cons, List.not_mem_nil, or_false] at hq
    subst hq
    · exact zs_25 d (by omega))
  rw [ze_24] at h
  exact h
set_option maxRecDepth 100000 in
def zc_23 : List zE := [(0, 1, .iconst 1, .iconst 1, 0, 0), (1, 1, .aload_n 0, .aload 0, 0, 0), (2, 3, .getfield 43, .getfield 110, 1168, 43), (5, 1, .ishl, .ishl, 0, 0), (6, 1, .istore_n 2, .istore 2, 0, 0), (7, 1, .iconst 0, .iconst 0, 0, 0), (8, 1, .istore_n 3, .istore 3, 0, 0), (9, 1, .iload_n 3, .iload 3, 0, 0), (10, 1, .iload_n 2, .iload 2, 0, 0), (11, 3, .if_icmp .ge 20, .if_icmp .ge 19, 0, 0), (14, 1, .aload_n 0, .aload 0, 0, 0), (15, 3, .getfield 33, .getstatic 108, 1166, 33), (18, 3, .sipush 2048, .iconst 2048, 0, 0), (21, 1, .iload_n 3, .iload 3, 0, 0), (22, 1, .iadd, .iadd, 0, 0), (23, 1, .iconst 0, .iconst 0, 0, 0), (24, 1, .iastore, .iastore, 0, 0), (25, 3, .iinc 3 1, .iinc 3 1, 0, 0), (28, 3, .goto (-19), .goto 7, 0, 0), (31, 2, .bipush 7, .iconst 7, 0, 0), (33, 1, .istore_n 3, .istore 3, 0, 0), (34, 1, .iload_n 3, .iload 3, 0, 0), (35, 3, .ifCond .lt 131, .ifCond .lt 93, 0, 0), (38, 1, .iload_n 1, .iload 1, 0, 0), (39, 1, .iload_n 3, .iload 3, 0, 0), (40, 1, .ishr, .ishr, 0, 0), (41, 1, .iconst 1, .iconst 1, 0, 0), (42, 1, .iand, .iand, 0, 0), (43, 3, .ifCond .eq 7, .ifCond .eq 31, 0, 0), (46, 1, .iconst 1, .iconst 1, 0, 0), (47, 3, .goto 4, .goto 32, 0, 0), (50, 1, .iconst 0, .iconst 0, 0, 0), (51, 2, .istore 4, .istore 4, 0, 0), (53, 1, .iconst 0, .iconst 0, 0, 0), (54, 2, .istore 5, .istore 5, 0, 0), (56, 2, .iload 5, .iload 5, 0, 0), (58, 1, .aload_n 0, .aload 0, 0, 0), (59, 3, .getfield 43, .getfield 110, 1168, 43), (62, 3, .if_icmp .ge 33, .if_icmp .ge 55, 0, 0), (65, 2, .iload 4, .iload 4, 0, 0), (67, 3, .ifCond .eq 28, .ifCond .eq 55, 0, 0), (70, 1, .aload_n 0, .aload 0, 0, 0), (71, 3, .getfield 30, .getstatic 107, 1165, 30), (74, 1, .iload_n 3, .iload 3, 0, 0), (75, 2, .bipush 8, .iconst 8, 0, 0), (77, 1, .imul, .imul, 0, 0), (78, 2, .iload 5, .iload 5, 0, 0), (80, 1, .iadd, .iadd, 0, 0), (81, 1, .aload_n 0, .aload 0, 0, 0), (82, 2, .iload 5, .iload 5, 0, 0), (84, 1, .iload_n 3, .iload 3, 0, 0), (85, 3, .invokevirtual 62, .invokevirtual 220112, 4165, 62), (88, 1, .iastore, .iastore, 0, 0), (89, 3, .iinc 5 1, .iinc 5 1, 0, 0), (92, 3, .goto (-36), .goto 35, 0, 0), (95, 1, .iconst 0, .iconst 0, 0, 0), (96, 2, .istore 5, .istore 5, 0, 0), (98, 2, .iload 5, .iload 5, 0, 0), (100, 1, .iload_n 2, .iload 2, 0, 0), (101, 3, .if_icmp .ge 59, .if_icmp .ge 91, 0, 0), (104, 1, .aload_n 0, .aload 0, 0, 0), (105, 3, .getfield 33, .getstatic 108, 1166, 33), (108, 1, .iload_n 3, .iload 3, 0, 0), (109, 3, .sipush 256, .iconst 256, 0, 0), (112, 1, .imul, .imul, 0, 0), (113, 2, .iload 5, .iload 5, 0, 0), (115, 1, .iadd, .iadd, 0, 0), (116, 2, .iload 4, .iload 4, 0, 0), (118, 3, .ifCond .eq 20, .ifCond .eq 78, 0, 0), (121, 1, .aload_n 0, .aload 0, 0, 0), (122, 1, .iload_n 3, .iload 3, 0, 0), (123, 2, .iload 5, .iload 5, 0, 0), (125, 1, .aload_n 0, .aload 0, 0, 0), (126, 1, .iload_n 3, .iload 3, 0, 0), (127, 2, .iload 5, .iload 5, 0, 0), (129, 3, .invokevirtual 66, .invokevirtual 240112, 4166, 66), (132, 3, .invokevirtual 69, .invokevirtual 250113, 4170, 69), (135, 3, .goto 18, .goto 88, 0, 0), (138, 1, .aload_n 0, .aload 0, 0, 0), (139, 3, .getfield 33, .getstatic 108, 1166, 33), (142, 1, .iload_n 3, .iload 3, 0, 0), (143, 1, .iconst 1, .iconst 1, 0, 0), (144, 1, .iadd, .iadd, 0, 0), (145, 3, .sipush 256, .iconst 256, 0, 0), (148, 1, .imul, .imul, 0, 0), (149, 2, .iload 5, .iload 5, 0, 0), (151, 1, .iadd, .iadd, 0, 0), (152, 1, .iaload, .iaload, 0, 0), (153, 1, .iastore, .iastore, 0, 0), (154, 3, .iinc 5 1, .iinc 5 1, 0, 0), (157, 3, .goto (-59), .goto 57, 0, 0), (160, 3, .iinc 3 (-1), .iinc 3 (-1), 0, 0), (163, 3, .goto (-129), .goto 21, 0, 0), (166, 1, .iconst 0, .iconst 0, 0, 0), (167, 1, .istore_n 3, .istore 3, 0, 0), (168, 1, .iconst 0, .iconst 0, 0, 0), (169, 2, .istore 4, .istore 4, 0, 0), (171, 2, .iload 4, .iload 4, 0, 0), (173, 2, .bipush 8, .iconst 8, 0, 0), (175, 3, .if_icmp .ge 73, .if_icmp .ge 139, 0, 0), (178, 1, .iload_n 1, .iload 1, 0, 0), (179, 2, .iload 4, .iload 4, 0, 0), (181, 1, .ishr, .ishr, 0, 0), (182, 1, .iconst 1, .iconst 1, 0, 0), (183, 1, .iand, .iand, 0, 0), (184, 3, .ifCond .eq 7, .ifCond .eq 108, 0, 0), (187, 1, .iconst 1, .iconst 1, 0, 0), (188, 3, .goto 4, .goto 109, 0, 0), (191, 1, .iconst 0, .iconst 0, 0, 0), (192, 2, .istore 5, .istore 5, 0, 0), (194, 1, .aload_n 0, .aload 0, 0, 0), (195, 3, .getfield 36, .getstatic 109, 1167, 36), (198, 2, .iload 4, .iload 4, 0, 0), (200, 2, .iload 5, .iload 5, 0, 0), (202, 3, .ifCond .eq 13, .ifCond .eq 120, 0, 0), (205, 1, .aload_n 0, .aload 0, 0, 0), (206, 2, .iload 4, .iload 4, 0, 0), (208, 1, .iload_n 3, .iload 3, 0, 0), (209, 3, .invokevirtual 66, .invokevirtual 240112, 4166, 66), (212, 3, .goto 5, .goto 121, 0, 0), (215, 2, .bipush 8, .iconst 8, 0, 0), (217, 1, .iastore, .iastore, 0, 0), (218, 1, .aload_n 0, .aload 0, 0, 0), (219, 3, .getfield 36, .getstatic 109, 1167, 36), (222, 2, .iload 4, .iload 4, 0, 0), (224, 1, .iaload, .iaload, 0, 0), (225, 2, .bipush 8, .iconst 8, 0, 0), (227, 3, .if_icmp .eq 15, .if_icmp .eq 137, 0, 0), (230, 1, .iload_n 3, .iload 3, 0, 0), (231, 1, .iconst 1, .iconst 1, 0, 0), (232, 1, .aload_n 0, .aload 0, 0, 0), (233, 3, .getfield 36, .getstatic 109, 1167, 36), (236, 2, .iload 4, .iload 4, 0, 0), (238, 1, .iaload, .iaload, 0, 0), (239, 1, .ishl, .ishl, 0, 0), (240, 1, .ior, .ior, 0, 0), (241, 1, .istore_n 3, .istore 3, 0, 0), (242, 3, .iinc 4 1, .iinc 4 1, 0, 0), (245, 3, .goto (-74), .goto 97, 0, 0), (248, 1, .return_, .return_, 0, 0)]
set_option maxRecDepth 100000 in
def zi_23 : List Instr := [.iconst 1, .aload 0, .getfield 110, .ishl, .istore 2, .iconst 0, .istore 3, .iload 3, .iload 2, .if_icmp .ge 19, .aload 0, .getstatic 108, .iconst 2048, .iload 3, .iadd, .iconst 0, .iastore, .iinc 3 1, .goto 7, .iconst 7, .istore 3, .iload 3, .ifCond .lt 93, .iload 1, .iload 3, .ishr, .iconst 1, .iand, .ifCond .eq 31, .iconst 1, .goto 32, .iconst 0, .istore 4, .iconst 0, .istore 5, .iload 5, .aload 0, .getfield 110, .if_icmp .ge 55, .iload 4, .ifCond .eq 55, .aload 0, .getstatic 107, .iload 3, .iconst 8, .imul, .iload 5, .iadd, .aload 0, .iload 5, .iload 3, .invokevirtual 220112, .iastore, .iinc 5 1, .goto 35, .iconst 0, .istore 5, .iload 5, .iload 2, .if_icmp .ge 91, .aload 0, .getstatic 108, .iload 3, .iconst 256, .imul, .iload 5, .iadd, .iload 4, .ifCond .eq 78, .aload 0, .iload 3, .iload 5, .aload 0, .iload 3, .iload 5, .invokevirtual 240112, .invokevirtual 250113, .goto 88, .aload 0, .getstatic 108, .iload 3, .iconst 1, .iadd, .iconst 256, .imul, .iload 5, .iadd, .iaload, .iastore, .iinc 5 1, .goto 57, .iinc 3 (-1), .goto 21, .iconst 0, .istore 3, .iconst 0, .istore 4, .iload 4, .iconst 8, .if_icmp .ge 139, .iload 1, .iload 4, .ishr, .iconst 1, .iand, .ifCond .eq 108, .iconst 1, .goto 109, .iconst 0, .istore 5, .aload 0, .getstatic 109, .iload 4, .iload 5, .ifCond .eq 120, .aload 0, .iload 4, .iload 3, .invokevirtual 240112, .goto 121, .iconst 8, .iastore, .aload 0, .getstatic 109, .iload 4, .iaload, .iconst 8, .if_icmp .eq 137, .iload 3, .iconst 1, .aload 0, .getstatic 109, .iload 4, .iaload, .ishl, .ior, .istore 3, .iinc 4 1, .goto 97, .return_]
set_option maxRecDepth 100000 in
theorem ze_23 : zc_23.map (fun e => e.2.2.2.1) = zi_23 := rfl
set_option maxRecDepth 100000 in
theorem zk_23 : zckm (zmd 23) false zc_23 zmd [22, 24, 25] = true := by decide +kernel
noncomputable def zf_23 : zF := zden zX0 zi_23 (zlk [(22, zf_22), (24, zf_24), (25, zf_25)]) 6
/-- HillErrands$Folk.send -/
theorem zs_23 : ∀ d, 6 ≤ d → zSnd d (zmd 23) zf_23 := by
  intro d hd
  obtain ⟨d, rfl⟩ : ∃ k, d = k + 1 := ⟨d - 1, by omega⟩
  have h := zsound (d := d) (l := [(22, zf_22), (24, zf_24), (25, zf_25)]) zo_23 (fun h => by cases h) zk_23 (fun q hq => by
    simp only [List.mem_cons, List.not_mem_nil, or_false] at hq
    rcases hq with rfl | rfl | rfl
    · exact zs_22 d (by omega)
    · exact zs_24 d (by omega)
    · exact zs_25 d (by omega))
  rw [ze_23] at h
  exact h
set_option maxRecDepth 100000 in
def zc_26 : List zE := [(0, 1, .aload_n 0, .aload 0, 0, 0), (1, 3, .getfield 36, .getstatic 109, 1167, 36), (4, 1, .iload_n 1, .iload 1, 0, 0), (5, 1, .iaload, .iaload, 0, 0), (6, 1, .ireturn, .ireturn, 0, 0)]
set_option maxRecDepth 100000 in
def zi_26 : List Instr := [.aload 0, .getstatic 109, .iload 1, .iaload, .ireturn]
set_option maxRecDepth 100000 in
theorem ze_26 : zc_26.map (fun e => e.2.2.2.1) = zi_26 := rfl
set_option maxRecDepth 100000 in
theorem zk_26 : zckm (zmd 26) false zc_26 zmd [] = true := by decide +kernel
noncomputable def zf_26 : zF := zden zX0 zi_26 (zlk []) 2
/-- HillErrands$Folk.senderOf -/
theorem zs_26 : ∀ d, 1 ≤ d → zSnd d (zmd 26) zf_26 := by
  intro d hd
  obtain ⟨d, rfl⟩ : ∃ k, d = k + 1 := ⟨d - 1, by omega⟩
  have h := zsound (d := d) (l := []) zo_26 (fun h => by cases h) zk_26 (fun q hq => by cases hq)
  rw [ze_26] at h
  exact h
set_option maxRecDepth 100000 in
def zc_27 : List zE := [(0, 1, .iconst 0, .iconst 0, 0, 0), (1, 1, .istore_n 2, .istore 2, 0, 0), (2, 1, .iconst 0, .iconst 0, 0, 0), (3, 1, .istore_n 3, .istore 3, 0, 0), (4, 1, .iload_n 3, .iload 3, 0, 0), (5, 2, .bipush 8, .iconst 8, 0, 0), (7, 3, .if_icmp .ge 31, .if_icmp .ge 22, 0, 0), (10, 1, .iload_n 1, .iload 1, 0, 0), (11, 1, .iload_n 3, .iload 3, 0, 0), (12, 1, .ishr, .ishr, 0, 0), (13, 1, .iconst 1, .iconst 1, 0, 0), (14, 1, .iand, .iand, 0, 0), (15, 3, .ifCond .eq 17, .ifCond .eq 20, 0, 0), (18, 1, .aload_n 0, .aload 0, 0, 0), (19, 3, .getfield 36, .getstatic 109, 1167, 36), (22, 1, .iload_n 3, .iload 3, 0, 0), (23, 1, .iaload, .iaload, 0, 0), (24, 2, .bipush 8, .iconst 8, 0, 0), (26, 3, .if_icmp .eq 6, .if_icmp .eq 20, 0, 0), (29, 3, .iinc 2 1, .iinc 2 1, 0, 0), (32, 3, .iinc 3 1, .iinc 3 1, 0, 0), (35, 3, .goto (-31), .goto 4, 0, 0), (38, 1, .iload_n 2, .iload 2, 0, 0), (39, 1, .ireturn, .ireturn, 0, 0)]
set_option maxRecDepth 100000 in
def zi_27 : List Instr := [.iconst 0, .istore 2, .iconst 0, .istore 3, .iload 3, .iconst 8, .if_icmp .ge 22, .iload 1, .iload 3, .ishr, .iconst 1, .iand, .ifCond .eq 20, .aload 0, .getstatic 109, .iload 3, .iaload, .iconst 8, .if_icmp .eq 20, .iinc 2 1, .iinc 3 1, .goto 4, .iload 2, .ireturn]
set_option maxRecDepth 100000 in
theorem ze_27 : zc_27.map (fun e => e.2.2.2.1) = zi_27 := rfl
set_option maxRecDepth 100000 in
theorem zk_27 : zckm (zmd 27) false zc_27 zmd [] = true := by decide +kernel
noncomputable def zf_27 : zF := zden zX0 zi_27 (zlk []) 4
/-- HillErrands$Folk.sentOf -/
theorem zs_27 : ∀ d, 1 ≤ d → zSnd d (zmd 27) zf_27 := by
  intro d hd
  obtain ⟨d, rfl⟩ : ∃ k, d = k + 1 := ⟨d - 1, by omega⟩
  have h := zsound (d := d) (l := []) zo_27 (fun h => by cases h) zk_27 (fun q hq => by cases hq)
  rw [ze_27] at h
  exact h
set_option maxRecDepth 100000 in
def zc_28 : List zE := [(0, 1, .iconst 0, .iconst 0, 0, 0), (1, 1, .istore_n 2, .istore 2, 0, 0), (2, 1, .iconst 0, .iconst 0, 0, 0), (3, 1, .istore_n 3, .istore 3, 0, 0), (4, 1, .iload_n 3, .iload 3, 0, 0), (5, 2, .bipush 8, .iconst 8, 0, 0), (7, 3, .if_icmp .ge 47, .if_icmp .ge 35, 0, 0), (10, 1, .iload_n 1, .iload 1, 0, 0), (11, 1, .iload_n 3, .iload 3, 0, 0), (12, 1, .ishr, .ishr, 0, 0), (13, 1, .iconst 1, .iconst 1, 0, 0), (14, 1, .iand, .iand, 0, 0), (15, 3, .ifCond .eq 33, .ifCond .eq 33, 0, 0), (18, 1, .aload_n 0, .aload 0, 0, 0), (19, 3, .getfield 36, .getstatic 109, 1167, 36), (22, 1, .iload_n 3, .iload 3, 0, 0), (23, 1, .iaload, .iaload, 0, 0), (24, 2, .bipush 8, .iconst 8, 0, 0), (26, 3, .if_icmp .eq 22, .if_icmp .eq 33, 0, 0), (29, 1, .iload_n 2, .iload 2, 0, 0), (30, 1, .aload_n 0, .aload 0, 0, 0), (31, 3, .getfield 30, .getstatic 107, 1165, 30), (34, 1, .iload_n 3, .iload 3, 0, 0), (35, 2, .bipush 8, .iconst 8, 0, 0), (37, 1, .imul, .imul, 0, 0), (38, 1, .aload_n 0, .aload 0, 0, 0), (39, 3, .getfield 36, .getstatic 109, 1167, 36), (42, 1, .iload_n 3, .iload 3, 0, 0), (43, 1, .iaload, .iaload, 0, 0), (44, 1, .iadd, .iadd, 0, 0), (45, 1, .iaload, .iaload, 0, 0), (46, 1, .iadd, .iadd, 0, 0), (47, 1, .istore_n 2, .istore 2, 0, 0), (48, 3, .iinc 3 1, .iinc 3 1, 0, 0), (51, 3, .goto (-47), .goto 4, 0, 0), (54, 1, .iload_n 2, .iload 2, 0, 0), (55, 1, .ireturn, .ireturn, 0, 0)]
set_option maxRecDepth 100000 in
def zi_28 : List Instr := [.iconst 0, .istore 2, .iconst 0, .istore 3, .iload 3, .iconst 8, .if_icmp .ge 35, .iload 1, .iload 3, .ishr, .iconst 1, .iand, .ifCond .eq 33, .aload 0, .getstatic 109, .iload 3, .iaload, .iconst 8, .if_icmp .eq 33, .iload 2, .aload 0, .getstatic 107, .iload 3, .iconst 8, .imul, .aload 0, .getstatic 109, .iload 3, .iaload, .iadd, .iaload, .iadd, .istore 2, .iinc 3 1, .goto 4, .iload 2, .ireturn]
set_option maxRecDepth 100000 in
theorem ze_28 : zc_28.map (fun e => e.2.2.2.1) = zi_28 := rfl
set_option maxRecDepth 100000 in
theorem zk_28 : zckm (zmd 28) false zc_28 zmd [] = true := by decide +kernel
noncomputable def zf_28 : zF := zden zX0 zi_28 (zlk []) 4
/-- HillErrands$Folk.costOfSent -/
theorem zs_28 : ∀ d, 1 ≤ d → zSnd d (zmd 28) zf_28 := by
  intro d hd
  obtain ⟨d, rfl⟩ : ∃ k, d = k + 1 := ⟨d - 1, by omega⟩
  have h := zsound (d := d) (l := []) zo_28 (fun h => by cases h) zk_28 (fun q hq => by cases hq)
  rw [ze_28] at h
  exact h
set_option maxRecDepth 100000 in
def zc_29 : List zE := [(0, 1, .aload_n 0, .aload 0, 0, 0), (1, 3, .invokespecial 3, .pop, 1041, 3), (4, 1, .aload_n 0, .aload 0, 0, 0), (5, 3, .sipush 160, .iconst 160, 0, 0), (8, 2, .newarray .int, .newarray .int, 1079, 0), (10, 3, .putfield 9, .putstatic 200, 1042, 9), (13, 1, .aload_n 0, .aload 0, 0, 0), (14, 3, .sipush 160, .iconst 160, 0, 0), (17, 2, .newarray .int, .newarray .int, 1079, 0), (19, 3, .putfield 15, .putstatic 201, 1043, 15), (22, 1, .aload_n 0, .aload 0, 0, 0), (23, 2, .bipush 12, .iconst 12, 0, 0), (25, 2, .newarray .int, .newarray .int, 1079, 0), (27, 3, .putfield 18, .putstatic 203, 1045, 18), (30, 1, .aload_n 0, .aload 0, 0, 0), (31, 2, .bipush 12, .iconst 12, 0, 0), (33, 2, .newarray .int, .newarray .int, 1079, 0), (35, 3, .putfield 21, .putstatic 204, 1046, 21), (38, 1, .aload_n 0, .aload 0, 0, 0), (39, 2, .bipush 12, .iconst 12, 0, 0), (41, 2, .newarray .int, .newarray .int, 1079, 0), (43, 3, .putfield 24, .putstatic 205, 1047, 24), (46, 1, .aload_n 0, .aload 0, 0, 0), (47, 2, .bipush 12, .iconst 12, 0, 0), (49, 2, .newarray .int, .newarray .int, 1079, 0), (51, 3, .putfield 27, .putstatic 206, 1048, 27), (54, 1, .aload_n 0, .aload 0, 0, 0), (55, 2, .bipush 64, .iconst 64, 0, 0), (57, 2, .newarray .int, .newarray .int, 1079, 0), (59, 3, .putfield 30, .putstatic 209, 1054, 30), (62, 1, .return_, .return_, 0, 0)]
set_option maxRecDepth 100000 in
def zi_29 : List Instr := [.aload 0, .pop, .aload 0, .iconst 160, .newarray .int, .putstatic 200, .aload 0, .iconst 160, .newarray .int, .putstatic 201, .aload 0, .iconst 12, .newarray .int, .putstatic 203, .aload 0, .iconst 12, .newarray .int, .putstatic 204, .aload 0, .iconst 12, .newarray .int, .putstatic 205, .aload 0, .iconst 12, .newarray .int, .putstatic 206, .aload 0, .iconst 64, .newarray .int, .putstatic 209, .return_]
set_option maxRecDepth 100000 in
theorem ze_29 : zc_29.map (fun e => e.2.2.2.1) = zi_29 := rfl
set_option maxRecDepth 100000 in
theorem zk_29 : zckm (zmd 29) true zc_29 zmd [] = true := by decide +kernel
noncomputable def zf_29 : zF := zden zX0 zi_29 (zlk []) 1
/-- HillErrands$Law.<init> -/
theorem zs_29 : ∀ d, 1 ≤ d → zSnd d (zmd 29) zf_29 := by
  intro d hd
  obtain ⟨d, rfl⟩ : ∃ k, d = k + 1 := ⟨d - 1, by omega⟩
  have h := zsound (d := d) (l := []) zo_29 (fun _ => rfl) zk_29 (fun q hq => by cases hq)
  rw [ze_29] at h
  exact h
set_option maxRecDepth 100000 in
def zc_30 : List zE := [(0, 1, .aload_n 0, .aload 0, 0, 0), (1, 1, .iconst 0, .iconst 0, 0, 0), (2, 3, .putfield 33, .putfield 202, 1044, 33), (5, 1, .aload_n 0, .aload 0, 0, 0), (6, 1, .iconst 0, .iconst 0, 0, 0), (7, 3, .putfield 37, .putfield 207, 1049, 37), (10, 1, .aload_n 0, .aload 0, 0, 0), (11, 1, .iconst 0, .iconst 0, 0, 0), (12, 3, .putfield 40, .checkcast 208, 1052, 40), (15, 1, .return_, .return_, 0, 0)]
set_option maxRecDepth 100000 in
def zi_30 : List Instr := [.aload 0, .iconst 0, .putfield 202, .aload 0, .iconst 0, .putfield 207, .aload 0, .iconst 0, .checkcast 208, .return_]
set_option maxRecDepth 100000 in
theorem ze_30 : zc_30.map (fun e => e.2.2.2.1) = zi_30 := rfl
set_option maxRecDepth 100000 in
theorem zk_30 : zckm (zmd 30) false zc_30 zmd [] = true := by decide +kernel
noncomputable def zf_30 : zF := zden zX0 zi_30 (zlk []) 1
/-- HillErrands$Law.clear -/
theorem zs_30 : ∀ d, 1 ≤ d → zSnd d (zmd 30) zf_30 := by
  intro d hd
  obtain ⟨d, rfl⟩ : ∃ k, d = k + 1 := ⟨d - 1, by omega⟩
  have h := zsound (d := d) (l := []) zo_30 (fun h => by cases h) zk_30 (fun q hq => by cases hq)
  rw [ze_30] at h
  exact h
set_option maxRecDepth 100000 in
def zc_31 : List zE := [(0, 1, .aload_n 0, .aload 0, 0, 0), (1, 3, .getfield 37, .getfield 207, 1049, 37), (4, 2, .bipush 12, .iconst 12, 0, 0), (6, 3, .if_icmp .lt 7, .if_icmp .lt 6, 0, 0), (9, 1, .iconst 1, .iconst 1, 0, 0), (10, 3, .goto 4, .goto 7, 0, 0), (13, 1, .iconst 0, .iconst 0, 0, 0), (14, 1, .ireturn, .lreturn, 0, 0)]
set_option maxRecDepth 100000 in
def zi_31 : List Instr := [.aload 0, .getfield 207, .iconst 12, .if_icmp .lt 6, .iconst 1, .goto 7, .iconst 0, .lreturn]
set_option maxRecDepth 100000 in
theorem ze_31 : zc_31.map (fun e => e.2.2.2.1) = zi_31 := rfl
set_option maxRecDepth 100000 in
theorem zk_31 : zckm (zmd 31) false zc_31 zmd [] = true := by decide +kernel
noncomputable def zf_31 : zF := zden zX0 zi_31 (zlk []) 1
/-- HillErrands$Law.isFull -/
theorem zs_31 : ∀ d, 1 ≤ d → zSnd d (zmd 31) zf_31 := by
  intro d hd
  obtain ⟨d, rfl⟩ : ∃ k, d = k + 1 := ⟨d - 1, by omega⟩
  have h := zsound (d := d) (l := []) zo_31 (fun h => by cases h) zk_31 (fun q hq => by cases hq)
  rw [ze_31] at h
  exact h
set_option maxRecDepth 100000 in
def zc_32 : List zE := [(0, 1, .aload_n 0, .aload 0, 0, 0), (1, 3, .invokevirtual 44, .invokevirtual 310210, 3007, 44), (4, 3, .ifCond .ne 26, .ifCond .ne 16, 0, 0), (7, 1, .aload_n 0, .aload 0, 0, 0), (8, 3, .getfield 18, .getstatic 203, 1045, 18), (11, 1, .aload_n 0, .aload 0, 0, 0), (12, 3, .getfield 37, .getfield 207, 1049, 37), (15, 1, .iload_n 1, .iload 1, 0, 0), (16, 1, .iastore, .iastore, 0, 0), (17, 1, .aload_n 0, .aload 0, 0, 0), (18, 3, .getfield 21, .getstatic 204, 1046, 21), (21, 1, .aload_n 0, .aload 0, 0, 0), (22, 3, .getfield 37, .getfield 207, 1049, 37), (25, 1, .aload_n 0, .aload 0, 0, 0), (26, 3, .getfield 33, .getfield 202, 1044, 33), (29, 1, .iastore, .iastore, 0, 0), (30, 1, .return_, .return_, 0, 0)]
set_option maxRecDepth 100000 in
def zi_32 : List Instr := [.aload 0, .invokevirtual 310210, .ifCond .ne 16, .aload 0, .getstatic 203, .aload 0, .getfield 207, .iload 1, .iastore, .aload 0, .getstatic 204, .aload 0, .getfield 207, .aload 0, .getfield 202, .iastore, .return_]
set_option maxRecDepth 100000 in
theorem ze_32 : zc_32.map (fun e => e.2.2.2.1) = zi_32 := rfl
set_option maxRecDepth 100000 in
theorem zk_32 : zckm (zmd 32) false zc_32 zmd [31] = true := by decide +kernel
noncomputable def zf_32 : zF := zden zX0 zi_32 (zlk [(31, zf_31)]) 2
/-- HillErrands$Law.beginClause -/
theorem zs_32 : ∀ d, 2 ≤ d → zSnd d (zmd 32) zf_32 := by
  intro d hd
  obtain ⟨d, rfl⟩ : ∃ k, d = k + 1 := ⟨d - 1, by omega⟩
  have h := zsound (d := d) (l := [(31, zf_31)]) zo_32 (fun h => by cases h) zk_32 (fun q hq => by
    simp only [List.mem_cons, List.not_mem_nil, or_false] at hq
    subst hq
    · exact zs_31 d (by omega))
  rw [ze_32] at h
  exact h
set_option maxRecDepth 100000 in
def zc_33 : List zE := [(0, 1, .aload_n 0, .aload 0, 0, 0), (1, 3, .invokevirtual 44, .invokevirtual 310210, 3007, 44), (4, 3, .ifCond .ne 16, .ifCond .ne 10, 0, 0), (7, 1, .aload_n 0, .aload 0, 0, 0), (8, 3, .getfield 24, .getstatic 205, 1047, 24), (11, 1, .aload_n 0, .aload 0, 0, 0), (12, 3, .getfield 37, .getfield 207, 1049, 37), (15, 1, .aload_n 0, .aload 0, 0, 0), (16, 3, .getfield 33, .getfield 202, 1044, 33), (19, 1, .iastore, .iastore, 0, 0), (20, 1, .return_, .return_, 0, 0)]
set_option maxRecDepth 100000 in
def zi_33 : List Instr := [.aload 0, .invokevirtual 310210, .ifCond .ne 10, .aload 0, .getstatic 205, .aload 0, .getfield 207, .aload 0, .getfield 202, .iastore, .return_]
set_option maxRecDepth 100000 in
theorem ze_33 : zc_33.map (fun e => e.2.2.2.1) = zi_33 := rfl
set_option maxRecDepth 100000 in
theorem zk_33 : zckm (zmd 33) false zc_33 zmd [31] = true := by decide +kernel
noncomputable def zf_33 : zF := zden zX0 zi_33 (zlk [(31, zf_31)]) 1
/-- HillErrands$Law.beginCondition -/
theorem zs_33 : ∀ d, 2 ≤ d → zSnd d (zmd 33) zf_33 := by
  intro d hd
  obtain ⟨d, rfl⟩ : ∃ k, d = k + 1 := ⟨d - 1, by omega⟩
  have h := zsound (d := d) (l := [(31, zf_31)]) zo_33 (fun h => by cases h) zk_33 (fun q hq => by
    simp only [List.mem_cons, List.not_mem_nil, or_false] at hq
    subst hq
    · exact zs_31 d (by omega))
  rw [ze_33] at h
  exact h
set_option maxRecDepth 100000 in
def zc_34 : List zE := [(0, 1, .aload_n 0, .aload 0, 0, 0), (1, 3, .invokevirtual 44, .invokevirtual 310210, 3007, 44), (4, 3, .ifCond .ne 26, .ifCond .ne 16, 0, 0), (7, 1, .aload_n 0, .aload 0, 0, 0), (8, 3, .getfield 27, .getstatic 206, 1048, 27), (11, 1, .aload_n 0, .aload 0, 0, 0), (12, 3, .getfield 37, .getfield 207, 1049, 37), (15, 1, .aload_n 0, .aload 0, 0, 0), (16, 3, .getfield 33, .getfield 202, 1044, 33), (19, 1, .iastore, .iastore, 0, 0), (20, 1, .aload_n 0, .aload 0, 0, 0), (21, 1, .dup, .dup, 0, 0), (22, 3, .getfield 37, .getfield 207, 1049, 37), (25, 1, .iconst 1, .iconst 1, 0, 0), (26, 1, .iadd, .iadd, 0, 0), (27, 3, .putfield 37, .putfield 207, 1049, 37), (30, 1, .return_, .return_, 0, 0)]
set_option maxRecDepth 100000 in
def zi_34 : List Instr := [.aload 0, .invokevirtual 310210, .ifCond .ne 16, .aload 0, .getstatic 206, .aload 0, .getfield 207, .aload 0, .getfield 202, .iastore, .aload 0, .dup, .getfield 207, .iconst 1, .iadd, .putfield 207, .return_]
set_option maxRecDepth 100000 in
theorem ze_34 : zc_34.map (fun e => e.2.2.2.1) = zi_34 := rfl
set_option maxRecDepth 100000 in
theorem zk_34 : zckm (zmd 34) false zc_34 zmd [31] = true := by decide +kernel
noncomputable def zf_34 : zF := zden zX0 zi_34 (zlk [(31, zf_31)]) 1
/-- HillErrands$Law.endClause -/
theorem zs_34 : ∀ d, 2 ≤ d → zSnd d (zmd 34) zf_34 := by
  intro d hd
  obtain ⟨d, rfl⟩ : ∃ k, d = k + 1 := ⟨d - 1, by omega⟩
  have h := zsound (d := d) (l := [(31, zf_31)]) zo_34 (fun h => by cases h) zk_34 (fun q hq => by
    simp only [List.mem_cons, List.not_mem_nil, or_false] at hq
    subst hq
    · exact zs_31 d (by omega))
  rw [ze_34] at h
  exact h
set_option maxRecDepth 100000 in
def zc_35 : List zE := [(0, 1, .aload_n 0, .aload 0, 0, 0), (1, 3, .getfield 33, .getfield 202, 1044, 33), (4, 3, .sipush 160, .iconst 160, 0, 0), (7, 3, .if_icmp .lt 4, .if_icmp .lt 5, 0, 0), (10, 1, .return_, .return_, 0, 0), (11, 1, .aload_n 0, .aload 0, 0, 0), (12, 3, .getfield 9, .getstatic 200, 1042, 9), (15, 1, .aload_n 0, .aload 0, 0, 0), (16, 3, .getfield 33, .getfield 202, 1044, 33), (19, 1, .iload_n 1, .iload 1, 0, 0), (20, 1, .iastore, .iastore, 0, 0), (21, 1, .aload_n 0, .aload 0, 0, 0), (22, 3, .getfield 15, .getstatic 201, 1043, 15), (25, 1, .aload_n 0, .aload 0, 0, 0), (26, 3, .getfield 33, .getfield 202, 1044, 33), (29, 1, .iload_n 2, .iload 2, 0, 0), (30, 1, .iastore, .iastore, 0, 0), (31, 1, .aload_n 0, .aload 0, 0, 0), (32, 1, .dup, .dup, 0, 0), (33, 3, .getfield 33, .getfield 202, 1044, 33), (36, 1, .iconst 1, .iconst 1, 0, 0), (37, 1, .iadd, .iadd, 0, 0), (38, 3, .putfield 33, .putfield 202, 1044, 33), (41, 1, .iload_n 1, .iload 1, 0, 0), (42, 2, .bipush 97, .iconst 97, 0, 0), (44, 3, .if_icmp .ne 13, .if_icmp .ne 32, 0, 0), (47, 1, .iload_n 2, .iload 2, 0, 0), (48, 1, .iconst 3, .iconst 3, 0, 0), (49, 3, .if_icmp .ne 8, .if_icmp .ne 32, 0, 0), (52, 1, .aload_n 0, .aload 0, 0, 0), (53, 1, .iconst 1, .iconst 1, 0, 0), (54, 3, .putfield 40, .checkcast 208, 1052, 40), (57, 1, .return_, .return_, 0, 0)]
set_option maxRecDepth 100000 in
def zi_35 : List Instr := [.aload 0, .getfield 202, .iconst 160, .if_icmp .lt 5, .return_, .aload 0, .getstatic 200, .aload 0, .getfield 202, .iload 1, .iastore, .aload 0, .getstatic 201, .aload 0, .getfield 202, .iload 2, .iastore, .aload 0, .dup, .getfield 202, .iconst 1, .iadd, .putfield 202, .iload 1, .iconst 97, .if_icmp .ne 32, .iload 2, .iconst 3, .if_icmp .ne 32, .aload 0, .iconst 1, .checkcast 208, .return_]
set_option maxRecDepth 100000 in
theorem ze_35 : zc_35.map (fun e => e.2.2.2.1) = zi_35 := rfl
set_option maxRecDepth 100000 in
theorem zk_35 : zckm (zmd 35) false zc_35 zmd [] = true := by decide +kernel
noncomputable def zf_35 : zF := zden zX0 zi_35 (zlk []) 3
/-- HillErrands$Law.emit -/
theorem zs_35 : ∀ d, 1 ≤ d → zSnd d (zmd 35) zf_35 := by
  intro d hd
  obtain ⟨d, rfl⟩ : ∃ k, d = k + 1 := ⟨d - 1, by omega⟩
  have h := zsound (d := d) (l := []) zo_35 (fun h => by cases h) zk_35 (fun q hq => by cases hq)
  rw [ze_35] at h
  exact h
set_option maxRecDepth 100000 in
def zc_37 : List zE := [(0, 1, .iload_n 1, .iload 1, 0, 0), (1, 3, .ifCond .lt 21, .ifCond .lt 12, 0, 0), (4, 1, .iload_n 1, .iload 1, 0, 0), (5, 1, .aload_n 0, .aload 0, 0, 0), (6, 3, .getfield 33, .getfield 202, 1044, 33), (9, 3, .if_icmp .ge 13, .if_icmp .ge 12, 0, 0), (12, 1, .aload_n 0, .aload 0, 0, 0), (13, 3, .getfield 15, .getstatic 201, 1043, 15), (16, 1, .iload_n 1, .iload 1, 0, 0), (17, 1, .aload_n 0, .aload 0, 0, 0), (18, 3, .getfield 33, .getfield 202, 1044, 33), (21, 1, .iastore, .iastore, 0, 0), (22, 1, .return_, .return_, 0, 0)]
set_option maxRecDepth 100000 in
def zi_37 : List Instr := [.iload 1, .ifCond .lt 12, .iload 1, .aload 0, .getfield 202, .if_icmp .ge 12, .aload 0, .getstatic 201, .iload 1, .aload 0, .getfield 202, .iastore, .return_]
set_option maxRecDepth 100000 in
theorem ze_37 : zc_37.map (fun e => e.2.2.2.1) = zi_37 := rfl
set_option maxRecDepth 100000 in
theorem zk_37 : zckm (zmd 37) false zc_37 zmd [] = true := by decide +kernel
noncomputable def zf_37 : zF := zden zX0 zi_37 (zlk []) 2
/-- HillErrands$Law.land -/
theorem zs_37 : ∀ d, 1 ≤ d → zSnd d (zmd 37) zf_37 := by
  intro d hd
  obtain ⟨d, rfl⟩ : ∃ k, d = k + 1 := ⟨d - 1, by omega⟩
  have h := zsound (d := d) (l := []) zo_37 (fun h => by cases h) zk_37 (fun q hq => by cases hq)
  rw [ze_37] at h
  exact h
set_option maxRecDepth 100000 in
def zc_36 : List zE := [(0, 1, .aload_n 0, .aload 0, 0, 0), (1, 1, .iload_n 2, .iload 2, 0, 0), (2, 3, .invokevirtual 48, .invokevirtual 370201, 3148, 48), (5, 1, .aload_n 0, .aload 0, 0, 0), (6, 1, .iload_n 1, .iload 1, 0, 0), (7, 1, .aload_n 0, .aload 0, 0, 0), (8, 3, .getfield 33, .getfield 202, 1044, 33), (11, 3, .invokevirtual 52, .invokevirtual 350202, 3152, 52), (14, 1, .aload_n 0, .aload 0, 0, 0), (15, 3, .getfield 33, .getfield 202, 1044, 33), (18, 1, .iconst 1, .iconst 1, 0, 0), (19, 1, .isub, .isub, 0, 0), (20, 1, .ireturn, .ireturn, 0, 0)]
set_option maxRecDepth 100000 in
def zi_36 : List Instr := [.aload 0, .iload 2, .invokevirtual 370201, .aload 0, .iload 1, .aload 0, .getfield 202, .invokevirtual 350202, .aload 0, .getfield 202, .iconst 1, .isub, .ireturn]
set_option maxRecDepth 100000 in
theorem ze_36 : zc_36.map (fun e => e.2.2.2.1) = zi_36 := rfl
set_option maxRecDepth 100000 in
theorem zk_36 : zckm (zmd 36) false zc_36 zmd [35, 37] = true := by decide +kernel
noncomputable def zf_36 : zF := zden zX0 zi_36 (zlk [(35, zf_35), (37, zf_37)]) 3
/-- HillErrands$Law.link -/
theorem zs_36 : ∀ d, 2 ≤ d → zSnd d (zmd 36) zf_36 := by
  intro d hd
  obtain ⟨d, rfl⟩ : ∃ k, d = k + 1 := ⟨d - 1, by omega⟩
  have h := zsound (d := d) (l := [(35, zf_35), (37, zf_37)]) zo_36 (fun h => by cases h) zk_36 (fun q hq => by
    simp only [List.mem_cons, List.not_mem_nil, or_false] at hq
    rcases hq with rfl | rfl
    · exact zs_35 d (by omega)
    · exact zs_37 d (by omega))
  rw [ze_36] at h
  exact h
set_option maxRecDepth 100000 in
def zc_41 : List zE := [(0, 1, .aload_n 0, .aload 0, 0, 0), (1, 3, .invokespecial 3, .pop, 2056, 3), (4, 1, .aload_n 0, .aload 0, 0, 0), (5, 3, .sipush 160, .iconst 160, 0, 0), (8, 2, .newarray .int, .newarray .int, 1079, 0), (10, 3, .putfield 9, .putstatic 303, 2060, 9), (13, 1, .aload_n 0, .aload 0, 0, 0), (14, 1, .iconst 3, .iconst 3, 0, 0), (15, 2, .newarray .int, .newarray .int, 1079, 0), (17, 3, .putfield 15, .putstatic 304, 2061, 15), (20, 1, .aload_n 0, .aload 0, 0, 0), (21, 1, .aload_n 1, .aload 1, 0, 0), (22, 3, .putfield 18, .putstatic 300, 2057, 18), (25, 1, .aload_n 0, .aload 0, 0, 0), (26, 1, .aload_n 2, .aload 2, 0, 0), (27, 3, .putfield 22, .putstatic 301, 2058, 22), (30, 1, .aload_n 0, .aload 0, 0, 0), (31, 1, .aload_n 3, .aload 3, 0, 0), (32, 3, .putfield 26, .putstatic 302, 2059, 26), (35, 1, .return_, .return_, 0, 0)]
set_option maxRecDepth 100000 in
def zi_41 : List Instr := [.aload 0, .pop, .aload 0, .iconst 160, .newarray .int, .putstatic 303, .aload 0, .iconst 3, .newarray .int, .putstatic 304, .aload 0, .aload 1, .putstatic 300, .aload 0, .aload 2, .putstatic 301, .aload 0, .aload 3, .putstatic 302, .return_]
set_option maxRecDepth 100000 in
theorem ze_41 : zc_41.map (fun e => e.2.2.2.1) = zi_41 := rfl
set_option maxRecDepth 100000 in
theorem zk_41 : zckm (zmd 41) true zc_41 zmd [] = true := by decide +kernel
noncomputable def zf_41 : zF := zden zX0 zi_41 (zlk []) 4
/-- HillErrands$Market.<init> -/
theorem zs_41 : ∀ d, 1 ≤ d → zSnd d (zmd 41) zf_41 := by
  intro d hd
  obtain ⟨d, rfl⟩ : ∃ k, d = k + 1 := ⟨d - 1, by omega⟩
  have h := zsound (d := d) (l := []) zo_41 (fun _ => rfl) zk_41 (fun q hq => by cases hq)
  rw [ze_41] at h
  exact h
set_option maxRecDepth 100000 in
def zc_122 : List zE := [(0, 1, .aload_n 0, .aload 0, 0, 0), (1, 1, .iload_n 1, .iload 1, 0, 0), (2, 1, .iload_n 2, .iload 2, 0, 0), (3, 1, .iconst 0, .iconst 0, 0, 0), (4, 3, .invokevirtual 50, .invokevirtual 1210913, 5024, 50), (7, 1, .aload_n 0, .aload 0, 0, 0), (8, 1, .iload_n 2, .iload 2, 0, 0), (9, 1, .iload_n 1, .iload 1, 0, 0), (10, 1, .iconst 0, .iconst 0, 0, 0), (11, 3, .invokevirtual 50, .invokevirtual 1210913, 5024, 50), (14, 1, .iadd, .iadd, 0, 0), (15, 1, .ireturn, .ireturn, 0, 0)]
set_option maxRecDepth 100000 in
def zi_122 : List Instr := [.aload 0, .iload 1, .iload 2, .iconst 0, .invokevirtual 1210913, .aload 0, .iload 2, .iload 1, .iconst 0, .invokevirtual 1210913, .iadd, .ireturn]
set_option maxRecDepth 100000 in
theorem ze_122 : zc_122.map (fun e => e.2.2.2.1) = zi_122 := rfl
set_option maxRecDepth 100000 in
theorem zk_122 : zckm (zmd 122) false zc_122 zmd [121] = true := by decide +kernel
noncomputable def zf_122 : zF := zden zX0 zi_122 (zlk [(121, zf_121)]) 3
/-- HillErrands$Ways.trip -/
theorem zs_122 : ∀ d, 5 ≤ d → zSnd d (zmd 122) zf_122 := by
  intro d hd
  obtain ⟨d, rfl⟩ : ∃ k, d = k + 1 := ⟨d - 1, by omega⟩
  have h := zsound (d := d) (l := [(121, zf_121)]) zo_122 (fun h => by cases h) zk_122 (fun q hq => by
    simp only [List.mem_cons, List.not_mem_nil, or_false] at hq
    subst hq
    · exact zs_121 d (by omega))
  rw [ze_122] at h
  exact h
set_option maxRecDepth 100000 in
def zc_42 : List zE := [(0, 1, .aload_n 0, .aload 0, 0, 0), (1, 3, .getfield 22, .getstatic 301, 2058, 22), (4, 1, .iconst 0, .iconst 0, 0, 0), (5, 3, .invokevirtual 30, .invokevirtual 1200901, 5018, 30), (8, 1, .iconst 0, .iconst 0, 0, 0), (9, 1, .istore_n 1, .istore 1, 0, 0), (10, 1, .iload_n 1, .iload 1, 0, 0), (11, 1, .aload_n 0, .aload 0, 0, 0), (12, 3, .getfield 26, .getstatic 302, 2059, 26), (15, 3, .getfield 36, .getfield 110, 1169, 36), (18, 3, .if_icmp .ge 55, .if_icmp .ge 38, 0, 0), (21, 1, .iconst 0, .iconst 0, 0, 0), (22, 1, .istore_n 2, .istore 2, 0, 0), (23, 1, .iload_n 2, .iload 2, 0, 0), (24, 1, .aload_n 0, .aload 0, 0, 0), (25, 3, .getfield 18, .getstatic 300, 2057, 18), (28, 3, .getfield 42, .getfield 810, 1091, 42), (31, 3, .if_icmp .ge 36, .if_icmp .ge 36, 0, 0), (34, 1, .aload_n 0, .aload 0, 0, 0), (35, 3, .getfield 9, .getstatic 303, 2060, 9), (38, 1, .iload_n 1, .iload 1, 0, 0), (39, 2, .bipush 20, .iconst 20, 0, 0), (41, 1, .imul, .imul, 0, 0), (42, 1, .iload_n 2, .iload 2, 0, 0), (43, 1, .iadd, .iadd, 0, 0), (44, 1, .aload_n 0, .aload 0, 0, 0), (45, 3, .getfield 22, .getstatic 301, 2058, 22), (48, 1, .aload_n 0, .aload 0, 0, 0), (49, 3, .getfield 26, .getstatic 302, 2059, 26), (52, 1, .iload_n 1, .iload 1, 0, 0), (53, 3, .invokevirtual 47, .invokevirtual 170111, 5019, 47), (56, 1, .iload_n 2, .iload 2, 0, 0), (57, 3, .invokevirtual 51, .invokevirtual 1220912, 5020, 51), (60, 1, .iastore, .iastore, 0, 0), (61, 3, .iinc 2 1, .iinc 2 1, 0, 0), (64, 3, .goto (-41), .goto 13, 0, 0), (67, 3, .iinc 1 1, .iinc 1 1, 0, 0), (70, 3, .goto (-60), .goto 6, 0, 0), (73, 1, .return_, .return_, 0, 0)]
set_option maxRecDepth 100000 in
def zi_42 : List Instr := [.aload 0, .getstatic 301, .iconst 0, .invokevirtual 1200901, .iconst 0, .istore 1, .iload 1, .aload 0, .getstatic 302, .getfield 110, .if_icmp .ge 38, .iconst 0, .istore 2, .iload 2, .aload 0, .getstatic 300, .getfield 810, .if_icmp .ge 36, .aload 0, .getstatic 303, .iload 1, .iconst 20, .imul, .iload 2, .iadd, .aload 0, .getstatic 301, .aload 0, .getstatic 302, .iload 1, .invokevirtual 170111, .iload 2, .invokevirtual 1220912, .iastore, .iinc 2 1, .goto 13, .iinc 1 1, .goto 6, .return_]
set_option maxRecDepth 100000 in
theorem ze_42 : zc_42.map (fun e => e.2.2.2.1) = zi_42 := rfl
set_option maxRecDepth 100000 in
theorem zk_42 : zckm (zmd 42) false zc_42 zmd [17, 120, 122] = true := by decide +kernel
noncomputable def zf_42 : zF := zden zX0 zi_42 (zlk [(17, zf_17), (120, zf_120), (122, zf_122)]) 3
/-- HillErrands$Market.measure -/
theorem zs_42 : ∀ d, 7 ≤ d → zSnd d (zmd 42) zf_42 := by
  intro d hd
  obtain ⟨d, rfl⟩ : ∃ k, d = k + 1 := ⟨d - 1, by omega⟩
  have h := zsound (d := d) (l := [(17, zf_17), (120, zf_120), (122, zf_122)]) zo_42 (fun h => by cases h) zk_42 (fun q hq => by
    simp only [List.mem_cons, List.not_mem_nil, or_false] at hq
    rcases hq with rfl | rfl | rfl
    · exact zs_17 d (by omega)
    · exact zs_120 d (by omega)
    · exact zs_122 d (by omega))
  rw [ze_42] at h
  exact h
set_option maxRecDepth 100000 in
def zc_43 : List zE := [(0, 1, .iload_n 1, .iload 1, 0, 0), (1, 3, .ifCond .lt 17, .ifCond .lt 10, 0, 0), (4, 1, .iload_n 1, .iload 1, 0, 0), (5, 1, .iconst 3, .iconst 3, 0, 0), (6, 3, .if_icmp .ge 12, .if_icmp .ge 10, 0, 0), (9, 1, .aload_n 0, .aload 0, 0, 0), (10, 3, .getfield 15, .getstatic 304, 2061, 15), (13, 1, .iload_n 1, .iload 1, 0, 0), (14, 1, .iaload, .iaload, 0, 0), (15, 3, .goto 4, .goto 11, 0, 0), (18, 1, .iconst (-1), .iconst (-1), 0, 0), (19, 1, .ireturn, .ireturn, 0, 0)]
set_option maxRecDepth 100000 in
def zi_43 : List Instr := [.iload 1, .ifCond .lt 10, .iload 1, .iconst 3, .if_icmp .ge 10, .aload 0, .getstatic 304, .iload 1, .iaload, .goto 11, .iconst (-1), .ireturn]
set_option maxRecDepth 100000 in
theorem ze_43 : zc_43.map (fun e => e.2.2.2.1) = zi_43 := rfl
set_option maxRecDepth 100000 in
theorem zk_43 : zckm (zmd 43) false zc_43 zmd [] = true := by decide +kernel
noncomputable def zf_43 : zF := zden zX0 zi_43 (zlk []) 2
/-- HillErrands$Market.spotOf -/
theorem zs_43 : ∀ d, 1 ≤ d → zSnd d (zmd 43) zf_43 := by
  intro d hd
  obtain ⟨d, rfl⟩ : ∃ k, d = k + 1 := ⟨d - 1, by omega⟩
  have h := zsound (d := d) (l := []) zo_43 (fun h => by cases h) zk_43 (fun q hq => by cases hq)
  rw [ze_43] at h
  exact h
