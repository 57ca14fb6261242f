set_option maxRecDepth 100000 in
def zc_144 : List zE := [(0, 1, .iload_n 1, .iload 1, 0, 0), (1, 1, .iconst 1, .iconst 1, 0, 0), (2, 3, .if_icmp .lt 21, .if_icmp .lt 11, 0, 0), (5, 1, .iload_n 1, .iload 1, 0, 0), (6, 3, .sipush 160, .iconst 160, 0, 0), (9, 3, .if_icmp .gt 14, .if_icmp .gt 11, 0, 0), (12, 1, .iload_n 1, .iload 1, 0, 0), (13, 1, .aload_n 0, .aload 0, 0, 0), (14, 3, .getfield 23, .getstatic 1100, 2122, 23), (17, 3, .invokevirtual 118, .invokevirtual 900710, 2204, 118), (20, 3, .if_icmp .le 5, .if_icmp .le 13, 0, 0), (23, 1, .iconst (-1), .iconst (-1), 0, 0), (24, 1, .ireturn, .ireturn, 0, 0), (25, 1, .aload_n 0, .aload 0, 0, 0), (26, 3, .getfield 32, .getstatic 1101, 2123, 32), (29, 1, .aload_n 0, .aload 0, 0, 0), (30, 3, .getfield 23, .getstatic 1100, 2122, 23), (33, 1, .iload_n 1, .iload 1, 0, 0), (34, 3, .invokevirtual 122, .invokevirtual 570512, 2212, 122), (37, 1, .istore_n 2, .istore 2, 0, 0), (38, 1, .aload_n 0, .aload 0, 0, 0), (39, 3, .getfield 23, .getstatic 1100, 2122, 23), (42, 3, .invokevirtual 126, .invokevirtual 950700, 3158, 126), (45, 1, .iload_n 2, .iload 2, 0, 0), (46, 3, .ifCond .le 24, .ifCond .le 34, 0, 0), (49, 1, .aload_n 0, .aload 0, 0, 0), (50, 3, .getfield 36, .getstatic 1102, 2124, 36), (53, 1, .aload_n 0, .aload 0, 0, 0), (54, 3, .getfield 32, .getstatic 1101, 2123, 32), (57, 1, .aload_n 0, .aload 0, 0, 0), (58, 3, .getfield 36, .getstatic 1102, 2124, 36), (61, 3, .invokevirtual 129, .invokevirtual 1080820, 3162, 129), (64, 3, .invokevirtual 133, .invokevirtual 580521, 3166, 133), (67, 3, .invokevirtual 137, .invokevirtual 1090801, 3170, 137), (70, 1, .iload_n 2, .iload 2, 0, 0), (71, 1, .ireturn, .ireturn, 0, 0)]
set_option maxRecDepth 100000 in
def zi_144 : List Instr := [.iload 1, .iconst 1, .if_icmp .lt 11, .iload 1, .iconst 160, .if_icmp .gt 11, .iload 1, .aload 0, .getstatic 1100, .invokevirtual 900710, .if_icmp .le 13, .iconst (-1), .ireturn, .aload 0, .getstatic 1101, .aload 0, .getstatic 1100, .iload 1, .invokevirtual 570512, .istore 2, .aload 0, .getstatic 1100, .invokevirtual 950700, .iload 2, .ifCond .le 34, .aload 0, .getstatic 1102, .aload 0, .getstatic 1101, .aload 0, .getstatic 1102, .invokevirtual 1080820, .invokevirtual 580521, .invokevirtual 1090801, .iload 2, .ireturn]
set_option maxRecDepth 100000 in
theorem ze_144 : zc_144.map (fun e => e.2.2.2.1) = zi_144 := rfl
set_option maxRecDepth 100000 in
theorem zk_144 : zckm (zmd 144) false zc_144 zmd [57, 58, 90, 95, 108, 109] = true := by decide +kernel
noncomputable def zf_144 : zF := zden zX0 zi_144 (zlk [(57, zf_57), (58, zf_58), (90, zf_90), (95, zf_95), (108, zf_108), (109, zf_109)]) 3
/-- HillErrands.law -/
theorem zs_144 : ∀ d, 64 ≤ d → zSnd d (zmd 144) zf_144 := by
  intro d hd
  obtain ⟨d, rfl⟩ : ∃ k, d = k + 1 := ⟨d - 1, by omega⟩
  have h := zsound (d := d) (l := [(57, zf_57), (58, zf_58), (90, zf_90), (95, zf_95), (108, zf_108), (109, zf_109)]) zo_144 (fun h => by cases h) zk_144 (fun q hq => by
    simp only [List.mem_cons, List.not_mem_nil, or_false] at hq
    rcases hq with rfl | rfl | rfl | rfl | rfl | rfl
    · exact zs_57 d (by omega)
    · exact zs_58 d (by omega)
    · exact zs_90 d (by omega)
    · exact zs_95 d (by omega)
    · exact zs_108 d (by omega)
    · exact zs_109 d (by omega))
  rw [ze_144] at h
  exact h
set_option maxRecDepth 100000 in
def zc_145 : List zE := [(0, 1, .iload_n 1, .iload 1, 0, 0), (1, 3, .ifCond .lt 23, .ifCond .lt 11, 0, 0), (4, 1, .iload_n 1, .iload 1, 0, 0), (5, 1, .aload_n 0, .aload 0, 0, 0), (6, 3, .getfield 36, .getstatic 1102, 2124, 36), (9, 3, .getfield 141, .getfield 811, 1097, 141), (12, 3, .if_icmp .ge 12, .if_icmp .ge 11, 0, 0), (15, 1, .iload_n 3, .iload 3, 0, 0), (16, 2, .bipush 99, .iconst 99, 0, 0), (18, 3, .invokestatic 89, .invokestatic 1710012, 2160, 89), (21, 3, .ifCond .ne 5, .ifCond .ne 13, 0, 0), (24, 1, .iconst (-1), .iconst (-1), 0, 0), (25, 1, .ireturn, .ireturn, 0, 0), (26, 1, .aload_n 0, .aload 0, 0, 0), (27, 3, .getfield 36, .getstatic 1102, 2124, 36), (30, 1, .iload_n 1, .iload 1, 0, 0), (31, 1, .iload_n 2, .iload 2, 0, 0), (32, 1, .iload_n 3, .iload 3, 0, 0), (33, 3, .invokevirtual 144, .invokevirtual 1150813, 3179, 144), (36, 1, .ireturn, .ireturn, 0, 0)]
set_option maxRecDepth 100000 in
def zi_145 : List Instr := [.iload 1, .ifCond .lt 11, .iload 1, .aload 0, .getstatic 1102, .getfield 811, .if_icmp .ge 11, .iload 3, .iconst 99, .invokestatic 1710012, .ifCond .ne 13, .iconst (-1), .ireturn, .aload 0, .getstatic 1102, .iload 1, .iload 2, .iload 3, .invokevirtual 1150813, .ireturn]
set_option maxRecDepth 100000 in
theorem ze_145 : zc_145.map (fun e => e.2.2.2.1) = zi_145 := rfl
set_option maxRecDepth 100000 in
theorem zk_145 : zckm (zmd 145) false zc_145 zmd [115, 171] = true := by decide +kernel
noncomputable def zf_145 : zF := zden zX0 zi_145 (zlk [(115, zf_115), (171, zf_171)]) 4
/-- HillErrands.going -/
theorem zs_145 : ∀ d, 5 ≤ d → zSnd d (zmd 145) zf_145 := by
  intro d hd
  obtain ⟨d, rfl⟩ : ∃ k, d = k + 1 := ⟨d - 1, by omega⟩
  have h := zsound (d := d) (l := [(115, zf_115), (171, zf_171)]) zo_145 (fun h => by cases h) zk_145 (fun q hq => by
    simp only [List.mem_cons, List.not_mem_nil, or_false] at hq
    rcases hq with rfl | rfl
    · exact zs_115 d (by omega)
    · exact zs_171 d (by omega))
  rw [ze_145] at h
  exact h
set_option maxRecDepth 100000 in
def zc_146 : List zE := [(0, 1, .aload_n 0, .aload 0, 0, 0), (1, 3, .getfield 36, .getstatic 1102, 2124, 36), (4, 1, .iload_n 1, .iload 1, 0, 0), (5, 3, .invokevirtual 97, .invokevirtual 970811, 2171, 97), (8, 3, .ifCond .eq 23, .ifCond .eq 14, 0, 0), (11, 1, .aload_n 0, .aload 0, 0, 0), (12, 3, .getfield 36, .getstatic 1102, 2124, 36), (15, 1, .iload_n 2, .iload 2, 0, 0), (16, 3, .invokevirtual 97, .invokevirtual 970811, 2171, 97), (19, 3, .ifCond .eq 12, .ifCond .eq 14, 0, 0), (22, 1, .iload_n 3, .iload 3, 0, 0), (23, 2, .bipush 99, .iconst 99, 0, 0), (25, 3, .invokestatic 89, .invokestatic 1710012, 2160, 89), (28, 3, .ifCond .ne 5, .ifCond .ne 16, 0, 0), (31, 1, .iconst (-1), .iconst (-1), 0, 0), (32, 1, .ireturn, .ireturn, 0, 0), (33, 2, .iload 4, .iload 4, 0, 0), (35, 1, .iconst (-1), .iconst (-1), 0, 0), (36, 3, .if_icmp .lt 10, .if_icmp .lt 22, 0, 0), (39, 2, .iload 4, .iload 4, 0, 0), (41, 2, .bipush 20, .iconst 20, 0, 0), (43, 3, .if_icmp .le 5, .if_icmp .le 24, 0, 0), (46, 1, .iconst (-1), .iconst (-1), 0, 0), (47, 1, .ireturn, .ireturn, 0, 0), (48, 1, .aload_n 0, .aload 0, 0, 0), (49, 3, .getfield 40, .getstatic 1103, 2125, 40), (52, 1, .iload_n 3, .iload 3, 0, 0), (53, 3, .invokevirtual 148, .invokevirtual 1200901, 3210, 148), (56, 1, .aload_n 0, .aload 0, 0, 0), (57, 3, .getfield 40, .getstatic 1103, 2125, 40), (60, 1, .iload_n 1, .iload 1, 0, 0), (61, 1, .iload_n 2, .iload 2, 0, 0), (62, 1, .iload_n 3, .iload 3, 0, 0), (63, 3, .invokevirtual 151, .invokevirtual 1210913, 4004, 151), (66, 2, .istore 5, .istore 5, 0, 0), (68, 2, .iload 5, .iload 5, 0, 0), (70, 2, .ldc 154, .iconst 100000000, 4012, 154), (72, 3, .if_icmp .lt 6, .if_icmp .lt 40, 0, 0), (75, 2, .bipush (-2), .iconst (-2), 0, 0), (77, 1, .ireturn, .ireturn, 0, 0), (78, 2, .iload 4, .iload 4, 0, 0), (80, 1, .iconst (-1), .iconst (-1), 0, 0), (81, 3, .if_icmp .ne 6, .if_icmp .ne 45, 0, 0), (84, 2, .iload 5, .iload 5, 0, 0), (86, 1, .ireturn, .ireturn, 0, 0), (87, 1, .aload_n 0, .aload 0, 0, 0), (88, 3, .getfield 40, .getstatic 1103, 2125, 40), (91, 1, .iload_n 1, .iload 1, 0, 0), (92, 1, .iload_n 2, .iload 2, 0, 0), (93, 1, .iload_n 3, .iload 3, 0, 0), (94, 3, .invokevirtual 155, .invokevirtual 1230913, 4013, 155), (97, 2, .istore 6, .istore 6, 0, 0), (99, 2, .iload 4, .iload 4, 0, 0), (101, 2, .bipush 20, .iconst 20, 0, 0), (103, 3, .if_icmp .ne 10, .if_icmp .ne 59, 0, 0), (106, 2, .iload 6, .iload 6, 0, 0), (108, 1, .iconst 1, .iconst 1, 0, 0), (109, 1, .isub, .isub, 0, 0), (110, 3, .goto 12, .goto 63, 0, 0), (113, 1, .aload_n 0, .aload 0, 0, 0), (114, 3, .getfield 40, .getstatic 1103, 2125, 40), (117, 2, .iload 4, .iload 4, 0, 0), (119, 3, .invokevirtual 158, .invokevirtual 1240911, 4021, 158), (122, 1, .ireturn, .ireturn, 0, 0)]
set_option maxRecDepth 100000 in
def zi_146 : List Instr := [.aload 0, .getstatic 1102, .iload 1, .invokevirtual 970811, .ifCond .eq 14, .aload 0, .getstatic 1102, .iload 2, .invokevirtual 970811, .ifCond .eq 14, .iload 3, .iconst 99, .invokestatic 1710012, .ifCond .ne 16, .iconst (-1), .ireturn, .iload 4, .iconst (-1), .if_icmp .lt 22, .iload 4, .iconst 20, .if_icmp .le 24, .iconst (-1), .ireturn, .aload 0, .getstatic 1103, .iload 3, .invokevirtual 1200901, .aload 0, .getstatic 1103, .iload 1, .iload 2, .iload 3, .invokevirtual 1210913, .istore 5, .iload 5, .iconst 100000000, .if_icmp .lt 40, .iconst (-2), .ireturn, .iload 4, .iconst (-1), .if_icmp .ne 45, .iload 5, .ireturn, .aload 0, .getstatic 1103, .iload 1, .iload 2, .iload 3, .invokevirtual 1230913, .istore 6, .iload 4, .iconst 20, .if_icmp .ne 59, .iload 6, .iconst 1, .isub, .goto 63, .aload 0, .getstatic 1103, .iload 4, .invokevirtual 1240911, .ireturn]
set_option maxRecDepth 100000 in
theorem ze_146 : zc_146.map (fun e => e.2.2.2.1) = zi_146 := rfl
set_option maxRecDepth 100000 in
theorem zk_146 : zckm (zmd 146) false zc_146 zmd [97, 120, 121, 123, 124, 171] = true := by decide +kernel
noncomputable def zf_146 : zF := zden zX0 zi_146 (zlk [(97, zf_97), (120, zf_120), (121, zf_121), (123, zf_123), (124, zf_124), (171, zf_171)]) 7
/-- HillErrands.way -/
theorem zs_146 : ∀ d, 7 ≤ d → zSnd d (zmd 146) zf_146 := by
  intro d hd
  obtain ⟨d, rfl⟩ : ∃ k, d = k + 1 := ⟨d - 1, by omega⟩
  have h := zsound (d := d) (l := [(97, zf_97), (120, zf_120), (121, zf_121), (123, zf_123), (124, zf_124), (171, zf_171)]) zo_146 (fun h => by cases h) zk_146 (fun q hq => by
    simp only [List.mem_cons, List.not_mem_nil, or_false] at hq
    rcases hq with rfl | rfl | rfl | rfl | rfl | rfl
    · exact zs_97 d (by omega)
    · exact zs_120 d (by omega)
    · exact zs_121 d (by omega)
    · exact zs_123 d (by omega)
    · exact zs_124 d (by omega)
    · exact zs_171 d (by omega))
  rw [ze_146] at h
  exact h
set_option maxRecDepth 100000 in
def zc_147 : List zE := [(0, 1, .iload_n 1, .iload 1, 0, 0), (1, 2, .bipush 7, .iconst 7, 0, 0), (3, 3, .invokestatic 89, .invokestatic 1710012, 2160, 89), (6, 3, .ifCond .eq 34, .ifCond .eq 17, 0, 0), (9, 1, .aload_n 0, .aload 0, 0, 0), (10, 3, .getfield 36, .getstatic 1102, 2124, 36), (13, 1, .iload_n 2, .iload 2, 0, 0), (14, 3, .invokevirtual 97, .invokevirtual 970811, 2171, 97), (17, 3, .ifCond .eq 23, .ifCond .eq 17, 0, 0), (20, 1, .iload_n 3, .iload 3, 0, 0), (21, 2, .bipush 12, .iconst 12, 0, 0), (23, 3, .invokestatic 89, .invokestatic 1710012, 2160, 89), (26, 3, .ifCond .eq 14, .ifCond .eq 17, 0, 0), (29, 2, .iload 4, .iload 4, 0, 0), (31, 3, .sipush 999, .iconst 999, 0, 0), (34, 3, .invokestatic 89, .invokestatic 1710012, 2160, 89), (37, 3, .ifCond .ne 5, .ifCond .ne 19, 0, 0), (40, 1, .iconst 0, .iconst 0, 0, 0), (41, 1, .ireturn, .lreturn, 0, 0), (42, 1, .aload_n 0, .aload 0, 0, 0), (43, 3, .getfield 47, .getstatic 1104, 2126, 47), (46, 1, .iload_n 1, .iload 1, 0, 0), (47, 1, .iload_n 2, .iload 2, 0, 0), (48, 1, .iload_n 3, .iload 3, 0, 0), (49, 2, .iload 4, .iload 4, 0, 0), (51, 3, .invokevirtual 161, .invokevirtual 740604, 4029, 161), (54, 1, .iconst 1, .iconst 1, 0, 0), (55, 1, .ireturn, .lreturn, 0, 0)]
set_option maxRecDepth 100000 in
def zi_147 : List Instr := [.iload 1, .iconst 7, .invokestatic 1710012, .ifCond .eq 17, .aload 0, .getstatic 1102, .iload 2, .invokevirtual 970811, .ifCond .eq 17, .iload 3, .iconst 12, .invokestatic 1710012, .ifCond .eq 17, .iload 4, .iconst 999, .invokestatic 1710012, .ifCond .ne 19, .iconst 0, .lreturn, .aload 0, .getstatic 1104, .iload 1, .iload 2, .iload 3, .iload 4, .invokevirtual 740604, .iconst 1, .lreturn]
set_option maxRecDepth 100000 in
theorem ze_147 : zc_147.map (fun e => e.2.2.2.1) = zi_147 := rfl
set_option maxRecDepth 100000 in
theorem zk_147 : zckm (zmd 147) false zc_147 zmd [74, 97, 171] = true := by decide +kernel
noncomputable def zf_147 : zF := zden zX0 zi_147 (zlk [(74, zf_74), (97, zf_97), (171, zf_171)]) 5
/-- HillErrands.errand -/
theorem zs_147 : ∀ d, 2 ≤ d → zSnd d (zmd 147) zf_147 := by
  intro d hd
  obtain ⟨d, rfl⟩ : ∃ k, d = k + 1 := ⟨d - 1, by omega⟩
  have h := zsound (d := d) (l := [(74, zf_74), (97, zf_97), (171, zf_171)]) zo_147 (fun h => by cases h) zk_147 (fun q hq => by
    simp only [List.mem_cons, List.not_mem_nil, or_false] at hq
    rcases hq with rfl | rfl | rfl
    · exact zs_74 d (by omega)
    · exact zs_97 d (by omega)
    · exact zs_171 d (by omega))
  rw [ze_147] at h
  exact h
set_option maxRecDepth 100000 in
def zc_173 : List zE := [(0, 1, .iload_n 0, .iload 0, 0, 0), (1, 2, .ldc 154, .iconst 100000000, 4012, 154), (3, 3, .if_icmp .lt 8, .if_icmp .lt 5, 0, 0), (6, 2, .bipush (-2), .iconst (-2), 0, 0), (8, 3, .goto 4, .goto 6, 0, 0), (11, 1, .iload_n 0, .iload 0, 0, 0), (12, 1, .ireturn, .ireturn, 0, 0)]
set_option maxRecDepth 100000 in
def zi_173 : List Instr := [.iload 0, .iconst 100000000, .if_icmp .lt 5, .iconst (-2), .goto 6, .iload 0, .ireturn]
set_option maxRecDepth 100000 in
theorem ze_173 : zc_173.map (fun e => e.2.2.2.1) = zi_173 := rfl
set_option maxRecDepth 100000 in
theorem zk_173 : zckm (zmd 173) false zc_173 zmd [] = true := by decide +kernel
noncomputable def zf_173 : zF := zden zX0 zi_173 (zlk []) 1
/-- HillErrands.orNoWay -/
theorem zs_173 : ∀ d, 1 ≤ d → zSnd d (zmd 173) zf_173 := by
  intro d hd
  obtain ⟨d, rfl⟩ : ∃ k, d = k + 1 := ⟨d - 1, by omega⟩
  have h := zsound (d := d) (l := []) zo_173 (fun h => by cases h) zk_173 (fun q hq => by cases hq)
  rw [ze_173] at h
  exact h
set_option maxRecDepth 100000 in
def zc_148 : List zE := [(0, 1, .aload_n 0, .aload 0, 0, 0), (1, 3, .getfield 36, .getstatic 1102, 2124, 36), (4, 1, .iload_n 1, .iload 1, 0, 0), (5, 3, .invokevirtual 97, .invokevirtual 970811, 2171, 97), (8, 3, .ifCond .eq 25, .ifCond .eq 16, 0, 0), (11, 1, .iload_n 2, .iload 2, 0, 0), (12, 1, .iconst 1, .iconst 1, 0, 0), (13, 3, .if_icmp .lt 20, .if_icmp .lt 16, 0, 0), (16, 1, .iload_n 2, .iload 2, 0, 0), (17, 2, .bipush 8, .iconst 8, 0, 0), (19, 3, .if_icmp .gt 14, .if_icmp .gt 16, 0, 0), (22, 1, .iload_n 2, .iload 2, 0, 0), (23, 1, .aload_n 0, .aload 0, 0, 0), (24, 3, .getfield 23, .getstatic 1100, 2122, 23), (27, 3, .invokevirtual 118, .invokevirtual 900710, 2204, 118), (30, 3, .if_icmp .le 5, .if_icmp .le 18, 0, 0), (33, 1, .iconst (-1), .iconst (-1), 0, 0), (34, 1, .ireturn, .ireturn, 0, 0), (35, 1, .aload_n 0, .aload 0, 0, 0), (36, 3, .getfield 47, .getstatic 1104, 2126, 47), (39, 1, .aload_n 0, .aload 0, 0, 0), (40, 3, .getfield 23, .getstatic 1100, 2122, 23), (43, 1, .iload_n 2, .iload 2, 0, 0), (44, 3, .invokevirtual 165, .invokevirtual 780612, 4037, 165), (47, 1, .istore_n 3, .istore 3, 0, 0), (48, 1, .aload_n 0, .aload 0, 0, 0), (49, 3, .getfield 23, .getstatic 1100, 2122, 23), (52, 3, .invokevirtual 126, .invokevirtual 950700, 3158, 126), (55, 1, .iload_n 3, .iload 3, 0, 0), (56, 3, .ifCond .ne 6, .ifCond .ne 32, 0, 0), (59, 2, .bipush (-3), .iconst (-3), 0, 0), (61, 1, .ireturn, .ireturn, 0, 0), (62, 1, .aload_n 0, .aload 0, 0, 0), (63, 3, .getfield 47, .getstatic 1104, 2126, 47), (66, 1, .iload_n 1, .iload 1, 0, 0), (67, 1, .iload_n 2, .iload 2, 0, 0), (68, 3, .invokevirtual 169, .invokevirtual 790612, 4042, 169), (71, 3, .invokestatic 173, .invokestatic 1730011, 4048, 173), (74, 1, .ireturn, .ireturn, 0, 0)]
set_option maxRecDepth 100000 in
def zi_148 : List Instr := [.aload 0, .getstatic 1102, .iload 1, .invokevirtual 970811, .ifCond .eq 16, .iload 2, .iconst 1, .if_icmp .lt 16, .iload 2, .iconst 8, .if_icmp .gt 16, .iload 2, .aload 0, .getstatic 1100, .invokevirtual 900710, .if_icmp .le 18, .iconst (-1), .ireturn, .aload 0, .getstatic 1104, .aload 0, .getstatic 1100, .iload 2, .invokevirtual 780612, .istore 3, .aload 0, .getstatic 1100, .invokevirtual 950700, .iload 3, .ifCond .ne 32, .iconst (-3), .ireturn, .aload 0, .getstatic 1104, .iload 1, .iload 2, .invokevirtual 790612, .invokestatic 1730011, .ireturn]
set_option maxRecDepth 100000 in
theorem ze_148 : zc_148.map (fun e => e.2.2.2.1) = zi_148 := rfl
set_option maxRecDepth 100000 in
theorem zk_148 : zckm (zmd 148) false zc_148 zmd [78, 79, 90, 95, 97, 173] = true := by decide +kernel
noncomputable def zf_148 : zF := zden zX0 zi_148 (zlk [(78, zf_78), (79, zf_79), (90, zf_90), (95, zf_95), (97, zf_97), (173, zf_173)]) 4
/-- HillErrands.round -/
theorem zs_148 : ∀ d, 8 ≤ d → zSnd d (zmd 148) zf_148 := by
  intro d hd
  obtain ⟨d, rfl⟩ : ∃ k, d = k + 1 := ⟨d - 1, by omega⟩
  have h := zsound (d := d) (l := [(78, zf_78), (79, zf_79), (90, zf_90), (95, zf_95), (97, zf_97), (173, zf_173)]) zo_148 (fun h => by cases h) zk_148 (fun q hq => by
    simp only [List.mem_cons, List.not_mem_nil, or_false] at hq
    rcases hq with rfl | rfl | rfl | rfl | rfl | rfl
    · exact zs_78 d (by omega)
    · exact zs_79 d (by omega)
    · exact zs_90 d (by omega)
    · exact zs_95 d (by omega)
    · exact zs_97 d (by omega)
    · exact zs_173 d (by omega))
  rw [ze_148] at h
  exact h
set_option maxRecDepth 100000 in
def zc_172 : List zE := [(0, 1, .iload_n 0, .iload 0, 0, 0), (1, 3, .ifCond .le 15, .ifCond .le 10, 0, 0), (4, 1, .iload_n 0, .iload 0, 0, 0), (5, 1, .iload_n 1, .iload 1, 0, 0), (6, 1, .iconst (-1), .iconst (-1), 0, 0), (7, 1, .ixor, .ixor, 0, 0), (8, 1, .iand, .iand, 0, 0), (9, 3, .ifCond .ne 7, .ifCond .ne 10, 0, 0), (12, 1, .iconst 1, .iconst 1, 0, 0), (13, 3, .goto 4, .goto 11, 0, 0), (16, 1, .iconst 0, .iconst 0, 0, 0), (17, 1, .ireturn, .lreturn, 0, 0)]
set_option maxRecDepth 100000 in
def zi_172 : List Instr := [.iload 0, .ifCond .le 10, .iload 0, .iload 1, .iconst (-1), .ixor, .iand, .ifCond .ne 10, .iconst 1, .goto 11, .iconst 0, .lreturn]
set_option maxRecDepth 100000 in
theorem ze_172 : zc_172.map (fun e => e.2.2.2.1) = zi_172 := rfl
set_option maxRecDepth 100000 in
theorem zk_172 : zckm (zmd 172) false zc_172 zmd [] = true := by decide +kernel
noncomputable def zf_172 : zF := zden zX0 zi_172 (zlk []) 2
/-- HillErrands.isSetOf -/
theorem zs_172 : ∀ d, 1 ≤ d → zSnd d (zmd 172) zf_172 := by
  intro d hd
  obtain ⟨d, rfl⟩ : ∃ k, d = k + 1 := ⟨d - 1, by omega⟩
  have h := zsound (d := d) (l := []) zo_172 (fun h => by cases h) zk_172 (fun q hq => by cases hq)
  rw [ze_172] at h
  exact h
set_option maxRecDepth 100000 in
def zc_149 : List zE := [(0, 1, .aload_n 0, .aload 0, 0, 0), (1, 3, .getfield 36, .getstatic 1102, 2124, 36), (4, 1, .iload_n 1, .iload 1, 0, 0), (5, 3, .invokevirtual 97, .invokevirtual 970811, 2171, 97), (8, 3, .ifCond .eq 17, .ifCond .eq 11, 0, 0), (11, 1, .iload_n 2, .iload 2, 0, 0), (12, 1, .aload_n 0, .aload 0, 0, 0), (13, 3, .getfield 47, .getstatic 1104, 2126, 47), (16, 3, .getfield 176, .getfield 606, 2010, 176), (19, 3, .invokestatic 179, .invokestatic 1720012, 4055, 179), (22, 3, .ifCond .ne 5, .ifCond .ne 13, 0, 0), (25, 1, .iconst (-1), .iconst (-1), 0, 0), (26, 1, .ireturn, .ireturn, 0, 0), (27, 1, .iload_n 3, .iload 3, 0, 0), (28, 1, .iload_n 2, .iload 2, 0, 0), (29, 3, .invokestatic 182, .invokestatic 11, 4058, 182), (32, 1, .iconst 1, .iconst 1, 0, 0), (33, 1, .isub, .isub, 0, 0), (34, 3, .invokestatic 89, .invokestatic 1710012, 2160, 89), (37, 2, .istore 4, .istore 4, 0, 0), (39, 1, .iload_n 3, .iload 3, 0, 0), (40, 1, .iconst (-1), .iconst (-1), 0, 0), (41, 3, .if_icmp .eq 16, .if_icmp .eq 30, 0, 0), (44, 1, .iload_n 3, .iload 3, 0, 0), (45, 2, .bipush 10, .iconst 10, 0, 0), (47, 3, .if_icmp .eq 10, .if_icmp .eq 30, 0, 0), (50, 2, .iload 4, .iload 4, 0, 0), (52, 3, .ifCond .ne 5, .ifCond .ne 30, 0, 0), (55, 1, .iconst (-1), .iconst (-1), 0, 0), (56, 1, .ireturn, .ireturn, 0, 0), (57, 1, .aload_n 0, .aload 0, 0, 0), (58, 3, .getfield 47, .getstatic 1104, 2126, 47), (61, 1, .iload_n 2, .iload 2, 0, 0), (62, 3, .invokevirtual 187, .invokevirtual 770601, 4064, 187), (65, 1, .iload_n 3, .iload 3, 0, 0), (66, 2, .bipush 10, .iconst 10, 0, 0), (68, 3, .if_icmp .ne 16, .if_icmp .ne 44, 0, 0), (71, 1, .aload_n 0, .aload 0, 0, 0), (72, 3, .getfield 47, .getstatic 1104, 2126, 47), (75, 1, .iload_n 1, .iload 1, 0, 0), (76, 1, .iload_n 2, .iload 2, 0, 0), (77, 3, .invokevirtual 188, .invokevirtual 800612, 4072, 188), (80, 3, .invokestatic 173, .invokestatic 1730011, 4048, 173), (83, 1, .ireturn, .ireturn, 0, 0), (84, 1, .aload_n 0, .aload 0, 0, 0), (85, 3, .getfield 47, .getstatic 1104, 2126, 47), (88, 1, .iload_n 1, .iload 1, 0, 0), (89, 1, .iload_n 2, .iload 2, 0, 0), (90, 3, .invokevirtual 191, .invokevirtual 810612, 4076, 191), (93, 2, .istore 5, .istore 5, 0, 0), (95, 2, .iload 5, .iload 5, 0, 0), (97, 2, .ldc 154, .iconst 100000000, 4012, 154), (99, 3, .if_icmp .lt 6, .if_icmp .lt 55, 0, 0), (102, 2, .bipush (-2), .iconst (-2), 0, 0), (104, 1, .ireturn, .ireturn, 0, 0), (105, 1, .iload_n 3, .iload 3, 0, 0), (106, 1, .iconst (-1), .iconst (-1), 0, 0), (107, 3, .if_icmp .ne 8, .if_icmp .ne 60, 0, 0), (110, 2, .iload 5, .iload 5, 0, 0), (112, 3, .goto 13, .goto 66, 0, 0), (115, 1, .aload_n 0, .aload 0, 0, 0), (116, 3, .getfield 47, .getstatic 1104, 2126, 47), (119, 1, .iload_n 1, .iload 1, 0, 0), (120, 1, .iload_n 2, .iload 2, 0, 0), (121, 1, .iload_n 3, .iload 3, 0, 0), (122, 3, .invokevirtual 194, .invokevirtual 840613, 4089, 194), (125, 1, .ireturn, .ireturn, 0, 0)]
set_option maxRecDepth 100000 in
def zi_149 : List Instr := [.aload 0, .getstatic 1102, .iload 1, .invokevirtual 970811, .ifCond .eq 11, .iload 2, .aload 0, .getstatic 1104, .getfield 606, .invokestatic 1720012, .ifCond .ne 13, .iconst (-1), .ireturn, .iload 3, .iload 2, .invokestatic 11, .iconst 1, .isub, .invokestatic 1710012, .istore 4, .iload 3, .iconst (-1), .if_icmp .eq 30, .iload 3, .iconst 10, .if_icmp .eq 30, .iload 4, .ifCond .ne 30, .iconst (-1), .ireturn, .aload 0, .getstatic 1104, .iload 2, .invokevirtual 770601, .iload 3, .iconst 10, .if_icmp .ne 44, .aload 0, .getstatic 1104, .iload 1, .iload 2, .invokevirtual 800612, .invokestatic 1730011, .ireturn, .aload 0, .getstatic 1104, .iload 1, .iload 2, .invokevirtual 810612, .istore 5, .iload 5, .iconst 100000000, .if_icmp .lt 55, .iconst (-2), .ireturn, .iload 3, .iconst (-1), .if_icmp .ne 60, .iload 5, .goto 66, .aload 0, .getstatic 1104, .iload 1, .iload 2, .iload 3, .invokevirtual 840613, .ireturn]
set_option maxRecDepth 100000 in
theorem ze_149 : zc_149.map (fun e => e.2.2.2.1) = zi_149 := rfl
set_option maxRecDepth 100000 in
theorem zk_149 : zckm (zmd 149) false zc_149 zmd [0, 77, 80, 81, 84, 97, 171, 172, 173] = true := by decide +kernel
noncomputable def zf_149 : zF := zden zX0 zi_149 (zlk [(0, zf_0), (77, zf_77), (80, zf_80), (81, zf_81), (84, zf_84), (97, zf_97), (171, zf_171), (172, zf_172), (173, zf_173)]) 6
/-- HillErrands.best -/
theorem zs_149 : ∀ d, 8 ≤ d → zSnd d (zmd 149) zf_149 := by
  intro d hd
  obtain ⟨d, rfl⟩ : ∃ k, d = k + 1 := ⟨d - 1, by omega⟩
  have h := zsound (d := d) (l := [(0, zf_0), (77, zf_77), (80, zf_80), (81, zf_81), (84, zf_84), (97, zf_97), (171, zf_171), (172, zf_172), (173, zf_173)]) zo_149 (fun h => by cases h) zk_149 (fun q hq => by
    simp only [List.mem_cons, List.not_mem_nil, or_false] at hq
    rcases hq with rfl | rfl | rfl | rfl | rfl | rfl | rfl | rfl | rfl
    · exact zs_0 d (by omega)
    · exact zs_77 d (by omega)
    · exact zs_80 d (by omega)
    · exact zs_81 d (by omega)
    · exact zs_84 d (by omega)
    · exact zs_97 d (by omega)
    · exact zs_171 d (by omega)
    · exact zs_172 d (by omega)
    · exact zs_173 d (by omega))
  rw [ze_149] at h
  exact h
set_option maxRecDepth 100000 in
def zc_150 : List zE := [(0, 1, .aload_n 0, .aload 0, 0, 0), (1, 3, .getfield 36, .getstatic 1102, 2124, 36), (4, 1, .iload_n 1, .iload 1, 0, 0), (5, 3, .invokevirtual 97, .invokevirtual 970811, 2171, 97), (8, 3, .ifCond .eq 20, .ifCond .eq 13, 0, 0), (11, 1, .iload_n 2, .iload 2, 0, 0), (12, 2, .ldc 197, .iconst 99999, 4097, 197), (14, 3, .invokestatic 89, .invokestatic 1710012, 2160, 89), (17, 3, .ifCond .eq 11, .ifCond .eq 13, 0, 0), (20, 1, .iload_n 3, .iload 3, 0, 0), (21, 1, .iconst 2, .iconst 2, 0, 0), (22, 3, .invokestatic 89, .invokestatic 1710012, 2160, 89), (25, 3, .ifCond .ne 5, .ifCond .ne 15, 0, 0), (28, 1, .iconst (-1), .iconst (-1), 0, 0), (29, 1, .ireturn, .ireturn, 0, 0), (30, 1, .aload_n 0, .aload 0, 0, 0), (31, 3, .getfield 47, .getstatic 1104, 2126, 47), (34, 1, .aload_n 0, .aload 0, 0, 0), (35, 3, .getfield 47, .getstatic 1104, 2126, 47), (38, 3, .getfield 176, .getfield 606, 2010, 176), (41, 3, .invokevirtual 187, .invokevirtual 770601, 4064, 187), (44, 1, .aload_n 0, .aload 0, 0, 0), (45, 3, .getfield 47, .getstatic 1104, 2126, 47), (48, 1, .iload_n 1, .iload 1, 0, 0), (49, 3, .invokevirtual 198, .invokevirtual 850601, 4098, 198), (52, 1, .aload_n 0, .aload 0, 0, 0), (53, 3, .getfield 47, .getstatic 1104, 2126, 47), (56, 1, .iload_n 1, .iload 1, 0, 0), (57, 1, .iload_n 2, .iload 2, 0, 0), (58, 3, .invokevirtual 201, .invokevirtual 880612, 4110, 201), (61, 2, .istore 4, .istore 4, 0, 0), (63, 1, .iload_n 3, .iload 3, 0, 0), (64, 3, .ifCond .ne 13, .ifCond .ne 38, 0, 0), (67, 1, .aload_n 0, .aload 0, 0, 0), (68, 3, .getfield 47, .getstatic 1104, 2126, 47), (71, 2, .iload 4, .iload 4, 0, 0), (73, 3, .invokevirtual 204, .invokevirtual 750611, 4122, 204), (76, 1, .ireturn, .ireturn, 0, 0), (77, 1, .iload_n 3, .iload 3, 0, 0), (78, 1, .iconst 1, .iconst 1, 0, 0), (79, 3, .if_icmp .ne 8, .if_icmp .ne 43, 0, 0), (82, 2, .iload 4, .iload 4, 0, 0), (84, 3, .goto 13, .goto 48, 0, 0), (87, 1, .aload_n 0, .aload 0, 0, 0), (88, 3, .getfield 47, .getstatic 1104, 2126, 47), (91, 1, .iload_n 1, .iload 1, 0, 0), (92, 2, .iload 4, .iload 4, 0, 0), (94, 3, .invokevirtual 207, .invokevirtual 870612, 4123, 207), (97, 1, .ireturn, .ireturn, 0, 0)]
set_option maxRecDepth 100000 in
def zi_150 : List Instr := [.aload 0, .getstatic 1102, .iload 1, .invokevirtual 970811, .ifCond .eq 13, .iload 2, .iconst 99999, .invokestatic 1710012, .ifCond .eq 13, .iload 3, .iconst 2, .invokestatic 1710012, .ifCond .ne 15, .iconst (-1), .ireturn, .aload 0, .getstatic 1104, .aload 0, .getstatic 1104, .getfield 606, .invokevirtual 770601, .aload 0, .getstatic 1104, .iload 1, .invokevirtual 850601, .aload 0, .getstatic 1104, .iload 1, .iload 2, .invokevirtual 880612, .istore 4, .iload 3, .ifCond .ne 38, .aload 0, .getstatic 1104, .iload 4, .invokevirtual 750611, .ireturn, .iload 3, .iconst 1, .if_icmp .ne 43, .iload 4, .goto 48, .aload 0, .getstatic 1104, .iload 1, .iload 4, .invokevirtual 870612, .ireturn]
set_option maxRecDepth 100000 in
theorem ze_150 : zc_150.map (fun e => e.2.2.2.1) = zi_150 := rfl
set_option maxRecDepth 100000 in
theorem zk_150 : zckm (zmd 150) false zc_150 zmd [75, 77, 85, 87, 88, 97, 171] = true := by decide +kernel
noncomputable def zf_150 : zF := zden zX0 zi_150 (zlk [(75, zf_75), (77, zf_77), (85, zf_85), (87, zf_87), (88, zf_88), (97, zf_97), (171, zf_171)]) 5
/-- HillErrands.day -/
theorem zs_150 : ∀ d, 8 ≤ d → zSnd d (zmd 150) zf_150 := by
  intro d hd
  obtain ⟨d, rfl⟩ : ∃ k, d = k + 1 := ⟨d - 1, by omega⟩
  have h := zsound (d := d) (l := [(75, zf_75), (77, zf_77), (85, zf_85), (87, zf_87), (88, zf_88), (97, zf_97), (171, zf_171)]) zo_150 (fun h => by cases h) zk_150 (fun q hq => by
    simp only [List.mem_cons, List.not_mem_nil, or_false] at hq
    rcases hq with rfl | rfl | rfl | rfl | rfl | rfl | rfl
    · exact zs_75 d (by omega)
    · exact zs_77 d (by omega)
    · exact zs_85 d (by omega)
    · exact zs_87 d (by omega)
    · exact zs_88 d (by omega)
    · exact zs_97 d (by omega)
    · exact zs_171 d (by omega))
  rw [ze_150] at h
  exact h
set_option maxRecDepth 100000 in
def zc_151 : List zE := [(0, 1, .aload_n 0, .aload 0, 0, 0), (1, 3, .getfield 36, .getstatic 1102, 2124, 36), (4, 1, .iload_n 1, .iload 1, 0, 0), (5, 3, .invokevirtual 97, .invokevirtual 970811, 2171, 97), (8, 3, .ifCond .eq 23, .ifCond .eq 14, 0, 0), (11, 1, .aload_n 0, .aload 0, 0, 0), (12, 3, .getfield 36, .getstatic 1102, 2124, 36), (15, 1, .iload_n 2, .iload 2, 0, 0), (16, 3, .invokevirtual 97, .invokevirtual 970811, 2171, 97), (19, 3, .ifCond .eq 12, .ifCond .eq 14, 0, 0), (22, 1, .iload_n 3, .iload 3, 0, 0), (23, 2, .bipush 99, .iconst 99, 0, 0), (25, 3, .invokestatic 89, .invokestatic 1710012, 2160, 89), (28, 3, .ifCond .ne 5, .ifCond .ne 16, 0, 0), (31, 1, .iconst (-1), .iconst (-1), 0, 0), (32, 1, .ireturn, .ireturn, 0, 0), (33, 1, .aload_n 0, .aload 0, 0, 0), (34, 3, .getfield 51, .getstatic 1105, 2127, 51), (37, 1, .iload_n 1, .iload 1, 0, 0), (38, 1, .iload_n 2, .iload 2, 0, 0), (39, 1, .iload_n 3, .iload 3, 0, 0), (40, 3, .invokevirtual 210, .invokevirtual 160113, 4128, 210), (43, 1, .ireturn, .ireturn, 0, 0)]
set_option maxRecDepth 100000 in
def zi_151 : List Instr := [.aload 0, .getstatic 1102, .iload 1, .invokevirtual 970811, .ifCond .eq 14, .aload 0, .getstatic 1102, .iload 2, .invokevirtual 970811, .ifCond .eq 14, .iload 3, .iconst 99, .invokestatic 1710012, .ifCond .ne 16, .iconst (-1), .ireturn, .aload 0, .getstatic 1105, .iload 1, .iload 2, .iload 3, .invokevirtual 160113, .ireturn]
set_option maxRecDepth 100000 in
theorem ze_151 : zc_151.map (fun e => e.2.2.2.1) = zi_151 := rfl
set_option maxRecDepth 100000 in
theorem zk_151 : zckm (zmd 151) false zc_151 zmd [16, 97, 171] = true := by decide +kernel
noncomputable def zf_151 : zF := zden zX0 zi_151 (zlk [(16, zf_16), (97, zf_97), (171, zf_171)]) 4
/-- HillErrands.person -/
theorem zs_151 : ∀ d, 2 ≤ d → zSnd d (zmd 151) zf_151 := by
  intro d hd
  obtain ⟨d, rfl⟩ : ∃ k, d = k + 1 := ⟨d - 1, by omega⟩
  have h := zsound (d := d) (l := [(16, zf_16), (97, zf_97), (171, zf_171)]) zo_151 (fun h => by cases h) zk_151 (fun q hq => by
    simp only [List.mem_cons, List.not_mem_nil, or_false] at hq
    rcases hq with rfl | rfl | rfl
    · exact zs_16 d (by omega)
    · exact zs_97 d (by omega)
    · exact zs_171 d (by omega))
  rw [ze_151] at h
  exact h
set_option maxRecDepth 100000 in
def zc_152 : List zE := [(0, 1, .iload_n 1, .iload 1, 0, 0), (1, 2, .bipush 7, .iconst 7, 0, 0), (3, 3, .invokestatic 89, .invokestatic 1710012, 2160, 89), (6, 3, .ifCond .eq 35, .ifCond .eq 18, 0, 0), (9, 1, .aload_n 0, .aload 0, 0, 0), (10, 3, .getfield 36, .getstatic 1102, 2124, 36), (13, 1, .iload_n 2, .iload 2, 0, 0), (14, 3, .invokevirtual 97, .invokevirtual 970811, 2171, 97), (17, 3, .ifCond .eq 24, .ifCond .eq 18, 0, 0), (20, 1, .aload_n 0, .aload 0, 0, 0), (21, 3, .getfield 36, .getstatic 1102, 2124, 36), (24, 1, .iload_n 3, .iload 3, 0, 0), (25, 3, .invokevirtual 97, .invokevirtual 970811, 2171, 97), (28, 3, .ifCond .eq 13, .ifCond .eq 18, 0, 0), (31, 2, .iload 4, .iload 4, 0, 0), (33, 2, .bipush 99, .iconst 99, 0, 0), (35, 3, .invokestatic 89, .invokestatic 1710012, 2160, 89), (38, 3, .ifCond .ne 5, .ifCond .ne 20, 0, 0), (41, 1, .iconst 0, .iconst 0, 0, 0), (42, 1, .ireturn, .lreturn, 0, 0), (43, 1, .aload_n 0, .aload 0, 0, 0), (44, 3, .getfield 51, .getstatic 1105, 2127, 51), (47, 1, .iload_n 1, .iload 1, 0, 0), (48, 1, .iload_n 2, .iload 2, 0, 0), (49, 1, .iload_n 3, .iload 3, 0, 0), (50, 2, .iload 4, .iload 4, 0, 0), (52, 3, .invokevirtual 213, .invokevirtual 200104, 4136, 213), (55, 1, .iconst 1, .iconst 1, 0, 0), (56, 1, .ireturn, .lreturn, 0, 0)]
set_option maxRecDepth 100000 in
def zi_152 : List Instr := [.iload 1, .iconst 7, .invokestatic 1710012, .ifCond .eq 18, .aload 0, .getstatic 1102, .iload 2, .invokevirtual 970811, .ifCond .eq 18, .aload 0, .getstatic 1102, .iload 3, .invokevirtual 970811, .ifCond .eq 18, .iload 4, .iconst 99, .invokestatic 1710012, .ifCond .ne 20, .iconst 0, .lreturn, .aload 0, .getstatic 1105, .iload 1, .iload 2, .iload 3, .iload 4, .invokevirtual 200104, .iconst 1, .lreturn]
set_option maxRecDepth 100000 in
theorem ze_152 : zc_152.map (fun e => e.2.2.2.1) = zi_152 := rfl
set_option maxRecDepth 100000 in
theorem zk_152 : zckm (zmd 152) false zc_152 zmd [20, 97, 171] = true := by decide +kernel
noncomputable def zf_152 : zF := zden zX0 zi_152 (zlk [(20, zf_20), (97, zf_97), (171, zf_171)]) 5
/-- HillErrands.thing -/
theorem zs_152 : ∀ d, 2 ≤ d → zSnd d (zmd 152) zf_152 := by
  intro d hd
  obtain ⟨d, rfl⟩ : ∃ k, d = k + 1 := ⟨d - 1, by omega⟩
  have h := zsound (d := d) (l := [(20, zf_20), (97, zf_97), (171, zf_171)]) zo_152 (fun h => by cases h) zk_152 (fun q hq => by
    simp only [List.mem_cons, List.not_mem_nil, or_false] at hq
    rcases hq with rfl | rfl | rfl
    · exact zs_20 d (by omega)
    · exact zs_97 d (by omega)
    · exact zs_171 d (by omega))
  rw [ze_152] at h
  exact h
set_option maxRecDepth 100000 in
def zc_153 : List zE := [(0, 1, .iload_n 1, .iload 1, 0, 0), (1, 3, .ifCond .lt 37, .ifCond .lt 19, 0, 0), (4, 1, .iload_n 1, .iload 1, 0, 0), (5, 1, .aload_n 0, .aload 0, 0, 0), (6, 3, .getfield 51, .getstatic 1105, 2127, 51), (9, 3, .getfield 216, .getfield 110, 1172, 216), (12, 3, .if_icmp .ge 26, .if_icmp .ge 19, 0, 0), (15, 1, .iload_n 2, .iload 2, 0, 0), (16, 2, .bipush 7, .iconst 7, 0, 0), (18, 3, .invokestatic 89, .invokestatic 1710012, 2160, 89), (21, 3, .ifCond .eq 17, .ifCond .eq 19, 0, 0), (24, 1, .aload_n 0, .aload 0, 0, 0), (25, 3, .getfield 51, .getstatic 1105, 2127, 51), (28, 3, .getfield 219, .getfield 111, 1174, 219), (31, 1, .iload_n 2, .iload 2, 0, 0), (32, 1, .ishr, .ishr, 0, 0), (33, 1, .iconst 1, .iconst 1, 0, 0), (34, 1, .iand, .iand, 0, 0), (35, 3, .ifCond .ne 6, .ifCond .ne 21, 0, 0), (38, 2, .ldc 222, .iconst (-2000000), 4144, 222), (40, 1, .ireturn, .ireturn, 0, 0), (41, 1, .aload_n 0, .aload 0, 0, 0), (42, 3, .getfield 51, .getstatic 1105, 2127, 51), (45, 1, .iconst 1, .iconst 1, 0, 0), (46, 1, .iload_n 2, .iload 2, 0, 0), (47, 1, .ishl, .ishl, 0, 0), (48, 3, .invokevirtual 223, .invokevirtual 210101, 4145, 223), (51, 1, .aload_n 0, .aload 0, 0, 0), (52, 3, .getfield 51, .getstatic 1105, 2127, 51), (55, 1, .iload_n 1, .iload 1, 0, 0), (56, 1, .iload_n 2, .iload 2, 0, 0), (57, 3, .invokevirtual 224, .invokevirtual 220112, 4150, 224), (60, 1, .ireturn, .ireturn, 0, 0)]
set_option maxRecDepth 100000 in
def zi_153 : List Instr := [.iload 1, .ifCond .lt 19, .iload 1, .aload 0, .getstatic 1105, .getfield 110, .if_icmp .ge 19, .iload 2, .iconst 7, .invokestatic 1710012, .ifCond .eq 19, .aload 0, .getstatic 1105, .getfield 111, .iload 2, .ishr, .iconst 1, .iand, .ifCond .ne 21, .iconst (-2000000), .ireturn, .aload 0, .getstatic 1105, .iconst 1, .iload 2, .ishl, .invokevirtual 210101, .aload 0, .getstatic 1105, .iload 1, .iload 2, .invokevirtual 220112, .ireturn]
set_option maxRecDepth 100000 in
theorem ze_153 : zc_153.map (fun e => e.2.2.2.1) = zi_153 := rfl
set_option maxRecDepth 100000 in
theorem zk_153 : zckm (zmd 153) false zc_153 zmd [21, 22, 171] = true := by decide +kernel
noncomputable def zf_153 : zF := zden zX0 zi_153 (zlk [(21, zf_21), (22, zf_22), (171, zf_171)]) 3
/-- HillErrands.brought -/
theorem zs_153 : ∀ d, 8 ≤ d → zSnd d (zmd 153) zf_153 := by
  intro d hd
  obtain ⟨d, rfl⟩ : ∃ k, d = k + 1 := ⟨d - 1, by omega⟩
  have h := zsound (d := d) (l := [(21, zf_21), (22, zf_22), (171, zf_171)]) zo_153 (fun h => by cases h) zk_153 (fun q hq => by
    simp only [List.mem_cons, List.not_mem_nil, or_false] at hq
    rcases hq with rfl | rfl | rfl
    · exact zs_21 d (by omega)
    · exact zs_22 d (by omega)
    · exact zs_171 d (by omega))
  rw [ze_153] at h
  exact h
set_option maxRecDepth 100000 in
def zc_154 : List zE := [(0, 1, .iload_n 2, .iload 2, 0, 0), (1, 2, .bipush 7, .iconst 7, 0, 0), (3, 3, .invokestatic 89, .invokestatic 1710012, 2160, 89), (6, 1, .istore_n 3, .istore 3, 0, 0), (7, 1, .iload_n 1, .iload 1, 0, 0), (8, 1, .aload_n 0, .aload 0, 0, 0), (9, 3, .getfield 51, .getstatic 1105, 2127, 51), (12, 3, .getfield 219, .getfield 111, 1174, 219), (15, 3, .invokestatic 179, .invokestatic 1720012, 4055, 179), (18, 3, .ifCond .eq 18, .ifCond .eq 18, 0, 0), (21, 1, .iload_n 2, .iload 2, 0, 0), (22, 1, .iconst (-1), .iconst (-1), 0, 0), (23, 3, .if_icmp .eq 15, .if_icmp .eq 20, 0, 0), (26, 1, .iload_n 2, .iload 2, 0, 0), (27, 2, .bipush 10, .iconst 10, 0, 0), (29, 3, .if_icmp .eq 9, .if_icmp .eq 20, 0, 0), (32, 1, .iload_n 3, .iload 3, 0, 0), (33, 3, .ifCond .ne 5, .ifCond .ne 20, 0, 0), (36, 1, .iconst (-1), .iconst (-1), 0, 0), (37, 1, .ireturn, .ireturn, 0, 0), (38, 1, .iload_n 3, .iload 3, 0, 0), (39, 3, .ifCond .eq 14, .ifCond .eq 30, 0, 0), (42, 1, .iload_n 1, .iload 1, 0, 0), (43, 1, .iload_n 2, .iload 2, 0, 0), (44, 1, .ishr, .ishr, 0, 0), (45, 1, .iconst 1, .iconst 1, 0, 0), (46, 1, .iand, .iand, 0, 0), (47, 3, .ifCond .ne 6, .ifCond .ne 30, 0, 0), (50, 2, .bipush (-2), .iconst (-2), 0, 0), (52, 1, .ireturn, .ireturn, 0, 0), (53, 1, .aload_n 0, .aload 0, 0, 0), (54, 3, .getfield 51, .getstatic 1105, 2127, 51), (57, 1, .iload_n 1, .iload 1, 0, 0), (58, 3, .invokevirtual 223, .invokevirtual 210101, 4145, 223), (61, 1, .aload_n 0, .aload 0, 0, 0), (62, 3, .getfield 51, .getstatic 1105, 2127, 51), (65, 1, .iload_n 1, .iload 1, 0, 0), (66, 3, .invokevirtual 227, .invokevirtual 230101, 4161, 227), (69, 1, .iload_n 3, .iload 3, 0, 0), (70, 3, .ifCond .eq 12, .ifCond .eq 45, 0, 0), (73, 1, .aload_n 0, .aload 0, 0, 0), (74, 3, .getfield 51, .getstatic 1105, 2127, 51), (77, 1, .iload_n 2, .iload 2, 0, 0), (78, 3, .invokevirtual 230, .invokevirtual 260111, 4175, 230), (81, 1, .ireturn, .ireturn, 0, 0), (82, 1, .iload_n 2, .iload 2, 0, 0), (83, 1, .iconst (-1), .iconst (-1), 0, 0), (84, 3, .if_icmp .ne 14, .if_icmp .ne 53, 0, 0), (87, 1, .aload_n 0, .aload 0, 0, 0), (88, 3, .getfield 51, .getstatic 1105, 2127, 51), (91, 1, .iload_n 1, .iload 1, 0, 0), (92, 3, .invokevirtual 233, .invokevirtual 270111, 4179, 233), (95, 3, .goto 11, .goto 57, 0, 0), (98, 1, .aload_n 0, .aload 0, 0, 0), (99, 3, .getfield 51, .getstatic 1105, 2127, 51), (102, 1, .iload_n 1, .iload 1, 0, 0), (103, 3, .invokevirtual 236, .invokevirtual 280111, 4183, 236), (106, 1, .ireturn, .ireturn, 0, 0)]
set_option maxRecDepth 100000 in
def zi_154 : List Instr := [.iload 2, .iconst 7, .invokestatic 1710012, .istore 3, .iload 1, .aload 0, .getstatic 1105, .getfield 111, .invokestatic 1720012, .ifCond .eq 18, .iload 2, .iconst (-1), .if_icmp .eq 20, .iload 2, .iconst 10, .if_icmp .eq 20, .iload 3, .ifCond .ne 20, .iconst (-1), .ireturn, .iload 3, .ifCond .eq 30, .iload 1, .iload 2, .ishr, .iconst 1, .iand, .ifCond .ne 30, .iconst (-2), .ireturn, .aload 0, .getstatic 1105, .iload 1, .invokevirtual 210101, .aload 0, .getstatic 1105, .iload 1, .invokevirtual 230101, .iload 3, .ifCond .eq 45, .aload 0, .getstatic 1105, .iload 2, .invokevirtual 260111, .ireturn, .iload 2, .iconst (-1), .if_icmp .ne 53, .aload 0, .getstatic 1105, .iload 1, .invokevirtual 270111, .goto 57, .aload 0, .getstatic 1105, .iload 1, .invokevirtual 280111, .ireturn]
set_option maxRecDepth 100000 in
theorem ze_154 : zc_154.map (fun e => e.2.2.2.1) = zi_154 := rfl
set_option maxRecDepth 100000 in
theorem zk_154 : zckm (zmd 154) false zc_154 zmd [21, 23, 26, 27, 28, 171, 172] = true := by decide +kernel
noncomputable def zf_154 : zF := zden zX0 zi_154 (zlk [(21, zf_21), (23, zf_23), (26, zf_26), (27, zf_27), (28, zf_28), (171, zf_171), (172, zf_172)]) 4
/-- HillErrands.sent -/
theorem zs_154 : ∀ d, 8 ≤ d → zSnd d (zmd 154) zf_154 := by
  intro d hd
  obtain ⟨d, rfl⟩ : ∃ k, d = k + 1 := ⟨d - 1, by omega⟩
  have h := zsound (d := d) (l := [(21, zf_21), (23, zf_23), (26, zf_26), (27, zf_27), (28, zf_28), (171, zf_171), (172, zf_172)]) zo_154 (fun h => by cases h) zk_154 (fun q hq => by
    simp only [List.mem_cons, List.not_mem_nil, or_false] at hq
    rcases hq with rfl | rfl | rfl | rfl | rfl | rfl | rfl
    · exact zs_21 d (by omega)
    · exact zs_23 d (by omega)
    · exact zs_26 d (by omega)
    · exact zs_27 d (by omega)
    · exact zs_28 d (by omega)
    · exact zs_171 d (by omega)
    · exact zs_172 d (by omega))
  rw [ze_154] at h
  exact h
set_option maxRecDepth 100000 in
def zc_155 : List zE := [(0, 1, .aload_n 0, .aload 0, 0, 0), (1, 3, .getfield 36, .getstatic 1102, 2124, 36), (4, 1, .iload_n 1, .iload 1, 0, 0), (5, 3, .invokevirtual 97, .invokevirtual 970811, 2171, 97), (8, 3, .ifCond .eq 12, .ifCond .eq 9, 0, 0), (11, 1, .iload_n 2, .iload 2, 0, 0), (12, 2, .bipush 99, .iconst 99, 0, 0), (14, 3, .invokestatic 89, .invokestatic 1710012, 2160, 89), (17, 3, .ifCond .ne 5, .ifCond .ne 11, 0, 0), (20, 1, .iconst 0, .iconst 0, 0, 0), (21, 1, .ireturn, .lreturn, 0, 0), (22, 1, .aload_n 0, .aload 0, 0, 0), (23, 3, .getfield 36, .getstatic 1102, 2124, 36), (26, 1, .iload_n 1, .iload 1, 0, 0), (27, 1, .iload_n 2, .iload 2, 0, 0), (28, 3, .invokevirtual 239, .invokevirtual 1130802, 4191, 239), (31, 1, .iconst 1, .iconst 1, 0, 0), (32, 1, .ireturn, .lreturn, 0, 0)]
set_option maxRecDepth 100000 in
def zi_155 : List Instr := [.aload 0, .getstatic 1102, .iload 1, .invokevirtual 970811, .ifCond .eq 9, .iload 2, .iconst 99, .invokestatic 1710012, .ifCond .ne 11, .iconst 0, .lreturn, .aload 0, .getstatic 1102, .iload 1, .iload 2, .invokevirtual 1130802, .iconst 1, .lreturn]
set_option maxRecDepth 100000 in
theorem ze_155 : zc_155.map (fun e => e.2.2.2.1) = zi_155 := rfl
set_option maxRecDepth 100000 in
theorem zk_155 : zckm (zmd 155) false zc_155 zmd [97, 113, 171] = true := by decide +kernel
noncomputable def zf_155 : zF := zden zX0 zi_155 (zlk [(97, zf_97), (113, zf_113), (171, zf_171)]) 3
/-- HillErrands.wants -/
theorem zs_155 : ∀ d, 2 ≤ d → zSnd d (zmd 155) zf_155 := by
  intro d hd
  obtain ⟨d, rfl⟩ : ∃ k, d = k + 1 := ⟨d - 1, by omega⟩
  have h := zsound (d := d) (l := [(97, zf_97), (113, zf_113), (171, zf_171)]) zo_155 (fun h => by cases h) zk_155 (fun q hq => by
    simp only [List.mem_cons, List.not_mem_nil, or_false] at hq
    rcases hq with rfl | rfl | rfl
    · exact zs_97 d (by omega)
    · exact zs_113 d (by omega)
    · exact zs_171 d (by omega))
  rw [ze_155] at h
  exact h
set_option maxRecDepth 100000 in
def zc_156 : List zE := [(0, 1, .aload_n 0, .aload 0, 0, 0), (1, 3, .getfield 36, .getstatic 1102, 2124, 36), (4, 1, .iload_n 1, .iload 1, 0, 0), (5, 3, .invokevirtual 97, .invokevirtual 970811, 2171, 97), (8, 3, .ifCond .eq 11, .ifCond .eq 9, 0, 0), (11, 1, .iload_n 2, .iload 2, 0, 0), (12, 1, .iconst 2, .iconst 2, 0, 0), (13, 3, .invokestatic 89, .invokestatic 1710012, 2160, 89), (16, 3, .ifCond .ne 5, .ifCond .ne 11, 0, 0), (19, 1, .iconst (-1), .iconst (-1), 0, 0), (20, 1, .ireturn, .ireturn, 0, 0), (21, 1, .iload_n 2, .iload 2, 0, 0), (22, 1, .iconst 1, .iconst 1, 0, 0), (23, 3, .if_icmp .ne 11, .if_icmp .ne 18, 0, 0), (26, 1, .aload_n 0, .aload 0, 0, 0), (27, 3, .getfield 36, .getstatic 1102, 2124, 36), (30, 3, .invokevirtual 243, .invokevirtual 1140810, 4199, 243), (33, 1, .ireturn, .ireturn, 0, 0), (34, 1, .aload_n 0, .aload 0, 0, 0), (35, 3, .getfield 60, .getstatic 1106, 2128, 60), (38, 1, .iload_n 1, .iload 1, 0, 0), (39, 3, .invokevirtual 246, .invokevirtual 1341001, 4203, 246), (42, 1, .iload_n 2, .iload 2, 0, 0), (43, 3, .ifCond .ne 21, .ifCond .ne 32, 0, 0), (46, 1, .aload_n 0, .aload 0, 0, 0), (47, 3, .getfield 36, .getstatic 1102, 2124, 36), (50, 3, .invokevirtual 243, .invokevirtual 1140810, 4199, 243), (53, 1, .aload_n 0, .aload 0, 0, 0), (54, 3, .getfield 60, .getstatic 1106, 2128, 60), (57, 3, .invokevirtual 249, .invokevirtual 1321010, 5002, 249), (60, 1, .isub, .isub, 0, 0), (61, 3, .goto 10, .goto 35, 0, 0), (64, 1, .aload_n 0, .aload 0, 0, 0), (65, 3, .getfield 60, .getstatic 1106, 2128, 60), (68, 3, .invokevirtual 252, .invokevirtual 1331010, 5006, 252), (71, 1, .ireturn, .ireturn, 0, 0)]
set_option maxRecDepth 100000 in
def zi_156 : List Instr := [.aload 0, .getstatic 1102, .iload 1, .invokevirtual 970811, .ifCond .eq 9, .iload 2, .iconst 2, .invokestatic 1710012, .ifCond .ne 11, .iconst (-1), .ireturn, .iload 2, .iconst 1, .if_icmp .ne 18, .aload 0, .getstatic 1102, .invokevirtual 1140810, .ireturn, .aload 0, .getstatic 1106, .iload 1, .invokevirtual 1341001, .iload 2, .ifCond .ne 32, .aload 0, .getstatic 1102, .invokevirtual 1140810, .aload 0, .getstatic 1106, .invokevirtual 1321010, .isub, .goto 35, .aload 0, .getstatic 1106, .invokevirtual 1331010, .ireturn]
set_option maxRecDepth 100000 in
theorem ze_156 : zc_156.map (fun e => e.2.2.2.1) = zi_156 := rfl
set_option maxRecDepth 100000 in
theorem zk_156 : zckm (zmd 156) false zc_156 zmd [97, 114, 132, 133, 134, 171] = true := by decide +kernel
noncomputable def zf_156 : zF := zden zX0 zi_156 (zlk [(97, zf_97), (114, zf_114), (132, zf_132), (133, zf_133), (134, zf_134), (171, zf_171)]) 3
/-- HillErrands.water -/
theorem zs_156 : ∀ d, 8 ≤ d → zSnd d (zmd 156) zf_156 := by
  intro d hd
  obtain ⟨d, rfl⟩ : ∃ k, d = k + 1 := ⟨d - 1, by omega⟩
  have h := zsound (d := d) (l := [(97, zf_97), (114, zf_114), (132, zf_132), (133, zf_133), (134, zf_134), (171, zf_171)]) zo_156 (fun h => by cases h) zk_156 (fun q hq => by
    simp only [List.mem_cons, List.not_mem_nil, or_false] at hq
    rcases hq with rfl | rfl | rfl | rfl | rfl | rfl
    · exact zs_97 d (by omega)
    · exact zs_114 d (by omega)
    · exact zs_132 d (by omega)
    · exact zs_133 d (by omega)
    · exact zs_134 d (by omega)
    · exact zs_171 d (by omega))
  rw [ze_156] at h
  exact h
set_option maxRecDepth 100000 in
def zc_157 : List zE := [(0, 1, .iload_n 1, .iload 1, 0, 0), (1, 3, .invokestatic 182, .invokestatic 11, 4058, 182), (4, 1, .istore_n 2, .istore 2, 0, 0), (5, 1, .iload_n 1, .iload 1, 0, 0), (6, 1, .iconst 1, .iconst 1, 0, 0), (7, 1, .aload_n 0, .aload 0, 0, 0), (8, 3, .getfield 36, .getstatic 1102, 2124, 36), (11, 3, .getfield 255, .getfield 810, 1095, 255), (14, 1, .ishl, .ishl, 0, 0), (15, 1, .iconst 1, .iconst 1, 0, 0), (16, 1, .isub, .isub, 0, 0), (17, 3, .invokestatic 179, .invokestatic 1720012, 4055, 179), (20, 3, .ifCond .eq 8, .ifCond .eq 16, 0, 0), (23, 1, .iload_n 2, .iload 2, 0, 0), (24, 1, .iconst 3, .iconst 3, 0, 0), (25, 3, .if_icmp .le 5, .if_icmp .le 18, 0, 0), (28, 1, .iconst (-1), .iconst (-1), 0, 0), (29, 1, .ireturn, .ireturn, 0, 0), (30, 1, .aload_n 0, .aload 0, 0, 0), (31, 3, .getfield 67, .getstatic 1107, 2129, 67), (34, 3, .invokevirtual 258, .invokevirtual 420300, 5014, 258), (37, 1, .aload_n 0, .aload 0, 0, 0), (38, 3, .getfield 67, .getstatic 1107, 2129, 67), (41, 1, .iload_n 1, .iload 1, 0, 0), (42, 3, .invokevirtual 261, .invokevirtual 440311, 5025, 261), (45, 1, .ireturn, .ireturn, 0, 0)]
set_option maxRecDepth 100000 in
def zi_157 : List Instr := [.iload 1, .invokestatic 11, .istore 2, .iload 1, .iconst 1, .aload 0, .getstatic 1102, .getfield 810, .ishl, .iconst 1, .isub, .invokestatic 1720012, .ifCond .eq 16, .iload 2, .iconst 3, .if_icmp .le 18, .iconst (-1), .ireturn, .aload 0, .getstatic 1107, .invokevirtual 420300, .aload 0, .getstatic 1107, .iload 1, .invokevirtual 440311, .ireturn]
set_option maxRecDepth 100000 in
theorem ze_157 : zc_157.map (fun e => e.2.2.2.1) = zi_157 := rfl
set_option maxRecDepth 100000 in
theorem zk_157 : zckm (zmd 157) false zc_157 zmd [0, 42, 44, 172] = true := by decide +kernel
noncomputable def zf_157 : zF := zden zX0 zi_157 (zlk [(0, zf_0), (42, zf_42), (44, zf_44), (172, zf_172)]) 3
/-- HillErrands.shops -/
theorem zs_157 : ∀ d, 8 ≤ d → zSnd d (zmd 157) zf_157 := by
  intro d hd
  obtain ⟨d, rfl⟩ : ∃ k, d = k + 1 := ⟨d - 1, by omega⟩
  have h := zsound (d := d) (l := [(0, zf_0), (42, zf_42), (44, zf_44), (172, zf_172)]) zo_157 (fun h => by cases h) zk_157 (fun q hq => by
    simp only [List.mem_cons, List.not_mem_nil, or_false] at hq
    rcases hq with rfl | rfl | rfl | rfl
    · exact zs_0 d (by omega)
    · exact zs_42 d (by omega)
    · exact zs_44 d (by omega)
    · exact zs_172 d (by omega))
  rw [ze_157] at h
  exact h
set_option maxRecDepth 100000 in
def zc_158 : List zE := [(0, 1, .iload_n 1, .iload 1, 0, 0), (1, 1, .iconst 1, .iconst 1, 0, 0), (2, 3, .if_icmp .lt 29, .if_icmp .lt 17, 0, 0), (5, 1, .iload_n 1, .iload 1, 0, 0), (6, 1, .iconst 3, .iconst 3, 0, 0), (7, 3, .if_icmp .gt 24, .if_icmp .gt 17, 0, 0), (10, 1, .iload_n 1, .iload 1, 0, 0), (11, 1, .aload_n 0, .aload 0, 0, 0), (12, 3, .getfield 36, .getstatic 1102, 2124, 36), (15, 3, .getfield 255, .getfield 810, 1095, 255), (18, 3, .if_icmp .gt 13, .if_icmp .gt 17, 0, 0), (21, 1, .iload_n 2, .iload 2, 0, 0), (22, 1, .iconst (-1), .iconst (-1), 0, 0), (23, 3, .if_icmp .lt 8, .if_icmp .lt 17, 0, 0), (26, 1, .iload_n 2, .iload 2, 0, 0), (27, 1, .iload_n 1, .iload 1, 0, 0), (28, 3, .if_icmp .lt 5, .if_icmp .lt 19, 0, 0), (31, 1, .iconst (-1), .iconst (-1), 0, 0), (32, 1, .ireturn, .ireturn, 0, 0), (33, 1, .aload_n 0, .aload 0, 0, 0), (34, 3, .getfield 67, .getstatic 1107, 2129, 67), (37, 3, .invokevirtual 258, .invokevirtual 420300, 5014, 258), (40, 1, .aload_n 0, .aload 0, 0, 0), (41, 3, .getfield 67, .getstatic 1107, 2129, 67), (44, 1, .iload_n 1, .iload 1, 0, 0), (45, 3, .invokevirtual 264, .invokevirtual 460311, 5039, 264), (48, 1, .istore_n 3, .istore 3, 0, 0), (49, 1, .iload_n 2, .iload 2, 0, 0), (50, 1, .iconst (-1), .iconst (-1), 0, 0), (51, 3, .if_icmp .ne 7, .if_icmp .ne 32, 0, 0), (54, 1, .iload_n 3, .iload 3, 0, 0), (55, 3, .goto 11, .goto 36, 0, 0), (58, 1, .aload_n 0, .aload 0, 0, 0), (59, 3, .getfield 67, .getstatic 1107, 2129, 67), (62, 1, .iload_n 2, .iload 2, 0, 0), (63, 3, .invokevirtual 267, .invokevirtual 430311, 5043, 267), (66, 1, .ireturn, .ireturn, 0, 0)]
set_option maxRecDepth 100000 in
def zi_158 : List Instr := [.iload 1, .iconst 1, .if_icmp .lt 17, .iload 1, .iconst 3, .if_icmp .gt 17, .iload 1, .aload 0, .getstatic 1102, .getfield 810, .if_icmp .gt 17, .iload 2, .iconst (-1), .if_icmp .lt 17, .iload 2, .iload 1, .if_icmp .lt 19, .iconst (-1), .ireturn, .aload 0, .getstatic 1107, .invokevirtual 420300, .aload 0, .getstatic 1107, .iload 1, .invokevirtual 460311, .istore 3, .iload 2, .iconst (-1), .if_icmp .ne 32, .iload 3, .goto 36, .aload 0, .getstatic 1107, .iload 2, .invokevirtual 430311, .ireturn]
set_option maxRecDepth 100000 in
theorem ze_158 : zc_158.map (fun e => e.2.2.2.1) = zi_158 := rfl
set_option maxRecDepth 100000 in
theorem zk_158 : zckm (zmd 158) false zc_158 zmd [42, 43, 46] = true := by decide +kernel
noncomputable def zf_158 : zF := zden zX0 zi_158 (zlk [(42, zf_42), (43, zf_43), (46, zf_46)]) 4
/-- HillErrands.shop -/
theorem zs_158 : ∀ d, 8 ≤ d → zSnd d (zmd 158) zf_158 := by
  intro d hd
  obtain ⟨d, rfl⟩ : ∃ k, d = k + 1 := ⟨d - 1, by omega⟩
  have h := zsound (d := d) (l := [(42, zf_42), (43, zf_43), (46, zf_46)]) zo_158 (fun h => by cases h) zk_158 (fun q hq => by
    simp only [List.mem_cons, List.not_mem_nil, or_false] at hq
    rcases hq with rfl | rfl | rfl
    · exact zs_42 d (by omega)
    · exact zs_43 d (by omega)
    · exact zs_46 d (by omega))
  rw [ze_158] at h
  exact h
set_option maxRecDepth 100000 in
def zc_159 : List zE := [(0, 1, .iload_n 2, .iload 2, 0, 0), (1, 1, .iconst 2, .iconst 2, 0, 0), (2, 3, .if_icmp .lt 20, .if_icmp .lt 12, 0, 0), (5, 1, .iload_n 2, .iload 2, 0, 0), (6, 1, .iconst 3, .iconst 3, 0, 0), (7, 3, .if_icmp .gt 15, .if_icmp .gt 12, 0, 0), (10, 1, .aload_n 0, .aload 0, 0, 0), (11, 3, .getfield 67, .getstatic 1107, 2129, 67), (14, 1, .iload_n 1, .iload 1, 0, 0), (15, 1, .iload_n 2, .iload 2, 0, 0), (16, 3, .invokevirtual 270, .invokevirtual 470312, 5051, 270), (19, 3, .ifCond .ne 5, .ifCond .ne 14, 0, 0), (22, 1, .iconst (-1), .iconst (-1), 0, 0), (23, 1, .ireturn, .ireturn, 0, 0), (24, 1, .iload_n 3, .iload 3, 0, 0), (25, 1, .iload_n 2, .iload 2, 0, 0), (26, 1, .iconst 1, .iconst 1, 0, 0), (27, 1, .isub, .isub, 0, 0), (28, 3, .invokestatic 89, .invokestatic 1710012, 2160, 89), (31, 2, .istore 4, .istore 4, 0, 0), (33, 1, .iload_n 3, .iload 3, 0, 0), (34, 2, .bipush 10, .iconst 10, 0, 0), (36, 1, .isub, .isub, 0, 0), (37, 1, .iload_n 2, .iload 2, 0, 0), (38, 1, .iconst 1, .iconst 1, 0, 0), (39, 1, .isub, .isub, 0, 0), (40, 3, .invokestatic 89, .invokestatic 1710012, 2160, 89), (43, 2, .istore 5, .istore 5, 0, 0), (45, 2, .iload 4, .iload 4, 0, 0), (47, 3, .ifCond .ne 16, .ifCond .ne 37, 0, 0), (50, 2, .iload 5, .iload 5, 0, 0), (52, 3, .ifCond .ne 11, .ifCond .ne 37, 0, 0), (55, 1, .iload_n 3, .iload 3, 0, 0), (56, 2, .bipush 20, .iconst 20, 0, 0), (58, 3, .if_icmp .eq 5, .if_icmp .eq 37, 0, 0), (61, 1, .iconst (-1), .iconst (-1), 0, 0), (62, 1, .ireturn, .ireturn, 0, 0), (63, 1, .aload_n 0, .aload 0, 0, 0), (64, 3, .getfield 67, .getstatic 1107, 2129, 67), (67, 3, .invokevirtual 258, .invokevirtual 420300, 5014, 258), (70, 1, .aload_n 0, .aload 0, 0, 0), (71, 3, .getfield 67, .getstatic 1107, 2129, 67), (74, 1, .iload_n 2, .iload 2, 0, 0), (75, 3, .invokevirtual 273, .invokevirtual 480311, 5056, 273), (78, 2, .istore 6, .istore 6, 0, 0), (80, 1, .iload_n 3, .iload 3, 0, 0), (81, 2, .bipush 20, .iconst 20, 0, 0), (83, 3, .if_icmp .ne 18, .if_icmp .ne 55, 0, 0), (86, 2, .iload 6, .iload 6, 0, 0), (88, 2, .bipush 20, .iconst 20, 0, 0), (90, 3, .if_icmp .ne 8, .if_icmp .ne 53, 0, 0), (93, 2, .bipush (-2), .iconst (-2), 0, 0), (95, 3, .goto 5, .goto 54, 0, 0), (98, 2, .iload 6, .iload 6, 0, 0), (100, 1, .ireturn, .ireturn, 0, 0), (101, 2, .iload 4, .iload 4, 0, 0), (103, 3, .ifCond .eq 14, .ifCond .eq 62, 0, 0), (106, 1, .aload_n 0, .aload 0, 0, 0), (107, 3, .getfield 67, .getstatic 1107, 2129, 67), (110, 1, .iload_n 3, .iload 3, 0, 0), (111, 3, .invokevirtual 267, .invokevirtual 430311, 5043, 267), (114, 3, .goto 15, .goto 69, 0, 0), (117, 1, .aload_n 0, .aload 0, 0, 0), (118, 3, .getfield 67, .getstatic 1107, 2129, 67), (121, 1, .iload_n 3, .iload 3, 0, 0), (122, 2, .bipush 10, .iconst 10, 0, 0), (124, 1, .isub, .isub, 0, 0), (125, 1, .iload_n 2, .iload 2, 0, 0), (126, 3, .invokevirtual 276, .invokevirtual 500312, 5072, 276), (129, 1, .ireturn, .ireturn, 0, 0)]
set_option maxRecDepth 100000 in
def zi_159 : List Instr := [.iload 2, .iconst 2, .if_icmp .lt 12, .iload 2, .iconst 3, .if_icmp .gt 12, .aload 0, .getstatic 1107, .iload 1, .iload 2, .invokevirtual 470312, .ifCond .ne 14, .iconst (-1), .ireturn, .iload 3, .iload 2, .iconst 1, .isub, .invokestatic 1710012, .istore 4, .iload 3, .iconst 10, .isub, .iload 2, .iconst 1, .isub, .invokestatic 1710012, .istore 5, .iload 4, .ifCond .ne 37, .iload 5, .ifCond .ne 37, .iload 3, .iconst 20, .if_icmp .eq 37, .iconst (-1), .ireturn, .aload 0, .getstatic 1107, .invokevirtual 420300, .aload 0, .getstatic 1107, .iload 2, .invokevirtual 480311, .istore 6, .iload 3, .iconst 20, .if_icmp .ne 55, .iload 6, .iconst 20, .if_icmp .ne 53, .iconst (-2), .goto 54, .iload 6, .ireturn, .iload 4, .ifCond .eq 62, .aload 0, .getstatic 1107, .iload 3, .invokevirtual 430311, .goto 69, .aload 0, .getstatic 1107, .iload 3, .iconst 10, .isub, .iload 2, .invokevirtual 500312, .ireturn]
set_option maxRecDepth 100000 in
theorem ze_159 : zc_159.map (fun e => e.2.2.2.1) = zi_159 := rfl
set_option maxRecDepth 100000 in
theorem zk_159 : zckm (zmd 159) false zc_159 zmd [42, 43, 47, 48, 50, 171] = true := by decide +kernel
noncomputable def zf_159 : zF := zden zX0 zi_159 (zlk [(42, zf_42), (43, zf_43), (47, zf_47), (48, zf_48), (50, zf_50), (171, zf_171)]) 7
/-- HillErrands.themselves -/
theorem zs_159 : ∀ d, 8 ≤ d → zSnd d (zmd 159) zf_159 := by
  intro d hd
  obtain ⟨d, rfl⟩ : ∃ k, d = k + 1 := ⟨d - 1, by omega⟩
  have h := zsound (d := d) (l := [(42, zf_42), (43, zf_43), (47, zf_47), (48, zf_48), (50, zf_50), (171, zf_171)]) zo_159 (fun h => by cases h) zk_159 (fun q hq => by
    simp only [List.mem_cons, List.not_mem_nil, or_false] at hq
    rcases hq with rfl | rfl | rfl | rfl | rfl | rfl
    · exact zs_42 d (by omega)
    · exact zs_43 d (by omega)
    · exact zs_47 d (by omega)
    · exact zs_48 d (by omega)
    · exact zs_50 d (by omega)
    · exact zs_171 d (by omega))
  rw [ze_159] at h
  exact h
set_option maxRecDepth 100000 in
def zc_160 : List zE := [(0, 1, .iload_n 1, .iload 1, 0, 0), (1, 1, .iconst 2, .iconst 2, 0, 0), (2, 3, .invokestatic 89, .invokestatic 1710012, 2160, 89), (5, 3, .ifCond .eq 11, .ifCond .eq 8, 0, 0), (8, 1, .iload_n 2, .iload 2, 0, 0), (9, 1, .iconst 2, .iconst 2, 0, 0), (10, 3, .invokestatic 89, .invokestatic 1710012, 2160, 89), (13, 3, .ifCond .ne 5, .ifCond .ne 10, 0, 0), (16, 1, .iconst (-1), .iconst (-1), 0, 0), (17, 1, .ireturn, .ireturn, 0, 0), (18, 1, .aload_n 0, .aload 0, 0, 0), (19, 3, .getfield 36, .getstatic 1102, 2124, 36), (22, 3, .getfield 255, .getfield 810, 1095, 255), (25, 1, .iconst 2, .iconst 2, 0, 0), (26, 3, .if_icmp .lt 15, .if_icmp .lt 20, 0, 0), (29, 1, .aload_n 0, .aload 0, 0, 0), (30, 3, .getfield 36, .getstatic 1102, 2124, 36), (33, 3, .getfield 141, .getfield 811, 1097, 141), (36, 2, .bipush 40, .iconst 40, 0, 0), (38, 3, .if_icmp .lt 6, .if_icmp .lt 22, 0, 0), (41, 2, .bipush (-2), .iconst (-2), 0, 0), (43, 1, .ireturn, .ireturn, 0, 0), (44, 1, .aload_n 0, .aload 0, 0, 0), (45, 3, .getfield 74, .getstatic 1108, 2130, 74), (48, 1, .iload_n 1, .iload 1, 0, 0), (49, 3, .invokevirtual 279, .invokevirtual 540401, 5077, 279), (52, 1, .aload_n 0, .aload 0, 0, 0), (53, 3, .getfield 74, .getstatic 1108, 2130, 74), (56, 1, .iload_n 2, .iload 2, 0, 0), (57, 3, .invokevirtual 282, .invokevirtual 530411, 5096, 282), (60, 1, .ireturn, .ireturn, 0, 0)]
set_option maxRecDepth 100000 in
def zi_160 : List Instr := [.iload 1, .iconst 2, .invokestatic 1710012, .ifCond .eq 8, .iload 2, .iconst 2, .invokestatic 1710012, .ifCond .ne 10, .iconst (-1), .ireturn, .aload 0, .getstatic 1102, .getfield 810, .iconst 2, .if_icmp .lt 20, .aload 0, .getstatic 1102, .getfield 811, .iconst 40, .if_icmp .lt 22, .iconst (-2), .ireturn, .aload 0, .getstatic 1108, .iload 1, .invokevirtual 540401, .aload 0, .getstatic 1108, .iload 2, .invokevirtual 530411, .ireturn]
set_option maxRecDepth 100000 in
theorem ze_160 : zc_160.map (fun e => e.2.2.2.1) = zi_160 := rfl
set_option maxRecDepth 100000 in
theorem zk_160 : zckm (zmd 160) false zc_160 zmd [53, 54, 171] = true := by decide +kernel
noncomputable def zf_160 : zF := zden zX0 zi_160 (zlk [(53, zf_53), (54, zf_54), (171, zf_171)]) 3
/-- HillErrands.oneMore -/
theorem zs_160 : ∀ d, 8 ≤ d → zSnd d (zmd 160) zf_160 := by
  intro d hd
  obtain ⟨d, rfl⟩ : ∃ k, d = k + 1 := ⟨d - 1, by omega⟩
  have h := zsound (d := d) (l := [(53, zf_53), (54, zf_54), (171, zf_171)]) zo_160 (fun h => by cases h) zk_160 (fun q hq => by
    simp only [List.mem_cons, List.not_mem_nil, or_false] at hq
    rcases hq with rfl | rfl | rfl
    · exact zs_53 d (by omega)
    · exact zs_54 d (by omega)
    · exact zs_171 d (by omega))
  rw [ze_160] at h
  exact h
set_option maxRecDepth 100000 in
def zc_177 : List zE := [(0, 1, .aload_n 0, .aload 0, 0, 0), (1, 3, .getfield 40, .getstatic 1103, 2125, 40), (4, 1, .iload_n 1, .iload 1, 0, 0), (5, 1, .iload_n 3, .iload 3, 0, 0), (6, 3, .invokevirtual 335, .invokevirtual 1220912, 5112, 335), (9, 2, .istore 5, .istore 5, 0, 0), (11, 1, .aload_n 0, .aload 0, 0, 0), (12, 3, .getfield 40, .getstatic 1103, 2125, 40), (15, 1, .iload_n 2, .iload 2, 0, 0), (16, 1, .iload_n 3, .iload 3, 0, 0), (17, 3, .invokevirtual 335, .invokevirtual 1220912, 5112, 335), (20, 2, .istore 6, .istore 6, 0, 0), (22, 2, .iload 4, .iload 4, 0, 0), (24, 3, .ifCond .eq 13, .ifCond .eq 18, 0, 0), (27, 2, .iload 5, .iload 5, 0, 0), (29, 2, .iload 6, .iload 6, 0, 0), (31, 3, .invokestatic 338, .fadd, 5113, 338), (34, 3, .goto 8, .goto 21, 0, 0), (37, 2, .iload 5, .iload 5, 0, 0), (39, 2, .iload 6, .iload 6, 0, 0), (41, 1, .iadd, .iadd, 0, 0), (42, 1, .ireturn, .ireturn, 0, 0)]
set_option maxRecDepth 100000 in
def zi_177 : List Instr := [.aload 0, .getstatic 1103, .iload 1, .iload 3, .invokevirtual 1220912, .istore 5, .aload 0, .getstatic 1103, .iload 2, .iload 3, .invokevirtual 1220912, .istore 6, .iload 4, .ifCond .eq 18, .iload 5, .iload 6, .fadd, .goto 21, .iload 5, .iload 6, .iadd, .ireturn]
set_option maxRecDepth 100000 in
theorem ze_177 : zc_177.map (fun e => e.2.2.2.1) = zi_177 := rfl
set_option maxRecDepth 100000 in
theorem zk_177 : zckm (zmd 177) false zc_177 zmd [122] = true := by decide +kernel
noncomputable def zf_177 : zF := zden zX0 zi_177 (zlk [(122, zf_122)]) 7
/-- HillErrands.meetingCost -/
theorem zs_177 : ∀ d, 6 ≤ d → zSnd d (zmd 177) zf_177 := by
  intro d hd
  obtain ⟨d, rfl⟩ : ∃ k, d = k + 1 := ⟨d - 1, by omega⟩
  have h := zsound (d := d) (l := [(122, zf_122)]) zo_177 (fun h => by cases h) zk_177 (fun q hq => by
    simp only [List.mem_cons, List.not_mem_nil, or_false] at hq
    subst hq
    · exact zs_122 d (by omega))
  rw [ze_177] at h
  exact h
set_option maxRecDepth 100000 in
def zc_176 : List zE := [(0, 1, .iconst (-1), .iconst (-1), 0, 0), (1, 2, .istore 4, .istore 4, 0, 0), (3, 2, .ldc 154, .iconst 100000000, 4012, 154), (5, 2, .istore 5, .istore 5, 0, 0), (7, 1, .iconst 0, .iconst 0, 0, 0), (8, 2, .istore 6, .istore 6, 0, 0), (10, 2, .iload 6, .iload 6, 0, 0), (12, 1, .aload_n 0, .aload 0, 0, 0), (13, 3, .getfield 36, .getstatic 1102, 2124, 36), (16, 3, .getfield 255, .getfield 810, 1095, 255), (19, 3, .if_icmp .ge 35, .if_icmp .ge 27, 0, 0), (22, 1, .aload_n 0, .aload 0, 0, 0), (23, 1, .iload_n 1, .iload 1, 0, 0), (24, 1, .iload_n 2, .iload 2, 0, 0), (25, 2, .iload 6, .iload 6, 0, 0), (27, 1, .iload_n 3, .iload 3, 0, 0), (28, 3, .invokevirtual 289, .invokevirtual 1771114, 5108, 289), (31, 2, .istore 7, .istore 7, 0, 0), (33, 2, .iload 7, .iload 7, 0, 0), (35, 2, .iload 5, .iload 5, 0, 0), (37, 3, .if_icmp .ge 11, .if_icmp .ge 25, 0, 0), (40, 2, .iload 7, .iload 7, 0, 0), (42, 2, .istore 5, .istore 5, 0, 0), (44, 2, .iload 6, .iload 6, 0, 0), (46, 2, .istore 4, .istore 4, 0, 0), (48, 3, .iinc 6 1, .iinc 6 1, 0, 0), (51, 3, .goto (-41), .goto 6, 0, 0), (54, 2, .iload 4, .iload 4, 0, 0), (56, 1, .ireturn, .ireturn, 0, 0)]
set_option maxRecDepth 100000 in
def zi_176 : List Instr := [.iconst (-1), .istore 4, .iconst 100000000, .istore 5, .iconst 0, .istore 6, .iload 6, .aload 0, .getstatic 1102, .getfield 810, .if_icmp .ge 27, .aload 0, .iload 1, .iload 2, .iload 6, .iload 3, .invokevirtual 1771114, .istore 7, .iload 7, .iload 5, .if_icmp .ge 25, .iload 7, .istore 5, .iload 6, .istore 4, .iinc 6 1, .goto 6, .iload 4, .ireturn]
set_option maxRecDepth 100000 in
theorem ze_176 : zc_176.map (fun e => e.2.2.2.1) = zi_176 := rfl
set_option maxRecDepth 100000 in
theorem zk_176 : zckm (zmd 176) false zc_176 zmd [177] = true := by decide +kernel
noncomputable def zf_176 : zF := zden zX0 zi_176 (zlk [(177, zf_177)]) 8
/-- HillErrands.meetingPlace -/
theorem zs_176 : ∀ d, 7 ≤ d → zSnd d (zmd 176) zf_176 := by
  intro d hd
  obtain ⟨d, rfl⟩ : ∃ k, d = k + 1 := ⟨d - 1, by omega⟩
  have h := zsound (d := d) (l := [(177, zf_177)]) zo_176 (fun h => by cases h) zk_176 (fun q hq => by
    simp only [List.mem_cons, List.not_mem_nil, or_false] at hq
    subst hq
    · exact zs_177 d (by omega))
  rw [ze_176] at h
  exact h
set_option maxRecDepth 100000 in
def zc_161 : List zE := [(0, 1, .iload_n 3, .iload 3, 0, 0), (1, 3, .ifCond .eq 20, .ifCond .eq 11, 0, 0), (4, 1, .iload_n 3, .iload 3, 0, 0), (5, 1, .iconst 1, .iconst 1, 0, 0), (6, 3, .if_icmp .eq 15, .if_icmp .eq 11, 0, 0), (9, 1, .iload_n 3, .iload 3, 0, 0), (10, 2, .bipush 10, .iconst 10, 0, 0), (12, 3, .if_icmp .eq 9, .if_icmp .eq 11, 0, 0), (15, 1, .iload_n 3, .iload 3, 0, 0), (16, 2, .bipush 11, .iconst 11, 0, 0), (18, 3, .if_icmp .ne 7, .if_icmp .ne 13, 0, 0), (21, 1, .iconst 1, .iconst 1, 0, 0), (22, 3, .goto 4, .goto 14, 0, 0), (25, 1, .iconst 0, .iconst 0, 0, 0), (26, 2, .istore 4, .istore 4, 0, 0), (28, 1, .aload_n 0, .aload 0, 0, 0), (29, 3, .getfield 36, .getstatic 1102, 2124, 36), (32, 1, .iload_n 1, .iload 1, 0, 0), (33, 3, .invokevirtual 97, .invokevirtual 970811, 2171, 97), (36, 3, .ifCond .eq 19, .ifCond .eq 27, 0, 0), (39, 1, .aload_n 0, .aload 0, 0, 0), (40, 3, .getfield 36, .getstatic 1102, 2124, 36), (43, 1, .iload_n 2, .iload 2, 0, 0), (44, 3, .invokevirtual 97, .invokevirtual 970811, 2171, 97), (47, 3, .ifCond .eq 8, .ifCond .eq 27, 0, 0), (50, 2, .iload 4, .iload 4, 0, 0), (52, 3, .ifCond .ne 5, .ifCond .ne 29, 0, 0), (55, 1, .iconst (-1), .iconst (-1), 0, 0), (56, 1, .ireturn, .ireturn, 0, 0), (57, 1, .aload_n 0, .aload 0, 0, 0), (58, 3, .getfield 40, .getstatic 1103, 2125, 40), (61, 1, .iconst 0, .iconst 0, 0, 0), (62, 3, .invokevirtual 148, .invokevirtual 1200901, 3210, 148), (65, 1, .iload_n 3, .iload 3, 0, 0), (66, 2, .bipush 10, .iconst 10, 0, 0), (68, 1, .irem, .irem, 0, 0), (69, 1, .iconst 1, .iconst 1, 0, 0), (70, 3, .if_icmp .ne 7, .if_icmp .ne 40, 0, 0), (73, 1, .iconst 1, .iconst 1, 0, 0), (74, 3, .goto 4, .goto 41, 0, 0), (77, 1, .iconst 0, .iconst 0, 0, 0), (78, 2, .istore 5, .istore 5, 0, 0), (80, 1, .aload_n 0, .aload 0, 0, 0), (81, 1, .iload_n 1, .iload 1, 0, 0), (82, 1, .iload_n 2, .iload 2, 0, 0), (83, 2, .iload 5, .iload 5, 0, 0), (85, 3, .invokevirtual 285, .invokevirtual 1761113, 5104, 285), (88, 2, .istore 6, .istore 6, 0, 0), (90, 2, .iload 6, .iload 6, 0, 0), (92, 1, .iconst (-1), .iconst (-1), 0, 0), (93, 3, .if_icmp .ne 6, .if_icmp .ne 53, 0, 0), (96, 2, .bipush (-2), .iconst (-2), 0, 0), (98, 1, .ireturn, .ireturn, 0, 0), (99, 1, .iload_n 3, .iload 3, 0, 0), (100, 2, .bipush 10, .iconst 10, 0, 0), (102, 3, .if_icmp .ge 8, .if_icmp .ge 58, 0, 0), (105, 2, .iload 6, .iload 6, 0, 0), (107, 3, .goto 13, .goto 64, 0, 0), (110, 1, .aload_n 0, .aload 0, 0, 0), (111, 1, .iload_n 1, .iload 1, 0, 0), (112, 1, .iload_n 2, .iload 2, 0, 0), (113, 2, .iload 6, .iload 6, 0, 0), (115, 2, .iload 5, .iload 5, 0, 0), (117, 3, .invokevirtual 289, .invokevirtual 1771114, 5108, 289), (120, 1, .ireturn, .ireturn, 0, 0)]
set_option maxRecDepth 100000 in
def zi_161 : List Instr := [.iload 3, .ifCond .eq 11, .iload 3, .iconst 1, .if_icmp .eq 11, .iload 3, .iconst 10, .if_icmp .eq 11, .iload 3, .iconst 11, .if_icmp .ne 13, .iconst 1, .goto 14, .iconst 0, .istore 4, .aload 0, .getstatic 1102, .iload 1, .invokevirtual 970811, .ifCond .eq 27, .aload 0, .getstatic 1102, .iload 2, .invokevirtual 970811, .ifCond .eq 27, .iload 4, .ifCond .ne 29, .iconst (-1), .ireturn, .aload 0, .getstatic 1103, .iconst 0, .invokevirtual 1200901, .iload 3, .iconst 10, .irem, .iconst 1, .if_icmp .ne 40, .iconst 1, .goto 41, .iconst 0, .istore 5, .aload 0, .iload 1, .iload 2, .iload 5, .invokevirtual 1761113, .istore 6, .iload 6, .iconst (-1), .if_icmp .ne 53, .iconst (-2), .ireturn, .iload 3, .iconst 10, .if_icmp .ge 58, .iload 6, .goto 64, .aload 0, .iload 1, .iload 2, .iload 6, .iload 5, .invokevirtual 1771114, .ireturn]
set_option maxRecDepth 100000 in
theorem ze_161 : zc_161.map (fun e => e.2.2.2.1) = zi_161 := rfl
set_option maxRecDepth 100000 in
theorem zk_161 : zckm (zmd 161) false zc_161 zmd [97, 120, 176, 177] = true := by decide +kernel
noncomputable def zf_161 : zF := zden zX0 zi_161 (zlk [(97, zf_97), (120, zf_120), (176, zf_176), (177, zf_177)]) 7
/-- HillErrands.meet -/
theorem zs_161 : ∀ d, 8 ≤ d → zSnd d (zmd 161) zf_161 := by
  intro d hd
  obtain ⟨d, rfl⟩ : ∃ k, d = k + 1 := ⟨d - 1, by omega⟩
  have h := zsound (d := d) (l := [(97, zf_97), (120, zf_120), (176, zf_176), (177, zf_177)]) zo_161 (fun h => by cases h) zk_161 (fun q hq => by
    simp only [List.mem_cons, List.not_mem_nil, or_false] at hq
    rcases hq with rfl | rfl | rfl | rfl
    · exact zs_97 d (by omega)
    · exact zs_120 d (by omega)
    · exact zs_176 d (by omega)
    · exact zs_177 d (by omega))
  rw [ze_161] at h
  exact h
