set_option maxRecDepth 100000 in
def zc_62 : List zE := [(0, 1, .aload_n 0, .aload 0, 0, 0), (1, 3, .getfield 35, .getfield 504, 1225, 35), (4, 3, .ifCond .eq 4, .ifCond .eq 4, 0, 0), (7, 1, .return_, .return_, 0, 0), (8, 1, .aload_n 0, .aload 0, 0, 0), (9, 3, .invokevirtual 57, .invokevirtual 590510, 2231, 57), (12, 1, .istore_n 1, .istore 1, 0, 0), (13, 1, .iload_n 1, .iload 1, 0, 0), (14, 2, .bipush 110, .iconst 110, 0, 0), (16, 3, .if_icmp .eq 17, .if_icmp .eq 17, 0, 0), (19, 1, .iload_n 1, .iload 1, 0, 0), (20, 2, .bipush 99, .iconst 99, 0, 0), (22, 3, .if_icmp .eq 11, .if_icmp .eq 17, 0, 0), (25, 1, .aload_n 0, .aload 0, 0, 0), (26, 1, .iconst 1, .iconst 1, 0, 0), (27, 3, .invokevirtual 61, .invokevirtual 600501, 2235, 61), (30, 3, .goto 18, .goto 24, 0, 0), (33, 1, .aload_n 0, .aload 0, 0, 0), (34, 3, .getfield 18, .getstatic 501, 1222, 18), (37, 3, .invokevirtual 64, .invokevirtual 310210, 2239, 64), (40, 3, .ifCond .eq 8, .ifCond .eq 24, 0, 0), (43, 1, .aload_n 0, .aload 0, 0, 0), (44, 1, .iconst 4, .iconst 4, 0, 0), (45, 3, .invokevirtual 61, .invokevirtual 600501, 2235, 61), (48, 1, .aload_n 0, .aload 0, 0, 0), (49, 3, .getfield 35, .getfield 504, 1225, 35), (52, 3, .ifCond .eq 4, .ifCond .eq 28, 0, 0), (55, 1, .return_, .return_, 0, 0), (56, 1, .aload_n 0, .aload 0, 0, 0), (57, 1, .dup, .dup, 0, 0), (58, 3, .getfield 22, .getfield 502, 1223, 22), (61, 1, .iconst 1, .iconst 1, 0, 0), (62, 1, .iadd, .iadd, 0, 0), (63, 3, .putfield 22, .putfield 502, 1223, 22), (66, 1, .aload_n 0, .aload 0, 0, 0), (67, 3, .getfield 18, .getstatic 501, 1222, 18), (70, 1, .iload_n 1, .iload 1, 0, 0), (71, 3, .invokevirtual 68, .invokevirtual 320201, 3003, 68), (74, 1, .iload_n 1, .iload 1, 0, 0), (75, 2, .bipush 99, .iconst 99, 0, 0), (77, 3, .if_icmp .ne 8, .if_icmp .ne 44, 0, 0), (80, 1, .aload_n 0, .aload 0, 0, 0), (81, 1, .iconst 0, .iconst 0, 0, 0), (82, 3, .invokevirtual 71, .invokevirtual 670501, 3008, 71), (85, 1, .aload_n 0, .aload 0, 0, 0), (86, 2, .bipush 40, .iconst 40, 0, 0), (88, 3, .invokevirtual 50, .invokevirtual 610501, 3020, 50), (91, 1, .aload_n 0, .aload 0, 0, 0), (92, 3, .getfield 18, .getstatic 501, 1222, 18), (95, 3, .invokevirtual 74, .invokevirtual 330200, 3124, 74), (98, 1, .aload_n 0, .aload 0, 0, 0), (99, 1, .iconst 1, .iconst 1, 0, 0), (100, 3, .invokevirtual 77, .invokevirtual 630501, 3128, 77), (103, 1, .aload_n 0, .aload 0, 0, 0), (104, 2, .bipush 41, .iconst 41, 0, 0), (106, 3, .invokevirtual 50, .invokevirtual 610501, 3020, 50), (109, 1, .aload_n 0, .aload 0, 0, 0), (110, 3, .getfield 18, .getstatic 501, 1222, 18), (113, 3, .invokevirtual 80, .invokevirtual 340200, 3154, 80), (116, 1, .return_, .return_, 0, 0)]
set_option maxRecDepth 100000 in
def zi_62 : List Instr := [.aload 0, .getfield 504, .ifCond .eq 4, .return_, .aload 0, .invokevirtual 590510, .istore 1, .iload 1, .iconst 110, .if_icmp .eq 17, .iload 1, .iconst 99, .if_icmp .eq 17, .aload 0, .iconst 1, .invokevirtual 600501, .goto 24, .aload 0, .getstatic 501, .invokevirtual 310210, .ifCond .eq 24, .aload 0, .iconst 4, .invokevirtual 600501, .aload 0, .getfield 504, .ifCond .eq 28, .return_, .aload 0, .dup, .getfield 502, .iconst 1, .iadd, .putfield 502, .aload 0, .getstatic 501, .iload 1, .invokevirtual 320201, .iload 1, .iconst 99, .if_icmp .ne 44, .aload 0, .iconst 0, .invokevirtual 670501, .aload 0, .iconst 40, .invokevirtual 610501, .aload 0, .getstatic 501, .invokevirtual 330200, .aload 0, .iconst 1, .invokevirtual 630501, .aload 0, .iconst 41, .invokevirtual 610501, .aload 0, .getstatic 501, .invokevirtual 340200, .return_]
set_option maxRecDepth 100000 in
theorem ze_62 : zc_62.map (fun e => e.2.2.2.1) = zi_62 := rfl
set_option maxRecDepth 100000 in
theorem zk_62 : zckm (zmd 62) false zc_62 zmd [31, 32, 33, 34, 59, 60, 61, 63, 67] = true := by decide +kernel
noncomputable def zf_62 : zF := zden zX0 zi_62 (zlk [(31, zf_31), (32, zf_32), (33, zf_33), (34, zf_34), (59, zf_59), (60, zf_60), (61, zf_61), (63, (zg_63 (zf_65 8))), (67, (zf_67 8))]) 2
/-- HillErrands$Reader.clause -/
theorem zs_62 : ∀ d, 62 ≤ d → zSnd d (zmd 62) zf_62 := by
  intro d hd
  obtain ⟨d, rfl⟩ : ∃ k, d = k + 1 := ⟨d - 1, by omega⟩
  have h := zsound (d := d) (l := [(31, zf_31), (32, zf_32), (33, zf_33), (34, zf_34), (59, zf_59), (60, zf_60), (61, zf_61), (63, (zg_63 (zf_65 8))), (67, (zf_67 8))]) zo_62 (fun h => by cases h) zk_62 (fun q hq => by
    simp only [List.mem_cons, List.not_mem_nil, or_false] at hq
    rcases hq with rfl | rfl | rfl | rfl | rfl | rfl | rfl | rfl | rfl
    · exact zs_31 d (by omega)
    · exact zs_32 d (by omega)
    · exact zs_33 d (by omega)
    · exact zs_34 d (by omega)
    · exact zs_59 d (by omega)
    · exact zs_60 d (by omega)
    · exact zs_61 d (by omega)
    · exact zs_63 8 d (by omega)
    · exact zs_67 8 d (by omega))
  rw [ze_62] at h
  exact h
set_option maxRecDepth 100000 in
def zc_93 : List zE := [(0, 1, .iload_n 1, .iload 1, 0, 0), (1, 3, .ifCond .lt 20, .ifCond .lt 11, 0, 0), (4, 1, .iload_n 1, .iload 1, 0, 0), (5, 1, .aload_n 0, .aload 0, 0, 0), (6, 3, .getfield 15, .getfield 701, 1207, 15), (9, 3, .if_icmp .ge 12, .if_icmp .ge 11, 0, 0), (12, 1, .aload_n 0, .aload 0, 0, 0), (13, 3, .getfield 9, .getstatic 700, 1206, 9), (16, 1, .iload_n 1, .iload 1, 0, 0), (17, 1, .iaload, .iaload, 0, 0), (18, 3, .goto 4, .goto 12, 0, 0), (21, 1, .iconst (-1), .iconst (-1), 0, 0), (22, 1, .ireturn, .ireturn, 0, 0)]
set_option maxRecDepth 100000 in
def zi_93 : List Instr := [.iload 1, .ifCond .lt 11, .iload 1, .aload 0, .getfield 701, .if_icmp .ge 11, .aload 0, .getstatic 700, .iload 1, .iaload, .goto 12, .iconst (-1), .ireturn]
set_option maxRecDepth 100000 in
theorem ze_93 : zc_93.map (fun e => e.2.2.2.1) = zi_93 := rfl
set_option maxRecDepth 100000 in
theorem zk_93 : zckm (zmd 93) false zc_93 zmd [] = true := by decide +kernel
noncomputable def zf_93 : zF := zden zX0 zi_93 (zlk []) 2
/-- HillErrands$Tape.byteAt -/
theorem zs_93 : ∀ d, 1 ≤ d → zSnd d (zmd 93) zf_93 := by
  intro d hd
  obtain ⟨d, rfl⟩ : ∃ k, d = k + 1 := ⟨d - 1, by omega⟩
  have h := zsound (d := d) (l := []) zo_93 (fun h => by cases h) zk_93 (fun q hq => by cases hq)
  rw [ze_93] at h
  exact h
set_option maxRecDepth 100000 in
def zc_57 : List zE := [(0, 1, .aload_n 0, .aload 0, 0, 0), (1, 1, .iconst 0, .iconst 0, 0, 0), (2, 3, .putfield 22, .putfield 502, 1223, 22), (5, 1, .aload_n 0, .aload 0, 0, 0), (6, 1, .iload_n 2, .iload 2, 0, 0), (7, 3, .sipush 160, .iconst 160, 0, 0), (10, 3, .invokestatic 26, .fsub, 2216, 26), (13, 3, .putfield 32, .putfield 503, 1224, 32), (16, 1, .aload_n 0, .aload 0, 0, 0), (17, 1, .iconst 0, .iconst 0, 0, 0), (18, 3, .putfield 35, .putfield 504, 1225, 35), (21, 1, .iconst 0, .iconst 0, 0, 0), (22, 1, .istore_n 3, .istore 3, 0, 0), (23, 1, .iload_n 3, .iload 3, 0, 0), (24, 1, .aload_n 0, .aload 0, 0, 0), (25, 3, .getfield 32, .getfield 503, 1224, 32), (28, 3, .if_icmp .ge 20, .if_icmp .ge 26, 0, 0), (31, 1, .aload_n 0, .aload 0, 0, 0), (32, 3, .getfield 9, .getstatic 500, 1221, 9), (35, 1, .iload_n 3, .iload 3, 0, 0), (36, 1, .aload_n 1, .aload 1, 0, 0), (37, 1, .iload_n 3, .iload 3, 0, 0), (38, 3, .invokevirtual 38, .invokevirtual 930711, 2219, 38), (41, 1, .iastore, .iastore, 0, 0), (42, 3, .iinc 3 1, .iinc 3 1, 0, 0), (45, 3, .goto (-22), .goto 13, 0, 0), (48, 1, .aload_n 0, .aload 0, 0, 0), (49, 3, .getfield 18, .getstatic 501, 1222, 18), (52, 3, .invokevirtual 44, .invokevirtual 300200, 2223, 44), (55, 1, .aload_n 0, .aload 0, 0, 0), (56, 3, .invokevirtual 47, .invokevirtual 620500, 2227, 47), (59, 1, .iconst 0, .iconst 0, 0, 0), (60, 1, .istore_n 3, .istore 3, 0, 0), (61, 1, .iload_n 3, .iload 3, 0, 0), (62, 2, .bipush 12, .iconst 12, 0, 0), (64, 3, .if_icmp .ge 37, .if_icmp .ge 51, 0, 0), (67, 1, .aload_n 0, .aload 0, 0, 0), (68, 3, .getfield 35, .getfield 504, 1225, 35), (71, 3, .ifCond .ne 30, .ifCond .ne 51, 0, 0), (74, 1, .aload_n 0, .aload 0, 0, 0), (75, 3, .getfield 22, .getfield 502, 1223, 22), (78, 1, .aload_n 0, .aload 0, 0, 0), (79, 3, .getfield 32, .getfield 503, 1224, 32), (82, 3, .if_icmp .ge 19, .if_icmp .ge 51, 0, 0), (85, 1, .aload_n 0, .aload 0, 0, 0), (86, 2, .bipush 59, .iconst 59, 0, 0), (88, 3, .invokevirtual 50, .invokevirtual 610501, 3020, 50), (91, 1, .aload_n 0, .aload 0, 0, 0), (92, 3, .invokevirtual 47, .invokevirtual 620500, 2227, 47), (95, 3, .iinc 3 1, .iinc 3 1, 0, 0), (98, 3, .goto (-37), .goto 33, 0, 0), (101, 1, .aload_n 0, .aload 0, 0, 0), (102, 3, .getfield 35, .getfield 504, 1225, 35), (105, 3, .ifCond .eq 10, .ifCond .eq 57, 0, 0), (108, 1, .aload_n 0, .aload 0, 0, 0), (109, 3, .getfield 35, .getfield 504, 1225, 35), (112, 3, .goto 10, .goto 60, 0, 0), (115, 1, .aload_n 0, .aload 0, 0, 0), (116, 3, .getfield 18, .getstatic 501, 1222, 18), (119, 3, .getfield 54, .getfield 207, 1050, 54), (122, 1, .ireturn, .ireturn, 0, 0)]
set_option maxRecDepth 100000 in
def zi_57 : List Instr := [.aload 0, .iconst 0, .putfield 502, .aload 0, .iload 2, .iconst 160, .fsub, .putfield 503, .aload 0, .iconst 0, .putfield 504, .iconst 0, .istore 3, .iload 3, .aload 0, .getfield 503, .if_icmp .ge 26, .aload 0, .getstatic 500, .iload 3, .aload 1, .iload 3, .invokevirtual 930711, .iastore, .iinc 3 1, .goto 13, .aload 0, .getstatic 501, .invokevirtual 300200, .aload 0, .invokevirtual 620500, .iconst 0, .istore 3, .iload 3, .iconst 12, .if_icmp .ge 51, .aload 0, .getfield 504, .ifCond .ne 51, .aload 0, .getfield 502, .aload 0, .getfield 503, .if_icmp .ge 51, .aload 0, .iconst 59, .invokevirtual 610501, .aload 0, .invokevirtual 620500, .iinc 3 1, .goto 33, .aload 0, .getfield 504, .ifCond .eq 57, .aload 0, .getfield 504, .goto 60, .aload 0, .getstatic 501, .getfield 207, .ireturn]
set_option maxRecDepth 100000 in
theorem ze_57 : zc_57.map (fun e => e.2.2.2.1) = zi_57 := rfl
set_option maxRecDepth 100000 in
theorem zk_57 : zckm (zmd 57) false zc_57 zmd [30, 61, 62, 93] = true := by decide +kernel
noncomputable def zf_57 : zF := zden zX0 zi_57 (zlk [(30, zf_30), (61, zf_61), (62, zf_62), (93, zf_93)]) 4
/-- HillErrands$Reader.read -/
theorem zs_57 : ∀ d, 63 ≤ d → zSnd d (zmd 57) zf_57 := by
  intro d hd
  obtain ⟨d, rfl⟩ : ∃ k, d = k + 1 := ⟨d - 1, by omega⟩
  have h := zsound (d := d) (l := [(30, zf_30), (61, zf_61), (62, zf_62), (93, zf_93)]) zo_57 (fun h => by cases h) zk_57 (fun q hq => by
    simp only [List.mem_cons, List.not_mem_nil, or_false] at hq
    rcases hq with rfl | rfl | rfl | rfl
    · exact zs_30 d (by omega)
    · exact zs_61 d (by omega)
    · exact zs_62 d (by omega)
    · exact zs_93 d (by omega))
  rw [ze_57] at h
  exact h
set_option maxRecDepth 100000 in
def zc_58 : List zE := [(0, 1, .aload_n 0, .aload 0, 0, 0), (1, 3, .getfield 18, .getstatic 501, 1222, 18), (4, 1, .astore_n 2, .astore 2, 0, 0), (5, 1, .aload_n 0, .aload 0, 0, 0), (6, 1, .aload_n 1, .aload 1, 0, 0), (7, 3, .putfield 18, .putstatic 501, 1222, 18), (10, 1, .aload_n 2, .aload 2, 0, 0), (11, 1, .areturn, .areturn, 0, 0)]
set_option maxRecDepth 100000 in
def zi_58 : List Instr := [.aload 0, .getstatic 501, .astore 2, .aload 0, .aload 1, .putstatic 501, .aload 2, .areturn]
set_option maxRecDepth 100000 in
theorem ze_58 : zc_58.map (fun e => e.2.2.2.1) = zi_58 := rfl
set_option maxRecDepth 100000 in
theorem zk_58 : zckm (zmd 58) false zc_58 zmd [] = true := by decide +kernel
noncomputable def zf_58 : zF := zden zX0 zi_58 (zlk []) 3
/-- HillErrands$Reader.exchange -/
theorem zs_58 : ∀ d, 1 ≤ d → zSnd d (zmd 58) zf_58 := by
  intro d hd
  obtain ⟨d, rfl⟩ : ∃ k, d = k + 1 := ⟨d - 1, by omega⟩
  have h := zsound (d := d) (l := []) zo_58 (fun h => by cases h) zk_58 (fun q hq => by cases hq)
  rw [ze_58] at h
  exact h
set_option maxRecDepth 100000 in
def zc_73 : List zE := [(0, 1, .aload_n 0, .aload 0, 0, 0), (1, 3, .invokespecial 3, .pop, 2002, 3), (4, 1, .aload_n 0, .aload 0, 0, 0), (5, 2, .bipush 8, .iconst 8, 0, 0), (7, 2, .newarray .int, .newarray .int, 1079, 0), (9, 3, .putfield 9, .putstatic 601, 2004, 9), (12, 1, .aload_n 0, .aload 0, 0, 0), (13, 2, .bipush 8, .iconst 8, 0, 0), (15, 2, .newarray .int, .newarray .int, 1079, 0), (17, 3, .putfield 15, .putstatic 602, 2005, 15), (20, 1, .aload_n 0, .aload 0, 0, 0), (21, 2, .bipush 8, .iconst 8, 0, 0), (23, 2, .newarray .int, .newarray .int, 1079, 0), (25, 3, .putfield 18, .putstatic 603, 2006, 18), (28, 1, .aload_n 0, .aload 0, 0, 0), (29, 2, .bipush 8, .iconst 8, 0, 0), (31, 2, .newarray .int, .newarray .int, 1079, 0), (33, 3, .putfield 21, .putstatic 604, 2007, 21), (36, 1, .aload_n 0, .aload 0, 0, 0), (37, 3, .sipush 2048, .iconst 2048, 0, 0), (40, 2, .newarray .int, .newarray .int, 1079, 0), (42, 3, .putfield 24, .putstatic 605, 2008, 24), (45, 1, .aload_n 0, .aload 0, 0, 0), (46, 1, .aload_n 1, .aload 1, 0, 0), (47, 3, .putfield 27, .putstatic 600, 2003, 27), (50, 1, .return_, .return_, 0, 0)]
set_option maxRecDepth 100000 in
def zi_73 : List Instr := [.aload 0, .pop, .aload 0, .iconst 8, .newarray .int, .putstatic 601, .aload 0, .iconst 8, .newarray .int, .putstatic 602, .aload 0, .iconst 8, .newarray .int, .putstatic 603, .aload 0, .iconst 8, .newarray .int, .putstatic 604, .aload 0, .iconst 2048, .newarray .int, .putstatic 605, .aload 0, .aload 1, .putstatic 600, .return_]
set_option maxRecDepth 100000 in
theorem ze_73 : zc_73.map (fun e => e.2.2.2.1) = zi_73 := rfl
set_option maxRecDepth 100000 in
theorem zk_73 : zckm (zmd 73) true zc_73 zmd [] = true := by decide +kernel
noncomputable def zf_73 : zF := zden zX0 zi_73 (zlk []) 2
/-- HillErrands$Rounds.<init> -/
theorem zs_73 : ∀ d, 1 ≤ d → zSnd d (zmd 73) zf_73 := by
  intro d hd
  obtain ⟨d, rfl⟩ : ∃ k, d = k + 1 := ⟨d - 1, by omega⟩
  have h := zsound (d := d) (l := []) zo_73 (fun _ => rfl) zk_73 (fun q hq => by cases hq)
  rw [ze_73] at h
  exact h
set_option maxRecDepth 100000 in
def zc_74 : List zE := [(0, 1, .aload_n 0, .aload 0, 0, 0), (1, 3, .getfield 9, .getstatic 601, 2004, 9), (4, 1, .iload_n 1, .iload 1, 0, 0), (5, 1, .iload_n 2, .iload 2, 0, 0), (6, 1, .iastore, .iastore, 0, 0), (7, 1, .aload_n 0, .aload 0, 0, 0), (8, 3, .getfield 15, .getstatic 602, 2005, 15), (11, 1, .iload_n 1, .iload 1, 0, 0), (12, 1, .iload_n 3, .iload 3, 0, 0), (13, 1, .iastore, .iastore, 0, 0), (14, 1, .aload_n 0, .aload 0, 0, 0), (15, 3, .getfield 18, .getstatic 603, 2006, 18), (18, 1, .iload_n 1, .iload 1, 0, 0), (19, 2, .iload 4, .iload 4, 0, 0), (21, 1, .iastore, .iastore, 0, 0), (22, 1, .aload_n 0, .aload 0, 0, 0), (23, 1, .dup, .dup, 0, 0), (24, 3, .getfield 31, .getfield 606, 2009, 31), (27, 1, .iconst 1, .iconst 1, 0, 0), (28, 1, .iload_n 1, .iload 1, 0, 0), (29, 1, .ishl, .ishl, 0, 0), (30, 1, .ior, .ior, 0, 0), (31, 3, .putfield 31, .putfield 606, 2009, 31), (34, 1, .return_, .return_, 0, 0)]
set_option maxRecDepth 100000 in
def zi_74 : List Instr := [.aload 0, .getstatic 601, .iload 1, .iload 2, .iastore, .aload 0, .getstatic 602, .iload 1, .iload 3, .iastore, .aload 0, .getstatic 603, .iload 1, .iload 4, .iastore, .aload 0, .dup, .getfield 606, .iconst 1, .iload 1, .ishl, .ior, .putfield 606, .return_]
set_option maxRecDepth 100000 in
theorem ze_74 : zc_74.map (fun e => e.2.2.2.1) = zi_74 := rfl
set_option maxRecDepth 100000 in
theorem zk_74 : zckm (zmd 74) false zc_74 zmd [] = true := by decide +kernel
noncomputable def zf_74 : zF := zden zX0 zi_74 (zlk []) 5
/-- HillErrands$Rounds.tell -/
theorem zs_74 : ∀ d, 1 ≤ d → zSnd d (zmd 74) zf_74 := by
  intro d hd
  obtain ⟨d, rfl⟩ : ∃ k, d = k + 1 := ⟨d - 1, by omega⟩
  have h := zsound (d := d) (l := []) zo_74 (fun h => by cases h) zk_74 (fun q hq => by cases hq)
  rw [ze_74] at h
  exact h
set_option maxRecDepth 100000 in
def zc_75 : List zE := [(0, 1, .iconst 0, .iconst 0, 0, 0), (1, 1, .istore_n 2, .istore 2, 0, 0), (2, 1, .iconst 0, .iconst 0, 0, 0), (3, 1, .istore_n 3, .istore 3, 0, 0), (4, 1, .iload_n 3, .iload 3, 0, 0), (5, 2, .bipush 8, .iconst 8, 0, 0), (7, 3, .if_icmp .ge 26, .if_icmp .ge 22, 0, 0), (10, 1, .iload_n 1, .iload 1, 0, 0), (11, 1, .iload_n 3, .iload 3, 0, 0), (12, 1, .ishr, .ishr, 0, 0), (13, 1, .iconst 1, .iconst 1, 0, 0), (14, 1, .iand, .iand, 0, 0), (15, 3, .ifCond .eq 12, .ifCond .eq 20, 0, 0), (18, 1, .iload_n 2, .iload 2, 0, 0), (19, 1, .aload_n 0, .aload 0, 0, 0), (20, 3, .getfield 18, .getstatic 603, 2006, 18), (23, 1, .iload_n 3, .iload 3, 0, 0), (24, 1, .iaload, .iaload, 0, 0), (25, 1, .iadd, .iadd, 0, 0), (26, 1, .istore_n 2, .istore 2, 0, 0), (27, 3, .iinc 3 1, .iinc 3 1, 0, 0), (30, 3, .goto (-26), .goto 4, 0, 0), (33, 1, .iload_n 2, .iload 2, 0, 0), (34, 1, .ireturn, .ireturn, 0, 0)]
set_option maxRecDepth 100000 in
def zi_75 : List Instr := [.iconst 0, .istore 2, .iconst 0, .istore 3, .iload 3, .iconst 8, .if_icmp .ge 22, .iload 1, .iload 3, .ishr, .iconst 1, .iand, .ifCond .eq 20, .iload 2, .aload 0, .getstatic 603, .iload 3, .iaload, .iadd, .istore 2, .iinc 3 1, .goto 4, .iload 2, .ireturn]
set_option maxRecDepth 100000 in
theorem ze_75 : zc_75.map (fun e => e.2.2.2.1) = zi_75 := rfl
set_option maxRecDepth 100000 in
theorem zk_75 : zckm (zmd 75) false zc_75 zmd [] = true := by decide +kernel
noncomputable def zf_75 : zF := zden zX0 zi_75 (zlk []) 4
/-- HillErrands$Rounds.worthOf -/
theorem zs_75 : ∀ d, 1 ≤ d → zSnd d (zmd 75) zf_75 := by
  intro d hd
  obtain ⟨d, rfl⟩ : ∃ k, d = k + 1 := ⟨d - 1, by omega⟩
  have h := zsound (d := d) (l := []) zo_75 (fun h => by cases h) zk_75 (fun q hq => by cases hq)
  rw [ze_75] at h
  exact h
set_option maxRecDepth 100000 in
def zc_76 : List zE := [(0, 1, .iconst 0, .iconst 0, 0, 0), (1, 1, .istore_n 2, .istore 2, 0, 0), (2, 1, .iconst 0, .iconst 0, 0, 0), (3, 1, .istore_n 3, .istore 3, 0, 0), (4, 1, .iload_n 3, .iload 3, 0, 0), (5, 2, .bipush 8, .iconst 8, 0, 0), (7, 3, .if_icmp .ge 26, .if_icmp .ge 22, 0, 0), (10, 1, .iload_n 1, .iload 1, 0, 0), (11, 1, .iload_n 3, .iload 3, 0, 0), (12, 1, .ishr, .ishr, 0, 0), (13, 1, .iconst 1, .iconst 1, 0, 0), (14, 1, .iand, .iand, 0, 0), (15, 3, .ifCond .eq 12, .ifCond .eq 20, 0, 0), (18, 1, .iload_n 2, .iload 2, 0, 0), (19, 1, .aload_n 0, .aload 0, 0, 0), (20, 3, .getfield 15, .getstatic 602, 2005, 15), (23, 1, .iload_n 3, .iload 3, 0, 0), (24, 1, .iaload, .iaload, 0, 0), (25, 1, .iadd, .iadd, 0, 0), (26, 1, .istore_n 2, .istore 2, 0, 0), (27, 3, .iinc 3 1, .iinc 3 1, 0, 0), (30, 3, .goto (-26), .goto 4, 0, 0), (33, 1, .iload_n 2, .iload 2, 0, 0), (34, 1, .ireturn, .ireturn, 0, 0)]
set_option maxRecDepth 100000 in
def zi_76 : List Instr := [.iconst 0, .istore 2, .iconst 0, .istore 3, .iload 3, .iconst 8, .if_icmp .ge 22, .iload 1, .iload 3, .ishr, .iconst 1, .iand, .ifCond .eq 20, .iload 2, .aload 0, .getstatic 602, .iload 3, .iaload, .iadd, .istore 2, .iinc 3 1, .goto 4, .iload 2, .ireturn]
set_option maxRecDepth 100000 in
theorem ze_76 : zc_76.map (fun e => e.2.2.2.1) = zi_76 := rfl
set_option maxRecDepth 100000 in
theorem zk_76 : zckm (zmd 76) false zc_76 zmd [] = true := by decide +kernel
noncomputable def zf_76 : zF := zden zX0 zi_76 (zlk []) 4
/-- HillErrands$Rounds.loadOf -/
theorem zs_76 : ∀ d, 1 ≤ d → zSnd d (zmd 76) zf_76 := by
  intro d hd
  obtain ⟨d, rfl⟩ : ∃ k, d = k + 1 := ⟨d - 1, by omega⟩
  have h := zsound (d := d) (l := []) zo_76 (fun h => by cases h) zk_76 (fun q hq => by cases hq)
  rw [ze_76] at h
  exact h
set_option maxRecDepth 100000 in
def zc_77 : List zE := [(0, 1, .iconst 0, .iconst 0, 0, 0), (1, 1, .istore_n 2, .istore 2, 0, 0), (2, 1, .iload_n 2, .iload 2, 0, 0), (3, 1, .iload_n 1, .iload 1, 0, 0), (4, 3, .if_icmp .gt 29, .if_icmp .gt 19, 0, 0), (7, 1, .iload_n 2, .iload 2, 0, 0), (8, 1, .iload_n 1, .iload 1, 0, 0), (9, 1, .iconst (-1), .iconst (-1), 0, 0), (10, 1, .ixor, .ixor, 0, 0), (11, 1, .iand, .iand, 0, 0), (12, 3, .ifCond .ne 15, .ifCond .ne 17, 0, 0), (15, 1, .aload_n 0, .aload 0, 0, 0), (16, 3, .getfield 27, .getstatic 600, 2003, 27), (19, 1, .aload_n 0, .aload 0, 0, 0), (20, 1, .iload_n 2, .iload 2, 0, 0), (21, 3, .invokevirtual 35, .invokevirtual 760611, 4068, 35), (24, 3, .invokevirtual 39, .invokevirtual 1200901, 4046, 39), (27, 3, .iinc 2 1, .iinc 2 1, 0, 0), (30, 3, .goto (-28), .goto 2, 0, 0), (33, 1, .return_, .return_, 0, 0)]
set_option maxRecDepth 100000 in
def zi_77 : List Instr := [.iconst 0, .istore 2, .iload 2, .iload 1, .if_icmp .gt 19, .iload 2, .iload 1, .iconst (-1), .ixor, .iand, .ifCond .ne 17, .aload 0, .getstatic 600, .aload 0, .iload 2, .invokevirtual 760611, .invokevirtual 1200901, .iinc 2 1, .goto 2, .return_]
set_option maxRecDepth 100000 in
theorem ze_77 : zc_77.map (fun e => e.2.2.2.1) = zi_77 := rfl
set_option maxRecDepth 100000 in
theorem zk_77 : zckm (zmd 77) false zc_77 zmd [76, 120] = true := by decide +kernel
noncomputable def zf_77 : zF := zden zX0 zi_77 (zlk [(76, zf_76), (120, zf_120)]) 3
/-- HillErrands$Rounds.freshen -/
theorem zs_77 : ∀ d, 7 ≤ d → zSnd d (zmd 77) zf_77 := by
  intro d hd
  obtain ⟨d, rfl⟩ : ∃ k, d = k + 1 := ⟨d - 1, by omega⟩
  have h := zsound (d := d) (l := [(76, zf_76), (120, zf_120)]) zo_77 (fun h => by cases h) zk_77 (fun q hq => by
    simp only [List.mem_cons, List.not_mem_nil, or_false] at hq
    rcases hq with rfl | rfl
    · exact zs_76 d (by omega)
    · exact zs_120 d (by omega))
  rw [ze_77] at h
  exact h
set_option maxRecDepth 100000 in
def zc_78 : List zE := [(0, 1, .iconst 0, .iconst 0, 0, 0), (1, 1, .istore_n 3, .istore 3, 0, 0), (2, 1, .iconst 0, .iconst 0, 0, 0), (3, 2, .istore 4, .istore 4, 0, 0), (5, 2, .iload 4, .iload 4, 0, 0), (7, 1, .iload_n 2, .iload 2, 0, 0), (8, 3, .if_icmp .ge 75, .if_icmp .ge 47, 0, 0), (11, 2, .iload 4, .iload 4, 0, 0), (13, 2, .bipush 8, .iconst 8, 0, 0), (15, 3, .if_icmp .ge 68, .if_icmp .ge 47, 0, 0), (18, 1, .aload_n 1, .aload 1, 0, 0), (19, 2, .iload 4, .iload 4, 0, 0), (21, 3, .invokevirtual 45, .invokevirtual 930711, 4041, 45), (24, 2, .istore 5, .istore 5, 0, 0), (26, 2, .iload 5, .iload 5, 0, 0), (28, 3, .ifCond .lt 31, .ifCond .lt 32, 0, 0), (31, 2, .iload 5, .iload 5, 0, 0), (33, 2, .bipush 8, .iconst 8, 0, 0), (35, 3, .if_icmp .ge 24, .if_icmp .ge 32, 0, 0), (38, 1, .aload_n 0, .aload 0, 0, 0), (39, 3, .getfield 31, .getfield 606, 2009, 31), (42, 2, .iload 5, .iload 5, 0, 0), (44, 1, .ishr, .ishr, 0, 0), (45, 1, .iconst 1, .iconst 1, 0, 0), (46, 1, .iand, .iand, 0, 0), (47, 3, .ifCond .eq 12, .ifCond .eq 32, 0, 0), (50, 1, .iload_n 3, .iload 3, 0, 0), (51, 2, .iload 5, .iload 5, 0, 0), (53, 1, .ishr, .ishr, 0, 0), (54, 1, .iconst 1, .iconst 1, 0, 0), (55, 1, .iand, .iand, 0, 0), (56, 3, .ifCond .eq 5, .ifCond .eq 34, 0, 0), (59, 1, .iconst 0, .iconst 0, 0, 0), (60, 1, .ireturn, .lreturn, 0, 0), (61, 1, .iload_n 3, .iload 3, 0, 0), (62, 1, .iconst 1, .iconst 1, 0, 0), (63, 2, .iload 5, .iload 5, 0, 0), (65, 1, .ishl, .ishl, 0, 0), (66, 1, .ior, .ior, 0, 0), (67, 1, .istore_n 3, .istore 3, 0, 0), (68, 1, .aload_n 0, .aload 0, 0, 0), (69, 3, .getfield 21, .getstatic 604, 2007, 21), (72, 2, .iload 4, .iload 4, 0, 0), (74, 2, .iload 5, .iload 5, 0, 0), (76, 1, .iastore, .iastore, 0, 0), (77, 3, .iinc 4 1, .iinc 4 1, 0, 0), (80, 3, .goto (-75), .goto 4, 0, 0), (83, 1, .iconst 1, .iconst 1, 0, 0), (84, 1, .ireturn, .lreturn, 0, 0)]
set_option maxRecDepth 100000 in
def zi_78 : List Instr := [.iconst 0, .istore 3, .iconst 0, .istore 4, .iload 4, .iload 2, .if_icmp .ge 47, .iload 4, .iconst 8, .if_icmp .ge 47, .aload 1, .iload 4, .invokevirtual 930711, .istore 5, .iload 5, .ifCond .lt 32, .iload 5, .iconst 8, .if_icmp .ge 32, .aload 0, .getfield 606, .iload 5, .ishr, .iconst 1, .iand, .ifCond .eq 32, .iload 3, .iload 5, .ishr, .iconst 1, .iand, .ifCond .eq 34, .iconst 0, .lreturn, .iload 3, .iconst 1, .iload 5, .ishl, .ior, .istore 3, .aload 0, .getstatic 604, .iload 4, .iload 5, .iastore, .iinc 4 1, .goto 4, .iconst 1, .lreturn]
set_option maxRecDepth 100000 in
theorem ze_78 : zc_78.map (fun e => e.2.2.2.1) = zi_78 := rfl
set_option maxRecDepth 100000 in
theorem zk_78 : zckm (zmd 78) false zc_78 zmd [93] = true := by decide +kernel
noncomputable def zf_78 : zF := zden zX0 zi_78 (zlk [(93, zf_93)]) 6
/-- HillErrands$Rounds.readOrder -/
theorem zs_78 : ∀ d, 2 ≤ d → zSnd d (zmd 78) zf_78 := by
  intro d hd
  obtain ⟨d, rfl⟩ : ∃ k, d = k + 1 := ⟨d - 1, by omega⟩
  have h := zsound (d := d) (l := [(93, zf_93)]) zo_78 (fun h => by cases h) zk_78 (fun q hq => by
    simp only [List.mem_cons, List.not_mem_nil, or_false] at hq
    subst hq
    · exact zs_93 d (by omega))
  rw [ze_78] at h
  exact h
set_option maxRecDepth 100000 in
def zc_79 : List zE := [(0, 1, .iload_n 1, .iload 1, 0, 0), (1, 1, .istore_n 3, .istore 3, 0, 0), (2, 1, .iconst 0, .iconst 0, 0, 0), (3, 2, .istore 4, .istore 4, 0, 0), (5, 1, .iconst 0, .iconst 0, 0, 0), (6, 2, .istore 5, .istore 5, 0, 0), (8, 1, .iconst 0, .iconst 0, 0, 0), (9, 2, .istore 6, .istore 6, 0, 0), (11, 2, .iload 6, .iload 6, 0, 0), (13, 1, .iload_n 2, .iload 2, 0, 0), (14, 3, .if_icmp .ge 76, .if_icmp .ge 49, 0, 0), (17, 2, .iload 6, .iload 6, 0, 0), (19, 2, .bipush 8, .iconst 8, 0, 0), (21, 3, .if_icmp .ge 69, .if_icmp .ge 49, 0, 0), (24, 1, .aload_n 0, .aload 0, 0, 0), (25, 3, .getfield 27, .getstatic 600, 2003, 27), (28, 2, .iload 4, .iload 4, 0, 0), (30, 3, .invokevirtual 39, .invokevirtual 1200901, 4046, 39), (33, 1, .aload_n 0, .aload 0, 0, 0), (34, 3, .getfield 21, .getstatic 604, 2007, 21), (37, 2, .iload 6, .iload 6, 0, 0), (39, 1, .iaload, .iaload, 0, 0), (40, 2, .istore 7, .istore 7, 0, 0), (42, 2, .iload 5, .iload 5, 0, 0), (44, 1, .aload_n 0, .aload 0, 0, 0), (45, 3, .getfield 27, .getstatic 600, 2003, 27), (48, 1, .iload_n 3, .iload 3, 0, 0), (49, 1, .aload_n 0, .aload 0, 0, 0), (50, 3, .getfield 9, .getstatic 601, 2004, 9), (53, 2, .iload 7, .iload 7, 0, 0), (55, 1, .iaload, .iaload, 0, 0), (56, 2, .iload 4, .iload 4, 0, 0), (58, 3, .invokevirtual 50, .invokevirtual 1210913, 4047, 50), (61, 1, .iadd, .iadd, 0, 0), (62, 2, .istore 5, .istore 5, 0, 0), (64, 1, .aload_n 0, .aload 0, 0, 0), (65, 3, .getfield 9, .getstatic 601, 2004, 9), (68, 2, .iload 7, .iload 7, 0, 0), (70, 1, .iaload, .iaload, 0, 0), (71, 1, .istore_n 3, .istore 3, 0, 0), (72, 2, .iload 4, .iload 4, 0, 0), (74, 1, .aload_n 0, .aload 0, 0, 0), (75, 3, .getfield 15, .getstatic 602, 2005, 15), (78, 2, .iload 7, .iload 7, 0, 0), (80, 1, .iaload, .iaload, 0, 0), (81, 1, .iadd, .iadd, 0, 0), (82, 2, .istore 4, .istore 4, 0, 0), (84, 3, .iinc 6 1, .iinc 6 1, 0, 0), (87, 3, .goto (-76), .goto 8, 0, 0), (90, 1, .aload_n 0, .aload 0, 0, 0), (91, 3, .getfield 27, .getstatic 600, 2003, 27), (94, 2, .iload 4, .iload 4, 0, 0), (96, 3, .invokevirtual 39, .invokevirtual 1200901, 4046, 39), (99, 2, .iload 5, .iload 5, 0, 0), (101, 1, .aload_n 0, .aload 0, 0, 0), (102, 3, .getfield 27, .getstatic 600, 2003, 27), (105, 1, .iload_n 3, .iload 3, 0, 0), (106, 1, .iload_n 1, .iload 1, 0, 0), (107, 2, .iload 4, .iload 4, 0, 0), (109, 3, .invokevirtual 50, .invokevirtual 1210913, 4047, 50), (112, 1, .iadd, .iadd, 0, 0), (113, 1, .ireturn, .ireturn, 0, 0)]
set_option maxRecDepth 100000 in
def zi_79 : List Instr := [.iload 1, .istore 3, .iconst 0, .istore 4, .iconst 0, .istore 5, .iconst 0, .istore 6, .iload 6, .iload 2, .if_icmp .ge 49, .iload 6, .iconst 8, .if_icmp .ge 49, .aload 0, .getstatic 600, .iload 4, .invokevirtual 1200901, .aload 0, .getstatic 604, .iload 6, .iaload, .istore 7, .iload 5, .aload 0, .getstatic 600, .iload 3, .aload 0, .getstatic 601, .iload 7, .iaload, .iload 4, .invokevirtual 1210913, .iadd, .istore 5, .aload 0, .getstatic 601, .iload 7, .iaload, .istore 3, .iload 4, .aload 0, .getstatic 602, .iload 7, .iaload, .iadd, .istore 4, .iinc 6 1, .goto 8, .aload 0, .getstatic 600, .iload 4, .invokevirtual 1200901, .iload 5, .aload 0, .getstatic 600, .iload 3, .iload 1, .iload 4, .invokevirtual 1210913, .iadd, .ireturn]
set_option maxRecDepth 100000 in
theorem ze_79 : zc_79.map (fun e => e.2.2.2.1) = zi_79 := rfl
set_option maxRecDepth 100000 in
theorem zk_79 : zckm (zmd 79) false zc_79 zmd [120, 121] = true := by decide +kernel
noncomputable def zf_79 : zF := zden zX0 zi_79 (zlk [(120, zf_120), (121, zf_121)]) 8
/-- HillErrands$Rounds.costInOrder -/
theorem zs_79 : ∀ d, 7 ≤ d → zSnd d (zmd 79) zf_79 := by
  intro d hd
  obtain ⟨d, rfl⟩ : ∃ k, d = k + 1 := ⟨d - 1, by omega⟩
  have h := zsound (d := d) (l := [(120, zf_120), (121, zf_121)]) zo_79 (fun h => by cases h) zk_79 (fun q hq => by
    simp only [List.mem_cons, List.not_mem_nil, or_false] at hq
    rcases hq with rfl | rfl
    · exact zs_120 d (by omega)
    · exact zs_121 d (by omega))
  rw [ze_79] at h
  exact h
set_option maxRecDepth 100000 in
def zc_80 : List zE := [(0, 1, .iconst 0, .iconst 0, 0, 0), (1, 1, .istore_n 3, .istore 3, 0, 0), (2, 1, .iconst 0, .iconst 0, 0, 0), (3, 2, .istore 4, .istore 4, 0, 0), (5, 2, .iload 4, .iload 4, 0, 0), (7, 2, .bipush 8, .iconst 8, 0, 0), (9, 3, .if_icmp .ge 60, .if_icmp .ge 40, 0, 0), (12, 1, .iload_n 2, .iload 2, 0, 0), (13, 2, .iload 4, .iload 4, 0, 0), (15, 1, .ishr, .ishr, 0, 0), (16, 1, .iconst 1, .iconst 1, 0, 0), (17, 1, .iand, .iand, 0, 0), (18, 3, .ifCond .eq 45, .ifCond .eq 38, 0, 0), (21, 1, .iload_n 3, .iload 3, 0, 0), (22, 1, .aload_n 0, .aload 0, 0, 0), (23, 3, .getfield 27, .getstatic 600, 2003, 27), (26, 1, .iload_n 1, .iload 1, 0, 0), (27, 1, .aload_n 0, .aload 0, 0, 0), (28, 3, .getfield 9, .getstatic 601, 2004, 9), (31, 2, .iload 4, .iload 4, 0, 0), (33, 1, .iaload, .iaload, 0, 0), (34, 1, .iconst 0, .iconst 0, 0, 0), (35, 3, .invokevirtual 50, .invokevirtual 1210913, 4047, 50), (38, 1, .aload_n 0, .aload 0, 0, 0), (39, 3, .getfield 27, .getstatic 600, 2003, 27), (42, 1, .aload_n 0, .aload 0, 0, 0), (43, 3, .getfield 9, .getstatic 601, 2004, 9), (46, 2, .iload 4, .iload 4, 0, 0), (48, 1, .iaload, .iaload, 0, 0), (49, 1, .iload_n 1, .iload 1, 0, 0), (50, 1, .aload_n 0, .aload 0, 0, 0), (51, 3, .getfield 15, .getstatic 602, 2005, 15), (54, 2, .iload 4, .iload 4, 0, 0), (56, 1, .iaload, .iaload, 0, 0), (57, 3, .invokevirtual 50, .invokevirtual 1210913, 4047, 50), (60, 1, .iadd, .iadd, 0, 0), (61, 1, .iadd, .iadd, 0, 0), (62, 1, .istore_n 3, .istore 3, 0, 0), (63, 3, .iinc 4 1, .iinc 4 1, 0, 0), (66, 3, .goto (-61), .goto 4, 0, 0), (69, 1, .iload_n 3, .iload 3, 0, 0), (70, 1, .ireturn, .ireturn, 0, 0)]
set_option maxRecDepth 100000 in
def zi_80 : List Instr := [.iconst 0, .istore 3, .iconst 0, .istore 4, .iload 4, .iconst 8, .if_icmp .ge 40, .iload 2, .iload 4, .ishr, .iconst 1, .iand, .ifCond .eq 38, .iload 3, .aload 0, .getstatic 600, .iload 1, .aload 0, .getstatic 601, .iload 4, .iaload, .iconst 0, .invokevirtual 1210913, .aload 0, .getstatic 600, .aload 0, .getstatic 601, .iload 4, .iaload, .iload 1, .aload 0, .getstatic 602, .iload 4, .iaload, .invokevirtual 1210913, .iadd, .iadd, .istore 3, .iinc 4 1, .goto 4, .iload 3, .ireturn]
set_option maxRecDepth 100000 in
theorem ze_80 : zc_80.map (fun e => e.2.2.2.1) = zi_80 := rfl
set_option maxRecDepth 100000 in
theorem zk_80 : zckm (zmd 80) false zc_80 zmd [121] = true := by decide +kernel
noncomputable def zf_80 : zF := zden zX0 zi_80 (zlk [(121, zf_121)]) 5
/-- HillErrands$Rounds.separate -/
theorem zs_80 : ∀ d, 5 ≤ d → zSnd d (zmd 80) zf_80 := by
  intro d hd
  obtain ⟨d, rfl⟩ : ∃ k, d = k + 1 := ⟨d - 1, by omega⟩
  have h := zsound (d := d) (l := [(121, zf_121)]) zo_80 (fun h => by cases h) zk_80 (fun q hq => by
    simp only [List.mem_cons, List.not_mem_nil, or_false] at hq
    subst hq
    · exact zs_121 d (by omega))
  rw [ze_80] at h
  exact h
set_option maxRecDepth 100000 in
def zc_82 : List zE := [(0, 2, .iload 4, .iload 4, 0, 0), (2, 1, .iconst (-1), .iconst (-1), 0, 0), (3, 3, .if_icmp .ne 6, .if_icmp .ne 5, 0, 0), (6, 2, .ldc 61, .iconst 100000000, 4084, 61), (8, 1, .ireturn, .ireturn, 0, 0), (9, 1, .aload_n 0, .aload 0, 0, 0), (10, 3, .getfield 27, .getstatic 600, 2003, 27), (13, 1, .iload_n 1, .iload 1, 0, 0), (14, 1, .aload_n 0, .aload 0, 0, 0), (15, 3, .getfield 9, .getstatic 601, 2004, 9), (18, 2, .iload 4, .iload 4, 0, 0), (20, 1, .iaload, .iaload, 0, 0), (21, 1, .iload_n 3, .iload 3, 0, 0), (22, 3, .invokevirtual 50, .invokevirtual 1210913, 4047, 50), (25, 1, .aload_n 0, .aload 0, 0, 0), (26, 3, .getfield 24, .getstatic 605, 2008, 24), (29, 1, .iload_n 2, .iload 2, 0, 0), (30, 1, .iconst 1, .iconst 1, 0, 0), (31, 2, .iload 4, .iload 4, 0, 0), (33, 1, .ishl, .ishl, 0, 0), (34, 1, .ior, .ior, 0, 0), (35, 2, .bipush 8, .iconst 8, 0, 0), (37, 1, .imul, .imul, 0, 0), (38, 2, .iload 4, .iload 4, 0, 0), (40, 1, .iadd, .iadd, 0, 0), (41, 1, .iaload, .iaload, 0, 0), (42, 1, .iadd, .iadd, 0, 0), (43, 1, .ireturn, .ireturn, 0, 0)]
set_option maxRecDepth 100000 in
def zi_82 : List Instr := [.iload 4, .iconst (-1), .if_icmp .ne 5, .iconst 100000000, .ireturn, .aload 0, .getstatic 600, .iload 1, .aload 0, .getstatic 601, .iload 4, .iaload, .iload 3, .invokevirtual 1210913, .aload 0, .getstatic 605, .iload 2, .iconst 1, .iload 4, .ishl, .ior, .iconst 8, .imul, .iload 4, .iadd, .iaload, .iadd, .ireturn]
set_option maxRecDepth 100000 in
theorem ze_82 : zc_82.map (fun e => e.2.2.2.1) = zi_82 := rfl
set_option maxRecDepth 100000 in
theorem zk_82 : zckm (zmd 82) false zc_82 zmd [121] = true := by decide +kernel
noncomputable def zf_82 : zF := zden zX0 zi_82 (zlk [(121, zf_121)]) 5
/-- HillErrands$Rounds.through -/
theorem zs_82 : ∀ d, 5 ≤ d → zSnd d (zmd 82) zf_82 := by
  intro d hd
  obtain ⟨d, rfl⟩ : ∃ k, d = k + 1 := ⟨d - 1, by omega⟩
  have h := zsound (d := d) (l := [(121, zf_121)]) zo_82 (fun h => by cases h) zk_82 (fun q hq => by
    simp only [List.mem_cons, List.not_mem_nil, or_false] at hq
    subst hq
    · exact zs_121 d (by omega))
  rw [ze_82] at h
  exact h
set_option maxRecDepth 100000 in
def zc_83 : List zE := [(0, 1, .iconst (-1), .iconst (-1), 0, 0), (1, 2, .istore 5, .istore 5, 0, 0), (3, 2, .ldc 61, .iconst 100000000, 4084, 61), (5, 2, .istore 6, .istore 6, 0, 0), (7, 1, .iconst 0, .iconst 0, 0, 0), (8, 2, .istore 7, .istore 7, 0, 0), (10, 2, .iload 7, .iload 7, 0, 0), (12, 2, .bipush 8, .iconst 8, 0, 0), (14, 3, .if_icmp .ge 49, .if_icmp .ge 35, 0, 0), (17, 1, .iload_n 2, .iload 2, 0, 0), (18, 1, .iload_n 3, .iload 3, 0, 0), (19, 1, .iconst (-1), .iconst (-1), 0, 0), (20, 1, .ixor, .ixor, 0, 0), (21, 1, .iand, .iand, 0, 0), (22, 2, .iload 7, .iload 7, 0, 0), (24, 1, .ishr, .ishr, 0, 0), (25, 1, .iconst 1, .iconst 1, 0, 0), (26, 1, .iand, .iand, 0, 0), (27, 3, .ifCond .eq 30, .ifCond .eq 33, 0, 0), (30, 1, .aload_n 0, .aload 0, 0, 0), (31, 1, .iload_n 1, .iload 1, 0, 0), (32, 1, .iload_n 3, .iload 3, 0, 0), (33, 2, .iload 4, .iload 4, 0, 0), (35, 2, .iload 7, .iload 7, 0, 0), (37, 3, .invokevirtual 58, .invokevirtual 820614, 4085, 58), (40, 2, .istore 8, .istore 8, 0, 0), (42, 2, .iload 8, .iload 8, 0, 0), (44, 2, .iload 6, .iload 6, 0, 0), (46, 3, .if_icmp .ge 11, .if_icmp .ge 33, 0, 0), (49, 2, .iload 8, .iload 8, 0, 0), (51, 2, .istore 6, .istore 6, 0, 0), (53, 2, .iload 7, .iload 7, 0, 0), (55, 2, .istore 5, .istore 5, 0, 0), (57, 3, .iinc 7 1, .iinc 7 1, 0, 0), (60, 3, .goto (-50), .goto 6, 0, 0), (63, 2, .iload 5, .iload 5, 0, 0), (65, 1, .ireturn, .ireturn, 0, 0)]
set_option maxRecDepth 100000 in
def zi_83 : List Instr := [.iconst (-1), .istore 5, .iconst 100000000, .istore 6, .iconst 0, .istore 7, .iload 7, .iconst 8, .if_icmp .ge 35, .iload 2, .iload 3, .iconst (-1), .ixor, .iand, .iload 7, .ishr, .iconst 1, .iand, .ifCond .eq 33, .aload 0, .iload 1, .iload 3, .iload 4, .iload 7, .invokevirtual 820614, .istore 8, .iload 8, .iload 6, .if_icmp .ge 33, .iload 8, .istore 6, .iload 7, .istore 5, .iinc 7 1, .goto 6, .iload 5, .ireturn]
set_option maxRecDepth 100000 in
theorem ze_83 : zc_83.map (fun e => e.2.2.2.1) = zi_83 := rfl
set_option maxRecDepth 100000 in
theorem zk_83 : zckm (zmd 83) false zc_83 zmd [82] = true := by decide +kernel
noncomputable def zf_83 : zF := zden zX0 zi_83 (zlk [(82, zf_82)]) 9
/-- HillErrands$Rounds.firstBest -/
theorem zs_83 : ∀ d, 6 ≤ d → zSnd d (zmd 83) zf_83 := by
  intro d hd
  obtain ⟨d, rfl⟩ : ∃ k, d = k + 1 := ⟨d - 1, by omega⟩
  have h := zsound (d := d) (l := [(82, zf_82)]) zo_83 (fun h => by cases h) zk_83 (fun q hq => by
    simp only [List.mem_cons, List.not_mem_nil, or_false] at hq
    subst hq
    · exact zs_82 d (by omega))
  rw [ze_83] at h
  exact h
set_option maxRecDepth 100000 in
def zc_81 : List zE := [(0, 1, .iload_n 2, .iload 2, 0, 0), (1, 1, .istore_n 3, .istore 3, 0, 0), (2, 1, .iload_n 3, .iload 3, 0, 0), (3, 3, .ifCond .le 118, .ifCond .le 68, 0, 0), (6, 1, .iload_n 3, .iload 3, 0, 0), (7, 1, .iload_n 2, .iload 2, 0, 0), (8, 1, .iconst (-1), .iconst (-1), 0, 0), (9, 1, .ixor, .ixor, 0, 0), (10, 1, .iand, .iand, 0, 0), (11, 3, .ifCond .eq 6, .ifCond .eq 11, 0, 0), (14, 3, .goto 101, .goto 66, 0, 0), (17, 1, .aload_n 0, .aload 0, 0, 0), (18, 1, .iload_n 3, .iload 3, 0, 0), (19, 3, .invokevirtual 35, .invokevirtual 760611, 4068, 35), (22, 2, .istore 4, .istore 4, 0, 0), (24, 1, .iconst 0, .iconst 0, 0, 0), (25, 2, .istore 5, .istore 5, 0, 0), (27, 2, .iload 5, .iload 5, 0, 0), (29, 2, .bipush 8, .iconst 8, 0, 0), (31, 3, .if_icmp .ge 84, .if_icmp .ge 66, 0, 0), (34, 1, .iload_n 3, .iload 3, 0, 0), (35, 2, .iload 5, .iload 5, 0, 0), (37, 1, .ishr, .ishr, 0, 0), (38, 1, .iconst 1, .iconst 1, 0, 0), (39, 1, .iand, .iand, 0, 0), (40, 3, .ifCond .eq 69, .ifCond .eq 64, 0, 0), (43, 1, .aload_n 0, .aload 0, 0, 0), (44, 3, .getfield 24, .getstatic 605, 2008, 24), (47, 1, .iload_n 3, .iload 3, 0, 0), (48, 2, .bipush 8, .iconst 8, 0, 0), (50, 1, .imul, .imul, 0, 0), (51, 2, .iload 5, .iload 5, 0, 0), (53, 1, .iadd, .iadd, 0, 0), (54, 1, .iload_n 3, .iload 3, 0, 0), (55, 1, .iload_n 2, .iload 2, 0, 0), (56, 3, .if_icmp .ne 23, .if_icmp .ne 46, 0, 0), (59, 1, .aload_n 0, .aload 0, 0, 0), (60, 3, .getfield 27, .getstatic 600, 2003, 27), (63, 1, .aload_n 0, .aload 0, 0, 0), (64, 3, .getfield 9, .getstatic 601, 2004, 9), (67, 2, .iload 5, .iload 5, 0, 0), (69, 1, .iaload, .iaload, 0, 0), (70, 1, .iload_n 1, .iload 1, 0, 0), (71, 2, .iload 4, .iload 4, 0, 0), (73, 3, .invokevirtual 50, .invokevirtual 1210913, 4047, 50), (76, 3, .goto 32, .goto 63, 0, 0), (79, 1, .aload_n 0, .aload 0, 0, 0), (80, 1, .aload_n 0, .aload 0, 0, 0), (81, 3, .getfield 9, .getstatic 601, 2004, 9), (84, 2, .iload 5, .iload 5, 0, 0), (86, 1, .iaload, .iaload, 0, 0), (87, 1, .iload_n 3, .iload 3, 0, 0), (88, 2, .iload 4, .iload 4, 0, 0), (90, 1, .aload_n 0, .aload 0, 0, 0), (91, 1, .aload_n 0, .aload 0, 0, 0), (92, 3, .getfield 9, .getstatic 601, 2004, 9), (95, 2, .iload 5, .iload 5, 0, 0), (97, 1, .iaload, .iaload, 0, 0), (98, 1, .iload_n 2, .iload 2, 0, 0), (99, 1, .iload_n 3, .iload 3, 0, 0), (100, 2, .iload 4, .iload 4, 0, 0), (102, 3, .invokevirtual 54, .invokevirtual 830614, 4080, 54), (105, 3, .invokevirtual 58, .invokevirtual 820614, 4085, 58), (108, 1, .iastore, .iastore, 0, 0), (109, 3, .iinc 5 1, .iinc 5 1, 0, 0), (112, 3, .goto (-85), .goto 17, 0, 0), (115, 3, .iinc 3 (-1), .iinc 3 (-1), 0, 0), (118, 3, .goto (-116), .goto 2, 0, 0), (121, 1, .aload_n 0, .aload 0, 0, 0), (122, 1, .iload_n 1, .iload 1, 0, 0), (123, 1, .iconst 0, .iconst 0, 0, 0), (124, 1, .iconst 0, .iconst 0, 0, 0), (125, 1, .aload_n 0, .aload 0, 0, 0), (126, 1, .iload_n 1, .iload 1, 0, 0), (127, 1, .iload_n 2, .iload 2, 0, 0), (128, 1, .iconst 0, .iconst 0, 0, 0), (129, 1, .iconst 0, .iconst 0, 0, 0), (130, 3, .invokevirtual 54, .invokevirtual 830614, 4080, 54), (133, 3, .invokevirtual 58, .invokevirtual 820614, 4085, 58), (136, 1, .ireturn, .ireturn, 0, 0)]
set_option maxRecDepth 100000 in
def zi_81 : List Instr := [.iload 2, .istore 3, .iload 3, .ifCond .le 68, .iload 3, .iload 2, .iconst (-1), .ixor, .iand, .ifCond .eq 11, .goto 66, .aload 0, .iload 3, .invokevirtual 760611, .istore 4, .iconst 0, .istore 5, .iload 5, .iconst 8, .if_icmp .ge 66, .iload 3, .iload 5, .ishr, .iconst 1, .iand, .ifCond .eq 64, .aload 0, .getstatic 605, .iload 3, .iconst 8, .imul, .iload 5, .iadd, .iload 3, .iload 2, .if_icmp .ne 46, .aload 0, .getstatic 600, .aload 0, .getstatic 601, .iload 5, .iaload, .iload 1, .iload 4, .invokevirtual 1210913, .goto 63, .aload 0, .aload 0, .getstatic 601, .iload 5, .iaload, .iload 3, .iload 4, .aload 0, .aload 0, .getstatic 601, .iload 5, .iaload, .iload 2, .iload 3, .iload 4, .invokevirtual 830614, .invokevirtual 820614, .iastore, .iinc 5 1, .goto 17, .iinc 3 (-1), .goto 2, .aload 0, .iload 1, .iconst 0, .iconst 0, .aload 0, .iload 1, .iload 2, .iconst 0, .iconst 0, .invokevirtual 830614, .invokevirtual 820614, .ireturn]
set_option maxRecDepth 100000 in
theorem ze_81 : zc_81.map (fun e => e.2.2.2.1) = zi_81 := rfl
set_option maxRecDepth 100000 in
theorem zk_81 : zckm (zmd 81) false zc_81 zmd [76, 82, 83, 121] = true := by decide +kernel
noncomputable def zf_81 : zF := zden zX0 zi_81 (zlk [(76, zf_76), (82, zf_82), (83, zf_83), (121, zf_121)]) 6
/-- HillErrands$Rounds.finish -/
theorem zs_81 : ∀ d, 7 ≤ d → zSnd d (zmd 81) zf_81 := by
  intro d hd
  obtain ⟨d, rfl⟩ : ∃ k, d = k + 1 := ⟨d - 1, by omega⟩
  have h := zsound (d := d) (l := [(76, zf_76), (82, zf_82), (83, zf_83), (121, zf_121)]) zo_81 (fun h => by cases h) zk_81 (fun q hq => by
    simp only [List.mem_cons, List.not_mem_nil, or_false] at hq
    rcases hq with rfl | rfl | rfl | rfl
    · exact zs_76 d (by omega)
    · exact zs_82 d (by omega)
    · exact zs_83 d (by omega)
    · exact zs_121 d (by omega))
  rw [ze_81] at h
  exact h
set_option maxRecDepth 100000 in
def zc_84 : List zE := [(0, 1, .iload_n 1, .iload 1, 0, 0), (1, 2, .istore 4, .istore 4, 0, 0), (3, 1, .iconst 0, .iconst 0, 0, 0), (4, 2, .istore 5, .istore 5, 0, 0), (6, 1, .iconst (-1), .iconst (-1), 0, 0), (7, 2, .istore 6, .istore 6, 0, 0), (9, 1, .iconst 0, .iconst 0, 0, 0), (10, 2, .istore 7, .istore 7, 0, 0), (12, 2, .iload 7, .iload 7, 0, 0), (14, 1, .iload_n 3, .iload 3, 0, 0), (15, 3, .if_icmp .gt 59, .if_icmp .gt 41, 0, 0), (18, 2, .iload 7, .iload 7, 0, 0), (20, 2, .bipush 8, .iconst 8, 0, 0), (22, 3, .if_icmp .ge 52, .if_icmp .ge 41, 0, 0), (25, 1, .aload_n 0, .aload 0, 0, 0), (26, 2, .iload 4, .iload 4, 0, 0), (28, 1, .iload_n 2, .iload 2, 0, 0), (29, 2, .iload 5, .iload 5, 0, 0), (31, 1, .aload_n 0, .aload 0, 0, 0), (32, 2, .iload 5, .iload 5, 0, 0), (34, 3, .invokevirtual 35, .invokevirtual 760611, 4068, 35), (37, 3, .invokevirtual 54, .invokevirtual 830614, 4080, 54), (40, 2, .istore 6, .istore 6, 0, 0), (42, 2, .iload 6, .iload 6, 0, 0), (44, 1, .iconst (-1), .iconst (-1), 0, 0), (45, 3, .if_icmp .ne 5, .if_icmp .ne 28, 0, 0), (48, 1, .iconst (-1), .iconst (-1), 0, 0), (49, 1, .ireturn, .ireturn, 0, 0), (50, 1, .aload_n 0, .aload 0, 0, 0), (51, 3, .getfield 9, .getstatic 601, 2004, 9), (54, 2, .iload 6, .iload 6, 0, 0), (56, 1, .iaload, .iaload, 0, 0), (57, 2, .istore 4, .istore 4, 0, 0), (59, 2, .iload 5, .iload 5, 0, 0), (61, 1, .iconst 1, .iconst 1, 0, 0), (62, 2, .iload 6, .iload 6, 0, 0), (64, 1, .ishl, .ishl, 0, 0), (65, 1, .ior, .ior, 0, 0), (66, 2, .istore 5, .istore 5, 0, 0), (68, 3, .iinc 7 1, .iinc 7 1, 0, 0), (71, 3, .goto (-59), .goto 8, 0, 0), (74, 2, .iload 6, .iload 6, 0, 0), (76, 1, .ireturn, .ireturn, 0, 0)]
set_option maxRecDepth 100000 in
def zi_84 : List Instr := [.iload 1, .istore 4, .iconst 0, .istore 5, .iconst (-1), .istore 6, .iconst 0, .istore 7, .iload 7, .iload 3, .if_icmp .gt 41, .iload 7, .iconst 8, .if_icmp .ge 41, .aload 0, .iload 4, .iload 2, .iload 5, .aload 0, .iload 5, .invokevirtual 760611, .invokevirtual 830614, .istore 6, .iload 6, .iconst (-1), .if_icmp .ne 28, .iconst (-1), .ireturn, .aload 0, .getstatic 601, .iload 6, .iaload, .istore 4, .iload 5, .iconst 1, .iload 6, .ishl, .ior, .istore 5, .iinc 7 1, .goto 8, .iload 6, .ireturn]
set_option maxRecDepth 100000 in
theorem ze_84 : zc_84.map (fun e => e.2.2.2.1) = zi_84 := rfl
set_option maxRecDepth 100000 in
theorem zk_84 : zckm (zmd 84) false zc_84 zmd [76, 83] = true := by decide +kernel
noncomputable def zf_84 : zF := zden zX0 zi_84 (zlk [(76, zf_76), (83, zf_83)]) 8
/-- HillErrands$Rounds.inBestOrder -/
theorem zs_84 : ∀ d, 7 ≤ d → zSnd d (zmd 84) zf_84 := by
  intro d hd
  obtain ⟨d, rfl⟩ : ∃ k, d = k + 1 := ⟨d - 1, by omega⟩
  have h := zsound (d := d) (l := [(76, zf_76), (83, zf_83)]) zo_84 (fun h => by cases h) zk_84 (fun q hq => by
    simp only [List.mem_cons, List.not_mem_nil, or_false] at hq
    rcases hq with rfl | rfl
    · exact zs_76 d (by omega)
    · exact zs_83 d (by omega))
  rw [ze_84] at h
  exact h
set_option maxRecDepth 100000 in
def zc_86 : List zE := [(0, 1, .aload_n 0, .aload 0, 0, 0), (1, 1, .iload_n 1, .iload 1, 0, 0), (2, 3, .invokevirtual 35, .invokevirtual 760611, 4068, 35), (5, 1, .istore_n 2, .istore 2, 0, 0), (6, 1, .iconst 0, .iconst 0, 0, 0), (7, 1, .istore_n 3, .istore 3, 0, 0), (8, 1, .iload_n 3, .iload 3, 0, 0), (9, 2, .bipush 8, .iconst 8, 0, 0), (11, 3, .if_icmp .ge 119, .if_icmp .ge 75, 0, 0), (14, 1, .aload_n 0, .aload 0, 0, 0), (15, 3, .getfield 24, .getstatic 605, 2008, 24), (18, 1, .iload_n 1, .iload 1, 0, 0), (19, 2, .bipush 8, .iconst 8, 0, 0), (21, 1, .imul, .imul, 0, 0), (22, 1, .iload_n 3, .iload 3, 0, 0), (23, 1, .iadd, .iadd, 0, 0), (24, 1, .iaload, .iaload, 0, 0), (25, 2, .istore 4, .istore 4, 0, 0), (27, 2, .iload 4, .iload 4, 0, 0), (29, 2, .ldc 61, .iconst 100000000, 4084, 61), (31, 3, .if_icmp .lt 6, .if_icmp .lt 22, 0, 0), (34, 3, .goto 90, .goto 73, 0, 0), (37, 1, .iconst 0, .iconst 0, 0, 0), (38, 2, .istore 5, .istore 5, 0, 0), (40, 2, .iload 5, .iload 5, 0, 0), (42, 2, .bipush 8, .iconst 8, 0, 0), (44, 3, .if_icmp .ge 80, .if_icmp .ge 73, 0, 0), (47, 1, .aload_n 0, .aload 0, 0, 0), (48, 3, .getfield 31, .getfield 606, 2009, 31), (51, 1, .iload_n 1, .iload 1, 0, 0), (52, 1, .iconst (-1), .iconst (-1), 0, 0), (53, 1, .ixor, .ixor, 0, 0), (54, 1, .iand, .iand, 0, 0), (55, 2, .iload 5, .iload 5, 0, 0), (57, 1, .ishr, .ishr, 0, 0), (58, 1, .iconst 1, .iconst 1, 0, 0), (59, 1, .iand, .iand, 0, 0), (60, 3, .ifCond .eq 58, .ifCond .eq 71, 0, 0), (63, 1, .iload_n 1, .iload 1, 0, 0), (64, 1, .iconst 1, .iconst 1, 0, 0), (65, 2, .iload 5, .iload 5, 0, 0), (67, 1, .ishl, .ishl, 0, 0), (68, 1, .ior, .ior, 0, 0), (69, 2, .bipush 8, .iconst 8, 0, 0), (71, 1, .imul, .imul, 0, 0), (72, 2, .iload 5, .iload 5, 0, 0), (74, 1, .iadd, .iadd, 0, 0), (75, 2, .istore 6, .istore 6, 0, 0), (77, 1, .aload_n 0, .aload 0, 0, 0), (78, 3, .getfield 24, .getstatic 605, 2008, 24), (81, 2, .iload 6, .iload 6, 0, 0), (83, 1, .aload_n 0, .aload 0, 0, 0), (84, 3, .getfield 24, .getstatic 605, 2008, 24), (87, 2, .iload 6, .iload 6, 0, 0), (89, 1, .iaload, .iaload, 0, 0), (90, 2, .iload 4, .iload 4, 0, 0), (92, 1, .aload_n 0, .aload 0, 0, 0), (93, 3, .getfield 27, .getstatic 600, 2003, 27), (96, 1, .aload_n 0, .aload 0, 0, 0), (97, 3, .getfield 9, .getstatic 601, 2004, 9), (100, 1, .iload_n 3, .iload 3, 0, 0), (101, 1, .iaload, .iaload, 0, 0), (102, 1, .aload_n 0, .aload 0, 0, 0), (103, 3, .getfield 9, .getstatic 601, 2004, 9), (106, 2, .iload 5, .iload 5, 0, 0), (108, 1, .iaload, .iaload, 0, 0), (109, 1, .iload_n 2, .iload 2, 0, 0), (110, 3, .invokevirtual 50, .invokevirtual 1210913, 4047, 50), (113, 1, .iadd, .iadd, 0, 0), (114, 3, .invokestatic 71, .fsub, 4109, 71), (117, 1, .iastore, .iastore, 0, 0), (118, 3, .iinc 5 1, .iinc 5 1, 0, 0), (121, 3, .goto (-81), .goto 24, 0, 0), (124, 3, .iinc 3 1, .iinc 3 1, 0, 0), (127, 3, .goto (-119), .goto 6, 0, 0), (130, 1, .return_, .return_, 0, 0)]
set_option maxRecDepth 100000 in
def zi_86 : List Instr := [.aload 0, .iload 1, .invokevirtual 760611, .istore 2, .iconst 0, .istore 3, .iload 3, .iconst 8, .if_icmp .ge 75, .aload 0, .getstatic 605, .iload 1, .iconst 8, .imul, .iload 3, .iadd, .iaload, .istore 4, .iload 4, .iconst 100000000, .if_icmp .lt 22, .goto 73, .iconst 0, .istore 5, .iload 5, .iconst 8, .if_icmp .ge 73, .aload 0, .getfield 606, .iload 1, .iconst (-1), .ixor, .iand, .iload 5, .ishr, .iconst 1, .iand, .ifCond .eq 71, .iload 1, .iconst 1, .iload 5, .ishl, .ior, .iconst 8, .imul, .iload 5, .iadd, .istore 6, .aload 0, .getstatic 605, .iload 6, .aload 0, .getstatic 605, .iload 6, .iaload, .iload 4, .aload 0, .getstatic 600, .aload 0, .getstatic 601, .iload 3, .iaload, .aload 0, .getstatic 601, .iload 5, .iaload, .iload 2, .invokevirtual 1210913, .iadd, .fsub, .iastore, .iinc 5 1, .goto 24, .iinc 3 1, .goto 6, .return_]
set_option maxRecDepth 100000 in
theorem ze_86 : zc_86.map (fun e => e.2.2.2.1) = zi_86 := rfl
set_option maxRecDepth 100000 in
theorem zk_86 : zckm (zmd 86) false zc_86 zmd [76, 121] = true := by decide +kernel
noncomputable def zf_86 : zF := zden zX0 zi_86 (zlk [(76, zf_76), (121, zf_121)]) 7
/-- HillErrands$Rounds.spreadFrom -/
theorem zs_86 : ∀ d, 5 ≤ d → zSnd d (zmd 86) zf_86 := by
  intro d hd
  obtain ⟨d, rfl⟩ : ∃ k, d = k + 1 := ⟨d - 1, by omega⟩
  have h := zsound (d := d) (l := [(76, zf_76), (121, zf_121)]) zo_86 (fun h => by cases h) zk_86 (fun q hq => by
    simp only [List.mem_cons, List.not_mem_nil, or_false] at hq
    rcases hq with rfl | rfl
    · exact zs_76 d (by omega)
    · exact zs_121 d (by omega))
  rw [ze_86] at h
  exact h
set_option maxRecDepth 100000 in
def zc_85 : List zE := [(0, 1, .aload_n 0, .aload 0, 0, 0), (1, 3, .getfield 24, .getstatic 605, 2008, 24), (4, 2, .ldc 61, .iconst 100000000, 4084, 61), (6, 3, .invokestatic 62, .invokestatic 10002, 4102, 62), (9, 1, .iconst 0, .iconst 0, 0, 0), (10, 1, .istore_n 2, .istore 2, 0, 0), (11, 1, .iload_n 2, .iload 2, 0, 0), (12, 2, .bipush 8, .iconst 8, 0, 0), (14, 3, .if_icmp .ge 48, .if_icmp .ge 37, 0, 0), (17, 1, .aload_n 0, .aload 0, 0, 0), (18, 3, .getfield 31, .getfield 606, 2009, 31), (21, 1, .iload_n 2, .iload 2, 0, 0), (22, 1, .ishr, .ishr, 0, 0), (23, 1, .iconst 1, .iconst 1, 0, 0), (24, 1, .iand, .iand, 0, 0), (25, 3, .ifCond .eq 31, .ifCond .eq 35, 0, 0), (28, 1, .aload_n 0, .aload 0, 0, 0), (29, 3, .getfield 24, .getstatic 605, 2008, 24), (32, 1, .iconst 1, .iconst 1, 0, 0), (33, 1, .iload_n 2, .iload 2, 0, 0), (34, 1, .ishl, .ishl, 0, 0), (35, 2, .bipush 8, .iconst 8, 0, 0), (37, 1, .imul, .imul, 0, 0), (38, 1, .iload_n 2, .iload 2, 0, 0), (39, 1, .iadd, .iadd, 0, 0), (40, 1, .aload_n 0, .aload 0, 0, 0), (41, 3, .getfield 27, .getstatic 600, 2003, 27), (44, 1, .iload_n 1, .iload 1, 0, 0), (45, 1, .aload_n 0, .aload 0, 0, 0), (46, 3, .getfield 9, .getstatic 601, 2004, 9), (49, 1, .iload_n 2, .iload 2, 0, 0), (50, 1, .iaload, .iaload, 0, 0), (51, 1, .iconst 0, .iconst 0, 0, 0), (52, 3, .invokevirtual 50, .invokevirtual 1210913, 4047, 50), (55, 1, .iastore, .iastore, 0, 0), (56, 3, .iinc 2 1, .iinc 2 1, 0, 0), (59, 3, .goto (-48), .goto 6, 0, 0), (62, 1, .iconst 1, .iconst 1, 0, 0), (63, 1, .istore_n 2, .istore 2, 0, 0), (64, 1, .iload_n 2, .iload 2, 0, 0), (65, 1, .aload_n 0, .aload 0, 0, 0), (66, 3, .getfield 31, .getfield 606, 2009, 31), (69, 3, .if_icmp .ge 25, .if_icmp .ge 55, 0, 0), (72, 1, .iload_n 2, .iload 2, 0, 0), (73, 1, .aload_n 0, .aload 0, 0, 0), (74, 3, .getfield 31, .getfield 606, 2009, 31), (77, 1, .iconst (-1), .iconst (-1), 0, 0), (78, 1, .ixor, .ixor, 0, 0), (79, 1, .iand, .iand, 0, 0), (80, 3, .ifCond .ne 8, .ifCond .ne 53, 0, 0), (83, 1, .aload_n 0, .aload 0, 0, 0), (84, 1, .iload_n 2, .iload 2, 0, 0), (85, 3, .invokevirtual 68, .invokevirtual 860601, 4105, 68), (88, 3, .iinc 2 1, .iinc 2 1, 0, 0), (91, 3, .goto (-27), .goto 39, 0, 0), (94, 1, .return_, .return_, 0, 0)]
set_option maxRecDepth 100000 in
def zi_85 : List Instr := [.aload 0, .getstatic 605, .iconst 100000000, .invokestatic 10002, .iconst 0, .istore 2, .iload 2, .iconst 8, .if_icmp .ge 37, .aload 0, .getfield 606, .iload 2, .ishr, .iconst 1, .iand, .ifCond .eq 35, .aload 0, .getstatic 605, .iconst 1, .iload 2, .ishl, .iconst 8, .imul, .iload 2, .iadd, .aload 0, .getstatic 600, .iload 1, .aload 0, .getstatic 601, .iload 2, .iaload, .iconst 0, .invokevirtual 1210913, .iastore, .iinc 2 1, .goto 6, .iconst 1, .istore 2, .iload 2, .aload 0, .getfield 606, .if_icmp .ge 55, .iload 2, .aload 0, .getfield 606, .iconst (-1), .ixor, .iand, .ifCond .ne 53, .aload 0, .iload 2, .invokevirtual 860601, .iinc 2 1, .goto 39, .return_]
set_option maxRecDepth 100000 in
theorem ze_85 : zc_85.map (fun e => e.2.2.2.1) = zi_85 := rfl
set_option maxRecDepth 100000 in
theorem zk_85 : zckm (zmd 85) false zc_85 zmd [1, 86, 121] = true := by decide +kernel
noncomputable def zf_85 : zF := zden zX0 zi_85 (zlk [(1, zf_1), (86, zf_86), (121, zf_121)]) 3
/-- HillErrands$Rounds.spread -/
theorem zs_85 : ∀ d, 6 ≤ d → zSnd d (zmd 85) zf_85 := by
  intro d hd
  obtain ⟨d, rfl⟩ : ∃ k, d = k + 1 := ⟨d - 1, by omega⟩
  have h := zsound (d := d) (l := [(1, zf_1), (86, zf_86), (121, zf_121)]) zo_85 (fun h => by cases h) zk_85 (fun q hq => by
    simp only [List.mem_cons, List.not_mem_nil, or_false] at hq
    rcases hq with rfl | rfl | rfl
    · exact zs_1 d (by omega)
    · exact zs_86 d (by omega)
    · exact zs_121 d (by omega))
  rw [ze_85] at h
  exact h
set_option maxRecDepth 100000 in
def zc_87 : List zE := [(0, 1, .iload_n 2, .iload 2, 0, 0), (1, 3, .ifCond .ne 5, .ifCond .ne 4, 0, 0), (4, 1, .iconst 0, .iconst 0, 0, 0), (5, 1, .ireturn, .ireturn, 0, 0), (6, 1, .aload_n 0, .aload 0, 0, 0), (7, 1, .iload_n 2, .iload 2, 0, 0), (8, 3, .invokevirtual 35, .invokevirtual 760611, 4068, 35), (11, 1, .istore_n 3, .istore 3, 0, 0), (12, 2, .ldc 61, .iconst 100000000, 4084, 61), (14, 2, .istore 4, .istore 4, 0, 0), (16, 1, .iconst 0, .iconst 0, 0, 0), (17, 2, .istore 5, .istore 5, 0, 0), (19, 2, .iload 5, .iload 5, 0, 0), (21, 2, .bipush 8, .iconst 8, 0, 0), (23, 3, .if_icmp .ge 56, .if_icmp .ge 43, 0, 0), (26, 1, .aload_n 0, .aload 0, 0, 0), (27, 3, .getfield 24, .getstatic 605, 2008, 24), (30, 1, .iload_n 2, .iload 2, 0, 0), (31, 2, .bipush 8, .iconst 8, 0, 0), (33, 1, .imul, .imul, 0, 0), (34, 2, .iload 5, .iload 5, 0, 0), (36, 1, .iadd, .iadd, 0, 0), (37, 1, .iaload, .iaload, 0, 0), (38, 2, .istore 6, .istore 6, 0, 0), (40, 2, .iload 6, .iload 6, 0, 0), (42, 2, .ldc 61, .iconst 100000000, 4084, 61), (44, 3, .if_icmp .ge 29, .if_icmp .ge 41, 0, 0), (47, 2, .iload 4, .iload 4, 0, 0), (49, 2, .iload 6, .iload 6, 0, 0), (51, 1, .aload_n 0, .aload 0, 0, 0), (52, 3, .getfield 27, .getstatic 600, 2003, 27), (55, 1, .aload_n 0, .aload 0, 0, 0), (56, 3, .getfield 9, .getstatic 601, 2004, 9), (59, 2, .iload 5, .iload 5, 0, 0), (61, 1, .iaload, .iaload, 0, 0), (62, 1, .iload_n 1, .iload 1, 0, 0), (63, 1, .iload_n 3, .iload 3, 0, 0), (64, 3, .invokevirtual 50, .invokevirtual 1210913, 4047, 50), (67, 1, .iadd, .iadd, 0, 0), (68, 3, .invokestatic 71, .fsub, 4109, 71), (71, 2, .istore 4, .istore 4, 0, 0), (73, 3, .iinc 5 1, .iinc 5 1, 0, 0), (76, 3, .goto (-57), .goto 12, 0, 0), (79, 2, .iload 4, .iload 4, 0, 0), (81, 1, .ireturn, .ireturn, 0, 0)]
set_option maxRecDepth 100000 in
def zi_87 : List Instr := [.iload 2, .ifCond .ne 4, .iconst 0, .ireturn, .aload 0, .iload 2, .invokevirtual 760611, .istore 3, .iconst 100000000, .istore 4, .iconst 0, .istore 5, .iload 5, .iconst 8, .if_icmp .ge 43, .aload 0, .getstatic 605, .iload 2, .iconst 8, .imul, .iload 5, .iadd, .iaload, .istore 6, .iload 6, .iconst 100000000, .if_icmp .ge 41, .iload 4, .iload 6, .aload 0, .getstatic 600, .aload 0, .getstatic 601, .iload 5, .iaload, .iload 1, .iload 3, .invokevirtual 1210913, .iadd, .fsub, .istore 4, .iinc 5 1, .goto 12, .iload 4, .ireturn]
set_option maxRecDepth 100000 in
theorem ze_87 : zc_87.map (fun e => e.2.2.2.1) = zi_87 := rfl
set_option maxRecDepth 100000 in
theorem zk_87 : zckm (zmd 87) false zc_87 zmd [76, 121] = true := by decide +kernel
noncomputable def zf_87 : zF := zden zX0 zi_87 (zlk [(76, zf_76), (121, zf_121)]) 7
/-- HillErrands$Rounds.closed -/
theorem zs_87 : ∀ d, 5 ≤ d → zSnd d (zmd 87) zf_87 := by
  intro d hd
  obtain ⟨d, rfl⟩ : ∃ k, d = k + 1 := ⟨d - 1, by omega⟩
  have h := zsound (d := d) (l := [(76, zf_76), (121, zf_121)]) zo_87 (fun h => by cases h) zk_87 (fun q hq => by
    simp only [List.mem_cons, List.not_mem_nil, or_false] at hq
    rcases hq with rfl | rfl
    · exact zs_76 d (by omega)
    · exact zs_121 d (by omega))
  rw [ze_87] at h
  exact h
set_option maxRecDepth 100000 in
def zc_88 : List zE := [(0, 1, .iconst 0, .iconst 0, 0, 0), (1, 1, .istore_n 3, .istore 3, 0, 0), (2, 1, .iconst 0, .iconst 0, 0, 0), (3, 2, .istore 4, .istore 4, 0, 0), (5, 1, .iconst 0, .iconst 0, 0, 0), (6, 2, .istore 5, .istore 5, 0, 0), (8, 1, .iconst 1, .iconst 1, 0, 0), (9, 2, .istore 6, .istore 6, 0, 0), (11, 2, .iload 6, .iload 6, 0, 0), (13, 1, .aload_n 0, .aload 0, 0, 0), (14, 3, .getfield 31, .getfield 606, 2009, 31), (17, 3, .if_icmp .gt 91, .if_icmp .gt 55, 0, 0), (20, 2, .iload 6, .iload 6, 0, 0), (22, 1, .aload_n 0, .aload 0, 0, 0), (23, 3, .getfield 31, .getfield 606, 2009, 31), (26, 1, .iconst (-1), .iconst (-1), 0, 0), (27, 1, .ixor, .ixor, 0, 0), (28, 1, .iand, .iand, 0, 0), (29, 3, .ifCond .eq 6, .ifCond .eq 20, 0, 0), (32, 3, .goto 70, .goto 53, 0, 0), (35, 1, .aload_n 0, .aload 0, 0, 0), (36, 1, .iload_n 1, .iload 1, 0, 0), (37, 2, .iload 6, .iload 6, 0, 0), (39, 3, .invokevirtual 77, .invokevirtual 870612, 4114, 77), (42, 2, .istore 7, .istore 7, 0, 0), (44, 1, .aload_n 0, .aload 0, 0, 0), (45, 2, .iload 6, .iload 6, 0, 0), (47, 3, .invokevirtual 80, .invokevirtual 750611, 4118, 80), (50, 2, .istore 8, .istore 8, 0, 0), (52, 2, .iload 8, .iload 8, 0, 0), (54, 2, .iload 4, .iload 4, 0, 0), (56, 3, .if_icmp .gt 17, .if_icmp .gt 38, 0, 0), (59, 2, .iload 8, .iload 8, 0, 0), (61, 2, .iload 4, .iload 4, 0, 0), (63, 3, .if_icmp .ne 14, .if_icmp .ne 40, 0, 0), (66, 2, .iload 7, .iload 7, 0, 0), (68, 2, .iload 5, .iload 5, 0, 0), (70, 3, .if_icmp .ge 7, .if_icmp .ge 40, 0, 0), (73, 1, .iconst 1, .iconst 1, 0, 0), (74, 3, .goto 4, .goto 41, 0, 0), (77, 1, .iconst 0, .iconst 0, 0, 0), (78, 2, .istore 9, .istore 9, 0, 0), (80, 2, .iload 7, .iload 7, 0, 0), (82, 1, .iload_n 2, .iload 2, 0, 0), (83, 3, .if_icmp .gt 19, .if_icmp .gt 53, 0, 0), (86, 2, .iload 9, .iload 9, 0, 0), (88, 3, .ifCond .eq 14, .ifCond .eq 53, 0, 0), (91, 2, .iload 6, .iload 6, 0, 0), (93, 1, .istore_n 3, .istore 3, 0, 0), (94, 2, .iload 8, .iload 8, 0, 0), (96, 2, .istore 4, .istore 4, 0, 0), (98, 2, .iload 7, .iload 7, 0, 0), (100, 2, .istore 5, .istore 5, 0, 0), (102, 3, .iinc 6 1, .iinc 6 1, 0, 0), (105, 3, .goto (-94), .goto 8, 0, 0), (108, 1, .iload_n 3, .iload 3, 0, 0), (109, 1, .ireturn, .ireturn, 0, 0)]
set_option maxRecDepth 100000 in
def zi_88 : List Instr := [.iconst 0, .istore 3, .iconst 0, .istore 4, .iconst 0, .istore 5, .iconst 1, .istore 6, .iload 6, .aload 0, .getfield 606, .if_icmp .gt 55, .iload 6, .aload 0, .getfield 606, .iconst (-1), .ixor, .iand, .ifCond .eq 20, .goto 53, .aload 0, .iload 1, .iload 6, .invokevirtual 870612, .istore 7, .aload 0, .iload 6, .invokevirtual 750611, .istore 8, .iload 8, .iload 4, .if_icmp .gt 38, .iload 8, .iload 4, .if_icmp .ne 40, .iload 7, .iload 5, .if_icmp .ge 40, .iconst 1, .goto 41, .iconst 0, .istore 9, .iload 7, .iload 2, .if_icmp .gt 53, .iload 9, .ifCond .eq 53, .iload 6, .istore 3, .iload 8, .istore 4, .iload 7, .istore 5, .iinc 6 1, .goto 8, .iload 3, .ireturn]
set_option maxRecDepth 100000 in
theorem ze_88 : zc_88.map (fun e => e.2.2.2.1) = zi_88 := rfl
set_option maxRecDepth 100000 in
theorem zk_88 : zckm (zmd 88) false zc_88 zmd [75, 87] = true := by decide +kernel
noncomputable def zf_88 : zF := zden zX0 zi_88 (zlk [(75, zf_75), (87, zf_87)]) 10
/-- HillErrands$Rounds.setOfDay -/
theorem zs_88 : ∀ d, 6 ≤ d → zSnd d (zmd 88) zf_88 := by
  intro d hd
  obtain ⟨d, rfl⟩ : ∃ k, d = k + 1 := ⟨d - 1, by omega⟩
  have h := zsound (d := d) (l := [(75, zf_75), (87, zf_87)]) zo_88 (fun h => by cases h) zk_88 (fun q hq => by
    simp only [List.mem_cons, List.not_mem_nil, or_false] at hq
    rcases hq with rfl | rfl
    · exact zs_75 d (by omega)
    · exact zs_87 d (by omega))
  rw [ze_88] at h
  exact h
set_option maxRecDepth 100000 in
def zc_89 : List zE := [(0, 1, .aload_n 0, .aload 0, 0, 0), (1, 3, .invokespecial 3, .pop, 1205, 3), (4, 1, .aload_n 0, .aload 0, 0, 0), (5, 3, .sipush 200, .iconst 200, 0, 0), (8, 2, .newarray .int, .newarray .int, 1079, 0), (10, 3, .putfield 9, .putstatic 700, 1206, 9), (13, 1, .return_, .return_, 0, 0)]
set_option maxRecDepth 100000 in
def zi_89 : List Instr := [.aload 0, .pop, .aload 0, .iconst 200, .newarray .int, .putstatic 700, .return_]
set_option maxRecDepth 100000 in
theorem ze_89 : zc_89.map (fun e => e.2.2.2.1) = zi_89 := rfl
set_option maxRecDepth 100000 in
theorem zk_89 : zckm (zmd 89) true zc_89 zmd [] = true := by decide +kernel
noncomputable def zf_89 : zF := zden zX0 zi_89 (zlk []) 1
/-- HillErrands$Tape.<init> -/
theorem zs_89 : ∀ d, 1 ≤ d → zSnd d (zmd 89) zf_89 := by
  intro d hd
  obtain ⟨d, rfl⟩ : ∃ k, d = k + 1 := ⟨d - 1, by omega⟩
  have h := zsound (d := d) (l := []) zo_89 (fun _ => rfl) zk_89 (fun q hq => by cases hq)
  rw [ze_89] at h
  exact h
set_option maxRecDepth 100000 in
def zc_90 : List zE := [(0, 1, .aload_n 0, .aload 0, 0, 0), (1, 3, .getfield 15, .getfield 701, 1207, 15), (4, 1, .ireturn, .ireturn, 0, 0)]
set_option maxRecDepth 100000 in
def zi_90 : List Instr := [.aload 0, .getfield 701, .ireturn]
set_option maxRecDepth 100000 in
theorem ze_90 : zc_90.map (fun e => e.2.2.2.1) = zi_90 := rfl
set_option maxRecDepth 100000 in
theorem zk_90 : zckm (zmd 90) false zc_90 zmd [] = true := by decide +kernel
noncomputable def zf_90 : zF := zden zX0 zi_90 (zlk []) 1
/-- HillErrands$Tape.size -/
theorem zs_90 : ∀ d, 1 ≤ d → zSnd d (zmd 90) zf_90 := by
  intro d hd
  obtain ⟨d, rfl⟩ : ∃ k, d = k + 1 := ⟨d - 1, by omega⟩
  have h := zsound (d := d) (l := []) zo_90 (fun h => by cases h) zk_90 (fun q hq => by cases hq)
  rw [ze_90] at h
  exact h
set_option maxRecDepth 100000 in
def zc_91 : List zE := [(0, 1, .aload_n 0, .aload 0, 0, 0), (1, 3, .getfield 15, .getfield 701, 1207, 15), (4, 1, .iload_n 1, .iload 1, 0, 0), (5, 1, .iadd, .iadd, 0, 0), (6, 3, .sipush 200, .iconst 200, 0, 0), (9, 3, .if_icmp .gt 7, .if_icmp .gt 8, 0, 0), (12, 1, .iconst 1, .iconst 1, 0, 0), (13, 3, .goto 4, .goto 9, 0, 0), (16, 1, .iconst 0, .iconst 0, 0, 0), (17, 1, .ireturn, .lreturn, 0, 0)]
set_option maxRecDepth 100000 in
def zi_91 : List Instr := [.aload 0, .getfield 701, .iload 1, .iadd, .iconst 200, .if_icmp .gt 8, .iconst 1, .goto 9, .iconst 0, .lreturn]
set_option maxRecDepth 100000 in
theorem ze_91 : zc_91.map (fun e => e.2.2.2.1) = zi_91 := rfl
set_option maxRecDepth 100000 in
theorem zk_91 : zckm (zmd 91) false zc_91 zmd [] = true := by decide +kernel
noncomputable def zf_91 : zF := zden zX0 zi_91 (zlk []) 2
/-- HillErrands$Tape.hasRoom -/
theorem zs_91 : ∀ d, 1 ≤ d → zSnd d (zmd 91) zf_91 := by
  intro d hd
  obtain ⟨d, rfl⟩ : ∃ k, d = k + 1 := ⟨d - 1, by omega⟩
  have h := zsound (d := d) (l := []) zo_91 (fun h => by cases h) zk_91 (fun q hq => by cases hq)
  rw [ze_91] at h
  exact h
set_option maxRecDepth 100000 in
def zc_92 : List zE := [(0, 1, .aload_n 0, .aload 0, 0, 0), (1, 1, .iconst 4, .iconst 4, 0, 0), (2, 3, .invokevirtual 19, .invokevirtual 910711, 2203, 19), (5, 3, .ifCond .ne 4, .ifCond .ne 5, 0, 0), (8, 1, .return_, .return_, 0, 0), (9, 2, .bipush 24, .iconst 24, 0, 0), (11, 1, .istore_n 2, .istore 2, 0, 0), (12, 1, .iload_n 2, .iload 2, 0, 0), (13, 3, .ifCond .lt 35, .ifCond .lt 27, 0, 0), (16, 1, .aload_n 0, .aload 0, 0, 0), (17, 3, .getfield 9, .getstatic 700, 1206, 9), (20, 1, .aload_n 0, .aload 0, 0, 0), (21, 3, .getfield 15, .getfield 701, 1207, 15), (24, 1, .iload_n 1, .iload 1, 0, 0), (25, 1, .iload_n 2, .iload 2, 0, 0), (26, 1, .iushr, .iushr, 0, 0), (27, 3, .sipush 255, .iconst 255, 0, 0), (30, 1, .iand, .iand, 0, 0), (31, 1, .iastore, .iastore, 0, 0), (32, 1, .aload_n 0, .aload 0, 0, 0), (33, 1, .dup, .dup, 0, 0), (34, 3, .getfield 15, .getfield 701, 1207, 15), (37, 1, .iconst 1, .iconst 1, 0, 0), (38, 1, .iadd, .iadd, 0, 0), (39, 3, .putfield 15, .putfield 701, 1207, 15), (42, 3, .iinc 2 (-8), .iinc 2 (-8), 0, 0), (45, 3, .goto (-33), .goto 7, 0, 0), (48, 1, .return_, .return_, 0, 0)]
set_option maxRecDepth 100000 in
def zi_92 : List Instr := [.aload 0, .iconst 4, .invokevirtual 910711, .ifCond .ne 5, .return_, .iconst 24, .istore 2, .iload 2, .ifCond .lt 27, .aload 0, .getstatic 700, .aload 0, .getfield 701, .iload 1, .iload 2, .iushr, .iconst 255, .iand, .iastore, .aload 0, .dup, .getfield 701, .iconst 1, .iadd, .putfield 701, .iinc 2 (-8), .goto 7, .return_]
set_option maxRecDepth 100000 in
theorem ze_92 : zc_92.map (fun e => e.2.2.2.1) = zi_92 := rfl
set_option maxRecDepth 100000 in
theorem zk_92 : zckm (zmd 92) false zc_92 zmd [91] = true := by decide +kernel
noncomputable def zf_92 : zF := zden zX0 zi_92 (zlk [(91, zf_91)]) 3
/-- HillErrands$Tape.append -/
theorem zs_92 : ∀ d, 2 ≤ d → zSnd d (zmd 92) zf_92 := by
  intro d hd
  obtain ⟨d, rfl⟩ : ∃ k, d = k + 1 := ⟨d - 1, by omega⟩
  have h := zsound (d := d) (l := [(91, zf_91)]) zo_92 (fun h => by cases h) zk_92 (fun q hq => by
    simp only [List.mem_cons, List.not_mem_nil, or_false] at hq
    subst hq
    · exact zs_91 d (by omega))
  rw [ze_92] at h
  exact h
