set_option maxRecDepth 100000 in
def zc_94 : List zE := [(0, 1, .iconst 0, .iconst 0, 0, 0), (1, 1, .istore_n 2, .istore 2, 0, 0), (2, 1, .iconst 0, .iconst 0, 0, 0), (3, 1, .istore_n 3, .istore 3, 0, 0), (4, 1, .iload_n 3, .iload 3, 0, 0), (5, 1, .iconst 4, .iconst 4, 0, 0), (6, 3, .if_icmp .ge 28, .if_icmp .ge 23, 0, 0), (9, 1, .iload_n 2, .iload 2, 0, 0), (10, 2, .bipush 8, .iconst 8, 0, 0), (12, 1, .ishl, .ishl, 0, 0), (13, 1, .aload_n 0, .aload 0, 0, 0), (14, 1, .iconst 4, .iconst 4, 0, 0), (15, 1, .iload_n 1, .iload 1, 0, 0), (16, 1, .imul, .imul, 0, 0), (17, 1, .iload_n 3, .iload 3, 0, 0), (18, 1, .iadd, .iadd, 0, 0), (19, 3, .invokevirtual 23, .invokevirtual 930711, 5183, 23), (22, 3, .sipush 255, .iconst 255, 0, 0), (25, 1, .iand, .iand, 0, 0), (26, 1, .ior, .ior, 0, 0), (27, 1, .istore_n 2, .istore 2, 0, 0), (28, 3, .iinc 3 1, .iinc 3 1, 0, 0), (31, 3, .goto (-27), .goto 4, 0, 0), (34, 1, .iload_n 2, .iload 2, 0, 0), (35, 1, .ireturn, .ireturn, 0, 0)]
set_option maxRecDepth 100000 in
def zi_94 : List Instr := [.iconst 0, .istore 2, .iconst 0, .istore 3, .iload 3, .iconst 4, .if_icmp .ge 23, .iload 2, .iconst 8, .ishl, .aload 0, .iconst 4, .iload 1, .imul, .iload 3, .iadd, .invokevirtual 930711, .iconst 255, .iand, .ior, .istore 2, .iinc 3 1, .goto 4, .iload 2, .ireturn]
set_option maxRecDepth 100000 in
theorem ze_94 : zc_94.map (fun e => e.2.2.2.1) = zi_94 := rfl
set_option maxRecDepth 100000 in
theorem zk_94 : zckm (zmd 94) false zc_94 zmd [93] = true := by decide +kernel
noncomputable def zf_94 : zF := zden zX0 zi_94 (zlk [(93, zf_93)]) 4
/-- HillErrands$Tape.numberAt -/
theorem zs_94 : ∀ d, 2 ≤ d → zSnd d (zmd 94) zf_94 := by
  intro d hd
  obtain ⟨d, rfl⟩ : ∃ k, d = k + 1 := ⟨d - 1, by omega⟩
  have h := zsound (d := d) (l := [(93, zf_93)]) zo_94 (fun h => by cases h) zk_94 (fun q hq => by
    simp only [List.mem_cons, List.not_mem_nil, or_false] at hq
    subst hq
    · exact zs_93 d (by omega))
  rw [ze_94] at h
  exact h
set_option maxRecDepth 100000 in
def zc_95 : List zE := [(0, 1, .aload_n 0, .aload 0, 0, 0), (1, 1, .iconst 0, .iconst 0, 0, 0), (2, 3, .putfield 15, .putfield 701, 1207, 15), (5, 1, .return_, .return_, 0, 0)]
set_option maxRecDepth 100000 in
def zi_95 : List Instr := [.aload 0, .iconst 0, .putfield 701, .return_]
set_option maxRecDepth 100000 in
theorem ze_95 : zc_95.map (fun e => e.2.2.2.1) = zi_95 := rfl
set_option maxRecDepth 100000 in
theorem zk_95 : zckm (zmd 95) false zc_95 zmd [] = true := by decide +kernel
noncomputable def zf_95 : zF := zden zX0 zi_95 (zlk []) 1
/-- HillErrands$Tape.clear -/
theorem zs_95 : ∀ d, 1 ≤ d → zSnd d (zmd 95) zf_95 := by
  intro d hd
  obtain ⟨d, rfl⟩ : ∃ k, d = k + 1 := ⟨d - 1, by omega⟩
  have h := zsound (d := d) (l := []) zo_95 (fun h => by cases h) zk_95 (fun q hq => by cases hq)
  rw [ze_95] at h
  exact h
set_option maxRecDepth 100000 in
def zc_96 : List zE := [(0, 1, .aload_n 0, .aload 0, 0, 0), (1, 3, .invokespecial 3, .pop, 1035, 3), (4, 1, .aload_n 0, .aload 0, 0, 0), (5, 2, .bipush 20, .iconst 20, 0, 0), (7, 2, .newarray .int, .newarray .int, 1079, 0), (9, 3, .putfield 9, .putstatic 800, 1080, 9), (12, 1, .aload_n 0, .aload 0, 0, 0), (13, 2, .bipush 20, .iconst 20, 0, 0), (15, 2, .newarray .int, .newarray .int, 1079, 0), (17, 3, .putfield 15, .putstatic 801, 1081, 15), (20, 1, .aload_n 0, .aload 0, 0, 0), (21, 2, .bipush 40, .iconst 40, 0, 0), (23, 2, .newarray .int, .newarray .int, 1079, 0), (25, 3, .putfield 18, .putstatic 802, 1082, 18), (28, 1, .aload_n 0, .aload 0, 0, 0), (29, 2, .bipush 40, .iconst 40, 0, 0), (31, 2, .newarray .int, .newarray .int, 1079, 0), (33, 3, .putfield 21, .putstatic 803, 1083, 21), (36, 1, .aload_n 0, .aload 0, 0, 0), (37, 2, .bipush 40, .iconst 40, 0, 0), (39, 2, .newarray .int, .newarray .int, 1079, 0), (41, 3, .putfield 24, .putstatic 804, 1084, 24), (44, 1, .aload_n 0, .aload 0, 0, 0), (45, 2, .bipush 9, .iconst 9, 0, 0), (47, 2, .newarray .int, .newarray .int, 1079, 0), (49, 3, .putfield 27, .putstatic 805, 1085, 27), (52, 1, .aload_n 0, .aload 0, 0, 0), (53, 3, .new 30, .new 2, 1036, 30), (56, 1, .dup, .dup, 0, 0), (57, 3, .invokespecial 32, .invokespecial 290000, 1038, 32), (60, 3, .putfield 33, .putstatic 806, 1086, 33), (63, 1, .aload_n 0, .aload 0, 0, 0), (64, 1, .iconst (-1), .iconst (-1), 0, 0), (65, 3, .putfield 37, .putfield 808, 1088, 37), (68, 1, .aload_n 0, .aload 0, 0, 0), (69, 1, .iconst 1, .iconst 1, 0, 0), (70, 3, .putfield 41, .putfield 812, 1099, 41), (73, 1, .return_, .return_, 0, 0)]
set_option maxRecDepth 100000 in
def zi_96 : List Instr := [.aload 0, .pop, .aload 0, .iconst 20, .newarray .int, .putstatic 800, .aload 0, .iconst 20, .newarray .int, .putstatic 801, .aload 0, .iconst 40, .newarray .int, .putstatic 802, .aload 0, .iconst 40, .newarray .int, .putstatic 803, .aload 0, .iconst 40, .newarray .int, .putstatic 804, .aload 0, .iconst 9, .newarray .int, .putstatic 805, .aload 0, .new 2, .dup, .invokespecial 290000, .putstatic 806, .aload 0, .iconst (-1), .putfield 808, .aload 0, .iconst 1, .putfield 812, .return_]
set_option maxRecDepth 100000 in
theorem ze_96 : zc_96.map (fun e => e.2.2.2.1) = zi_96 := rfl
set_option maxRecDepth 100000 in
theorem zk_96 : zckm (zmd 96) true zc_96 zmd [29] = true := by decide +kernel
noncomputable def zf_96 : zF := zden zX0 zi_96 (zlk [(29, zf_29)]) 1
/-- HillErrands$Town.<init> -/
theorem zs_96 : ∀ d, 2 ≤ d → zSnd d (zmd 96) zf_96 := by
  intro d hd
  obtain ⟨d, rfl⟩ : ∃ k, d = k + 1 := ⟨d - 1, by omega⟩
  have h := zsound (d := d) (l := [(29, zf_29)]) zo_96 (fun _ => rfl) zk_96 (fun q hq => by
    simp only [List.mem_cons, List.not_mem_nil, or_false] at hq
    subst hq
    · exact zs_29 d (by omega))
  rw [ze_96] at h
  exact h
set_option maxRecDepth 100000 in
def zc_98 : List zE := [(0, 1, .aload_n 0, .aload 0, 0, 0), (1, 3, .getfield 9, .getstatic 800, 1080, 9), (4, 1, .iload_n 1, .iload 1, 0, 0), (5, 1, .iaload, .iaload, 0, 0), (6, 1, .ireturn, .ireturn, 0, 0)]
set_option maxRecDepth 100000 in
def zi_98 : List Instr := [.aload 0, .getstatic 800, .iload 1, .iaload, .ireturn]
set_option maxRecDepth 100000 in
theorem ze_98 : zc_98.map (fun e => e.2.2.2.1) = zi_98 := rfl
set_option maxRecDepth 100000 in
theorem zk_98 : zckm (zmd 98) false zc_98 zmd [] = true := by decide +kernel
noncomputable def zf_98 : zF := zden zX0 zi_98 (zlk []) 2
/-- HillErrands$Town.heightOf -/
theorem zs_98 : ∀ d, 1 ≤ d → zSnd d (zmd 98) zf_98 := by
  intro d hd
  obtain ⟨d, rfl⟩ : ∃ k, d = k + 1 := ⟨d - 1, by omega⟩
  have h := zsound (d := d) (l := []) zo_98 (fun h => by cases h) zk_98 (fun q hq => by cases hq)
  rw [ze_98] at h
  exact h
set_option maxRecDepth 100000 in
def zc_100 : List zE := [(0, 1, .aload_n 0, .aload 0, 0, 0), (1, 3, .getfield 44, .getfield 810, 1090, 44), (4, 2, .bipush 20, .iconst 20, 0, 0), (6, 3, .if_icmp .lt 5, .if_icmp .lt 6, 0, 0), (9, 1, .iconst (-1), .iconst (-1), 0, 0), (10, 1, .ireturn, .ireturn, 0, 0), (11, 1, .aload_n 0, .aload 0, 0, 0), (12, 3, .getfield 9, .getstatic 800, 1080, 9), (15, 1, .aload_n 0, .aload 0, 0, 0), (16, 3, .getfield 44, .getfield 810, 1090, 44), (19, 1, .iload_n 1, .iload 1, 0, 0), (20, 1, .iastore, .iastore, 0, 0), (21, 1, .aload_n 0, .aload 0, 0, 0), (22, 1, .dup, .dup, 0, 0), (23, 3, .getfield 44, .getfield 810, 1090, 44), (26, 1, .iconst 1, .iconst 1, 0, 0), (27, 1, .iadd, .iadd, 0, 0), (28, 3, .putfield 44, .putfield 810, 1090, 44), (31, 1, .aload_n 0, .aload 0, 0, 0), (32, 1, .dup, .dup, 0, 0), (33, 3, .getfield 41, .getfield 812, 1099, 41), (36, 1, .iconst 1, .iconst 1, 0, 0), (37, 1, .iadd, .iadd, 0, 0), (38, 3, .putfield 41, .putfield 812, 1099, 41), (41, 1, .aload_n 0, .aload 0, 0, 0), (42, 3, .getfield 44, .getfield 810, 1090, 44), (45, 1, .iconst 1, .iconst 1, 0, 0), (46, 1, .isub, .isub, 0, 0), (47, 1, .ireturn, .ireturn, 0, 0)]
set_option maxRecDepth 100000 in
def zi_100 : List Instr := [.aload 0, .getfield 810, .iconst 20, .if_icmp .lt 6, .iconst (-1), .ireturn, .aload 0, .getstatic 800, .aload 0, .getfield 810, .iload 1, .iastore, .aload 0, .dup, .getfield 810, .iconst 1, .iadd, .putfield 810, .aload 0, .dup, .getfield 812, .iconst 1, .iadd, .putfield 812, .aload 0, .getfield 810, .iconst 1, .isub, .ireturn]
set_option maxRecDepth 100000 in
theorem ze_100 : zc_100.map (fun e => e.2.2.2.1) = zi_100 := rfl
set_option maxRecDepth 100000 in
theorem zk_100 : zckm (zmd 100) false zc_100 zmd [] = true := by decide +kernel
noncomputable def zf_100 : zF := zden zX0 zi_100 (zlk []) 2
/-- HillErrands$Town.addPlace -/
theorem zs_100 : ∀ d, 1 ≤ d → zSnd d (zmd 100) zf_100 := by
  intro d hd
  obtain ⟨d, rfl⟩ : ∃ k, d = k + 1 := ⟨d - 1, by omega⟩
  have h := zsound (d := d) (l := []) zo_100 (fun h => by cases h) zk_100 (fun q hq => by cases hq)
  rw [ze_100] at h
  exact h
set_option maxRecDepth 100000 in
def zc_101 : List zE := [(0, 1, .aload_n 0, .aload 0, 0, 0), (1, 3, .getfield 47, .getfield 811, 1096, 47), (4, 2, .bipush 40, .iconst 40, 0, 0), (6, 3, .if_icmp .lt 5, .if_icmp .lt 6, 0, 0), (9, 1, .iconst (-1), .iconst (-1), 0, 0), (10, 1, .ireturn, .ireturn, 0, 0), (11, 1, .aload_n 0, .aload 0, 0, 0), (12, 3, .getfield 18, .getstatic 802, 1082, 18), (15, 1, .aload_n 0, .aload 0, 0, 0), (16, 3, .getfield 47, .getfield 811, 1096, 47), (19, 1, .iload_n 1, .iload 1, 0, 0), (20, 1, .iastore, .iastore, 0, 0), (21, 1, .aload_n 0, .aload 0, 0, 0), (22, 3, .getfield 21, .getstatic 803, 1083, 21), (25, 1, .aload_n 0, .aload 0, 0, 0), (26, 3, .getfield 47, .getfield 811, 1096, 47), (29, 1, .iload_n 2, .iload 2, 0, 0), (30, 1, .iastore, .iastore, 0, 0), (31, 1, .aload_n 0, .aload 0, 0, 0), (32, 3, .getfield 24, .getstatic 804, 1084, 24), (35, 1, .aload_n 0, .aload 0, 0, 0), (36, 3, .getfield 47, .getfield 811, 1096, 47), (39, 1, .iload_n 3, .iload 3, 0, 0), (40, 1, .iastore, .iastore, 0, 0), (41, 1, .aload_n 0, .aload 0, 0, 0), (42, 1, .dup, .dup, 0, 0), (43, 3, .getfield 47, .getfield 811, 1096, 47), (46, 1, .iconst 1, .iconst 1, 0, 0), (47, 1, .iadd, .iadd, 0, 0), (48, 3, .putfield 47, .putfield 811, 1096, 47), (51, 1, .aload_n 0, .aload 0, 0, 0), (52, 1, .dup, .dup, 0, 0), (53, 3, .getfield 41, .getfield 812, 1099, 41), (56, 1, .iconst 1, .iconst 1, 0, 0), (57, 1, .iadd, .iadd, 0, 0), (58, 3, .putfield 41, .putfield 812, 1099, 41), (61, 1, .aload_n 0, .aload 0, 0, 0), (62, 3, .getfield 47, .getfield 811, 1096, 47), (65, 1, .iconst 1, .iconst 1, 0, 0), (66, 1, .isub, .isub, 0, 0), (67, 1, .ireturn, .ireturn, 0, 0)]
set_option maxRecDepth 100000 in
def zi_101 : List Instr := [.aload 0, .getfield 811, .iconst 40, .if_icmp .lt 6, .iconst (-1), .ireturn, .aload 0, .getstatic 802, .aload 0, .getfield 811, .iload 1, .iastore, .aload 0, .getstatic 803, .aload 0, .getfield 811, .iload 2, .iastore, .aload 0, .getstatic 804, .aload 0, .getfield 811, .iload 3, .iastore, .aload 0, .dup, .getfield 811, .iconst 1, .iadd, .putfield 811, .aload 0, .dup, .getfield 812, .iconst 1, .iadd, .putfield 812, .aload 0, .getfield 811, .iconst 1, .isub, .ireturn]
set_option maxRecDepth 100000 in
theorem ze_101 : zc_101.map (fun e => e.2.2.2.1) = zi_101 := rfl
set_option maxRecDepth 100000 in
theorem zk_101 : zckm (zmd 101) false zc_101 zmd [] = true := by decide +kernel
noncomputable def zf_101 : zF := zden zX0 zi_101 (zlk []) 4
/-- HillErrands$Town.addStair -/
theorem zs_101 : ∀ d, 1 ≤ d → zSnd d (zmd 101) zf_101 := by
  intro d hd
  obtain ⟨d, rfl⟩ : ∃ k, d = k + 1 := ⟨d - 1, by omega⟩
  have h := zsound (d := d) (l := []) zo_101 (fun h => by cases h) zk_101 (fun q hq => by cases hq)
  rw [ze_101] at h
  exact h
set_option maxRecDepth 100000 in
def zc_104 : List zE := [(0, 1, .aload_n 0, .aload 0, 0, 0), (1, 3, .getfield 50, .getfield 807, 1087, 50), (4, 1, .ireturn, .ireturn, 0, 0)]
set_option maxRecDepth 100000 in
def zi_104 : List Instr := [.aload 0, .getfield 807, .ireturn]
set_option maxRecDepth 100000 in
theorem ze_104 : zc_104.map (fun e => e.2.2.2.1) = zi_104 := rfl
set_option maxRecDepth 100000 in
theorem zk_104 : zckm (zmd 104) false zc_104 zmd [] = true := by decide +kernel
noncomputable def zf_104 : zF := zden zX0 zi_104 (zlk []) 1
/-- HillErrands$Town.currentSeason -/
theorem zs_104 : ∀ d, 1 ≤ d → zSnd d (zmd 104) zf_104 := by
  intro d hd
  obtain ⟨d, rfl⟩ : ∃ k, d = k + 1 := ⟨d - 1, by omega⟩
  have h := zsound (d := d) (l := []) zo_104 (fun h => by cases h) zk_104 (fun q hq => by cases hq)
  rw [ze_104] at h
  exact h
set_option maxRecDepth 100000 in
def zc_105 : List zE := [(0, 1, .aload_n 0, .aload 0, 0, 0), (1, 1, .iload_n 1, .iload 1, 0, 0), (2, 3, .putfield 50, .putfield 807, 1087, 50), (5, 1, .aload_n 0, .aload 0, 0, 0), (6, 1, .dup, .dup, 0, 0), (7, 3, .getfield 41, .getfield 812, 1099, 41), (10, 1, .iconst 1, .iconst 1, 0, 0), (11, 1, .iadd, .iadd, 0, 0), (12, 3, .putfield 41, .putfield 812, 1099, 41), (15, 1, .return_, .return_, 0, 0)]
set_option maxRecDepth 100000 in
def zi_105 : List Instr := [.aload 0, .iload 1, .putfield 807, .aload 0, .dup, .getfield 812, .iconst 1, .iadd, .putfield 812, .return_]
set_option maxRecDepth 100000 in
theorem ze_105 : zc_105.map (fun e => e.2.2.2.1) = zi_105 := rfl
set_option maxRecDepth 100000 in
theorem zk_105 : zckm (zmd 105) false zc_105 zmd [] = true := by decide +kernel
noncomputable def zf_105 : zF := zden zX0 zi_105 (zlk []) 2
/-- HillErrands$Town.turnTo -/
theorem zs_105 : ∀ d, 1 ≤ d → zSnd d (zmd 105) zf_105 := by
  intro d hd
  obtain ⟨d, rfl⟩ : ∃ k, d = k + 1 := ⟨d - 1, by omega⟩
  have h := zsound (d := d) (l := []) zo_105 (fun h => by cases h) zk_105 (fun q hq => by cases hq)
  rw [ze_105] at h
  exact h
set_option maxRecDepth 100000 in
def zc_106 : List zE := [(0, 1, .aload_n 0, .aload 0, 0, 0), (1, 1, .aload_n 0, .aload 0, 0, 0), (2, 3, .getfield 47, .getfield 811, 1096, 47), (5, 3, .putfield 37, .putfield 808, 1088, 37), (8, 1, .aload_n 0, .aload 0, 0, 0), (9, 1, .aload_n 0, .aload 0, 0, 0), (10, 3, .getfield 50, .getfield 807, 1087, 50), (13, 3, .putfield 53, .putfield 809, 1089, 53), (16, 1, .return_, .return_, 0, 0)]
set_option maxRecDepth 100000 in
def zi_106 : List Instr := [.aload 0, .aload 0, .getfield 811, .putfield 808, .aload 0, .aload 0, .getfield 807, .putfield 809, .return_]
set_option maxRecDepth 100000 in
theorem ze_106 : zc_106.map (fun e => e.2.2.2.1) = zi_106 := rfl
set_option maxRecDepth 100000 in
theorem zk_106 : zckm (zmd 106) false zc_106 zmd [] = true := by decide +kernel
noncomputable def zf_106 : zF := zden zX0 zi_106 (zlk []) 1
/-- HillErrands$Town.mark -/
theorem zs_106 : ∀ d, 1 ≤ d → zSnd d (zmd 106) zf_106 := by
  intro d hd
  obtain ⟨d, rfl⟩ : ∃ k, d = k + 1 := ⟨d - 1, by omega⟩
  have h := zsound (d := d) (l := []) zo_106 (fun h => by cases h) zk_106 (fun q hq => by cases hq)
  rw [ze_106] at h
  exact h
set_option maxRecDepth 100000 in
def zc_107 : List zE := [(0, 1, .aload_n 0, .aload 0, 0, 0), (1, 3, .getfield 37, .getfield 808, 1088, 37), (4, 1, .iconst (-1), .iconst (-1), 0, 0), (5, 3, .if_icmp .ne 5, .if_icmp .ne 6, 0, 0), (8, 1, .iconst 0, .iconst 0, 0, 0), (9, 1, .ireturn, .lreturn, 0, 0), (10, 1, .aload_n 0, .aload 0, 0, 0), (11, 1, .aload_n 0, .aload 0, 0, 0), (12, 3, .getfield 37, .getfield 808, 1088, 37), (15, 3, .putfield 47, .putfield 811, 1096, 47), (18, 1, .aload_n 0, .aload 0, 0, 0), (19, 1, .aload_n 0, .aload 0, 0, 0), (20, 3, .getfield 53, .getfield 809, 1089, 53), (23, 3, .putfield 50, .putfield 807, 1087, 50), (26, 1, .aload_n 0, .aload 0, 0, 0), (27, 1, .dup, .dup, 0, 0), (28, 3, .getfield 41, .getfield 812, 1099, 41), (31, 1, .iconst 1, .iconst 1, 0, 0), (32, 1, .iadd, .iadd, 0, 0), (33, 3, .putfield 41, .putfield 812, 1099, 41), (36, 1, .iconst 1, .iconst 1, 0, 0), (37, 1, .ireturn, .lreturn, 0, 0)]
set_option maxRecDepth 100000 in
def zi_107 : List Instr := [.aload 0, .getfield 808, .iconst (-1), .if_icmp .ne 6, .iconst 0, .lreturn, .aload 0, .aload 0, .getfield 808, .putfield 811, .aload 0, .aload 0, .getfield 809, .putfield 807, .aload 0, .dup, .getfield 812, .iconst 1, .iadd, .putfield 812, .iconst 1, .lreturn]
set_option maxRecDepth 100000 in
theorem ze_107 : zc_107.map (fun e => e.2.2.2.1) = zi_107 := rfl
set_option maxRecDepth 100000 in
theorem zk_107 : zckm (zmd 107) false zc_107 zmd [] = true := by decide +kernel
noncomputable def zf_107 : zF := zden zX0 zi_107 (zlk []) 1
/-- HillErrands$Town.fallBack -/
theorem zs_107 : ∀ d, 1 ≤ d → zSnd d (zmd 107) zf_107 := by
  intro d hd
  obtain ⟨d, rfl⟩ : ∃ k, d = k + 1 := ⟨d - 1, by omega⟩
  have h := zsound (d := d) (l := []) zo_107 (fun h => by cases h) zk_107 (fun q hq => by cases hq)
  rw [ze_107] at h
  exact h
set_option maxRecDepth 100000 in
def zc_108 : List zE := [(0, 1, .aload_n 0, .aload 0, 0, 0), (1, 3, .getfield 33, .getstatic 806, 1086, 33), (4, 1, .areturn, .areturn, 0, 0)]
set_option maxRecDepth 100000 in
def zi_108 : List Instr := [.aload 0, .getstatic 806, .areturn]
set_option maxRecDepth 100000 in
theorem ze_108 : zc_108.map (fun e => e.2.2.2.1) = zi_108 := rfl
set_option maxRecDepth 100000 in
theorem zk_108 : zckm (zmd 108) false zc_108 zmd [] = true := by decide +kernel
noncomputable def zf_108 : zF := zden zX0 zi_108 (zlk []) 1
/-- HillErrands$Town.currentLaw -/
theorem zs_108 : ∀ d, 1 ≤ d → zSnd d (zmd 108) zf_108 := by
  intro d hd
  obtain ⟨d, rfl⟩ : ∃ k, d = k + 1 := ⟨d - 1, by omega⟩
  have h := zsound (d := d) (l := []) zo_108 (fun h => by cases h) zk_108 (fun q hq => by cases hq)
  rw [ze_108] at h
  exact h
set_option maxRecDepth 100000 in
def zc_109 : List zE := [(0, 1, .aload_n 0, .aload 0, 0, 0), (1, 1, .aload_n 1, .aload 1, 0, 0), (2, 3, .putfield 33, .putstatic 806, 1086, 33), (5, 1, .aload_n 0, .aload 0, 0, 0), (6, 1, .dup, .dup, 0, 0), (7, 3, .getfield 41, .getfield 812, 1099, 41), (10, 1, .iconst 1, .iconst 1, 0, 0), (11, 1, .iadd, .iadd, 0, 0), (12, 3, .putfield 41, .putfield 812, 1099, 41), (15, 1, .return_, .return_, 0, 0)]
set_option maxRecDepth 100000 in
def zi_109 : List Instr := [.aload 0, .aload 1, .putstatic 806, .aload 0, .dup, .getfield 812, .iconst 1, .iadd, .putfield 812, .return_]
set_option maxRecDepth 100000 in
theorem ze_109 : zc_109.map (fun e => e.2.2.2.1) = zi_109 := rfl
set_option maxRecDepth 100000 in
theorem zk_109 : zckm (zmd 109) false zc_109 zmd [] = true := by decide +kernel
noncomputable def zf_109 : zF := zden zX0 zi_109 (zlk []) 2
/-- HillErrands$Town.setLaw -/
theorem zs_109 : ∀ d, 1 ≤ d → zSnd d (zmd 109) zf_109 := by
  intro d hd
  obtain ⟨d, rfl⟩ : ∃ k, d = k + 1 := ⟨d - 1, by omega⟩
  have h := zsound (d := d) (l := []) zo_109 (fun h => by cases h) zk_109 (fun q hq => by cases hq)
  rw [ze_109] at h
  exact h
set_option maxRecDepth 100000 in
def zc_110 : List zE := [(0, 1, .aload_n 0, .aload 0, 0, 0), (1, 3, .getfield 33, .getstatic 806, 1086, 33), (4, 3, .getfield 56, .getfield 207, 1051, 56), (7, 1, .ireturn, .ireturn, 0, 0)]
set_option maxRecDepth 100000 in
def zi_110 : List Instr := [.aload 0, .getstatic 806, .getfield 207, .ireturn]
set_option maxRecDepth 100000 in
theorem ze_110 : zc_110.map (fun e => e.2.2.2.1) = zi_110 := rfl
set_option maxRecDepth 100000 in
theorem zk_110 : zckm (zmd 110) false zc_110 zmd [] = true := by decide +kernel
noncomputable def zf_110 : zF := zden zX0 zi_110 (zlk []) 1
/-- HillErrands$Town.clauses -/
theorem zs_110 : ∀ d, 1 ≤ d → zSnd d (zmd 110) zf_110 := by
  intro d hd
  obtain ⟨d, rfl⟩ : ∃ k, d = k + 1 := ⟨d - 1, by omega⟩
  have h := zsound (d := d) (l := []) zo_110 (fun h => by cases h) zk_110 (fun q hq => by cases hq)
  rw [ze_110] at h
  exact h
set_option maxRecDepth 100000 in
def zc_112 : List zE := [(0, 1, .aload_n 0, .aload 0, 0, 0), (1, 3, .getfield 15, .getstatic 801, 1081, 15), (4, 1, .iload_n 1, .iload 1, 0, 0), (5, 1, .iaload, .iaload, 0, 0), (6, 1, .ireturn, .ireturn, 0, 0)]
set_option maxRecDepth 100000 in
def zi_112 : List Instr := [.aload 0, .getstatic 801, .iload 1, .iaload, .ireturn]
set_option maxRecDepth 100000 in
theorem ze_112 : zc_112.map (fun e => e.2.2.2.1) = zi_112 := rfl
set_option maxRecDepth 100000 in
theorem zk_112 : zckm (zmd 112) false zc_112 zmd [] = true := by decide +kernel
noncomputable def zf_112 : zF := zden zX0 zi_112 (zlk []) 2
/-- HillErrands$Town.wantedAt -/
theorem zs_112 : ∀ d, 1 ≤ d → zSnd d (zmd 112) zf_112 := by
  intro d hd
  obtain ⟨d, rfl⟩ : ∃ k, d = k + 1 := ⟨d - 1, by omega⟩
  have h := zsound (d := d) (l := []) zo_112 (fun h => by cases h) zk_112 (fun q hq => by cases hq)
  rw [ze_112] at h
  exact h
set_option maxRecDepth 100000 in
def zc_113 : List zE := [(0, 1, .aload_n 0, .aload 0, 0, 0), (1, 3, .getfield 15, .getstatic 801, 1081, 15), (4, 1, .iload_n 1, .iload 1, 0, 0), (5, 1, .iload_n 2, .iload 2, 0, 0), (6, 1, .iastore, .iastore, 0, 0), (7, 1, .return_, .return_, 0, 0)]
set_option maxRecDepth 100000 in
def zi_113 : List Instr := [.aload 0, .getstatic 801, .iload 1, .iload 2, .iastore, .return_]
set_option maxRecDepth 100000 in
theorem ze_113 : zc_113.map (fun e => e.2.2.2.1) = zi_113 := rfl
set_option maxRecDepth 100000 in
theorem zk_113 : zckm (zmd 113) false zc_113 zmd [] = true := by decide +kernel
noncomputable def zf_113 : zF := zden zX0 zi_113 (zlk []) 3
/-- HillErrands$Town.setWanted -/
theorem zs_113 : ∀ d, 1 ≤ d → zSnd d (zmd 113) zf_113 := by
  intro d hd
  obtain ⟨d, rfl⟩ : ∃ k, d = k + 1 := ⟨d - 1, by omega⟩
  have h := zsound (d := d) (l := []) zo_113 (fun h => by cases h) zk_113 (fun q hq => by cases hq)
  rw [ze_113] at h
  exact h
set_option maxRecDepth 100000 in
def zc_114 : List zE := [(0, 1, .iconst 0, .iconst 0, 0, 0), (1, 1, .istore_n 1, .istore 1, 0, 0), (2, 1, .iconst 0, .iconst 0, 0, 0), (3, 1, .istore_n 2, .istore 2, 0, 0), (4, 1, .iload_n 2, .iload 2, 0, 0), (5, 1, .aload_n 0, .aload 0, 0, 0), (6, 3, .getfield 44, .getfield 810, 1090, 44), (9, 3, .if_icmp .ge 18, .if_icmp .ge 17, 0, 0), (12, 1, .iload_n 1, .iload 1, 0, 0), (13, 1, .aload_n 0, .aload 0, 0, 0), (14, 3, .getfield 15, .getstatic 801, 1081, 15), (17, 1, .iload_n 2, .iload 2, 0, 0), (18, 1, .iaload, .iaload, 0, 0), (19, 1, .iadd, .iadd, 0, 0), (20, 1, .istore_n 1, .istore 1, 0, 0), (21, 3, .iinc 2 1, .iinc 2 1, 0, 0), (24, 3, .goto (-20), .goto 4, 0, 0), (27, 1, .iload_n 1, .iload 1, 0, 0), (28, 1, .ireturn, .ireturn, 0, 0)]
set_option maxRecDepth 100000 in
def zi_114 : List Instr := [.iconst 0, .istore 1, .iconst 0, .istore 2, .iload 2, .aload 0, .getfield 810, .if_icmp .ge 17, .iload 1, .aload 0, .getstatic 801, .iload 2, .iaload, .iadd, .istore 1, .iinc 2 1, .goto 4, .iload 1, .ireturn]
set_option maxRecDepth 100000 in
theorem ze_114 : zc_114.map (fun e => e.2.2.2.1) = zi_114 := rfl
set_option maxRecDepth 100000 in
theorem zk_114 : zckm (zmd 114) false zc_114 zmd [] = true := by decide +kernel
noncomputable def zf_114 : zF := zden zX0 zi_114 (zlk []) 3
/-- HillErrands$Town.wantedTogether -/
theorem zs_114 : ∀ d, 1 ≤ d → zSnd d (zmd 114) zf_114 := by
  intro d hd
  obtain ⟨d, rfl⟩ : ∃ k, d = k + 1 := ⟨d - 1, by omega⟩
  have h := zsound (d := d) (l := []) zo_114 (fun h => by cases h) zk_114 (fun q hq => by cases hq)
  rw [ze_114] at h
  exact h
set_option maxRecDepth 100000 in
def zc_119 : List zE := [(0, 1, .aload_n 0, .aload 0, 0, 0), (1, 3, .invokespecial 3, .pop, 1133, 3), (4, 1, .aload_n 0, .aload 0, 0, 0), (5, 2, .bipush 100, .iconst 100, 0, 0), (7, 3, .anewarray 9, .anewarray 0, 1134, 9), (10, 3, .putfield 11, .putstatic 901, 1137, 11), (13, 1, .aload_n 0, .aload 0, 0, 0), (14, 2, .bipush 100, .iconst 100, 0, 0), (16, 2, .newarray .int, .newarray .int, 1079, 0), (18, 3, .putfield 17, .putstatic 902, 1138, 17), (21, 1, .aload_n 0, .aload 0, 0, 0), (22, 2, .bipush 20, .iconst 20, 0, 0), (24, 2, .newarray .int, .newarray .int, 1079, 0), (26, 3, .putfield 20, .putstatic 903, 1139, 20), (29, 1, .aload_n 0, .aload 0, 0, 0), (30, 1, .aload_n 1, .aload 1, 0, 0), (31, 3, .putfield 23, .putstatic 900, 1136, 23), (34, 1, .return_, .return_, 0, 0)]
set_option maxRecDepth 100000 in
def zi_119 : List Instr := [.aload 0, .pop, .aload 0, .iconst 100, .anewarray 0, .putstatic 901, .aload 0, .iconst 100, .newarray .int, .putstatic 902, .aload 0, .iconst 20, .newarray .int, .putstatic 903, .aload 0, .aload 1, .putstatic 900, .return_]
set_option maxRecDepth 100000 in
theorem ze_119 : zc_119.map (fun e => e.2.2.2.1) = zi_119 := rfl
set_option maxRecDepth 100000 in
theorem zk_119 : zckm (zmd 119) true zc_119 zmd [] = true := by decide +kernel
noncomputable def zf_119 : zF := zden zX0 zi_119 (zlk []) 2
/-- HillErrands$Ways.<init> -/
theorem zs_119 : ∀ d, 1 ≤ d → zSnd d (zmd 119) zf_119 := by
  intro d hd
  obtain ⟨d, rfl⟩ : ∃ k, d = k + 1 := ⟨d - 1, by omega⟩
  have h := zsound (d := d) (l := []) zo_119 (fun _ => rfl) zk_119 (fun q hq => by cases hq)
  rw [ze_119] at h
  exact h
set_option maxRecDepth 100000 in
def zc_125 : List zE := [(0, 1, .aload_n 0, .aload 0, 0, 0), (1, 1, .iload_n 1, .iload 1, 0, 0), (2, 1, .iload_n 2, .iload 2, 0, 0), (3, 1, .iload_n 3, .iload 3, 0, 0), (4, 3, .invokevirtual 45, .invokevirtual 1270913, 4008, 45), (7, 2, .istore 4, .istore 4, 0, 0), (9, 1, .iconst 0, .iconst 0, 0, 0), (10, 2, .istore 5, .istore 5, 0, 0), (12, 2, .iload 5, .iload 5, 0, 0), (14, 1, .aload_n 0, .aload 0, 0, 0), (15, 3, .getfield 23, .getstatic 900, 1136, 23), (18, 3, .getfield 59, .getfield 810, 1094, 59), (21, 3, .if_icmp .ge 47, .if_icmp .ge 37, 0, 0), (24, 1, .aload_n 0, .aload 0, 0, 0), (25, 1, .iload_n 1, .iload 1, 0, 0), (26, 2, .iload 5, .iload 5, 0, 0), (28, 1, .iload_n 3, .iload 3, 0, 0), (29, 3, .invokevirtual 45, .invokevirtual 1270913, 4008, 45), (32, 2, .istore 6, .istore 6, 0, 0), (34, 2, .iload 6, .iload 6, 0, 0), (36, 2, .bipush 31, .iconst 31, 0, 0), (38, 1, .iand, .iand, 0, 0), (39, 1, .iconst 1, .iconst 1, 0, 0), (40, 3, .if_icmp .ne 22, .if_icmp .ne 35, 0, 0), (43, 2, .iload 6, .iload 6, 0, 0), (45, 1, .aload_n 0, .aload 0, 0, 0), (46, 2, .iload 5, .iload 5, 0, 0), (48, 1, .iload_n 2, .iload 2, 0, 0), (49, 1, .iload_n 3, .iload 3, 0, 0), (50, 3, .invokevirtual 45, .invokevirtual 1270913, 4008, 45), (53, 1, .iadd, .iadd, 0, 0), (54, 2, .iload 4, .iload 4, 0, 0), (56, 3, .if_icmp .ne 6, .if_icmp .ne 35, 0, 0), (59, 2, .iload 5, .iload 5, 0, 0), (61, 1, .ireturn, .ireturn, 0, 0), (62, 3, .iinc 5 1, .iinc 5 1, 0, 0), (65, 3, .goto (-53), .goto 8, 0, 0), (68, 1, .iconst (-1), .iconst (-1), 0, 0), (69, 1, .ireturn, .ireturn, 0, 0)]
set_option maxRecDepth 100000 in
def zi_125 : List Instr := [.aload 0, .iload 1, .iload 2, .iload 3, .invokevirtual 1270913, .istore 4, .iconst 0, .istore 5, .iload 5, .aload 0, .getstatic 900, .getfield 810, .if_icmp .ge 37, .aload 0, .iload 1, .iload 5, .iload 3, .invokevirtual 1270913, .istore 6, .iload 6, .iconst 31, .iand, .iconst 1, .if_icmp .ne 35, .iload 6, .aload 0, .iload 5, .iload 2, .iload 3, .invokevirtual 1270913, .iadd, .iload 4, .if_icmp .ne 35, .iload 5, .ireturn, .iinc 5 1, .goto 8, .iconst (-1), .ireturn]
set_option maxRecDepth 100000 in
theorem ze_125 : zc_125.map (fun e => e.2.2.2.1) = zi_125 := rfl
set_option maxRecDepth 100000 in
theorem zk_125 : zckm (zmd 125) false zc_125 zmd [127] = true := by decide +kernel
noncomputable def zf_125 : zF := zden zX0 zi_125 (zlk [(127, zf_127)]) 7
/-- HillErrands$Ways.following -/
theorem zs_125 : ∀ d, 4 ≤ d → zSnd d (zmd 125) zf_125 := by
  intro d hd
  obtain ⟨d, rfl⟩ : ∃ k, d = k + 1 := ⟨d - 1, by omega⟩
  have h := zsound (d := d) (l := [(127, zf_127)]) zo_125 (fun h => by cases h) zk_125 (fun q hq => by
    simp only [List.mem_cons, List.not_mem_nil, or_false] at hq
    subst hq
    · exact zs_127 d (by omega))
  rw [ze_125] at h
  exact h
set_option maxRecDepth 100000 in
def zc_123 : List zE := [(0, 1, .aload_n 0, .aload 0, 0, 0), (1, 1, .iconst 0, .iconst 0, 0, 0), (2, 3, .putfield 53, .putfield 904, 1140, 53), (5, 1, .aload_n 0, .aload 0, 0, 0), (6, 1, .iload_n 1, .iload 1, 0, 0), (7, 1, .iload_n 2, .iload 2, 0, 0), (8, 1, .iload_n 3, .iload 3, 0, 0), (9, 3, .invokevirtual 45, .invokevirtual 1270913, 4008, 45), (12, 2, .ldc 49, .iconst 100000000, 3226, 49), (14, 3, .if_icmp .lt 5, .if_icmp .lt 12, 0, 0), (17, 1, .iconst 0, .iconst 0, 0, 0), (18, 1, .ireturn, .ireturn, 0, 0), (19, 1, .iload_n 1, .iload 1, 0, 0), (20, 2, .istore 4, .istore 4, 0, 0), (22, 1, .iconst 0, .iconst 0, 0, 0), (23, 2, .istore 5, .istore 5, 0, 0), (25, 2, .iload 5, .iload 5, 0, 0), (27, 2, .bipush 20, .iconst 20, 0, 0), (29, 3, .if_icmp .ge 52, .if_icmp .ge 45, 0, 0), (32, 2, .iload 4, .iload 4, 0, 0), (34, 1, .iconst (-1), .iconst (-1), 0, 0), (35, 3, .if_icmp .eq 46, .if_icmp .eq 45, 0, 0), (38, 1, .aload_n 0, .aload 0, 0, 0), (39, 3, .getfield 20, .getstatic 903, 1139, 20), (42, 2, .iload 5, .iload 5, 0, 0), (44, 2, .iload 4, .iload 4, 0, 0), (46, 1, .iastore, .iastore, 0, 0), (47, 1, .aload_n 0, .aload 0, 0, 0), (48, 2, .iload 5, .iload 5, 0, 0), (50, 1, .iconst 1, .iconst 1, 0, 0), (51, 1, .iadd, .iadd, 0, 0), (52, 3, .putfield 53, .putfield 904, 1140, 53), (55, 2, .iload 4, .iload 4, 0, 0), (57, 1, .iload_n 2, .iload 2, 0, 0), (58, 3, .if_icmp .ne 7, .if_icmp .ne 37, 0, 0), (61, 1, .iconst (-1), .iconst (-1), 0, 0), (62, 3, .goto 11, .goto 42, 0, 0), (65, 1, .aload_n 0, .aload 0, 0, 0), (66, 2, .iload 4, .iload 4, 0, 0), (68, 1, .iload_n 2, .iload 2, 0, 0), (69, 1, .iload_n 3, .iload 3, 0, 0), (70, 3, .invokevirtual 56, .invokevirtual 1250913, 4017, 56), (73, 2, .istore 4, .istore 4, 0, 0), (75, 3, .iinc 5 1, .iinc 5 1, 0, 0), (78, 3, .goto (-53), .goto 16, 0, 0), (81, 1, .aload_n 0, .aload 0, 0, 0), (82, 3, .getfield 53, .getfield 904, 1140, 53), (85, 1, .ireturn, .ireturn, 0, 0)]
set_option maxRecDepth 100000 in
def zi_123 : List Instr := [.aload 0, .iconst 0, .putfield 904, .aload 0, .iload 1, .iload 2, .iload 3, .invokevirtual 1270913, .iconst 100000000, .if_icmp .lt 12, .iconst 0, .ireturn, .iload 1, .istore 4, .iconst 0, .istore 5, .iload 5, .iconst 20, .if_icmp .ge 45, .iload 4, .iconst (-1), .if_icmp .eq 45, .aload 0, .getstatic 903, .iload 5, .iload 4, .iastore, .aload 0, .iload 5, .iconst 1, .iadd, .putfield 904, .iload 4, .iload 2, .if_icmp .ne 37, .iconst (-1), .goto 42, .aload 0, .iload 4, .iload 2, .iload 3, .invokevirtual 1250913, .istore 4, .iinc 5 1, .goto 16, .aload 0, .getfield 904, .ireturn]
set_option maxRecDepth 100000 in
theorem ze_123 : zc_123.map (fun e => e.2.2.2.1) = zi_123 := rfl
set_option maxRecDepth 100000 in
theorem zk_123 : zckm (zmd 123) false zc_123 zmd [125, 127] = true := by decide +kernel
noncomputable def zf_123 : zF := zden zX0 zi_123 (zlk [(125, zf_125), (127, zf_127)]) 6
/-- HillErrands$Ways.walk -/
theorem zs_123 : ∀ d, 5 ≤ d → zSnd d (zmd 123) zf_123 := by
  intro d hd
  obtain ⟨d, rfl⟩ : ∃ k, d = k + 1 := ⟨d - 1, by omega⟩
  have h := zsound (d := d) (l := [(125, zf_125), (127, zf_127)]) zo_123 (fun h => by cases h) zk_123 (fun q hq => by
    simp only [List.mem_cons, List.not_mem_nil, or_false] at hq
    rcases hq with rfl | rfl
    · exact zs_125 d (by omega)
    · exact zs_127 d (by omega))
  rw [ze_123] at h
  exact h
set_option maxRecDepth 100000 in
def zc_124 : List zE := [(0, 1, .iload_n 1, .iload 1, 0, 0), (1, 3, .ifCond .lt 20, .ifCond .lt 11, 0, 0), (4, 1, .iload_n 1, .iload 1, 0, 0), (5, 1, .aload_n 0, .aload 0, 0, 0), (6, 3, .getfield 53, .getfield 904, 1140, 53), (9, 3, .if_icmp .ge 12, .if_icmp .ge 11, 0, 0), (12, 1, .aload_n 0, .aload 0, 0, 0), (13, 3, .getfield 20, .getstatic 903, 1139, 20), (16, 1, .iload_n 1, .iload 1, 0, 0), (17, 1, .iaload, .iaload, 0, 0), (18, 3, .goto 4, .goto 12, 0, 0), (21, 1, .iconst (-1), .iconst (-1), 0, 0), (22, 1, .ireturn, .ireturn, 0, 0)]
set_option maxRecDepth 100000 in
def zi_124 : List Instr := [.iload 1, .ifCond .lt 11, .iload 1, .aload 0, .getfield 904, .if_icmp .ge 11, .aload 0, .getstatic 903, .iload 1, .iaload, .goto 12, .iconst (-1), .ireturn]
set_option maxRecDepth 100000 in
theorem ze_124 : zc_124.map (fun e => e.2.2.2.1) = zi_124 := rfl
set_option maxRecDepth 100000 in
theorem zk_124 : zckm (zmd 124) false zc_124 zmd [] = true := by decide +kernel
noncomputable def zf_124 : zF := zden zX0 zi_124 (zlk []) 2
/-- HillErrands$Ways.onWalk -/
theorem zs_124 : ∀ d, 1 ≤ d → zSnd d (zmd 124) zf_124 := by
  intro d hd
  obtain ⟨d, rfl⟩ : ∃ k, d = k + 1 := ⟨d - 1, by omega⟩
  have h := zsound (d := d) (l := []) zo_124 (fun h => by cases h) zk_124 (fun q hq => by cases hq)
  rw [ze_124] at h
  exact h
set_option maxRecDepth 100000 in
def zc_131 : List zE := [(0, 1, .aload_n 0, .aload 0, 0, 0), (1, 3, .invokespecial 3, .pop, 2031, 3), (4, 1, .aload_n 0, .aload 0, 0, 0), (5, 2, .bipush 20, .iconst 20, 0, 0), (7, 2, .newarray .int, .newarray .int, 1079, 0), (9, 3, .putfield 9, .putstatic 1003, 2035, 9), (12, 1, .aload_n 0, .aload 0, 0, 0), (13, 1, .aload_n 1, .aload 1, 0, 0), (14, 3, .putfield 15, .putstatic 1000, 2032, 15), (17, 1, .aload_n 0, .aload 0, 0, 0), (18, 1, .aload_n 2, .aload 2, 0, 0), (19, 3, .putfield 19, .putstatic 1001, 2033, 19), (22, 1, .aload_n 0, .aload 0, 0, 0), (23, 1, .aload_n 3, .aload 3, 0, 0), (24, 3, .putfield 23, .putstatic 1002, 2034, 23), (27, 1, .return_, .return_, 0, 0)]
set_option maxRecDepth 100000 in
def zi_131 : List Instr := [.aload 0, .pop, .aload 0, .iconst 20, .newarray .int, .putstatic 1003, .aload 0, .aload 1, .putstatic 1000, .aload 0, .aload 2, .putstatic 1001, .aload 0, .aload 3, .putstatic 1002, .return_]
set_option maxRecDepth 100000 in
theorem ze_131 : zc_131.map (fun e => e.2.2.2.1) = zi_131 := rfl
set_option maxRecDepth 100000 in
theorem zk_131 : zckm (zmd 131) true zc_131 zmd [] = true := by decide +kernel
noncomputable def zf_131 : zF := zden zX0 zi_131 (zlk []) 4
/-- HillErrands$Wells.<init> -/
theorem zs_131 : ∀ d, 1 ≤ d → zSnd d (zmd 131) zf_131 := by
  intro d hd
  obtain ⟨d, rfl⟩ : ∃ k, d = k + 1 := ⟨d - 1, by omega⟩
  have h := zsound (d := d) (l := []) zo_131 (fun _ => rfl) zk_131 (fun q hq => by cases hq)
  rw [ze_131] at h
  exact h
set_option maxRecDepth 100000 in
def zc_132 : List zE := [(0, 1, .aload_n 0, .aload 0, 0, 0), (1, 3, .getfield 27, .getfield 1004, 2036, 27), (4, 1, .ireturn, .ireturn, 0, 0)]
set_option maxRecDepth 100000 in
def zi_132 : List Instr := [.aload 0, .getfield 1004, .ireturn]
set_option maxRecDepth 100000 in
theorem ze_132 : zc_132.map (fun e => e.2.2.2.1) = zi_132 := rfl
set_option maxRecDepth 100000 in
theorem zk_132 : zckm (zmd 132) false zc_132 zmd [] = true := by decide +kernel
noncomputable def zf_132 : zF := zden zX0 zi_132 (zlk []) 1
/-- HillErrands$Wells.lacking -/
theorem zs_132 : ∀ d, 1 ≤ d → zSnd d (zmd 132) zf_132 := by
  intro d hd
  obtain ⟨d, rfl⟩ : ∃ k, d = k + 1 := ⟨d - 1, by omega⟩
  have h := zsound (d := d) (l := []) zo_132 (fun h => by cases h) zk_132 (fun q hq => by cases hq)
  rw [ze_132] at h
  exact h
set_option maxRecDepth 100000 in
def zc_133 : List zE := [(0, 1, .aload_n 0, .aload 0, 0, 0), (1, 3, .getfield 31, .getfield 1005, 2037, 31), (4, 1, .ireturn, .ireturn, 0, 0)]
set_option maxRecDepth 100000 in
def zi_133 : List Instr := [.aload 0, .getfield 1005, .ireturn]
set_option maxRecDepth 100000 in
theorem ze_133 : zc_133.map (fun e => e.2.2.2.1) = zi_133 := rfl
set_option maxRecDepth 100000 in
theorem zk_133 : zckm (zmd 133) false zc_133 zmd [] = true := by decide +kernel
noncomputable def zf_133 : zF := zden zX0 zi_133 (zlk []) 1
/-- HillErrands$Wells.drySet -/
theorem zs_133 : ∀ d, 1 ≤ d → zSnd d (zmd 133) zf_133 := by
  intro d hd
  obtain ⟨d, rfl⟩ : ∃ k, d = k + 1 := ⟨d - 1, by omega⟩
  have h := zsound (d := d) (l := []) zo_133 (fun h => by cases h) zk_133 (fun q hq => by cases hq)
  rw [ze_133] at h
  exact h
set_option maxRecDepth 100000 in
def zc_135 : List zE := [(0, 1, .iconst 0, .iconst 0, 0, 0), (1, 1, .istore_n 2, .istore 2, 0, 0), (2, 1, .iload_n 2, .iload 2, 0, 0), (3, 2, .bipush 20, .iconst 20, 0, 0), (5, 3, .if_icmp .ge 16, .if_icmp .ge 12, 0, 0), (8, 1, .aload_n 0, .aload 0, 0, 0), (9, 3, .getfield 9, .getstatic 1003, 2035, 9), (12, 1, .iload_n 2, .iload 2, 0, 0), (13, 1, .iconst 0, .iconst 0, 0, 0), (14, 1, .iastore, .iastore, 0, 0), (15, 3, .iinc 2 1, .iinc 2 1, 0, 0), (18, 3, .goto (-16), .goto 2, 0, 0), (21, 1, .iconst 0, .iconst 0, 0, 0), (22, 1, .istore_n 2, .istore 2, 0, 0), (23, 1, .iload_n 2, .iload 2, 0, 0), (24, 1, .aload_n 0, .aload 0, 0, 0), (25, 3, .getfield 23, .getstatic 1002, 2034, 23), (28, 3, .getfield 43, .getfield 110, 1170, 43), (31, 3, .if_icmp .ge 103, .if_icmp .ge 72, 0, 0), (34, 1, .aload_n 0, .aload 0, 0, 0), (35, 3, .getfield 19, .getstatic 1001, 2033, 19), (38, 1, .aload_n 0, .aload 0, 0, 0), (39, 3, .getfield 23, .getstatic 1002, 2034, 23), (42, 1, .iload_n 2, .iload 2, 0, 0), (43, 3, .invokevirtual 58, .invokevirtual 170111, 4212, 58), (46, 1, .aload_n 0, .aload 0, 0, 0), (47, 3, .getfield 23, .getstatic 1002, 2034, 23), (50, 1, .iload_n 2, .iload 2, 0, 0), (51, 3, .invokevirtual 61, .invokevirtual 180111, 4216, 61), (54, 1, .iconst 0, .iconst 0, 0, 0), (55, 3, .invokevirtual 64, .invokevirtual 1230913, 4220, 64), (58, 1, .istore_n 3, .istore 3, 0, 0), (59, 1, .iconst 0, .iconst 0, 0, 0), (60, 2, .istore 4, .istore 4, 0, 0), (62, 1, .iconst 0, .iconst 0, 0, 0), (63, 2, .istore 5, .istore 5, 0, 0), (65, 2, .iload 5, .iload 5, 0, 0), (67, 1, .iload_n 3, .iload 3, 0, 0), (68, 3, .if_icmp .ge 60, .if_icmp .ge 70, 0, 0), (71, 1, .aload_n 0, .aload 0, 0, 0), (72, 3, .getfield 19, .getstatic 1001, 2033, 19), (75, 2, .iload 5, .iload 5, 0, 0), (77, 3, .invokevirtual 68, .invokevirtual 1240911, 4221, 68), (80, 2, .istore 6, .istore 6, 0, 0), (82, 2, .iload 4, .iload 4, 0, 0), (84, 2, .iload 6, .iload 6, 0, 0), (86, 1, .iload_n 1, .iload 1, 0, 0), (87, 3, .if_icmp .ne 7, .if_icmp .ne 50, 0, 0), (90, 1, .iconst 1, .iconst 1, 0, 0), (91, 3, .goto 4, .goto 51, 0, 0), (94, 1, .iconst 0, .iconst 0, 0, 0), (95, 1, .ior, .ior, 0, 0), (96, 2, .istore 4, .istore 4, 0, 0), (98, 2, .iload 4, .iload 4, 0, 0), (100, 3, .ifCond .eq 22, .ifCond .eq 68, 0, 0), (103, 2, .iload 6, .iload 6, 0, 0), (105, 1, .iconst (-1), .iconst (-1), 0, 0), (106, 3, .if_icmp .eq 16, .if_icmp .eq 68, 0, 0), (109, 1, .aload_n 0, .aload 0, 0, 0), (110, 3, .getfield 9, .getstatic 1003, 2035, 9), (113, 2, .iload 6, .iload 6, 0, 0), (115, 1, .dup2, .dup2, 0, 0), (116, 1, .iaload, .iaload, 0, 0), (117, 1, .iconst 1, .iconst 1, 0, 0), (118, 1, .iload_n 2, .iload 2, 0, 0), (119, 1, .ishl, .ishl, 0, 0), (120, 1, .ior, .ior, 0, 0), (121, 1, .iastore, .iastore, 0, 0), (122, 3, .iinc 5 1, .iinc 5 1, 0, 0), (125, 3, .goto (-60), .goto 36, 0, 0), (128, 3, .iinc 2 1, .iinc 2 1, 0, 0), (131, 3, .goto (-108), .goto 14, 0, 0), (134, 1, .return_, .return_, 0, 0)]
set_option maxRecDepth 100000 in
def zi_135 : List Instr := [.iconst 0, .istore 2, .iload 2, .iconst 20, .if_icmp .ge 12, .aload 0, .getstatic 1003, .iload 2, .iconst 0, .iastore, .iinc 2 1, .goto 2, .iconst 0, .istore 2, .iload 2, .aload 0, .getstatic 1002, .getfield 110, .if_icmp .ge 72, .aload 0, .getstatic 1001, .aload 0, .getstatic 1002, .iload 2, .invokevirtual 170111, .aload 0, .getstatic 1002, .iload 2, .invokevirtual 180111, .iconst 0, .invokevirtual 1230913, .istore 3, .iconst 0, .istore 4, .iconst 0, .istore 5, .iload 5, .iload 3, .if_icmp .ge 70, .aload 0, .getstatic 1001, .iload 5, .invokevirtual 1240911, .istore 6, .iload 4, .iload 6, .iload 1, .if_icmp .ne 50, .iconst 1, .goto 51, .iconst 0, .ior, .istore 4, .iload 4, .ifCond .eq 68, .iload 6, .iconst (-1), .if_icmp .eq 68, .aload 0, .getstatic 1003, .iload 6, .dup2, .iaload, .iconst 1, .iload 2, .ishl, .ior, .iastore, .iinc 5 1, .goto 36, .iinc 2 1, .goto 14, .return_]
set_option maxRecDepth 100000 in
theorem ze_135 : zc_135.map (fun e => e.2.2.2.1) = zi_135 := rfl
set_option maxRecDepth 100000 in
theorem zk_135 : zckm (zmd 135) false zc_135 zmd [17, 18, 123, 124] = true := by decide +kernel
noncomputable def zf_135 : zF := zden zX0 zi_135 (zlk [(17, zf_17), (18, zf_18), (123, zf_123), (124, zf_124)]) 7
/-- HillErrands$Wells.findBringers -/
theorem zs_135 : ∀ d, 6 ≤ d → zSnd d (zmd 135) zf_135 := by
  intro d hd
  obtain ⟨d, rfl⟩ : ∃ k, d = k + 1 := ⟨d - 1, by omega⟩
  have h := zsound (d := d) (l := [(17, zf_17), (18, zf_18), (123, zf_123), (124, zf_124)]) zo_135 (fun h => by cases h) zk_135 (fun q hq => by
    simp only [List.mem_cons, List.not_mem_nil, or_false] at hq
    rcases hq with rfl | rfl | rfl | rfl
    · exact zs_17 d (by omega)
    · exact zs_18 d (by omega)
    · exact zs_123 d (by omega)
    · exact zs_124 d (by omega))
  rw [ze_135] at h
  exact h
set_option maxRecDepth 100000 in
def zc_136 : List zE := [(0, 1, .iconst 0, .iconst 0, 0, 0), (1, 1, .istore_n 2, .istore 2, 0, 0), (2, 1, .iconst 0, .iconst 0, 0, 0), (3, 1, .istore_n 3, .istore 3, 0, 0), (4, 1, .iload_n 3, .iload 3, 0, 0), (5, 1, .aload_n 0, .aload 0, 0, 0), (6, 3, .getfield 15, .getstatic 1000, 2032, 15), (9, 3, .getfield 71, .getfield 810, 1093, 71), (12, 3, .if_icmp .ge 39, .if_icmp .ge 31, 0, 0), (15, 1, .aload_n 0, .aload 0, 0, 0), (16, 3, .getfield 15, .getstatic 1000, 2032, 15), (19, 1, .iload_n 3, .iload 3, 0, 0), (20, 3, .invokevirtual 76, .invokevirtual 1120811, 4226, 76), (23, 3, .ifCond .le 22, .ifCond .le 29, 0, 0), (26, 1, .aload_n 0, .aload 0, 0, 0), (27, 3, .getfield 9, .getstatic 1003, 2035, 9), (30, 1, .iload_n 3, .iload 3, 0, 0), (31, 1, .iaload, .iaload, 0, 0), (32, 1, .iload_n 1, .iload 1, 0, 0), (33, 1, .iconst (-1), .iconst (-1), 0, 0), (34, 1, .ixor, .ixor, 0, 0), (35, 1, .iand, .iand, 0, 0), (36, 3, .ifCond .ne 9, .ifCond .ne 29, 0, 0), (39, 1, .iload_n 2, .iload 2, 0, 0), (40, 1, .iconst 1, .iconst 1, 0, 0), (41, 1, .iload_n 3, .iload 3, 0, 0), (42, 1, .ishl, .ishl, 0, 0), (43, 1, .ior, .ior, 0, 0), (44, 1, .istore_n 2, .istore 2, 0, 0), (45, 3, .iinc 3 1, .iinc 3 1, 0, 0), (48, 3, .goto (-44), .goto 4, 0, 0), (51, 1, .iload_n 2, .iload 2, 0, 0), (52, 1, .ireturn, .ireturn, 0, 0)]
set_option maxRecDepth 100000 in
def zi_136 : List Instr := [.iconst 0, .istore 2, .iconst 0, .istore 3, .iload 3, .aload 0, .getstatic 1000, .getfield 810, .if_icmp .ge 31, .aload 0, .getstatic 1000, .iload 3, .invokevirtual 1120811, .ifCond .le 29, .aload 0, .getstatic 1003, .iload 3, .iaload, .iload 1, .iconst (-1), .ixor, .iand, .ifCond .ne 29, .iload 2, .iconst 1, .iload 3, .ishl, .ior, .istore 2, .iinc 3 1, .goto 4, .iload 2, .ireturn]
set_option maxRecDepth 100000 in
theorem ze_136 : zc_136.map (fun e => e.2.2.2.1) = zi_136 := rfl
set_option maxRecDepth 100000 in
theorem zk_136 : zckm (zmd 136) false zc_136 zmd [112] = true := by decide +kernel
noncomputable def zf_136 : zF := zden zX0 zi_136 (zlk [(112, zf_112)]) 4
/-- HillErrands$Wells.servedAloneBy -/
theorem zs_136 : ∀ d, 2 ≤ d → zSnd d (zmd 136) zf_136 := by
  intro d hd
  obtain ⟨d, rfl⟩ : ∃ k, d = k + 1 := ⟨d - 1, by omega⟩
  have h := zsound (d := d) (l := [(112, zf_112)]) zo_136 (fun h => by cases h) zk_136 (fun q hq => by
    simp only [List.mem_cons, List.not_mem_nil, or_false] at hq
    subst hq
    · exact zs_112 d (by omega))
  rw [ze_136] at h
  exact h
set_option maxRecDepth 100000 in
def zc_137 : List zE := [(0, 1, .iconst 0, .iconst 0, 0, 0), (1, 1, .istore_n 2, .istore 2, 0, 0), (2, 1, .iconst 0, .iconst 0, 0, 0), (3, 1, .istore_n 3, .istore 3, 0, 0), (4, 1, .iload_n 3, .iload 3, 0, 0), (5, 1, .aload_n 0, .aload 0, 0, 0), (6, 3, .getfield 15, .getstatic 1000, 2032, 15), (9, 3, .getfield 71, .getfield 810, 1093, 71), (12, 3, .if_icmp .ge 28, .if_icmp .ge 24, 0, 0), (15, 1, .iload_n 1, .iload 1, 0, 0), (16, 1, .iload_n 3, .iload 3, 0, 0), (17, 1, .ishr, .ishr, 0, 0), (18, 1, .iconst 1, .iconst 1, 0, 0), (19, 1, .iand, .iand, 0, 0), (20, 3, .ifCond .eq 14, .ifCond .eq 22, 0, 0), (23, 1, .iload_n 2, .iload 2, 0, 0), (24, 1, .aload_n 0, .aload 0, 0, 0), (25, 3, .getfield 15, .getstatic 1000, 2032, 15), (28, 1, .iload_n 3, .iload 3, 0, 0), (29, 3, .invokevirtual 76, .invokevirtual 1120811, 4226, 76), (32, 1, .iadd, .iadd, 0, 0), (33, 1, .istore_n 2, .istore 2, 0, 0), (34, 3, .iinc 3 1, .iinc 3 1, 0, 0), (37, 3, .goto (-33), .goto 4, 0, 0), (40, 1, .iload_n 2, .iload 2, 0, 0), (41, 1, .ireturn, .ireturn, 0, 0)]
set_option maxRecDepth 100000 in
def zi_137 : List Instr := [.iconst 0, .istore 2, .iconst 0, .istore 3, .iload 3, .aload 0, .getstatic 1000, .getfield 810, .if_icmp .ge 24, .iload 1, .iload 3, .ishr, .iconst 1, .iand, .ifCond .eq 22, .iload 2, .aload 0, .getstatic 1000, .iload 3, .invokevirtual 1120811, .iadd, .istore 2, .iinc 3 1, .goto 4, .iload 2, .ireturn]
set_option maxRecDepth 100000 in
theorem ze_137 : zc_137.map (fun e => e.2.2.2.1) = zi_137 := rfl
set_option maxRecDepth 100000 in
theorem zk_137 : zckm (zmd 137) false zc_137 zmd [112] = true := by decide +kernel
noncomputable def zf_137 : zF := zden zX0 zi_137 (zlk [(112, zf_112)]) 4
/-- HillErrands$Wells.wantedBy -/
theorem zs_137 : ∀ d, 2 ≤ d → zSnd d (zmd 137) zf_137 := by
  intro d hd
  obtain ⟨d, rfl⟩ : ∃ k, d = k + 1 := ⟨d - 1, by omega⟩
  have h := zsound (d := d) (l := [(112, zf_112)]) zo_137 (fun h => by cases h) zk_137 (fun q hq => by
    simp only [List.mem_cons, List.not_mem_nil, or_false] at hq
    subst hq
    · exact zs_112 d (by omega))
  rw [ze_137] at h
  exact h
set_option maxRecDepth 100000 in
def zc_138 : List zE := [(0, 1, .iconst 0, .iconst 0, 0, 0), (1, 1, .istore_n 2, .istore 2, 0, 0), (2, 1, .iconst 0, .iconst 0, 0, 0), (3, 1, .istore_n 3, .istore 3, 0, 0), (4, 1, .iload_n 3, .iload 3, 0, 0), (5, 1, .aload_n 0, .aload 0, 0, 0), (6, 3, .getfield 23, .getstatic 1002, 2034, 23), (9, 3, .getfield 43, .getfield 110, 1170, 43), (12, 3, .if_icmp .ge 28, .if_icmp .ge 24, 0, 0), (15, 1, .iload_n 1, .iload 1, 0, 0), (16, 1, .iload_n 3, .iload 3, 0, 0), (17, 1, .ishr, .ishr, 0, 0), (18, 1, .iconst 1, .iconst 1, 0, 0), (19, 1, .iand, .iand, 0, 0), (20, 3, .ifCond .eq 14, .ifCond .eq 22, 0, 0), (23, 1, .iload_n 2, .iload 2, 0, 0), (24, 1, .aload_n 0, .aload 0, 0, 0), (25, 3, .getfield 23, .getstatic 1002, 2034, 23), (28, 1, .iload_n 3, .iload 3, 0, 0), (29, 3, .invokevirtual 79, .invokevirtual 190111, 4238, 79), (32, 1, .iadd, .iadd, 0, 0), (33, 1, .istore_n 2, .istore 2, 0, 0), (34, 3, .iinc 3 1, .iinc 3 1, 0, 0), (37, 3, .goto (-33), .goto 4, 0, 0), (40, 1, .iload_n 2, .iload 2, 0, 0), (41, 1, .ireturn, .ireturn, 0, 0)]
set_option maxRecDepth 100000 in
def zi_138 : List Instr := [.iconst 0, .istore 2, .iconst 0, .istore 3, .iload 3, .aload 0, .getstatic 1002, .getfield 110, .if_icmp .ge 24, .iload 1, .iload 3, .ishr, .iconst 1, .iand, .ifCond .eq 22, .iload 2, .aload 0, .getstatic 1002, .iload 3, .invokevirtual 190111, .iadd, .istore 2, .iinc 3 1, .goto 4, .iload 2, .ireturn]
set_option maxRecDepth 100000 in
theorem ze_138 : zc_138.map (fun e => e.2.2.2.1) = zi_138 := rfl
set_option maxRecDepth 100000 in
theorem zk_138 : zckm (zmd 138) false zc_138 zmd [19] = true := by decide +kernel
noncomputable def zf_138 : zF := zden zX0 zi_138 (zlk [(19, zf_19)]) 4
/-- HillErrands$Wells.carriedBy -/
theorem zs_138 : ∀ d, 2 ≤ d → zSnd d (zmd 138) zf_138 := by
  intro d hd
  obtain ⟨d, rfl⟩ : ∃ k, d = k + 1 := ⟨d - 1, by omega⟩
  have h := zsound (d := d) (l := [(19, zf_19)]) zo_138 (fun h => by cases h) zk_138 (fun q hq => by
    simp only [List.mem_cons, List.not_mem_nil, or_false] at hq
    subst hq
    · exact zs_19 d (by omega))
  rw [ze_138] at h
  exact h
set_option maxRecDepth 100000 in
def zc_134 : List zE := [(0, 1, .aload_n 0, .aload 0, 0, 0), (1, 3, .getfield 19, .getstatic 1001, 2033, 19), (4, 1, .iconst 0, .iconst 0, 0, 0), (5, 3, .invokevirtual 34, .invokevirtual 1200901, 4207, 34), (8, 1, .aload_n 0, .aload 0, 0, 0), (9, 1, .iload_n 1, .iload 1, 0, 0), (10, 3, .invokevirtual 40, .invokevirtual 1351001, 4208, 40), (13, 1, .aload_n 0, .aload 0, 0, 0), (14, 1, .iconst 0, .iconst 0, 0, 0), (15, 3, .putfield 27, .putfield 1004, 2036, 27), (18, 1, .aload_n 0, .aload 0, 0, 0), (19, 1, .iconst 0, .iconst 0, 0, 0), (20, 3, .putfield 31, .putfield 1005, 2037, 31), (23, 1, .iconst 0, .iconst 0, 0, 0), (24, 1, .istore_n 2, .istore 2, 0, 0), (25, 1, .iload_n 2, .iload 2, 0, 0), (26, 1, .iconst 1, .iconst 1, 0, 0), (27, 1, .aload_n 0, .aload 0, 0, 0), (28, 3, .getfield 23, .getstatic 1002, 2034, 23), (31, 3, .getfield 43, .getfield 110, 1170, 43), (34, 1, .ishl, .ishl, 0, 0), (35, 3, .if_icmp .ge 48, .if_icmp .ge 46, 0, 0), (38, 1, .aload_n 0, .aload 0, 0, 0), (39, 1, .iload_n 2, .iload 2, 0, 0), (40, 3, .invokevirtual 48, .invokevirtual 1361011, 4222, 48), (43, 1, .istore_n 3, .istore 3, 0, 0), (44, 1, .aload_n 0, .aload 0, 0, 0), (45, 1, .iload_n 3, .iload 3, 0, 0), (46, 3, .invokevirtual 52, .invokevirtual 1371011, 4230, 52), (49, 1, .aload_n 0, .aload 0, 0, 0), (50, 1, .iload_n 2, .iload 2, 0, 0), (51, 3, .invokevirtual 55, .invokevirtual 1381011, 4234, 55), (54, 1, .isub, .isub, 0, 0), (55, 2, .istore 4, .istore 4, 0, 0), (57, 2, .iload 4, .iload 4, 0, 0), (59, 1, .aload_n 0, .aload 0, 0, 0), (60, 3, .getfield 27, .getfield 1004, 2036, 27), (63, 3, .if_icmp .le 14, .if_icmp .le 44, 0, 0), (66, 1, .aload_n 0, .aload 0, 0, 0), (67, 2, .iload 4, .iload 4, 0, 0), (69, 3, .putfield 27, .putfield 1004, 2036, 27), (72, 1, .aload_n 0, .aload 0, 0, 0), (73, 1, .iload_n 3, .iload 3, 0, 0), (74, 3, .putfield 31, .putfield 1005, 2037, 31), (77, 3, .iinc 2 1, .iinc 2 1, 0, 0), (80, 3, .goto (-55), .goto 15, 0, 0), (83, 1, .return_, .return_, 0, 0)]
set_option maxRecDepth 100000 in
def zi_134 : List Instr := [.aload 0, .getstatic 1001, .iconst 0, .invokevirtual 1200901, .aload 0, .iload 1, .invokevirtual 1351001, .aload 0, .iconst 0, .putfield 1004, .aload 0, .iconst 0, .putfield 1005, .iconst 0, .istore 2, .iload 2, .iconst 1, .aload 0, .getstatic 1002, .getfield 110, .ishl, .if_icmp .ge 46, .aload 0, .iload 2, .invokevirtual 1361011, .istore 3, .aload 0, .iload 3, .invokevirtual 1371011, .aload 0, .iload 2, .invokevirtual 1381011, .isub, .istore 4, .iload 4, .aload 0, .getfield 1004, .if_icmp .le 44, .aload 0, .iload 4, .putfield 1004, .aload 0, .iload 3, .putfield 1005, .iinc 2 1, .goto 15, .return_]
set_option maxRecDepth 100000 in
theorem ze_134 : zc_134.map (fun e => e.2.2.2.1) = zi_134 := rfl
set_option maxRecDepth 100000 in
theorem zk_134 : zckm (zmd 134) false zc_134 zmd [120, 135, 136, 137, 138] = true := by decide +kernel
noncomputable def zf_134 : zF := zden zX0 zi_134 (zlk [(120, zf_120), (135, zf_135), (136, zf_136), (137, zf_137), (138, zf_138)]) 5
/-- HillErrands$Wells.lookFrom -/
theorem zs_134 : ∀ d, 7 ≤ d → zSnd d (zmd 134) zf_134 := by
  intro d hd
  obtain ⟨d, rfl⟩ : ∃ k, d = k + 1 := ⟨d - 1, by omega⟩
  have h := zsound (d := d) (l := [(120, zf_120), (135, zf_135), (136, zf_136), (137, zf_137), (138, zf_138)]) zo_134 (fun h => by cases h) zk_134 (fun q hq => by
    simp only [List.mem_cons, List.not_mem_nil, or_false] at hq
    rcases hq with rfl | rfl | rfl | rfl | rfl
    · exact zs_120 d (by omega)
    · exact zs_135 d (by omega)
    · exact zs_136 d (by omega)
    · exact zs_137 d (by omega)
    · exact zs_138 d (by omega))
  rw [ze_134] at h
  exact h
set_option maxRecDepth 100000 in
def zc_139 : List zE := [(0, 1, .aload_n 0, .aload 0, 0, 0), (1, 3, .invokespecial 1, .pop, 1027, 1), (4, 3, .new 7, .new 8, 1030, 7), (7, 1, .dup, .dup, 0, 0), (8, 3, .invokespecial 9, .invokespecial 960000, 1032, 9), (11, 1, .astore_n 1, .astore 1, 0, 0), (12, 3, .new 10, .new 9, 1128, 10), (15, 1, .dup, .dup, 0, 0), (16, 1, .aload_n 1, .aload 1, 0, 0), (17, 3, .invokespecial 12, .invokespecial 1190001, 1130, 12), (20, 1, .astore_n 2, .astore 2, 0, 0), (21, 3, .new 15, .new 1, 1152, 15), (24, 1, .dup, .dup, 0, 0), (25, 1, .aload_n 2, .aload 2, 0, 0), (26, 3, .invokespecial 17, .invokespecial 150001, 1154, 17), (29, 1, .astore_n 3, .astore 3, 0, 0), (30, 1, .aload_n 0, .aload 0, 0, 0), (31, 3, .new 20, .new 7, 1200, 20), (34, 1, .dup, .dup, 0, 0), (35, 3, .invokespecial 22, .invokespecial 890000, 1202, 22), (38, 3, .putfield 23, .putstatic 1100, 2122, 23), (41, 1, .aload_n 0, .aload 0, 0, 0), (42, 3, .new 29, .new 5, 1213, 29), (45, 1, .dup, .dup, 0, 0), (46, 3, .invokespecial 31, .invokespecial 560000, 1215, 31), (49, 3, .putfield 32, .putstatic 1101, 2123, 32), (52, 1, .aload_n 0, .aload 0, 0, 0), (53, 1, .aload_n 1, .aload 1, 0, 0), (54, 3, .putfield 36, .putstatic 1102, 2124, 36), (57, 1, .aload_n 0, .aload 0, 0, 0), (58, 1, .aload_n 2, .aload 2, 0, 0), (59, 3, .putfield 40, .putstatic 1103, 2125, 40), (62, 1, .aload_n 0, .aload 0, 0, 0), (63, 3, .new 44, .new 6, 1237, 44), (66, 1, .dup, .dup, 0, 0), (67, 1, .aload_n 2, .aload 2, 0, 0), (68, 3, .invokespecial 46, .invokespecial 730001, 1239, 46), (71, 3, .putfield 47, .putstatic 1104, 2126, 47), (74, 1, .aload_n 0, .aload 0, 0, 0), (75, 1, .aload_n 3, .aload 3, 0, 0), (76, 3, .putfield 51, .putstatic 1105, 2127, 51), (79, 1, .aload_n 0, .aload 0, 0, 0), (80, 3, .new 55, .new 10, 2026, 55), (83, 1, .dup, .dup, 0, 0), (84, 1, .aload_n 1, .aload 1, 0, 0), (85, 1, .aload_n 2, .aload 2, 0, 0), (86, 1, .aload_n 3, .aload 3, 0, 0), (87, 3, .invokespecial 57, .invokespecial 1310003, 2028, 57), (90, 3, .putfield 60, .putstatic 1106, 2128, 60), (93, 1, .aload_n 0, .aload 0, 0, 0), (94, 3, .new 64, .new 3, 2051, 64), (97, 1, .dup, .dup, 0, 0), (98, 1, .aload_n 1, .aload 1, 0, 0), (99, 1, .aload_n 2, .aload 2, 0, 0), (100, 1, .aload_n 3, .aload 3, 0, 0), (101, 3, .invokespecial 66, .invokespecial 410003, 2053, 66), (104, 3, .putfield 67, .putstatic 1107, 2129, 67), (107, 1, .aload_n 0, .aload 0, 0, 0), (108, 3, .new 71, .new 4, 2073, 71), (111, 1, .dup, .dup, 0, 0), (112, 1, .aload_n 1, .aload 1, 0, 0), (113, 1, .aload_n 2, .aload 2, 0, 0), (114, 1, .aload_n 3, .aload 3, 0, 0), (115, 3, .invokespecial 73, .invokespecial 520003, 2075, 73), (118, 3, .putfield 74, .putstatic 1108, 2130, 74), (121, 1, .aload_n 0, .aload 0, 0, 0), (122, 3, .new 78, .new 0, 2098, 78), (125, 1, .dup, .dup, 0, 0), (126, 3, .invokespecial 80, .invokespecial 100000, 2100, 80), (129, 3, .putfield 81, .putstatic 1109, 2131, 81), (132, 1, .aload_n 0, .aload 0, 0, 0), (133, 1, .iconst 1, .iconst 1, 0, 0), (134, 3, .putfield 85, .putfield 1110, 2132, 85), (137, 1, .return_, .return_, 0, 0)]
set_option maxRecDepth 100000 in
def zi_139 : List Instr := [.aload 0, .pop, .new 8, .dup, .invokespecial 960000, .astore 1, .new 9, .dup, .aload 1, .invokespecial 1190001, .astore 2, .new 1, .dup, .aload 2, .invokespecial 150001, .astore 3, .aload 0, .new 7, .dup, .invokespecial 890000, .putstatic 1100, .aload 0, .new 5, .dup, .invokespecial 560000, .putstatic 1101, .aload 0, .aload 1, .putstatic 1102, .aload 0, .aload 2, .putstatic 1103, .aload 0, .new 6, .dup, .aload 2, .invokespecial 730001, .putstatic 1104, .aload 0, .aload 3, .putstatic 1105, .aload 0, .new 10, .dup, .aload 1, .aload 2, .aload 3, .invokespecial 1310003, .putstatic 1106, .aload 0, .new 3, .dup, .aload 1, .aload 2, .aload 3, .invokespecial 410003, .putstatic 1107, .aload 0, .new 4, .dup, .aload 1, .aload 2, .aload 3, .invokespecial 520003, .putstatic 1108, .aload 0, .new 0, .dup, .invokespecial 100000, .putstatic 1109, .aload 0, .iconst 1, .putfield 1110, .return_]
set_option maxRecDepth 100000 in
theorem ze_139 : zc_139.map (fun e => e.2.2.2.1) = zi_139 := rfl
set_option maxRecDepth 100000 in
theorem zk_139 : zckm (zmd 139) true zc_139 zmd [10, 15, 41, 52, 56, 73, 89, 96, 119, 131] = true := by decide +kernel
noncomputable def zf_139 : zF := zden zX0 zi_139 (zlk [(10, zf_10), (15, zf_15), (41, zf_41), (52, zf_52), (56, zf_56), (73, zf_73), (89, zf_89), (96, zf_96), (119, zf_119), (131, zf_131)]) 4
/-- HillErrands.<init> -/
theorem zs_139 : ∀ d, 3 ≤ d → zSnd d (zmd 139) zf_139 := by
  intro d hd
  obtain ⟨d, rfl⟩ : ∃ k, d = k + 1 := ⟨d - 1, by omega⟩
  have h := zsound (d := d) (l := [(10, zf_10), (15, zf_15), (41, zf_41), (52, zf_52), (56, zf_56), (73, zf_73), (89, zf_89), (96, zf_96), (119, zf_119), (131, zf_131)]) zo_139 (fun _ => rfl) zk_139 (fun q hq => by
    simp only [List.mem_cons, List.not_mem_nil, or_false] at hq
    rcases hq with rfl | rfl | rfl | rfl | rfl | rfl | rfl | rfl | rfl | rfl
    · exact zs_10 d (by omega)
    · exact zs_15 d (by omega)
    · exact zs_41 d (by omega)
    · exact zs_52 d (by omega)
    · exact zs_56 d (by omega)
    · exact zs_73 d (by omega)
    · exact zs_89 d (by omega)
    · exact zs_96 d (by omega)
    · exact zs_119 d (by omega)
    · exact zs_131 d (by omega))
  rw [ze_139] at h
  exact h
set_option maxRecDepth 100000 in
def zc_171 : List zE := [(0, 1, .iload_n 0, .iload 0, 0, 0), (1, 3, .ifCond .lt 12, .ifCond .lt 7, 0, 0), (4, 1, .iload_n 0, .iload 0, 0, 0), (5, 1, .iload_n 1, .iload 1, 0, 0), (6, 3, .if_icmp .gt 7, .if_icmp .gt 7, 0, 0), (9, 1, .iconst 1, .iconst 1, 0, 0), (10, 3, .goto 4, .goto 8, 0, 0), (13, 1, .iconst 0, .iconst 0, 0, 0), (14, 1, .ireturn, .lreturn, 0, 0)]
set_option maxRecDepth 100000 in
def zi_171 : List Instr := [.iload 0, .ifCond .lt 7, .iload 0, .iload 1, .if_icmp .gt 7, .iconst 1, .goto 8, .iconst 0, .lreturn]
set_option maxRecDepth 100000 in
theorem ze_171 : zc_171.map (fun e => e.2.2.2.1) = zi_171 := rfl
set_option maxRecDepth 100000 in
theorem zk_171 : zckm (zmd 171) false zc_171 zmd [] = true := by decide +kernel
noncomputable def zf_171 : zF := zden zX0 zi_171 (zlk []) 2
/-- HillErrands.within -/
theorem zs_171 : ∀ d, 1 ≤ d → zSnd d (zmd 171) zf_171 := by
  intro d hd
  obtain ⟨d, rfl⟩ : ∃ k, d = k + 1 := ⟨d - 1, by omega⟩
  have h := zsound (d := d) (l := []) zo_171 (fun h => by cases h) zk_171 (fun q hq => by cases hq)
  rw [ze_171] at h
  exact h
set_option maxRecDepth 100000 in
def zc_140 : List zE := [(0, 1, .iload_n 1, .iload 1, 0, 0), (1, 3, .sipush 200, .iconst 200, 0, 0), (4, 3, .invokestatic 89, .invokestatic 1710012, 2160, 89), (7, 3, .ifCond .ne 5, .ifCond .ne 6, 0, 0), (10, 1, .iconst (-1), .iconst (-1), 0, 0), (11, 1, .ireturn, .ireturn, 0, 0), (12, 1, .aload_n 0, .aload 0, 0, 0), (13, 3, .getfield 36, .getstatic 1102, 2124, 36), (16, 1, .iload_n 1, .iload 1, 0, 0), (17, 3, .invokevirtual 93, .invokevirtual 1000811, 2163, 93), (20, 1, .ireturn, .ireturn, 0, 0)]
set_option maxRecDepth 100000 in
def zi_140 : List Instr := [.iload 1, .iconst 200, .invokestatic 1710012, .ifCond .ne 6, .iconst (-1), .ireturn, .aload 0, .getstatic 1102, .iload 1, .invokevirtual 1000811, .ireturn]
set_option maxRecDepth 100000 in
theorem ze_140 : zc_140.map (fun e => e.2.2.2.1) = zi_140 := rfl
set_option maxRecDepth 100000 in
theorem zk_140 : zckm (zmd 140) false zc_140 zmd [100, 171] = true := by decide +kernel
noncomputable def zf_140 : zF := zden zX0 zi_140 (zlk [(100, zf_100), (171, zf_171)]) 2
/-- HillErrands.place -/
theorem zs_140 : ∀ d, 2 ≤ d → zSnd d (zmd 140) zf_140 := by
  intro d hd
  obtain ⟨d, rfl⟩ : ∃ k, d = k + 1 := ⟨d - 1, by omega⟩
  have h := zsound (d := d) (l := [(100, zf_100), (171, zf_171)]) zo_140 (fun h => by cases h) zk_140 (fun q hq => by
    simp only [List.mem_cons, List.not_mem_nil, or_false] at hq
    rcases hq with rfl | rfl
    · exact zs_100 d (by omega)
    · exact zs_171 d (by omega))
  rw [ze_140] at h
  exact h
set_option maxRecDepth 100000 in
def zc_141 : List zE := [(0, 1, .aload_n 0, .aload 0, 0, 0), (1, 3, .getfield 36, .getstatic 1102, 2124, 36), (4, 1, .iload_n 1, .iload 1, 0, 0), (5, 3, .invokevirtual 97, .invokevirtual 970811, 2171, 97), (8, 3, .ifCond .eq 27, .ifCond .eq 17, 0, 0), (11, 1, .aload_n 0, .aload 0, 0, 0), (12, 3, .getfield 36, .getstatic 1102, 2124, 36), (15, 1, .iload_n 2, .iload 2, 0, 0), (16, 3, .invokevirtual 97, .invokevirtual 970811, 2171, 97), (19, 3, .ifCond .eq 16, .ifCond .eq 17, 0, 0), (22, 1, .iload_n 1, .iload 1, 0, 0), (23, 1, .iload_n 2, .iload 2, 0, 0), (24, 3, .if_icmp .eq 11, .if_icmp .eq 17, 0, 0), (27, 1, .iload_n 3, .iload 3, 0, 0), (28, 1, .iconst 2, .iconst 2, 0, 0), (29, 3, .invokestatic 89, .invokestatic 1710012, 2160, 89), (32, 3, .ifCond .ne 5, .ifCond .ne 19, 0, 0), (35, 1, .iconst (-1), .iconst (-1), 0, 0), (36, 1, .ireturn, .ireturn, 0, 0), (37, 1, .iload_n 3, .iload 3, 0, 0), (38, 1, .iconst 1, .iconst 1, 0, 0), (39, 3, .if_icmp .ne 17, .if_icmp .ne 30, 0, 0), (42, 1, .aload_n 0, .aload 0, 0, 0), (43, 3, .getfield 36, .getstatic 1102, 2124, 36), (46, 1, .iload_n 1, .iload 1, 0, 0), (47, 1, .iload_n 2, .iload 2, 0, 0), (48, 3, .invokevirtual 101, .invokevirtual 990812, 2175, 101), (51, 3, .ifCond .ne 5, .ifCond .ne 30, 0, 0), (54, 1, .iconst (-1), .iconst (-1), 0, 0), (55, 1, .ireturn, .ireturn, 0, 0), (56, 1, .aload_n 0, .aload 0, 0, 0), (57, 3, .getfield 36, .getstatic 1102, 2124, 36), (60, 1, .iload_n 1, .iload 1, 0, 0), (61, 1, .iload_n 2, .iload 2, 0, 0), (62, 1, .iload_n 3, .iload 3, 0, 0), (63, 3, .invokevirtual 104, .invokevirtual 1010813, 2179, 104), (66, 1, .ireturn, .ireturn, 0, 0)]
set_option maxRecDepth 100000 in
def zi_141 : List Instr := [.aload 0, .getstatic 1102, .iload 1, .invokevirtual 970811, .ifCond .eq 17, .aload 0, .getstatic 1102, .iload 2, .invokevirtual 970811, .ifCond .eq 17, .iload 1, .iload 2, .if_icmp .eq 17, .iload 3, .iconst 2, .invokestatic 1710012, .ifCond .ne 19, .iconst (-1), .ireturn, .iload 3, .iconst 1, .if_icmp .ne 30, .aload 0, .getstatic 1102, .iload 1, .iload 2, .invokevirtual 990812, .ifCond .ne 30, .iconst (-1), .ireturn, .aload 0, .getstatic 1102, .iload 1, .iload 2, .iload 3, .invokevirtual 1010813, .ireturn]
set_option maxRecDepth 100000 in
theorem ze_141 : zc_141.map (fun e => e.2.2.2.1) = zi_141 := rfl
set_option maxRecDepth 100000 in
theorem zk_141 : zckm (zmd 141) false zc_141 zmd [97, 99, 101, 171] = true := by decide +kernel
noncomputable def zf_141 : zF := zden zX0 zi_141 (zlk [(97, zf_97), (99, zf_99), (101, zf_101), (171, zf_171)]) 4
/-- HillErrands.stair -/
theorem zs_141 : ∀ d, 2 ≤ d → zSnd d (zmd 141) zf_141 := by
  intro d hd
  obtain ⟨d, rfl⟩ : ∃ k, d = k + 1 := ⟨d - 1, by omega⟩
  have h := zsound (d := d) (l := [(97, zf_97), (99, zf_99), (101, zf_101), (171, zf_171)]) zo_141 (fun h => by cases h) zk_141 (fun q hq => by
    simp only [List.mem_cons, List.not_mem_nil, or_false] at hq
    rcases hq with rfl | rfl | rfl | rfl
    · exact zs_97 d (by omega)
    · exact zs_99 d (by omega)
    · exact zs_101 d (by omega)
    · exact zs_171 d (by omega))
  rw [ze_141] at h
  exact h
set_option maxRecDepth 100000 in
def zc_142 : List zE := [(0, 1, .iload_n 1, .iload 1, 0, 0), (1, 1, .iconst 3, .iconst 3, 0, 0), (2, 3, .invokestatic 89, .invokestatic 1710012, 2160, 89), (5, 3, .ifCond .ne 5, .ifCond .ne 6, 0, 0), (8, 1, .iconst 0, .iconst 0, 0, 0), (9, 1, .ireturn, .lreturn, 0, 0), (10, 1, .aload_n 0, .aload 0, 0, 0), (11, 3, .getfield 36, .getstatic 1102, 2124, 36), (14, 1, .iload_n 1, .iload 1, 0, 0), (15, 3, .invokevirtual 108, .invokevirtual 1050801, 2187, 108), (18, 1, .iconst 1, .iconst 1, 0, 0), (19, 1, .ireturn, .lreturn, 0, 0)]
set_option maxRecDepth 100000 in
def zi_142 : List Instr := [.iload 1, .iconst 3, .invokestatic 1710012, .ifCond .ne 6, .iconst 0, .lreturn, .aload 0, .getstatic 1102, .iload 1, .invokevirtual 1050801, .iconst 1, .lreturn]
set_option maxRecDepth 100000 in
theorem ze_142 : zc_142.map (fun e => e.2.2.2.1) = zi_142 := rfl
set_option maxRecDepth 100000 in
theorem zk_142 : zckm (zmd 142) false zc_142 zmd [105, 171] = true := by decide +kernel
noncomputable def zf_142 : zF := zden zX0 zi_142 (zlk [(105, zf_105), (171, zf_171)]) 2
/-- HillErrands.season -/
theorem zs_142 : ∀ d, 2 ≤ d → zSnd d (zmd 142) zf_142 := by
  intro d hd
  obtain ⟨d, rfl⟩ : ∃ k, d = k + 1 := ⟨d - 1, by omega⟩
  have h := zsound (d := d) (l := [(105, zf_105), (171, zf_171)]) zo_142 (fun h => by cases h) zk_142 (fun q hq => by
    simp only [List.mem_cons, List.not_mem_nil, or_false] at hq
    rcases hq with rfl | rfl
    · exact zs_105 d (by omega)
    · exact zs_171 d (by omega))
  rw [ze_142] at h
  exact h
set_option maxRecDepth 100000 in
def zc_143 : List zE := [(0, 1, .aload_n 0, .aload 0, 0, 0), (1, 3, .getfield 23, .getstatic 1100, 2122, 23), (4, 2, .bipush 20, .iconst 20, 0, 0), (6, 3, .invokevirtual 112, .invokevirtual 910711, 2195, 112), (9, 3, .ifCond .ne 5, .ifCond .ne 7, 0, 0), (12, 1, .iconst (-1), .iconst (-1), 0, 0), (13, 1, .ireturn, .ireturn, 0, 0), (14, 1, .aload_n 0, .aload 0, 0, 0), (15, 3, .getfield 23, .getstatic 1100, 2122, 23), (18, 1, .iload_n 1, .iload 1, 0, 0), (19, 3, .invokevirtual 115, .invokevirtual 920701, 2199, 115), (22, 1, .aload_n 0, .aload 0, 0, 0), (23, 3, .getfield 23, .getstatic 1100, 2122, 23), (26, 1, .iload_n 2, .iload 2, 0, 0), (27, 3, .invokevirtual 115, .invokevirtual 920701, 2199, 115), (30, 1, .aload_n 0, .aload 0, 0, 0), (31, 3, .getfield 23, .getstatic 1100, 2122, 23), (34, 1, .iload_n 3, .iload 3, 0, 0), (35, 3, .invokevirtual 115, .invokevirtual 920701, 2199, 115), (38, 1, .aload_n 0, .aload 0, 0, 0), (39, 3, .getfield 23, .getstatic 1100, 2122, 23), (42, 2, .iload 4, .iload 4, 0, 0), (44, 3, .invokevirtual 115, .invokevirtual 920701, 2199, 115), (47, 1, .aload_n 0, .aload 0, 0, 0), (48, 3, .getfield 23, .getstatic 1100, 2122, 23), (51, 2, .iload 5, .iload 5, 0, 0), (53, 3, .invokevirtual 115, .invokevirtual 920701, 2199, 115), (56, 1, .aload_n 0, .aload 0, 0, 0), (57, 3, .getfield 23, .getstatic 1100, 2122, 23), (60, 3, .invokevirtual 118, .invokevirtual 900710, 2204, 118), (63, 1, .ireturn, .ireturn, 0, 0)]
set_option maxRecDepth 100000 in
def zi_143 : List Instr := [.aload 0, .getstatic 1100, .iconst 20, .invokevirtual 910711, .ifCond .ne 7, .iconst (-1), .ireturn, .aload 0, .getstatic 1100, .iload 1, .invokevirtual 920701, .aload 0, .getstatic 1100, .iload 2, .invokevirtual 920701, .aload 0, .getstatic 1100, .iload 3, .invokevirtual 920701, .aload 0, .getstatic 1100, .iload 4, .invokevirtual 920701, .aload 0, .getstatic 1100, .iload 5, .invokevirtual 920701, .aload 0, .getstatic 1100, .invokevirtual 900710, .ireturn]
set_option maxRecDepth 100000 in
theorem ze_143 : zc_143.map (fun e => e.2.2.2.1) = zi_143 := rfl
set_option maxRecDepth 100000 in
theorem zk_143 : zckm (zmd 143) false zc_143 zmd [90, 91, 92] = true := by decide +kernel
noncomputable def zf_143 : zF := zden zX0 zi_143 (zlk [(90, zf_90), (91, zf_91), (92, zf_92)]) 6
/-- HillErrands.feed -/
theorem zs_143 : ∀ d, 3 ≤ d → zSnd d (zmd 143) zf_143 := by
  intro d hd
  obtain ⟨d, rfl⟩ : ∃ k, d = k + 1 := ⟨d - 1, by omega⟩
  have h := zsound (d := d) (l := [(90, zf_90), (91, zf_91), (92, zf_92)]) zo_143 (fun h => by cases h) zk_143 (fun q hq => by
    simp only [List.mem_cons, List.not_mem_nil, or_false] at hq
    rcases hq with rfl | rfl | rfl
    · exact zs_90 d (by omega)
    · exact zs_91 d (by omega)
    · exact zs_92 d (by omega))
  rw [ze_143] at h
  exact h
