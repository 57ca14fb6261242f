set_option maxRecDepth 100000 in
def zc_0 : List zE := [(0, 1, .iload_n 0, .iload 0, 0, 0), (1, 1, .iload_n 0, .iload 0, 0, 0), (2, 1, .iconst 1, .iconst 1, 0, 0), (3, 1, .iushr, .iushr, 0, 0), (4, 3, .ldc_w 265, .iconst 1431655765, 4061, 265), (7, 1, .iand, .iand, 0, 0), (8, 1, .isub, .isub, 0, 0), (9, 1, .istore_n 0, .istore 0, 0, 0), (10, 1, .iload_n 0, .iload 0, 0, 0), (11, 3, .ldc_w 266, .iconst 858993459, 4062, 266), (14, 1, .iand, .iand, 0, 0), (15, 1, .iload_n 0, .iload 0, 0, 0), (16, 1, .iconst 2, .iconst 2, 0, 0), (17, 1, .iushr, .iushr, 0, 0), (18, 3, .ldc_w 266, .iconst 858993459, 4062, 266), (21, 1, .iand, .iand, 0, 0), (22, 1, .iadd, .iadd, 0, 0), (23, 1, .istore_n 0, .istore 0, 0, 0), (24, 1, .iload_n 0, .iload 0, 0, 0), (25, 1, .iload_n 0, .iload 0, 0, 0), (26, 1, .iconst 4, .iconst 4, 0, 0), (27, 1, .iushr, .iushr, 0, 0), (28, 1, .iadd, .iadd, 0, 0), (29, 3, .ldc_w 267, .iconst 252645135, 4063, 267), (32, 1, .iand, .iand, 0, 0), (33, 1, .istore_n 0, .istore 0, 0, 0), (34, 1, .iload_n 0, .iload 0, 0, 0), (35, 1, .iload_n 0, .iload 0, 0, 0), (36, 2, .bipush 8, .iconst 8, 0, 0), (38, 1, .iushr, .iushr, 0, 0), (39, 1, .iadd, .iadd, 0, 0), (40, 1, .istore_n 0, .istore 0, 0, 0), (41, 1, .iload_n 0, .iload 0, 0, 0), (42, 1, .iload_n 0, .iload 0, 0, 0), (43, 2, .bipush 16, .iconst 16, 0, 0), (45, 1, .iushr, .iushr, 0, 0), (46, 1, .iadd, .iadd, 0, 0), (47, 1, .istore_n 0, .istore 0, 0, 0), (48, 1, .iload_n 0, .iload 0, 0, 0), (49, 2, .bipush 63, .iconst 63, 0, 0), (51, 1, .iand, .iand, 0, 0), (52, 1, .ireturn, .ireturn, 0, 0)]
set_option maxRecDepth 100000 in
def zi_0 : List Instr := [.iload 0, .iload 0, .iconst 1, .iushr, .iconst 1431655765, .iand, .isub, .istore 0, .iload 0, .iconst 858993459, .iand, .iload 0, .iconst 2, .iushr, .iconst 858993459, .iand, .iadd, .istore 0, .iload 0, .iload 0, .iconst 4, .iushr, .iadd, .iconst 252645135, .iand, .istore 0, .iload 0, .iload 0, .iconst 8, .iushr, .iadd, .istore 0, .iload 0, .iload 0, .iconst 16, .iushr, .iadd, .istore 0, .iload 0, .iconst 63, .iand, .ireturn]
set_option maxRecDepth 100000 in
theorem ze_0 : zc_0.map (fun e => e.2.2.2.1) = zi_0 := rfl
set_option maxRecDepth 100000 in
theorem zk_0 : zckm (zmd 0) false zc_0 zmd [] = true := by decide +kernel
noncomputable def zf_0 : zF := zden zX0 zi_0 (zlk []) 1
/-- java/lang/Integer.bitCount -/
theorem zs_0 : ∀ d, 1 ≤ d → zSnd d (zmd 0) zf_0 := by
  intro d hd
  obtain ⟨d, rfl⟩ : ∃ k, d = k + 1 := ⟨d - 1, by omega⟩
  have h := zsound (d := d) (l := []) zo_0 (fun h => by cases h) zk_0 (fun q hq => by cases hq)
  rw [ze_0] at h
  exact h
set_option maxRecDepth 100000 in
def zc_1 : List zE := [(0, 1, .iconst 0, .iconst 0, 0, 0), (1, 1, .istore_n 2, .istore 2, 0, 0), (2, 1, .aload_n 0, .aload 0, 0, 0), (3, 1, .arraylength, .arraylength, 0, 0), (4, 1, .istore_n 3, .istore 3, 0, 0), (5, 1, .iload_n 2, .iload 2, 0, 0), (6, 1, .iload_n 3, .iload 3, 0, 0), (7, 3, .if_icmp .ge 13, .if_icmp .ge 14, 0, 0), (10, 1, .aload_n 0, .aload 0, 0, 0), (11, 1, .iload_n 2, .iload 2, 0, 0), (12, 1, .iload_n 1, .iload 1, 0, 0), (13, 1, .iastore, .iastore, 0, 0), (14, 3, .iinc 2 1, .iinc 2 1, 0, 0), (17, 3, .goto (-12), .goto 5, 0, 0), (20, 1, .return_, .return_, 0, 0)]
set_option maxRecDepth 100000 in
def zi_1 : List Instr := [.iconst 0, .istore 2, .aload 0, .arraylength, .istore 3, .iload 2, .iload 3, .if_icmp .ge 14, .aload 0, .iload 2, .iload 1, .iastore, .iinc 2 1, .goto 5, .return_]
set_option maxRecDepth 100000 in
theorem ze_1 : zc_1.map (fun e => e.2.2.2.1) = zi_1 := rfl
set_option maxRecDepth 100000 in
theorem zk_1 : zckm (zmd 1) false zc_1 zmd [] = true := by decide +kernel
noncomputable def zf_1 : zF := zden zX0 zi_1 (zlk []) 4
/-- java/util/Arrays.fill -/
theorem zs_1 : ∀ d, 1 ≤ d → zSnd d (zmd 1) zf_1 := by
  intro d hd
  obtain ⟨d, rfl⟩ : ∃ k, d = k + 1 := ⟨d - 1, by omega⟩
  have h := zsound (d := d) (l := []) zo_1 (fun h => by cases h) zk_1 (fun q hq => by cases hq)
  rw [ze_1] at h
  exact h
set_option maxRecDepth 100000 in
def zc_4 : List zE := [(0, 3, .getstatic 38, .ldc 3, 3052, 38), (3, 3, .ifCond .eq 14, .ifCond .eq 7, 0, 0), (6, 1, .aload_n 0, .aload 0, 0, 0), (7, 3, .getfield 15, .ldc 2, 8082, 15), (10, 3, .ifCond .ne 7, .ifCond .ne 7, 0, 0), (13, 1, .iconst 1, .iconst 1, 0, 0), (14, 3, .goto 4, .goto 8, 0, 0), (17, 1, .iconst 0, .iconst 0, 0, 0), (18, 1, .ireturn, .lreturn, 0, 0)]
set_option maxRecDepth 100000 in
def zi_4 : List Instr := [.ldc 3, .ifCond .eq 7, .aload 0, .ldc 2, .ifCond .ne 7, .iconst 1, .goto 8, .iconst 0, .lreturn]
set_option maxRecDepth 100000 in
theorem ze_4 : zc_4.map (fun e => e.2.2.2.1) = zi_4 := rfl
set_option maxRecDepth 100000 in
theorem zk_4 : zckm (zmd 4) false zc_4 zmd [] = true := by decide +kernel
noncomputable def zf_4 : zF := zden zX0 zi_4 (zlk []) 1
/-- java/lang/String.isLatin1 -/
theorem zs_4 : ∀ d, 1 ≤ d → zSnd d (zmd 4) zf_4 := by
  intro d hd
  obtain ⟨d, rfl⟩ : ∃ k, d = k + 1 := ⟨d - 1, by omega⟩
  have h := zsound (d := d) (l := []) zo_4 (fun h => by cases h) zk_4 (fun q hq => by cases hq)
  rw [ze_4] at h
  exact h
set_option maxRecDepth 100000 in
def zc_6 : List zE := [(0, 3, .getstatic 38, .ldc 3, 3052, 38), (3, 3, .ifCond .eq 10, .ifCond .eq 5, 0, 0), (6, 1, .aload_n 0, .aload 0, 0, 0), (7, 3, .getfield 15, .ldc 2, 8082, 15), (10, 3, .goto 4, .goto 6, 0, 0), (13, 1, .iconst 1, .iconst 1, 0, 0), (14, 1, .ireturn, .lreturn, 0, 0)]
set_option maxRecDepth 100000 in
def zi_6 : List Instr := [.ldc 3, .ifCond .eq 5, .aload 0, .ldc 2, .goto 6, .iconst 1, .lreturn]
set_option maxRecDepth 100000 in
theorem ze_6 : zc_6.map (fun e => e.2.2.2.1) = zi_6 := rfl
set_option maxRecDepth 100000 in
theorem zk_6 : zckm (zmd 6) false zc_6 zmd [] = true := by decide +kernel
noncomputable def zf_6 : zF := zden zX0 zi_6 (zlk []) 1
/-- java/lang/String.coder -/
theorem zs_6 : ∀ d, 1 ≤ d → zSnd d (zmd 6) zf_6 := by
  intro d hd
  obtain ⟨d, rfl⟩ : ∃ k, d = k + 1 := ⟨d - 1, by omega⟩
  have h := zsound (d := d) (l := []) zo_6 (fun h => by cases h) zk_6 (fun q hq => by cases hq)
  rw [ze_6] at h
  exact h
set_option maxRecDepth 100000 in
def zc_5 : List zE := [(0, 1, .aload_n 0, .aload 0, 0, 0), (1, 3, .getfield 9, .ldc 1, 8083, 9), (4, 1, .arraylength, .arraylength, 0, 0), (5, 1, .aload_n 0, .aload 0, 0, 0), (6, 3, .invokevirtual 335, .invokevirtual 69910, 3058, 335), (9, 1, .ishr, .ishr, 0, 0), (10, 1, .ireturn, .ireturn, 0, 0)]
set_option maxRecDepth 100000 in
def zi_5 : List Instr := [.aload 0, .ldc 1, .arraylength, .aload 0, .invokevirtual 69910, .ishr, .ireturn]
set_option maxRecDepth 100000 in
theorem ze_5 : zc_5.map (fun e => e.2.2.2.1) = zi_5 := rfl
set_option maxRecDepth 100000 in
theorem zk_5 : zckm (zmd 5) false zc_5 zmd [6] = true := by decide +kernel
noncomputable def zf_5 : zF := zden zX0 zi_5 (zlk [(6, zf_6)]) 1
/-- java/lang/String.length -/
theorem zs_5 : ∀ d, 2 ≤ d → zSnd d (zmd 5) zf_5 := by
  intro d hd
  obtain ⟨d, rfl⟩ : ∃ k, d = k + 1 := ⟨d - 1, by omega⟩
  have h := zsound (d := d) (l := [(6, zf_6)]) zo_5 (fun h => by cases h) zk_5 (fun q hq => by
    simp only [List.mem_cons, List.not_mem_nil, or_false] at hq
    subst hq
    · exact zs_6 d (by omega))
  rw [ze_5] at h
  exact h
set_option maxRecDepth 100000 in
def zc_8 : List zE := [(0, 1, .iload_n 0, .iload 0, 0, 0), (1, 3, .ifCond .lt 14, .ifCond .lt 7, 0, 0), (4, 1, .iload_n 0, .iload 0, 0, 0), (5, 3, .sipush 255, .iconst 255, 0, 0), (8, 3, .if_icmp .gt 7, .if_icmp .gt 7, 0, 0), (11, 1, .iconst 1, .iconst 1, 0, 0), (12, 3, .goto 4, .goto 8, 0, 0), (15, 1, .iconst 0, .iconst 0, 0, 0), (16, 1, .ireturn, .lreturn, 0, 0)]
set_option maxRecDepth 100000 in
def zi_8 : List Instr := [.iload 0, .ifCond .lt 7, .iload 0, .iconst 255, .if_icmp .gt 7, .iconst 1, .goto 8, .iconst 0, .lreturn]
set_option maxRecDepth 100000 in
theorem ze_8 : zc_8.map (fun e => e.2.2.2.1) = zi_8 := rfl
set_option maxRecDepth 100000 in
theorem zk_8 : zckm (zmd 8) false zc_8 zmd [] = true := by decide +kernel
noncomputable def zf_8 : zF := zden zX0 zi_8 (zlk []) 1
/-- java/lang/StringLatin1.canEncode -/
theorem zs_8 : ∀ d, 1 ≤ d → zSnd d (zmd 8) zf_8 := by
  intro d hd
  obtain ⟨d, rfl⟩ : ∃ k, d = k + 1 := ⟨d - 1, by omega⟩
  have h := zsound (d := d) (l := []) zo_8 (fun h => by cases h) zk_8 (fun q hq => by cases hq)
  rw [ze_8] at h
  exact h
set_option maxRecDepth 100000 in
def zc_9 : List zE := [(0, 1, .iload_n 1, .iload 1, 0, 0), (1, 1, .i2b, .i2b, 0, 0), (2, 2, .istore 4, .istore 4, 0, 0), (4, 1, .iload_n 2, .iload 2, 0, 0), (5, 2, .istore 5, .istore 5, 0, 0), (7, 2, .iload 5, .iload 5, 0, 0), (9, 1, .iload_n 3, .iload 3, 0, 0), (10, 3, .if_icmp .ge 21, .if_icmp .ge 17, 0, 0), (13, 1, .aload_n 0, .aload 0, 0, 0), (14, 2, .iload 5, .iload 5, 0, 0), (16, 1, .baload, .baload, 0, 0), (17, 2, .iload 4, .iload 4, 0, 0), (19, 3, .if_icmp .ne 6, .if_icmp .ne 15, 0, 0), (22, 2, .iload 5, .iload 5, 0, 0), (24, 1, .ireturn, .ireturn, 0, 0), (25, 3, .iinc 5 1, .iinc 5 1, 0, 0), (28, 3, .goto (-21), .goto 5, 0, 0), (31, 1, .iconst (-1), .iconst (-1), 0, 0), (32, 1, .ireturn, .ireturn, 0, 0)]
set_option maxRecDepth 100000 in
def zi_9 : List Instr := [.iload 1, .i2b, .istore 4, .iload 2, .istore 5, .iload 5, .iload 3, .if_icmp .ge 17, .aload 0, .iload 5, .baload, .iload 4, .if_icmp .ne 15, .iload 5, .ireturn, .iinc 5 1, .goto 5, .iconst (-1), .ireturn]
set_option maxRecDepth 100000 in
theorem ze_9 : zc_9.map (fun e => e.2.2.2.1) = zi_9 := rfl
set_option maxRecDepth 100000 in
theorem zk_9 : zckm (zmd 9) false zc_9 zmd [] = true := by decide +kernel
noncomputable def zf_9 : zF := zden zX0 zi_9 (zlk []) 6
/-- java/lang/StringLatin1.indexOfChar -/
theorem zs_9 : ∀ d, 1 ≤ d → zSnd d (zmd 9) zf_9 := by
  intro d hd
  obtain ⟨d, rfl⟩ : ∃ k, d = k + 1 := ⟨d - 1, by omega⟩
  have h := zsound (d := d) (l := []) zo_9 (fun h => by cases h) zk_9 (fun q hq => by cases hq)
  rw [ze_9] at h
  exact h
set_option maxRecDepth 100000 in
def zc_7 : List zE := [(0, 1, .iload_n 1, .iload 1, 0, 0), (1, 3, .invokestatic 88, .invokestatic 80011, 3065, 88), (4, 3, .ifCond .ne 5, .ifCond .ne 5, 0, 0), (7, 1, .iconst (-1), .iconst (-1), 0, 0), (8, 1, .ireturn, .ireturn, 0, 0), (9, 1, .iload_n 2, .iload 2, 0, 0), (10, 1, .iconst 0, .iconst 0, 0, 0), (11, 3, .invokestatic 92, .fadd, 3068, 92), (14, 1, .istore_n 2, .istore 2, 0, 0), (15, 1, .iload_n 3, .iload 3, 0, 0), (16, 1, .aload_n 0, .aload 0, 0, 0), (17, 1, .arraylength, .arraylength, 0, 0), (18, 3, .invokestatic 38, .fsub, 3071, 38), (21, 1, .istore_n 3, .istore 3, 0, 0), (22, 1, .iload_n 2, .iload 2, 0, 0), (23, 1, .iload_n 3, .iload 3, 0, 0), (24, 3, .if_icmp .lt 5, .if_icmp .lt 19, 0, 0), (27, 1, .iconst (-1), .iconst (-1), 0, 0), (28, 1, .ireturn, .ireturn, 0, 0), (29, 1, .aload_n 0, .aload 0, 0, 0), (30, 1, .iload_n 1, .iload 1, 0, 0), (31, 1, .iload_n 2, .iload 2, 0, 0), (32, 1, .iload_n 3, .iload 3, 0, 0), (33, 3, .invokestatic 95, .invokestatic 90014, 3072, 95), (36, 1, .ireturn, .ireturn, 0, 0)]
set_option maxRecDepth 100000 in
def zi_7 : List Instr := [.iload 1, .invokestatic 80011, .ifCond .ne 5, .iconst (-1), .ireturn, .iload 2, .iconst 0, .fadd, .istore 2, .iload 3, .aload 0, .arraylength, .fsub, .istore 3, .iload 2, .iload 3, .if_icmp .lt 19, .iconst (-1), .ireturn, .aload 0, .iload 1, .iload 2, .iload 3, .invokestatic 90014, .ireturn]
set_option maxRecDepth 100000 in
theorem ze_7 : zc_7.map (fun e => e.2.2.2.1) = zi_7 := rfl
set_option maxRecDepth 100000 in
theorem zk_7 : zckm (zmd 7) false zc_7 zmd [8, 9] = true := by decide +kernel
noncomputable def zf_7 : zF := zden zX0 zi_7 (zlk [(8, zf_8), (9, zf_9)]) 4
/-- java/lang/StringLatin1.indexOf -/
theorem zs_7 : ∀ d, 2 ≤ d → zSnd d (zmd 7) zf_7 := by
  intro d hd
  obtain ⟨d, rfl⟩ : ∃ k, d = k + 1 := ⟨d - 1, by omega⟩
  have h := zsound (d := d) (l := [(8, zf_8), (9, zf_9)]) zo_7 (fun h => by cases h) zk_7 (fun q hq => by
    simp only [List.mem_cons, List.not_mem_nil, or_false] at hq
    rcases hq with rfl | rfl
    · exact zs_8 d (by omega)
    · exact zs_9 d (by omega))
  rw [ze_7] at h
  exact h
set_option maxRecDepth 100000 in
def zc_3 : List zE := [(0, 1, .aload_n 0, .aload 0, 0, 0), (1, 3, .invokevirtual 492, .invokevirtual 49910, 3048, 492), (4, 3, .ifCond .eq 19, .ifCond .eq 11, 0, 0), (7, 1, .aload_n 0, .aload 0, 0, 0), (8, 3, .getfield 9, .ldc 1, 8083, 9), (11, 1, .iload_n 1, .iload 1, 0, 0), (12, 1, .iload_n 2, .iload 2, 0, 0), (13, 1, .aload_n 0, .aload 0, 0, 0), (14, 3, .invokevirtual 505, .invokevirtual 59910, 3054, 505), (17, 3, .invokestatic 637, .invokestatic 70014, 3062, 637), (20, 3, .goto 16, .goto 18, 0, 0), (23, 1, .aload_n 0, .aload 0, 0, 0), (24, 3, .getfield 9, .ldc 1, 8083, 9), (27, 1, .iload_n 1, .iload 1, 0, 0), (28, 1, .iload_n 2, .iload 2, 0, 0), (29, 1, .aload_n 0, .aload 0, 0, 0), (30, 3, .invokevirtual 505, .invokevirtual 59910, 3054, 505), (33, 3, .invokestatic 640, .nop, 0, 0), (36, 1, .ireturn, .ireturn, 0, 0)]
set_option maxRecDepth 100000 in
def zi_3 : List Instr := [.aload 0, .invokevirtual 49910, .ifCond .eq 11, .aload 0, .ldc 1, .iload 1, .iload 2, .aload 0, .invokevirtual 59910, .invokestatic 70014, .goto 18, .aload 0, .ldc 1, .iload 1, .iload 2, .aload 0, .invokevirtual 59910, .nop, .ireturn]
set_option maxRecDepth 100000 in
theorem ze_3 : zc_3.map (fun e => e.2.2.2.1) = zi_3 := rfl
set_option maxRecDepth 100000 in
theorem zk_3 : zckm (zmd 3) false zc_3 zmd [4, 5, 7] = true := by decide +kernel
noncomputable def zf_3 : zF := zden zX0 zi_3 (zlk [(4, zf_4), (5, zf_5), (7, zf_7)]) 3
/-- java/lang/String.indexOf -/
theorem zs_3 : ∀ d, 3 ≤ d → zSnd d (zmd 3) zf_3 := by
  intro d hd
  obtain ⟨d, rfl⟩ : ∃ k, d = k + 1 := ⟨d - 1, by omega⟩
  have h := zsound (d := d) (l := [(4, zf_4), (5, zf_5), (7, zf_7)]) zo_3 (fun h => by cases h) zk_3 (fun q hq => by
    simp only [List.mem_cons, List.not_mem_nil, or_false] at hq
    rcases hq with rfl | rfl | rfl
    · exact zs_4 d (by omega)
    · exact zs_5 d (by omega)
    · exact zs_7 d (by omega))
  rw [ze_3] at h
  exact h
set_option maxRecDepth 100000 in
def zc_2 : List zE := [(0, 1, .aload_n 0, .aload 0, 0, 0), (1, 1, .iload_n 1, .iload 1, 0, 0), (2, 1, .iconst 0, .iconst 0, 0, 0), (3, 3, .invokevirtual 633, .invokevirtual 39912, 3044, 633), (6, 1, .ireturn, .ireturn, 0, 0)]
set_option maxRecDepth 100000 in
def zi_2 : List Instr := [.aload 0, .iload 1, .iconst 0, .invokevirtual 39912, .ireturn]
set_option maxRecDepth 100000 in
theorem ze_2 : zc_2.map (fun e => e.2.2.2.1) = zi_2 := rfl
set_option maxRecDepth 100000 in
theorem zk_2 : zckm (zmd 2) false zc_2 zmd [3] = true := by decide +kernel
noncomputable def zf_2 : zF := zden zX0 zi_2 (zlk [(3, zf_3)]) 2
/-- java/lang/String.indexOf -/
theorem zs_2 : ∀ d, 4 ≤ d → zSnd d (zmd 2) zf_2 := by
  intro d hd
  obtain ⟨d, rfl⟩ : ∃ k, d = k + 1 := ⟨d - 1, by omega⟩
  have h := zsound (d := d) (l := [(3, zf_3)]) zo_2 (fun h => by cases h) zk_2 (fun q hq => by
    simp only [List.mem_cons, List.not_mem_nil, or_false] at hq
    subst hq
    · exact zs_3 d (by omega))
  rw [ze_2] at h
  exact h
set_option maxRecDepth 100000 in
def zc_10 : List zE := [(0, 1, .aload_n 0, .aload 0, 0, 0), (1, 3, .invokespecial 3, .pop, 2103, 3), (4, 1, .aload_n 0, .aload 0, 0, 0), (5, 2, .bipush 20, .iconst 20, 0, 0), (7, 2, .newarray .int, .newarray .int, 1079, 0), (9, 3, .putfield 9, .putstatic 0, 2104, 9), (12, 1, .aload_n 0, .aload 0, 0, 0), (13, 2, .bipush 20, .iconst 20, 0, 0), (15, 2, .newarray .int, .newarray .int, 1079, 0), (17, 3, .putfield 15, .putstatic 1, 2105, 15), (20, 1, .aload_n 0, .aload 0, 0, 0), (21, 2, .bipush 30, .iconst 30, 0, 0), (23, 2, .newarray .int, .newarray .int, 1079, 0), (25, 3, .putfield 18, .putstatic 2, 2106, 18), (28, 1, .iconst 0, .iconst 0, 0, 0), (29, 1, .istore_n 1, .istore 1, 0, 0), (30, 1, .iload_n 1, .iload 1, 0, 0), (31, 2, .bipush 20, .iconst 20, 0, 0), (33, 3, .if_icmp .ge 16, .if_icmp .ge 26, 0, 0), (36, 1, .aload_n 0, .aload 0, 0, 0), (37, 3, .getfield 9, .getstatic 0, 2104, 9), (40, 1, .iload_n 1, .iload 1, 0, 0), (41, 1, .iload_n 1, .iload 1, 0, 0), (42, 1, .iastore, .iastore, 0, 0), (43, 3, .iinc 1 1, .iinc 1 1, 0, 0), (46, 3, .goto (-16), .goto 16, 0, 0), (49, 1, .return_, .return_, 0, 0)]
set_option maxRecDepth 100000 in
def zi_10 : List Instr := [.aload 0, .pop, .aload 0, .iconst 20, .newarray .int, .putstatic 0, .aload 0, .iconst 20, .newarray .int, .putstatic 1, .aload 0, .iconst 30, .newarray .int, .putstatic 2, .iconst 0, .istore 1, .iload 1, .iconst 20, .if_icmp .ge 26, .aload 0, .getstatic 0, .iload 1, .iload 1, .iastore, .iinc 1 1, .goto 16, .return_]
set_option maxRecDepth 100000 in
theorem ze_10 : zc_10.map (fun e => e.2.2.2.1) = zi_10 := rfl
set_option maxRecDepth 100000 in
theorem zk_10 : zckm (zmd 10) true zc_10 zmd [] = true := by decide +kernel
noncomputable def zf_10 : zF := zden zX0 zi_10 (zlk []) 2
/-- HillErrands$Fares.<init> -/
theorem zs_10 : ∀ d, 1 ≤ d → zSnd d (zmd 10) zf_10 := by
  intro d hd
  obtain ⟨d, rfl⟩ : ∃ k, d = k + 1 := ⟨d - 1, by omega⟩
  have h := zsound (d := d) (l := []) zo_10 (fun _ => rfl) zk_10 (fun q hq => by cases hq)
  rw [ze_10] at h
  exact h
set_option maxRecDepth 100000 in
def zc_12 : List zE := [(0, 1, .iconst 0, .iconst 0, 0, 0), (1, 2, .istore 4, .istore 4, 0, 0), (3, 2, .iload 4, .iload 4, 0, 0), (5, 2, .bipush 20, .iconst 20, 0, 0), (7, 3, .if_icmp .ge 39, .if_icmp .ge 26, 0, 0), (10, 1, .aload_n 0, .aload 0, 0, 0), (11, 3, .getfield 9, .getstatic 0, 2104, 9), (14, 2, .iload 4, .iload 4, 0, 0), (16, 1, .iaload, .iaload, 0, 0), (17, 1, .iload_n 2, .iload 2, 0, 0), (18, 3, .if_icmp .ne 22, .if_icmp .ne 24, 0, 0), (21, 1, .aload_n 0, .aload 0, 0, 0), (22, 3, .getfield 9, .getstatic 0, 2104, 9), (25, 2, .iload 4, .iload 4, 0, 0), (27, 1, .iload_n 1, .iload 1, 0, 0), (28, 1, .iastore, .iastore, 0, 0), (29, 1, .aload_n 0, .aload 0, 0, 0), (30, 3, .getfield 15, .getstatic 1, 2105, 15), (33, 2, .iload 4, .iload 4, 0, 0), (35, 1, .dup2, .dup2, 0, 0), (36, 1, .iaload, .iaload, 0, 0), (37, 1, .iload_n 3, .iload 3, 0, 0), (38, 1, .iadd, .iadd, 0, 0), (39, 1, .iastore, .iastore, 0, 0), (40, 3, .iinc 4 1, .iinc 4 1, 0, 0), (43, 3, .goto (-40), .goto 2, 0, 0), (46, 1, .return_, .return_, 0, 0)]
set_option maxRecDepth 100000 in
def zi_12 : List Instr := [.iconst 0, .istore 4, .iload 4, .iconst 20, .if_icmp .ge 26, .aload 0, .getstatic 0, .iload 4, .iaload, .iload 2, .if_icmp .ne 24, .aload 0, .getstatic 0, .iload 4, .iload 1, .iastore, .aload 0, .getstatic 1, .iload 4, .dup2, .iaload, .iload 3, .iadd, .iastore, .iinc 4 1, .goto 2, .return_]
set_option maxRecDepth 100000 in
theorem ze_12 : zc_12.map (fun e => e.2.2.2.1) = zi_12 := rfl
set_option maxRecDepth 100000 in
theorem zk_12 : zckm (zmd 12) false zc_12 zmd [] = true := by decide +kernel
noncomputable def zf_12 : zF := zden zX0 zi_12 (zlk []) 5
/-- HillErrands$Fares.join -/
theorem zs_12 : ∀ d, 1 ≤ d → zSnd d (zmd 12) zf_12 := by
  intro d hd
  obtain ⟨d, rfl⟩ : ∃ k, d = k + 1 := ⟨d - 1, by omega⟩
  have h := zsound (d := d) (l := []) zo_12 (fun h => by cases h) zk_12 (fun q hq => by cases hq)
  rw [ze_12] at h
  exact h
set_option maxRecDepth 100000 in
def zc_11 : List zE := [(0, 1, .aload_n 0, .aload 0, 0, 0), (1, 3, .getfield 21, .getfield 3, 2107, 21), (4, 2, .bipush 30, .iconst 30, 0, 0), (6, 3, .if_icmp .lt 5, .if_icmp .lt 6, 0, 0), (9, 1, .iconst (-1), .iconst (-1), 0, 0), (10, 1, .ireturn, .ireturn, 0, 0), (11, 1, .aload_n 0, .aload 0, 0, 0), (12, 3, .getfield 9, .getstatic 0, 2104, 9), (15, 1, .iload_n 1, .iload 1, 0, 0), (16, 1, .iaload, .iaload, 0, 0), (17, 1, .aload_n 0, .aload 0, 0, 0), (18, 3, .getfield 9, .getstatic 0, 2104, 9), (21, 1, .iload_n 2, .iload 2, 0, 0), (22, 1, .iaload, .iaload, 0, 0), (23, 3, .if_icmp .eq 37, .if_icmp .eq 37, 0, 0), (26, 1, .aload_n 0, .aload 0, 0, 0), (27, 1, .aload_n 0, .aload 0, 0, 0), (28, 3, .getfield 9, .getstatic 0, 2104, 9), (31, 1, .iload_n 1, .iload 1, 0, 0), (32, 1, .iaload, .iaload, 0, 0), (33, 1, .aload_n 0, .aload 0, 0, 0), (34, 3, .getfield 9, .getstatic 0, 2104, 9), (37, 1, .iload_n 2, .iload 2, 0, 0), (38, 1, .iaload, .iaload, 0, 0), (39, 1, .aload_n 0, .aload 0, 0, 0), (40, 3, .getfield 15, .getstatic 1, 2105, 15), (43, 1, .iload_n 1, .iload 1, 0, 0), (44, 1, .iaload, .iaload, 0, 0), (45, 1, .iload_n 3, .iload 3, 0, 0), (46, 1, .iadd, .iadd, 0, 0), (47, 1, .aload_n 0, .aload 0, 0, 0), (48, 3, .getfield 15, .getstatic 1, 2105, 15), (51, 1, .iload_n 2, .iload 2, 0, 0), (52, 1, .iaload, .iaload, 0, 0), (53, 1, .isub, .isub, 0, 0), (54, 3, .invokevirtual 25, .invokevirtual 120003, 5122, 25), (57, 3, .goto 43, .goto 61, 0, 0), (60, 1, .aload_n 0, .aload 0, 0, 0), (61, 3, .getfield 15, .getstatic 1, 2105, 15), (64, 1, .iload_n 2, .iload 2, 0, 0), (65, 1, .iaload, .iaload, 0, 0), (66, 1, .aload_n 0, .aload 0, 0, 0), (67, 3, .getfield 15, .getstatic 1, 2105, 15), (70, 1, .iload_n 1, .iload 1, 0, 0), (71, 1, .iaload, .iaload, 0, 0), (72, 1, .isub, .isub, 0, 0), (73, 1, .iload_n 3, .iload 3, 0, 0), (74, 3, .if_icmp .eq 26, .if_icmp .eq 61, 0, 0), (77, 1, .aload_n 0, .aload 0, 0, 0), (78, 3, .getfield 18, .getstatic 2, 2106, 18), (81, 1, .aload_n 0, .aload 0, 0, 0), (82, 3, .getfield 29, .getfield 4, 2109, 29), (85, 1, .aload_n 0, .aload 0, 0, 0), (86, 3, .getfield 21, .getfield 3, 2107, 21), (89, 1, .iastore, .iastore, 0, 0), (90, 1, .aload_n 0, .aload 0, 0, 0), (91, 1, .dup, .dup, 0, 0), (92, 3, .getfield 29, .getfield 4, 2109, 29), (95, 1, .iconst 1, .iconst 1, 0, 0), (96, 1, .iadd, .iadd, 0, 0), (97, 3, .putfield 29, .putfield 4, 2109, 29), (100, 1, .aload_n 0, .aload 0, 0, 0), (101, 1, .dup, .dup, 0, 0), (102, 3, .getfield 21, .getfield 3, 2107, 21), (105, 1, .iconst 1, .iconst 1, 0, 0), (106, 1, .iadd, .iadd, 0, 0), (107, 3, .putfield 21, .putfield 3, 2107, 21), (110, 1, .aload_n 0, .aload 0, 0, 0), (111, 3, .getfield 21, .getfield 3, 2107, 21), (114, 1, .ireturn, .ireturn, 0, 0)]
set_option maxRecDepth 100000 in
def zi_11 : List Instr := [.aload 0, .getfield 3, .iconst 30, .if_icmp .lt 6, .iconst (-1), .ireturn, .aload 0, .getstatic 0, .iload 1, .iaload, .aload 0, .getstatic 0, .iload 2, .iaload, .if_icmp .eq 37, .aload 0, .aload 0, .getstatic 0, .iload 1, .iaload, .aload 0, .getstatic 0, .iload 2, .iaload, .aload 0, .getstatic 1, .iload 1, .iaload, .iload 3, .iadd, .aload 0, .getstatic 1, .iload 2, .iaload, .isub, .invokevirtual 120003, .goto 61, .aload 0, .getstatic 1, .iload 2, .iaload, .aload 0, .getstatic 1, .iload 1, .iaload, .isub, .iload 3, .if_icmp .eq 61, .aload 0, .getstatic 2, .aload 0, .getfield 4, .aload 0, .getfield 3, .iastore, .aload 0, .dup, .getfield 4, .iconst 1, .iadd, .putfield 4, .aload 0, .dup, .getfield 3, .iconst 1, .iadd, .putfield 3, .aload 0, .getfield 3, .ireturn]
set_option maxRecDepth 100000 in
theorem ze_11 : zc_11.map (fun e => e.2.2.2.1) = zi_11 := rfl
set_option maxRecDepth 100000 in
theorem zk_11 : zckm (zmd 11) false zc_11 zmd [12] = true := by decide +kernel
noncomputable def zf_11 : zF := zden zX0 zi_11 (zlk [(12, zf_12)]) 4
/-- HillErrands$Fares.add -/
theorem zs_11 : ∀ d, 2 ≤ d → zSnd d (zmd 11) zf_11 := by
  intro d hd
  obtain ⟨d, rfl⟩ : ∃ k, d = k + 1 := ⟨d - 1, by omega⟩
  have h := zsound (d := d) (l := [(12, zf_12)]) zo_11 (fun h => by cases h) zk_11 (fun q hq => by
    simp only [List.mem_cons, List.not_mem_nil, or_false] at hq
    subst hq
    · exact zs_12 d (by omega))
  rw [ze_11] at h
  exact h
set_option maxRecDepth 100000 in
def zc_13 : List zE := [(0, 1, .aload_n 0, .aload 0, 0, 0), (1, 3, .getfield 9, .getstatic 0, 2104, 9), (4, 1, .iload_n 1, .iload 1, 0, 0), (5, 1, .iaload, .iaload, 0, 0), (6, 1, .aload_n 0, .aload 0, 0, 0), (7, 3, .getfield 9, .getstatic 0, 2104, 9), (10, 1, .iload_n 2, .iload 2, 0, 0), (11, 1, .iaload, .iaload, 0, 0), (12, 3, .if_icmp .ne 19, .if_icmp .ne 19, 0, 0), (15, 1, .aload_n 0, .aload 0, 0, 0), (16, 3, .getfield 15, .getstatic 1, 2105, 15), (19, 1, .iload_n 2, .iload 2, 0, 0), (20, 1, .iaload, .iaload, 0, 0), (21, 1, .aload_n 0, .aload 0, 0, 0), (22, 3, .getfield 15, .getstatic 1, 2105, 15), (25, 1, .iload_n 1, .iload 1, 0, 0), (26, 1, .iaload, .iaload, 0, 0), (27, 1, .isub, .isub, 0, 0), (28, 3, .goto 6, .goto 20, 0, 0), (31, 3, .sipush (-1000), .iconst (-1000), 0, 0), (34, 1, .ireturn, .ireturn, 0, 0)]
set_option maxRecDepth 100000 in
def zi_13 : List Instr := [.aload 0, .getstatic 0, .iload 1, .iaload, .aload 0, .getstatic 0, .iload 2, .iaload, .if_icmp .ne 19, .aload 0, .getstatic 1, .iload 2, .iaload, .aload 0, .getstatic 1, .iload 1, .iaload, .isub, .goto 20, .iconst (-1000), .ireturn]
set_option maxRecDepth 100000 in
theorem ze_13 : zc_13.map (fun e => e.2.2.2.1) = zi_13 := rfl
set_option maxRecDepth 100000 in
theorem zk_13 : zckm (zmd 13) false zc_13 zmd [] = true := by decide +kernel
noncomputable def zf_13 : zF := zden zX0 zi_13 (zlk []) 3
/-- HillErrands$Fares.apart -/
theorem zs_13 : ∀ d, 1 ≤ d → zSnd d (zmd 13) zf_13 := by
  intro d hd
  obtain ⟨d, rfl⟩ : ∃ k, d = k + 1 := ⟨d - 1, by omega⟩
  have h := zsound (d := d) (l := []) zo_13 (fun h => by cases h) zk_13 (fun q hq => by cases hq)
  rw [ze_13] at h
  exact h
set_option maxRecDepth 100000 in
def zc_14 : List zE := [(0, 1, .iload_n 1, .iload 1, 0, 0), (1, 3, .ifCond .lt 20, .ifCond .lt 11, 0, 0), (4, 1, .iload_n 1, .iload 1, 0, 0), (5, 1, .aload_n 0, .aload 0, 0, 0), (6, 3, .getfield 29, .getfield 4, 2109, 29), (9, 3, .if_icmp .ge 12, .if_icmp .ge 11, 0, 0), (12, 1, .aload_n 0, .aload 0, 0, 0), (13, 3, .getfield 18, .getstatic 2, 2106, 18), (16, 1, .iload_n 1, .iload 1, 0, 0), (17, 1, .iaload, .iaload, 0, 0), (18, 3, .goto 4, .goto 12, 0, 0), (21, 1, .iconst (-1), .iconst (-1), 0, 0), (22, 1, .ireturn, .ireturn, 0, 0)]
set_option maxRecDepth 100000 in
def zi_14 : List Instr := [.iload 1, .ifCond .lt 11, .iload 1, .aload 0, .getfield 4, .if_icmp .ge 11, .aload 0, .getstatic 2, .iload 1, .iaload, .goto 12, .iconst (-1), .ireturn]
set_option maxRecDepth 100000 in
theorem ze_14 : zc_14.map (fun e => e.2.2.2.1) = zi_14 := rfl
set_option maxRecDepth 100000 in
theorem zk_14 : zckm (zmd 14) false zc_14 zmd [] = true := by decide +kernel
noncomputable def zf_14 : zF := zden zX0 zi_14 (zlk []) 2
/-- HillErrands$Fares.untrueAt -/
theorem zs_14 : ∀ d, 1 ≤ d → zSnd d (zmd 14) zf_14 := by
  intro d hd
  obtain ⟨d, rfl⟩ : ∃ k, d = k + 1 := ⟨d - 1, by omega⟩
  have h := zsound (d := d) (l := []) zo_14 (fun h => by cases h) zk_14 (fun q hq => by cases hq)
  rw [ze_14] at h
  exact h
set_option maxRecDepth 100000 in
def zc_15 : List zE := [(0, 1, .aload_n 0, .aload 0, 0, 0), (1, 3, .invokespecial 3, .pop, 1157, 3), (4, 1, .aload_n 0, .aload 0, 0, 0), (5, 2, .bipush 8, .iconst 8, 0, 0), (7, 2, .newarray .int, .newarray .int, 1079, 0), (9, 3, .putfield 9, .putstatic 101, 1159, 9), (12, 1, .aload_n 0, .aload 0, 0, 0), (13, 2, .bipush 8, .iconst 8, 0, 0), (15, 2, .newarray .int, .newarray .int, 1079, 0), (17, 3, .putfield 15, .putstatic 102, 1160, 15), (20, 1, .aload_n 0, .aload 0, 0, 0), (21, 2, .bipush 8, .iconst 8, 0, 0), (23, 2, .newarray .int, .newarray .int, 1079, 0), (25, 3, .putfield 18, .putstatic 103, 1161, 18), (28, 1, .aload_n 0, .aload 0, 0, 0), (29, 2, .bipush 8, .iconst 8, 0, 0), (31, 2, .newarray .int, .newarray .int, 1079, 0), (33, 3, .putfield 21, .putstatic 104, 1162, 21), (36, 1, .aload_n 0, .aload 0, 0, 0), (37, 2, .bipush 8, .iconst 8, 0, 0), (39, 2, .newarray .int, .newarray .int, 1079, 0), (41, 3, .putfield 24, .putstatic 105, 1163, 24), (44, 1, .aload_n 0, .aload 0, 0, 0), (45, 2, .bipush 8, .iconst 8, 0, 0), (47, 2, .newarray .int, .newarray .int, 1079, 0), (49, 3, .putfield 27, .putstatic 106, 1164, 27), (52, 1, .aload_n 0, .aload 0, 0, 0), (53, 2, .bipush 64, .iconst 64, 0, 0), (55, 2, .newarray .int, .newarray .int, 1079, 0), (57, 3, .putfield 30, .putstatic 107, 1165, 30), (60, 1, .aload_n 0, .aload 0, 0, 0), (61, 3, .sipush 2304, .iconst 2304, 0, 0), (64, 2, .newarray .int, .newarray .int, 1079, 0), (66, 3, .putfield 33, .putstatic 108, 1166, 33), (69, 1, .aload_n 0, .aload 0, 0, 0), (70, 2, .bipush 8, .iconst 8, 0, 0), (72, 2, .newarray .int, .newarray .int, 1079, 0), (74, 3, .putfield 36, .putstatic 109, 1167, 36), (77, 1, .aload_n 0, .aload 0, 0, 0), (78, 1, .aload_n 1, .aload 1, 0, 0), (79, 3, .putfield 39, .putstatic 100, 1158, 39), (82, 1, .return_, .return_, 0, 0)]
set_option maxRecDepth 100000 in
def zi_15 : List Instr := [.aload 0, .pop, .aload 0, .iconst 8, .newarray .int, .putstatic 101, .aload 0, .iconst 8, .newarray .int, .putstatic 102, .aload 0, .iconst 8, .newarray .int, .putstatic 103, .aload 0, .iconst 8, .newarray .int, .putstatic 104, .aload 0, .iconst 8, .newarray .int, .putstatic 105, .aload 0, .iconst 8, .newarray .int, .putstatic 106, .aload 0, .iconst 64, .newarray .int, .putstatic 107, .aload 0, .iconst 2304, .newarray .int, .putstatic 108, .aload 0, .iconst 8, .newarray .int, .putstatic 109, .aload 0, .aload 1, .putstatic 100, .return_]
set_option maxRecDepth 100000 in
theorem ze_15 : zc_15.map (fun e => e.2.2.2.1) = zi_15 := rfl
set_option maxRecDepth 100000 in
theorem zk_15 : zckm (zmd 15) true zc_15 zmd [] = true := by decide +kernel
noncomputable def zf_15 : zF := zden zX0 zi_15 (zlk []) 2
/-- HillErrands$Folk.<init> -/
theorem zs_15 : ∀ d, 1 ≤ d → zSnd d (zmd 15) zf_15 := by
  intro d hd
  obtain ⟨d, rfl⟩ : ∃ k, d = k + 1 := ⟨d - 1, by omega⟩
  have h := zsound (d := d) (l := []) zo_15 (fun _ => rfl) zk_15 (fun q hq => by cases hq)
  rw [ze_15] at h
  exact h
set_option maxRecDepth 100000 in
def zc_16 : List zE := [(0, 1, .aload_n 0, .aload 0, 0, 0), (1, 3, .getfield 43, .getfield 110, 1168, 43), (4, 2, .bipush 8, .iconst 8, 0, 0), (6, 3, .if_icmp .lt 5, .if_icmp .lt 6, 0, 0), (9, 1, .iconst (-1), .iconst (-1), 0, 0), (10, 1, .ireturn, .ireturn, 0, 0), (11, 1, .aload_n 0, .aload 0, 0, 0), (12, 3, .getfield 9, .getstatic 101, 1159, 9), (15, 1, .aload_n 0, .aload 0, 0, 0), (16, 3, .getfield 43, .getfield 110, 1168, 43), (19, 1, .iload_n 1, .iload 1, 0, 0), (20, 1, .iastore, .iastore, 0, 0), (21, 1, .aload_n 0, .aload 0, 0, 0), (22, 3, .getfield 15, .getstatic 102, 1160, 15), (25, 1, .aload_n 0, .aload 0, 0, 0), (26, 3, .getfield 43, .getfield 110, 1168, 43), (29, 1, .iload_n 2, .iload 2, 0, 0), (30, 1, .iastore, .iastore, 0, 0), (31, 1, .aload_n 0, .aload 0, 0, 0), (32, 3, .getfield 18, .getstatic 103, 1161, 18), (35, 1, .aload_n 0, .aload 0, 0, 0), (36, 3, .getfield 43, .getfield 110, 1168, 43), (39, 1, .iload_n 3, .iload 3, 0, 0), (40, 1, .iastore, .iastore, 0, 0), (41, 1, .aload_n 0, .aload 0, 0, 0), (42, 1, .dup, .dup, 0, 0), (43, 3, .getfield 43, .getfield 110, 1168, 43), (46, 1, .iconst 1, .iconst 1, 0, 0), (47, 1, .iadd, .iadd, 0, 0), (48, 3, .putfield 43, .putfield 110, 1168, 43), (51, 1, .aload_n 0, .aload 0, 0, 0), (52, 3, .getfield 43, .getfield 110, 1168, 43), (55, 1, .iconst 1, .iconst 1, 0, 0), (56, 1, .isub, .isub, 0, 0), (57, 1, .ireturn, .ireturn, 0, 0)]
set_option maxRecDepth 100000 in
def zi_16 : List Instr := [.aload 0, .getfield 110, .iconst 8, .if_icmp .lt 6, .iconst (-1), .ireturn, .aload 0, .getstatic 101, .aload 0, .getfield 110, .iload 1, .iastore, .aload 0, .getstatic 102, .aload 0, .getfield 110, .iload 2, .iastore, .aload 0, .getstatic 103, .aload 0, .getfield 110, .iload 3, .iastore, .aload 0, .dup, .getfield 110, .iconst 1, .iadd, .putfield 110, .aload 0, .getfield 110, .iconst 1, .isub, .ireturn]
set_option maxRecDepth 100000 in
theorem ze_16 : zc_16.map (fun e => e.2.2.2.1) = zi_16 := rfl
set_option maxRecDepth 100000 in
theorem zk_16 : zckm (zmd 16) false zc_16 zmd [] = true := by decide +kernel
noncomputable def zf_16 : zF := zden zX0 zi_16 (zlk []) 4
/-- HillErrands$Folk.addPerson -/
theorem zs_16 : ∀ d, 1 ≤ d → zSnd d (zmd 16) zf_16 := by
  intro d hd
  obtain ⟨d, rfl⟩ : ∃ k, d = k + 1 := ⟨d - 1, by omega⟩
  have h := zsound (d := d) (l := []) zo_16 (fun h => by cases h) zk_16 (fun q hq => by cases hq)
  rw [ze_16] at h
  exact h
set_option maxRecDepth 100000 in
def zc_17 : List zE := [(0, 1, .aload_n 0, .aload 0, 0, 0), (1, 3, .getfield 9, .getstatic 101, 1159, 9), (4, 1, .iload_n 1, .iload 1, 0, 0), (5, 1, .iaload, .iaload, 0, 0), (6, 1, .ireturn, .ireturn, 0, 0)]
set_option maxRecDepth 100000 in
def zi_17 : List Instr := [.aload 0, .getstatic 101, .iload 1, .iaload, .ireturn]
set_option maxRecDepth 100000 in
theorem ze_17 : zc_17.map (fun e => e.2.2.2.1) = zi_17 := rfl
set_option maxRecDepth 100000 in
theorem zk_17 : zckm (zmd 17) false zc_17 zmd [] = true := by decide +kernel
noncomputable def zf_17 : zF := zden zX0 zi_17 (zlk []) 2
/-- HillErrands$Folk.beginOf -/
theorem zs_17 : ∀ d, 1 ≤ d → zSnd d (zmd 17) zf_17 := by
  intro d hd
  obtain ⟨d, rfl⟩ : ∃ k, d = k + 1 := ⟨d - 1, by omega⟩
  have h := zsound (d := d) (l := []) zo_17 (fun h => by cases h) zk_17 (fun q hq => by cases hq)
  rw [ze_17] at h
  exact h
set_option maxRecDepth 100000 in
def zc_18 : List zE := [(0, 1, .aload_n 0, .aload 0, 0, 0), (1, 3, .getfield 15, .getstatic 102, 1160, 15), (4, 1, .iload_n 1, .iload 1, 0, 0), (5, 1, .iaload, .iaload, 0, 0), (6, 1, .ireturn, .ireturn, 0, 0)]
set_option maxRecDepth 100000 in
def zi_18 : List Instr := [.aload 0, .getstatic 102, .iload 1, .iaload, .ireturn]
set_option maxRecDepth 100000 in
theorem ze_18 : zc_18.map (fun e => e.2.2.2.1) = zi_18 := rfl
set_option maxRecDepth 100000 in
theorem zk_18 : zckm (zmd 18) false zc_18 zmd [] = true := by decide +kernel
noncomputable def zf_18 : zF := zden zX0 zi_18 (zlk []) 2
/-- HillErrands$Folk.goalOf -/
theorem zs_18 : ∀ d, 1 ≤ d → zSnd d (zmd 18) zf_18 := by
  intro d hd
  obtain ⟨d, rfl⟩ : ∃ k, d = k + 1 := ⟨d - 1, by omega⟩
  have h := zsound (d := d) (l := []) zo_18 (fun h => by cases h) zk_18 (fun q hq => by cases hq)
  rw [ze_18] at h
  exact h
set_option maxRecDepth 100000 in
def zc_19 : List zE := [(0, 1, .aload_n 0, .aload 0, 0, 0), (1, 3, .getfield 18, .getstatic 103, 1161, 18), (4, 1, .iload_n 1, .iload 1, 0, 0), (5, 1, .iaload, .iaload, 0, 0), (6, 1, .ireturn, .ireturn, 0, 0)]
set_option maxRecDepth 100000 in
def zi_19 : List Instr := [.aload 0, .getstatic 103, .iload 1, .iaload, .ireturn]
set_option maxRecDepth 100000 in
theorem ze_19 : zc_19.map (fun e => e.2.2.2.1) = zi_19 := rfl
set_option maxRecDepth 100000 in
theorem zk_19 : zckm (zmd 19) false zc_19 zmd [] = true := by decide +kernel
noncomputable def zf_19 : zF := zden zX0 zi_19 (zlk []) 2
/-- HillErrands$Folk.carriedBy -/
theorem zs_19 : ∀ d, 1 ≤ d → zSnd d (zmd 19) zf_19 := by
  intro d hd
  obtain ⟨d, rfl⟩ : ∃ k, d = k + 1 := ⟨d - 1, by omega⟩
  have h := zsound (d := d) (l := []) zo_19 (fun h => by cases h) zk_19 (fun q hq => by cases hq)
  rw [ze_19] at h
  exact h
set_option maxRecDepth 100000 in
def zc_20 : List zE := [(0, 1, .aload_n 0, .aload 0, 0, 0), (1, 3, .getfield 21, .getstatic 104, 1162, 21), (4, 1, .iload_n 1, .iload 1, 0, 0), (5, 1, .iload_n 2, .iload 2, 0, 0), (6, 1, .iastore, .iastore, 0, 0), (7, 1, .aload_n 0, .aload 0, 0, 0), (8, 3, .getfield 24, .getstatic 105, 1163, 24), (11, 1, .iload_n 1, .iload 1, 0, 0), (12, 1, .iload_n 3, .iload 3, 0, 0), (13, 1, .iastore, .iastore, 0, 0), (14, 1, .aload_n 0, .aload 0, 0, 0), (15, 3, .getfield 27, .getstatic 106, 1164, 27), (18, 1, .iload_n 1, .iload 1, 0, 0), (19, 2, .iload 4, .iload 4, 0, 0), (21, 1, .iastore, .iastore, 0, 0), (22, 1, .aload_n 0, .aload 0, 0, 0), (23, 1, .dup, .dup, 0, 0), (24, 3, .getfield 47, .getfield 111, 1173, 47), (27, 1, .iconst 1, .iconst 1, 0, 0), (28, 1, .iload_n 1, .iload 1, 0, 0), (29, 1, .ishl, .ishl, 0, 0), (30, 1, .ior, .ior, 0, 0), (31, 3, .putfield 47, .putfield 111, 1173, 47), (34, 1, .return_, .return_, 0, 0)]
set_option maxRecDepth 100000 in
def zi_20 : List Instr := [.aload 0, .getstatic 104, .iload 1, .iload 2, .iastore, .aload 0, .getstatic 105, .iload 1, .iload 3, .iastore, .aload 0, .getstatic 106, .iload 1, .iload 4, .iastore, .aload 0, .dup, .getfield 111, .iconst 1, .iload 1, .ishl, .ior, .putfield 111, .return_]
set_option maxRecDepth 100000 in
theorem ze_20 : zc_20.map (fun e => e.2.2.2.1) = zi_20 := rfl
set_option maxRecDepth 100000 in
theorem zk_20 : zckm (zmd 20) false zc_20 zmd [] = true := by decide +kernel
noncomputable def zf_20 : zF := zden zX0 zi_20 (zlk []) 5
/-- HillErrands$Folk.tellThing -/
theorem zs_20 : ∀ d, 1 ≤ d → zSnd d (zmd 20) zf_20 := by
  intro d hd
  obtain ⟨d, rfl⟩ : ∃ k, d = k + 1 := ⟨d - 1, by omega⟩
  have h := zsound (d := d) (l := []) zo_20 (fun h => by cases h) zk_20 (fun q hq => by cases hq)
  rw [ze_20] at h
  exact h
set_option maxRecDepth 100000 in
def zc_111 : List zE := [(0, 1, .aload_n 0, .aload 0, 0, 0), (1, 3, .getfield 33, .getstatic 806, 1086, 33), (4, 3, .getfield 59, .getfield 208, 1053, 59), (7, 1, .ireturn, .lreturn, 0, 0)]
set_option maxRecDepth 100000 in
def zi_111 : List Instr := [.aload 0, .getstatic 806, .getfield 208, .lreturn]
set_option maxRecDepth 100000 in
theorem ze_111 : zc_111.map (fun e => e.2.2.2.1) = zi_111 := rfl
set_option maxRecDepth 100000 in
theorem zk_111 : zckm (zmd 111) false zc_111 zmd [] = true := by decide +kernel
noncomputable def zf_111 : zF := zden zX0 zi_111 (zlk []) 1
/-- HillErrands$Town.loadMatters -/
theorem zs_111 : ∀ d, 1 ≤ d → zSnd d (zmd 111) zf_111 := by
  intro d hd
  obtain ⟨d, rfl⟩ : ∃ k, d = k + 1 := ⟨d - 1, by omega⟩
  have h := zsound (d := d) (l := []) zo_111 (fun h => by cases h) zk_111 (fun q hq => by cases hq)
  rw [ze_111] at h
  exact h
set_option maxRecDepth 100000 in
def zc_126 : List zE := [(0, 1, .aload_n 0, .aload 0, 0, 0), (1, 3, .getfield 23, .getstatic 900, 1136, 23), (4, 3, .invokevirtual 62, .invokevirtual 1110810, 3218, 62), (7, 3, .ifCond .eq 17, .ifCond .eq 11, 0, 0), (10, 1, .iload_n 1, .iload 1, 0, 0), (11, 3, .ifCond .lt 13, .ifCond .lt 11, 0, 0), (14, 1, .iload_n 1, .iload 1, 0, 0), (15, 2, .bipush 99, .iconst 99, 0, 0), (17, 3, .if_icmp .gt 7, .if_icmp .gt 11, 0, 0), (20, 1, .iload_n 1, .iload 1, 0, 0), (21, 3, .goto 4, .goto 12, 0, 0), (24, 1, .iconst 0, .iconst 0, 0, 0), (25, 1, .ireturn, .ireturn, 0, 0)]
set_option maxRecDepth 100000 in
def zi_126 : List Instr := [.aload 0, .getstatic 900, .invokevirtual 1110810, .ifCond .eq 11, .iload 1, .ifCond .lt 11, .iload 1, .iconst 99, .if_icmp .gt 11, .iload 1, .goto 12, .iconst 0, .ireturn]
set_option maxRecDepth 100000 in
theorem ze_126 : zc_126.map (fun e => e.2.2.2.1) = zi_126 := rfl
set_option maxRecDepth 100000 in
theorem zk_126 : zckm (zmd 126) false zc_126 zmd [111] = true := by decide +kernel
noncomputable def zf_126 : zF := zden zX0 zi_126 (zlk [(111, zf_111)]) 2
/-- HillErrands$Ways.slotOf -/
theorem zs_126 : ∀ d, 2 ≤ d → zSnd d (zmd 126) zf_126 := by
  intro d hd
  obtain ⟨d, rfl⟩ : ∃ k, d = k + 1 := ⟨d - 1, by omega⟩
  have h := zsound (d := d) (l := [(111, zf_111)]) zo_126 (fun h => by cases h) zk_126 (fun q hq => by
    simp only [List.mem_cons, List.not_mem_nil, or_false] at hq
    subst hq
    · exact zs_111 d (by omega))
  rw [ze_126] at h
  exact h
set_option maxRecDepth 100000 in
def zc_102 : List zE := [(0, 1, .aload_n 0, .aload 0, 0, 0), (1, 3, .getfield 18, .getstatic 802, 1082, 18), (4, 1, .iload_n 1, .iload 1, 0, 0), (5, 1, .iaload, .iaload, 0, 0), (6, 1, .ireturn, .ireturn, 0, 0)]
set_option maxRecDepth 100000 in
def zi_102 : List Instr := [.aload 0, .getstatic 802, .iload 1, .iaload, .ireturn]
set_option maxRecDepth 100000 in
theorem ze_102 : zc_102.map (fun e => e.2.2.2.1) = zi_102 := rfl
set_option maxRecDepth 100000 in
theorem zk_102 : zckm (zmd 102) false zc_102 zmd [] = true := by decide +kernel
noncomputable def zf_102 : zF := zden zX0 zi_102 (zlk []) 2
/-- HillErrands$Town.firstOf -/
theorem zs_102 : ∀ d, 1 ≤ d → zSnd d (zmd 102) zf_102 := by
  intro d hd
  obtain ⟨d, rfl⟩ : ∃ k, d = k + 1 := ⟨d - 1, by omega⟩
  have h := zsound (d := d) (l := []) zo_102 (fun h => by cases h) zk_102 (fun q hq => by cases hq)
  rw [ze_102] at h
  exact h
set_option maxRecDepth 100000 in
def zc_103 : List zE := [(0, 1, .aload_n 0, .aload 0, 0, 0), (1, 3, .getfield 21, .getstatic 803, 1083, 21), (4, 1, .iload_n 1, .iload 1, 0, 0), (5, 1, .iaload, .iaload, 0, 0), (6, 1, .ireturn, .ireturn, 0, 0)]
set_option maxRecDepth 100000 in
def zi_103 : List Instr := [.aload 0, .getstatic 803, .iload 1, .iaload, .ireturn]
set_option maxRecDepth 100000 in
theorem ze_103 : zc_103.map (fun e => e.2.2.2.1) = zi_103 := rfl
set_option maxRecDepth 100000 in
theorem zk_103 : zckm (zmd 103) false zc_103 zmd [] = true := by decide +kernel
noncomputable def zf_103 : zF := zden zX0 zi_103 (zlk []) 2
/-- HillErrands$Town.secondOf -/
theorem zs_103 : ∀ d, 1 ≤ d → zSnd d (zmd 103) zf_103 := by
  intro d hd
  obtain ⟨d, rfl⟩ : ∃ k, d = k + 1 := ⟨d - 1, by omega⟩
  have h := zsound (d := d) (l := []) zo_103 (fun h => by cases h) zk_103 (fun q hq => by cases hq)
  rw [ze_103] at h
  exact h
set_option maxRecDepth 100000 in
def zc_40 : List zE := [(0, 1, .iload_n 1, .iload 1, 0, 0), (1, 2, .bipush 47, .iconst 47, 0, 0), (3, 3, .if_icmp .eq 9, .if_icmp .eq 6, 0, 0), (6, 1, .iload_n 1, .iload 1, 0, 0), (7, 2, .bipush 37, .iconst 37, 0, 0), (9, 3, .if_icmp .ne 14, .if_icmp .ne 13, 0, 0), (12, 1, .iload_n 3, .iload 3, 0, 0), (13, 3, .ifCond .ne 10, .ifCond .ne 13, 0, 0), (16, 1, .aload_n 0, .aload 0, 0, 0), (17, 1, .iconst 1, .iconst 1, 0, 0), (18, 3, .putfield 69, .checkcast 210, 1055, 69), (21, 1, .iconst 0, .iconst 0, 0, 0), (22, 1, .ireturn, .ireturn, 0, 0), (23, 1, .iload_n 1, .iload 1, 0, 0), (24, 68, .lookupswitch 126 #[(37, 92), (42, 76), (43, 68), (45, 72), (47, 80), (60, 104), (62, 115)], .lookupswitch 57 #[(37, 35), (42, 23), (43, 15), (45, 19), (47, 27), (60, 43), (62, 50)], 0, 0), (92, 1, .iload_n 2, .iload 2, 0, 0), (93, 1, .iload_n 3, .iload 3, 0, 0), (94, 1, .iadd, .iadd, 0, 0), (95, 1, .ireturn, .ireturn, 0, 0), (96, 1, .iload_n 2, .iload 2, 0, 0), (97, 1, .iload_n 3, .iload 3, 0, 0), (98, 1, .isub, .isub, 0, 0), (99, 1, .ireturn, .ireturn, 0, 0), (100, 1, .iload_n 2, .iload 2, 0, 0), (101, 1, .iload_n 3, .iload 3, 0, 0), (102, 1, .imul, .imul, 0, 0), (103, 1, .ireturn, .ireturn, 0, 0), (104, 1, .iload_n 3, .iload 3, 0, 0), (105, 3, .ifCond .ne 7, .ifCond .ne 31, 0, 0), (108, 1, .iconst 0, .iconst 0, 0, 0), (109, 3, .goto 6, .goto 34, 0, 0), (112, 1, .iload_n 2, .iload 2, 0, 0), (113, 1, .iload_n 3, .iload 3, 0, 0), (114, 1, .idiv, .idiv, 0, 0), (115, 1, .ireturn, .ireturn, 0, 0), (116, 1, .iload_n 3, .iload 3, 0, 0), (117, 3, .ifCond .ne 7, .ifCond .ne 39, 0, 0), (120, 1, .iconst 0, .iconst 0, 0, 0), (121, 3, .goto 6, .goto 42, 0, 0), (124, 1, .iload_n 2, .iload 2, 0, 0), (125, 1, .iload_n 3, .iload 3, 0, 0), (126, 1, .irem, .irem, 0, 0), (127, 1, .ireturn, .ireturn, 0, 0), (128, 1, .iload_n 2, .iload 2, 0, 0), (129, 1, .iload_n 3, .iload 3, 0, 0), (130, 3, .if_icmp .ge 7, .if_icmp .ge 48, 0, 0), (133, 1, .iconst 1, .iconst 1, 0, 0), (134, 3, .goto 4, .goto 49, 0, 0), (137, 1, .iconst 0, .iconst 0, 0, 0), (138, 1, .ireturn, .ireturn, 0, 0), (139, 1, .iload_n 2, .iload 2, 0, 0), (140, 1, .iload_n 3, .iload 3, 0, 0), (141, 3, .if_icmp .le 7, .if_icmp .le 55, 0, 0), (144, 1, .iconst 1, .iconst 1, 0, 0), (145, 3, .goto 4, .goto 56, 0, 0), (148, 1, .iconst 0, .iconst 0, 0, 0), (149, 1, .ireturn, .ireturn, 0, 0), (150, 1, .iload_n 2, .iload 2, 0, 0), (151, 1, .iload_n 3, .iload 3, 0, 0), (152, 3, .if_icmp .ne 7, .if_icmp .ne 62, 0, 0), (155, 1, .iconst 1, .iconst 1, 0, 0), (156, 3, .goto 4, .goto 63, 0, 0), (159, 1, .iconst 0, .iconst 0, 0, 0), (160, 1, .ireturn, .ireturn, 0, 0)]
set_option maxRecDepth 100000 in
def zi_40 : List Instr := [.iload 1, .iconst 47, .if_icmp .eq 6, .iload 1, .iconst 37, .if_icmp .ne 13, .iload 3, .ifCond .ne 13, .aload 0, .iconst 1, .checkcast 210, .iconst 0, .ireturn, .iload 1, .lookupswitch 57 #[(37, 35), (42, 23), (43, 15), (45, 19), (47, 27), (60, 43), (62, 50)], .iload 2, .iload 3, .iadd, .ireturn, .iload 2, .iload 3, .isub, .ireturn, .iload 2, .iload 3, .imul, .ireturn, .iload 3, .ifCond .ne 31, .iconst 0, .goto 34, .iload 2, .iload 3, .idiv, .ireturn, .iload 3, .ifCond .ne 39, .iconst 0, .goto 42, .iload 2, .iload 3, .irem, .ireturn, .iload 2, .iload 3, .if_icmp .ge 48, .iconst 1, .goto 49, .iconst 0, .ireturn, .iload 2, .iload 3, .if_icmp .le 55, .iconst 1, .goto 56, .iconst 0, .ireturn, .iload 2, .iload 3, .if_icmp .ne 62, .iconst 1, .goto 63, .iconst 0, .ireturn]
set_option maxRecDepth 100000 in
theorem ze_40 : zc_40.map (fun e => e.2.2.2.1) = zi_40 := rfl
set_option maxRecDepth 100000 in
theorem zk_40 : zckm (zmd 40) false zc_40 zmd [] = true := by decide +kernel
noncomputable def zf_40 : zF := zden zX0 zi_40 (zlk []) 4
/-- HillErrands$Law.joined -/
theorem zs_40 : ∀ d, 1 ≤ d → zSnd d (zmd 40) zf_40 := by
  intro d hd
  obtain ⟨d, rfl⟩ : ∃ k, d = k + 1 := ⟨d - 1, by omega⟩
  have h := zsound (d := d) (l := []) zo_40 (fun h => by cases h) zk_40 (fun q hq => by cases hq)
  rw [ze_40] at h
  exact h
set_option maxRecDepth 100000 in
def zc_39 : List zE := [(0, 1, .aload_n 0, .aload 0, 0, 0), (1, 1, .iconst 0, .iconst 0, 0, 0), (2, 3, .putfield 69, .checkcast 210, 1055, 69), (5, 1, .iconst 0, .iconst 0, 0, 0), (6, 2, .istore 4, .istore 4, 0, 0), (8, 1, .iload_n 1, .iload 1, 0, 0), (9, 2, .istore 5, .istore 5, 0, 0), (11, 1, .iload_n 1, .iload 1, 0, 0), (12, 2, .istore 6, .istore 6, 0, 0), (14, 2, .iload 6, .iload 6, 0, 0), (16, 1, .iload_n 2, .iload 2, 0, 0), (17, 3, .if_icmp .ge 256, .if_icmp .ge 142, 0, 0), (20, 2, .iload 6, .iload 6, 0, 0), (22, 2, .iload 5, .iload 5, 0, 0), (24, 3, .if_icmp .ge 6, .if_icmp .ge 16, 0, 0), (27, 3, .goto 240, .goto 140, 0, 0), (30, 1, .aload_n 0, .aload 0, 0, 0), (31, 3, .getfield 9, .getstatic 200, 1042, 9), (34, 2, .iload 6, .iload 6, 0, 0), (36, 1, .iaload, .iaload, 0, 0), (37, 2, .istore 7, .istore 7, 0, 0), (39, 2, .iload 7, .iload 7, 0, 0), (41, 2, .bipush 48, .iconst 48, 0, 0), (43, 3, .if_icmp .eq 10, .if_icmp .eq 27, 0, 0), (46, 2, .iload 7, .iload 7, 0, 0), (48, 2, .bipush 97, .iconst 97, 0, 0), (50, 3, .if_icmp .ne 54, .if_icmp .ne 54, 0, 0), (53, 2, .iload 4, .iload 4, 0, 0), (55, 1, .aload_n 0, .aload 0, 0, 0), (56, 3, .getfield 30, .getstatic 209, 1054, 30), (59, 1, .arraylength, .arraylength, 0, 0), (60, 3, .if_icmp .lt 5, .if_icmp .lt 34, 0, 0), (63, 1, .iconst 0, .iconst 0, 0, 0), (64, 1, .ireturn, .ireturn, 0, 0), (65, 1, .aload_n 0, .aload 0, 0, 0), (66, 3, .getfield 30, .getstatic 209, 1054, 30), (69, 2, .iload 4, .iload 4, 0, 0), (71, 2, .iload 7, .iload 7, 0, 0), (73, 2, .bipush 48, .iconst 48, 0, 0), (75, 3, .if_icmp .ne 13, .if_icmp .ne 45, 0, 0), (78, 1, .aload_n 0, .aload 0, 0, 0), (79, 3, .getfield 15, .getstatic 201, 1043, 15), (82, 2, .iload 6, .iload 6, 0, 0), (84, 1, .iaload, .iaload, 0, 0), (85, 3, .goto 12, .goto 51, 0, 0), (88, 1, .aload_n 3, .aload 3, 0, 0), (89, 1, .aload_n 0, .aload 0, 0, 0), (90, 3, .getfield 15, .getstatic 201, 1043, 15), (93, 2, .iload 6, .iload 6, 0, 0), (95, 1, .iaload, .iaload, 0, 0), (96, 1, .iaload, .iaload, 0, 0), (97, 1, .iastore, .iastore, 0, 0), (98, 3, .iinc 4 1, .iinc 4 1, 0, 0), (101, 3, .goto 166, .goto 140, 0, 0), (104, 2, .iload 7, .iload 7, 0, 0), (106, 2, .bipush 38, .iconst 38, 0, 0), (108, 3, .if_icmp .eq 17, .if_icmp .eq 63, 0, 0), (111, 2, .iload 7, .iload 7, 0, 0), (113, 2, .bipush 124, .iconst 124, 0, 0), (115, 3, .if_icmp .eq 10, .if_icmp .eq 63, 0, 0), (118, 2, .iload 7, .iload 7, 0, 0), (120, 2, .bipush 33, .iconst 33, 0, 0), (122, 3, .if_icmp .ne 94, .if_icmp .ne 110, 0, 0), (125, 2, .iload 4, .iload 4, 0, 0), (127, 1, .iconst 1, .iconst 1, 0, 0), (128, 3, .if_icmp .ge 5, .if_icmp .ge 68, 0, 0), (131, 1, .iconst 0, .iconst 0, 0, 0), (132, 1, .ireturn, .ireturn, 0, 0), (133, 1, .aload_n 0, .aload 0, 0, 0), (134, 3, .getfield 30, .getstatic 209, 1054, 30), (137, 2, .iload 4, .iload 4, 0, 0), (139, 1, .iconst 1, .iconst 1, 0, 0), (140, 1, .isub, .isub, 0, 0), (141, 1, .iaload, .iaload, 0, 0), (142, 3, .ifCond .eq 7, .ifCond .eq 77, 0, 0), (145, 1, .iconst 1, .iconst 1, 0, 0), (146, 3, .goto 4, .goto 78, 0, 0), (149, 1, .iconst 0, .iconst 0, 0, 0), (150, 2, .istore 8, .istore 8, 0, 0), (152, 2, .iload 7, .iload 7, 0, 0), (154, 2, .bipush 33, .iconst 33, 0, 0), (156, 3, .if_icmp .ne 25, .if_icmp .ne 94, 0, 0), (159, 1, .aload_n 0, .aload 0, 0, 0), (160, 3, .getfield 30, .getstatic 209, 1054, 30), (163, 2, .iload 4, .iload 4, 0, 0), (165, 1, .iconst 1, .iconst 1, 0, 0), (166, 1, .isub, .isub, 0, 0), (167, 2, .iload 8, .iload 8, 0, 0), (169, 3, .ifCond .eq 7, .ifCond .eq 91, 0, 0), (172, 1, .iconst 0, .iconst 0, 0, 0), (173, 3, .goto 4, .goto 92, 0, 0), (176, 1, .iconst 1, .iconst 1, 0, 0), (177, 1, .iastore, .iastore, 0, 0), (178, 3, .goto 35, .goto 109, 0, 0), (181, 2, .iload 8, .iload 8, 0, 0), (183, 2, .iload 7, .iload 7, 0, 0), (185, 2, .bipush 124, .iconst 124, 0, 0), (187, 3, .if_icmp .ne 7, .if_icmp .ne 100, 0, 0), (190, 1, .iconst 1, .iconst 1, 0, 0), (191, 3, .goto 4, .goto 101, 0, 0), (194, 1, .iconst 0, .iconst 0, 0, 0), (195, 3, .if_icmp .ne 15, .if_icmp .ne 108, 0, 0), (198, 1, .aload_n 0, .aload 0, 0, 0), (199, 3, .getfield 15, .getstatic 201, 1043, 15), (202, 2, .iload 6, .iload 6, 0, 0), (204, 1, .iaload, .iaload, 0, 0), (205, 2, .istore 5, .istore 5, 0, 0), (207, 3, .goto 6, .goto 109, 0, 0), (210, 3, .iinc 4 (-1), .iinc 4 (-1), 0, 0), (213, 3, .goto 54, .goto 140, 0, 0), (216, 2, .iload 4, .iload 4, 0, 0), (218, 1, .iconst 2, .iconst 2, 0, 0), (219, 3, .if_icmp .ge 5, .if_icmp .ge 115, 0, 0), (222, 1, .iconst 0, .iconst 0, 0, 0), (223, 1, .ireturn, .ireturn, 0, 0), (224, 3, .iinc 4 (-1), .iinc 4 (-1), 0, 0), (227, 1, .aload_n 0, .aload 0, 0, 0), (228, 3, .getfield 30, .getstatic 209, 1054, 30), (231, 2, .iload 4, .iload 4, 0, 0), (233, 1, .iconst 1, .iconst 1, 0, 0), (234, 1, .isub, .isub, 0, 0), (235, 1, .aload_n 0, .aload 0, 0, 0), (236, 2, .iload 7, .iload 7, 0, 0), (238, 1, .aload_n 0, .aload 0, 0, 0), (239, 3, .getfield 30, .getstatic 209, 1054, 30), (242, 2, .iload 4, .iload 4, 0, 0), (244, 1, .iconst 1, .iconst 1, 0, 0), (245, 1, .isub, .isub, 0, 0), (246, 1, .iaload, .iaload, 0, 0), (247, 1, .aload_n 0, .aload 0, 0, 0), (248, 3, .getfield 30, .getstatic 209, 1054, 30), (251, 2, .iload 4, .iload 4, 0, 0), (253, 1, .iaload, .iaload, 0, 0), (254, 3, .invokevirtual 72, .invokevirtual 400213, 3200, 72), (257, 1, .iastore, .iastore, 0, 0), (258, 1, .aload_n 0, .aload 0, 0, 0), (259, 3, .getfield 69, .getfield 210, 1055, 69), (262, 3, .ifCond .eq 5, .ifCond .eq 140, 0, 0), (265, 1, .iconst 0, .iconst 0, 0, 0), (266, 1, .ireturn, .ireturn, 0, 0), (267, 3, .iinc 6 1, .iinc 6 1, 0, 0), (270, 3, .goto (-256), .goto 9, 0, 0), (273, 2, .iload 4, .iload 4, 0, 0), (275, 1, .iconst 1, .iconst 1, 0, 0), (276, 3, .if_icmp .ne 12, .if_icmp .ne 150, 0, 0), (279, 1, .aload_n 0, .aload 0, 0, 0), (280, 3, .getfield 30, .getstatic 209, 1054, 30), (283, 1, .iconst 0, .iconst 0, 0, 0), (284, 1, .iaload, .iaload, 0, 0), (285, 3, .goto 4, .goto 151, 0, 0), (288, 1, .iconst 0, .iconst 0, 0, 0), (289, 1, .ireturn, .ireturn, 0, 0)]
set_option maxRecDepth 100000 in
def zi_39 : List Instr := [.aload 0, .iconst 0, .checkcast 210, .iconst 0, .istore 4, .iload 1, .istore 5, .iload 1, .istore 6, .iload 6, .iload 2, .if_icmp .ge 142, .iload 6, .iload 5, .if_icmp .ge 16, .goto 140, .aload 0, .getstatic 200, .iload 6, .iaload, .istore 7, .iload 7, .iconst 48, .if_icmp .eq 27, .iload 7, .iconst 97, .if_icmp .ne 54, .iload 4, .aload 0, .getstatic 209, .arraylength, .if_icmp .lt 34, .iconst 0, .ireturn, .aload 0, .getstatic 209, .iload 4, .iload 7, .iconst 48, .if_icmp .ne 45, .aload 0, .getstatic 201, .iload 6, .iaload, .goto 51, .aload 3, .aload 0, .getstatic 201, .iload 6, .iaload, .iaload, .iastore, .iinc 4 1, .goto 140, .iload 7, .iconst 38, .if_icmp .eq 63, .iload 7, .iconst 124, .if_icmp .eq 63, .iload 7, .iconst 33, .if_icmp .ne 110, .iload 4, .iconst 1, .if_icmp .ge 68, .iconst 0, .ireturn, .aload 0, .getstatic 209, .iload 4, .iconst 1, .isub, .iaload, .ifCond .eq 77, .iconst 1, .goto 78, .iconst 0, .istore 8, .iload 7, .iconst 33, .if_icmp .ne 94, .aload 0, .getstatic 209, .iload 4, .iconst 1, .isub, .iload 8, .ifCond .eq 91, .iconst 0, .goto 92, .iconst 1, .iastore, .goto 109, .iload 8, .iload 7, .iconst 124, .if_icmp .ne 100, .iconst 1, .goto 101, .iconst 0, .if_icmp .ne 108, .aload 0, .getstatic 201, .iload 6, .iaload, .istore 5, .goto 109, .iinc 4 (-1), .goto 140, .iload 4, .iconst 2, .if_icmp .ge 115, .iconst 0, .ireturn, .iinc 4 (-1), .aload 0, .getstatic 209, .iload 4, .iconst 1, .isub, .aload 0, .iload 7, .aload 0, .getstatic 209, .iload 4, .iconst 1, .isub, .iaload, .aload 0, .getstatic 209, .iload 4, .iaload, .invokevirtual 400213, .iastore, .aload 0, .getfield 210, .ifCond .eq 140, .iconst 0, .ireturn, .iinc 6 1, .goto 9, .iload 4, .iconst 1, .if_icmp .ne 150, .aload 0, .getstatic 209, .iconst 0, .iaload, .goto 151, .iconst 0, .ireturn]
set_option maxRecDepth 100000 in
theorem ze_39 : zc_39.map (fun e => e.2.2.2.1) = zi_39 := rfl
set_option maxRecDepth 100000 in
theorem zk_39 : zckm (zmd 39) false zc_39 zmd [40] = true := by decide +kernel
noncomputable def zf_39 : zF := zden zX0 zi_39 (zlk [(40, zf_40)]) 9
/-- HillErrands$Law.reckon -/
theorem zs_39 : ∀ d, 2 ≤ d → zSnd d (zmd 39) zf_39 := by
  intro d hd
  obtain ⟨d, rfl⟩ : ∃ k, d = k + 1 := ⟨d - 1, by omega⟩
  have h := zsound (d := d) (l := [(40, zf_40)]) zo_39 (fun h => by cases h) zk_39 (fun q hq => by
    simp only [List.mem_cons, List.not_mem_nil, or_false] at hq
    subst hq
    · exact zs_40 d (by omega))
  rw [ze_39] at h
  exact h
set_option maxRecDepth 100000 in
def zc_38 : List zE := [(0, 1, .iconst (-1), .iconst (-1), 0, 0), (1, 1, .istore_n 2, .istore 2, 0, 0), (2, 1, .iconst 0, .iconst 0, 0, 0), (3, 1, .istore_n 3, .istore 3, 0, 0), (4, 1, .iload_n 3, .iload 3, 0, 0), (5, 1, .aload_n 0, .aload 0, 0, 0), (6, 3, .getfield 37, .getfield 207, 1049, 37), (9, 3, .if_icmp .ge 112, .if_icmp .ge 66, 0, 0), (12, 1, .aload_n 0, .aload 0, 0, 0), (13, 3, .getfield 18, .getstatic 203, 1045, 18), (16, 1, .iload_n 3, .iload 3, 0, 0), (17, 1, .iaload, .iaload, 0, 0), (18, 2, .bipush 110, .iconst 110, 0, 0), (20, 3, .if_icmp .ne 7, .if_icmp .ne 16, 0, 0), (23, 1, .iconst 1, .iconst 1, 0, 0), (24, 3, .goto 4, .goto 17, 0, 0), (27, 1, .iconst 0, .iconst 0, 0, 0), (28, 2, .istore 4, .istore 4, 0, 0), (30, 2, .iload 4, .iload 4, 0, 0), (32, 3, .ifCond .ne 8, .ifCond .ne 23, 0, 0), (35, 1, .iload_n 2, .iload 2, 0, 0), (36, 1, .iconst (-1), .iconst (-1), 0, 0), (37, 3, .if_icmp .ne 7, .if_icmp .ne 25, 0, 0), (40, 1, .iconst 1, .iconst 1, 0, 0), (41, 3, .goto 4, .goto 26, 0, 0), (44, 1, .iconst 0, .iconst 0, 0, 0), (45, 2, .istore 5, .istore 5, 0, 0), (47, 2, .iload 5, .iload 5, 0, 0), (49, 3, .ifCond .eq 66, .ifCond .eq 64, 0, 0), (52, 1, .aload_n 0, .aload 0, 0, 0), (53, 1, .aload_n 0, .aload 0, 0, 0), (54, 3, .getfield 24, .getstatic 205, 1047, 24), (57, 1, .iload_n 3, .iload 3, 0, 0), (58, 1, .iaload, .iaload, 0, 0), (59, 1, .aload_n 0, .aload 0, 0, 0), (60, 3, .getfield 27, .getstatic 206, 1048, 27), (63, 1, .iload_n 3, .iload 3, 0, 0), (64, 1, .iaload, .iaload, 0, 0), (65, 1, .aload_n 1, .aload 1, 0, 0), (66, 3, .invokevirtual 56, .invokevirtual 390213, 3196, 56), (69, 3, .ifCond .ne 6, .ifCond .ne 42, 0, 0), (72, 3, .goto 43, .goto 64, 0, 0), (75, 2, .iload 4, .iload 4, 0, 0), (77, 3, .ifCond .eq 6, .ifCond .eq 46, 0, 0), (80, 2, .bipush (-2), .iconst (-2), 0, 0), (82, 1, .ireturn, .ireturn, 0, 0), (83, 1, .aload_n 0, .aload 0, 0, 0), (84, 1, .aload_n 0, .aload 0, 0, 0), (85, 3, .getfield 21, .getstatic 204, 1046, 21), (88, 1, .iload_n 3, .iload 3, 0, 0), (89, 1, .iaload, .iaload, 0, 0), (90, 1, .aload_n 0, .aload 0, 0, 0), (91, 3, .getfield 24, .getstatic 205, 1047, 24), (94, 1, .iload_n 3, .iload 3, 0, 0), (95, 1, .iaload, .iaload, 0, 0), (96, 1, .aload_n 1, .aload 1, 0, 0), (97, 3, .invokevirtual 56, .invokevirtual 390213, 3196, 56), (100, 2, .istore 6, .istore 6, 0, 0), (102, 1, .iconst 0, .iconst 0, 0, 0), (103, 3, .sipush 9999, .iconst 9999, 0, 0), (106, 2, .iload 6, .iload 6, 0, 0), (108, 3, .invokestatic 60, .fsub, 3204, 60), (111, 3, .invokestatic 66, .fadd, 3205, 66), (114, 1, .istore_n 2, .istore 2, 0, 0), (115, 3, .iinc 3 1, .iinc 3 1, 0, 0), (118, 3, .goto (-114), .goto 4, 0, 0), (121, 1, .iload_n 2, .iload 2, 0, 0), (122, 1, .iconst (-1), .iconst (-1), 0, 0), (123, 3, .if_icmp .ne 9, .if_icmp .ne 73, 0, 0), (126, 1, .aload_n 1, .aload 1, 0, 0), (127, 1, .iconst 0, .iconst 0, 0, 0), (128, 1, .iaload, .iaload, 0, 0), (129, 3, .goto 4, .goto 74, 0, 0), (132, 1, .iload_n 2, .iload 2, 0, 0), (133, 1, .ireturn, .ireturn, 0, 0)]
set_option maxRecDepth 100000 in
def zi_38 : List Instr := [.iconst (-1), .istore 2, .iconst 0, .istore 3, .iload 3, .aload 0, .getfield 207, .if_icmp .ge 66, .aload 0, .getstatic 203, .iload 3, .iaload, .iconst 110, .if_icmp .ne 16, .iconst 1, .goto 17, .iconst 0, .istore 4, .iload 4, .ifCond .ne 23, .iload 2, .iconst (-1), .if_icmp .ne 25, .iconst 1, .goto 26, .iconst 0, .istore 5, .iload 5, .ifCond .eq 64, .aload 0, .aload 0, .getstatic 205, .iload 3, .iaload, .aload 0, .getstatic 206, .iload 3, .iaload, .aload 1, .invokevirtual 390213, .ifCond .ne 42, .goto 64, .iload 4, .ifCond .eq 46, .iconst (-2), .ireturn, .aload 0, .aload 0, .getstatic 204, .iload 3, .iaload, .aload 0, .getstatic 205, .iload 3, .iaload, .aload 1, .invokevirtual 390213, .istore 6, .iconst 0, .iconst 9999, .iload 6, .fsub, .fadd, .istore 2, .iinc 3 1, .goto 4, .iload 2, .iconst (-1), .if_icmp .ne 73, .aload 1, .iconst 0, .iaload, .goto 74, .iload 2, .ireturn]
set_option maxRecDepth 100000 in
theorem ze_38 : zc_38.map (fun e => e.2.2.2.1) = zi_38 := rfl
set_option maxRecDepth 100000 in
theorem zk_38 : zckm (zmd 38) false zc_38 zmd [39] = true := by decide +kernel
noncomputable def zf_38 : zF := zden zX0 zi_38 (zlk [(39, zf_39)]) 7
/-- HillErrands$Law.price -/
theorem zs_38 : ∀ d, 3 ≤ d → zSnd d (zmd 38) zf_38 := by
  intro d hd
  obtain ⟨d, rfl⟩ : ∃ k, d = k + 1 := ⟨d - 1, by omega⟩
  have h := zsound (d := d) (l := [(39, zf_39)]) zo_38 (fun h => by cases h) zk_38 (fun q hq => by
    simp only [List.mem_cons, List.not_mem_nil, or_false] at hq
    subst hq
    · exact zs_39 d (by omega))
  rw [ze_38] at h
  exact h
set_option maxRecDepth 100000 in
def zc_117 : List zE := [(0, 1, .aload_n 0, .aload 0, 0, 0), (1, 3, .getfield 27, .getstatic 805, 1085, 27), (4, 1, .iconst 0, .iconst 0, 0, 0), (5, 1, .iconst 0, .iconst 0, 0, 0), (6, 1, .aload_n 0, .aload 0, 0, 0), (7, 3, .getfield 9, .getstatic 800, 1080, 9), (10, 1, .iload_n 2, .iload 2, 0, 0), (11, 1, .iaload, .iaload, 0, 0), (12, 1, .aload_n 0, .aload 0, 0, 0), (13, 3, .getfield 9, .getstatic 800, 1080, 9), (16, 1, .iload_n 1, .iload 1, 0, 0), (17, 1, .iaload, .iaload, 0, 0), (18, 1, .isub, .isub, 0, 0), (19, 3, .invokestatic 75, .fadd, 3187, 75), (22, 1, .iastore, .iastore, 0, 0), (23, 1, .aload_n 0, .aload 0, 0, 0), (24, 3, .getfield 27, .getstatic 805, 1085, 27), (27, 1, .iconst 1, .iconst 1, 0, 0), (28, 1, .iconst 0, .iconst 0, 0, 0), (29, 1, .aload_n 0, .aload 0, 0, 0), (30, 3, .getfield 9, .getstatic 800, 1080, 9), (33, 1, .iload_n 1, .iload 1, 0, 0), (34, 1, .iaload, .iaload, 0, 0), (35, 1, .aload_n 0, .aload 0, 0, 0), (36, 3, .getfield 9, .getstatic 800, 1080, 9), (39, 1, .iload_n 2, .iload 2, 0, 0), (40, 1, .iaload, .iaload, 0, 0), (41, 1, .isub, .isub, 0, 0), (42, 3, .invokestatic 75, .fadd, 3187, 75), (45, 1, .iastore, .iastore, 0, 0), (46, 1, .aload_n 0, .aload 0, 0, 0), (47, 3, .getfield 27, .getstatic 805, 1085, 27), (50, 1, .iconst 5, .iconst 5, 0, 0), (51, 1, .iload_n 1, .iload 1, 0, 0), (52, 1, .iastore, .iastore, 0, 0), (53, 1, .aload_n 0, .aload 0, 0, 0), (54, 3, .getfield 27, .getstatic 805, 1085, 27), (57, 2, .bipush 6, .iconst 6, 0, 0), (59, 1, .iload_n 2, .iload 2, 0, 0), (60, 1, .iastore, .iastore, 0, 0), (61, 1, .aload_n 0, .aload 0, 0, 0), (62, 3, .getfield 27, .getstatic 805, 1085, 27), (65, 2, .bipush 8, .iconst 8, 0, 0), (67, 1, .aload_n 0, .aload 0, 0, 0), (68, 3, .getfield 9, .getstatic 800, 1080, 9), (71, 1, .iload_n 1, .iload 1, 0, 0), (72, 1, .iaload, .iaload, 0, 0), (73, 1, .iastore, .iastore, 0, 0), (74, 1, .return_, .return_, 0, 0)]
set_option maxRecDepth 100000 in
def zi_117 : List Instr := [.aload 0, .getstatic 805, .iconst 0, .iconst 0, .aload 0, .getstatic 800, .iload 2, .iaload, .aload 0, .getstatic 800, .iload 1, .iaload, .isub, .fadd, .iastore, .aload 0, .getstatic 805, .iconst 1, .iconst 0, .aload 0, .getstatic 800, .iload 1, .iaload, .aload 0, .getstatic 800, .iload 2, .iaload, .isub, .fadd, .iastore, .aload 0, .getstatic 805, .iconst 5, .iload 1, .iastore, .aload 0, .getstatic 805, .iconst 6, .iload 2, .iastore, .aload 0, .getstatic 805, .iconst 8, .aload 0, .getstatic 800, .iload 1, .iaload, .iastore, .return_]
set_option maxRecDepth 100000 in
theorem ze_117 : zc_117.map (fun e => e.2.2.2.1) = zi_117 := rfl
set_option maxRecDepth 100000 in
theorem zk_117 : zckm (zmd 117) false zc_117 zmd [] = true := by decide +kernel
noncomputable def zf_117 : zF := zden zX0 zi_117 (zlk []) 3
/-- HillErrands$Town.putPlaces -/
theorem zs_117 : ∀ d, 1 ≤ d → zSnd d (zmd 117) zf_117 := by
  intro d hd
  obtain ⟨d, rfl⟩ : ∃ k, d = k + 1 := ⟨d - 1, by omega⟩
  have h := zsound (d := d) (l := []) zo_117 (fun h => by cases h) zk_117 (fun q hq => by cases hq)
  rw [ze_117] at h
  exact h
set_option maxRecDepth 100000 in
def zc_118 : List zE := [(0, 1, .aload_n 0, .aload 0, 0, 0), (1, 3, .getfield 27, .getstatic 805, 1085, 27), (4, 1, .iconst 2, .iconst 2, 0, 0), (5, 1, .iload_n 1, .iload 1, 0, 0), (6, 1, .iastore, .iastore, 0, 0), (7, 1, .aload_n 0, .aload 0, 0, 0), (8, 3, .getfield 27, .getstatic 805, 1085, 27), (11, 1, .iconst 3, .iconst 3, 0, 0), (12, 1, .iload_n 3, .iload 3, 0, 0), (13, 1, .iastore, .iastore, 0, 0), (14, 1, .aload_n 0, .aload 0, 0, 0), (15, 3, .getfield 27, .getstatic 805, 1085, 27), (18, 1, .iconst 4, .iconst 4, 0, 0), (19, 1, .aload_n 0, .aload 0, 0, 0), (20, 3, .getfield 50, .getfield 807, 1087, 50), (23, 1, .iastore, .iastore, 0, 0), (24, 1, .aload_n 0, .aload 0, 0, 0), (25, 3, .getfield 27, .getstatic 805, 1085, 27), (28, 2, .bipush 7, .iconst 7, 0, 0), (30, 1, .iload_n 2, .iload 2, 0, 0), (31, 1, .iastore, .iastore, 0, 0), (32, 1, .return_, .return_, 0, 0)]
set_option maxRecDepth 100000 in
def zi_118 : List Instr := [.aload 0, .getstatic 805, .iconst 2, .iload 1, .iastore, .aload 0, .getstatic 805, .iconst 3, .iload 3, .iastore, .aload 0, .getstatic 805, .iconst 4, .aload 0, .getfield 807, .iastore, .aload 0, .getstatic 805, .iconst 7, .iload 2, .iastore, .return_]
set_option maxRecDepth 100000 in
theorem ze_118 : zc_118.map (fun e => e.2.2.2.1) = zi_118 := rfl
set_option maxRecDepth 100000 in
theorem zk_118 : zckm (zmd 118) false zc_118 zmd [] = true := by decide +kernel
noncomputable def zf_118 : zF := zden zX0 zi_118 (zlk []) 4
/-- HillErrands$Town.putStair -/
theorem zs_118 : ∀ d, 1 ≤ d → zSnd d (zmd 118) zf_118 := by
  intro d hd
  obtain ⟨d, rfl⟩ : ∃ k, d = k + 1 := ⟨d - 1, by omega⟩
  have h := zsound (d := d) (l := []) zo_118 (fun h => by cases h) zk_118 (fun q hq => by cases hq)
  rw [ze_118] at h
  exact h
set_option maxRecDepth 100000 in
def zc_115 : List zE := [(0, 1, .iload_n 2, .iload 2, 0, 0), (1, 3, .ifCond .eq 16, .ifCond .eq 10, 0, 0), (4, 1, .aload_n 0, .aload 0, 0, 0), (5, 3, .getfield 24, .getstatic 804, 1084, 24), (8, 1, .iload_n 1, .iload 1, 0, 0), (9, 1, .iaload, .iaload, 0, 0), (10, 1, .iconst 1, .iconst 1, 0, 0), (11, 3, .if_icmp .ne 6, .if_icmp .ne 10, 0, 0), (14, 2, .bipush (-2), .iconst (-2), 0, 0), (16, 1, .ireturn, .ireturn, 0, 0), (17, 1, .aload_n 0, .aload 0, 0, 0), (18, 1, .iload_n 2, .iload 2, 0, 0), (19, 3, .ifCond .eq 12, .ifCond .eq 18, 0, 0), (22, 1, .aload_n 0, .aload 0, 0, 0), (23, 3, .getfield 21, .getstatic 803, 1083, 21), (26, 1, .iload_n 1, .iload 1, 0, 0), (27, 1, .iaload, .iaload, 0, 0), (28, 3, .goto 9, .goto 22, 0, 0), (31, 1, .aload_n 0, .aload 0, 0, 0), (32, 3, .getfield 18, .getstatic 802, 1082, 18), (35, 1, .iload_n 1, .iload 1, 0, 0), (36, 1, .iaload, .iaload, 0, 0), (37, 1, .iload_n 2, .iload 2, 0, 0), (38, 3, .ifCond .eq 12, .ifCond .eq 29, 0, 0), (41, 1, .aload_n 0, .aload 0, 0, 0), (42, 3, .getfield 18, .getstatic 802, 1082, 18), (45, 1, .iload_n 1, .iload 1, 0, 0), (46, 1, .iaload, .iaload, 0, 0), (47, 3, .goto 9, .goto 33, 0, 0), (50, 1, .aload_n 0, .aload 0, 0, 0), (51, 3, .getfield 21, .getstatic 803, 1083, 21), (54, 1, .iload_n 1, .iload 1, 0, 0), (55, 1, .iaload, .iaload, 0, 0), (56, 3, .invokevirtual 63, .invokevirtual 1170802, 3183, 63), (59, 1, .aload_n 0, .aload 0, 0, 0), (60, 1, .aload_n 0, .aload 0, 0, 0), (61, 3, .getfield 24, .getstatic 804, 1084, 24), (64, 1, .iload_n 1, .iload 1, 0, 0), (65, 1, .iaload, .iaload, 0, 0), (66, 1, .iload_n 1, .iload 1, 0, 0), (67, 1, .iload_n 3, .iload 3, 0, 0), (68, 3, .invokevirtual 67, .invokevirtual 1180803, 3188, 67), (71, 1, .aload_n 0, .aload 0, 0, 0), (72, 3, .getfield 33, .getstatic 806, 1086, 33), (75, 1, .aload_n 0, .aload 0, 0, 0), (76, 3, .getfield 27, .getstatic 805, 1085, 27), (79, 3, .invokevirtual 71, .invokevirtual 380211, 3192, 71), (82, 1, .ireturn, .ireturn, 0, 0)]
set_option maxRecDepth 100000 in
def zi_115 : List Instr := [.iload 2, .ifCond .eq 10, .aload 0, .getstatic 804, .iload 1, .iaload, .iconst 1, .if_icmp .ne 10, .iconst (-2), .ireturn, .aload 0, .iload 2, .ifCond .eq 18, .aload 0, .getstatic 803, .iload 1, .iaload, .goto 22, .aload 0, .getstatic 802, .iload 1, .iaload, .iload 2, .ifCond .eq 29, .aload 0, .getstatic 802, .iload 1, .iaload, .goto 33, .aload 0, .getstatic 803, .iload 1, .iaload, .invokevirtual 1170802, .aload 0, .aload 0, .getstatic 804, .iload 1, .iaload, .iload 1, .iload 3, .invokevirtual 1180803, .aload 0, .getstatic 806, .aload 0, .getstatic 805, .invokevirtual 380211, .ireturn]
set_option maxRecDepth 100000 in
theorem ze_115 : zc_115.map (fun e => e.2.2.2.1) = zi_115 := rfl
set_option maxRecDepth 100000 in
theorem zk_115 : zckm (zmd 115) false zc_115 zmd [38, 117, 118] = true := by decide +kernel
noncomputable def zf_115 : zF := zden zX0 zi_115 (zlk [(38, zf_38), (117, zf_117), (118, zf_118)]) 4
/-- HillErrands$Town.along -/
theorem zs_115 : ∀ d, 4 ≤ d → zSnd d (zmd 115) zf_115 := by
  intro d hd
  obtain ⟨d, rfl⟩ : ∃ k, d = k + 1 := ⟨d - 1, by omega⟩
  have h := zsound (d := d) (l := [(38, zf_38), (117, zf_117), (118, zf_118)]) zo_115 (fun h => by cases h) zk_115 (fun q hq => by
    simp only [List.mem_cons, List.not_mem_nil, or_false] at hq
    rcases hq with rfl | rfl | rfl
    · exact zs_38 d (by omega)
    · exact zs_117 d (by omega)
    · exact zs_118 d (by omega))
  rw [ze_115] at h
  exact h
