set_option maxRecDepth 100000 in
def zc_194 : List zE := [(0, 1, .aload_n 0, .aload 0, 0, 0), (1, 3, .getfield 178, .getfield 1210, 5218, 178), (4, 1, .istore_n 1, .istore 1, 0, 0), (5, 1, .aload_n 0, .aload 0, 0, 0), (6, 1, .iconst 0, .iconst 0, 0, 0), (7, 3, .putfield 195, .putfield 1217, 5225, 195), (10, 1, .aload_n 0, .aload 0, 0, 0), (11, 3, .invokevirtual 198, .invokevirtual 1911210, 6237, 198), (14, 3, .ifCond .eq 55, .ifCond .eq 39, 0, 0), (17, 1, .aload_n 0, .aload 0, 0, 0), (18, 3, .getfield 178, .getfield 1210, 5218, 178), (21, 1, .iload_n 1, .iload 1, 0, 0), (22, 1, .iconst 5, .iconst 5, 0, 0), (23, 1, .iadd, .iadd, 0, 0), (24, 3, .if_icmp .ne 13, .if_icmp .ne 21, 0, 0), (27, 1, .aload_n 0, .aload 0, 0, 0), (28, 1, .iconst 2, .iconst 2, 0, 0), (29, 1, .aload_n 0, .aload 0, 0, 0), (30, 3, .getfield 178, .getfield 1210, 5218, 178), (33, 3, .invokevirtual 191, .invokevirtual 1921212, 6220, 191), (36, 1, .ireturn, .lreturn, 0, 0), (37, 1, .aload_n 0, .aload 0, 0, 0), (38, 2, .bipush 10, .iconst 10, 0, 0), (40, 1, .aload_n 0, .aload 0, 0, 0), (41, 3, .getfield 195, .getfield 1217, 5225, 195), (44, 1, .imul, .imul, 0, 0), (45, 1, .aload_n 0, .aload 0, 0, 0), (46, 3, .invokevirtual 184, .invokevirtual 1901210, 6216, 184), (49, 1, .iadd, .iadd, 0, 0), (50, 2, .bipush 48, .iconst 48, 0, 0), (52, 1, .isub, .isub, 0, 0), (53, 3, .putfield 195, .putfield 1217, 5225, 195), (56, 1, .aload_n 0, .aload 0, 0, 0), (57, 1, .aload_n 0, .aload 0, 0, 0), (58, 3, .getfield 178, .getfield 1210, 5218, 178), (61, 1, .iconst 1, .iconst 1, 0, 0), (62, 1, .iadd, .iadd, 0, 0), (63, 3, .putfield 178, .putfield 1210, 5218, 178), (66, 3, .goto (-56), .goto 6, 0, 0), (69, 1, .iconst 1, .iconst 1, 0, 0), (70, 1, .ireturn, .lreturn, 0, 0)]
set_option maxRecDepth 100000 in
def zi_194 : List Instr := [.aload 0, .getfield 1210, .istore 1, .aload 0, .iconst 0, .putfield 1217, .aload 0, .invokevirtual 1911210, .ifCond .eq 39, .aload 0, .getfield 1210, .iload 1, .iconst 5, .iadd, .if_icmp .ne 21, .aload 0, .iconst 2, .aload 0, .getfield 1210, .invokevirtual 1921212, .lreturn, .aload 0, .iconst 10, .aload 0, .getfield 1217, .imul, .aload 0, .invokevirtual 1901210, .iadd, .iconst 48, .isub, .putfield 1217, .aload 0, .aload 0, .getfield 1210, .iconst 1, .iadd, .putfield 1210, .goto 6, .iconst 1, .lreturn]
set_option maxRecDepth 100000 in
theorem ze_194 : zc_194.map (fun e => e.2.2.2.1) = zi_194 := rfl
set_option maxRecDepth 100000 in
theorem zk_194 : zckm (zmd 194) false zc_194 zmd [190, 191, 192] = true := by decide +kernel
noncomputable def zf_194 : zF := zden zX0 zi_194 (zlk [(190, zf_190), (191, zf_191), (192, zf_192)]) 2
/-- HillErrandsModel.readsNumber -/
theorem zs_194 : ∀ d, 3 ≤ d → zSnd d (zmd 194) zf_194 := by
  intro d hd
  obtain ⟨d, rfl⟩ : ∃ k, d = k + 1 := ⟨d - 1, by omega⟩
  have h := zsound (d := d) (l := [(190, zf_190), (191, zf_191), (192, zf_192)]) zo_194 (fun h => by cases h) zk_194 (fun q hq => by
    simp only [List.mem_cons, List.not_mem_nil, or_false] at hq
    rcases hq with rfl | rfl | rfl
    · exact zs_190 d (by omega)
    · exact zs_191 d (by omega)
    · exact zs_192 d (by omega))
  rw [ze_194] at h
  exact h
set_option maxRecDepth 100000 in
def zc_195 : List zE := [(0, 1, .aload_n 0, .aload 0, 0, 0), (1, 3, .getfield 26, .getstatic 1219, 5227, 26), (4, 1, .aload_n 0, .aload 0, 0, 0), (5, 3, .getfield 202, .getfield 1214, 5222, 202), (8, 2, .ldc 205, .iconst 1048576, 6236, 205), (10, 1, .iload_n 1, .iload 1, 0, 0), (11, 1, .imul, .imul, 0, 0), (12, 1, .iload_n 2, .iload 2, 0, 0), (13, 1, .iadd, .iadd, 0, 0), (14, 1, .iastore, .iastore, 0, 0), (15, 1, .aload_n 0, .aload 0, 0, 0), (16, 1, .aload_n 0, .aload 0, 0, 0), (17, 3, .getfield 202, .getfield 1214, 5222, 202), (20, 1, .iconst 1, .iconst 1, 0, 0), (21, 1, .iadd, .iadd, 0, 0), (22, 3, .putfield 202, .putfield 1214, 5222, 202), (25, 1, .return_, .return_, 0, 0)]
set_option maxRecDepth 100000 in
def zi_195 : List Instr := [.aload 0, .getstatic 1219, .aload 0, .getfield 1214, .iconst 1048576, .iload 1, .imul, .iload 2, .iadd, .iastore, .aload 0, .aload 0, .getfield 1214, .iconst 1, .iadd, .putfield 1214, .return_]
set_option maxRecDepth 100000 in
theorem ze_195 : zc_195.map (fun e => e.2.2.2.1) = zi_195 := rfl
set_option maxRecDepth 100000 in
theorem zk_195 : zckm (zmd 195) false zc_195 zmd [] = true := by decide +kernel
noncomputable def zf_195 : zF := zden zX0 zi_195 (zlk []) 3
/-- HillErrandsModel.notes -/
theorem zs_195 : ∀ d, 1 ≤ d → zSnd d (zmd 195) zf_195 := by
  intro d hd
  obtain ⟨d, rfl⟩ : ∃ k, d = k + 1 := ⟨d - 1, by omega⟩
  have h := zsound (d := d) (l := []) zo_195 (fun h => by cases h) zk_195 (fun q hq => by cases hq)
  rw [ze_195] at h
  exact h
set_option maxRecDepth 100000 in
def zc_196 : List zE := [(0, 1, .aload_n 0, .aload 0, 0, 0), (1, 3, .getfield 206, .getfield 1213, 5221, 206), (4, 2, .bipush 6, .iconst 6, 0, 0), (6, 3, .if_icmp .ne 13, .if_icmp .ne 10, 0, 0), (9, 1, .aload_n 0, .aload 0, 0, 0), (10, 1, .iconst 5, .iconst 5, 0, 0), (11, 1, .aload_n 0, .aload 0, 0, 0), (12, 3, .getfield 178, .getfield 1210, 5218, 178), (15, 3, .invokevirtual 191, .invokevirtual 1921212, 6220, 191), (18, 1, .ireturn, .lreturn, 0, 0), (19, 1, .aload_n 0, .aload 0, 0, 0), (20, 1, .aload_n 0, .aload 0, 0, 0), (21, 3, .getfield 206, .getfield 1213, 5221, 206), (24, 1, .iconst 1, .iconst 1, 0, 0), (25, 1, .iadd, .iadd, 0, 0), (26, 3, .putfield 206, .putfield 1213, 5221, 206), (29, 1, .aload_n 0, .aload 0, 0, 0), (30, 3, .getfield 29, .getstatic 1220, 5228, 29), (33, 1, .aload_n 0, .aload 0, 0, 0), (34, 3, .getfield 209, .getfield 1215, 5223, 209), (37, 2, .ldc 205, .iconst 1048576, 6236, 205), (39, 1, .iload_n 1, .iload 1, 0, 0), (40, 1, .imul, .imul, 0, 0), (41, 1, .iastore, .iastore, 0, 0), (42, 1, .aload_n 0, .aload 0, 0, 0), (43, 1, .aload_n 0, .aload 0, 0, 0), (44, 3, .getfield 209, .getfield 1215, 5223, 209), (47, 1, .iconst 1, .iconst 1, 0, 0), (48, 1, .iadd, .iadd, 0, 0), (49, 3, .putfield 209, .putfield 1215, 5223, 209), (52, 1, .aload_n 0, .aload 0, 0, 0), (53, 1, .aload_n 0, .aload 0, 0, 0), (54, 3, .getfield 178, .getfield 1210, 5218, 178), (57, 1, .iconst 1, .iconst 1, 0, 0), (58, 1, .iadd, .iadd, 0, 0), (59, 3, .putfield 178, .putfield 1210, 5218, 178), (62, 1, .iconst 1, .iconst 1, 0, 0), (63, 1, .ireturn, .lreturn, 0, 0)]
set_option maxRecDepth 100000 in
def zi_196 : List Instr := [.aload 0, .getfield 1213, .iconst 6, .if_icmp .ne 10, .aload 0, .iconst 5, .aload 0, .getfield 1210, .invokevirtual 1921212, .lreturn, .aload 0, .aload 0, .getfield 1213, .iconst 1, .iadd, .putfield 1213, .aload 0, .getstatic 1220, .aload 0, .getfield 1215, .iconst 1048576, .iload 1, .imul, .iastore, .aload 0, .aload 0, .getfield 1215, .iconst 1, .iadd, .putfield 1215, .aload 0, .aload 0, .getfield 1210, .iconst 1, .iadd, .putfield 1210, .iconst 1, .lreturn]
set_option maxRecDepth 100000 in
theorem ze_196 : zc_196.map (fun e => e.2.2.2.1) = zi_196 := rfl
set_option maxRecDepth 100000 in
theorem zk_196 : zckm (zmd 196) false zc_196 zmd [192] = true := by decide +kernel
noncomputable def zf_196 : zF := zden zX0 zi_196 (zlk [(192, zf_192)]) 2
/-- HillErrandsModel.opens -/
theorem zs_196 : ∀ d, 2 ≤ d → zSnd d (zmd 196) zf_196 := by
  intro d hd
  obtain ⟨d, rfl⟩ : ∃ k, d = k + 1 := ⟨d - 1, by omega⟩
  have h := zsound (d := d) (l := [(192, zf_192)]) zo_196 (fun h => by cases h) zk_196 (fun q hq => by
    simp only [List.mem_cons, List.not_mem_nil, or_false] at hq
    subst hq
    · exact zs_192 d (by omega))
  rw [ze_196] at h
  exact h
set_option maxRecDepth 100000 in
def zc_197 : List zE := [(0, 1, .aload_n 0, .aload 0, 0, 0), (1, 3, .getfield 209, .getfield 1215, 5223, 209), (4, 3, .ifCond .ne 7, .ifCond .ne 5, 0, 0), (7, 1, .iconst (-1), .iconst (-1), 0, 0), (8, 3, .goto 17, .goto 14, 0, 0), (11, 1, .aload_n 0, .aload 0, 0, 0), (12, 3, .getfield 29, .getstatic 1220, 5228, 29), (15, 1, .aload_n 0, .aload 0, 0, 0), (16, 3, .getfield 209, .getfield 1215, 5223, 209), (19, 1, .iconst 1, .iconst 1, 0, 0), (20, 1, .isub, .isub, 0, 0), (21, 1, .iaload, .iaload, 0, 0), (22, 2, .ldc 205, .iconst 1048576, 6236, 205), (24, 1, .idiv, .idiv, 0, 0), (25, 1, .ireturn, .ireturn, 0, 0)]
set_option maxRecDepth 100000 in
def zi_197 : List Instr := [.aload 0, .getfield 1215, .ifCond .ne 5, .iconst (-1), .goto 14, .aload 0, .getstatic 1220, .aload 0, .getfield 1215, .iconst 1, .isub, .iaload, .iconst 1048576, .idiv, .ireturn]
set_option maxRecDepth 100000 in
theorem ze_197 : zc_197.map (fun e => e.2.2.2.1) = zi_197 := rfl
set_option maxRecDepth 100000 in
theorem zk_197 : zckm (zmd 197) false zc_197 zmd [] = true := by decide +kernel
noncomputable def zf_197 : zF := zden zX0 zi_197 (zlk []) 1
/-- HillErrandsModel.top -/
theorem zs_197 : ∀ d, 1 ≤ d → zSnd d (zmd 197) zf_197 := by
  intro d hd
  obtain ⟨d, rfl⟩ : ∃ k, d = k + 1 := ⟨d - 1, by omega⟩
  have h := zsound (d := d) (l := []) zo_197 (fun h => by cases h) zk_197 (fun q hq => by cases hq)
  rw [ze_197] at h
  exact h
set_option maxRecDepth 100000 in
def zc_198 : List zE := [(0, 1, .iload_n 0, .iload 0, 0, 0), (1, 95, .tableswitch 116 100 119 #[97, 116, 105, 107, 113, 116, 116, 99, 101, 116, 116, 116, 116, 116, 116, 110, 116, 95, 116, 103], .tableswitch 20 100 119 #[4, 20, 12, 14, 18, 20, 20, 6, 8, 20, 20, 20, 20, 20, 20, 16, 20, 2, 20, 10], 0, 0), (96, 1, .iconst 0, .iconst 0, 0, 0), (97, 1, .ireturn, .ireturn, 0, 0), (98, 1, .iconst 1, .iconst 1, 0, 0), (99, 1, .ireturn, .ireturn, 0, 0), (100, 1, .iconst 2, .iconst 2, 0, 0), (101, 1, .ireturn, .ireturn, 0, 0), (102, 1, .iconst 3, .iconst 3, 0, 0), (103, 1, .ireturn, .ireturn, 0, 0), (104, 1, .iconst 4, .iconst 4, 0, 0), (105, 1, .ireturn, .ireturn, 0, 0), (106, 1, .iconst 5, .iconst 5, 0, 0), (107, 1, .ireturn, .ireturn, 0, 0), (108, 2, .bipush 6, .iconst 6, 0, 0), (110, 1, .ireturn, .ireturn, 0, 0), (111, 2, .bipush 7, .iconst 7, 0, 0), (113, 1, .ireturn, .ireturn, 0, 0), (114, 2, .bipush 8, .iconst 8, 0, 0), (116, 1, .ireturn, .ireturn, 0, 0), (117, 1, .iconst (-1), .iconst (-1), 0, 0), (118, 1, .ireturn, .ireturn, 0, 0)]
set_option maxRecDepth 100000 in
def zi_198 : List Instr := [.iload 0, .tableswitch 20 100 119 #[4, 20, 12, 14, 18, 20, 20, 6, 8, 20, 20, 20, 20, 20, 20, 16, 20, 2, 20, 10], .iconst 0, .ireturn, .iconst 1, .ireturn, .iconst 2, .ireturn, .iconst 3, .ireturn, .iconst 4, .ireturn, .iconst 5, .ireturn, .iconst 6, .ireturn, .iconst 7, .ireturn, .iconst 8, .ireturn, .iconst (-1), .ireturn]
set_option maxRecDepth 100000 in
theorem ze_198 : zc_198.map (fun e => e.2.2.2.1) = zi_198 := rfl
set_option maxRecDepth 100000 in
theorem zk_198 : zckm (zmd 198) false zc_198 zmd [] = true := by decide +kernel
noncomputable def zf_198 : zF := zden zX0 zi_198 (zlk []) 1
/-- HillErrandsModel.factOf -/
theorem zs_198 : ∀ d, 1 ≤ d → zSnd d (zmd 198) zf_198 := by
  intro d hd
  obtain ⟨d, rfl⟩ : ∃ k, d = k + 1 := ⟨d - 1, by omega⟩
  have h := zsound (d := d) (l := []) zo_198 (fun h => by cases h) zk_198 (fun q hq => by cases hq)
  rw [ze_198] at h
  exact h
set_option maxRecDepth 100000 in
def zc_199 : List zE := [(0, 1, .iload_n 0, .iload 0, 0, 0), (1, 2, .bipush 43, .iconst 43, 0, 0), (3, 3, .if_icmp .ne 7, .if_icmp .ne 5, 0, 0), (6, 1, .iconst 2, .iconst 2, 0, 0), (7, 3, .goto 45, .goto 26, 0, 0), (10, 1, .iload_n 0, .iload 0, 0, 0), (11, 2, .bipush 45, .iconst 45, 0, 0), (13, 3, .if_icmp .ne 7, .if_icmp .ne 10, 0, 0), (16, 1, .iconst 3, .iconst 3, 0, 0), (17, 3, .goto 35, .goto 26, 0, 0), (20, 1, .iload_n 0, .iload 0, 0, 0), (21, 2, .bipush 42, .iconst 42, 0, 0), (23, 3, .if_icmp .ne 7, .if_icmp .ne 15, 0, 0), (26, 1, .iconst 4, .iconst 4, 0, 0), (27, 3, .goto 25, .goto 26, 0, 0), (30, 1, .iload_n 0, .iload 0, 0, 0), (31, 2, .bipush 47, .iconst 47, 0, 0), (33, 3, .if_icmp .ne 7, .if_icmp .ne 20, 0, 0), (36, 1, .iconst 5, .iconst 5, 0, 0), (37, 3, .goto 15, .goto 26, 0, 0), (40, 1, .iload_n 0, .iload 0, 0, 0), (41, 2, .bipush 37, .iconst 37, 0, 0), (43, 3, .if_icmp .ne 8, .if_icmp .ne 25, 0, 0), (46, 2, .bipush 6, .iconst 6, 0, 0), (48, 3, .goto 4, .goto 26, 0, 0), (51, 1, .iconst (-1), .iconst (-1), 0, 0), (52, 1, .ireturn, .ireturn, 0, 0)]
set_option maxRecDepth 100000 in
def zi_199 : List Instr := [.iload 0, .iconst 43, .if_icmp .ne 5, .iconst 2, .goto 26, .iload 0, .iconst 45, .if_icmp .ne 10, .iconst 3, .goto 26, .iload 0, .iconst 42, .if_icmp .ne 15, .iconst 4, .goto 26, .iload 0, .iconst 47, .if_icmp .ne 20, .iconst 5, .goto 26, .iload 0, .iconst 37, .if_icmp .ne 25, .iconst 6, .goto 26, .iconst (-1), .ireturn]
set_option maxRecDepth 100000 in
theorem ze_199 : zc_199.map (fun e => e.2.2.2.1) = zi_199 := rfl
set_option maxRecDepth 100000 in
theorem zk_199 : zckm (zmd 199) false zc_199 zmd [] = true := by decide +kernel
noncomputable def zf_199 : zF := zden zX0 zi_199 (zlk []) 1
/-- HillErrandsModel.sumSign -/
theorem zs_199 : ∀ d, 1 ≤ d → zSnd d (zmd 199) zf_199 := by
  intro d hd
  obtain ⟨d, rfl⟩ : ∃ k, d = k + 1 := ⟨d - 1, by omega⟩
  have h := zsound (d := d) (l := []) zo_199 (fun h => by cases h) zk_199 (fun q hq => by cases hq)
  rw [ze_199] at h
  exact h
set_option maxRecDepth 100000 in
def zc_200 : List zE := [(0, 1, .aload_n 0, .aload 0, 0, 0), (1, 3, .invokevirtual 212, .invokevirtual 1971210, 7019, 212), (4, 1, .iconst 4, .iconst 4, 0, 0), (5, 3, .if_icmp .lt 12, .if_icmp .lt 8, 0, 0), (8, 1, .aload_n 0, .aload 0, 0, 0), (9, 3, .invokevirtual 212, .invokevirtual 1971210, 7019, 212), (12, 2, .bipush 6, .iconst 6, 0, 0), (14, 3, .if_icmp .le 23, .if_icmp .le 18, 0, 0), (17, 1, .iload_n 1, .iload 1, 0, 0), (18, 3, .ifCond .eq 41, .ifCond .eq 30, 0, 0), (21, 1, .aload_n 0, .aload 0, 0, 0), (22, 3, .invokevirtual 212, .invokevirtual 1971210, 7019, 212), (25, 1, .iconst 2, .iconst 2, 0, 0), (26, 3, .if_icmp .eq 11, .if_icmp .eq 18, 0, 0), (29, 1, .aload_n 0, .aload 0, 0, 0), (30, 3, .invokevirtual 212, .invokevirtual 1971210, 7019, 212), (33, 1, .iconst 3, .iconst 3, 0, 0), (34, 3, .if_icmp .ne 25, .if_icmp .ne 30, 0, 0), (37, 1, .aload_n 0, .aload 0, 0, 0), (38, 1, .aload_n 0, .aload 0, 0, 0), (39, 3, .invokevirtual 212, .invokevirtual 1971210, 7019, 212), (42, 1, .iconst 0, .iconst 0, 0, 0), (43, 3, .invokevirtual 215, .invokevirtual 1951202, 7005, 215), (46, 1, .aload_n 0, .aload 0, 0, 0), (47, 1, .aload_n 0, .aload 0, 0, 0), (48, 3, .getfield 209, .getfield 1215, 5223, 209), (51, 1, .iconst 1, .iconst 1, 0, 0), (52, 1, .isub, .isub, 0, 0), (53, 3, .putfield 209, .putfield 1215, 5223, 209), (56, 3, .goto (-56), .goto 0, 0, 0), (59, 1, .return_, .return_, 0, 0)]
set_option maxRecDepth 100000 in
def zi_200 : List Instr := [.aload 0, .invokevirtual 1971210, .iconst 4, .if_icmp .lt 8, .aload 0, .invokevirtual 1971210, .iconst 6, .if_icmp .le 18, .iload 1, .ifCond .eq 30, .aload 0, .invokevirtual 1971210, .iconst 2, .if_icmp .eq 18, .aload 0, .invokevirtual 1971210, .iconst 3, .if_icmp .ne 30, .aload 0, .aload 0, .invokevirtual 1971210, .iconst 0, .invokevirtual 1951202, .aload 0, .aload 0, .getfield 1215, .iconst 1, .isub, .putfield 1215, .goto 0, .return_]
set_option maxRecDepth 100000 in
theorem ze_200 : zc_200.map (fun e => e.2.2.2.1) = zi_200 := rfl
set_option maxRecDepth 100000 in
theorem zk_200 : zckm (zmd 200) false zc_200 zmd [195, 197] = true := by decide +kernel
noncomputable def zf_200 : zF := zden zX0 zi_200 (zlk [(195, zf_195), (197, zf_197)]) 2
/-- HillErrandsModel.closesSums -/
theorem zs_200 : ∀ d, 2 ≤ d → zSnd d (zmd 200) zf_200 := by
  intro d hd
  obtain ⟨d, rfl⟩ : ∃ k, d = k + 1 := ⟨d - 1, by omega⟩
  have h := zsound (d := d) (l := [(195, zf_195), (197, zf_197)]) zo_200 (fun h => by cases h) zk_200 (fun q hq => by
    simp only [List.mem_cons, List.not_mem_nil, or_false] at hq
    rcases hq with rfl | rfl
    · exact zs_195 d (by omega)
    · exact zs_197 d (by omega))
  rw [ze_200] at h
  exact h
set_option maxRecDepth 100000 in
def zc_201 : List zE := [(0, 1, .aload_n 0, .aload 0, 0, 0), (1, 3, .invokevirtual 184, .invokevirtual 1901210, 6216, 184), (4, 2, .bipush 91, .iconst 91, 0, 0), (6, 3, .if_icmp .ne 14, .if_icmp .ne 10, 0, 0), (9, 1, .aload_n 0, .aload 0, 0, 0), (10, 2, .bipush 14, .iconst 14, 0, 0), (12, 3, .invokevirtual 219, .invokevirtual 1961211, 6232, 219), (15, 3, .ifCond .ne (-15), .ifCond .ne 0, 0, 0), (18, 1, .iconst 0, .iconst 0, 0, 0), (19, 1, .ireturn, .lreturn, 0, 0), (20, 1, .aload_n 0, .aload 0, 0, 0), (21, 3, .invokevirtual 198, .invokevirtual 1911210, 6237, 198), (24, 3, .ifCond .eq 23, .ifCond .eq 25, 0, 0), (27, 1, .aload_n 0, .aload 0, 0, 0), (28, 3, .invokevirtual 222, .invokevirtual 1941210, 7001, 222), (31, 3, .ifCond .ne 5, .ifCond .ne 18, 0, 0), (34, 1, .iconst 0, .iconst 0, 0, 0), (35, 1, .ireturn, .lreturn, 0, 0), (36, 1, .aload_n 0, .aload 0, 0, 0), (37, 1, .iconst 0, .iconst 0, 0, 0), (38, 1, .aload_n 0, .aload 0, 0, 0), (39, 3, .getfield 195, .getfield 1217, 5225, 195), (42, 3, .invokevirtual 215, .invokevirtual 1951202, 7005, 215), (45, 1, .iconst 1, .iconst 1, 0, 0), (46, 1, .ireturn, .lreturn, 0, 0), (47, 1, .aload_n 0, .aload 0, 0, 0), (48, 3, .invokevirtual 184, .invokevirtual 1901210, 6216, 184), (51, 3, .invokestatic 225, .invokestatic 1980011, 7009, 225), (54, 1, .istore_n 1, .istore 1, 0, 0), (55, 1, .iload_n 1, .iload 1, 0, 0), (56, 1, .iconst (-1), .iconst (-1), 0, 0), (57, 3, .if_icmp .ne 13, .if_icmp .ne 38, 0, 0), (60, 1, .aload_n 0, .aload 0, 0, 0), (61, 1, .iconst 1, .iconst 1, 0, 0), (62, 1, .aload_n 0, .aload 0, 0, 0), (63, 3, .getfield 178, .getfield 1210, 5218, 178), (66, 3, .invokevirtual 191, .invokevirtual 1921212, 6220, 191), (69, 1, .ireturn, .lreturn, 0, 0), (70, 1, .aload_n 0, .aload 0, 0, 0), (71, 1, .iconst 1, .iconst 1, 0, 0), (72, 1, .iload_n 1, .iload 1, 0, 0), (73, 3, .invokevirtual 215, .invokevirtual 1951202, 7005, 215), (76, 1, .aload_n 0, .aload 0, 0, 0), (77, 1, .aload_n 0, .aload 0, 0, 0), (78, 3, .getfield 178, .getfield 1210, 5218, 178), (81, 1, .iconst 1, .iconst 1, 0, 0), (82, 1, .iadd, .iadd, 0, 0), (83, 3, .putfield 178, .putfield 1210, 5218, 178), (86, 1, .iconst 1, .iconst 1, 0, 0), (87, 1, .ireturn, .lreturn, 0, 0)]
set_option maxRecDepth 100000 in
def zi_201 : List Instr := [.aload 0, .invokevirtual 1901210, .iconst 91, .if_icmp .ne 10, .aload 0, .iconst 14, .invokevirtual 1961211, .ifCond .ne 0, .iconst 0, .lreturn, .aload 0, .invokevirtual 1911210, .ifCond .eq 25, .aload 0, .invokevirtual 1941210, .ifCond .ne 18, .iconst 0, .lreturn, .aload 0, .iconst 0, .aload 0, .getfield 1217, .invokevirtual 1951202, .iconst 1, .lreturn, .aload 0, .invokevirtual 1901210, .invokestatic 1980011, .istore 1, .iload 1, .iconst (-1), .if_icmp .ne 38, .aload 0, .iconst 1, .aload 0, .getfield 1210, .invokevirtual 1921212, .lreturn, .aload 0, .iconst 1, .iload 1, .invokevirtual 1951202, .aload 0, .aload 0, .getfield 1210, .iconst 1, .iadd, .putfield 1210, .iconst 1, .lreturn]
set_option maxRecDepth 100000 in
theorem ze_201 : zc_201.map (fun e => e.2.2.2.1) = zi_201 := rfl
set_option maxRecDepth 100000 in
theorem zk_201 : zckm (zmd 201) false zc_201 zmd [190, 191, 192, 194, 195, 196, 198] = true := by decide +kernel
noncomputable def zf_201 : zF := zden zX0 zi_201 (zlk [(190, zf_190), (191, zf_191), (192, zf_192), (194, zf_194), (195, zf_195), (196, zf_196), (198, zf_198)]) 2
/-- HillErrandsModel.readsFactor -/
theorem zs_201 : ∀ d, 4 ≤ d → zSnd d (zmd 201) zf_201 := by
  intro d hd
  obtain ⟨d, rfl⟩ : ∃ k, d = k + 1 := ⟨d - 1, by omega⟩
  have h := zsound (d := d) (l := [(190, zf_190), (191, zf_191), (192, zf_192), (194, zf_194), (195, zf_195), (196, zf_196), (198, zf_198)]) zo_201 (fun h => by cases h) zk_201 (fun q hq => by
    simp only [List.mem_cons, List.not_mem_nil, or_false] at hq
    rcases hq with rfl | rfl | rfl | rfl | rfl | rfl | rfl
    · exact zs_190 d (by omega)
    · exact zs_191 d (by omega)
    · exact zs_192 d (by omega)
    · exact zs_194 d (by omega)
    · exact zs_195 d (by omega)
    · exact zs_196 d (by omega)
    · exact zs_198 d (by omega))
  rw [ze_201] at h
  exact h
set_option maxRecDepth 100000 in
def zc_202 : List zE := [(0, 1, .iload_n 1, .iload 1, 0, 0), (1, 1, .istore_n 2, .istore 2, 0, 0), (2, 1, .iload_n 2, .iload 2, 0, 0), (3, 1, .aload_n 0, .aload 0, 0, 0), (4, 3, .getfield 209, .getfield 1215, 5223, 209), (7, 3, .if_icmp .ge 25, .if_icmp .ge 18, 0, 0), (10, 1, .aload_n 0, .aload 0, 0, 0), (11, 3, .getfield 29, .getstatic 1220, 5228, 29), (14, 1, .iload_n 2, .iload 2, 0, 0), (15, 1, .iaload, .iaload, 0, 0), (16, 2, .ldc 205, .iconst 1048576, 6236, 205), (18, 1, .idiv, .idiv, 0, 0), (19, 2, .bipush 14, .iconst 14, 0, 0), (21, 3, .if_icmp .ne 5, .if_icmp .ne 16, 0, 0), (24, 1, .iconst 1, .iconst 1, 0, 0), (25, 1, .ireturn, .lreturn, 0, 0), (26, 3, .iinc 2 1, .iinc 2 1, 0, 0), (29, 3, .goto (-27), .goto 2, 0, 0), (32, 1, .iconst 0, .iconst 0, 0, 0), (33, 1, .ireturn, .lreturn, 0, 0)]
set_option maxRecDepth 100000 in
def zi_202 : List Instr := [.iload 1, .istore 2, .iload 2, .aload 0, .getfield 1215, .if_icmp .ge 18, .aload 0, .getstatic 1220, .iload 2, .iaload, .iconst 1048576, .idiv, .iconst 14, .if_icmp .ne 16, .iconst 1, .lreturn, .iinc 2 1, .goto 2, .iconst 0, .lreturn]
set_option maxRecDepth 100000 in
theorem ze_202 : zc_202.map (fun e => e.2.2.2.1) = zi_202 := rfl
set_option maxRecDepth 100000 in
theorem zk_202 : zckm (zmd 202) false zc_202 zmd [] = true := by decide +kernel
noncomputable def zf_202 : zF := zden zX0 zi_202 (zlk []) 3
/-- HillErrandsModel.hasOpenSum -/
theorem zs_202 : ∀ d, 1 ≤ d → zSnd d (zmd 202) zf_202 := by
  intro d hd
  obtain ⟨d, rfl⟩ : ∃ k, d = k + 1 := ⟨d - 1, by omega⟩
  have h := zsound (d := d) (l := []) zo_202 (fun h => by cases h) zk_202 (fun q hq => by cases hq)
  rw [ze_202] at h
  exact h
set_option maxRecDepth 100000 in
def zc_203 : List zE := [(0, 1, .aload_n 0, .aload 0, 0, 0), (1, 3, .getfield 209, .getfield 1215, 5223, 209), (4, 1, .istore_n 1, .istore 1, 0, 0), (5, 1, .aload_n 0, .aload 0, 0, 0), (6, 3, .invokevirtual 229, .invokevirtual 2011210, 6228, 229), (9, 3, .ifCond .ne 5, .ifCond .ne 8, 0, 0), (12, 1, .iconst 0, .iconst 0, 0, 0), (13, 1, .ireturn, .lreturn, 0, 0), (14, 1, .aload_n 0, .aload 0, 0, 0), (15, 3, .invokevirtual 184, .invokevirtual 1901210, 6216, 184), (18, 3, .invokestatic 232, .invokestatic 1990011, 7012, 232), (21, 1, .istore_n 2, .istore 2, 0, 0), (22, 1, .iload_n 2, .iload 2, 0, 0), (23, 1, .iconst (-1), .iconst (-1), 0, 0), (24, 3, .if_icmp .eq 59, .if_icmp .eq 48, 0, 0), (27, 1, .aload_n 0, .aload 0, 0, 0), (28, 1, .iload_n 2, .iload 2, 0, 0), (29, 1, .iconst 4, .iconst 4, 0, 0), (30, 3, .if_icmp .ge 7, .if_icmp .ge 21, 0, 0), (33, 1, .iconst 1, .iconst 1, 0, 0), (34, 3, .goto 4, .goto 22, 0, 0), (37, 1, .iconst 0, .iconst 0, 0, 0), (38, 3, .invokevirtual 235, .invokevirtual 2001201, 7015, 235), (41, 1, .aload_n 0, .aload 0, 0, 0), (42, 3, .getfield 29, .getstatic 1220, 5228, 29), (45, 1, .aload_n 0, .aload 0, 0, 0), (46, 3, .getfield 209, .getfield 1215, 5223, 209), (49, 2, .ldc 205, .iconst 1048576, 6236, 205), (51, 1, .iload_n 2, .iload 2, 0, 0), (52, 1, .imul, .imul, 0, 0), (53, 1, .iastore, .iastore, 0, 0), (54, 1, .aload_n 0, .aload 0, 0, 0), (55, 1, .aload_n 0, .aload 0, 0, 0), (56, 3, .getfield 209, .getfield 1215, 5223, 209), (59, 1, .iconst 1, .iconst 1, 0, 0), (60, 1, .iadd, .iadd, 0, 0), (61, 3, .putfield 209, .putfield 1215, 5223, 209), (64, 1, .aload_n 0, .aload 0, 0, 0), (65, 1, .aload_n 0, .aload 0, 0, 0), (66, 3, .getfield 178, .getfield 1210, 5218, 178), (69, 1, .iconst 1, .iconst 1, 0, 0), (70, 1, .iadd, .iadd, 0, 0), (71, 3, .putfield 178, .putfield 1210, 5218, 178), (74, 1, .aload_n 0, .aload 0, 0, 0), (75, 3, .invokevirtual 229, .invokevirtual 2011210, 6228, 229), (78, 3, .ifCond .ne 85, .ifCond .ne 93, 0, 0), (81, 1, .iconst 0, .iconst 0, 0, 0), (82, 1, .ireturn, .lreturn, 0, 0), (83, 1, .aload_n 0, .aload 0, 0, 0), (84, 3, .invokevirtual 184, .invokevirtual 1901210, 6216, 184), (87, 2, .bipush 93, .iconst 93, 0, 0), (89, 3, .if_icmp .ne 49, .if_icmp .ne 78, 0, 0), (92, 1, .aload_n 0, .aload 0, 0, 0), (93, 1, .iload_n 1, .iload 1, 0, 0), (94, 3, .invokevirtual 239, .invokevirtual 2021211, 7023, 239), (97, 3, .ifCond .eq 41, .ifCond .eq 78, 0, 0), (100, 1, .aload_n 0, .aload 0, 0, 0), (101, 1, .iconst 1, .iconst 1, 0, 0), (102, 3, .invokevirtual 235, .invokevirtual 2001201, 7015, 235), (105, 1, .aload_n 0, .aload 0, 0, 0), (106, 1, .aload_n 0, .aload 0, 0, 0), (107, 3, .getfield 209, .getfield 1215, 5223, 209), (110, 1, .iconst 1, .iconst 1, 0, 0), (111, 1, .isub, .isub, 0, 0), (112, 3, .putfield 209, .putfield 1215, 5223, 209), (115, 1, .aload_n 0, .aload 0, 0, 0), (116, 1, .aload_n 0, .aload 0, 0, 0), (117, 3, .getfield 206, .getfield 1213, 5221, 206), (120, 1, .iconst 1, .iconst 1, 0, 0), (121, 1, .isub, .isub, 0, 0), (122, 3, .putfield 206, .putfield 1213, 5221, 206), (125, 1, .aload_n 0, .aload 0, 0, 0), (126, 1, .aload_n 0, .aload 0, 0, 0), (127, 3, .getfield 178, .getfield 1210, 5218, 178), (130, 1, .iconst 1, .iconst 1, 0, 0), (131, 1, .iadd, .iadd, 0, 0), (132, 3, .putfield 178, .putfield 1210, 5218, 178), (135, 3, .goto 28, .goto 93, 0, 0), (138, 1, .aload_n 0, .aload 0, 0, 0), (139, 1, .iload_n 1, .iload 1, 0, 0), (140, 3, .invokevirtual 239, .invokevirtual 2021211, 7023, 239), (143, 3, .ifCond .eq 13, .ifCond .eq 88, 0, 0), (146, 1, .aload_n 0, .aload 0, 0, 0), (147, 1, .iconst 1, .iconst 1, 0, 0), (148, 1, .aload_n 0, .aload 0, 0, 0), (149, 3, .getfield 178, .getfield 1210, 5218, 178), (152, 3, .invokevirtual 191, .invokevirtual 1921212, 6220, 191), (155, 1, .ireturn, .lreturn, 0, 0), (156, 1, .aload_n 0, .aload 0, 0, 0), (157, 1, .iconst 1, .iconst 1, 0, 0), (158, 3, .invokevirtual 235, .invokevirtual 2001201, 7015, 235), (161, 1, .iconst 1, .iconst 1, 0, 0), (162, 1, .ireturn, .lreturn, 0, 0), (163, 3, .goto (-149), .goto 8, 0, 0)]
set_option maxRecDepth 100000 in
def zi_203 : List Instr := [.aload 0, .getfield 1215, .istore 1, .aload 0, .invokevirtual 2011210, .ifCond .ne 8, .iconst 0, .lreturn, .aload 0, .invokevirtual 1901210, .invokestatic 1990011, .istore 2, .iload 2, .iconst (-1), .if_icmp .eq 48, .aload 0, .iload 2, .iconst 4, .if_icmp .ge 21, .iconst 1, .goto 22, .iconst 0, .invokevirtual 2001201, .aload 0, .getstatic 1220, .aload 0, .getfield 1215, .iconst 1048576, .iload 2, .imul, .iastore, .aload 0, .aload 0, .getfield 1215, .iconst 1, .iadd, .putfield 1215, .aload 0, .aload 0, .getfield 1210, .iconst 1, .iadd, .putfield 1210, .aload 0, .invokevirtual 2011210, .ifCond .ne 93, .iconst 0, .lreturn, .aload 0, .invokevirtual 1901210, .iconst 93, .if_icmp .ne 78, .aload 0, .iload 1, .invokevirtual 2021211, .ifCond .eq 78, .aload 0, .iconst 1, .invokevirtual 2001201, .aload 0, .aload 0, .getfield 1215, .iconst 1, .isub, .putfield 1215, .aload 0, .aload 0, .getfield 1213, .iconst 1, .isub, .putfield 1213, .aload 0, .aload 0, .getfield 1210, .iconst 1, .iadd, .putfield 1210, .goto 93, .aload 0, .iload 1, .invokevirtual 2021211, .ifCond .eq 88, .aload 0, .iconst 1, .aload 0, .getfield 1210, .invokevirtual 1921212, .lreturn, .aload 0, .iconst 1, .invokevirtual 2001201, .iconst 1, .lreturn, .goto 8]
set_option maxRecDepth 100000 in
theorem ze_203 : zc_203.map (fun e => e.2.2.2.1) = zi_203 := rfl
set_option maxRecDepth 100000 in
theorem zk_203 : zckm (zmd 203) false zc_203 zmd [190, 192, 199, 200, 201, 202] = true := by decide +kernel
noncomputable def zf_203 : zF := zden zX0 zi_203 (zlk [(190, zf_190), (192, zf_192), (199, zf_199), (200, zf_200), (201, zf_201), (202, zf_202)]) 3
/-- HillErrandsModel.readsSum -/
theorem zs_203 : ∀ d, 5 ≤ d → zSnd d (zmd 203) zf_203 := by
  intro d hd
  obtain ⟨d, rfl⟩ : ∃ k, d = k + 1 := ⟨d - 1, by omega⟩
  have h := zsound (d := d) (l := [(190, zf_190), (192, zf_192), (199, zf_199), (200, zf_200), (201, zf_201), (202, zf_202)]) zo_203 (fun h => by cases h) zk_203 (fun q hq => by
    simp only [List.mem_cons, List.not_mem_nil, or_false] at hq
    rcases hq with rfl | rfl | rfl | rfl | rfl | rfl
    · exact zs_190 d (by omega)
    · exact zs_192 d (by omega)
    · exact zs_199 d (by omega)
    · exact zs_200 d (by omega)
    · exact zs_201 d (by omega)
    · exact zs_202 d (by omega))
  rw [ze_203] at h
  exact h
set_option maxRecDepth 100000 in
def zc_204 : List zE := [(0, 1, .aload_n 0, .aload 0, 0, 0), (1, 3, .invokevirtual 212, .invokevirtual 1971210, 7019, 212), (4, 2, .bipush 10, .iconst 10, 0, 0), (6, 3, .if_icmp .ne 33, .if_icmp .ne 21, 0, 0), (9, 1, .aload_n 0, .aload 0, 0, 0), (10, 2, .bipush 10, .iconst 10, 0, 0), (12, 1, .iconst 0, .iconst 0, 0, 0), (13, 3, .invokevirtual 215, .invokevirtual 1951202, 7005, 215), (16, 1, .aload_n 0, .aload 0, 0, 0), (17, 1, .aload_n 0, .aload 0, 0, 0), (18, 3, .getfield 209, .getfield 1215, 5223, 209), (21, 1, .iconst 1, .iconst 1, 0, 0), (22, 1, .isub, .isub, 0, 0), (23, 3, .putfield 209, .putfield 1215, 5223, 209), (26, 1, .aload_n 0, .aload 0, 0, 0), (27, 1, .aload_n 0, .aload 0, 0, 0), (28, 3, .getfield 206, .getfield 1213, 5221, 206), (31, 1, .iconst 1, .iconst 1, 0, 0), (32, 1, .isub, .isub, 0, 0), (33, 3, .putfield 206, .putfield 1213, 5221, 206), (36, 3, .goto (-36), .goto 0, 0, 0), (39, 1, .return_, .return_, 0, 0)]
set_option maxRecDepth 100000 in
def zi_204 : List Instr := [.aload 0, .invokevirtual 1971210, .iconst 10, .if_icmp .ne 21, .aload 0, .iconst 10, .iconst 0, .invokevirtual 1951202, .aload 0, .aload 0, .getfield 1215, .iconst 1, .isub, .putfield 1215, .aload 0, .aload 0, .getfield 1213, .iconst 1, .isub, .putfield 1213, .goto 0, .return_]
set_option maxRecDepth 100000 in
theorem ze_204 : zc_204.map (fun e => e.2.2.2.1) = zi_204 := rfl
set_option maxRecDepth 100000 in
theorem zk_204 : zckm (zmd 204) false zc_204 zmd [195, 197] = true := by decide +kernel
noncomputable def zf_204 : zF := zden zX0 zi_204 (zlk [(195, zf_195), (197, zf_197)]) 1
/-- HillErrandsModel.endsPiece -/
theorem zs_204 : ∀ d, 2 ≤ d → zSnd d (zmd 204) zf_204 := by
  intro d hd
  obtain ⟨d, rfl⟩ : ∃ k, d = k + 1 := ⟨d - 1, by omega⟩
  have h := zsound (d := d) (l := [(195, zf_195), (197, zf_197)]) zo_204 (fun h => by cases h) zk_204 (fun q hq => by
    simp only [List.mem_cons, List.not_mem_nil, or_false] at hq
    rcases hq with rfl | rfl
    · exact zs_195 d (by omega)
    · exact zs_197 d (by omega))
  rw [ze_204] at h
  exact h
set_option maxRecDepth 100000 in
def zc_205 : List zE := [(0, 1, .aload_n 0, .aload 0, 0, 0), (1, 3, .invokevirtual 212, .invokevirtual 1971210, 7019, 212), (4, 2, .bipush 11, .iconst 11, 0, 0), (6, 3, .if_icmp .eq 16, .if_icmp .eq 10, 0, 0), (9, 1, .iload_n 1, .iload 1, 0, 0), (10, 3, .ifCond .eq 63, .ifCond .eq 42, 0, 0), (13, 1, .aload_n 0, .aload 0, 0, 0), (14, 3, .invokevirtual 212, .invokevirtual 1971210, 7019, 212), (17, 2, .bipush 12, .iconst 12, 0, 0), (19, 3, .if_icmp .ne 54, .if_icmp .ne 42, 0, 0), (22, 1, .aload_n 0, .aload 0, 0, 0), (23, 3, .getfield 29, .getstatic 1220, 5228, 29), (26, 1, .aload_n 0, .aload 0, 0, 0), (27, 3, .getfield 209, .getfield 1215, 5223, 209), (30, 1, .iconst 1, .iconst 1, 0, 0), (31, 1, .isub, .isub, 0, 0), (32, 1, .iaload, .iaload, 0, 0), (33, 2, .ldc 205, .iconst 1048576, 6236, 205), (35, 1, .irem, .irem, 0, 0), (36, 1, .istore_n 2, .istore 2, 0, 0), (37, 1, .aload_n 0, .aload 0, 0, 0), (38, 3, .getfield 26, .getstatic 1219, 5227, 26), (41, 1, .iload_n 2, .iload 2, 0, 0), (42, 2, .ldc 205, .iconst 1048576, 6236, 205), (44, 1, .aload_n 0, .aload 0, 0, 0), (45, 3, .getfield 26, .getstatic 1219, 5227, 26), (48, 1, .iload_n 2, .iload 2, 0, 0), (49, 1, .iaload, .iaload, 0, 0), (50, 2, .ldc 205, .iconst 1048576, 6236, 205), (52, 1, .idiv, .idiv, 0, 0), (53, 1, .imul, .imul, 0, 0), (54, 1, .aload_n 0, .aload 0, 0, 0), (55, 3, .getfield 202, .getfield 1214, 5222, 202), (58, 1, .iadd, .iadd, 0, 0), (59, 1, .iastore, .iastore, 0, 0), (60, 1, .aload_n 0, .aload 0, 0, 0), (61, 1, .aload_n 0, .aload 0, 0, 0), (62, 3, .getfield 209, .getfield 1215, 5223, 209), (65, 1, .iconst 1, .iconst 1, 0, 0), (66, 1, .isub, .isub, 0, 0), (67, 3, .putfield 209, .putfield 1215, 5223, 209), (70, 3, .goto (-70), .goto 0, 0, 0), (73, 1, .return_, .return_, 0, 0)]
set_option maxRecDepth 100000 in
def zi_205 : List Instr := [.aload 0, .invokevirtual 1971210, .iconst 11, .if_icmp .eq 10, .iload 1, .ifCond .eq 42, .aload 0, .invokevirtual 1971210, .iconst 12, .if_icmp .ne 42, .aload 0, .getstatic 1220, .aload 0, .getfield 1215, .iconst 1, .isub, .iaload, .iconst 1048576, .irem, .istore 2, .aload 0, .getstatic 1219, .iload 2, .iconst 1048576, .aload 0, .getstatic 1219, .iload 2, .iaload, .iconst 1048576, .idiv, .imul, .aload 0, .getfield 1214, .iadd, .iastore, .aload 0, .aload 0, .getfield 1215, .iconst 1, .isub, .putfield 1215, .goto 0, .return_]
set_option maxRecDepth 100000 in
theorem ze_205 : zc_205.map (fun e => e.2.2.2.1) = zi_205 := rfl
set_option maxRecDepth 100000 in
theorem zk_205 : zckm (zmd 205) false zc_205 zmd [197] = true := by decide +kernel
noncomputable def zf_205 : zF := zden zX0 zi_205 (zlk [(197, zf_197)]) 3
/-- HillErrandsModel.lands -/
theorem zs_205 : ∀ d, 2 ≤ d → zSnd d (zmd 205) zf_205 := by
  intro d hd
  obtain ⟨d, rfl⟩ : ∃ k, d = k + 1 := ⟨d - 1, by omega⟩
  have h := zsound (d := d) (l := [(197, zf_197)]) zo_205 (fun h => by cases h) zk_205 (fun q hq => by
    simp only [List.mem_cons, List.not_mem_nil, or_false] at hq
    subst hq
    · exact zs_197 d (by omega))
  rw [ze_205] at h
  exact h
set_option maxRecDepth 100000 in
def zc_206 : List zE := [(0, 1, .aload_n 0, .aload 0, 0, 0), (1, 3, .getfield 29, .getstatic 1220, 5228, 29), (4, 1, .aload_n 0, .aload 0, 0, 0), (5, 3, .getfield 209, .getfield 1215, 5223, 209), (8, 2, .ldc 205, .iconst 1048576, 6236, 205), (10, 1, .iload_n 1, .iload 1, 0, 0), (11, 1, .imul, .imul, 0, 0), (12, 1, .aload_n 0, .aload 0, 0, 0), (13, 3, .getfield 202, .getfield 1214, 5222, 202), (16, 1, .iadd, .iadd, 0, 0), (17, 1, .iastore, .iastore, 0, 0), (18, 1, .aload_n 0, .aload 0, 0, 0), (19, 1, .aload_n 0, .aload 0, 0, 0), (20, 3, .getfield 209, .getfield 1215, 5223, 209), (23, 1, .iconst 1, .iconst 1, 0, 0), (24, 1, .iadd, .iadd, 0, 0), (25, 3, .putfield 209, .putfield 1215, 5223, 209), (28, 1, .aload_n 0, .aload 0, 0, 0), (29, 1, .iload_n 1, .iload 1, 0, 0), (30, 1, .iconst 0, .iconst 0, 0, 0), (31, 3, .invokevirtual 215, .invokevirtual 1951202, 7005, 215), (34, 1, .aload_n 0, .aload 0, 0, 0), (35, 1, .aload_n 0, .aload 0, 0, 0), (36, 3, .getfield 178, .getfield 1210, 5218, 178), (39, 1, .iconst 1, .iconst 1, 0, 0), (40, 1, .iadd, .iadd, 0, 0), (41, 3, .putfield 178, .putfield 1210, 5218, 178), (44, 1, .return_, .return_, 0, 0)]
set_option maxRecDepth 100000 in
def zi_206 : List Instr := [.aload 0, .getstatic 1220, .aload 0, .getfield 1215, .iconst 1048576, .iload 1, .imul, .aload 0, .getfield 1214, .iadd, .iastore, .aload 0, .aload 0, .getfield 1215, .iconst 1, .iadd, .putfield 1215, .aload 0, .iload 1, .iconst 0, .invokevirtual 1951202, .aload 0, .aload 0, .getfield 1210, .iconst 1, .iadd, .putfield 1210, .return_]
set_option maxRecDepth 100000 in
theorem ze_206 : zc_206.map (fun e => e.2.2.2.1) = zi_206 := rfl
set_option maxRecDepth 100000 in
theorem zk_206 : zckm (zmd 206) false zc_206 zmd [195] = true := by decide +kernel
noncomputable def zf_206 : zF := zden zX0 zi_206 (zlk [(195, zf_195)]) 2
/-- HillErrandsModel.jumps -/
theorem zs_206 : ∀ d, 2 ≤ d → zSnd d (zmd 206) zf_206 := by
  intro d hd
  obtain ⟨d, rfl⟩ : ∃ k, d = k + 1 := ⟨d - 1, by omega⟩
  have h := zsound (d := d) (l := [(195, zf_195)]) zo_206 (fun h => by cases h) zk_206 (fun q hq => by
    simp only [List.mem_cons, List.not_mem_nil, or_false] at hq
    subst hq
    · exact zs_195 d (by omega))
  rw [ze_206] at h
  exact h
set_option maxRecDepth 100000 in
def zc_207 : List zE := [(0, 1, .aload_n 0, .aload 0, 0, 0), (1, 3, .invokevirtual 242, .invokevirtual 2031210, 6224, 242), (4, 3, .ifCond .ne 5, .ifCond .ne 5, 0, 0), (7, 1, .iconst 0, .iconst 0, 0, 0), (8, 1, .ireturn, .lreturn, 0, 0), (9, 1, .aload_n 0, .aload 0, 0, 0), (10, 3, .invokevirtual 184, .invokevirtual 1901210, 6216, 184), (13, 2, .bipush 60, .iconst 60, 0, 0), (15, 3, .if_icmp .ne 8, .if_icmp .ne 11, 0, 0), (18, 2, .bipush 7, .iconst 7, 0, 0), (20, 3, .goto 32, .goto 24, 0, 0), (23, 1, .aload_n 0, .aload 0, 0, 0), (24, 3, .invokevirtual 184, .invokevirtual 1901210, 6216, 184), (27, 2, .bipush 62, .iconst 62, 0, 0), (29, 3, .if_icmp .ne 8, .if_icmp .ne 17, 0, 0), (32, 2, .bipush 8, .iconst 8, 0, 0), (34, 3, .goto 18, .goto 24, 0, 0), (37, 1, .aload_n 0, .aload 0, 0, 0), (38, 3, .invokevirtual 184, .invokevirtual 1901210, 6216, 184), (41, 2, .bipush 61, .iconst 61, 0, 0), (43, 3, .if_icmp .ne 8, .if_icmp .ne 23, 0, 0), (46, 2, .bipush 9, .iconst 9, 0, 0), (48, 3, .goto 4, .goto 24, 0, 0), (51, 1, .iconst (-1), .iconst (-1), 0, 0), (52, 1, .istore_n 1, .istore 1, 0, 0), (53, 1, .iload_n 1, .iload 1, 0, 0), (54, 1, .iconst (-1), .iconst (-1), 0, 0), (55, 3, .if_icmp .ne 13, .if_icmp .ne 34, 0, 0), (58, 1, .aload_n 0, .aload 0, 0, 0), (59, 1, .iconst 1, .iconst 1, 0, 0), (60, 1, .aload_n 0, .aload 0, 0, 0), (61, 3, .getfield 178, .getfield 1210, 5218, 178), (64, 3, .invokevirtual 191, .invokevirtual 1921212, 6220, 191), (67, 1, .ireturn, .lreturn, 0, 0), (68, 1, .aload_n 0, .aload 0, 0, 0), (69, 1, .aload_n 0, .aload 0, 0, 0), (70, 3, .getfield 178, .getfield 1210, 5218, 178), (73, 1, .iconst 1, .iconst 1, 0, 0), (74, 1, .iadd, .iadd, 0, 0), (75, 3, .putfield 178, .putfield 1210, 5218, 178), (78, 1, .aload_n 0, .aload 0, 0, 0), (79, 3, .invokevirtual 242, .invokevirtual 2031210, 6224, 242), (82, 3, .ifCond .ne 5, .ifCond .ne 45, 0, 0), (85, 1, .iconst 0, .iconst 0, 0, 0), (86, 1, .ireturn, .lreturn, 0, 0), (87, 1, .aload_n 0, .aload 0, 0, 0), (88, 1, .iload_n 1, .iload 1, 0, 0), (89, 1, .iconst 0, .iconst 0, 0, 0), (90, 3, .invokevirtual 215, .invokevirtual 1951202, 7005, 215), (93, 1, .aload_n 0, .aload 0, 0, 0), (94, 3, .invokevirtual 245, .invokevirtual 2041200, 7035, 245), (97, 1, .iconst 1, .iconst 1, 0, 0), (98, 1, .ireturn, .lreturn, 0, 0)]
set_option maxRecDepth 100000 in
def zi_207 : List Instr := [.aload 0, .invokevirtual 2031210, .ifCond .ne 5, .iconst 0, .lreturn, .aload 0, .invokevirtual 1901210, .iconst 60, .if_icmp .ne 11, .iconst 7, .goto 24, .aload 0, .invokevirtual 1901210, .iconst 62, .if_icmp .ne 17, .iconst 8, .goto 24, .aload 0, .invokevirtual 1901210, .iconst 61, .if_icmp .ne 23, .iconst 9, .goto 24, .iconst (-1), .istore 1, .iload 1, .iconst (-1), .if_icmp .ne 34, .aload 0, .iconst 1, .aload 0, .getfield 1210, .invokevirtual 1921212, .lreturn, .aload 0, .aload 0, .getfield 1210, .iconst 1, .iadd, .putfield 1210, .aload 0, .invokevirtual 2031210, .ifCond .ne 45, .iconst 0, .lreturn, .aload 0, .iload 1, .iconst 0, .invokevirtual 1951202, .aload 0, .invokevirtual 2041200, .iconst 1, .lreturn]
set_option maxRecDepth 100000 in
theorem ze_207 : zc_207.map (fun e => e.2.2.2.1) = zi_207 := rfl
set_option maxRecDepth 100000 in
theorem zk_207 : zckm (zmd 207) false zc_207 zmd [190, 192, 195, 203, 204] = true := by decide +kernel
noncomputable def zf_207 : zF := zden zX0 zi_207 (zlk [(190, zf_190), (192, zf_192), (195, zf_195), (203, zf_203), (204, zf_204)]) 2
/-- HillErrandsModel.readsCompared -/
theorem zs_207 : ∀ d, 6 ≤ d → zSnd d (zmd 207) zf_207 := by
  intro d hd
  obtain ⟨d, rfl⟩ : ∃ k, d = k + 1 := ⟨d - 1, by omega⟩
  have h := zsound (d := d) (l := [(190, zf_190), (192, zf_192), (195, zf_195), (203, zf_203), (204, zf_204)]) zo_207 (fun h => by cases h) zk_207 (fun q hq => by
    simp only [List.mem_cons, List.not_mem_nil, or_false] at hq
    rcases hq with rfl | rfl | rfl | rfl | rfl
    · exact zs_190 d (by omega)
    · exact zs_192 d (by omega)
    · exact zs_195 d (by omega)
    · exact zs_203 d (by omega)
    · exact zs_204 d (by omega))
  rw [ze_207] at h
  exact h
set_option maxRecDepth 100000 in
def zc_208 : List zE := [(0, 1, .aload_n 0, .aload 0, 0, 0), (1, 3, .invokevirtual 184, .invokevirtual 1901210, 6216, 184), (4, 2, .bipush 40, .iconst 40, 0, 0), (6, 3, .if_icmp .eq 13, .if_icmp .eq 10, 0, 0), (9, 1, .aload_n 0, .aload 0, 0, 0), (10, 1, .iconst 1, .iconst 1, 0, 0), (11, 1, .aload_n 0, .aload 0, 0, 0), (12, 3, .getfield 178, .getfield 1210, 5218, 178), (15, 3, .invokevirtual 191, .invokevirtual 1921212, 6220, 191), (18, 1, .ireturn, .lreturn, 0, 0), (19, 1, .aload_n 0, .aload 0, 0, 0), (20, 1, .iconst 0, .iconst 0, 0, 0), (21, 3, .putfield 206, .putfield 1213, 5221, 206), (24, 1, .aload_n 0, .aload 0, 0, 0), (25, 1, .iconst 0, .iconst 0, 0, 0), (26, 3, .putfield 209, .putfield 1215, 5223, 209), (29, 1, .aload_n 0, .aload 0, 0, 0), (30, 2, .bipush 13, .iconst 13, 0, 0), (32, 3, .invokevirtual 219, .invokevirtual 1961211, 6232, 219), (35, 3, .ifCond .ne 5, .ifCond .ne 22, 0, 0), (38, 1, .iconst 0, .iconst 0, 0, 0), (39, 1, .ireturn, .lreturn, 0, 0), (40, 1, .aload_n 0, .aload 0, 0, 0), (41, 3, .invokevirtual 184, .invokevirtual 1901210, 6216, 184), (44, 2, .bipush 33, .iconst 33, 0, 0), (46, 3, .if_icmp .eq 12, .if_icmp .eq 30, 0, 0), (49, 1, .aload_n 0, .aload 0, 0, 0), (50, 3, .invokevirtual 184, .invokevirtual 1901210, 6216, 184), (53, 2, .bipush 40, .iconst 40, 0, 0), (55, 3, .if_icmp .ne 28, .if_icmp .ne 42, 0, 0), (58, 1, .aload_n 0, .aload 0, 0, 0), (59, 1, .aload_n 0, .aload 0, 0, 0), (60, 3, .invokevirtual 184, .invokevirtual 1901210, 6216, 184), (63, 2, .bipush 33, .iconst 33, 0, 0), (65, 3, .if_icmp .ne 8, .if_icmp .ne 37, 0, 0), (68, 2, .bipush 10, .iconst 10, 0, 0), (70, 3, .goto 5, .goto 38, 0, 0), (73, 2, .bipush 13, .iconst 13, 0, 0), (75, 3, .invokevirtual 219, .invokevirtual 1961211, 6232, 219), (78, 3, .ifCond .ne (-38), .ifCond .ne 22, 0, 0), (81, 1, .iconst 0, .iconst 0, 0, 0), (82, 1, .ireturn, .lreturn, 0, 0), (83, 1, .aload_n 0, .aload 0, 0, 0), (84, 3, .invokevirtual 248, .invokevirtual 2071210, 7031, 248), (87, 3, .ifCond .ne 5, .ifCond .ne 47, 0, 0), (90, 1, .iconst 0, .iconst 0, 0, 0), (91, 1, .ireturn, .lreturn, 0, 0), (92, 1, .aload_n 0, .aload 0, 0, 0), (93, 3, .invokevirtual 184, .invokevirtual 1901210, 6216, 184), (96, 2, .bipush 41, .iconst 41, 0, 0), (98, 3, .if_icmp .ne 54, .if_icmp .ne 80, 0, 0), (101, 1, .aload_n 0, .aload 0, 0, 0), (102, 1, .iconst 1, .iconst 1, 0, 0), (103, 3, .invokevirtual 251, .invokevirtual 2051201, 7039, 251), (106, 1, .aload_n 0, .aload 0, 0, 0), (107, 1, .aload_n 0, .aload 0, 0, 0), (108, 3, .getfield 209, .getfield 1215, 5223, 209), (111, 1, .iconst 1, .iconst 1, 0, 0), (112, 1, .isub, .isub, 0, 0), (113, 3, .putfield 209, .putfield 1215, 5223, 209), (116, 1, .aload_n 0, .aload 0, 0, 0), (117, 1, .aload_n 0, .aload 0, 0, 0), (118, 3, .getfield 206, .getfield 1213, 5221, 206), (121, 1, .iconst 1, .iconst 1, 0, 0), (122, 1, .isub, .isub, 0, 0), (123, 3, .putfield 206, .putfield 1213, 5221, 206), (126, 1, .aload_n 0, .aload 0, 0, 0), (127, 1, .aload_n 0, .aload 0, 0, 0), (128, 3, .getfield 178, .getfield 1210, 5218, 178), (131, 1, .iconst 1, .iconst 1, 0, 0), (132, 1, .iadd, .iadd, 0, 0), (133, 3, .putfield 178, .putfield 1210, 5218, 178), (136, 1, .aload_n 0, .aload 0, 0, 0), (137, 3, .getfield 209, .getfield 1215, 5223, 209), (140, 3, .ifCond .ne 5, .ifCond .ne 77, 0, 0), (143, 1, .iconst 1, .iconst 1, 0, 0), (144, 1, .ireturn, .lreturn, 0, 0), (145, 1, .aload_n 0, .aload 0, 0, 0), (146, 3, .invokevirtual 245, .invokevirtual 2041200, 7035, 245), (149, 3, .goto (-57), .goto 47, 0, 0), (152, 1, .aload_n 0, .aload 0, 0, 0), (153, 3, .invokevirtual 184, .invokevirtual 1901210, 6216, 184), (156, 2, .bipush 38, .iconst 38, 0, 0), (158, 3, .if_icmp .eq 22, .if_icmp .eq 94, 0, 0), (161, 1, .aload_n 0, .aload 0, 0, 0), (162, 3, .invokevirtual 184, .invokevirtual 1901210, 6216, 184), (165, 2, .bipush 124, .iconst 124, 0, 0), (167, 3, .if_icmp .eq 13, .if_icmp .eq 94, 0, 0), (170, 1, .aload_n 0, .aload 0, 0, 0), (171, 1, .iconst 1, .iconst 1, 0, 0), (172, 1, .aload_n 0, .aload 0, 0, 0), (173, 3, .getfield 178, .getfield 1210, 5218, 178), (176, 3, .invokevirtual 191, .invokevirtual 1921212, 6220, 191), (179, 1, .ireturn, .lreturn, 0, 0), (180, 1, .aload_n 0, .aload 0, 0, 0), (181, 1, .aload_n 0, .aload 0, 0, 0), (182, 3, .invokevirtual 184, .invokevirtual 1901210, 6216, 184), (185, 2, .bipush 124, .iconst 124, 0, 0), (187, 3, .if_icmp .ne 7, .if_icmp .ne 101, 0, 0), (190, 1, .iconst 1, .iconst 1, 0, 0), (191, 3, .goto 4, .goto 102, 0, 0), (194, 1, .iconst 0, .iconst 0, 0, 0), (195, 3, .invokevirtual 251, .invokevirtual 2051201, 7039, 251), (198, 1, .aload_n 0, .aload 0, 0, 0), (199, 1, .aload_n 0, .aload 0, 0, 0), (200, 3, .invokevirtual 184, .invokevirtual 1901210, 6216, 184), (203, 2, .bipush 38, .iconst 38, 0, 0), (205, 3, .if_icmp .ne 8, .if_icmp .ne 110, 0, 0), (208, 2, .bipush 11, .iconst 11, 0, 0), (210, 3, .goto 5, .goto 111, 0, 0), (213, 2, .bipush 12, .iconst 12, 0, 0), (215, 3, .invokevirtual 254, .invokevirtual 2061201, 7043, 254), (218, 3, .goto (-178), .goto 22, 0, 0)]
set_option maxRecDepth 100000 in
def zi_208 : List Instr := [.aload 0, .invokevirtual 1901210, .iconst 40, .if_icmp .eq 10, .aload 0, .iconst 1, .aload 0, .getfield 1210, .invokevirtual 1921212, .lreturn, .aload 0, .iconst 0, .putfield 1213, .aload 0, .iconst 0, .putfield 1215, .aload 0, .iconst 13, .invokevirtual 1961211, .ifCond .ne 22, .iconst 0, .lreturn, .aload 0, .invokevirtual 1901210, .iconst 33, .if_icmp .eq 30, .aload 0, .invokevirtual 1901210, .iconst 40, .if_icmp .ne 42, .aload 0, .aload 0, .invokevirtual 1901210, .iconst 33, .if_icmp .ne 37, .iconst 10, .goto 38, .iconst 13, .invokevirtual 1961211, .ifCond .ne 22, .iconst 0, .lreturn, .aload 0, .invokevirtual 2071210, .ifCond .ne 47, .iconst 0, .lreturn, .aload 0, .invokevirtual 1901210, .iconst 41, .if_icmp .ne 80, .aload 0, .iconst 1, .invokevirtual 2051201, .aload 0, .aload 0, .getfield 1215, .iconst 1, .isub, .putfield 1215, .aload 0, .aload 0, .getfield 1213, .iconst 1, .isub, .putfield 1213, .aload 0, .aload 0, .getfield 1210, .iconst 1, .iadd, .putfield 1210, .aload 0, .getfield 1215, .ifCond .ne 77, .iconst 1, .lreturn, .aload 0, .invokevirtual 2041200, .goto 47, .aload 0, .invokevirtual 1901210, .iconst 38, .if_icmp .eq 94, .aload 0, .invokevirtual 1901210, .iconst 124, .if_icmp .eq 94, .aload 0, .iconst 1, .aload 0, .getfield 1210, .invokevirtual 1921212, .lreturn, .aload 0, .aload 0, .invokevirtual 1901210, .iconst 124, .if_icmp .ne 101, .iconst 1, .goto 102, .iconst 0, .invokevirtual 2051201, .aload 0, .aload 0, .invokevirtual 1901210, .iconst 38, .if_icmp .ne 110, .iconst 11, .goto 111, .iconst 12, .invokevirtual 2061201, .goto 22]
set_option maxRecDepth 100000 in
theorem ze_208 : zc_208.map (fun e => e.2.2.2.1) = zi_208 := rfl
set_option maxRecDepth 100000 in
theorem zk_208 : zckm (zmd 208) false zc_208 zmd [190, 192, 196, 204, 205, 206, 207] = true := by decide +kernel
noncomputable def zf_208 : zF := zden zX0 zi_208 (zlk [(190, zf_190), (192, zf_192), (196, zf_196), (204, zf_204), (205, zf_205), (206, zf_206), (207, zf_207)]) 1
/-- HillErrandsModel.readsCondition -/
theorem zs_208 : ∀ d, 7 ≤ d → zSnd d (zmd 208) zf_208 := by
  intro d hd
  obtain ⟨d, rfl⟩ : ∃ k, d = k + 1 := ⟨d - 1, by omega⟩
  have h := zsound (d := d) (l := [(190, zf_190), (192, zf_192), (196, zf_196), (204, zf_204), (205, zf_205), (206, zf_206), (207, zf_207)]) zo_208 (fun h => by cases h) zk_208 (fun q hq => by
    simp only [List.mem_cons, List.not_mem_nil, or_false] at hq
    rcases hq with rfl | rfl | rfl | rfl | rfl | rfl | rfl
    · exact zs_190 d (by omega)
    · exact zs_192 d (by omega)
    · exact zs_196 d (by omega)
    · exact zs_204 d (by omega)
    · exact zs_205 d (by omega)
    · exact zs_206 d (by omega)
    · exact zs_207 d (by omega))
  rw [ze_208] at h
  exact h
set_option maxRecDepth 100000 in
def zc_209 : List zE := [(0, 1, .aload_n 0, .aload 0, 0, 0), (1, 3, .invokevirtual 184, .invokevirtual 1901210, 6216, 184), (4, 1, .istore_n 1, .istore 1, 0, 0), (5, 1, .iload_n 1, .iload 1, 0, 0), (6, 2, .bipush 110, .iconst 110, 0, 0), (8, 3, .if_icmp .eq 19, .if_icmp .eq 15, 0, 0), (11, 1, .iload_n 1, .iload 1, 0, 0), (12, 2, .bipush 99, .iconst 99, 0, 0), (14, 3, .if_icmp .eq 13, .if_icmp .eq 15, 0, 0), (17, 1, .aload_n 0, .aload 0, 0, 0), (18, 1, .iconst 1, .iconst 1, 0, 0), (19, 1, .aload_n 0, .aload 0, 0, 0), (20, 3, .getfield 178, .getfield 1210, 5218, 178), (23, 3, .invokevirtual 191, .invokevirtual 1921212, 6220, 191), (26, 1, .ireturn, .lreturn, 0, 0), (27, 1, .aload_n 0, .aload 0, 0, 0), (28, 3, .getfield 257, .getfield 1216, 5224, 257), (31, 2, .bipush 12, .iconst 12, 0, 0), (33, 3, .if_icmp .ne 13, .if_icmp .ne 25, 0, 0), (36, 1, .aload_n 0, .aload 0, 0, 0), (37, 1, .iconst 4, .iconst 4, 0, 0), (38, 1, .aload_n 0, .aload 0, 0, 0), (39, 3, .getfield 178, .getfield 1210, 5218, 178), (42, 3, .invokevirtual 191, .invokevirtual 1921212, 6220, 191), (45, 1, .ireturn, .lreturn, 0, 0), (46, 1, .aload_n 0, .aload 0, 0, 0), (47, 3, .getfield 32, .getstatic 1221, 5229, 32), (50, 1, .aload_n 0, .aload 0, 0, 0), (51, 3, .getfield 257, .getfield 1216, 5224, 257), (54, 1, .iload_n 1, .iload 1, 0, 0), (55, 1, .iastore, .iastore, 0, 0), (56, 1, .aload_n 0, .aload 0, 0, 0), (57, 1, .aload_n 0, .aload 0, 0, 0), (58, 3, .getfield 178, .getfield 1210, 5218, 178), (61, 1, .iconst 1, .iconst 1, 0, 0), (62, 1, .iadd, .iadd, 0, 0), (63, 3, .putfield 178, .putfield 1210, 5218, 178), (66, 1, .aload_n 0, .aload 0, 0, 0), (67, 3, .getfield 35, .getstatic 1222, 5230, 35), (70, 1, .aload_n 0, .aload 0, 0, 0), (71, 3, .getfield 257, .getfield 1216, 5224, 257), (74, 1, .aload_n 0, .aload 0, 0, 0), (75, 3, .getfield 202, .getfield 1214, 5222, 202), (78, 1, .iastore, .iastore, 0, 0), (79, 1, .aload_n 0, .aload 0, 0, 0), (80, 1, .iconst 0, .iconst 0, 0, 0), (81, 3, .putfield 206, .putfield 1213, 5221, 206), (84, 1, .aload_n 0, .aload 0, 0, 0), (85, 1, .iconst 0, .iconst 0, 0, 0), (86, 3, .putfield 209, .putfield 1215, 5223, 209), (89, 1, .iload_n 1, .iload 1, 0, 0), (90, 2, .bipush 99, .iconst 99, 0, 0), (92, 3, .if_icmp .ne 12, .if_icmp .ne 58, 0, 0), (95, 1, .aload_n 0, .aload 0, 0, 0), (96, 3, .invokevirtual 242, .invokevirtual 2031210, 6224, 242), (99, 3, .ifCond .ne 5, .ifCond .ne 58, 0, 0), (102, 1, .iconst 0, .iconst 0, 0, 0), (103, 1, .ireturn, .lreturn, 0, 0), (104, 1, .aload_n 0, .aload 0, 0, 0), (105, 3, .getfield 38, .getstatic 1223, 5231, 38), (108, 1, .aload_n 0, .aload 0, 0, 0), (109, 3, .getfield 257, .getfield 1216, 5224, 257), (112, 1, .aload_n 0, .aload 0, 0, 0), (113, 3, .getfield 202, .getfield 1214, 5222, 202), (116, 1, .iastore, .iastore, 0, 0), (117, 1, .aload_n 0, .aload 0, 0, 0), (118, 3, .invokevirtual 260, .invokevirtual 2081210, 7027, 260), (121, 3, .ifCond .ne 5, .ifCond .ne 70, 0, 0), (124, 1, .iconst 0, .iconst 0, 0, 0), (125, 1, .ireturn, .lreturn, 0, 0), (126, 1, .aload_n 0, .aload 0, 0, 0), (127, 3, .getfield 41, .getstatic 1224, 5232, 41), (130, 1, .aload_n 0, .aload 0, 0, 0), (131, 3, .getfield 257, .getfield 1216, 5224, 257), (134, 1, .aload_n 0, .aload 0, 0, 0), (135, 3, .getfield 202, .getfield 1214, 5222, 202), (138, 1, .iastore, .iastore, 0, 0), (139, 1, .aload_n 0, .aload 0, 0, 0), (140, 1, .aload_n 0, .aload 0, 0, 0), (141, 3, .getfield 257, .getfield 1216, 5224, 257), (144, 1, .iconst 1, .iconst 1, 0, 0), (145, 1, .iadd, .iadd, 0, 0), (146, 3, .putfield 257, .putfield 1216, 5224, 257), (149, 1, .iconst 1, .iconst 1, 0, 0), (150, 1, .ireturn, .lreturn, 0, 0)]
set_option maxRecDepth 100000 in
def zi_209 : List Instr := [.aload 0, .invokevirtual 1901210, .istore 1, .iload 1, .iconst 110, .if_icmp .eq 15, .iload 1, .iconst 99, .if_icmp .eq 15, .aload 0, .iconst 1, .aload 0, .getfield 1210, .invokevirtual 1921212, .lreturn, .aload 0, .getfield 1216, .iconst 12, .if_icmp .ne 25, .aload 0, .iconst 4, .aload 0, .getfield 1210, .invokevirtual 1921212, .lreturn, .aload 0, .getstatic 1221, .aload 0, .getfield 1216, .iload 1, .iastore, .aload 0, .aload 0, .getfield 1210, .iconst 1, .iadd, .putfield 1210, .aload 0, .getstatic 1222, .aload 0, .getfield 1216, .aload 0, .getfield 1214, .iastore, .aload 0, .iconst 0, .putfield 1213, .aload 0, .iconst 0, .putfield 1215, .iload 1, .iconst 99, .if_icmp .ne 58, .aload 0, .invokevirtual 2031210, .ifCond .ne 58, .iconst 0, .lreturn, .aload 0, .getstatic 1223, .aload 0, .getfield 1216, .aload 0, .getfield 1214, .iastore, .aload 0, .invokevirtual 2081210, .ifCond .ne 70, .iconst 0, .lreturn, .aload 0, .getstatic 1224, .aload 0, .getfield 1216, .aload 0, .getfield 1214, .iastore, .aload 0, .aload 0, .getfield 1216, .iconst 1, .iadd, .putfield 1216, .iconst 1, .lreturn]
set_option maxRecDepth 100000 in
theorem ze_209 : zc_209.map (fun e => e.2.2.2.1) = zi_209 := rfl
set_option maxRecDepth 100000 in
theorem zk_209 : zckm (zmd 209) false zc_209 zmd [190, 192, 203, 208] = true := by decide +kernel
noncomputable def zf_209 : zF := zden zX0 zi_209 (zlk [(190, zf_190), (192, zf_192), (203, zf_203), (208, zf_208)]) 2
/-- HillErrandsModel.readsClause -/
theorem zs_209 : ∀ d, 8 ≤ d → zSnd d (zmd 209) zf_209 := by
  intro d hd
  obtain ⟨d, rfl⟩ : ∃ k, d = k + 1 := ⟨d - 1, by omega⟩
  have h := zsound (d := d) (l := [(190, zf_190), (192, zf_192), (203, zf_203), (208, zf_208)]) zo_209 (fun h => by cases h) zk_209 (fun q hq => by
    simp only [List.mem_cons, List.not_mem_nil, or_false] at hq
    rcases hq with rfl | rfl | rfl | rfl
    · exact zs_190 d (by omega)
    · exact zs_192 d (by omega)
    · exact zs_203 d (by omega)
    · exact zs_208 d (by omega))
  rw [ze_209] at h
  exact h
set_option maxRecDepth 100000 in
def zc_210 : List zE := [(0, 1, .iload_n 1, .iload 1, 0, 0), (1, 1, .iconst 1, .iconst 1, 0, 0), (2, 3, .sipush 160, .iconst 160, 0, 0), (5, 3, .invokestatic 153, .invokestatic 1790013, 6181, 153), (8, 3, .ifCond .eq 11, .ifCond .eq 9, 0, 0), (11, 1, .iload_n 1, .iload 1, 0, 0), (12, 1, .aload_n 0, .aload 0, 0, 0), (13, 3, .getfield 171, .getfield 1209, 5217, 171), (16, 3, .if_icmp .le 5, .if_icmp .le 11, 0, 0), (19, 1, .iconst (-1), .iconst (-1), 0, 0), (20, 1, .ireturn, .ireturn, 0, 0), (21, 1, .aload_n 0, .aload 0, 0, 0), (22, 1, .iconst 0, .iconst 0, 0, 0), (23, 3, .putfield 178, .putfield 1210, 5218, 178), (26, 1, .aload_n 0, .aload 0, 0, 0), (27, 1, .iload_n 1, .iload 1, 0, 0), (28, 3, .putfield 181, .putfield 1211, 5219, 181), (31, 1, .aload_n 0, .aload 0, 0, 0), (32, 1, .iconst 0, .iconst 0, 0, 0), (33, 3, .putfield 202, .putfield 1214, 5222, 202), (36, 1, .aload_n 0, .aload 0, 0, 0), (37, 1, .iconst 0, .iconst 0, 0, 0), (38, 3, .putfield 257, .putfield 1216, 5224, 257), (41, 1, .aload_n 0, .aload 0, 0, 0), (42, 3, .invokevirtual 263, .invokevirtual 2091210, 6212, 263), (45, 1, .istore_n 2, .istore 2, 0, 0), (46, 1, .iload_n 2, .iload 2, 0, 0), (47, 3, .ifCond .eq 39, .ifCond .eq 45, 0, 0), (50, 1, .aload_n 0, .aload 0, 0, 0), (51, 3, .getfield 178, .getfield 1210, 5218, 178), (54, 1, .aload_n 0, .aload 0, 0, 0), (55, 3, .getfield 181, .getfield 1211, 5219, 181), (58, 3, .if_icmp .ge 28, .if_icmp .ge 45, 0, 0), (61, 1, .aload_n 0, .aload 0, 0, 0), (62, 2, .bipush 59, .iconst 59, 0, 0), (64, 3, .invokevirtual 266, .invokevirtual 1931211, 7047, 266), (67, 3, .ifCond .eq 14, .ifCond .eq 42, 0, 0), (70, 1, .aload_n 0, .aload 0, 0, 0), (71, 3, .invokevirtual 263, .invokevirtual 2091210, 6212, 263), (74, 3, .ifCond .eq 7, .ifCond .eq 42, 0, 0), (77, 1, .iconst 1, .iconst 1, 0, 0), (78, 3, .goto 4, .goto 43, 0, 0), (81, 1, .iconst 0, .iconst 0, 0, 0), (82, 1, .istore_n 2, .istore 2, 0, 0), (83, 3, .goto (-37), .goto 26, 0, 0), (86, 1, .aload_n 0, .aload 0, 0, 0), (87, 1, .iconst 0, .iconst 0, 0, 0), (88, 3, .putfield 171, .putfield 1209, 5217, 171), (91, 1, .iload_n 2, .iload 2, 0, 0), (92, 3, .ifCond .ne 8, .ifCond .ne 53, 0, 0), (95, 1, .aload_n 0, .aload 0, 0, 0), (96, 3, .getfield 188, .getfield 1212, 5220, 188), (99, 1, .ireturn, .ireturn, 0, 0), (100, 1, .aload_n 0, .aload 0, 0, 0), (101, 1, .aload_n 0, .aload 0, 0, 0), (102, 3, .getfield 257, .getfield 1216, 5224, 257), (105, 3, .putfield 269, .putfield 1218, 5226, 269), (108, 1, .iconst 0, .iconst 0, 0, 0), (109, 1, .istore_n 3, .istore 3, 0, 0), (110, 1, .iload_n 3, .iload 3, 0, 0), (111, 1, .aload_n 0, .aload 0, 0, 0), (112, 3, .getfield 202, .getfield 1214, 5222, 202), (115, 3, .if_icmp .ge 21, .if_icmp .ge 73, 0, 0), (118, 1, .aload_n 0, .aload 0, 0, 0), (119, 3, .getfield 44, .getstatic 1225, 5233, 44), (122, 1, .iload_n 3, .iload 3, 0, 0), (123, 1, .aload_n 0, .aload 0, 0, 0), (124, 3, .getfield 26, .getstatic 1219, 5227, 26), (127, 1, .iload_n 3, .iload 3, 0, 0), (128, 1, .iaload, .iaload, 0, 0), (129, 1, .iastore, .iastore, 0, 0), (130, 3, .iinc 3 1, .iinc 3 1, 0, 0), (133, 3, .goto (-23), .goto 59, 0, 0), (136, 1, .iconst 0, .iconst 0, 0, 0), (137, 1, .istore_n 3, .istore 3, 0, 0), (138, 1, .iload_n 3, .iload 3, 0, 0), (139, 1, .aload_n 0, .aload 0, 0, 0), (140, 3, .getfield 257, .getfield 1216, 5224, 257), (143, 3, .if_icmp .ge 57, .if_icmp .ge 113, 0, 0), (146, 1, .aload_n 0, .aload 0, 0, 0), (147, 3, .getfield 47, .getstatic 1226, 5234, 47), (150, 1, .iload_n 3, .iload 3, 0, 0), (151, 1, .aload_n 0, .aload 0, 0, 0), (152, 3, .getfield 32, .getstatic 1221, 5229, 32), (155, 1, .iload_n 3, .iload 3, 0, 0), (156, 1, .iaload, .iaload, 0, 0), (157, 1, .iastore, .iastore, 0, 0), (158, 1, .aload_n 0, .aload 0, 0, 0), (159, 3, .getfield 50, .getstatic 1227, 5235, 50), (162, 1, .iload_n 3, .iload 3, 0, 0), (163, 1, .aload_n 0, .aload 0, 0, 0), (164, 3, .getfield 35, .getstatic 1222, 5230, 35), (167, 1, .iload_n 3, .iload 3, 0, 0), (168, 1, .iaload, .iaload, 0, 0), (169, 1, .iastore, .iastore, 0, 0), (170, 1, .aload_n 0, .aload 0, 0, 0), (171, 3, .getfield 53, .getstatic 1228, 5236, 53), (174, 1, .iload_n 3, .iload 3, 0, 0), (175, 1, .aload_n 0, .aload 0, 0, 0), (176, 3, .getfield 38, .getstatic 1223, 5231, 38), (179, 1, .iload_n 3, .iload 3, 0, 0), (180, 1, .iaload, .iaload, 0, 0), (181, 1, .iastore, .iastore, 0, 0), (182, 1, .aload_n 0, .aload 0, 0, 0), (183, 3, .getfield 56, .getstatic 1229, 5237, 56), (186, 1, .iload_n 3, .iload 3, 0, 0), (187, 1, .aload_n 0, .aload 0, 0, 0), (188, 3, .getfield 41, .getstatic 1224, 5232, 41), (191, 1, .iload_n 3, .iload 3, 0, 0), (192, 1, .iaload, .iaload, 0, 0), (193, 1, .iastore, .iastore, 0, 0), (194, 3, .iinc 3 1, .iinc 3 1, 0, 0), (197, 3, .goto (-59), .goto 75, 0, 0), (200, 1, .aload_n 0, .aload 0, 0, 0), (201, 3, .getfield 257, .getfield 1216, 5224, 257), (204, 1, .ireturn, .ireturn, 0, 0)]
set_option maxRecDepth 100000 in
def zi_210 : List Instr := [.iload 1, .iconst 1, .iconst 160, .invokestatic 1790013, .ifCond .eq 9, .iload 1, .aload 0, .getfield 1209, .if_icmp .le 11, .iconst (-1), .ireturn, .aload 0, .iconst 0, .putfield 1210, .aload 0, .iload 1, .putfield 1211, .aload 0, .iconst 0, .putfield 1214, .aload 0, .iconst 0, .putfield 1216, .aload 0, .invokevirtual 2091210, .istore 2, .iload 2, .ifCond .eq 45, .aload 0, .getfield 1210, .aload 0, .getfield 1211, .if_icmp .ge 45, .aload 0, .iconst 59, .invokevirtual 1931211, .ifCond .eq 42, .aload 0, .invokevirtual 2091210, .ifCond .eq 42, .iconst 1, .goto 43, .iconst 0, .istore 2, .goto 26, .aload 0, .iconst 0, .putfield 1209, .iload 2, .ifCond .ne 53, .aload 0, .getfield 1212, .ireturn, .aload 0, .aload 0, .getfield 1216, .putfield 1218, .iconst 0, .istore 3, .iload 3, .aload 0, .getfield 1214, .if_icmp .ge 73, .aload 0, .getstatic 1225, .iload 3, .aload 0, .getstatic 1219, .iload 3, .iaload, .iastore, .iinc 3 1, .goto 59, .iconst 0, .istore 3, .iload 3, .aload 0, .getfield 1216, .if_icmp .ge 113, .aload 0, .getstatic 1226, .iload 3, .aload 0, .getstatic 1221, .iload 3, .iaload, .iastore, .aload 0, .getstatic 1227, .iload 3, .aload 0, .getstatic 1222, .iload 3, .iaload, .iastore, .aload 0, .getstatic 1228, .iload 3, .aload 0, .getstatic 1223, .iload 3, .iaload, .iastore, .aload 0, .getstatic 1229, .iload 3, .aload 0, .getstatic 1224, .iload 3, .iaload, .iastore, .iinc 3 1, .goto 75, .aload 0, .getfield 1216, .ireturn]
set_option maxRecDepth 100000 in
theorem ze_210 : zc_210.map (fun e => e.2.2.2.1) = zi_210 := rfl
set_option maxRecDepth 100000 in
theorem zk_210 : zckm (zmd 210) false zc_210 zmd [179, 193, 209] = true := by decide +kernel
noncomputable def zf_210 : zF := zden zX0 zi_210 (zlk [(179, zf_179), (193, zf_193), (209, zf_209)]) 4
/-- HillErrandsModel.law -/
theorem zs_210 : ∀ d, 9 ≤ d → zSnd d (zmd 210) zf_210 := by
  intro d hd
  obtain ⟨d, rfl⟩ : ∃ k, d = k + 1 := ⟨d - 1, by omega⟩
  have h := zsound (d := d) (l := [(179, zf_179), (193, zf_193), (209, zf_209)]) zo_210 (fun h => by cases h) zk_210 (fun q hq => by
    simp only [List.mem_cons, List.not_mem_nil, or_false] at hq
    rcases hq with rfl | rfl | rfl
    · exact zs_179 d (by omega)
    · exact zs_193 d (by omega)
    · exact zs_209 d (by omega))
  rw [ze_210] at h
  exact h
set_option maxRecDepth 100000 in
def zc_211 : List zE := [(0, 1, .iload_n 0, .iload 0, 0, 0), (1, 43, .tableswitch 85 2 8 #[43, 47, 51, 55, 59, 63, 74], .tableswitch 36 2 8 #[2, 6, 10, 14, 18, 22, 29], 0, 0), (44, 1, .iload_n 1, .iload 1, 0, 0), (45, 1, .iload_n 2, .iload 2, 0, 0), (46, 1, .iadd, .iadd, 0, 0), (47, 1, .ireturn, .ireturn, 0, 0), (48, 1, .iload_n 1, .iload 1, 0, 0), (49, 1, .iload_n 2, .iload 2, 0, 0), (50, 1, .isub, .isub, 0, 0), (51, 1, .ireturn, .ireturn, 0, 0), (52, 1, .iload_n 1, .iload 1, 0, 0), (53, 1, .iload_n 2, .iload 2, 0, 0), (54, 1, .imul, .imul, 0, 0), (55, 1, .ireturn, .ireturn, 0, 0), (56, 1, .iload_n 1, .iload 1, 0, 0), (57, 1, .iload_n 2, .iload 2, 0, 0), (58, 1, .idiv, .idiv, 0, 0), (59, 1, .ireturn, .ireturn, 0, 0), (60, 1, .iload_n 1, .iload 1, 0, 0), (61, 1, .iload_n 2, .iload 2, 0, 0), (62, 1, .irem, .irem, 0, 0), (63, 1, .ireturn, .ireturn, 0, 0), (64, 1, .iload_n 1, .iload 1, 0, 0), (65, 1, .iload_n 2, .iload 2, 0, 0), (66, 3, .if_icmp .ge 7, .if_icmp .ge 27, 0, 0), (69, 1, .iconst 1, .iconst 1, 0, 0), (70, 3, .goto 4, .goto 28, 0, 0), (73, 1, .iconst 0, .iconst 0, 0, 0), (74, 1, .ireturn, .ireturn, 0, 0), (75, 1, .iload_n 1, .iload 1, 0, 0), (76, 1, .iload_n 2, .iload 2, 0, 0), (77, 3, .if_icmp .le 7, .if_icmp .le 34, 0, 0), (80, 1, .iconst 1, .iconst 1, 0, 0), (81, 3, .goto 4, .goto 35, 0, 0), (84, 1, .iconst 0, .iconst 0, 0, 0), (85, 1, .ireturn, .ireturn, 0, 0), (86, 1, .iload_n 1, .iload 1, 0, 0), (87, 1, .iload_n 2, .iload 2, 0, 0), (88, 3, .if_icmp .ne 7, .if_icmp .ne 41, 0, 0), (91, 1, .iconst 1, .iconst 1, 0, 0), (92, 3, .goto 4, .goto 42, 0, 0), (95, 1, .iconst 0, .iconst 0, 0, 0), (96, 1, .ireturn, .ireturn, 0, 0)]
set_option maxRecDepth 100000 in
def zi_211 : List Instr := [.iload 0, .tableswitch 36 2 8 #[2, 6, 10, 14, 18, 22, 29], .iload 1, .iload 2, .iadd, .ireturn, .iload 1, .iload 2, .isub, .ireturn, .iload 1, .iload 2, .imul, .ireturn, .iload 1, .iload 2, .idiv, .ireturn, .iload 1, .iload 2, .irem, .ireturn, .iload 1, .iload 2, .if_icmp .ge 27, .iconst 1, .goto 28, .iconst 0, .ireturn, .iload 1, .iload 2, .if_icmp .le 34, .iconst 1, .goto 35, .iconst 0, .ireturn, .iload 1, .iload 2, .if_icmp .ne 41, .iconst 1, .goto 42, .iconst 0, .ireturn]
set_option maxRecDepth 100000 in
theorem ze_211 : zc_211.map (fun e => e.2.2.2.1) = zi_211 := rfl
set_option maxRecDepth 100000 in
theorem zk_211 : zckm (zmd 211) false zc_211 zmd [] = true := by decide +kernel
noncomputable def zf_211 : zF := zden zX0 zi_211 (zlk []) 3
/-- HillErrandsModel.reckon -/
theorem zs_211 : ∀ d, 1 ≤ d → zSnd d (zmd 211) zf_211 := by
  intro d hd
  obtain ⟨d, rfl⟩ : ∃ k, d = k + 1 := ⟨d - 1, by omega⟩
  have h := zsound (d := d) (l := []) zo_211 (fun h => by cases h) zk_211 (fun q hq => by cases hq)
  rw [ze_211] at h
  exact h
