set_option maxRecDepth 100000 in
def zc_162 : List zE := [(0, 1, .aload_n 0, .aload 0, 0, 0), (1, 3, .getfield 36, .getstatic 1102, 2124, 36), (4, 1, .iload_n 1, .iload 1, 0, 0), (5, 3, .invokevirtual 97, .invokevirtual 970811, 2171, 97), (8, 3, .ifCond .eq 33, .ifCond .eq 19, 0, 0), (11, 1, .aload_n 0, .aload 0, 0, 0), (12, 3, .getfield 36, .getstatic 1102, 2124, 36), (15, 1, .iload_n 2, .iload 2, 0, 0), (16, 3, .invokevirtual 97, .invokevirtual 970811, 2171, 97), (19, 3, .ifCond .eq 22, .ifCond .eq 19, 0, 0), (22, 1, .iload_n 1, .iload 1, 0, 0), (23, 1, .iload_n 2, .iload 2, 0, 0), (24, 3, .if_icmp .eq 17, .if_icmp .eq 19, 0, 0), (27, 1, .iload_n 3, .iload 3, 0, 0), (28, 3, .sipush (-200), .iconst (-200), 0, 0), (31, 3, .if_icmp .lt 10, .if_icmp .lt 19, 0, 0), (34, 1, .iload_n 3, .iload 3, 0, 0), (35, 3, .sipush 200, .iconst 200, 0, 0), (38, 3, .if_icmp .le 5, .if_icmp .le 21, 0, 0), (41, 1, .iconst (-1), .iconst (-1), 0, 0), (42, 1, .ireturn, .ireturn, 0, 0), (43, 1, .aload_n 0, .aload 0, 0, 0), (44, 3, .getfield 81, .getstatic 1109, 2131, 81), (47, 1, .iload_n 1, .iload 1, 0, 0), (48, 1, .iload_n 2, .iload 2, 0, 0), (49, 1, .iload_n 3, .iload 3, 0, 0), (50, 3, .invokevirtual 293, .invokevirtual 110013, 5118, 293), (53, 1, .ireturn, .ireturn, 0, 0)]
set_option maxRecDepth 100000 in
def zi_162 : List Instr := [.aload 0, .getstatic 1102, .iload 1, .invokevirtual 970811, .ifCond .eq 19, .aload 0, .getstatic 1102, .iload 2, .invokevirtual 970811, .ifCond .eq 19, .iload 1, .iload 2, .if_icmp .eq 19, .iload 3, .iconst (-200), .if_icmp .lt 19, .iload 3, .iconst 200, .if_icmp .le 21, .iconst (-1), .ireturn, .aload 0, .getstatic 1109, .iload 1, .iload 2, .iload 3, .invokevirtual 110013, .ireturn]
set_option maxRecDepth 100000 in
theorem ze_162 : zc_162.map (fun e => e.2.2.2.1) = zi_162 := rfl
set_option maxRecDepth 100000 in
theorem zk_162 : zckm (zmd 162) false zc_162 zmd [11, 97] = true := by decide +kernel
noncomputable def zf_162 : zF := zden zX0 zi_162 (zlk [(11, zf_11), (97, zf_97)]) 4
/-- HillErrands.fare -/
theorem zs_162 : ∀ d, 3 ≤ d → zSnd d (zmd 162) zf_162 := by
  intro d hd
  obtain ⟨d, rfl⟩ : ∃ k, d = k + 1 := ⟨d - 1, by omega⟩
  have h := zsound (d := d) (l := [(11, zf_11), (97, zf_97)]) zo_162 (fun h => by cases h) zk_162 (fun q hq => by
    simp only [List.mem_cons, List.not_mem_nil, or_false] at hq
    rcases hq with rfl | rfl
    · exact zs_11 d (by omega)
    · exact zs_97 d (by omega))
  rw [ze_162] at h
  exact h
set_option maxRecDepth 100000 in
def zc_163 : List zE := [(0, 1, .aload_n 0, .aload 0, 0, 0), (1, 3, .getfield 36, .getstatic 1102, 2124, 36), (4, 1, .iload_n 1, .iload 1, 0, 0), (5, 3, .invokevirtual 97, .invokevirtual 970811, 2171, 97), (8, 3, .ifCond .eq 14, .ifCond .eq 10, 0, 0), (11, 1, .aload_n 0, .aload 0, 0, 0), (12, 3, .getfield 36, .getstatic 1102, 2124, 36), (15, 1, .iload_n 2, .iload 2, 0, 0), (16, 3, .invokevirtual 97, .invokevirtual 970811, 2171, 97), (19, 3, .ifCond .ne 7, .ifCond .ne 12, 0, 0), (22, 3, .sipush (-1000), .iconst (-1000), 0, 0), (25, 1, .ireturn, .ireturn, 0, 0), (26, 1, .aload_n 0, .aload 0, 0, 0), (27, 3, .getfield 81, .getstatic 1109, 2131, 81), (30, 1, .iload_n 1, .iload 1, 0, 0), (31, 1, .iload_n 2, .iload 2, 0, 0), (32, 3, .invokevirtual 296, .invokevirtual 130012, 5130, 296), (35, 1, .ireturn, .ireturn, 0, 0)]
set_option maxRecDepth 100000 in
def zi_163 : List Instr := [.aload 0, .getstatic 1102, .iload 1, .invokevirtual 970811, .ifCond .eq 10, .aload 0, .getstatic 1102, .iload 2, .invokevirtual 970811, .ifCond .ne 12, .iconst (-1000), .ireturn, .aload 0, .getstatic 1109, .iload 1, .iload 2, .invokevirtual 130012, .ireturn]
set_option maxRecDepth 100000 in
theorem ze_163 : zc_163.map (fun e => e.2.2.2.1) = zi_163 := rfl
set_option maxRecDepth 100000 in
theorem zk_163 : zckm (zmd 163) false zc_163 zmd [13, 97] = true := by decide +kernel
noncomputable def zf_163 : zF := zden zX0 zi_163 (zlk [(13, zf_13), (97, zf_97)]) 3
/-- HillErrands.ends -/
theorem zs_163 : ∀ d, 2 ≤ d → zSnd d (zmd 163) zf_163 := by
  intro d hd
  obtain ⟨d, rfl⟩ : ∃ k, d = k + 1 := ⟨d - 1, by omega⟩
  have h := zsound (d := d) (l := [(13, zf_13), (97, zf_97)]) zo_163 (fun h => by cases h) zk_163 (fun q hq => by
    simp only [List.mem_cons, List.not_mem_nil, or_false] at hq
    rcases hq with rfl | rfl
    · exact zs_13 d (by omega)
    · exact zs_97 d (by omega))
  rw [ze_163] at h
  exact h
set_option maxRecDepth 100000 in
def zc_164 : List zE := [(0, 1, .iload_n 1, .iload 1, 0, 0), (1, 1, .iconst (-1), .iconst (-1), 0, 0), (2, 3, .if_icmp .ne 13, .if_icmp .ne 7, 0, 0), (5, 1, .aload_n 0, .aload 0, 0, 0), (6, 3, .getfield 81, .getstatic 1109, 2131, 81), (9, 3, .getfield 299, .getfield 4, 2110, 299), (12, 3, .goto 11, .goto 11, 0, 0), (15, 1, .aload_n 0, .aload 0, 0, 0), (16, 3, .getfield 81, .getstatic 1109, 2131, 81), (19, 1, .iload_n 1, .iload 1, 0, 0), (20, 3, .invokevirtual 302, .invokevirtual 140011, 5138, 302), (23, 1, .ireturn, .ireturn, 0, 0)]
set_option maxRecDepth 100000 in
def zi_164 : List Instr := [.iload 1, .iconst (-1), .if_icmp .ne 7, .aload 0, .getstatic 1109, .getfield 4, .goto 11, .aload 0, .getstatic 1109, .iload 1, .invokevirtual 140011, .ireturn]
set_option maxRecDepth 100000 in
theorem ze_164 : zc_164.map (fun e => e.2.2.2.1) = zi_164 := rfl
set_option maxRecDepth 100000 in
theorem zk_164 : zckm (zmd 164) false zc_164 zmd [14] = true := by decide +kernel
noncomputable def zf_164 : zF := zden zX0 zi_164 (zlk [(14, zf_14)]) 2
/-- HillErrands.falseFares -/
theorem zs_164 : ∀ d, 2 ≤ d → zSnd d (zmd 164) zf_164 := by
  intro d hd
  obtain ⟨d, rfl⟩ : ∃ k, d = k + 1 := ⟨d - 1, by omega⟩
  have h := zsound (d := d) (l := [(14, zf_14)]) zo_164 (fun h => by cases h) zk_164 (fun q hq => by
    simp only [List.mem_cons, List.not_mem_nil, or_false] at hq
    subst hq
    · exact zs_14 d (by omega))
  rw [ze_164] at h
  exact h
set_option maxRecDepth 100000 in
def zc_165 : List zE := [(0, 1, .iload_n 1, .iload 1, 0, 0), (1, 3, .ldc_w 305, .iconst 65535, 5146, 305), (4, 3, .invokestatic 89, .invokestatic 1710012, 2160, 89), (7, 3, .ifCond .ne 5, .ifCond .ne 6, 0, 0), (10, 1, .iconst 0, .iconst 0, 0, 0), (11, 1, .ireturn, .lreturn, 0, 0), (12, 1, .aload_n 0, .aload 0, 0, 0), (13, 1, .iload_n 1, .iload 1, 0, 0), (14, 3, .putfield 85, .putfield 1110, 2132, 85), (17, 1, .iconst 1, .iconst 1, 0, 0), (18, 1, .ireturn, .lreturn, 0, 0)]
set_option maxRecDepth 100000 in
def zi_165 : List Instr := [.iload 1, .iconst 65535, .invokestatic 1710012, .ifCond .ne 6, .iconst 0, .lreturn, .aload 0, .iload 1, .putfield 1110, .iconst 1, .lreturn]
set_option maxRecDepth 100000 in
theorem ze_165 : zc_165.map (fun e => e.2.2.2.1) = zi_165 := rfl
set_option maxRecDepth 100000 in
theorem zk_165 : zckm (zmd 165) false zc_165 zmd [171] = true := by decide +kernel
noncomputable def zf_165 : zF := zden zX0 zi_165 (zlk [(171, zf_171)]) 2
/-- HillErrands.seed -/
theorem zs_165 : ∀ d, 2 ≤ d → zSnd d (zmd 165) zf_165 := by
  intro d hd
  obtain ⟨d, rfl⟩ : ∃ k, d = k + 1 := ⟨d - 1, by omega⟩
  have h := zsound (d := d) (l := [(171, zf_171)]) zo_165 (fun h => by cases h) zk_165 (fun q hq => by
    simp only [List.mem_cons, List.not_mem_nil, or_false] at hq
    subst hq
    · exact zs_171 d (by omega))
  rw [ze_165] at h
  exact h
set_option maxRecDepth 100000 in
def zc_174 : List zE := [(0, 1, .iconst 0, .iconst 0, 0, 0), (1, 1, .istore_n 2, .istore 2, 0, 0), (2, 1, .iconst 0, .iconst 0, 0, 0), (3, 1, .istore_n 3, .istore 3, 0, 0), (4, 1, .iload_n 3, .iload 3, 0, 0), (5, 1, .iload_n 1, .iload 1, 0, 0), (6, 3, .if_icmp .ge 49, .if_icmp .ge 32, 0, 0), (9, 1, .aload_n 0, .aload 0, 0, 0), (10, 3, .sipush 25173, .iconst 25173, 0, 0), (13, 1, .aload_n 0, .aload 0, 0, 0), (14, 3, .getfield 85, .getfield 1110, 2132, 85), (17, 1, .imul, .imul, 0, 0), (18, 3, .sipush 13849, .iconst 13849, 0, 0), (21, 1, .iadd, .iadd, 0, 0), (22, 3, .ldc_w 305, .iconst 65535, 5146, 305), (25, 1, .iand, .iand, 0, 0), (26, 3, .putfield 85, .putfield 1110, 2132, 85), (29, 1, .iload_n 2, .iload 2, 0, 0), (30, 1, .iconst 1, .iconst 1, 0, 0), (31, 1, .aload_n 0, .aload 0, 0, 0), (32, 3, .getfield 85, .getfield 1110, 2132, 85), (35, 2, .bipush 7, .iconst 7, 0, 0), (37, 1, .iand, .iand, 0, 0), (38, 1, .ishl, .ishl, 0, 0), (39, 1, .aload_n 0, .aload 0, 0, 0), (40, 3, .getfield 47, .getstatic 1104, 2126, 47), (43, 3, .getfield 176, .getfield 606, 2010, 176), (46, 1, .iand, .iand, 0, 0), (47, 1, .ixor, .ixor, 0, 0), (48, 1, .istore_n 2, .istore 2, 0, 0), (49, 3, .iinc 3 1, .iinc 3 1, 0, 0), (52, 3, .goto (-48), .goto 4, 0, 0), (55, 1, .iload_n 2, .iload 2, 0, 0), (56, 1, .ireturn, .ireturn, 0, 0)]
set_option maxRecDepth 100000 in
def zi_174 : List Instr := [.iconst 0, .istore 2, .iconst 0, .istore 3, .iload 3, .iload 1, .if_icmp .ge 32, .aload 0, .iconst 25173, .aload 0, .getfield 1110, .imul, .iconst 13849, .iadd, .iconst 65535, .iand, .putfield 1110, .iload 2, .iconst 1, .aload 0, .getfield 1110, .iconst 7, .iand, .ishl, .aload 0, .getstatic 1104, .getfield 606, .iand, .ixor, .istore 2, .iinc 3 1, .goto 4, .iload 2, .ireturn]
set_option maxRecDepth 100000 in
theorem ze_174 : zc_174.map (fun e => e.2.2.2.1) = zi_174 := rfl
set_option maxRecDepth 100000 in
theorem zk_174 : zckm (zmd 174) false zc_174 zmd [] = true := by decide +kernel
noncomputable def zf_174 : zF := zden zX0 zi_174 (zlk []) 4
/-- HillErrands.drawSet -/
theorem zs_174 : ∀ d, 1 ≤ d → zSnd d (zmd 174) zf_174 := by
  intro d hd
  obtain ⟨d, rfl⟩ : ∃ k, d = k + 1 := ⟨d - 1, by omega⟩
  have h := zsound (d := d) (l := []) zo_174 (fun h => by cases h) zk_174 (fun q hq => by cases hq)
  rw [ze_174] at h
  exact h
set_option maxRecDepth 100000 in
def zc_166 : List zE := [(0, 1, .aload_n 0, .aload 0, 0, 0), (1, 3, .getfield 36, .getstatic 1102, 2124, 36), (4, 1, .iload_n 1, .iload 1, 0, 0), (5, 3, .invokevirtual 97, .invokevirtual 970811, 2171, 97), (8, 3, .ifCond .eq 22, .ifCond .eq 15, 0, 0), (11, 1, .iload_n 2, .iload 2, 0, 0), (12, 1, .iconst 1, .iconst 1, 0, 0), (13, 3, .if_icmp .lt 17, .if_icmp .lt 15, 0, 0), (16, 1, .iload_n 2, .iload 2, 0, 0), (17, 2, .bipush 20, .iconst 20, 0, 0), (19, 3, .if_icmp .gt 11, .if_icmp .gt 15, 0, 0), (22, 1, .iload_n 3, .iload 3, 0, 0), (23, 1, .iconst 1, .iconst 1, 0, 0), (24, 3, .invokestatic 89, .invokestatic 1710012, 2160, 89), (27, 3, .ifCond .ne 5, .ifCond .ne 17, 0, 0), (30, 1, .iconst (-1), .iconst (-1), 0, 0), (31, 1, .ireturn, .ireturn, 0, 0), (32, 1, .aload_n 0, .aload 0, 0, 0), (33, 1, .iload_n 2, .iload 2, 0, 0), (34, 3, .invokevirtual 306, .invokevirtual 1741111, 5151, 306), (37, 2, .istore 4, .istore 4, 0, 0), (39, 1, .iload_n 3, .iload 3, 0, 0), (40, 3, .ifCond .eq 8, .ifCond .eq 25, 0, 0), (43, 2, .iload 4, .iload 4, 0, 0), (45, 3, .ifCond .ne 6, .ifCond .ne 27, 0, 0), (48, 2, .iload 4, .iload 4, 0, 0), (50, 1, .ireturn, .ireturn, 0, 0), (51, 1, .aload_n 0, .aload 0, 0, 0), (52, 3, .getfield 47, .getstatic 1104, 2126, 47), (55, 2, .iload 4, .iload 4, 0, 0), (57, 3, .invokevirtual 187, .invokevirtual 770601, 4064, 187), (60, 1, .aload_n 0, .aload 0, 0, 0), (61, 3, .getfield 47, .getstatic 1104, 2126, 47), (64, 1, .iload_n 1, .iload 1, 0, 0), (65, 2, .iload 4, .iload 4, 0, 0), (67, 3, .invokevirtual 191, .invokevirtual 810612, 4076, 191), (70, 3, .invokestatic 173, .invokestatic 1730011, 4048, 173), (73, 1, .ireturn, .ireturn, 0, 0)]
set_option maxRecDepth 100000 in
def zi_166 : List Instr := [.aload 0, .getstatic 1102, .iload 1, .invokevirtual 970811, .ifCond .eq 15, .iload 2, .iconst 1, .if_icmp .lt 15, .iload 2, .iconst 20, .if_icmp .gt 15, .iload 3, .iconst 1, .invokestatic 1710012, .ifCond .ne 17, .iconst (-1), .ireturn, .aload 0, .iload 2, .invokevirtual 1741111, .istore 4, .iload 3, .ifCond .eq 25, .iload 4, .ifCond .ne 27, .iload 4, .ireturn, .aload 0, .getstatic 1104, .iload 4, .invokevirtual 770601, .aload 0, .getstatic 1104, .iload 1, .iload 4, .invokevirtual 810612, .invokestatic 1730011, .ireturn]
set_option maxRecDepth 100000 in
theorem ze_166 : zc_166.map (fun e => e.2.2.2.1) = zi_166 := rfl
set_option maxRecDepth 100000 in
theorem zk_166 : zckm (zmd 166) false zc_166 zmd [77, 81, 97, 171, 173, 174] = true := by decide +kernel
noncomputable def zf_166 : zF := zden zX0 zi_166 (zlk [(77, zf_77), (81, zf_81), (97, zf_97), (171, zf_171), (173, zf_173), (174, zf_174)]) 5
/-- HillErrands.draw -/
theorem zs_166 : ∀ d, 8 ≤ d → zSnd d (zmd 166) zf_166 := by
  intro d hd
  obtain ⟨d, rfl⟩ : ∃ k, d = k + 1 := ⟨d - 1, by omega⟩
  have h := zsound (d := d) (l := [(77, zf_77), (81, zf_81), (97, zf_97), (171, zf_171), (173, zf_173), (174, zf_174)]) zo_166 (fun h => by cases h) zk_166 (fun q hq => by
    simp only [List.mem_cons, List.not_mem_nil, or_false] at hq
    rcases hq with rfl | rfl | rfl | rfl | rfl | rfl
    · exact zs_77 d (by omega)
    · exact zs_81 d (by omega)
    · exact zs_97 d (by omega)
    · exact zs_171 d (by omega)
    · exact zs_173 d (by omega)
    · exact zs_174 d (by omega))
  rw [ze_166] at h
  exact h
set_option maxRecDepth 100000 in
def zc_167 : List zE := [(0, 1, .aload_n 0, .aload 0, 0, 0), (1, 3, .getfield 36, .getstatic 1102, 2124, 36), (4, 3, .invokevirtual 309, .invokevirtual 1060800, 5159, 309), (7, 1, .aload_n 0, .aload 0, 0, 0), (8, 3, .getfield 36, .getstatic 1102, 2124, 36), (11, 3, .getfield 141, .getfield 811, 1097, 141), (14, 1, .ireturn, .ireturn, 0, 0)]
set_option maxRecDepth 100000 in
def zi_167 : List Instr := [.aload 0, .getstatic 1102, .invokevirtual 1060800, .aload 0, .getstatic 1102, .getfield 811, .ireturn]
set_option maxRecDepth 100000 in
theorem ze_167 : zc_167.map (fun e => e.2.2.2.1) = zi_167 := rfl
set_option maxRecDepth 100000 in
theorem zk_167 : zckm (zmd 167) false zc_167 zmd [106] = true := by decide +kernel
noncomputable def zf_167 : zF := zden zX0 zi_167 (zlk [(106, zf_106)]) 1
/-- HillErrands.keep -/
theorem zs_167 : ∀ d, 2 ≤ d → zSnd d (zmd 167) zf_167 := by
  intro d hd
  obtain ⟨d, rfl⟩ : ∃ k, d = k + 1 := ⟨d - 1, by omega⟩
  have h := zsound (d := d) (l := [(106, zf_106)]) zo_167 (fun h => by cases h) zk_167 (fun q hq => by
    simp only [List.mem_cons, List.not_mem_nil, or_false] at hq
    subst hq
    · exact zs_106 d (by omega))
  rw [ze_167] at h
  exact h
set_option maxRecDepth 100000 in
def zc_168 : List zE := [(0, 1, .aload_n 0, .aload 0, 0, 0), (1, 3, .getfield 36, .getstatic 1102, 2124, 36), (4, 3, .invokevirtual 312, .invokevirtual 1070810, 5167, 312), (7, 1, .ireturn, .lreturn, 0, 0)]
set_option maxRecDepth 100000 in
def zi_168 : List Instr := [.aload 0, .getstatic 1102, .invokevirtual 1070810, .lreturn]
set_option maxRecDepth 100000 in
theorem ze_168 : zc_168.map (fun e => e.2.2.2.1) = zi_168 := rfl
set_option maxRecDepth 100000 in
theorem zk_168 : zckm (zmd 168) false zc_168 zmd [107] = true := by decide +kernel
noncomputable def zf_168 : zF := zden zX0 zi_168 (zlk [(107, zf_107)]) 1
/-- HillErrands.undo -/
theorem zs_168 : ∀ d, 2 ≤ d → zSnd d (zmd 168) zf_168 := by
  intro d hd
  obtain ⟨d, rfl⟩ : ∃ k, d = k + 1 := ⟨d - 1, by omega⟩
  have h := zsound (d := d) (l := [(107, zf_107)]) zo_168 (fun h => by cases h) zk_168 (fun q hq => by
    simp only [List.mem_cons, List.not_mem_nil, or_false] at hq
    subst hq
    · exact zs_107 d (by omega))
  rw [ze_168] at h
  exact h
set_option maxRecDepth 100000 in
def zc_175 : List zE := [(0, 1, .iconst 0, .iconst 0, 0, 0), (1, 1, .istore_n 3, .istore 3, 0, 0), (2, 1, .iload_n 3, .iload 3, 0, 0), (3, 1, .iload_n 2, .iload 2, 0, 0), (4, 3, .if_icmp .ge 46, .if_icmp .ge 26, 0, 0), (7, 1, .iload_n 3, .iload 3, 0, 0), (8, 1, .aload_n 0, .aload 0, 0, 0), (9, 3, .getfield 36, .getstatic 1102, 2124, 36), (12, 3, .getfield 255, .getfield 810, 1095, 255), (15, 3, .if_icmp .ge 27, .if_icmp .ge 22, 0, 0), (18, 1, .aload_n 0, .aload 0, 0, 0), (19, 3, .getfield 23, .getstatic 1100, 2122, 23), (22, 1, .iload_n 3, .iload 3, 0, 0), (23, 3, .invokevirtual 332, .invokevirtual 940711, 5179, 332), (26, 1, .aload_n 0, .aload 0, 0, 0), (27, 3, .getfield 40, .getstatic 1103, 2125, 40), (30, 1, .iload_n 1, .iload 1, 0, 0), (31, 1, .iload_n 3, .iload 3, 0, 0), (32, 1, .iconst 0, .iconst 0, 0, 0), (33, 3, .invokevirtual 151, .invokevirtual 1210913, 4004, 151), (36, 3, .invokestatic 173, .invokestatic 1730011, 4048, 173), (39, 3, .if_icmp .eq 5, .if_icmp .eq 24, 0, 0), (42, 1, .iload_n 3, .iload 3, 0, 0), (43, 1, .ireturn, .ireturn, 0, 0), (44, 3, .iinc 3 1, .iinc 3 1, 0, 0), (47, 3, .goto (-45), .goto 2, 0, 0), (50, 1, .iload_n 2, .iload 2, 0, 0), (51, 1, .aload_n 0, .aload 0, 0, 0), (52, 3, .getfield 36, .getstatic 1102, 2124, 36), (55, 3, .getfield 255, .getfield 810, 1095, 255), (58, 3, .if_icmp .ge 7, .if_icmp .ge 33, 0, 0), (61, 1, .iload_n 2, .iload 2, 0, 0), (62, 3, .goto 4, .goto 34, 0, 0), (65, 1, .iconst (-1), .iconst (-1), 0, 0), (66, 1, .ireturn, .ireturn, 0, 0)]
set_option maxRecDepth 100000 in
def zi_175 : List Instr := [.iconst 0, .istore 3, .iload 3, .iload 2, .if_icmp .ge 26, .iload 3, .aload 0, .getstatic 1102, .getfield 810, .if_icmp .ge 22, .aload 0, .getstatic 1100, .iload 3, .invokevirtual 940711, .aload 0, .getstatic 1103, .iload 1, .iload 3, .iconst 0, .invokevirtual 1210913, .invokestatic 1730011, .if_icmp .eq 24, .iload 3, .ireturn, .iinc 3 1, .goto 2, .iload 2, .aload 0, .getstatic 1102, .getfield 810, .if_icmp .ge 33, .iload 2, .goto 34, .iconst (-1), .ireturn]
set_option maxRecDepth 100000 in
theorem ze_175 : zc_175.map (fun e => e.2.2.2.1) = zi_175 := rfl
set_option maxRecDepth 100000 in
theorem zk_175 : zckm (zmd 175) false zc_175 zmd [94, 121, 173] = true := by decide +kernel
noncomputable def zf_175 : zF := zden zX0 zi_175 (zlk [(94, zf_94), (121, zf_121), (173, zf_173)]) 4
/-- HillErrands.firstWrong -/
theorem zs_175 : ∀ d, 5 ≤ d → zSnd d (zmd 175) zf_175 := by
  intro d hd
  obtain ⟨d, rfl⟩ : ∃ k, d = k + 1 := ⟨d - 1, by omega⟩
  have h := zsound (d := d) (l := [(94, zf_94), (121, zf_121), (173, zf_173)]) zo_175 (fun h => by cases h) zk_175 (fun q hq => by
    simp only [List.mem_cons, List.not_mem_nil, or_false] at hq
    rcases hq with rfl | rfl | rfl
    · exact zs_94 d (by omega)
    · exact zs_121 d (by omega)
    · exact zs_173 d (by omega))
  rw [ze_175] at h
  exact h
set_option maxRecDepth 100000 in
def zc_169 : List zE := [(0, 1, .aload_n 0, .aload 0, 0, 0), (1, 3, .getfield 36, .getstatic 1102, 2124, 36), (4, 1, .iload_n 1, .iload 1, 0, 0), (5, 3, .invokevirtual 97, .invokevirtual 970811, 2171, 97), (8, 3, .ifCond .eq 20, .ifCond .eq 14, 0, 0), (11, 1, .iload_n 2, .iload 2, 0, 0), (12, 3, .ifCond .lt 16, .ifCond .lt 14, 0, 0), (15, 1, .iload_n 2, .iload 2, 0, 0), (16, 1, .aload_n 0, .aload 0, 0, 0), (17, 3, .getfield 23, .getstatic 1100, 2122, 23), (20, 3, .invokevirtual 118, .invokevirtual 900710, 2204, 118), (23, 1, .iconst 4, .iconst 4, 0, 0), (24, 1, .idiv, .idiv, 0, 0), (25, 3, .if_icmp .le 6, .if_icmp .le 16, 0, 0), (28, 2, .bipush (-2), .iconst (-2), 0, 0), (30, 1, .ireturn, .ireturn, 0, 0), (31, 1, .aload_n 0, .aload 0, 0, 0), (32, 3, .getfield 40, .getstatic 1103, 2125, 40), (35, 1, .iconst 0, .iconst 0, 0, 0), (36, 3, .invokevirtual 148, .invokevirtual 1200901, 3210, 148), (39, 1, .aload_n 0, .aload 0, 0, 0), (40, 1, .iload_n 1, .iload 1, 0, 0), (41, 1, .iload_n 2, .iload 2, 0, 0), (42, 3, .invokevirtual 316, .invokevirtual 1751112, 5175, 316), (45, 1, .istore_n 3, .istore 3, 0, 0), (46, 1, .aload_n 0, .aload 0, 0, 0), (47, 3, .getfield 23, .getstatic 1100, 2122, 23), (50, 3, .invokevirtual 126, .invokevirtual 950700, 3158, 126), (53, 1, .iload_n 3, .iload 3, 0, 0), (54, 1, .ireturn, .ireturn, 0, 0)]
set_option maxRecDepth 100000 in
def zi_169 : List Instr := [.aload 0, .getstatic 1102, .iload 1, .invokevirtual 970811, .ifCond .eq 14, .iload 2, .ifCond .lt 14, .iload 2, .aload 0, .getstatic 1100, .invokevirtual 900710, .iconst 4, .idiv, .if_icmp .le 16, .iconst (-2), .ireturn, .aload 0, .getstatic 1103, .iconst 0, .invokevirtual 1200901, .aload 0, .iload 1, .iload 2, .invokevirtual 1751112, .istore 3, .aload 0, .getstatic 1100, .invokevirtual 950700, .iload 3, .ireturn]
set_option maxRecDepth 100000 in
theorem ze_169 : zc_169.map (fun e => e.2.2.2.1) = zi_169 := rfl
set_option maxRecDepth 100000 in
theorem zk_169 : zckm (zmd 169) false zc_169 zmd [90, 95, 97, 120, 175] = true := by decide +kernel
noncomputable def zf_169 : zF := zden zX0 zi_169 (zlk [(90, zf_90), (95, zf_95), (97, zf_97), (120, zf_120), (175, zf_175)]) 4
/-- HillErrands.check -/
theorem zs_169 : ∀ d, 7 ≤ d → zSnd d (zmd 169) zf_169 := by
  intro d hd
  obtain ⟨d, rfl⟩ : ∃ k, d = k + 1 := ⟨d - 1, by omega⟩
  have h := zsound (d := d) (l := [(90, zf_90), (95, zf_95), (97, zf_97), (120, zf_120), (175, zf_175)]) zo_169 (fun h => by cases h) zk_169 (fun q hq => by
    simp only [List.mem_cons, List.not_mem_nil, or_false] at hq
    rcases hq with rfl | rfl | rfl | rfl | rfl
    · exact zs_90 d (by omega)
    · exact zs_95 d (by omega)
    · exact zs_97 d (by omega)
    · exact zs_120 d (by omega)
    · exact zs_175 d (by omega))
  rw [ze_169] at h
  exact h
set_option maxRecDepth 100000 in
def zc_170 : List zE := [(0, 1, .iload_n 1, .iload 1, 0, 0), (1, 2, .bipush 20, .iconst 20, 0, 0), (3, 3, .if_icmp .lt 39, .if_icmp .lt 22, 0, 0), (6, 1, .iload_n 1, .iload 1, 0, 0), (7, 2, .bipush 40, .iconst 40, 0, 0), (9, 3, .if_icmp .ge 33, .if_icmp .ge 22, 0, 0), (12, 1, .aload_n 0, .aload 0, 0, 0), (13, 3, .getfield 36, .getstatic 1102, 2124, 36), (16, 1, .iload_n 1, .iload 1, 0, 0), (17, 2, .bipush 20, .iconst 20, 0, 0), (19, 1, .isub, .isub, 0, 0), (20, 3, .invokevirtual 97, .invokevirtual 970811, 2171, 97), (23, 3, .ifCond .eq 17, .ifCond .eq 20, 0, 0), (26, 1, .aload_n 0, .aload 0, 0, 0), (27, 3, .getfield 36, .getstatic 1102, 2124, 36), (30, 1, .iload_n 1, .iload 1, 0, 0), (31, 2, .bipush 20, .iconst 20, 0, 0), (33, 1, .isub, .isub, 0, 0), (34, 3, .invokevirtual 319, .invokevirtual 980811, 5188, 319), (37, 3, .goto 4, .goto 21, 0, 0), (40, 1, .iconst (-1), .iconst (-1), 0, 0), (41, 1, .ireturn, .ireturn, 0, 0), (42, 1, .iload_n 1, .iload 1, 0, 0), (43, 2, .bipush 40, .iconst 40, 0, 0), (45, 3, .if_icmp .lt 39, .if_icmp .lt 44, 0, 0), (48, 1, .iload_n 1, .iload 1, 0, 0), (49, 2, .bipush 60, .iconst 60, 0, 0), (51, 3, .if_icmp .ge 33, .if_icmp .ge 44, 0, 0), (54, 1, .aload_n 0, .aload 0, 0, 0), (55, 3, .getfield 36, .getstatic 1102, 2124, 36), (58, 1, .iload_n 1, .iload 1, 0, 0), (59, 2, .bipush 40, .iconst 40, 0, 0), (61, 1, .isub, .isub, 0, 0), (62, 3, .invokevirtual 97, .invokevirtual 970811, 2171, 97), (65, 3, .ifCond .eq 17, .ifCond .eq 42, 0, 0), (68, 1, .aload_n 0, .aload 0, 0, 0), (69, 3, .getfield 36, .getstatic 1102, 2124, 36), (72, 1, .iload_n 1, .iload 1, 0, 0), (73, 2, .bipush 40, .iconst 40, 0, 0), (75, 1, .isub, .isub, 0, 0), (76, 3, .invokevirtual 322, .invokevirtual 1120811, 5192, 322), (79, 3, .goto 4, .goto 43, 0, 0), (82, 1, .iconst (-1), .iconst (-1), 0, 0), (83, 1, .ireturn, .ireturn, 0, 0), (84, 1, .iload_n 1, .iload 1, 0, 0), (85, 55, .tableswitch 132 0 9 #[55, 63, 71, 79, 87, 95, 103, 111, 119, 127], .tableswitch 85 0 9 #[46, 50, 54, 58, 62, 66, 70, 74, 78, 82], 0, 0), (140, 1, .aload_n 0, .aload 0, 0, 0), (141, 3, .getfield 36, .getstatic 1102, 2124, 36), (144, 3, .getfield 255, .getfield 810, 1095, 255), (147, 1, .ireturn, .ireturn, 0, 0), (148, 1, .aload_n 0, .aload 0, 0, 0), (149, 3, .getfield 36, .getstatic 1102, 2124, 36), (152, 3, .getfield 141, .getfield 811, 1097, 141), (155, 1, .ireturn, .ireturn, 0, 0), (156, 1, .aload_n 0, .aload 0, 0, 0), (157, 3, .getfield 36, .getstatic 1102, 2124, 36), (160, 3, .invokevirtual 325, .invokevirtual 1100810, 5193, 325), (163, 1, .ireturn, .ireturn, 0, 0), (164, 1, .aload_n 0, .aload 0, 0, 0), (165, 3, .getfield 23, .getstatic 1100, 2122, 23), (168, 3, .invokevirtual 118, .invokevirtual 900710, 2204, 118), (171, 1, .ireturn, .ireturn, 0, 0), (172, 1, .aload_n 0, .aload 0, 0, 0), (173, 3, .getfield 36, .getstatic 1102, 2124, 36), (176, 3, .invokevirtual 328, .invokevirtual 1040810, 5197, 328), (179, 1, .ireturn, .ireturn, 0, 0), (180, 1, .aload_n 0, .aload 0, 0, 0), (181, 3, .getfield 47, .getstatic 1104, 2126, 47), (184, 3, .getfield 176, .getfield 606, 2010, 176), (187, 1, .ireturn, .ireturn, 0, 0), (188, 1, .aload_n 0, .aload 0, 0, 0), (189, 3, .getfield 51, .getstatic 1105, 2127, 51), (192, 3, .getfield 216, .getfield 110, 1172, 216), (195, 1, .ireturn, .ireturn, 0, 0), (196, 1, .aload_n 0, .aload 0, 0, 0), (197, 3, .getfield 51, .getstatic 1105, 2127, 51), (200, 3, .getfield 219, .getfield 111, 1174, 219), (203, 1, .ireturn, .ireturn, 0, 0), (204, 1, .aload_n 0, .aload 0, 0, 0), (205, 3, .getfield 81, .getstatic 1109, 2131, 81), (208, 3, .getfield 331, .getfield 3, 2108, 331), (211, 1, .ireturn, .ireturn, 0, 0), (212, 1, .aload_n 0, .aload 0, 0, 0), (213, 3, .getfield 85, .getfield 1110, 2132, 85), (216, 1, .ireturn, .ireturn, 0, 0), (217, 1, .iconst (-1), .iconst (-1), 0, 0), (218, 1, .ireturn, .ireturn, 0, 0)]
set_option maxRecDepth 100000 in
def zi_170 : List Instr := [.iload 1, .iconst 20, .if_icmp .lt 22, .iload 1, .iconst 40, .if_icmp .ge 22, .aload 0, .getstatic 1102, .iload 1, .iconst 20, .isub, .invokevirtual 970811, .ifCond .eq 20, .aload 0, .getstatic 1102, .iload 1, .iconst 20, .isub, .invokevirtual 980811, .goto 21, .iconst (-1), .ireturn, .iload 1, .iconst 40, .if_icmp .lt 44, .iload 1, .iconst 60, .if_icmp .ge 44, .aload 0, .getstatic 1102, .iload 1, .iconst 40, .isub, .invokevirtual 970811, .ifCond .eq 42, .aload 0, .getstatic 1102, .iload 1, .iconst 40, .isub, .invokevirtual 1120811, .goto 43, .iconst (-1), .ireturn, .iload 1, .tableswitch 85 0 9 #[46, 50, 54, 58, 62, 66, 70, 74, 78, 82], .aload 0, .getstatic 1102, .getfield 810, .ireturn, .aload 0, .getstatic 1102, .getfield 811, .ireturn, .aload 0, .getstatic 1102, .invokevirtual 1100810, .ireturn, .aload 0, .getstatic 1100, .invokevirtual 900710, .ireturn, .aload 0, .getstatic 1102, .invokevirtual 1040810, .ireturn, .aload 0, .getstatic 1104, .getfield 606, .ireturn, .aload 0, .getstatic 1105, .getfield 110, .ireturn, .aload 0, .getstatic 1105, .getfield 111, .ireturn, .aload 0, .getstatic 1109, .getfield 3, .ireturn, .aload 0, .getfield 1110, .ireturn, .iconst (-1), .ireturn]
set_option maxRecDepth 100000 in
theorem ze_170 : zc_170.map (fun e => e.2.2.2.1) = zi_170 := rfl
set_option maxRecDepth 100000 in
theorem zk_170 : zckm (zmd 170) false zc_170 zmd [90, 97, 98, 104, 110, 112] = true := by decide +kernel
noncomputable def zf_170 : zF := zden zX0 zi_170 (zlk [(90, zf_90), (97, zf_97), (98, zf_98), (104, zf_104), (110, zf_110), (112, zf_112)]) 2
/-- HillErrands.count -/
theorem zs_170 : ∀ d, 2 ≤ d → zSnd d (zmd 170) zf_170 := by
  intro d hd
  obtain ⟨d, rfl⟩ : ∃ k, d = k + 1 := ⟨d - 1, by omega⟩
  have h := zsound (d := d) (l := [(90, zf_90), (97, zf_97), (98, zf_98), (104, zf_104), (110, zf_110), (112, zf_112)]) zo_170 (fun h => by cases h) zk_170 (fun q hq => by
    simp only [List.mem_cons, List.not_mem_nil, or_false] at hq
    rcases hq with rfl | rfl | rfl | rfl | rfl | rfl
    · exact zs_90 d (by omega)
    · exact zs_97 d (by omega)
    · exact zs_98 d (by omega)
    · exact zs_104 d (by omega)
    · exact zs_110 d (by omega)
    · exact zs_112 d (by omega))
  rw [ze_170] at h
  exact h
set_option maxRecDepth 100000 in
def zc_178 : List zE := [(0, 1, .aload_n 0, .aload 0, 0, 0), (1, 3, .invokespecial 1, .pop, 5206, 1), (4, 1, .aload_n 0, .aload 0, 0, 0), (5, 2, .bipush 20, .iconst 20, 0, 0), (7, 2, .newarray .int, .newarray .int, 1079, 0), (9, 3, .putfield 7, .putstatic 1204, 5212, 7), (12, 1, .aload_n 0, .aload 0, 0, 0), (13, 2, .bipush 40, .iconst 40, 0, 0), (15, 2, .newarray .int, .newarray .int, 1079, 0), (17, 3, .putfield 13, .putstatic 1205, 5213, 13), (20, 1, .aload_n 0, .aload 0, 0, 0), (21, 2, .bipush 40, .iconst 40, 0, 0), (23, 2, .newarray .int, .newarray .int, 1079, 0), (25, 3, .putfield 16, .putstatic 1206, 5214, 16), (28, 1, .aload_n 0, .aload 0, 0, 0), (29, 2, .bipush 40, .iconst 40, 0, 0), (31, 2, .newarray .int, .newarray .int, 1079, 0), (33, 3, .putfield 19, .putstatic 1207, 5215, 19), (36, 1, .aload_n 0, .aload 0, 0, 0), (37, 3, .sipush 200, .iconst 200, 0, 0), (40, 2, .newarray .byte, .newarray .byte, 3174, 0), (42, 3, .putfield 22, .putstatic 1208, 5216, 22), (45, 1, .aload_n 0, .aload 0, 0, 0), (46, 3, .sipush 180, .iconst 180, 0, 0), (49, 2, .newarray .int, .newarray .int, 1079, 0), (51, 3, .putfield 26, .putstatic 1219, 5227, 26), (54, 1, .aload_n 0, .aload 0, 0, 0), (55, 3, .sipush 180, .iconst 180, 0, 0), (58, 2, .newarray .int, .newarray .int, 1079, 0), (60, 3, .putfield 29, .putstatic 1220, 5228, 29), (63, 1, .aload_n 0, .aload 0, 0, 0), (64, 2, .bipush 12, .iconst 12, 0, 0), (66, 2, .newarray .int, .newarray .int, 1079, 0), (68, 3, .putfield 32, .putstatic 1221, 5229, 32), (71, 1, .aload_n 0, .aload 0, 0, 0), (72, 2, .bipush 12, .iconst 12, 0, 0), (74, 2, .newarray .int, .newarray .int, 1079, 0), (76, 3, .putfield 35, .putstatic 1222, 5230, 35), (79, 1, .aload_n 0, .aload 0, 0, 0), (80, 2, .bipush 12, .iconst 12, 0, 0), (82, 2, .newarray .int, .newarray .int, 1079, 0), (84, 3, .putfield 38, .putstatic 1223, 5231, 38), (87, 1, .aload_n 0, .aload 0, 0, 0), (88, 2, .bipush 12, .iconst 12, 0, 0), (90, 2, .newarray .int, .newarray .int, 1079, 0), (92, 3, .putfield 41, .putstatic 1224, 5232, 41), (95, 1, .aload_n 0, .aload 0, 0, 0), (96, 3, .sipush 180, .iconst 180, 0, 0), (99, 2, .newarray .int, .newarray .int, 1079, 0), (101, 3, .putfield 44, .putstatic 1225, 5233, 44), (104, 1, .aload_n 0, .aload 0, 0, 0), (105, 2, .bipush 12, .iconst 12, 0, 0), (107, 2, .newarray .int, .newarray .int, 1079, 0), (109, 3, .putfield 47, .putstatic 1226, 5234, 47), (112, 1, .aload_n 0, .aload 0, 0, 0), (113, 2, .bipush 12, .iconst 12, 0, 0), (115, 2, .newarray .int, .newarray .int, 1079, 0), (117, 3, .putfield 50, .putstatic 1227, 5235, 50), (120, 1, .aload_n 0, .aload 0, 0, 0), (121, 2, .bipush 12, .iconst 12, 0, 0), (123, 2, .newarray .int, .newarray .int, 1079, 0), (125, 3, .putfield 53, .putstatic 1228, 5236, 53), (128, 1, .aload_n 0, .aload 0, 0, 0), (129, 2, .bipush 12, .iconst 12, 0, 0), (131, 2, .newarray .int, .newarray .int, 1079, 0), (133, 3, .putfield 56, .putstatic 1229, 5237, 56), (136, 1, .aload_n 0, .aload 0, 0, 0), (137, 3, .sipush 180, .iconst 180, 0, 0), (140, 2, .newarray .int, .newarray .int, 1079, 0), (142, 3, .putfield 59, .putstatic 1230, 5238, 59), (145, 1, .aload_n 0, .aload 0, 0, 0), (146, 2, .bipush 9, .iconst 9, 0, 0), (148, 2, .newarray .int, .newarray .int, 1079, 0), (150, 3, .putfield 62, .putstatic 1231, 5239, 62), (153, 1, .aload_n 0, .aload 0, 0, 0), (154, 2, .ldc 65, .iconst 40000, 5207, 65), (156, 2, .newarray .int, .newarray .int, 1079, 0), (158, 3, .putfield 66, .putstatic 1232, 6000, 66), (161, 1, .aload_n 0, .aload 0, 0, 0), (162, 2, .ldc 65, .iconst 40000, 5207, 65), (164, 2, .newarray .int, .newarray .int, 1079, 0), (166, 3, .putfield 69, .putstatic 1233, 6001, 69), (169, 1, .aload_n 0, .aload 0, 0, 0), (170, 2, .bipush 100, .iconst 100, 0, 0), (172, 2, .newarray .boolean, .newarray .boolean, 6176, 0), (174, 3, .putfield 72, .putstatic 1234, 6002, 72), (177, 1, .aload_n 0, .aload 0, 0, 0), (178, 2, .bipush 21, .iconst 21, 0, 0), (180, 2, .newarray .int, .newarray .int, 1079, 0), (182, 3, .putfield 76, .putstatic 1235, 6003, 76), (185, 1, .aload_n 0, .aload 0, 0, 0), (186, 2, .bipush 8, .iconst 8, 0, 0), (188, 2, .newarray .int, .newarray .int, 1079, 0), (190, 3, .putfield 79, .putstatic 1238, 6006, 79), (193, 1, .aload_n 0, .aload 0, 0, 0), (194, 2, .bipush 8, .iconst 8, 0, 0), (196, 2, .newarray .int, .newarray .int, 1079, 0), (198, 3, .putfield 82, .putstatic 1239, 6007, 82), (201, 1, .aload_n 0, .aload 0, 0, 0), (202, 2, .bipush 8, .iconst 8, 0, 0), (204, 2, .newarray .int, .newarray .int, 1079, 0), (206, 3, .putfield 85, .putstatic 1240, 6008, 85), (209, 1, .aload_n 0, .aload 0, 0, 0), (210, 3, .sipush 2304, .iconst 2304, 0, 0), (213, 2, .newarray .int, .newarray .int, 1079, 0), (215, 3, .putfield 88, .putstatic 1241, 6009, 88), (218, 1, .aload_n 0, .aload 0, 0, 0), (219, 2, .bipush 8, .iconst 8, 0, 0), (221, 2, .newarray .int, .newarray .int, 1079, 0), (223, 3, .putfield 91, .putstatic 1244, 6012, 91), (226, 1, .aload_n 0, .aload 0, 0, 0), (227, 2, .bipush 8, .iconst 8, 0, 0), (229, 2, .newarray .int, .newarray .int, 1079, 0), (231, 3, .putfield 94, .putstatic 1245, 6013, 94), (234, 1, .aload_n 0, .aload 0, 0, 0), (235, 2, .bipush 8, .iconst 8, 0, 0), (237, 2, .newarray .int, .newarray .int, 1079, 0), (239, 3, .putfield 97, .putstatic 1246, 6014, 97), (242, 1, .aload_n 0, .aload 0, 0, 0), (243, 2, .bipush 8, .iconst 8, 0, 0), (245, 2, .newarray .int, .newarray .int, 1079, 0), (247, 3, .putfield 100, .putstatic 1247, 6015, 100), (250, 1, .aload_n 0, .aload 0, 0, 0), (251, 2, .bipush 8, .iconst 8, 0, 0), (253, 2, .newarray .int, .newarray .int, 1079, 0), (255, 3, .putfield 103, .putstatic 1248, 6016, 103), (258, 1, .aload_n 0, .aload 0, 0, 0), (259, 2, .bipush 8, .iconst 8, 0, 0), (261, 2, .newarray .int, .newarray .int, 1079, 0), (263, 3, .putfield 106, .putstatic 1249, 6017, 106), (266, 1, .aload_n 0, .aload 0, 0, 0), (267, 2, .bipush 64, .iconst 64, 0, 0), (269, 2, .newarray .int, .newarray .int, 1079, 0), (271, 3, .putfield 109, .putstatic 1250, 6018, 109), (274, 1, .aload_n 0, .aload 0, 0, 0), (275, 3, .sipush 2304, .iconst 2304, 0, 0), (278, 2, .newarray .int, .newarray .int, 1079, 0), (280, 3, .putfield 112, .putstatic 1251, 6019, 112), (283, 1, .aload_n 0, .aload 0, 0, 0), (284, 2, .bipush 20, .iconst 20, 0, 0), (286, 2, .newarray .int, .newarray .int, 1079, 0), (288, 3, .putfield 115, .putstatic 1252, 6020, 115), (291, 1, .aload_n 0, .aload 0, 0, 0), (292, 2, .bipush 20, .iconst 20, 0, 0), (294, 2, .newarray .int, .newarray .int, 1079, 0), (296, 3, .putfield 118, .putstatic 1253, 6021, 118), (299, 1, .aload_n 0, .aload 0, 0, 0), (300, 2, .bipush 20, .iconst 20, 0, 0), (302, 2, .newarray .int, .newarray .int, 1079, 0), (304, 3, .putfield 121, .putstatic 1254, 6022, 121), (307, 1, .aload_n 0, .aload 0, 0, 0), (308, 1, .iconst 3, .iconst 3, 0, 0), (309, 2, .newarray .int, .newarray .int, 1079, 0), (311, 3, .putfield 124, .putstatic 1258, 6026, 124), (314, 1, .aload_n 0, .aload 0, 0, 0), (315, 2, .bipush 30, .iconst 30, 0, 0), (317, 2, .newarray .int, .newarray .int, 1079, 0), (319, 3, .putfield 127, .putstatic 1260, 6028, 127), (322, 1, .aload_n 0, .aload 0, 0, 0), (323, 2, .bipush 30, .iconst 30, 0, 0), (325, 2, .newarray .int, .newarray .int, 1079, 0), (327, 3, .putfield 130, .putstatic 1261, 6029, 130), (330, 1, .aload_n 0, .aload 0, 0, 0), (331, 2, .bipush 30, .iconst 30, 0, 0), (333, 2, .newarray .int, .newarray .int, 1079, 0), (335, 3, .putfield 133, .putstatic 1262, 6030, 133), (338, 1, .aload_n 0, .aload 0, 0, 0), (339, 2, .bipush 20, .iconst 20, 0, 0), (341, 2, .newarray .int, .newarray .int, 1079, 0), (343, 3, .putfield 136, .putstatic 1263, 6031, 136), (346, 1, .aload_n 0, .aload 0, 0, 0), (347, 2, .bipush 20, .iconst 20, 0, 0), (349, 2, .newarray .int, .newarray .int, 1079, 0), (351, 3, .putfield 139, .putstatic 1264, 6032, 139), (354, 1, .aload_n 0, .aload 0, 0, 0), (355, 2, .bipush 30, .iconst 30, 0, 0), (357, 2, .newarray .boolean, .newarray .boolean, 6176, 0), (359, 3, .putfield 142, .putstatic 1265, 6033, 142), (362, 1, .aload_n 0, .aload 0, 0, 0), (363, 1, .iconst 1, .iconst 1, 0, 0), (364, 3, .putfield 145, .putfield 1203, 5211, 145), (367, 1, .return_, .return_, 0, 0)]
set_option maxRecDepth 100000 in
def zi_178 : List Instr := [.aload 0, .pop, .aload 0, .iconst 20, .newarray .int, .putstatic 1204, .aload 0, .iconst 40, .newarray .int, .putstatic 1205, .aload 0, .iconst 40, .newarray .int, .putstatic 1206, .aload 0, .iconst 40, .newarray .int, .putstatic 1207, .aload 0, .iconst 200, .newarray .byte, .putstatic 1208, .aload 0, .iconst 180, .newarray .int, .putstatic 1219, .aload 0, .iconst 180, .newarray .int, .putstatic 1220, .aload 0, .iconst 12, .newarray .int, .putstatic 1221, .aload 0, .iconst 12, .newarray .int, .putstatic 1222, .aload 0, .iconst 12, .newarray .int, .putstatic 1223, .aload 0, .iconst 12, .newarray .int, .putstatic 1224, .aload 0, .iconst 180, .newarray .int, .putstatic 1225, .aload 0, .iconst 12, .newarray .int, .putstatic 1226, .aload 0, .iconst 12, .newarray .int, .putstatic 1227, .aload 0, .iconst 12, .newarray .int, .putstatic 1228, .aload 0, .iconst 12, .newarray .int, .putstatic 1229, .aload 0, .iconst 180, .newarray .int, .putstatic 1230, .aload 0, .iconst 9, .newarray .int, .putstatic 1231, .aload 0, .iconst 40000, .newarray .int, .putstatic 1232, .aload 0, .iconst 40000, .newarray .int, .putstatic 1233, .aload 0, .iconst 100, .newarray .boolean, .putstatic 1234, .aload 0, .iconst 21, .newarray .int, .putstatic 1235, .aload 0, .iconst 8, .newarray .int, .putstatic 1238, .aload 0, .iconst 8, .newarray .int, .putstatic 1239, .aload 0, .iconst 8, .newarray .int, .putstatic 1240, .aload 0, .iconst 2304, .newarray .int, .putstatic 1241, .aload 0, .iconst 8, .newarray .int, .putstatic 1244, .aload 0, .iconst 8, .newarray .int, .putstatic 1245, .aload 0, .iconst 8, .newarray .int, .putstatic 1246, .aload 0, .iconst 8, .newarray .int, .putstatic 1247, .aload 0, .iconst 8, .newarray .int, .putstatic 1248, .aload 0, .iconst 8, .newarray .int, .putstatic 1249, .aload 0, .iconst 64, .newarray .int, .putstatic 1250, .aload 0, .iconst 2304, .newarray .int, .putstatic 1251, .aload 0, .iconst 20, .newarray .int, .putstatic 1252, .aload 0, .iconst 20, .newarray .int, .putstatic 1253, .aload 0, .iconst 20, .newarray .int, .putstatic 1254, .aload 0, .iconst 3, .newarray .int, .putstatic 1258, .aload 0, .iconst 30, .newarray .int, .putstatic 1260, .aload 0, .iconst 30, .newarray .int, .putstatic 1261, .aload 0, .iconst 30, .newarray .int, .putstatic 1262, .aload 0, .iconst 20, .newarray .int, .putstatic 1263, .aload 0, .iconst 20, .newarray .int, .putstatic 1264, .aload 0, .iconst 30, .newarray .boolean, .putstatic 1265, .aload 0, .iconst 1, .putfield 1203, .return_]
set_option maxRecDepth 100000 in
theorem ze_178 : zc_178.map (fun e => e.2.2.2.1) = zi_178 := rfl
set_option maxRecDepth 100000 in
theorem zk_178 : zckm (zmd 178) true zc_178 zmd [] = true := by decide +kernel
noncomputable def zf_178 : zF := zden zX0 zi_178 (zlk []) 1
/-- HillErrandsModel.<init> -/
theorem zs_178 : ∀ d, 1 ≤ d → zSnd d (zmd 178) zf_178 := by
  intro d hd
  obtain ⟨d, rfl⟩ : ∃ k, d = k + 1 := ⟨d - 1, by omega⟩
  have h := zsound (d := d) (l := []) zo_178 (fun _ => rfl) zk_178 (fun q hq => by cases hq)
  rw [ze_178] at h
  exact h
set_option maxRecDepth 100000 in
def zc_179 : List zE := [(0, 1, .iload_n 0, .iload 0, 0, 0), (1, 1, .iload_n 1, .iload 1, 0, 0), (2, 3, .if_icmp .lt 12, .if_icmp .lt 8, 0, 0), (5, 1, .iload_n 0, .iload 0, 0, 0), (6, 1, .iload_n 2, .iload 2, 0, 0), (7, 3, .if_icmp .gt 7, .if_icmp .gt 8, 0, 0), (10, 1, .iconst 1, .iconst 1, 0, 0), (11, 3, .goto 4, .goto 9, 0, 0), (14, 1, .iconst 0, .iconst 0, 0, 0), (15, 1, .ireturn, .lreturn, 0, 0)]
set_option maxRecDepth 100000 in
def zi_179 : List Instr := [.iload 0, .iload 1, .if_icmp .lt 8, .iload 0, .iload 2, .if_icmp .gt 8, .iconst 1, .goto 9, .iconst 0, .lreturn]
set_option maxRecDepth 100000 in
theorem ze_179 : zc_179.map (fun e => e.2.2.2.1) = zi_179 := rfl
set_option maxRecDepth 100000 in
theorem zk_179 : zckm (zmd 179) false zc_179 zmd [] = true := by decide +kernel
noncomputable def zf_179 : zF := zden zX0 zi_179 (zlk []) 3
/-- HillErrandsModel.in -/
theorem zs_179 : ∀ d, 1 ≤ d → zSnd d (zmd 179) zf_179 := by
  intro d hd
  obtain ⟨d, rfl⟩ : ∃ k, d = k + 1 := ⟨d - 1, by omega⟩
  have h := zsound (d := d) (l := []) zo_179 (fun h => by cases h) zk_179 (fun q hq => by cases hq)
  rw [ze_179] at h
  exact h
set_option maxRecDepth 100000 in
def zc_180 : List zE := [(0, 1, .iload_n 0, .iload 0, 0, 0), (1, 2, .ldc 149, .iconst 1000000000, 7062, 149), (3, 3, .if_icmp .ge 9, .if_icmp .ge 6, 0, 0), (6, 1, .iload_n 1, .iload 1, 0, 0), (7, 2, .ldc 149, .iconst 1000000000, 7062, 149), (9, 3, .if_icmp .lt 8, .if_icmp .lt 8, 0, 0), (12, 2, .ldc 149, .iconst 1000000000, 7062, 149), (14, 3, .goto 6, .goto 11, 0, 0), (17, 1, .iload_n 0, .iload 0, 0, 0), (18, 1, .iload_n 1, .iload 1, 0, 0), (19, 1, .iadd, .iadd, 0, 0), (20, 1, .ireturn, .ireturn, 0, 0)]
set_option maxRecDepth 100000 in
def zi_180 : List Instr := [.iload 0, .iconst 1000000000, .if_icmp .ge 6, .iload 1, .iconst 1000000000, .if_icmp .lt 8, .iconst 1000000000, .goto 11, .iload 0, .iload 1, .iadd, .ireturn]
set_option maxRecDepth 100000 in
theorem ze_180 : zc_180.map (fun e => e.2.2.2.1) = zi_180 := rfl
set_option maxRecDepth 100000 in
theorem zk_180 : zckm (zmd 180) false zc_180 zmd [] = true := by decide +kernel
noncomputable def zf_180 : zF := zden zX0 zi_180 (zlk []) 2
/-- HillErrandsModel.sum -/
theorem zs_180 : ∀ d, 1 ≤ d → zSnd d (zmd 180) zf_180 := by
  intro d hd
  obtain ⟨d, rfl⟩ : ∃ k, d = k + 1 := ⟨d - 1, by omega⟩
  have h := zsound (d := d) (l := []) zo_180 (fun h => by cases h) zk_180 (fun q hq => by cases hq)
  rw [ze_180] at h
  exact h
set_option maxRecDepth 100000 in
def zc_181 : List zE := [(0, 1, .iload_n 0, .iload 0, 0, 0), (1, 1, .iload_n 1, .iload 1, 0, 0), (2, 3, .if_icmp .ge 7, .if_icmp .ge 5, 0, 0), (5, 1, .iload_n 0, .iload 0, 0, 0), (6, 3, .goto 4, .goto 6, 0, 0), (9, 1, .iload_n 1, .iload 1, 0, 0), (10, 1, .ireturn, .ireturn, 0, 0)]
set_option maxRecDepth 100000 in
def zi_181 : List Instr := [.iload 0, .iload 1, .if_icmp .ge 5, .iload 0, .goto 6, .iload 1, .ireturn]
set_option maxRecDepth 100000 in
theorem ze_181 : zc_181.map (fun e => e.2.2.2.1) = zi_181 := rfl
set_option maxRecDepth 100000 in
theorem zk_181 : zckm (zmd 181) false zc_181 zmd [] = true := by decide +kernel
noncomputable def zf_181 : zF := zden zX0 zi_181 (zlk []) 2
/-- HillErrandsModel.least -/
theorem zs_181 : ∀ d, 1 ≤ d → zSnd d (zmd 181) zf_181 := by
  intro d hd
  obtain ⟨d, rfl⟩ : ∃ k, d = k + 1 := ⟨d - 1, by omega⟩
  have h := zsound (d := d) (l := []) zo_181 (fun h => by cases h) zk_181 (fun q hq => by cases hq)
  rw [ze_181] at h
  exact h
set_option maxRecDepth 100000 in
def zc_182 : List zE := [(0, 1, .iconst 0, .iconst 0, 0, 0), (1, 1, .istore_n 1, .istore 1, 0, 0), (2, 1, .iconst 0, .iconst 0, 0, 0), (3, 1, .istore_n 2, .istore 2, 0, 0), (4, 1, .iload_n 2, .iload 2, 0, 0), (5, 2, .bipush 20, .iconst 20, 0, 0), (7, 3, .if_icmp .ge 17, .if_icmp .ge 17, 0, 0), (10, 1, .iload_n 1, .iload 1, 0, 0), (11, 1, .iload_n 0, .iload 0, 0, 0), (12, 1, .iload_n 2, .iload 2, 0, 0), (13, 1, .ishr, .ishr, 0, 0), (14, 1, .iconst 1, .iconst 1, 0, 0), (15, 1, .iand, .iand, 0, 0), (16, 1, .iadd, .iadd, 0, 0), (17, 1, .istore_n 1, .istore 1, 0, 0), (18, 3, .iinc 2 1, .iinc 2 1, 0, 0), (21, 3, .goto (-17), .goto 4, 0, 0), (24, 1, .iload_n 1, .iload 1, 0, 0), (25, 1, .ireturn, .ireturn, 0, 0)]
set_option maxRecDepth 100000 in
def zi_182 : List Instr := [.iconst 0, .istore 1, .iconst 0, .istore 2, .iload 2, .iconst 20, .if_icmp .ge 17, .iload 1, .iload 0, .iload 2, .ishr, .iconst 1, .iand, .iadd, .istore 1, .iinc 2 1, .goto 4, .iload 1, .ireturn]
set_option maxRecDepth 100000 in
theorem ze_182 : zc_182.map (fun e => e.2.2.2.1) = zi_182 := rfl
set_option maxRecDepth 100000 in
theorem zk_182 : zckm (zmd 182) false zc_182 zmd [] = true := by decide +kernel
noncomputable def zf_182 : zF := zden zX0 zi_182 (zlk []) 3
/-- HillErrandsModel.bits -/
theorem zs_182 : ∀ d, 1 ≤ d → zSnd d (zmd 182) zf_182 := by
  intro d hd
  obtain ⟨d, rfl⟩ : ∃ k, d = k + 1 := ⟨d - 1, by omega⟩
  have h := zsound (d := d) (l := []) zo_182 (fun h => by cases h) zk_182 (fun q hq => by cases hq)
  rw [ze_182] at h
  exact h
set_option maxRecDepth 100000 in
def zc_183 : List zE := [(0, 1, .iload_n 1, .iload 1, 0, 0), (1, 3, .ifCond .lt 15, .ifCond .lt 8, 0, 0), (4, 1, .iload_n 1, .iload 1, 0, 0), (5, 1, .aload_n 0, .aload 0, 0, 0), (6, 3, .getfield 150, .getfield 1200, 5208, 150), (9, 3, .if_icmp .ge 7, .if_icmp .ge 8, 0, 0), (12, 1, .iconst 1, .iconst 1, 0, 0), (13, 3, .goto 4, .goto 9, 0, 0), (16, 1, .iconst 0, .iconst 0, 0, 0), (17, 1, .ireturn, .lreturn, 0, 0)]
set_option maxRecDepth 100000 in
def zi_183 : List Instr := [.iload 1, .ifCond .lt 8, .iload 1, .aload 0, .getfield 1200, .if_icmp .ge 8, .iconst 1, .goto 9, .iconst 0, .lreturn]
set_option maxRecDepth 100000 in
theorem ze_183 : zc_183.map (fun e => e.2.2.2.1) = zi_183 := rfl
set_option maxRecDepth 100000 in
theorem zk_183 : zckm (zmd 183) false zc_183 zmd [] = true := by decide +kernel
noncomputable def zf_183 : zF := zden zX0 zi_183 (zlk []) 2
/-- HillErrandsModel.isPlace -/
theorem zs_183 : ∀ d, 1 ≤ d → zSnd d (zmd 183) zf_183 := by
  intro d hd
  obtain ⟨d, rfl⟩ : ∃ k, d = k + 1 := ⟨d - 1, by omega⟩
  have h := zsound (d := d) (l := []) zo_183 (fun h => by cases h) zk_183 (fun q hq => by cases hq)
  rw [ze_183] at h
  exact h
set_option maxRecDepth 100000 in
def zc_184 : List zE := [(0, 1, .iload_n 1, .iload 1, 0, 0), (1, 1, .iconst 0, .iconst 0, 0, 0), (2, 3, .sipush 200, .iconst 200, 0, 0), (5, 3, .invokestatic 153, .invokestatic 1790013, 6181, 153), (8, 3, .ifCond .eq 12, .ifCond .eq 9, 0, 0), (11, 1, .aload_n 0, .aload 0, 0, 0), (12, 3, .getfield 150, .getfield 1200, 5208, 150), (15, 2, .bipush 20, .iconst 20, 0, 0), (17, 3, .if_icmp .ne 5, .if_icmp .ne 11, 0, 0), (20, 1, .iconst (-1), .iconst (-1), 0, 0), (21, 1, .ireturn, .ireturn, 0, 0), (22, 1, .aload_n 0, .aload 0, 0, 0), (23, 3, .getfield 7, .getstatic 1204, 5212, 7), (26, 1, .aload_n 0, .aload 0, 0, 0), (27, 3, .getfield 150, .getfield 1200, 5208, 150), (30, 1, .iload_n 1, .iload 1, 0, 0), (31, 1, .iastore, .iastore, 0, 0), (32, 1, .aload_n 0, .aload 0, 0, 0), (33, 1, .aload_n 0, .aload 0, 0, 0), (34, 3, .getfield 150, .getfield 1200, 5208, 150), (37, 1, .iconst 1, .iconst 1, 0, 0), (38, 1, .iadd, .iadd, 0, 0), (39, 3, .putfield 150, .putfield 1200, 5208, 150), (42, 1, .aload_n 0, .aload 0, 0, 0), (43, 3, .getfield 150, .getfield 1200, 5208, 150), (46, 1, .iconst 1, .iconst 1, 0, 0), (47, 1, .isub, .isub, 0, 0), (48, 1, .ireturn, .ireturn, 0, 0)]
set_option maxRecDepth 100000 in
def zi_184 : List Instr := [.iload 1, .iconst 0, .iconst 200, .invokestatic 1790013, .ifCond .eq 9, .aload 0, .getfield 1200, .iconst 20, .if_icmp .ne 11, .iconst (-1), .ireturn, .aload 0, .getstatic 1204, .aload 0, .getfield 1200, .iload 1, .iastore, .aload 0, .aload 0, .getfield 1200, .iconst 1, .iadd, .putfield 1200, .aload 0, .getfield 1200, .iconst 1, .isub, .ireturn]
set_option maxRecDepth 100000 in
theorem ze_184 : zc_184.map (fun e => e.2.2.2.1) = zi_184 := rfl
set_option maxRecDepth 100000 in
theorem zk_184 : zckm (zmd 184) false zc_184 zmd [179] = true := by decide +kernel
noncomputable def zf_184 : zF := zden zX0 zi_184 (zlk [(179, zf_179)]) 2
/-- HillErrandsModel.place -/
theorem zs_184 : ∀ d, 2 ≤ d → zSnd d (zmd 184) zf_184 := by
  intro d hd
  obtain ⟨d, rfl⟩ : ∃ k, d = k + 1 := ⟨d - 1, by omega⟩
  have h := zsound (d := d) (l := [(179, zf_179)]) zo_184 (fun h => by cases h) zk_184 (fun q hq => by
    simp only [List.mem_cons, List.not_mem_nil, or_false] at hq
    subst hq
    · exact zs_179 d (by omega))
  rw [ze_184] at h
  exact h
set_option maxRecDepth 100000 in
def zc_185 : List zE := [(0, 1, .aload_n 0, .aload 0, 0, 0), (1, 3, .getfield 13, .getstatic 1205, 5213, 13), (4, 1, .aload_n 0, .aload 0, 0, 0), (5, 3, .getfield 157, .getfield 1201, 5209, 157), (8, 1, .iload_n 1, .iload 1, 0, 0), (9, 1, .iastore, .iastore, 0, 0), (10, 1, .aload_n 0, .aload 0, 0, 0), (11, 3, .getfield 16, .getstatic 1206, 5214, 16), (14, 1, .aload_n 0, .aload 0, 0, 0), (15, 3, .getfield 157, .getfield 1201, 5209, 157), (18, 1, .iload_n 2, .iload 2, 0, 0), (19, 1, .iastore, .iastore, 0, 0), (20, 1, .aload_n 0, .aload 0, 0, 0), (21, 3, .getfield 19, .getstatic 1207, 5215, 19), (24, 1, .aload_n 0, .aload 0, 0, 0), (25, 3, .getfield 157, .getfield 1201, 5209, 157), (28, 1, .iload_n 3, .iload 3, 0, 0), (29, 1, .iastore, .iastore, 0, 0), (30, 1, .aload_n 0, .aload 0, 0, 0), (31, 1, .aload_n 0, .aload 0, 0, 0), (32, 3, .getfield 157, .getfield 1201, 5209, 157), (35, 1, .iconst 1, .iconst 1, 0, 0), (36, 1, .iadd, .iadd, 0, 0), (37, 3, .putfield 157, .putfield 1201, 5209, 157), (40, 1, .return_, .return_, 0, 0)]
set_option maxRecDepth 100000 in
def zi_185 : List Instr := [.aload 0, .getstatic 1205, .aload 0, .getfield 1201, .iload 1, .iastore, .aload 0, .getstatic 1206, .aload 0, .getfield 1201, .iload 2, .iastore, .aload 0, .getstatic 1207, .aload 0, .getfield 1201, .iload 3, .iastore, .aload 0, .aload 0, .getfield 1201, .iconst 1, .iadd, .putfield 1201, .return_]
set_option maxRecDepth 100000 in
theorem ze_185 : zc_185.map (fun e => e.2.2.2.1) = zi_185 := rfl
set_option maxRecDepth 100000 in
theorem zk_185 : zckm (zmd 185) false zc_185 zmd [] = true := by decide +kernel
noncomputable def zf_185 : zF := zden zX0 zi_185 (zlk []) 4
/-- HillErrandsModel.builds -/
theorem zs_185 : ∀ d, 1 ≤ d → zSnd d (zmd 185) zf_185 := by
  intro d hd
  obtain ⟨d, rfl⟩ : ∃ k, d = k + 1 := ⟨d - 1, by omega⟩
  have h := zsound (d := d) (l := []) zo_185 (fun h => by cases h) zk_185 (fun q hq => by cases hq)
  rw [ze_185] at h
  exact h
set_option maxRecDepth 100000 in
def zc_186 : List zE := [(0, 1, .aload_n 0, .aload 0, 0, 0), (1, 1, .iload_n 1, .iload 1, 0, 0), (2, 3, .invokevirtual 160, .invokevirtual 1831211, 6188, 160), (5, 3, .ifCond .eq 54, .ifCond .eq 32, 0, 0), (8, 1, .aload_n 0, .aload 0, 0, 0), (9, 1, .iload_n 2, .iload 2, 0, 0), (10, 3, .invokevirtual 160, .invokevirtual 1831211, 6188, 160), (13, 3, .ifCond .eq 46, .ifCond .eq 32, 0, 0), (16, 1, .iload_n 1, .iload 1, 0, 0), (17, 1, .iload_n 2, .iload 2, 0, 0), (18, 3, .if_icmp .eq 41, .if_icmp .eq 32, 0, 0), (21, 1, .iload_n 3, .iload 3, 0, 0), (22, 1, .iconst 0, .iconst 0, 0, 0), (23, 1, .iconst 2, .iconst 2, 0, 0), (24, 3, .invokestatic 153, .invokestatic 1790013, 6181, 153), (27, 3, .ifCond .eq 32, .ifCond .eq 32, 0, 0), (30, 1, .iload_n 3, .iload 3, 0, 0), (31, 1, .iconst 1, .iconst 1, 0, 0), (32, 3, .if_icmp .ne 18, .if_icmp .ne 28, 0, 0), (35, 1, .aload_n 0, .aload 0, 0, 0), (36, 3, .getfield 7, .getstatic 1204, 5212, 7), (39, 1, .iload_n 2, .iload 2, 0, 0), (40, 1, .iaload, .iaload, 0, 0), (41, 1, .aload_n 0, .aload 0, 0, 0), (42, 3, .getfield 7, .getstatic 1204, 5212, 7), (45, 1, .iload_n 1, .iload 1, 0, 0), (46, 1, .iaload, .iaload, 0, 0), (47, 3, .if_icmp .gt 12, .if_icmp .gt 32, 0, 0), (50, 1, .aload_n 0, .aload 0, 0, 0), (51, 3, .getfield 157, .getfield 1201, 5209, 157), (54, 2, .bipush 40, .iconst 40, 0, 0), (56, 3, .if_icmp .ne 5, .if_icmp .ne 34, 0, 0), (59, 1, .iconst (-1), .iconst (-1), 0, 0), (60, 1, .ireturn, .ireturn, 0, 0), (61, 1, .aload_n 0, .aload 0, 0, 0), (62, 1, .iload_n 1, .iload 1, 0, 0), (63, 1, .iload_n 2, .iload 2, 0, 0), (64, 1, .iload_n 3, .iload 3, 0, 0), (65, 3, .invokevirtual 164, .invokevirtual 1851203, 6192, 164), (68, 1, .aload_n 0, .aload 0, 0, 0), (69, 3, .getfield 157, .getfield 1201, 5209, 157), (72, 1, .iconst 1, .iconst 1, 0, 0), (73, 1, .isub, .isub, 0, 0), (74, 1, .ireturn, .ireturn, 0, 0)]
set_option maxRecDepth 100000 in
def zi_186 : List Instr := [.aload 0, .iload 1, .invokevirtual 1831211, .ifCond .eq 32, .aload 0, .iload 2, .invokevirtual 1831211, .ifCond .eq 32, .iload 1, .iload 2, .if_icmp .eq 32, .iload 3, .iconst 0, .iconst 2, .invokestatic 1790013, .ifCond .eq 32, .iload 3, .iconst 1, .if_icmp .ne 28, .aload 0, .getstatic 1204, .iload 2, .iaload, .aload 0, .getstatic 1204, .iload 1, .iaload, .if_icmp .gt 32, .aload 0, .getfield 1201, .iconst 40, .if_icmp .ne 34, .iconst (-1), .ireturn, .aload 0, .iload 1, .iload 2, .iload 3, .invokevirtual 1851203, .aload 0, .getfield 1201, .iconst 1, .isub, .ireturn]
set_option maxRecDepth 100000 in
theorem ze_186 : zc_186.map (fun e => e.2.2.2.1) = zi_186 := rfl
set_option maxRecDepth 100000 in
theorem zk_186 : zckm (zmd 186) false zc_186 zmd [179, 183, 185] = true := by decide +kernel
noncomputable def zf_186 : zF := zden zX0 zi_186 (zlk [(179, zf_179), (183, zf_183), (185, zf_185)]) 4
/-- HillErrandsModel.stair -/
theorem zs_186 : ∀ d, 2 ≤ d → zSnd d (zmd 186) zf_186 := by
  intro d hd
  obtain ⟨d, rfl⟩ : ∃ k, d = k + 1 := ⟨d - 1, by omega⟩
  have h := zsound (d := d) (l := [(179, zf_179), (183, zf_183), (185, zf_185)]) zo_186 (fun h => by cases h) zk_186 (fun q hq => by
    simp only [List.mem_cons, List.not_mem_nil, or_false] at hq
    rcases hq with rfl | rfl | rfl
    · exact zs_179 d (by omega)
    · exact zs_183 d (by omega)
    · exact zs_185 d (by omega))
  rw [ze_186] at h
  exact h
set_option maxRecDepth 100000 in
def zc_187 : List zE := [(0, 1, .iload_n 1, .iload 1, 0, 0), (1, 1, .iconst 0, .iconst 0, 0, 0), (2, 1, .iconst 3, .iconst 3, 0, 0), (3, 3, .invokestatic 153, .invokestatic 1790013, 6181, 153), (6, 3, .ifCond .ne 5, .ifCond .ne 7, 0, 0), (9, 1, .iconst 0, .iconst 0, 0, 0), (10, 1, .ireturn, .lreturn, 0, 0), (11, 1, .aload_n 0, .aload 0, 0, 0), (12, 1, .iload_n 1, .iload 1, 0, 0), (13, 3, .putfield 168, .putfield 1202, 5210, 168), (16, 1, .iconst 1, .iconst 1, 0, 0), (17, 1, .ireturn, .lreturn, 0, 0)]
set_option maxRecDepth 100000 in
def zi_187 : List Instr := [.iload 1, .iconst 0, .iconst 3, .invokestatic 1790013, .ifCond .ne 7, .iconst 0, .lreturn, .aload 0, .iload 1, .putfield 1202, .iconst 1, .lreturn]
set_option maxRecDepth 100000 in
theorem ze_187 : zc_187.map (fun e => e.2.2.2.1) = zi_187 := rfl
set_option maxRecDepth 100000 in
theorem zk_187 : zckm (zmd 187) false zc_187 zmd [179] = true := by decide +kernel
noncomputable def zf_187 : zF := zden zX0 zi_187 (zlk [(179, zf_179)]) 2
/-- HillErrandsModel.season -/
theorem zs_187 : ∀ d, 2 ≤ d → zSnd d (zmd 187) zf_187 := by
  intro d hd
  obtain ⟨d, rfl⟩ : ∃ k, d = k + 1 := ⟨d - 1, by omega⟩
  have h := zsound (d := d) (l := [(179, zf_179)]) zo_187 (fun h => by cases h) zk_187 (fun q hq => by
    simp only [List.mem_cons, List.not_mem_nil, or_false] at hq
    subst hq
    · exact zs_179 d (by omega))
  rw [ze_187] at h
  exact h
set_option maxRecDepth 100000 in
def zc_188 : List zE := [(0, 1, .iconst 3, .iconst 3, 0, 0), (1, 1, .istore_n 2, .istore 2, 0, 0), (2, 1, .iload_n 2, .iload 2, 0, 0), (3, 3, .ifCond .lt 35, .ifCond .lt 23, 0, 0), (6, 1, .aload_n 0, .aload 0, 0, 0), (7, 3, .getfield 22, .getstatic 1208, 5216, 22), (10, 1, .aload_n 0, .aload 0, 0, 0), (11, 3, .getfield 171, .getfield 1209, 5217, 171), (14, 1, .iload_n 1, .iload 1, 0, 0), (15, 2, .bipush 8, .iconst 8, 0, 0), (17, 1, .iload_n 2, .iload 2, 0, 0), (18, 1, .imul, .imul, 0, 0), (19, 1, .ishr, .ishr, 0, 0), (20, 1, .i2b, .i2b, 0, 0), (21, 1, .bastore, .bastore, 0, 0), (22, 1, .aload_n 0, .aload 0, 0, 0), (23, 1, .aload_n 0, .aload 0, 0, 0), (24, 3, .getfield 171, .getfield 1209, 5217, 171), (27, 1, .iconst 1, .iconst 1, 0, 0), (28, 1, .iadd, .iadd, 0, 0), (29, 3, .putfield 171, .putfield 1209, 5217, 171), (32, 3, .iinc 2 (-1), .iinc 2 (-1), 0, 0), (35, 3, .goto (-33), .goto 2, 0, 0), (38, 1, .return_, .return_, 0, 0)]
set_option maxRecDepth 100000 in
def zi_188 : List Instr := [.iconst 3, .istore 2, .iload 2, .ifCond .lt 23, .aload 0, .getstatic 1208, .aload 0, .getfield 1209, .iload 1, .iconst 8, .iload 2, .imul, .ishr, .i2b, .bastore, .aload 0, .aload 0, .getfield 1209, .iconst 1, .iadd, .putfield 1209, .iinc 2 (-1), .goto 2, .return_]
set_option maxRecDepth 100000 in
theorem ze_188 : zc_188.map (fun e => e.2.2.2.1) = zi_188 := rfl
set_option maxRecDepth 100000 in
theorem zk_188 : zckm (zmd 188) false zc_188 zmd [] = true := by decide +kernel
noncomputable def zf_188 : zF := zden zX0 zi_188 (zlk []) 3
/-- HillErrandsModel.types -/
theorem zs_188 : ∀ d, 1 ≤ d → zSnd d (zmd 188) zf_188 := by
  intro d hd
  obtain ⟨d, rfl⟩ : ∃ k, d = k + 1 := ⟨d - 1, by omega⟩
  have h := zsound (d := d) (l := []) zo_188 (fun h => by cases h) zk_188 (fun q hq => by cases hq)
  rw [ze_188] at h
  exact h
set_option maxRecDepth 100000 in
def zc_189 : List zE := [(0, 1, .aload_n 0, .aload 0, 0, 0), (1, 3, .getfield 171, .getfield 1209, 5217, 171), (4, 2, .bipush 20, .iconst 20, 0, 0), (6, 1, .iadd, .iadd, 0, 0), (7, 3, .sipush 200, .iconst 200, 0, 0), (10, 3, .if_icmp .le 5, .if_icmp .le 8, 0, 0), (13, 1, .iconst (-1), .iconst (-1), 0, 0), (14, 1, .ireturn, .ireturn, 0, 0), (15, 1, .aload_n 0, .aload 0, 0, 0), (16, 1, .iload_n 1, .iload 1, 0, 0), (17, 3, .invokevirtual 174, .invokevirtual 1881201, 6204, 174), (20, 1, .aload_n 0, .aload 0, 0, 0), (21, 1, .iload_n 2, .iload 2, 0, 0), (22, 3, .invokevirtual 174, .invokevirtual 1881201, 6204, 174), (25, 1, .aload_n 0, .aload 0, 0, 0), (26, 1, .iload_n 3, .iload 3, 0, 0), (27, 3, .invokevirtual 174, .invokevirtual 1881201, 6204, 174), (30, 1, .aload_n 0, .aload 0, 0, 0), (31, 2, .iload 4, .iload 4, 0, 0), (33, 3, .invokevirtual 174, .invokevirtual 1881201, 6204, 174), (36, 1, .aload_n 0, .aload 0, 0, 0), (37, 2, .iload 5, .iload 5, 0, 0), (39, 3, .invokevirtual 174, .invokevirtual 1881201, 6204, 174), (42, 1, .aload_n 0, .aload 0, 0, 0), (43, 3, .getfield 171, .getfield 1209, 5217, 171), (46, 1, .ireturn, .ireturn, 0, 0)]
set_option maxRecDepth 100000 in
def zi_189 : List Instr := [.aload 0, .getfield 1209, .iconst 20, .iadd, .iconst 200, .if_icmp .le 8, .iconst (-1), .ireturn, .aload 0, .iload 1, .invokevirtual 1881201, .aload 0, .iload 2, .invokevirtual 1881201, .aload 0, .iload 3, .invokevirtual 1881201, .aload 0, .iload 4, .invokevirtual 1881201, .aload 0, .iload 5, .invokevirtual 1881201, .aload 0, .getfield 1209, .ireturn]
set_option maxRecDepth 100000 in
theorem ze_189 : zc_189.map (fun e => e.2.2.2.1) = zi_189 := rfl
set_option maxRecDepth 100000 in
theorem zk_189 : zckm (zmd 189) false zc_189 zmd [188] = true := by decide +kernel
noncomputable def zf_189 : zF := zden zX0 zi_189 (zlk [(188, zf_188)]) 6
/-- HillErrandsModel.feed -/
theorem zs_189 : ∀ d, 2 ≤ d → zSnd d (zmd 189) zf_189 := by
  intro d hd
  obtain ⟨d, rfl⟩ : ∃ k, d = k + 1 := ⟨d - 1, by omega⟩
  have h := zsound (d := d) (l := [(188, zf_188)]) zo_189 (fun h => by cases h) zk_189 (fun q hq => by
    simp only [List.mem_cons, List.not_mem_nil, or_false] at hq
    subst hq
    · exact zs_188 d (by omega))
  rw [ze_189] at h
  exact h
set_option maxRecDepth 100000 in
def zc_190 : List zE := [(0, 1, .aload_n 0, .aload 0, 0, 0), (1, 3, .getfield 178, .getfield 1210, 5218, 178), (4, 1, .aload_n 0, .aload 0, 0, 0), (5, 3, .getfield 181, .getfield 1211, 5219, 181), (8, 3, .if_icmp .ge 19, .if_icmp .ge 13, 0, 0), (11, 1, .aload_n 0, .aload 0, 0, 0), (12, 3, .getfield 22, .getstatic 1208, 5216, 22), (15, 1, .aload_n 0, .aload 0, 0, 0), (16, 3, .getfield 178, .getfield 1210, 5218, 178), (19, 1, .baload, .baload, 0, 0), (20, 3, .sipush 255, .iconst 255, 0, 0), (23, 1, .iand, .iand, 0, 0), (24, 3, .goto 4, .goto 14, 0, 0), (27, 1, .iconst (-1), .iconst (-1), 0, 0), (28, 1, .ireturn, .ireturn, 0, 0)]
set_option maxRecDepth 100000 in
def zi_190 : List Instr := [.aload 0, .getfield 1210, .aload 0, .getfield 1211, .if_icmp .ge 13, .aload 0, .getstatic 1208, .aload 0, .getfield 1210, .baload, .iconst 255, .iand, .goto 14, .iconst (-1), .ireturn]
set_option maxRecDepth 100000 in
theorem ze_190 : zc_190.map (fun e => e.2.2.2.1) = zi_190 := rfl
set_option maxRecDepth 100000 in
theorem zk_190 : zckm (zmd 190) false zc_190 zmd [] = true := by decide +kernel
noncomputable def zf_190 : zF := zden zX0 zi_190 (zlk []) 1
/-- HillErrandsModel.here -/
theorem zs_190 : ∀ d, 1 ≤ d → zSnd d (zmd 190) zf_190 := by
  intro d hd
  obtain ⟨d, rfl⟩ : ∃ k, d = k + 1 := ⟨d - 1, by omega⟩
  have h := zsound (d := d) (l := []) zo_190 (fun h => by cases h) zk_190 (fun q hq => by cases hq)
  rw [ze_190] at h
  exact h
set_option maxRecDepth 100000 in
def zc_191 : List zE := [(0, 1, .aload_n 0, .aload 0, 0, 0), (1, 3, .invokevirtual 184, .invokevirtual 1901210, 6216, 184), (4, 2, .bipush 48, .iconst 48, 0, 0), (6, 3, .if_icmp .lt 16, .if_icmp .lt 10, 0, 0), (9, 1, .aload_n 0, .aload 0, 0, 0), (10, 3, .invokevirtual 184, .invokevirtual 1901210, 6216, 184), (13, 2, .bipush 57, .iconst 57, 0, 0), (15, 3, .if_icmp .gt 7, .if_icmp .gt 10, 0, 0), (18, 1, .iconst 1, .iconst 1, 0, 0), (19, 3, .goto 4, .goto 11, 0, 0), (22, 1, .iconst 0, .iconst 0, 0, 0), (23, 1, .ireturn, .lreturn, 0, 0)]
set_option maxRecDepth 100000 in
def zi_191 : List Instr := [.aload 0, .invokevirtual 1901210, .iconst 48, .if_icmp .lt 10, .aload 0, .invokevirtual 1901210, .iconst 57, .if_icmp .gt 10, .iconst 1, .goto 11, .iconst 0, .lreturn]
set_option maxRecDepth 100000 in
theorem ze_191 : zc_191.map (fun e => e.2.2.2.1) = zi_191 := rfl
set_option maxRecDepth 100000 in
theorem zk_191 : zckm (zmd 191) false zc_191 zmd [190] = true := by decide +kernel
noncomputable def zf_191 : zF := zden zX0 zi_191 (zlk [(190, zf_190)]) 1
/-- HillErrandsModel.isDigit -/
theorem zs_191 : ∀ d, 2 ≤ d → zSnd d (zmd 191) zf_191 := by
  intro d hd
  obtain ⟨d, rfl⟩ : ∃ k, d = k + 1 := ⟨d - 1, by omega⟩
  have h := zsound (d := d) (l := [(190, zf_190)]) zo_191 (fun h => by cases h) zk_191 (fun q hq => by
    simp only [List.mem_cons, List.not_mem_nil, or_false] at hq
    subst hq
    · exact zs_190 d (by omega))
  rw [ze_191] at h
  exact h
set_option maxRecDepth 100000 in
def zc_192 : List zE := [(0, 1, .aload_n 0, .aload 0, 0, 0), (1, 3, .sipush (-1000), .iconst (-1000), 0, 0), (4, 1, .iload_n 1, .iload 1, 0, 0), (5, 1, .imul, .imul, 0, 0), (6, 1, .iload_n 2, .iload 2, 0, 0), (7, 1, .isub, .isub, 0, 0), (8, 3, .putfield 188, .putfield 1212, 5220, 188), (11, 1, .iconst 0, .iconst 0, 0, 0), (12, 1, .ireturn, .lreturn, 0, 0)]
set_option maxRecDepth 100000 in
def zi_192 : List Instr := [.aload 0, .iconst (-1000), .iload 1, .imul, .iload 2, .isub, .putfield 1212, .iconst 0, .lreturn]
set_option maxRecDepth 100000 in
theorem ze_192 : zc_192.map (fun e => e.2.2.2.1) = zi_192 := rfl
set_option maxRecDepth 100000 in
theorem zk_192 : zckm (zmd 192) false zc_192 zmd [] = true := by decide +kernel
noncomputable def zf_192 : zF := zden zX0 zi_192 (zlk []) 3
/-- HillErrandsModel.wrongAt -/
theorem zs_192 : ∀ d, 1 ≤ d → zSnd d (zmd 192) zf_192 := by
  intro d hd
  obtain ⟨d, rfl⟩ : ∃ k, d = k + 1 := ⟨d - 1, by omega⟩
  have h := zsound (d := d) (l := []) zo_192 (fun h => by cases h) zk_192 (fun q hq => by cases hq)
  rw [ze_192] at h
  exact h
set_option maxRecDepth 100000 in
def zc_193 : List zE := [(0, 1, .aload_n 0, .aload 0, 0, 0), (1, 3, .invokevirtual 184, .invokevirtual 1901210, 6216, 184), (4, 1, .iload_n 1, .iload 1, 0, 0), (5, 3, .if_icmp .eq 13, .if_icmp .eq 10, 0, 0), (8, 1, .aload_n 0, .aload 0, 0, 0), (9, 1, .iconst 1, .iconst 1, 0, 0), (10, 1, .aload_n 0, .aload 0, 0, 0), (11, 3, .getfield 178, .getfield 1210, 5218, 178), (14, 3, .invokevirtual 191, .invokevirtual 1921212, 6220, 191), (17, 1, .ireturn, .lreturn, 0, 0), (18, 1, .aload_n 0, .aload 0, 0, 0), (19, 1, .aload_n 0, .aload 0, 0, 0), (20, 3, .getfield 178, .getfield 1210, 5218, 178), (23, 1, .iconst 1, .iconst 1, 0, 0), (24, 1, .iadd, .iadd, 0, 0), (25, 3, .putfield 178, .putfield 1210, 5218, 178), (28, 1, .iconst 1, .iconst 1, 0, 0), (29, 1, .ireturn, .lreturn, 0, 0)]
set_option maxRecDepth 100000 in
def zi_193 : List Instr := [.aload 0, .invokevirtual 1901210, .iload 1, .if_icmp .eq 10, .aload 0, .iconst 1, .aload 0, .getfield 1210, .invokevirtual 1921212, .lreturn, .aload 0, .aload 0, .getfield 1210, .iconst 1, .iadd, .putfield 1210, .iconst 1, .lreturn]
set_option maxRecDepth 100000 in
theorem ze_193 : zc_193.map (fun e => e.2.2.2.1) = zi_193 := rfl
set_option maxRecDepth 100000 in
theorem zk_193 : zckm (zmd 193) false zc_193 zmd [190, 192] = true := by decide +kernel
noncomputable def zf_193 : zF := zden zX0 zi_193 (zlk [(190, zf_190), (192, zf_192)]) 2
/-- HillErrandsModel.takes -/
theorem zs_193 : ∀ d, 2 ≤ d → zSnd d (zmd 193) zf_193 := by
  intro d hd
  obtain ⟨d, rfl⟩ : ∃ k, d = k + 1 := ⟨d - 1, by omega⟩
  have h := zsound (d := d) (l := [(190, zf_190), (192, zf_192)]) zo_193 (fun h => by cases h) zk_193 (fun q hq => by
    simp only [List.mem_cons, List.not_mem_nil, or_false] at hq
    rcases hq with rfl | rfl
    · exact zs_190 d (by omega)
    · exact zs_192 d (by omega))
  rw [ze_193] at h
  exact h
