theorem zM_ext {M : zM} {n sl : Nat} {t l : Nat → Nat} {R : Nat → Nat → Option Nat} {I : Nat → Nat → Int32} (h1 : M.1.1 = n) (h2 : M.1.2.1 = sl) (h3 : M.1.2.2.1 = t) (h4 : M.1.2.2.2.1 = l) (h5 : M.1.2.2.2.2 = R) (h6 : M.2 = I) : M = ((n, sl, t, l, R), I) := by
  subst h1 h2 h3 h4 h5 h6
  rfl
theorem zMk_ext {M : zM} {s : zQs} {I : Nat → Nat → Int32} (h1 : zn M = 103 + s.1) (h2 : zsl M = 92791 + 400 * s.1) (h3 : zt M = zsT s.1) (h4 : zl M = zsL s.1) (h5 : zR M = zsR s) (h6 : M.2 = I) : M = zMk (s, I) := zM_ext h1 h2 h3 h4 h5 h6
theorem zboot4_of (M : zM) (hf : zfr M) (hn : zn M = 103 ∧ zsl M = 92791) (ht : ∀ k, k < 103 → zt M k = zsT 0 k ∧ zl M k = zsL 0 k) (hr : ∀ k, k < 103 → ∀ j, j < znf (zsT 0 k) → zR M k j = zsR zs0 k j) : M = zMk (zs0, M.2) := by
  have et : zt M = zsT 0 := by
    funext k
    by_cases h : k < 103
    · exact (ht k h).1
    · have h1 := (hf.1 k (by rw [hn.1]; omega)).1
      refine Eq.trans (show zt M k = 999 from h1) ?_
      unfold zsT; rw [if_neg h, if_neg (by omega)]
  have el : zl M = zsL 0 := by
    funext k
    by_cases h : k < 103
    · exact (ht k h).2
    · have h1 := (hf.1 k (by rw [hn.1]; omega)).2
      refine Eq.trans (show zl M k = 0 from h1) ?_
      unfold zsL; rw [if_neg h, if_neg (by omega)]
  have er : zR M = zsR zs0 := by
    funext k j
    have g : znf (zsT 0 k) ≤ j → zsR zs0 k j = none := by
      intro hj
      have gl : (zRl.getD k []).getD j none = none := by
        by_cases h : k < 103
        · have := zboot_c k h
          rw [List.getD_eq_getElem?_getD, List.getElem?_eq_none (by omega)]; rfl
        · have g : zRl.getD k [] = [] := by
            rw [List.getD_eq_getElem?_getD, List.getElem?_eq_none (by rw [show zRl.length = 103 from rfl]; omega)]; rfl
          rw [g]; rfl
      unfold zsR
      by_cases k17 : k = 17
      · rw [if_pos k17]; rfl
      · rw [if_neg k17]
        by_cases k1 : k = 1
        · subst k1
          have := zboot_1
          rw [if_pos rfl, if_neg (by omega)]; exact gl
        · rw [if_neg k1]
          by_cases k32 : k = 32
          · subst k32
            have := zboot_1
            rw [if_pos rfl, if_neg (by omega)]; exact gl
          · rw [if_neg k32]; exact gl
    by_cases hj : znf (zsT 0 k) ≤ j
    · rw [g hj]
      have e1 : zt M k = zsT 0 k := congrFun et k
      exact hf.2 k j (by rw [e1]; exact hj)
    · by_cases h : k < 103
      · exact hr k h j (by omega)
      · have e : znf (zsT 0 k) = 0 := by unfold zsT; rw [if_neg h, if_neg (by omega)]; rfl
        omega
  exact zMk_ext hn.1 hn.2 et el er rfl
theorem zboot4 : zM4 = zMk (zs0, zI0) := zboot4_of zM4 zfr_4 zboot_n zboot_t zboot_r
theorem zboot_of (X : zX) (M1 M2 M3 M4 : zM) (h1 : znew zM0 11 11 = M1) (h2 : zf_139 [.ref 0] M1 = some (.long 0, M2)) (hn : zn M2 = 58) (h3 : znew M2 12 69 = M3) (h4 : zf_178 [.ref 58] M3 = some (.long 0, M4)) :
    zres X zi_L zE_L (zstart 4 [.ref 1000000] zM0) = zQ_L X (10, [.ref 1000000, .ref 0, .ref 58, .int 0], [], M4) := by
  show zres X zi_L zE_L (0, [.ref 1000000, .long 0, .long 0, .long 0], [], zM0) = _
  rw [zx_at (i := .new 11) rfl]
  show (if zn zM0 < 1000000 then zres X zi_L zE_L (1, [.ref 1000000, .long 0, .long 0, .long 0], [.ref 0], znew zM0 11 11) else none) = _
  rw [if_pos (by decide), h1]
  rw [zx_dup rfl rfl]
  rw [zx_at (i := .invokespecial 1390000) rfl]
  show zcall zE_L 0 139 [.ref 0] [.ref 0] M1 (fun r M' => zres X zi_L zE_L (3, [.ref 1000000, .long 0, .long 0, .long 0], r, M')) = _
  unfold zcall
  rw [if_pos (by decide)]
  show zcV (zf_139 [.ref 0] M1) _ = _
  rw [h2]
  show zres X zi_L zE_L (3, [.ref 1000000, .long 0, .long 0, .long 0], [.ref 0], M2) = _
  rw [zx_astore (L' := [.ref 1000000, .ref 0, .long 0, .long 0]) rfl rfl rfl]
  rw [zx_at (i := .new 12) rfl]
  show (if zn M2 < 1000000 then zres X zi_L zE_L (5, [.ref 1000000, .ref 0, .long 0, .long 0], [.ref (zn M2)], znew M2 12 69) else none) = _
  rw [hn, if_pos (by decide), h3]
  rw [zx_dup rfl rfl]
  rw [zx_at (i := .invokespecial 1780000) rfl]
  show zcall zE_L 0 178 [.ref 58] [.ref 58] M3 (fun r M' => zres X zi_L zE_L (7, [.ref 1000000, .ref 0, .long 0, .long 0], r, M')) = _
  unfold zcall
  rw [if_pos (by decide)]
  show zcV (zf_178 [.ref 58] M3) _ = _
  rw [h4]
  show zres X zi_L zE_L (7, [.ref 1000000, .ref 0, .long 0, .long 0], [.ref 58], M4) = _
  rw [zx_astore (L' := [.ref 1000000, .ref 0, .ref 58, .long 0]) rfl rfl rfl]
  rw [zx_iconst (x := 0) rfl rfl]
  rw [zx_istore (L' := [.ref 1000000, .ref 0, .ref 58, .int 0]) rfl rfl rfl]
  rfl
theorem zboot (X : zX) : zres X zi_L zE_L (zstart 4 [.ref 1000000] zM0) = zQ_L X (10, [.ref 1000000, .ref 0, .ref 58, .int 0], [], zMk (zs0, zI0)) := by
  have h := zboot_of X zM1 zM2 zM3 zM4 rfl (zbl_139 _ _ _ zboot1) zboot2 rfl (zbl_178 _ _ _ zboot3)
  rw [zboot4] at h
  exact h
