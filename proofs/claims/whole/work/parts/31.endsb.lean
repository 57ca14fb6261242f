/-- Rep reads none of these -/
theorem Rep_fr {st : zSt} {I J : Nat → Nat → Int32} (h : Rep st I) (n58 : ∀ j, (j = 0 ∨ j = 1 ∨ j = 2 ∨ j = 3 ∨ j = 9 ∨ j = 37 ∨ j = 42 ∨ j = 43 ∨ j = 59 ∨ j = 66 ∨ j = 67 ∨ j = 68) → J 58 j = I 58 j) (n1 : J 1 = I 1) (n0 : J 0 10 = I 0 10) (n20 : J 20 = I 20) (n30 : J 30 = I 30) (n42 : J 42 = I 42) (n54 : J 54 = I 54)
    (rw' : ∀ k, (2 ≤ k ∧ k ≤ 6) ∨ (21 ≤ k ∧ k ≤ 26) ∨ k = 31 ∨ (43 ≤ k ∧ k ≤ 45) ∨ (55 ≤ k ∧ k ≤ 57) ∨ (59 ≤ k ∧ k ≤ 63) ∨ (81 ≤ k ∧ k ≤ 83) ∨ (85 ≤ k ∧ k ≤ 90) ∨ k = 93 ∨ (97 ≤ k ∧ k ≤ 99) → J k = I k) : Rep st J := by
  obtain ⟨hv, ht, hk, hw, he, hf, hg, hta, hfa, hX⟩ := h
  refine ⟨?_, ?_, ?_, ?_, ?_, ?_, ?_, ?_, ?_, ?_⟩
  · rw [n1]; exact hv
  · rw [n1, n58 0 (by omega), n58 1 (by omega), n58 2 (by omega), rw' 2 (by omega), rw' 4 (by omega), rw' 5 (by omega), rw' 6 (by omega), rw' 59 (by omega), rw' 60 (by omega), rw' 61 (by omega), rw' 62 (by omega)]; exact ht
  · rw [n1, n58 66 (by omega), n58 67 (by omega), n58 68 (by omega)]; exact hk
  · rw [rw' 3 (by omega), rw' 93 (by omega)]; exact hw
  · rw [n42, n58 37 (by omega), rw' 43 (by omega), rw' 44 (by omega), rw' 45 (by omega), rw' 81 (by omega), rw' 82 (by omega), rw' 83 (by omega)]; exact he
  · rw [n20, n58 42 (by omega), rw' 21 (by omega), rw' 22 (by omega), rw' 23 (by omega), rw' 85 (by omega), rw' 86 (by omega), rw' 87 (by omega)]; exact hf
  · rw [n20, n58 43 (by omega), rw' 24 (by omega), rw' 25 (by omega), rw' 26 (by omega), rw' 88 (by omega), rw' 89 (by omega), rw' 90 (by omega)]; exact hg
  · rw [n30, n58 9 (by omega), rw' 31 (by omega), rw' 63 (by omega)]; exact hta
  · rw [n54, n58 59 (by omega), rw' 55 (by omega), rw' 56 (by omega), rw' 57 (by omega), rw' 97 (by omega), rw' 98 (by omega), rw' 99 (by omega)]; exact hfa
  · rw [n0, n58 3 (by omega)]; exact hX
theorem zp_ends {s : zQs} {I : Nat → Nat → Int32} {st : zSt} (h : Rep st I) (x1 x2 : Int32) : zPair s I st (zf_163 [.ref 0, .int x1, .int x2]) (zf_266 [.ref 58, .int x1, .int x2]) := by
  obtain ⟨⟨hv, ev⟩, ht, hk, hw, he, hf, hg, hta, hfa, hX⟩ := id h
  obtain ⟨t1, t2, t3, p, q, a, b, w, v, tp, ts⟩ := id ht
  obtain ⟨hF, eF1, eF2, hff, eU, h5, h7⟩ := id hfa
  by_cases h1 : zlt x1 st.P
  case neg =>
    refine zPair_same h (v := -1000) ?_ ?_
    · simp only [zqz_163, zq_163_0, isP1_f p t1 h1, zcI_some, zq_163_4, if_true]
    · simp only [zqz_266, zq_266_0, isP2_f q t1 h1, zcI_some, zq_266_3, if_true]
  by_cases h2 : zlt x2 st.P
  case neg =>
    refine zPair_same h (v := -1000) ?_ ?_
    · simp only [zqz_163, zq_163_0, isP1_t p t1 h1, isP1_f p t1 h2, zcI_some, zq_163_4, zq_163_9, z10, if_false, not_true_eq_false]
    · simp only [zqz_266, zq_266_0, isP2_t q t1 h1, isP2_f q t1 h2, zcI_some, zq_266_3, zq_266_7, z10, if_false, not_true_eq_false]
  obtain ⟨i, hi, rfl⟩ := id h1
  obtain ⟨j, hj, rfl⟩ := id h2
  have hb : ∀ k, k < st.F → st.fa k < 20 ∧ st.fb k < 20 := fun k hk => ⟨Nat.lt_of_lt_of_le (hff k hk).1 t1, Nat.lt_of_lt_of_le (hff k hk).2.1 t1⟩
  obtain ⟨J, e, j1, j2, j3⟩ := zlays0 (s := s) (I := I) (fs := st.fs) hF hb eF2 (fun k hk => (hff k hk).2.2)
  have hR : Rep st J := Rep_fr h (fun k _ => by rw [j1 58 (by decide) (by decide) (by decide)]) (j1 1 (by decide) (by decide) (by decide)) (by rw [j1 0 (by decide) (by decide) (by decide)]) (j1 20 (by decide) (by decide) (by decide)) (j1 30 (by decide) (by decide) (by decide)) (j1 42 (by decide) (by decide) (by decide)) (j1 54 (by decide) (by decide) (by decide)) (fun k hk => j1 k (by omega) (by omega) (by omega))
  have hK : zkeep I J := ⟨fun k hk => by
    have hk : (8 ≤ k ∧ k ≤ 14) ∨ (17 ≤ k ∧ k ≤ 18) ∨ (34 ≤ k ∧ k ≤ 40) ∨ (70 ≤ k ∧ k ≤ 74) ∨ 103 ≤ k := hk
    exact j1 k (by omega) (by omega) (by omega), by rw [j1 58 (by decide) (by decide) (by decide)]⟩
  have hi' : i < 20 := by omega
  have hj' : j < 20 := by omega
  have hlt := zfar_lt (fs := st.fs) hb st.F (Nat.le_refl _)
  have f0 : zf_163 [.ref 0, .int (nI i), .int (nI j)] (zMk (s, I)) = zcI (zf_13 [.ref 54, .int (nI i), .int (nI j)] (zMk (s, I))) fun v M => zQ_163 (17, [.ref 0, .int (nI i), .int (nI j)], [.int v], M) := by
    simp only [zqz_163, zq_163_0, isP1_t p t1 h1, isP1_t p t1 h2, zcI_some, zq_163_4, zq_163_9, z10, if_false, not_false_eq_true, if_true]
  have g0 : zf_266 [.ref 58, .int (nI i), .int (nI j)] (zMk (s, I)) = zQ_266 (12, [.ref 58, .int (nI i), .int (nI j)], [], zMk (s, J)) := by
    simp only [zqz_266, zq_266_0, isP2_t q t1 h1, isP2_t q t1 h2, zcI_some, zq_266_3, zq_266_7, z10, if_false, not_false_eq_true, if_true, e, zcV_some]
  by_cases hc : (zfar st.fa st.fb st.fs st.F).1 i = (zfar st.fa st.fb st.fs st.F).1 j
  · have c1 : ¬ ¬ I 55 i = I 55 j := not_not_intro (by rw [(h5 i hi').1, (h5 j hj').1, hc])
    have c2 : ¬ ¬ J 101 i = J 101 j := not_not_intro (by rw [(j2 i hi').1, (j2 j hj').1, hc])
    refine zPair_mk (v := (zfar st.fa st.fb st.fs st.F).2.1 j - (zfar st.fa st.fb st.fs st.F).2.1 i) (I1 := I) st (zvers_rfl st) ?_ ?_ hR hK
    · rw [f0]
      simp only [zl_13, zb_t hi' (by omega), zb_t hj' (by omega), if_true, nI_clamp (show i < 2 ^ 31 by omega), nI_clamp (show j < 2 ^ 31 by omega), if_neg c1, zcI_some, zq_163_17, (h5 i hi').2, (h5 j hj').2]
    · rw [g0]
      simp only [zq_266_12, zb_t hi' (by omega), zb_t hj' (by omega), if_true, nI_clamp (show i < 2 ^ 31 by omega), nI_clamp (show j < 2 ^ 31 by omega), if_neg c2, (j2 i hi').2, (j2 j hj').2]
  · have hx := hlt i hi'
    have hy := hlt j hj'
    have c1 : ¬ I 55 i = I 55 j := by rw [(h5 i hi').1, (h5 j hj').1]; exact nI_ne hc (by omega) (by omega)
    have c2 : ¬ J 101 i = J 101 j := by rw [(j2 i hi').1, (j2 j hj').1]; exact nI_ne hc (by omega) (by omega)
    refine zPair_mk (v := -1000) (I1 := I) st (zvers_rfl st) ?_ ?_ hR hK
    · rw [f0]
      simp only [zl_13, zb_t hi' (by omega), zb_t hj' (by omega), if_true, nI_clamp (show i < 2 ^ 31 by omega), nI_clamp (show j < 2 ^ 31 by omega), if_pos c1, zcI_some, zq_163_17]
    · rw [g0]
      simp only [zq_266_12, zb_t hi' (by omega), zb_t hj' (by omega), if_true, nI_clamp (show i < 2 ^ 31 by omega), nI_clamp (show j < 2 ^ 31 by omega), if_pos c2]
