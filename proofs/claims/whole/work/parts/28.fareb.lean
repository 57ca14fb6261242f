theorem zp_fare {s : zQs} {I : Nat → Nat → Int32} {st : zSt} (h : Rep st I) (x1 x2 x3 : Int32) : zPair s I st (zf_162 [.ref 0, .int x1, .int x2, .int x3]) (zf_263 [.ref 58, .int x1, .int x2, .int x3]) := by
  obtain ⟨⟨hv, ev⟩, ht, hk, hw, he, hf, hg, hta, hfa, hX⟩ := id h
  obtain ⟨t1, t2, t3, p, q, a, b, w, v, tp, ts⟩ := id ht
  obtain ⟨hF, eF1, eF2, hff, eU, h5, h7⟩ := id hfa
  by_cases h1 : zlt x1 st.P
  case neg =>
    refine zPair_same h (v := -1) ?_ ?_
    · simp only [zqz_162, zq_162_0, isP1_f p t1 h1, zcI_some, zq_162_4, if_true]
    · simp only [zqz_263, zq_263_0, isP2_f q t1 h1, zcI_some, zq_263_3, if_true]
  by_cases h2 : zlt x2 st.P
  case neg =>
    refine zPair_same h (v := -1) ?_ ?_
    · simp only [zqz_162, zq_162_0, isP1_t p t1 h1, isP1_f p t1 h2, zcI_some, zq_162_4, zq_162_9, z10, if_false, if_true]
    · simp only [zqz_263, zq_263_0, isP2_t q t1 h1, isP2_f q t1 h2, zcI_some, zq_263_3, zq_263_7, z10, if_false, if_true]
  by_cases h12 : x1 = x2
  case pos =>
    refine zPair_same h (v := -1) ?_ ?_
    · simp only [zqz_162, zq_162_0, isP1_t p t1 h1, isP1_t p t1 h2, zcI_some, zq_162_4, zq_162_9, z10, if_false, if_pos h12]
    · simp only [zqz_263, zq_263_0, isP2_t q t1 h1, isP2_t q t1 h2, zcI_some, zq_263_3, zq_263_7, z10, if_false, if_pos h12]
  by_cases h3 : x3 < -200
  case pos =>
    refine zPair_same h (v := -1) ?_ ?_
    · simp only [zqz_162, zq_162_0, isP1_t p t1 h1, isP1_t p t1 h2, zcI_some, zq_162_4, zq_162_9, z10, if_false, if_neg h12, if_pos h3]
    · simp only [zqz_263, zq_263_0, isP2_t q t1 h1, isP2_t q t1 h2, zcI_some, zq_263_3, zq_263_7, z10, if_false, if_neg h12, zl_179, if_pos h3, zq_263_15, if_true]
  by_cases h4 : 200 < x3
  case pos =>
    refine zPair_same h (v := -1) ?_ ?_
    · simp only [zqz_162, zq_162_0, isP1_t p t1 h1, isP1_t p t1 h2, zcI_some, zq_162_4, zq_162_9, z10, if_false, if_neg h12, if_neg h3, if_neg (show ¬ x3 ≤ 200 from Int32.not_le.mpr h4)]
    · simp only [zqz_263, zq_263_0, isP2_t q t1 h1, isP2_t q t1 h2, zcI_some, zq_263_3, zq_263_7, z10, if_false, if_neg h12, zl_179, if_neg h3, if_pos h4, zq_263_15, if_true]
  obtain ⟨i, hi, rfl⟩ := id h1
  obtain ⟨j, hj, rfl⟩ := id h2
  have h4' : x3 ≤ 200 := Int32.not_lt.mp h4
  by_cases hS : st.F < 30
  case neg =>
    have hS : st.F = 30 := by omega
    rw [hS] at eF1 eF2
    refine zPair_same h (v := -1) ?_ ?_
    · simp only [zqz_162, zq_162_0, isP1_t p t1 h1, isP1_t p t1 h2, zcI_some, zq_162_4, zq_162_9, z10, if_false, if_neg h12, if_neg h3, if_pos h4', zqz_11, zq_11_0, eF1, if_neg (show ¬ nI 30 < 30 by decide), zq_162_27]
    · simp only [zqz_263, zq_263_0, isP2_t q t1 h1, isP2_t q t1 h2, zcI_some, zq_263_3, zq_263_7, z10, if_false, if_neg h12, zl_179, if_neg h3, if_neg h4, zq_263_15, eF2, if_neg (show ¬ ¬ nI 30 = 30 by decide)]
  obtain ⟨J, e, j1, j3, j4, j5, j7⟩ := zfare1 (s := s) (x := x3) hfa hS t1 hi hj
  have jk : ∀ a, a ≠ 54 → a ≠ 55 → a ≠ 56 → a ≠ 57 → J a = I a := j1
  have q' : J 58 0 = nI st.P := by rw [jk 58 (by decide) (by decide) (by decide) (by decide)]; exact q
  have f' : J 58 59 = nI st.F := by rw [jk 58 (by decide) (by decide) (by decide) (by decide)]; exact eF2
  apply zPair_mk (v := nI (st.F + 1)) ((((st.F' (st.F + 1)).fa' (zup st.fa st.F i)).fb' (zup st.fb st.F j)).fs' (upd st.fs st.F x3)) (Or.inr ⟨rfl, rfl, rfl, rfl, rfl, rfl, rfl, rfl⟩) (I1 := J)
  · simp only [zqz_162, zq_162_0, isP1_t p t1 h1, isP1_t p t1 h2, zcI_some, zq_162_4, zq_162_9, z10, if_false, if_neg h12, if_neg h3, if_pos h4', e, zq_162_27]
  · simp only [zqz_263, zq_263_0, isP2_t q' t1 h1, isP2_t q' t1 h2, zcI_some, zq_263_3, zq_263_7, z10, if_false, if_neg h12, zl_179, if_neg h3, if_neg h4, zq_263_15, f', if_pos (show ¬ nI st.F = 30 from nI_ne (show st.F ≠ 30 by omega) (by omega) (by decide)), zb_t hS (by omega), if_true, nI_clamp (show st.F < 2 ^ 31 by omega), nI_1]
    rfl
  · refine ⟨?_, ?_, ?_, ?_, ?_, ?_, ?_, ?_, ?_, ?_⟩
    · simp [zwA_at, upd_at, jk]; exact ⟨hv, ev⟩
    · simp [zwA_at, upd_at, jk]; exact ht
    · simp [zwA_at, upd_at, jk]; exact hk
    · simp [zwA_at, upd_at, jk]; exact hw
    · simp [zwA_at, upd_at, jk]; exact he
    · simp [zwA_at, upd_at, jk]; exact hf
    · simp [zwA_at, upd_at, jk]; exact hg
    · simp [zwA_at, upd_at, jk]; exact hta
    · simp only [zwA_at, upd_at, Nat.reduceEqDiff, if_true, if_false]
      refine cFare_step hfa hS hi hj ?_ ?_ ?_ ?_ ?_ ?_ ?_ ?_
      · exact j3
      · rfl
      · rw [jk 97 (by decide) (by decide) (by decide) (by decide)]
      · rw [jk 98 (by decide) (by decide) (by decide) (by decide)]
      · rw [jk 99 (by decide) (by decide) (by decide) (by decide)]
      · exact j4
      · exact j5
      · exact j7
    · simp [zwA_at, upd_at, jk]; exact hX
  · refine ⟨fun k hk => ?_, ?_⟩
    · have hk : (8 ≤ k ∧ k ≤ 14) ∨ (17 ≤ k ∧ k ≤ 18) ∨ (34 ≤ k ∧ k ≤ 40) ∨ (70 ≤ k ∧ k ≤ 74) ∨ 103 ≤ k := hk
      simp only [zwA_at]
      repeat rw [if_neg (by omega)]
      exact jk k (by omega) (by omega) (by omega) (by omega)
    · simp [zwA_at, upd_at, jk]
