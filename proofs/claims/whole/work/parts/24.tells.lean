theorem nI_or : ∀ a, a < 256 → ∀ j, j < 8 → nI a ||| ((1 : Int32) <<< (nI j &&& 31)) = nI (a ||| 2 ^ j) := by decide +kernel
theorem or_lt {a j : Nat} (ha : a < 256) (hj : j < 8) : a ||| 2 ^ j < 256 := Nat.or_lt_two_pow (n := 8) ha (Nat.pow_lt_pow_right (by decide) hj)
theorem or_bit (a j i : Nat) : (a ||| 2 ^ j).testBit i = (a.testBit i || decide (j = i)) := by
  rw [Nat.testBit_or, Nat.testBit_two_pow]
theorem zp_season {s : zQs} {I : Nat → Nat → Int32} {st : zSt} (h : Rep st I) (hV : st.V < 1000000) (x1 : Int32) : zPair s I st (zf_142 [.ref 0, .int x1]) (zf_187 [.ref 58, .int x1]) := by
  obtain ⟨⟨hv, ev⟩, ht, hk, hw, he, hf, hg, hta, hfa, hX⟩ := id h
  obtain ⟨t1, t2, t3, p, q, a, b, w, v, tp, ts⟩ := id ht
  by_cases h1 : zin x1 3
  case neg =>
    refine zPair_same h (v := 0) ?_ ?_
    · simp only [zqz_142, zq_142_0, wi_f (m := 3) 3 rfl (by decide) h1, zcI_some, zq_142_3, not_true_eq_false, if_false]
    · simp only [zqz_187, zq_187_0, in_f (m := 3) 3 rfl (by decide) h1, zcI_some, zq_187_4, not_true_eq_false, if_false]
  obtain ⟨j, hj, rfl⟩ := id h1
  apply zPair_mk (v := 1) ((st.V' (st.V + 1)).W' j) (Or.inl rfl)
  · simp only [zqz_142, zq_142_0, wi_t (m := 3) 3 rfl (by decide) h1, zcI_some, zq_142_3, z10, not_false_eq_true, if_true, zl_105, zcV_some, zq_142_10]
    rfl
  · simp only [zqz_187, zq_187_0, in_t (m := 3) 3 rfl (by decide) h1, zcI_some, zq_187_4, z10, not_false_eq_true, if_true]
    rfl
  · refine ⟨?_, ?_, ?_, ?_, ?_, ?_, ?_, ?_, ?_, ?_⟩
    · exact ⟨hV, by simp [zwA_at, upd_at, ev, nI_1]; rfl⟩
    · simp only [zwA_at, upd_at, Nat.reduceEqDiff, if_true, if_false]
      exact ⟨t1, t2, hj, p, q, a, b, rfl, rfl, tp, ts⟩
    · simp [zwA_at, upd_at]; exact hk
    · simp [zwA_at, upd_at]; exact hw
    · simp [zwA_at, upd_at]; exact he
    · simp [zwA_at, upd_at]; exact hf
    · simp [zwA_at, upd_at]; exact hg
    · simp [zwA_at, upd_at]; exact hta
    · simp [zwA_at, upd_at]; exact hfa
    · simp [zwA_at, upd_at]; exact hX
  · refine ⟨fun k hk => ?_, ?_⟩
    · have hk : (8 ≤ k ∧ k ≤ 14) ∨ (17 ≤ k ∧ k ≤ 18) ∨ (34 ≤ k ∧ k ≤ 40) ∨ (70 ≤ k ∧ k ≤ 74) ∨ 103 ≤ k := hk
      simp only [zwA_at]
      repeat rw [if_neg (by omega)]
    · simp [zwA_at, upd_at]

theorem zp_seed {s : zQs} {I : Nat → Nat → Int32} {st : zSt} (h : Rep st I) (x1 : Int32) : zPair s I st (zf_165 [.ref 0, .int x1]) (zf_268 [.ref 58, .int x1]) := by
  obtain ⟨⟨hv, ev⟩, ht, hk, hw, he, hf, hg, hta, hfa, hX⟩ := id h
  obtain ⟨t1, t2, t3, p, q, a, b, w, v, tp, ts⟩ := id ht
  by_cases h1 : zin x1 65535
  case neg =>
    refine zPair_same h (v := 0) ?_ ?_
    · simp only [zqz_165, zq_165_0, wi_f (m := 65535) 65535 rfl (by decide) h1, zcI_some, zq_165_3, not_true_eq_false, if_false]
    · simp only [zqz_268, zq_268_0, in_f (m := 65535) 65535 rfl (by decide) h1, zcI_some, zq_268_4, not_true_eq_false, if_false]
  obtain ⟨j, hj, rfl⟩ := id h1
  apply zPair_mk (v := 1) (st.X' j) (Or.inr ⟨rfl, rfl, rfl, rfl, rfl, rfl, rfl, rfl⟩)
  · simp only [zqz_165, zq_165_0, wi_t (m := 65535) 65535 rfl (by decide) h1, zcI_some, zq_165_3, z10, not_false_eq_true, if_true]
    rfl
  · simp only [zqz_268, zq_268_0, in_t (m := 65535) 65535 rfl (by decide) h1, zcI_some, zq_268_4, z10, not_false_eq_true, if_true]
    rfl
  · refine ⟨?_, ?_, ?_, ?_, ?_, ?_, ?_, ?_, ?_, ?_⟩
    · simp [zwA_at, upd_at]; exact ⟨hv, ev⟩
    · simp [zwA_at, upd_at]; exact ht
    · simp [zwA_at, upd_at]; exact hk
    · simp [zwA_at, upd_at]; exact hw
    · simp [zwA_at, upd_at]; exact he
    · simp [zwA_at, upd_at]; exact hf
    · simp [zwA_at, upd_at]; exact hg
    · simp [zwA_at, upd_at]; exact hta
    · simp [zwA_at, upd_at]; exact hfa
    · simp [zwA_at, upd_at]; exact ⟨hj, rfl⟩
  · refine ⟨fun k hk => ?_, ?_⟩
    · have hk : (8 ≤ k ∧ k ≤ 14) ∨ (17 ≤ k ∧ k ≤ 18) ∨ (34 ≤ k ∧ k ≤ 40) ∨ (70 ≤ k ∧ k ≤ 74) ∨ 103 ≤ k := hk
      simp only [zwA_at]
      repeat rw [if_neg (by omega)]
    · simp [zwA_at, upd_at]

theorem zp_wants {s : zQs} {I : Nat → Nat → Int32} {st : zSt} (h : Rep st I) (x1 x2 : Int32) : zPair s I st (zf_155 [.ref 0, .int x1, .int x2]) (zf_246 [.ref 58, .int x1, .int x2]) := by
  obtain ⟨⟨hv, ev⟩, ht, hk, hw, he, hf, hg, hta, hfa, hX⟩ := id h
  obtain ⟨t1, t2, t3, p, q, a, b, w, v, tp, ts⟩ := id ht
  by_cases h1 : zlt x1 st.P
  case neg =>
    refine zPair_same h (v := 0) ?_ ?_
    · simp only [zqz_155, zq_155_0, isP1_f p t1 h1, zcI_some, zq_155_4, if_true]
    · simp only [zqz_246, zq_246_0, isP2_f q t1 h1, zcI_some, zq_246_3, if_true]
  by_cases h2 : zin x2 99
  case neg =>
    refine zPair_same h (v := 0) ?_ ?_
    · simp only [zqz_155, zq_155_0, isP1_t p t1 h1, zcI_some, zq_155_4, z10, if_false, wi_f (m := 99) 99 rfl (by decide) h2, zq_155_8, not_true_eq_false]
    · simp only [zqz_246, zq_246_0, isP2_t q t1 h1, zcI_some, zq_246_3, z10, if_false, in_f (m := 99) 99 rfl (by decide) h2, zq_246_8, not_true_eq_false]
  obtain ⟨i, hi, rfl⟩ := id h1
  obtain ⟨j, hj, rfl⟩ := id h2
  apply zPair_mk (v := 1) (st.wn' (zup st.wn i j)) (Or.inr ⟨rfl, rfl, rfl, rfl, rfl, rfl, rfl, rfl⟩)
  · simp only [zqz_155, zq_155_0, isP1_t p t1 h1, zcI_some, zq_155_4, z10, if_false, wi_t (m := 99) 99 rfl (by decide) h2, zq_155_8, not_false_eq_true, if_true, zl_113, zb_t (show i < 20 by omega) (by omega), nI_clamp (show i < 2 ^ 31 by omega), zcV_some, zq_155_16]
    rfl
  · simp only [zqz_246, zq_246_0, isP2_t (I := zwA I 3 (upd (I 3) i (nI j))) (by simpa [zwA_at] using q) t1 h1, zcI_some, zq_246_3, z10, if_false, in_t (m := 99) 99 rfl (by decide) h2, zq_246_8, not_false_eq_true, if_true, zb_t (show i < 20 by omega) (by omega), nI_clamp (show i < 2 ^ 31 by omega)]
    rfl
  · refine ⟨?_, ?_, ?_, ?_, ?_, ?_, ?_, ?_, ?_, ?_⟩
    · simp [zwA_at, upd_at]; exact ⟨hv, ev⟩
    · simp [zwA_at, upd_at]; exact ht
    · simp [zwA_at, upd_at]; exact hk
    · simp only [zwA_at, Nat.reduceEqDiff, if_true, if_false]
      intro k hk
      show zup st.wn i j k ≤ 99 ∧ upd (I 3) i (nI j) k = nI (zup st.wn i j k) ∧ upd (I 93) i (nI j) k = nI (zup st.wn i j k)
      by_cases hk' : k = i
      · simp [zup, upd_at, hk', hj]
      · simp only [zup, upd_at, if_neg hk']; exact hw k hk
    · simp [zwA_at, upd_at]; exact he
    · simp [zwA_at, upd_at]; exact hf
    · simp [zwA_at, upd_at]; exact hg
    · simp [zwA_at, upd_at]; exact hta
    · simp [zwA_at, upd_at]; exact hfa
    · simp [zwA_at, upd_at]; exact hX
  · refine ⟨fun k hk => ?_, ?_⟩
    · have hk : (8 ≤ k ∧ k ≤ 14) ∨ (17 ≤ k ∧ k ≤ 18) ∨ (34 ≤ k ∧ k ≤ 40) ∨ (70 ≤ k ∧ k ≤ 74) ∨ 103 ≤ k := hk
      simp only [zwA_at]
      repeat rw [if_neg (by omega)]
    · simp [zwA_at, upd_at]

theorem zp_person {s : zQs} {I : Nat → Nat → Int32} {st : zSt} (h : Rep st I) (x1 x2 x3 : Int32) : zPair s I st (zf_151 [.ref 0, .int x1, .int x2, .int x3]) (zf_238 [.ref 58, .int x1, .int x2, .int x3]) := by
  obtain ⟨⟨hv, ev⟩, ht, hk, hw, he, hf, hg, hta, hfa, hX⟩ := id h
  obtain ⟨t1, t2, t3, p, q, a, b, w, v, tp, ts⟩ := id ht
  obtain ⟨hQ, eQ1, eQ2, hfp⟩ := id hf
  by_cases h1 : zlt x1 st.P
  case neg =>
    refine zPair_same h (v := -1) ?_ ?_
    · simp only [zqz_151, zq_151_0, isP1_f p t1 h1, zcI_some, zq_151_4, if_true]
    · simp only [zqz_238, zq_238_0, isP2_f q t1 h1, zcI_some, zq_238_3, if_true]
  by_cases h2 : zlt x2 st.P
  case neg =>
    refine zPair_same h (v := -1) ?_ ?_
    · simp only [zqz_151, zq_151_0, isP1_t p t1 h1, isP1_f p t1 h2, zcI_some, zq_151_4, zq_151_9, z10, if_false, if_true]
    · simp only [zqz_238, zq_238_0, isP2_t q t1 h1, isP2_f q t1 h2, zcI_some, zq_238_3, zq_238_7, z10, if_false, if_true]
  by_cases h3 : zin x3 99
  case neg =>
    refine zPair_same h (v := -1) ?_ ?_
    · simp only [zqz_151, zq_151_0, isP1_t p t1 h1, isP1_t p t1 h2, zcI_some, zq_151_4, zq_151_9, z10, if_false, wi_f (m := 99) 99 rfl (by decide) h3, zq_151_13, not_true_eq_false]
    · simp only [zqz_238, zq_238_0, isP2_t q t1 h1, isP2_t q t1 h2, zcI_some, zq_238_3, zq_238_7, z10, if_false, in_f (m := 99) 99 rfl (by decide) h3, zq_238_12, if_true]
  obtain ⟨i, hi, rfl⟩ := id h1
  obtain ⟨j, hj, rfl⟩ := id h2
  obtain ⟨t, htt, rfl⟩ := id h3
  by_cases hS : st.Q < 8
  case neg =>
    have hS : st.Q = 8 := by omega
    rw [hS] at eQ1 eQ2
    refine zPair_same h (v := -1) ?_ ?_
    · simp only [zqz_151, zq_151_0, isP1_t p t1 h1, isP1_t p t1 h2, zcI_some, zq_151_4, zq_151_9, z10, if_false, wi_t (m := 99) 99 rfl (by decide) h3, zq_151_13, not_false_eq_true, if_true, zl_16, eQ1, if_neg (show ¬ nI 8 < 8 by decide), zq_151_22]
    · simp only [zqz_238, zq_238_0, isP2_t q t1 h1, isP2_t q t1 h2, zcI_some, zq_238_3, zq_238_7, z10, if_false, in_t (m := 99) 99 rfl (by decide) h3, zq_238_12, eQ2, if_neg (show ¬ ¬ nI 8 = 8 by decide)]
  apply zPair_mk (v := nI st.Q) ((((st.Q' (st.Q + 1)).pf' (zup st.pf st.Q i)).pt' (zup st.pt st.Q j)).pc' (zup st.pc st.Q t)) (Or.inr ⟨rfl, rfl, rfl, rfl, rfl, rfl, rfl, rfl⟩)
  · simp only [zqz_151, zq_151_0, isP1_t p t1 h1, isP1_t p t1 h2, zcI_some, zq_151_4, zq_151_9, z10, if_false, wi_t (m := 99) 99 rfl (by decide) h3, zq_151_13, not_false_eq_true, if_true, zl_16, eQ1, if_pos (show nI st.Q < 8 from nI_lt hS (by decide)), zb_t hS (by omega), nI_clamp (show st.Q < 2 ^ 31 by omega), nI_1, nI_pred, zq_151_22]
    rfl
  · rw [zqz_238, zq_238_0, isP2_t (by simp [zwA_at, q]) t1 h1, zcI_some, zq_238_3, if_neg (by decide), isP2_t (by simp [zwA_at, q]) t1 h2, zcI_some, zq_238_7, if_neg (by decide), in_t (m := 99) 99 rfl (by decide) h3, zcI_some, zq_238_12, if_neg (by decide)]
    simp only [zwA_at, Nat.reduceEqDiff, if_false, eQ2, if_pos (show ¬ nI st.Q = 8 from nI_ne (show st.Q ≠ 8 by omega) (by omega) (by decide)), zb_t hS (by omega), if_true, nI_clamp (show st.Q < 2 ^ 31 by omega), nI_1, nI_pred]
    rfl
  · refine ⟨?_, ?_, ?_, ?_, ?_, ?_, ?_, ?_, ?_, ?_⟩
    · simp [zwA_at, upd_at]; exact ⟨hv, ev⟩
    · simp [zwA_at, upd_at]; exact ht
    · simp [zwA_at, upd_at]; exact hk
    · simp [zwA_at, upd_at]; exact hw
    · simp [zwA_at, upd_at]; exact he
    · simp only [zwA_at, upd_at, Nat.reduceEqDiff, if_true, if_false]
      refine ⟨hS, rfl, rfl, fun k hk => ?_⟩
      show zup st.pf st.Q i k < st.P ∧ zup st.pt st.Q j k < st.P ∧ zup st.pc st.Q t k ≤ 99 ∧ upd (I 21) st.Q (nI i) k = nI (zup st.pf st.Q i k) ∧ upd (I 22) st.Q (nI j) k = nI (zup st.pt st.Q j k) ∧ upd (I 23) st.Q (nI t) k = nI (zup st.pc st.Q t k) ∧ upd (I 85) st.Q (nI i) k = nI (zup st.pf st.Q i k) ∧ upd (I 86) st.Q (nI j) k = nI (zup st.pt st.Q j k) ∧ upd (I 87) st.Q (nI t) k = nI (zup st.pc st.Q t k)
      have hk : k < st.Q + 1 := hk
      by_cases hk' : k = st.Q
      · simp only [zup, upd_at, if_pos hk']
        exact ⟨hi, hj, htt, by simp⟩
      · simp only [zup, upd_at, if_neg hk']; exact hfp k (by omega)
    · simp [zwA_at, upd_at]; exact hg
    · simp [zwA_at, upd_at]; exact hta
    · simp [zwA_at, upd_at]; exact hfa
    · simp [zwA_at, upd_at]; exact hX
  · refine ⟨fun k hk => ?_, ?_⟩
    · have hk : (8 ≤ k ∧ k ≤ 14) ∨ (17 ≤ k ∧ k ≤ 18) ∨ (34 ≤ k ∧ k ≤ 40) ∨ (70 ≤ k ∧ k ≤ 74) ∨ 103 ≤ k := hk
      simp only [zwA_at]
      repeat rw [if_neg (by omega)]
    · simp [zwA_at, upd_at]

theorem zp_keep {s : zQs} {I : Nat → Nat → Int32} {st : zSt} (h : Rep st I) : zPair s I st (zf_167 [.ref 0]) (zf_270 [.ref 58]) := by
  obtain ⟨⟨hv, ev⟩, ht, hk, hw, he, hf, hg, hta, hfa, hX⟩ := id h
  obtain ⟨t1, t2, t3, p, q, a, b, w, v, tp, ts⟩ := id ht
  apply zPair_mk (v := nI st.S) (st.K' (some (st.S, st.W))) (Or.inr ⟨rfl, rfl, rfl, rfl, rfl, rfl, rfl, rfl⟩)
  · simp only [zqz_167, zq_167_0, zl_106, zcV_some, zq_167_3, zwA_at, upd_at, Nat.reduceEqDiff, if_true, if_false, a]
    rfl
  · simp only [zl_270, zwA_at, upd_at, Nat.reduceEqDiff, if_true, if_false, b]
    rfl
  · refine ⟨?_, ?_, ?_, ?_, ?_, ?_, ?_, ?_, ?_, ?_⟩
    · simp [zwA_at, upd_at]; exact ⟨hv, ev⟩
    · simp [zwA_at, upd_at]; exact ht
    · simp [zwA_at, upd_at]
      exact ⟨Nat.le_refl _, t3, by first | rfl | exact a, w, rfl, by first | rfl | exact b, v⟩
    · simp [zwA_at, upd_at]; exact hw
    · simp [zwA_at, upd_at]; exact he
    · simp [zwA_at, upd_at]; exact hf
    · simp [zwA_at, upd_at]; exact hg
    · simp [zwA_at, upd_at]; exact hta
    · simp [zwA_at, upd_at]; exact hfa
    · simp [zwA_at, upd_at]; exact hX
  · refine ⟨fun k hk => ?_, ?_⟩
    · have hk : (8 ≤ k ∧ k ≤ 14) ∨ (17 ≤ k ∧ k ≤ 18) ∨ (34 ≤ k ∧ k ≤ 40) ∨ (70 ≤ k ∧ k ≤ 74) ∨ 103 ≤ k := hk
      simp only [zwA_at]
      repeat rw [if_neg (by omega)]
    · simp [zwA_at, upd_at]

theorem zp_undo {s : zQs} {I : Nat → Nat → Int32} {st : zSt} (h : Rep st I) (hV : st.V < 1000000) : zPair s I st (zf_168 [.ref 0]) (zf_271 [.ref 58]) := by
  obtain ⟨⟨hv, ev⟩, ht, hk, hw, he, hf, hg, hta, hfa, hX⟩ := id h
  obtain ⟨t1, t2, t3, p, q, a, b, w, v, tp, ts⟩ := id ht
  cases hK : st.K with
  | none =>
    rw [hK] at hk
    refine zPair_same h (v := 0) ?_ ?_
    · simp only [zqz_168, zq_168_0, zl_107, hk.1, not_true_eq_false, if_false, zcI_some, zq_168_3, true_or, if_true]
    · simp only [zl_271, hk.2, not_true_eq_false, if_false]
  | some kk =>
    obtain ⟨ks, kw⟩ := kk
    rw [hK] at hk
    obtain ⟨k1, k2, k3, k4, k5, k6, k7⟩ := id hk
    have z1 : ¬ nI ks = -1 := fun e => absurd (show nI ks < 0 by rw [e]; decide) (nI_pos (by omega))
    apply zPair_mk (v := 1) (((st.V' (st.V + 1)).S' ks).W' kw) (Or.inl rfl)
    · simp only [zqz_168, zq_168_0, zl_107, k3, if_pos z1, zcI_some, zq_168_3, or_true, if_true]
      rfl
    · simp only [zl_271, zwA_at, Nat.reduceEqDiff, if_false, k5, z10, not_false_eq_true, if_true]
      rfl
    · refine ⟨?_, ?_, ?_, ?_, ?_, ?_, ?_, ?_, ?_, ?_⟩
      · exact ⟨hV, by simp [zwA_at, upd_at, ev, nI_1]; rfl⟩
      · simp [zwA_at, upd_at]
        exact ⟨t1, Nat.le_trans k1 t2, k2, p, q, by first | rfl | exact k3, k6, k4, k7, tp, fun i hi => ts i (Nat.lt_of_lt_of_le hi k1)⟩
      · simp [zwA_at, upd_at]
        show cKept ks st.K _ _ _ _ _
        rw [hK]
        exact ⟨Nat.le_refl _, k2, by first | rfl | exact k3, k4, k5, k6, k7⟩
      · simp [zwA_at, upd_at]; exact hw
      · simp [zwA_at, upd_at]; exact he
      · simp [zwA_at, upd_at]; exact hf
      · simp [zwA_at, upd_at]; exact hg
      · simp [zwA_at, upd_at]; exact hta
      · simp [zwA_at, upd_at]; exact hfa
      · simp [zwA_at, upd_at]; exact hX
    · refine ⟨fun k hk => ?_, ?_⟩
      · have hk : (8 ≤ k ∧ k ≤ 14) ∨ (17 ≤ k ∧ k ≤ 18) ∨ (34 ≤ k ∧ k ≤ 40) ∨ (70 ≤ k ∧ k ≤ 74) ∨ 103 ≤ k := hk
        simp only [zwA_at]
        repeat rw [if_neg (by omega)]
      · simp [zwA_at, upd_at]

