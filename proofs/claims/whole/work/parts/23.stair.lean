theorem cKept_mono {S S' : Nat} {K : Option (Nat × Nat)} {a b c d e : Int32} (hS : S ≤ S') (h : cKept S K a b c d e) : cKept S' K a b c d e := by
  cases K with
  | none => exact h
  | some q =>
    obtain ⟨s, w⟩ := q
    exact ⟨Nat.le_trans h.1 hS, h.2⟩
theorem zp_stair {s : zQs} {I : Nat → Nat → Int32} {st : zSt} (h : Rep st I) (hV : st.V < 1000000) (x1 x2 x3 : Int32) : zPair s I st (zf_141 [.ref 0, .int x1, .int x2, .int x3]) (zf_186 [.ref 58, .int x1, .int x2, .int x3]) := by
  obtain ⟨⟨hv, ev⟩, ht, hk, hw, he, hf, hg, hta, hfa, hX⟩ := id h
  obtain ⟨t1, t2, t3, p, q, a, b, w, v, tp, ts⟩ := id ht
  by_cases h1 : zlt x1 st.P
  case neg =>
    refine zPair_same h (v := -1) ?_ ?_
    · simp only [zqz_141, zq_141_0, isP1_f p t1 h1, zcI_some, zq_141_4, if_true]
    · simp only [zqz_186, zq_186_0, isP2_f q t1 h1, zcI_some, zq_186_3, if_true]
  by_cases h2 : zlt x2 st.P
  case neg =>
    refine zPair_same h (v := -1) ?_ ?_
    · simp only [zqz_141, zq_141_0, isP1_t p t1 h1, isP1_f p t1 h2, zcI_some, zq_141_4, zq_141_9, z10, if_false, if_true]
    · simp only [zqz_186, zq_186_0, isP2_t q t1 h1, isP2_f q t1 h2, zcI_some, zq_186_3, zq_186_7, z10, if_false, if_true]
  by_cases h12 : x1 = x2
  case pos =>
    refine zPair_same h (v := -1) ?_ ?_
    · simp only [zqz_141, zq_141_0, isP1_t p t1 h1, isP1_t p t1 h2, zcI_some, zq_141_4, zq_141_9, z10, if_false, if_pos h12]
    · simp only [zqz_186, zq_186_0, isP2_t q t1 h1, isP2_t q t1 h2, zcI_some, zq_186_3, zq_186_7, z10, if_false, if_pos h12]
  by_cases h3 : zin x3 2
  case neg =>
    refine zPair_same h (v := -1) ?_ ?_
    · simp only [zqz_141, zq_141_0, isP1_t p t1 h1, isP1_t p t1 h2, zcI_some, zq_141_4, zq_141_9, z10, if_false, if_neg h12, wi_f (m := 2) 2 rfl (by decide) h3, zq_141_16, not_true_eq_false]
    · simp only [zqz_186, zq_186_0, isP2_t q t1 h1, isP2_t q t1 h2, zcI_some, zq_186_3, zq_186_7, z10, if_false, if_neg h12, in_f (m := 2) 2 rfl (by decide) h3, zq_186_15, if_true]
  obtain ⟨i, hi, rfl⟩ := id h1
  obtain ⟨j, hj, rfl⟩ := id h2
  obtain ⟨t, htt, rfl⟩ := id h3
  have hij : i ≠ j := fun e => h12 (by rw [e])
  have f0 : zf_141 [.ref 0, .int (nI i), .int (nI j), .int (nI t)] (zMk (s, I)) = zQ_141 (16, [.ref 0, .int (nI i), .int (nI j), .int (nI t)], [.int 1], zMk (s, I)) := by
    simp only [zqz_141, zq_141_0, isP1_t p t1 h1, isP1_t p t1 h2, zcI_some, zq_141_4, zq_141_9, z10, if_false, if_neg h12, wi_t (m := 2) 2 rfl (by decide) h3]
  have g0 : ∀ J, J 58 0 = nI st.P → zf_186 [.ref 58, .int (nI i), .int (nI j), .int (nI t)] (zMk (s, J)) = zQ_186 (15, [.ref 58, .int (nI i), .int (nI j), .int (nI t)], [.int 1], zMk (s, J)) := by
    intro J q
    simp only [zqz_186, zq_186_0, isP2_t q t1 h1, isP2_t q t1 h2, zcI_some, zq_186_3, zq_186_7, z10, if_false, if_neg h12, in_t (m := 2) 2 rfl (by decide) h3]
  by_cases hs : t = 1 ∧ st.ht i < st.ht j
  case pos =>
    obtain ⟨rfl, hs⟩ := hs
    have bi := (tp i hi).1
    have bj := (tp j hj).1
    have e1 : nI (st.ht i) < nI (st.ht j) := nI_lt hs (by omega)
    have z1 : ¬ ¬ nI 1 = (1 : Int32) := not_not_intro rfl
    refine zPair_same h (v := -1) ?_ ?_
    · rw [f0]
      simp only [zq_141_16, z10, not_false_eq_true, if_true, if_neg z1, zl_99, zb_t (show i < 20 by omega) (by omega), zb_t (show j < 20 by omega) (by omega), nI_clamp (show i < 2 ^ 31 by omega), nI_clamp (show j < 2 ^ 31 by omega), (tp i hi).2.1, (tp j hj).2.1, if_pos e1, zcI_some, zq_141_27, not_true_eq_false, if_false]
    · rw [g0 I q]
      simp only [zq_186_15, z10, if_false, if_neg z1, if_true, zb_t (show i < 20 by omega) (by omega), zb_t (show j < 20 by omega) (by omega), nI_clamp (show i < 2 ^ 31 by omega), nI_clamp (show j < 2 ^ 31 by omega), (tp i hi).2.2, (tp j hj).2.2, if_pos e1]
  have f1 : zf_141 [.ref 0, .int (nI i), .int (nI j), .int (nI t)] (zMk (s, I)) = zcI (zf_101 [.ref 1, .int (nI i), .int (nI j), .int (nI t)] (zMk (s, I))) fun v M => zQ_141 (36, [.ref 0, .int (nI i), .int (nI j), .int (nI t)], [.int v], M) := by
    rw [f0]
    by_cases ht1 : t = 1
    · subst ht1
      have bi := (tp i hi).1
      have bj := (tp j hj).1
      have z1 : ¬ ¬ nI 1 = (1 : Int32) := not_not_intro rfl
      have e1 : ¬ nI (st.ht i) < nI (st.ht j) := nI_nlt (by omega) (by omega)
      simp only [zq_141_16, z10, not_false_eq_true, if_true, if_neg z1, zl_99, zb_t (show i < 20 by omega) (by omega), zb_t (show j < 20 by omega) (by omega), nI_clamp (show i < 2 ^ 31 by omega), nI_clamp (show j < 2 ^ 31 by omega), (tp i hi).2.1, (tp j hj).2.1, if_neg e1, zcI_some, zq_141_27]
    · have z1 : ¬ nI t = (1 : Int32) := nI_ne ht1 (by omega) (by decide)
      simp only [zq_141_16, z10, not_false_eq_true, if_true, if_pos z1]
  by_cases hS : st.S < 40
  case neg =>
    have hS : st.S = 40 := by omega
    rw [hS] at a b
    refine zPair_same h (v := -1) ?_ ?_
    · rw [f1]
      simp only [zl_101, a, if_neg (show ¬ nI 40 < 40 by decide), zcI_some, zq_141_36]
    · rw [g0 I q]
      by_cases ht1 : t = 1
      · subst ht1
        have bi := (tp i hi).1
        have bj := (tp j hj).1
        have z1 : ¬ ¬ nI 1 = (1 : Int32) := not_not_intro rfl
        have e1 : ¬ nI (st.ht i) < nI (st.ht j) := nI_nlt (by omega) (by omega)
        simp only [zq_186_15, z10, if_false, if_neg z1, if_true, zb_t (show i < 20 by omega) (by omega), zb_t (show j < 20 by omega) (by omega), nI_clamp (show i < 2 ^ 31 by omega), nI_clamp (show j < 2 ^ 31 by omega), (tp i hi).2.2, (tp j hj).2.2, if_neg e1, b, if_neg (show ¬ ¬ nI 40 = 40 by decide)]
      · have z1 : ¬ nI t = (1 : Int32) := nI_ne ht1 (by omega) (by decide)
        simp only [zq_186_15, z10, if_false, if_pos z1, b, if_neg (show ¬ ¬ nI 40 = 40 by decide)]
  have g1 : ∀ J, J 58 0 = nI st.P → J 58 1 = nI st.S → J 59 = I 59 → zf_186 [.ref 58, .int (nI i), .int (nI j), .int (nI t)] (zMk (s, J)) = zcV (zf_185 [.ref 58, .int (nI i), .int (nI j), .int (nI t)] (zMk (s, J))) fun M => zQ_186 (39, [.ref 58, .int (nI i), .int (nI j), .int (nI t)], [], M) := by
    intro J q b e9
    rw [g0 J q]
    have z40 : ¬ nI st.S = 40 := nI_ne (show st.S ≠ 40 by omega) (by omega) (by decide)
    by_cases ht1 : t = 1
    · subst ht1
      have bi := (tp i hi).1
      have bj := (tp j hj).1
      have z1 : ¬ ¬ nI 1 = (1 : Int32) := not_not_intro rfl
      have e1 : ¬ nI (st.ht i) < nI (st.ht j) := nI_nlt (by omega) (by omega)
      simp only [zq_186_15, z10, if_false, if_neg z1, if_true, zb_t (show i < 20 by omega) (by omega), zb_t (show j < 20 by omega) (by omega), nI_clamp (show i < 2 ^ 31 by omega), nI_clamp (show j < 2 ^ 31 by omega), e9, (tp i hi).2.2, (tp j hj).2.2, if_neg e1, b, if_pos z40]
    · have z1 : ¬ nI t = (1 : Int32) := nI_ne ht1 (by omega) (by decide)
      simp only [zq_186_15, z10, if_false, if_pos z1, b, if_pos z40]
  apply zPair_mk (v := nI st.S) (((((st.V' (st.V + 1)).S' (st.S + 1)).sa' (zup st.sa st.S i)).sb' (zup st.sb st.S j)).so' (zup st.so st.S t)) (Or.inl rfl)
  · rw [f1]
    simp only [zl_101, a, if_pos (show nI st.S < 40 from nI_lt hS (by decide)), zb_t hS (by omega), if_true, nI_clamp (show st.S < 2 ^ 31 by omega), nI_1, nI_pred, zcI_some, zq_141_36]
    rfl
  · rw [g1 _ (by simp [zwA_at, q]) (by simp [zwA_at, b]) (by simp [zwA_at])]
    simp only [zl_185, zwA_at, upd_at, Nat.reduceEqDiff, if_false, b, zb_t hS (by omega), if_true, nI_clamp (show st.S < 2 ^ 31 by omega), nI_1, nI_pred, zcV_some, zq_186_39]
    rfl
  · refine ⟨⟨?_, ?_⟩, ?_, ?_, ?_, ?_, ?_, ?_, ?_, ?_, ?_⟩
    · exact hV
    · simp [zwA_at, upd_at, ev, nI_1]; rfl
    · simp only [zwA_at, upd_at, Nat.reduceEqDiff, if_true, if_false]
      refine ⟨t1, hS, t3, p, q, rfl, rfl, w, v, tp, fun k hk => ?_⟩
      show zup st.sa st.S i k < st.P ∧ zup st.sb st.S j k < st.P ∧ zup st.sa st.S i k ≠ zup st.sb st.S j k ∧ zup st.so st.S t k ≤ 2 ∧ (zup st.so st.S t k = 1 → st.ht (zup st.sb st.S j k) ≤ st.ht (zup st.sa st.S i k)) ∧ upd (I 4) st.S (nI i) k = nI (zup st.sa st.S i k) ∧ upd (I 5) st.S (nI j) k = nI (zup st.sb st.S j k) ∧ upd (I 6) st.S (nI t) k = nI (zup st.so st.S t k) ∧ upd (I 60) st.S (nI i) k = nI (zup st.sa st.S i k) ∧ upd (I 61) st.S (nI j) k = nI (zup st.sb st.S j k) ∧ upd (I 62) st.S (nI t) k = nI (zup st.so st.S t k)
      have hk : k < st.S + 1 := hk
      by_cases hk' : k = st.S
      · simp only [zup, upd_at, if_pos hk']
        exact ⟨hi, hj, hij, htt, fun e => Nat.le_of_not_lt fun w => hs ⟨e, w⟩, by simp⟩
      · simp only [zup, upd_at, if_neg hk']; exact ts k (by omega)
    · simp [zwA_at, upd_at]; exact cKept_mono (Nat.le_succ _) hk
    · simp [zwA_at, upd_at]; exact hw
    · simp [zwA_at, upd_at]; exact he
    · simp [zwA_at, upd_at]; exact hf
    · simp [zwA_at, upd_at]; exact hg
    · simp [zwA_at, upd_at]; exact hta
    · simp [zwA_at, upd_at]; exact hfa
    · simp [zwA_at, upd_at]; exact hX
  · refine ⟨fun k hk => ?_, ?_⟩
    · have hk : (8 ≤ k ∧ k ≤ 14) ∨ (17 ≤ k ∧ k ≤ 18) ∨ (34 ≤ k ∧ k ≤ 40) ∨ (70 ≤ k ∧ k ≤ 74) ∨ 103 ≤ k := hk
      simp only [zwA_at]
      repeat rw [if_neg (by omega)]
    · simp [zwA_at, upd_at]
