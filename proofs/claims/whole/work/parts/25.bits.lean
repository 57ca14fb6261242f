theorem zp_errand {s : zQs} {I : Nat → Nat → Int32} {st : zSt} (h : Rep st I) (x1 x2 x3 x4 : Int32) : zPair s I st (zf_147 [.ref 0, .int x1, .int x2, .int x3, .int x4]) (zf_224 [.ref 58, .int x1, .int x2, .int x3, .int x4]) := by
  obtain ⟨⟨hv, ev⟩, ht, hk, hw, he, hf, hg, hta, hfa, hX⟩ := id h
  obtain ⟨t1, t2, t3, p, q, a, b, w, v, tp, ts⟩ := id ht
  obtain ⟨hE, eE1, eE2, hee⟩ := id he
  by_cases h1 : zin x1 7
  case neg =>
    refine zPair_same h (v := 0) ?_ ?_
    · simp only [zqz_147, zq_147_0, zq_147_3, wi_f (m := 7) 7 rfl (by decide) h1, zcI_some, z10, if_false, if_true, not_true_eq_false]
    · simp only [zqz_224, zq_224_0, zq_224_4, in_f (m := 7) 7 rfl (by decide) h1, zcI_some, z10, if_false, if_true, not_true_eq_false]
  by_cases h2 : zlt x2 st.P
  case neg =>
    refine zPair_same h (v := 0) ?_ ?_
    · simp only [zqz_147, zq_147_0, zq_147_3, zq_147_8, wi_t (m := 7) 7 rfl (by decide) h1, isP1_f p t1 h2, zcI_some, z10, if_false, if_true, not_true_eq_false]
    · simp only [zqz_224, zq_224_0, zq_224_4, zq_224_8, in_t (m := 7) 7 rfl (by decide) h1, isP2_f q t1 h2, zcI_some, z10, if_false, if_true, not_true_eq_false]
  by_cases h3 : zin x3 12
  case neg =>
    refine zPair_same h (v := 0) ?_ ?_
    · simp only [zqz_147, zq_147_0, zq_147_3, zq_147_8, zq_147_12, wi_t (m := 7) 7 rfl (by decide) h1, isP1_t p t1 h2, wi_f (m := 12) 12 rfl (by decide) h3, zcI_some, z10, if_false, if_true, not_true_eq_false]
    · simp only [zqz_224, zq_224_0, zq_224_4, zq_224_8, zq_224_13, in_t (m := 7) 7 rfl (by decide) h1, isP2_t q t1 h2, in_f (m := 12) 12 rfl (by decide) h3, zcI_some, z10, if_false, if_true, not_true_eq_false]
  by_cases h4 : zin x4 999
  case neg =>
    refine zPair_same h (v := 0) ?_ ?_
    · simp only [zqz_147, zq_147_0, zq_147_3, zq_147_8, zq_147_12, zq_147_16, wi_t (m := 7) 7 rfl (by decide) h1, isP1_t p t1 h2, wi_t (m := 12) 12 rfl (by decide) h3, wi_f (m := 999) 999 rfl (by decide) h4, zcI_some, z10, if_false, if_true, not_true_eq_false]
    · simp only [zqz_224, zq_224_0, zq_224_4, zq_224_8, zq_224_13, zq_224_18, in_t (m := 7) 7 rfl (by decide) h1, isP2_t q t1 h2, in_t (m := 12) 12 rfl (by decide) h3, in_f (m := 999) 999 rfl (by decide) h4, zcI_some, z10, if_false, if_true, not_true_eq_false]
  obtain ⟨i, hi, rfl⟩ := id h1
  obtain ⟨j, hj, rfl⟩ := id h2
  obtain ⟨l, hl, rfl⟩ := id h3
  obtain ⟨m, hm, rfl⟩ := id h4
  apply zPair_mk (v := 1) ((((st.E' (st.E ||| 2 ^ i)).ea' (zup st.ea i j)).ew' (zup st.ew i l)).eo' (zup st.eo i m)) (Or.inr ⟨rfl, rfl, rfl, rfl, rfl, rfl, rfl, rfl⟩)
  · simp only [zqz_147, zq_147_0, zq_147_3, zq_147_8, zq_147_12, zq_147_16, wi_t (m := 7) 7 rfl (by decide) h1, isP1_t p t1 h2, wi_t (m := 12) 12 rfl (by decide) h3, wi_t (m := 999) 999 rfl (by decide) h4, zcI_some, z10, if_false, if_true, not_false_eq_true, zl_74, zb_t (show i < 8 by omega) (by omega), nI_clamp (show i < 2 ^ 31 by omega), eE1, nI_or _ hE _ (show i < 8 by omega), zcV_some, zq_147_26]
    rfl
  · rw [zqz_224, zq_224_0, in_t (m := 7) 7 rfl (by decide) h1, zcI_some, zq_224_4, if_neg (by decide), isP2_t (by simp [zwA_at, q]) t1 h2, zcI_some, zq_224_8, if_neg (by decide), in_t (m := 12) 12 rfl (by decide) h3, zcI_some, zq_224_13, if_neg (by decide), in_t (m := 999) 999 rfl (by decide) h4, zcI_some, zq_224_18, if_pos (by decide)]
    simp only [zwA_at, Nat.reduceEqDiff, if_false, eE2, if_true, zb_t (show i < 8 by omega) (by omega), nI_clamp (show i < 2 ^ 31 by omega), nI_or _ hE _ (show i < 8 by omega)]
    rfl
  · refine ⟨?_, ?_, ?_, ?_, ?_, ?_, ?_, ?_, ?_, ?_⟩
    · simp [zwA_at, upd_at]; exact ⟨hv, ev⟩
    · simp [zwA_at, upd_at]; exact ht
    · simp [zwA_at, upd_at]; exact hk
    · simp [zwA_at, upd_at]; exact hw
    · simp only [zwA_at, upd_at, Nat.reduceEqDiff, if_true, if_false]
      refine ⟨or_lt hE (by omega), rfl, rfl, fun k hk hb => ?_⟩
      show zup st.ea i j k < st.P ∧ zup st.ew i l k ≤ 12 ∧ zup st.eo i m k ≤ 999 ∧ upd (I 43) i (nI j) k = nI (zup st.ea i j k) ∧ upd (I 44) i (nI l) k = nI (zup st.ew i l k) ∧ upd (I 45) i (nI m) k = nI (zup st.eo i m k) ∧ upd (I 81) i (nI j) k = nI (zup st.ea i j k) ∧ upd (I 82) i (nI l) k = nI (zup st.ew i l k) ∧ upd (I 83) i (nI m) k = nI (zup st.eo i m k)
      by_cases hk' : k = i
      · simp only [zup, upd_at, if_pos hk']
        exact ⟨hj, hl, hm, by simp⟩
      · simp only [zup, upd_at, if_neg hk']
        refine hee k hk ?_
        have hb : (st.E ||| 2 ^ i).testBit k = true := hb
        rw [or_bit, decide_eq_false (fun e => hk' e.symm), Bool.or_false] at hb
        exact hb
    · simp [zwA_at, upd_at]; exact hf
    · simp [zwA_at, upd_at]; exact hg
    · simp [zwA_at, upd_at]; exact hta
    · simp [zwA_at, upd_at]; exact hfa
    · simp [zwA_at, upd_at]; exact hX
  · refine ⟨fun k hk => ?_, ?_⟩
    · have hk : (8 ≤ k ∧ k ≤ 14) ∨ (17 ≤ k ∧ k ≤ 18) ∨ (34 ≤ k ∧ k ≤ 40) ∨ (70 ≤ k ∧ k ≤ 74) ∨ 103 ≤ k := hk
      simp only [zwA_at]
      repeat rw [if_neg (by omega)]
    · simp [zwA_at, upd_at]

theorem zp_thing {s : zQs} {I : Nat → Nat → Int32} {st : zSt} (h : Rep st I) (x1 x2 x3 x4 : Int32) : zPair s I st (zf_152 [.ref 0, .int x1, .int x2, .int x3, .int x4]) (zf_239 [.ref 58, .int x1, .int x2, .int x3, .int x4]) := by
  obtain ⟨⟨hv, ev⟩, ht, hk, hw, he, hf, hg, hta, hfa, hX⟩ := id h
  obtain ⟨t1, t2, t3, p, q, a, b, w, v, tp, ts⟩ := id ht
  obtain ⟨hE, eE1, eE2, hee⟩ := id hg
  by_cases h1 : zin x1 7
  case neg =>
    refine zPair_same h (v := 0) ?_ ?_
    · simp only [zqz_152, zq_152_0, zq_152_3, wi_f (m := 7) 7 rfl (by decide) h1, zcI_some, z10, if_false, if_true, not_true_eq_false]
    · simp only [zqz_239, zq_239_0, zq_239_4, in_f (m := 7) 7 rfl (by decide) h1, zcI_some, z10, if_false, if_true, not_true_eq_false]
  by_cases h2 : zlt x2 st.P
  case neg =>
    refine zPair_same h (v := 0) ?_ ?_
    · simp only [zqz_152, zq_152_0, zq_152_3, zq_152_8, wi_t (m := 7) 7 rfl (by decide) h1, isP1_f p t1 h2, zcI_some, z10, if_false, if_true, not_true_eq_false]
    · simp only [zqz_239, zq_239_0, zq_239_4, zq_239_8, in_t (m := 7) 7 rfl (by decide) h1, isP2_f q t1 h2, zcI_some, z10, if_false, if_true, not_true_eq_false]
  by_cases h3 : zlt x3 st.P
  case neg =>
    refine zPair_same h (v := 0) ?_ ?_
    · simp only [zqz_152, zq_152_0, zq_152_3, zq_152_8, zq_152_13, wi_t (m := 7) 7 rfl (by decide) h1, isP1_t p t1 h2, isP1_f p t1 h3, zcI_some, z10, if_false, if_true, not_true_eq_false]
    · simp only [zqz_239, zq_239_0, zq_239_4, zq_239_8, zq_239_12, in_t (m := 7) 7 rfl (by decide) h1, isP2_t q t1 h2, isP2_f q t1 h3, zcI_some, z10, if_false, if_true, not_true_eq_false]
  by_cases h4 : zin x4 99
  case neg =>
    refine zPair_same h (v := 0) ?_ ?_
    · simp only [zqz_152, zq_152_0, zq_152_3, zq_152_8, zq_152_13, zq_152_17, wi_t (m := 7) 7 rfl (by decide) h1, isP1_t p t1 h2, isP1_t p t1 h3, wi_f (m := 99) 99 rfl (by decide) h4, zcI_some, z10, if_false, if_true, not_true_eq_false]
    · simp only [zqz_239, zq_239_0, zq_239_4, zq_239_8, zq_239_12, zq_239_17, in_t (m := 7) 7 rfl (by decide) h1, isP2_t q t1 h2, isP2_t q t1 h3, in_f (m := 99) 99 rfl (by decide) h4, zcI_some, z10, if_false, if_true, not_true_eq_false]
  obtain ⟨i, hi, rfl⟩ := id h1
  obtain ⟨j, hj, rfl⟩ := id h2
  obtain ⟨l, hl, rfl⟩ := id h3
  obtain ⟨m, hm, rfl⟩ := id h4
  apply zPair_mk (v := 1) ((((st.H' (st.H ||| 2 ^ i)).tf' (zup st.tf i j)).tt' (zup st.tt i l)).tw' (zup st.tw i m)) (Or.inr ⟨rfl, rfl, rfl, rfl, rfl, rfl, rfl, rfl⟩)
  · simp only [zqz_152, zq_152_0, zq_152_3, zq_152_8, zq_152_13, zq_152_17, wi_t (m := 7) 7 rfl (by decide) h1, isP1_t p t1 h2, isP1_t p t1 h3, wi_t (m := 99) 99 rfl (by decide) h4, zcI_some, z10, if_false, if_true, not_false_eq_true, zl_20, zb_t (show i < 8 by omega) (by omega), nI_clamp (show i < 2 ^ 31 by omega), eE1, nI_or _ hE _ (show i < 8 by omega), zcV_some, zq_152_27]
    rfl
  · rw [zqz_239, zq_239_0, in_t (m := 7) 7 rfl (by decide) h1, zcI_some, zq_239_4, if_neg (by decide), isP2_t (by simp [zwA_at, q]) t1 h2, zcI_some, zq_239_8, if_neg (by decide), isP2_t (by simp [zwA_at, q]) t1 h3, zcI_some, zq_239_12, if_neg (by decide), in_t (m := 99) 99 rfl (by decide) h4, zcI_some, zq_239_17, if_pos (by decide)]
    simp only [zwA_at, Nat.reduceEqDiff, if_false, eE2, if_true, zb_t (show i < 8 by omega) (by omega), nI_clamp (show i < 2 ^ 31 by omega), nI_or _ hE _ (show i < 8 by omega)]
    rfl
  · refine ⟨?_, ?_, ?_, ?_, ?_, ?_, ?_, ?_, ?_, ?_⟩
    · simp [zwA_at, upd_at]; exact ⟨hv, ev⟩
    · simp [zwA_at, upd_at]; exact ht
    · simp [zwA_at, upd_at]; exact hk
    · simp [zwA_at, upd_at]; exact hw
    · simp [zwA_at, upd_at]; exact he
    · simp [zwA_at, upd_at]; exact hf
    · simp only [zwA_at, upd_at, Nat.reduceEqDiff, if_true, if_false]
      refine ⟨or_lt hE (by omega), rfl, rfl, fun k hk hb => ?_⟩
      show zup st.tf i j k < st.P ∧ zup st.tt i l k < st.P ∧ zup st.tw i m k ≤ 99 ∧ upd (I 24) i (nI j) k = nI (zup st.tf i j k) ∧ upd (I 25) i (nI l) k = nI (zup st.tt i l k) ∧ upd (I 26) i (nI m) k = nI (zup st.tw i m k) ∧ upd (I 88) i (nI j) k = nI (zup st.tf i j k) ∧ upd (I 89) i (nI l) k = nI (zup st.tt i l k) ∧ upd (I 90) i (nI m) k = nI (zup st.tw i m k)
      by_cases hk' : k = i
      · simp only [zup, upd_at, if_pos hk']
        exact ⟨hj, hl, hm, by simp⟩
      · simp only [zup, upd_at, if_neg hk']
        refine hee k hk ?_
        have hb : (st.H ||| 2 ^ i).testBit k = true := hb
        rw [or_bit, decide_eq_false (fun e => hk' e.symm), Bool.or_false] at hb
        exact hb
    · simp [zwA_at, upd_at]; exact hta
    · simp [zwA_at, upd_at]; exact hfa
    · simp [zwA_at, upd_at]; exact hX
  · refine ⟨fun k hk => ?_, ?_⟩
    · have hk : (8 ≤ k ∧ k ≤ 14) ∨ (17 ≤ k ∧ k ≤ 18) ∨ (34 ≤ k ∧ k ≤ 40) ∨ (70 ≤ k ∧ k ≤ 74) ∨ 103 ≤ k := hk
      simp only [zwA_at]
      repeat rw [if_neg (by omega)]
    · simp [zwA_at, upd_at]

