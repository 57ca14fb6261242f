theorem ztab_out {γ : Type} {x : Int32} {d lo hi : Int} {o : Array Int} {f : Int → Option γ} (h : x.toInt < lo ∨ hi < x.toInt) : ztab x d lo hi o f = f d := if_pos h
theorem ztab_in {γ : Type} {j : Nat} {d t : Int} {o : Array Int} {f : Int → Option γ} (hj : j < 10) (ho : o[j]? = some t) : ztab (nI j) d 0 9 o f = f t := by
  have e : (nI j).toInt = (j : Int) := nI_toInt (by omega)
  unfold ztab
  rw [e, if_neg (by omega), Int.sub_zero, Int.toNat_natCast, ho]
theorem nI_sub {a b : Nat} (h : b ≤ a) : nI a - nI b = nI (a - b) := by
  have e : nI a = nI (a - b) + nI b := by rw [nI_add, Nat.sub_add_cancel h]
  rw [e]
  grind
theorem zp_count {s : zQs} {I : Nat → Nat → Int32} {st : zSt} (h : Rep st I) (hl : zf_110 [.ref 1] (zMk (s, I)) = some (.int (I 58 18), zMk (s, I))) (x1 : Int32) : zPair s I st (zf_170 [.ref 0, .int x1]) (zf_274 [.ref 58, .int x1]) := by
  obtain ⟨⟨hv, ev⟩, ht, hk, hw, he, hf, hg, hta, hfa, hX⟩ := id h
  obtain ⟨t1, t2, t3, p, q, a, b, w, v, tp, ts⟩ := id ht
  have m1 : (19 : Int32) + I 58 0 = nI (19 + st.P) := by rw [q]; exact nI_add 19 st.P
  have m2 : (39 : Int32) + I 58 0 = nI (39 + st.P) := by rw [q]; exact nI_add 39 st.P
  rcases pk_ix x1 (n := 60) (by decide) with h0 | h0 | ⟨j, hj, rfl⟩
  · have i0 : x1.toInt < 0 := by have := Int32.lt_iff_toInt_lt.mp h0; rwa [show (0 : Int32).toInt = 0 from rfl] at this
    have l20 : x1 < 20 := by rw [Int32.lt_iff_toInt_lt, show (20 : Int32).toInt = 20 from rfl]; omega
    have l40 : x1 < 40 := by rw [Int32.lt_iff_toInt_lt, show (40 : Int32).toInt = 40 from rfl]; omega
    refine zPair_same h (v := -1) ?_ ?_
    · rw [zqz_170, zq_170_0, if_pos l20, zq_170_22, if_pos l40, zq_170_45, ztab_out (Or.inl i0)]
      exact zq_170_85 s I x1
    · rw [zqz_274, zq_274_0, zq_274_1, ztab_out (Or.inl i0)]
      refine (zq_274_32 s I x1).trans ?_
      rw [zl_179, if_pos l20, zcI_some, zq_274_39, if_pos rfl, zl_179, if_pos l40, zcI_some, zq_274_54, if_pos rfl]
  · have i0 : 60 ≤ x1.toInt := by have := Int32.le_iff_toInt_le.mp h0; rwa [show (nI 60).toInt = 60 from rfl] at this
    have l20 : ¬ x1 < 20 := by rw [Int32.lt_iff_toInt_lt, show (20 : Int32).toInt = 20 from rfl]; omega
    have l40 : ¬ x1 < 40 := by rw [Int32.lt_iff_toInt_lt, show (40 : Int32).toInt = 40 from rfl]; omega
    have g40 : 40 ≤ x1 := Int32.not_lt.mp l40
    have g60 : 60 ≤ x1 := h0
    have u1 : nI (19 + st.P) < x1 := by rw [Int32.lt_iff_toInt_lt, nI_toInt (by omega)]; omega
    have u2 : nI (39 + st.P) < x1 := by rw [Int32.lt_iff_toInt_lt, nI_toInt (by omega)]; omega
    refine zPair_same h (v := -1) ?_ ?_
    · rw [zqz_170, zq_170_0, if_neg l20, if_pos g40, zq_170_22, if_neg l40, if_pos g60, zq_170_45, ztab_out (Or.inr (by omega))]
      exact zq_170_85 s I x1
    · rw [zqz_274, zq_274_0, zq_274_1, ztab_out (Or.inr (by omega))]
      refine (zq_274_32 s I x1).trans ?_
      rw [zl_179, if_neg l20, m1, if_pos u1, zcI_some, zq_274_39, if_pos rfl, zl_179, if_neg l40, m2, if_pos u2, zcI_some, zq_274_54, if_pos rfl]
  · by_cases j10 : j < 10
    · have hc : j = 0 ∨ j = 1 ∨ j = 2 ∨ j = 3 ∨ j = 4 ∨ j = 5 ∨ j = 6 ∨ j = 7 ∨ j = 8 ∨ j = 9 := by omega
      rcases hc with rfl | rfl | rfl | rfl | rfl | rfl | rfl | rfl | rfl | rfl
      · refine zPair_same h (v := nI st.P) ?_ ?_
        · rw [zqz_170, zq_170_0, if_pos (by decide), zq_170_22, if_pos (by decide), zq_170_45, ztab_in (j := 0) (t := 46) (by decide) rfl]
          show zQ_170 (46, [.ref 0, .int (nI 0)], [], zMk (s, I)) = _
          rw [zq_170_46, p]
        · rw [zqz_274, zq_274_0, zq_274_1, ztab_in (j := 0) (t := 2) (by decide) rfl]
          show zQ_274 (2, [.ref 58, .int (nI 0)], [], zMk (s, I)) = _
          rw [zq_274_2, q]
      · refine zPair_same h (v := nI st.S) ?_ ?_
        · rw [zqz_170, zq_170_0, if_pos (by decide), zq_170_22, if_pos (by decide), zq_170_45, ztab_in (j := 1) (t := 50) (by decide) rfl]
          show zQ_170 (50, [.ref 0, .int (nI 1)], [], zMk (s, I)) = _
          rw [zq_170_50, a]
        · rw [zqz_274, zq_274_0, zq_274_1, ztab_in (j := 1) (t := 5) (by decide) rfl]
          show zQ_274 (5, [.ref 58, .int (nI 1)], [], zMk (s, I)) = _
          rw [zq_274_5, b]
      · refine zPair_same h (v := I 58 18) ?_ ?_
        · rw [zqz_170, zq_170_0, if_pos (by decide), zq_170_22, if_pos (by decide), zq_170_45, ztab_in (j := 2) (t := 54) (by decide) rfl]
          show zQ_170 (54, [.ref 0, .int (nI 2)], [], zMk (s, I)) = _
          rw [zq_170_54, hl, zcI_some, zq_170_57]
        · rw [zqz_274, zq_274_0, zq_274_1, ztab_in (j := 2) (t := 8) (by decide) rfl]
          show zQ_274 (8, [.ref 58, .int (nI 2)], [], zMk (s, I)) = _
          rw [zq_274_8]
      · refine zPair_same h (v := nI st.T) ?_ ?_
        · rw [zqz_170, zq_170_0, if_pos (by decide), zq_170_22, if_pos (by decide), zq_170_45, ztab_in (j := 3) (t := 58) (by decide) rfl]
          show zQ_170 (58, [.ref 0, .int (nI 3)], [], zMk (s, I)) = _
          rw [zq_170_58, zl_90, zcI_some, zq_170_61, hta.2.1]
        · rw [zqz_274, zq_274_0, zq_274_1, ztab_in (j := 3) (t := 11) (by decide) rfl]
          show zQ_274 (11, [.ref 58, .int (nI 3)], [], zMk (s, I)) = _
          rw [zq_274_11, hta.2.2.1]
      · refine zPair_same h (v := nI st.W) ?_ ?_
        · rw [zqz_170, zq_170_0, if_pos (by decide), zq_170_22, if_pos (by decide), zq_170_45, ztab_in (j := 4) (t := 62) (by decide) rfl]
          show zQ_170 (62, [.ref 0, .int (nI 4)], [], zMk (s, I)) = _
          rw [zq_170_62, zl_104, zcI_some, zq_170_65, w]
        · rw [zqz_274, zq_274_0, zq_274_1, ztab_in (j := 4) (t := 14) (by decide) rfl]
          show zQ_274 (14, [.ref 58, .int (nI 4)], [], zMk (s, I)) = _
          rw [zq_274_14, v]
      · refine zPair_same h (v := nI st.E) ?_ ?_
        · rw [zqz_170, zq_170_0, if_pos (by decide), zq_170_22, if_pos (by decide), zq_170_45, ztab_in (j := 5) (t := 66) (by decide) rfl]
          show zQ_170 (66, [.ref 0, .int (nI 5)], [], zMk (s, I)) = _
          rw [zq_170_66, he.2.1]
        · rw [zqz_274, zq_274_0, zq_274_1, ztab_in (j := 5) (t := 17) (by decide) rfl]
          show zQ_274 (17, [.ref 58, .int (nI 5)], [], zMk (s, I)) = _
          rw [zq_274_17, he.2.2.1]
      · refine zPair_same h (v := nI st.Q) ?_ ?_
        · rw [zqz_170, zq_170_0, if_pos (by decide), zq_170_22, if_pos (by decide), zq_170_45, ztab_in (j := 6) (t := 70) (by decide) rfl]
          show zQ_170 (70, [.ref 0, .int (nI 6)], [], zMk (s, I)) = _
          rw [zq_170_70, hf.2.1]
        · rw [zqz_274, zq_274_0, zq_274_1, ztab_in (j := 6) (t := 20) (by decide) rfl]
          show zQ_274 (20, [.ref 58, .int (nI 6)], [], zMk (s, I)) = _
          rw [zq_274_20, hf.2.2.1]
      · refine zPair_same h (v := nI st.H) ?_ ?_
        · rw [zqz_170, zq_170_0, if_pos (by decide), zq_170_22, if_pos (by decide), zq_170_45, ztab_in (j := 7) (t := 74) (by decide) rfl]
          show zQ_170 (74, [.ref 0, .int (nI 7)], [], zMk (s, I)) = _
          rw [zq_170_74, hg.2.1]
        · rw [zqz_274, zq_274_0, zq_274_1, ztab_in (j := 7) (t := 23) (by decide) rfl]
          show zQ_274 (23, [.ref 58, .int (nI 7)], [], zMk (s, I)) = _
          rw [zq_274_23, hg.2.2.1]
      · refine zPair_same h (v := nI st.F) ?_ ?_
        · rw [zqz_170, zq_170_0, if_pos (by decide), zq_170_22, if_pos (by decide), zq_170_45, ztab_in (j := 8) (t := 78) (by decide) rfl]
          show zQ_170 (78, [.ref 0, .int (nI 8)], [], zMk (s, I)) = _
          rw [zq_170_78, hfa.2.1]
        · rw [zqz_274, zq_274_0, zq_274_1, ztab_in (j := 8) (t := 26) (by decide) rfl]
          show zQ_274 (26, [.ref 58, .int (nI 8)], [], zMk (s, I)) = _
          rw [zq_274_26, hfa.2.2.1]
      · refine zPair_same h (v := nI st.X) ?_ ?_
        · rw [zqz_170, zq_170_0, if_pos (by decide), zq_170_22, if_pos (by decide), zq_170_45, ztab_in (j := 9) (t := 82) (by decide) rfl]
          show zQ_170 (82, [.ref 0, .int (nI 9)], [], zMk (s, I)) = _
          rw [zq_170_82, hX.2.1]
        · rw [zqz_274, zq_274_0, zq_274_1, ztab_in (j := 9) (t := 29) (by decide) rfl]
          show zQ_274 (29, [.ref 58, .int (nI 9)], [], zMk (s, I)) = _
          rw [zq_274_29, hX.2.2]
    · have i0 : (nI j).toInt = (j : Int) := nI_toInt (by omega)
      by_cases j20 : j < 20
      · have l20 : nI j < 20 := nI_lt (b := 20) j20 (by decide)
        have l40 : nI j < 40 := nI_lt (b := 40) (by omega) (by decide)
        refine zPair_same h (v := -1) ?_ ?_
        · rw [zqz_170, zq_170_0, if_pos l20, zq_170_22, if_pos l40, zq_170_45, ztab_out (Or.inr (by omega))]
          exact zq_170_85 s I _
        · rw [zqz_274, zq_274_0, zq_274_1, ztab_out (Or.inr (by omega))]
          refine (zq_274_32 s I _).trans ?_
          rw [zl_179, if_pos l20, zcI_some, zq_274_39, if_pos rfl, zl_179, if_pos l40, zcI_some, zq_274_54, if_pos rfl]
      · have l20 : ¬ nI j < 20 := nI_nlt (b := 20) (by omega) (by omega)
        have s20 : nI j - 20 = nI (j - 20) := nI_sub (b := 20) (by omega)
        by_cases j40 : j < 40
        · have l40 : nI j < 40 := nI_lt (b := 40) j40 (by decide)
          have g40 : ¬ 40 ≤ nI j := nI_ge (b := 40) j40 (by decide)
          by_cases hp : j - 20 < st.P
          · have hz : zlt (nI (j - 20)) st.P := ⟨_, hp, rfl⟩
            have u1 : ¬ nI (19 + st.P) < nI j := nI_nlt (by omega) (by omega)
            refine zPair_same h (v := nI (st.ht (j - 20))) ?_ ?_
            · rw [zqz_170, zq_170_0, if_neg l20, if_neg g40, s20, isP1_t p t1 hz, zcI_some, zq_170_12, if_neg (by decide), s20, zl_98, zb_t (show j - 20 < 20 by omega) (by omega), if_pos rfl, zcI_some, zq_170_19, nI_clamp (show j - 20 < 2 ^ 31 by omega), (tp _ hp).2.1]
            · rw [zqz_274, zq_274_0, zq_274_1, ztab_out (Or.inr (by omega))]
              refine (zq_274_32 s I _).trans ?_
              rw [zl_179, if_neg l20, m1, if_neg u1, zcI_some, zq_274_39, if_neg (by decide), s20, zb_t (show j - 20 < 20 by omega) (by omega), if_pos rfl, nI_clamp (show j - 20 < 2 ^ 31 by omega), (tp _ hp).2.2]
          · have hz : ¬ zlt (nI (j - 20)) st.P := fun ⟨k, hk, e⟩ => hp (by rw [(nI_eq (by omega) (by omega)).mp e]; exact hk)
            have u1 : nI (19 + st.P) < nI j := nI_lt (by omega) (by omega)
            refine zPair_same h (v := -1) ?_ ?_
            · rw [zqz_170, zq_170_0, if_neg l20, if_neg g40, s20, isP1_f p t1 hz, zcI_some, zq_170_12, if_pos rfl]
            · rw [zqz_274, zq_274_0, zq_274_1, ztab_out (Or.inr (by omega))]
              refine (zq_274_32 s I _).trans ?_
              rw [zl_179, if_neg l20, m1, if_pos u1, zcI_some, zq_274_39, if_pos rfl, zl_179, if_pos l40, zcI_some, zq_274_54, if_pos rfl]
        · have l40 : ¬ nI j < 40 := nI_nlt (b := 40) (by omega) (by omega)
          have g40 : 40 ≤ nI j := nI_le (a := 40) (by omega) (by omega)
          have g60 : ¬ 60 ≤ nI j := nI_ge (b := 60) hj (by decide)
          have s40 : nI j - 40 = nI (j - 40) := nI_sub (b := 40) (by omega)
          have u1 : nI (19 + st.P) < nI j := nI_lt (by omega) (by omega)
          by_cases hp : j - 40 < st.P
          · have hz : zlt (nI (j - 40)) st.P := ⟨_, hp, rfl⟩
            have u2 : ¬ nI (39 + st.P) < nI j := nI_nlt (by omega) (by omega)
            refine zPair_same h (v := nI (st.wn (j - 40))) ?_ ?_
            · rw [zqz_170, zq_170_0, if_neg l20, if_pos g40, zq_170_22, if_neg l40, if_neg g60, s40, isP1_t p t1 hz, zcI_some, zq_170_34, if_neg (by decide), s40, zl_112, zb_t (show j - 40 < 20 by omega) (by omega), if_pos rfl, zcI_some, zq_170_41, nI_clamp (show j - 40 < 2 ^ 31 by omega), (hw _ (by omega)).2.1]
            · rw [zqz_274, zq_274_0, zq_274_1, ztab_out (Or.inr (by omega))]
              refine (zq_274_32 s I _).trans ?_
              rw [zl_179, if_neg l20, m1, if_pos u1, zcI_some, zq_274_39, if_pos rfl, zl_179, if_neg l40, m2, if_neg u2, zcI_some, zq_274_54, if_neg (by decide), s40, zb_t (show j - 40 < 20 by omega) (by omega), if_pos rfl, nI_clamp (show j - 40 < 2 ^ 31 by omega), (hw _ (by omega)).2.2]
          · have hz : ¬ zlt (nI (j - 40)) st.P := fun ⟨k, hk, e⟩ => hp (by rw [(nI_eq (by omega) (by omega)).mp e]; exact hk)
            have u2 : nI (39 + st.P) < nI j := nI_lt (by omega) (by omega)
            refine zPair_same h (v := -1) ?_ ?_
            · rw [zqz_170, zq_170_0, if_neg l20, if_pos g40, zq_170_22, if_neg l40, if_neg g60, s40, isP1_f p t1 hz, zcI_some, zq_170_34, if_pos rfl]
            · rw [zqz_274, zq_274_0, zq_274_1, ztab_out (Or.inr (by omega))]
              refine (zq_274_32 s I _).trans ?_
              rw [zl_179, if_neg l20, m1, if_pos u1, zcI_some, zq_274_39, if_pos rfl, zl_179, if_neg l40, m2, if_pos u2, zcI_some, zq_274_54, if_pos rfl]
