/-! CALLS THAT TELL -/
theorem cErr_mono {P P' E : Nat} {ea ew eo : Nat → Nat} {a b : Int32} {r43 r44 r45 r81 r82 r83 : Nat → Int32} (hp : P ≤ P') (h : cErr P E ea ew eo a b r43 r44 r45 r81 r82 r83) : cErr P' E ea ew eo a b r43 r44 r45 r81 r82 r83 :=
  ⟨h.1, h.2.1, h.2.2.1, fun j hj hb => ⟨Nat.lt_of_lt_of_le (h.2.2.2 j hj hb).1 hp, (h.2.2.2 j hj hb).2⟩⟩
theorem cFolk_mono {P P' Q : Nat} {pf pt pc : Nat → Nat} {a b : Int32} {r21 r22 r23 r85 r86 r87 : Nat → Int32} (hp : P ≤ P') (h : cFolk P Q pf pt pc a b r21 r22 r23 r85 r86 r87) : cFolk P' Q pf pt pc a b r21 r22 r23 r85 r86 r87 :=
  ⟨h.1, h.2.1, h.2.2.1, fun j hj => ⟨Nat.lt_of_lt_of_le (h.2.2.2 j hj).1 hp, Nat.lt_of_lt_of_le (h.2.2.2 j hj).2.1 hp, (h.2.2.2 j hj).2.2⟩⟩
theorem cThing_mono {P P' H : Nat} {tf tt tw : Nat → Nat} {a b : Int32} {r24 r25 r26 r88 r89 r90 : Nat → Int32} (hp : P ≤ P') (h : cThing P H tf tt tw a b r24 r25 r26 r88 r89 r90) : cThing P' H tf tt tw a b r24 r25 r26 r88 r89 r90 :=
  ⟨h.1, h.2.1, h.2.2.1, fun j hj hb => ⟨Nat.lt_of_lt_of_le (h.2.2.2 j hj hb).1 hp, Nat.lt_of_lt_of_le (h.2.2.2 j hj hb).2.1 hp, (h.2.2.2 j hj hb).2.2⟩⟩
theorem cFare_mono {P P' F : Nat} {fa fb : Nat → Nat} {fs : Nat → Int32} {a b c : Int32} {r55 r56 r57 r97 r98 r99 : Nat → Int32} (hp : P ≤ P') (h : cFare P F fa fb fs a b c r55 r56 r57 r97 r98 r99) : cFare P' F fa fb fs a b c r55 r56 r57 r97 r98 r99 :=
  ⟨h.1, h.2.1, h.2.2.1, fun j hj => ⟨Nat.lt_of_lt_of_le (h.2.2.2.1 j hj).1 hp, Nat.lt_of_lt_of_le (h.2.2.2.1 j hj).2.1 hp, (h.2.2.2.1 j hj).2.2⟩, h.2.2.2.2⟩
theorem nI_ne {a b : Nat} (h : a ≠ b) (ha : a < 2 ^ 31) (hb : b < 2 ^ 31) : ¬ nI a = nI b := fun e => h ((nI_eq ha hb).mp e)
theorem zPair_mk {s : zQs} {I I1 I2 : Nat → Nat → Int32} {st : zSt} {f g : zM → Option (Value × zM)} {v : Int32} (st' : zSt) (hw : zvers st st') (hf : f (zMk (s, I)) = some (.int v, zMk (s, I1))) (hg : g (zMk (s, I1)) = some (.int v, zMk (s, I2))) (hr : Rep st' I2) (hk : zkeep I I2) : zPair s I st f g :=
  ⟨v, I1, I2, st', hf, hg, hr, hk, hw⟩
theorem zp_place {s : zQs} {I : Nat → Nat → Int32} {st : zSt} (h : Rep st I) (hV : st.V < 1000000) (x1 : Int32) : zPair s I st (zf_140 [.ref 0, .int x1]) (zf_184 [.ref 58, .int x1]) := by
  obtain ⟨⟨hv, ev⟩, ht, hk, hw, he, hf, hg, hta, hfa, hX⟩ := id h
  obtain ⟨t1, t2, t3, p, q, a, b, w, v, tp, ts⟩ := id ht
  by_cases hx : zin x1 200
  · have hx' := hx
    obtain ⟨j, hj, rfl⟩ := hx
    by_cases hP : st.P < 20
    · apply zPair_mk (v := nI st.P) (((st.V' (st.V + 1)).P' (st.P + 1)).ht' (zup st.ht st.P j)) (Or.inl rfl)
      · simp only [zqz_140, zq_140_0, wi_t (m := 200) 200 rfl (by decide) hx', zcI_some, zq_140_3, z10, not_false_eq_true, if_true, zl_100, p, if_pos (show nI st.P < 20 from nI_lt hP (by decide)), zb_t hP (by omega), nI_clamp (show st.P < 2 ^ 31 by omega), nI_1, nI_pred, zq_140_10]
        rfl
      · simp only [zqz_184, zq_184_0, in_t (m := 200) 200 rfl (by decide) hx', zcI_some, zq_184_4, z10, if_false, zwA_at, upd_at, q, if_pos (show ¬ nI st.P = 20 from nI_ne (show st.P ≠ 20 by omega) (by omega) (by decide)), zb_t hP (by omega), nI_clamp (show st.P < 2 ^ 31 by omega), nI_1, nI_pred, Nat.reduceEqDiff, if_true]
        rfl
      · refine ⟨⟨?_, ?_⟩, ?_, ?_, ?_, ?_, ?_, ?_, ?_, ?_, ?_⟩
        · exact hV
        · simp [zwA_at, upd_at, ev, nI_1]; rfl
        · simp only [zwA_at, upd_at, Nat.reduceEqDiff, if_true, if_false]
          refine ⟨hP, t2, t3, rfl, rfl, a, b, w, v, fun i hi => ?_, fun i hi => ?_⟩
          · show zup st.ht st.P j i ≤ 200 ∧ upd (I 2) st.P (nI j) i = nI (zup st.ht st.P j i) ∧ upd (I 59) st.P (nI j) i = nI (zup st.ht st.P j i)
            have hi : i < st.P + 1 := hi
            by_cases hi' : i = st.P
            · simp only [zup, upd_at, if_pos hi']; simp [hj]
            · simp only [zup, upd_at, if_neg hi']; exact tp i (by omega)
          · obtain ⟨b1, b2, b3, b4, b5, b6⟩ := ts i hi
            refine ⟨Nat.lt_succ_of_lt b1, Nat.lt_succ_of_lt b2, b3, b4, fun hb => ?_, b6⟩
            show zup st.ht st.P j (st.sb i) ≤ zup st.ht st.P j (st.sa i)
            simp only [zup, if_neg (Nat.ne_of_lt b1), if_neg (Nat.ne_of_lt b2)]
            exact b5 hb
        · simp [zwA_at, upd_at]; exact hk
        · simp [zwA_at, upd_at]; exact hw
        · simp [zwA_at, upd_at]; exact cErr_mono (Nat.le_succ _) he
        · simp [zwA_at, upd_at]; exact cFolk_mono (Nat.le_succ _) hf
        · simp [zwA_at, upd_at]; exact cThing_mono (Nat.le_succ _) hg
        · simp [zwA_at, upd_at]; exact hta
        · simp [zwA_at, upd_at]; exact cFare_mono (Nat.le_succ _) hfa
        · simp [zwA_at, upd_at]; exact hX
      · refine ⟨fun k hk => ?_, ?_⟩
        · have hk : (8 ≤ k ∧ k ≤ 14) ∨ (17 ≤ k ∧ k ≤ 18) ∨ (34 ≤ k ∧ k ≤ 40) ∨ (70 ≤ k ∧ k ≤ 74) ∨ 103 ≤ k := hk
          simp only [zwA_at]
          repeat rw [if_neg (by omega)]
        · simp [zwA_at, upd_at]
    · have hP : st.P = 20 := by omega
      rw [hP] at p q
      refine zPair_same h (v := -1) ?_ ?_
      · simp only [zqz_140, zq_140_0, wi_t (m := 200) 200 rfl (by decide) hx', zcI_some, zq_140_3, z10, not_false_eq_true, if_true, zl_100, p, if_neg (show ¬ nI 20 < 20 by decide), zq_140_10]
      · simp only [zqz_184, zq_184_0, in_t (m := 200) 200 rfl (by decide) hx', zcI_some, zq_184_4, z10, if_false, q, if_neg (show ¬ ¬ nI 20 = 20 by decide)]
  · refine zPair_same h (v := -1) ?_ ?_
    · simp only [zqz_140, zq_140_0, wi_f (m := 200) 200 rfl (by decide) hx, zcI_some, zq_140_3, z00, not_true_eq_false, if_false]
    · simp only [zqz_184, zq_184_0, in_f (m := 200) 200 rfl (by decide) hx, zcI_some, zq_184_4, if_true]
