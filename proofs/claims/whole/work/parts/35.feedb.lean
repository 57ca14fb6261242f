theorem cTape_step {T : Nat} {tb : Nat → Nat} {a b a' b' x : Int32} {r31 r63 s31 s63 : Nat → Int32} (h : cTape T tb a b r31 r63) (hT : T + 4 ≤ 200) (ha : a' = nI (T + 4)) (hb : b' = nI (T + 4))
    (h1 : ∀ p, s31 p = if p = T + 3 then nI (zbn x 0) else if p = T + 2 then nI (zbn x 8) else if p = T + 1 then nI (zbn x 16) else if p = T then nI (zbn x 24) else r31 p)
    (h2 : ∀ p, s63 p = if p = T + 3 then zby (zbn x 0) else if p = T + 2 then zby (zbn x 8) else if p = T + 1 then zby (zbn x 16) else if p = T then zby (zbn x 24) else r63 p) : cTape (T + 4) (ztbx tb T x) a' b' s31 s63 := by
  refine ⟨hT, ha, hb, fun j hj => ?_⟩
  rw [h1 j, h2 j]
  unfold ztbx
  by_cases c3 : j = T + 3
  · simp only [if_pos c3]; exact ⟨zbn_lt _ _, by simp⟩
  · simp only [if_neg c3]
    by_cases c2 : j = T + 2
    · simp only [if_pos c2]; exact ⟨zbn_lt _ _, by simp⟩
    · simp only [if_neg c2]
      by_cases c1 : j = T + 1
      · simp only [if_pos c1]; exact ⟨zbn_lt _ _, by simp⟩
      · simp only [if_neg c1]
        by_cases c0 : j = T
        · simp only [if_pos c0]; exact ⟨zbn_lt _ _, by simp⟩
        · simp only [if_neg c0]; exact h.2.2.2 j (by omega)
/-- five numbers, in the class -/
theorem zap5 {s : zQs} {I : Nat → Nat → Int32} {T : Nat} {x1 x2 x3 x4 x5 : Int32} (hT : T + 20 ≤ 200) (e : I 30 1 = nI T) : ∃ (J1 J2 J3 J4 J5 : Nat → Nat → Int32), (zf_143 [.ref 0, .int x1, .int x2, .int x3, .int x4, .int x5] (zMk (s, I)) = some (.int (nI (T + 20)), zMk (s, J5)) ∧ J5 30 1 = nI (T + 20) ∧ ∀ r, r ≠ 30 → r ≠ 31 → J5 r = I r) ∧
    (∀ p, J1 31 p = if p = T + 3 then nI (zbn x1 0) else if p = T + 2 then nI (zbn x1 8) else if p = T + 1 then nI (zbn x1 16) else if p = T then nI (zbn x1 24) else I 31 p) ∧
    (∀ p, J2 31 p = if p = T + 4 + 3 then nI (zbn x2 0) else if p = T + 4 + 2 then nI (zbn x2 8) else if p = T + 4 + 1 then nI (zbn x2 16) else if p = T + 4 then nI (zbn x2 24) else J1 31 p) ∧
    (∀ p, J3 31 p = if p = T + 4 + 4 + 3 then nI (zbn x3 0) else if p = T + 4 + 4 + 2 then nI (zbn x3 8) else if p = T + 4 + 4 + 1 then nI (zbn x3 16) else if p = T + 4 + 4 then nI (zbn x3 24) else J2 31 p) ∧
    (∀ p, J4 31 p = if p = T + 4 + 4 + 4 + 3 then nI (zbn x4 0) else if p = T + 4 + 4 + 4 + 2 then nI (zbn x4 8) else if p = T + 4 + 4 + 4 + 1 then nI (zbn x4 16) else if p = T + 4 + 4 + 4 then nI (zbn x4 24) else J3 31 p) ∧
    (∀ p, J5 31 p = if p = T + 4 + 4 + 4 + 4 + 3 then nI (zbn x5 0) else if p = T + 4 + 4 + 4 + 4 + 2 then nI (zbn x5 8) else if p = T + 4 + 4 + 4 + 4 + 1 then nI (zbn x5 16) else if p = T + 4 + 4 + 4 + 4 then nI (zbn x5 24) else J4 31 p) := by
  obtain ⟨J1, a1, b1, c1, d1⟩ := zap1 (s := s) (x := x1) (show T + 4 ≤ 200 by omega) e
  obtain ⟨J2, a2, b2, c2, d2⟩ := zap1 (s := s) (x := x2) (show T + 4 + 4 ≤ 200 by omega) c1
  obtain ⟨J3, a3, b3, c3, d3⟩ := zap1 (s := s) (x := x3) (show T + 4 + 4 + 4 ≤ 200 by omega) c2
  obtain ⟨J4, a4, b4, c4, d4⟩ := zap1 (s := s) (x := x4) (show T + 4 + 4 + 4 + 4 ≤ 200 by omega) c3
  obtain ⟨J5, a5, b5, c5, d5⟩ := zap1 (s := s) (x := x5) (show T + 4 + 4 + 4 + 4 + 4 ≤ 200 by omega) c4
  refine ⟨J1, J2, J3, J4, J5, ⟨?_, c5, fun r h1 h2 => ?_⟩, d1, d2, d3, d4, d5⟩
  · rw [zqz_143, zq_143_0, zl_91, e, show nI T + 20 = nI (T + 20) from nI_add T 20, if_neg (show ¬ 200 < nI (T + 20) from nI_nlt (a := 200) hT (by decide)), zcI_some, zq_143_4, if_pos (by decide), a1, zcV_some, zq_143_11, a2, zcV_some, zq_143_15, a3, zcV_some, zq_143_19, a4, zcV_some, zq_143_23, a5, zcV_some, zq_143_27, zl_90, zcI_some, zq_143_30, c5]
  · rw [b5 r h1 h2, b4 r h1 h2, b3 r h1 h2, b2 r h1 h2, b1 r h1 h2]
theorem zap5b {s : zQs} {I : Nat → Nat → Int32} {T : Nat} {x1 x2 x3 x4 x5 : Int32} (hT : T + 20 ≤ 200) (e : I 58 9 = nI T) : ∃ (J1 J2 J3 J4 J5 : Nat → Nat → Int32), (zf_189 [.ref 58, .int x1, .int x2, .int x3, .int x4, .int x5] (zMk (s, I)) = some (.int (nI (T + 20)), zMk (s, J5)) ∧ (∀ j, J5 58 j = if j = 9 then nI (T + 20) else I 58 j) ∧ ∀ r, r ≠ 58 → r ≠ 63 → J5 r = I r) ∧
    (∀ p, J1 63 p = if p = T + 3 then zby (zbn x1 0) else if p = T + 2 then zby (zbn x1 8) else if p = T + 1 then zby (zbn x1 16) else if p = T then zby (zbn x1 24) else I 63 p) ∧
    (∀ p, J2 63 p = if p = T + 4 + 3 then zby (zbn x2 0) else if p = T + 4 + 2 then zby (zbn x2 8) else if p = T + 4 + 1 then zby (zbn x2 16) else if p = T + 4 then zby (zbn x2 24) else J1 63 p) ∧
    (∀ p, J3 63 p = if p = T + 4 + 4 + 3 then zby (zbn x3 0) else if p = T + 4 + 4 + 2 then zby (zbn x3 8) else if p = T + 4 + 4 + 1 then zby (zbn x3 16) else if p = T + 4 + 4 then zby (zbn x3 24) else J2 63 p) ∧
    (∀ p, J4 63 p = if p = T + 4 + 4 + 4 + 3 then zby (zbn x4 0) else if p = T + 4 + 4 + 4 + 2 then zby (zbn x4 8) else if p = T + 4 + 4 + 4 + 1 then zby (zbn x4 16) else if p = T + 4 + 4 + 4 then zby (zbn x4 24) else J3 63 p) ∧
    (∀ p, J5 63 p = if p = T + 4 + 4 + 4 + 4 + 3 then zby (zbn x5 0) else if p = T + 4 + 4 + 4 + 4 + 2 then zby (zbn x5 8) else if p = T + 4 + 4 + 4 + 4 + 1 then zby (zbn x5 16) else if p = T + 4 + 4 + 4 + 4 then zby (zbn x5 24) else J4 63 p) := by
  obtain ⟨J1, a1, b1, c1, d1⟩ := zap2 (s := s) (x := x1) (show T + 4 ≤ 200 by omega) e
  obtain ⟨J2, a2, b2, c2, d2⟩ := zap2 (s := s) (I := J1) (x := x2) (show T + 4 + 4 ≤ 200 by omega) (by rw [c1]; simp)
  obtain ⟨J3, a3, b3, c3, d3⟩ := zap2 (s := s) (I := J2) (x := x3) (show T + 4 + 4 + 4 ≤ 200 by omega) (by rw [c2]; simp)
  obtain ⟨J4, a4, b4, c4, d4⟩ := zap2 (s := s) (I := J3) (x := x4) (show T + 4 + 4 + 4 + 4 ≤ 200 by omega) (by rw [c3]; simp)
  obtain ⟨J5, a5, b5, c5, d5⟩ := zap2 (s := s) (I := J4) (x := x5) (show T + 4 + 4 + 4 + 4 + 4 ≤ 200 by omega) (by rw [c4]; simp)
  have c6 : J5 58 9 = nI (T + 20) := by rw [c5, if_pos rfl]
  refine ⟨J1, J2, J3, J4, J5, ⟨?_, fun j => ?_, fun r h1 h2 => ?_⟩, d1, d2, d3, d4, d5⟩
  · rw [zqz_189, zq_189_0, e, show nI T + 20 = nI (T + 20) from nI_add T 20, if_pos (show nI (T + 20) ≤ 200 from nI_le hT (by decide)), a1, zcV_some, zq_189_11, a2, zcV_some, zq_189_14, a3, zcV_some, zq_189_17, a4, zcV_some, zq_189_20, a5, zcV_some, zq_189_23, c6]
  · by_cases hj : j = 9
    · subst hj; rw [c6, if_pos rfl]
    · rw [c5, if_neg hj, c4, if_neg hj, c3, if_neg hj, c2, if_neg hj, c1, if_neg hj, if_neg hj]
  · rw [b5 r h1 h2, b4 r h1 h2, b3 r h1 h2, b2 r h1 h2, b1 r h1 h2]
theorem zp_feed {s : zQs} {I : Nat → Nat → Int32} {st : zSt} (h : Rep st I) (x1 x2 x3 x4 x5 : Int32) : zPair s I st (zf_143 [.ref 0, .int x1, .int x2, .int x3, .int x4, .int x5]) (zf_189 [.ref 58, .int x1, .int x2, .int x3, .int x4, .int x5]) := by
  obtain ⟨⟨hv, ev⟩, ht, hk, hw, he, hf, hg, hta, hfa, hX⟩ := id h
  obtain ⟨hT, eT1, eT2, hb⟩ := id hta
  by_cases hr : st.T + 20 ≤ 200
  case neg =>
    refine zPair_same h (v := -1) ?_ ?_
    · rw [zqz_143, zq_143_0, zl_91, eT1, show nI st.T + 20 = nI (st.T + 20) from nI_add st.T 20, if_pos (show 200 < nI (st.T + 20) from nI_lt (a := 200) (by omega) (by omega)), zcI_some, zq_143_4, if_neg (by decide)]
    · rw [zqz_189, zq_189_0, eT2, show nI st.T + 20 = nI (st.T + 20) from nI_add st.T 20, if_neg (show ¬ nI (st.T + 20) ≤ 200 from nI_ge (a := 200) (by omega) (by omega))]
  obtain ⟨J1, J2, J3, J4, J, ⟨e, c, jk⟩, d1, d2, d3, d4, d5⟩ := zap5 (s := s) (x1 := x1) (x2 := x2) (x3 := x3) (x4 := x4) (x5 := x5) hr eT1
  obtain ⟨K1, K2, K3, K4, K, ⟨e', c', kk⟩, g1, g2, g3, g4, g5⟩ := zap5b (s := s) (I := J) (x1 := x1) (x2 := x2) (x3 := x3) (x4 := x4) (x5 := x5) hr (by rw [jk 58 (by decide) (by decide)]; exact eT2)
  have kj : ∀ r, r ≠ 30 → r ≠ 31 → r ≠ 58 → r ≠ 63 → K r = I r := fun r a1 a2 a3 a4 => (kk r a3 a4).trans (jk r a1 a2)
  have k8 : ∀ j, j ≠ 9 → K 58 j = I 58 j := fun j hj => by rw [c', if_neg hj, jk 58 (by decide) (by decide)]
  refine zPair_mk (I1 := J) ((st.T' (st.T + 20)).tb' (ztbx (ztbx (ztbx (ztbx (ztbx st.tb st.T x1) (st.T + 4) x2) (st.T + 4 + 4) x3) (st.T + 4 + 4 + 4) x4) (st.T + 4 + 4 + 4 + 4) x5)) (Or.inr ⟨rfl, rfl, rfl, rfl, rfl, rfl, rfl, rfl⟩) e e' ?_ ?_
  · refine ⟨?_, ?_, ?_, ?_, ?_, ?_, ?_, ?_, ?_, ?_⟩
    · rw [kj 1 (by decide) (by decide) (by decide) (by decide)]; exact ⟨hv, ev⟩
    · rw [kj 1 (by decide) (by decide) (by decide) (by decide), kj 2 (by decide) (by decide) (by decide) (by decide), kj 4 (by decide) (by decide) (by decide) (by decide), kj 5 (by decide) (by decide) (by decide) (by decide), kj 6 (by decide) (by decide) (by decide) (by decide), kj 59 (by decide) (by decide) (by decide) (by decide), kj 60 (by decide) (by decide) (by decide) (by decide), kj 61 (by decide) (by decide) (by decide) (by decide), kj 62 (by decide) (by decide) (by decide) (by decide), k8 0 (by decide), k8 1 (by decide), k8 2 (by decide)]; exact ht
    · rw [kj 1 (by decide) (by decide) (by decide) (by decide), k8 66 (by decide), k8 67 (by decide), k8 68 (by decide)]; exact hk
    · rw [kj 3 (by decide) (by decide) (by decide) (by decide), kj 93 (by decide) (by decide) (by decide) (by decide)]; exact hw
    · rw [kj 42 (by decide) (by decide) (by decide) (by decide), kj 43 (by decide) (by decide) (by decide) (by decide), kj 44 (by decide) (by decide) (by decide) (by decide), kj 45 (by decide) (by decide) (by decide) (by decide), kj 81 (by decide) (by decide) (by decide) (by decide), kj 82 (by decide) (by decide) (by decide) (by decide), kj 83 (by decide) (by decide) (by decide) (by decide), k8 37 (by decide)]; exact he
    · rw [kj 20 (by decide) (by decide) (by decide) (by decide), kj 21 (by decide) (by decide) (by decide) (by decide), kj 22 (by decide) (by decide) (by decide) (by decide), kj 23 (by decide) (by decide) (by decide) (by decide), kj 85 (by decide) (by decide) (by decide) (by decide), kj 86 (by decide) (by decide) (by decide) (by decide), kj 87 (by decide) (by decide) (by decide) (by decide), k8 42 (by decide)]; exact hf
    · rw [kj 20 (by decide) (by decide) (by decide) (by decide), kj 24 (by decide) (by decide) (by decide) (by decide), kj 25 (by decide) (by decide) (by decide) (by decide), kj 26 (by decide) (by decide) (by decide) (by decide), kj 88 (by decide) (by decide) (by decide) (by decide), kj 89 (by decide) (by decide) (by decide) (by decide), kj 90 (by decide) (by decide) (by decide) (by decide), k8 43 (by decide)]; exact hg
    · have b1 : cTape (st.T + 4) (ztbx st.tb st.T x1) (nI (st.T + 4)) (nI (st.T + 4)) (J1 31) (K1 63) := cTape_step hta (by omega) rfl rfl d1 (by rw [jk 63 (by decide) (by decide)] at g1; exact g1)
      have b2 := cTape_step (a' := nI (st.T + 4 + 4)) (b' := nI (st.T + 4 + 4)) b1 (by omega) rfl rfl d2 g2
      have b3 := cTape_step (a' := nI (st.T + 4 + 4 + 4)) (b' := nI (st.T + 4 + 4 + 4)) b2 (by omega) rfl rfl d3 g3
      have b4 := cTape_step (a' := nI (st.T + 4 + 4 + 4 + 4)) (b' := nI (st.T + 4 + 4 + 4 + 4)) b3 (by omega) rfl rfl d4 g4
      have b5 := cTape_step (a' := nI (st.T + 20)) (b' := nI (st.T + 20)) b4 (by omega) rfl rfl d5 g5
      have z1 : K 30 1 = nI (st.T + 20) := by rw [kk 30 (by decide) (by decide)]; exact c
      have z2 : K 58 9 = nI (st.T + 20) := by rw [c', if_pos rfl]
      have z3 : K 31 = J 31 := kk 31 (by decide) (by decide)
      rw [z1, z2, z3]
      exact b5
    · rw [kj 54 (by decide) (by decide) (by decide) (by decide), kj 55 (by decide) (by decide) (by decide) (by decide), kj 56 (by decide) (by decide) (by decide) (by decide), kj 57 (by decide) (by decide) (by decide) (by decide), kj 97 (by decide) (by decide) (by decide) (by decide), kj 98 (by decide) (by decide) (by decide) (by decide), kj 99 (by decide) (by decide) (by decide) (by decide), k8 59 (by decide)]; exact hfa
    · rw [kj 0 (by decide) (by decide) (by decide) (by decide), k8 3 (by decide)]; exact hX
  · refine ⟨fun k hk => ?_, k8 18 (by decide)⟩
    have hk : (8 ≤ k ∧ k ≤ 14) ∨ (17 ≤ k ∧ k ≤ 18) ∨ (34 ≤ k ∧ k ≤ 40) ∨ (70 ≤ k ∧ k ≤ 74) ∨ 103 ≤ k := hk
    exact kj k (by omega) (by omega) (by omega) (by omega)
