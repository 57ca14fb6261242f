/-! LAW, AS A CALL -/
theorem zEv_law {L L' : zLw} {st : zSt} {s s' : zQs} {I J : Nat → Nat → Int32} {v : Nat} (hE : zEv L st s I) (hv : v ≤ 1000000) (f1 : ∀ r, r ≠ 1 → r ≠ 30 → r ≠ 32 → r ≠ 33 → r ≠ 58 → ¬ (8 ≤ r ∧ r ≤ 14) → ¬ (34 ≤ r ∧ r ≤ 40) → ¬ (64 ≤ r ∧ r ≤ 74) → J r = I r) (f2 : ∀ j, j ≠ 12 → J 1 j = I 1 j) (f12 : J 1 12 = nI v) (f3 : ∀ j, (j < 9 ∨ 18 < j) → J 58 j = I 58 j) (hs1 : s'.1 = s.1) (hs2 : s'.2.1 = s.2.1) (hL : zLaw L' s' J) (hvv : v = st.V + 1 ∨ (v = st.V ∧ L' = L)) : zEv L' ((st.T' 0).V' v) s' J := by
  obtain ⟨⟨hv0, ht, hk, hw, he, hf, hg, -, hfa, -⟩, -, hy⟩ := hE
  have k := fun (r : Nat) (h : (2 ≤ r ∧ r ≤ 7) ∨ (15 ≤ r ∧ r ≤ 29) ∨ (41 ≤ r ∧ r ≤ 57) ∨ (59 ≤ r ∧ r ≤ 63) ∨ 75 ≤ r) => f1 r (by omega) (by omega) (by omega) (by omega) (by omega) (by omega) (by omega) (by omega)
  refine ⟨⟨⟨hv, f12⟩, ?_, ?_, ?_, ?_, ?_, ?_, trivial, ?_, trivial⟩, hL, ?_⟩
  · rw [f2 10 (by decide), f3 0 (by omega), f2 11 (by decide), f3 1 (by omega), f2 7 (by decide), f3 2 (by omega), k 2 (by omega), k 4 (by omega), k 5 (by omega), k 6 (by omega), k 59 (by omega), k 60 (by omega), k 61 (by omega), k 62 (by omega)]
    exact ht
  · rw [f2 8 (by decide), f2 9 (by decide), f3 66 (by omega), f3 67 (by omega), f3 68 (by omega)]
    exact hk
  · rw [k 3 (by omega), k 93 (by omega)]
    exact hw
  · rw [k 42 (by omega), f3 37 (by omega), k 43 (by omega), k 44 (by omega), k 45 (by omega), k 81 (by omega), k 82 (by omega), k 83 (by omega)]
    exact he
  · rw [k 20 (by omega), f3 42 (by omega), k 21 (by omega), k 22 (by omega), k 23 (by omega), k 85 (by omega), k 86 (by omega), k 87 (by omega)]
    exact hf
  · rw [k 20 (by omega), f3 43 (by omega), k 24 (by omega), k 25 (by omega), k 26 (by omega), k 88 (by omega), k 89 (by omega), k 90 (by omega)]
    exact hg
  · rw [k 54 (by omega), f3 59 (by omega), k 55 (by omega), k 56 (by omega), k 57 (by omega), k 97 (by omega), k 98 (by omega), k 99 (by omega)]
    exact hfa
  · obtain ⟨a, b, c, d, e⟩ := hy
    unfold zWy
    rw [hs1, hs2]
    refine ⟨a, b, c, d, fun i t hi hst => ?_⟩
    obtain ⟨w, w1, w2, w3⟩ := e i t hi hst
    have ht103 := (c i t hi hst).1
    rw [k 18 (by omega), k t (by omega)]
    rcases hvv with hvv | ⟨hvv, hLL⟩
    · exact ⟨w, by show w ≤ v; omega, w2, fun q => by have q : w = v := q; omega⟩
    · subst hLL
      refine ⟨w, by show w ≤ v; omega, w2, fun q => ?_⟩
      have q : w = v := q
      have r := w3 (by omega)
      intro x y hx hy
      rw [zcs_town (st := st) (st' := (st.T' 0).V' v) rfl rfl rfl rfl rfl]
      exact r x y hx hy
theorem zyF_le {e : Nat} (h : e < 100000) : zyF e ≤ 0 := by
  unfold zyF
  rw [Int32.le_iff_toInt_le, Int32.toInt_sub, nI_toInt (show e < 2 ^ 31 by omega), show (0 : Int32).toInt = 0 from rfl, Int.bmod_eq_of_le (by omega) (by omega)]
  omega
theorem zp_law {L : zLw} {st : zSt} {s : zQs} {I : Nat → Nat → Int32} (hE : zEv L st s I) (hx : zXx st I) (hV : st.V < 1000000) (x1 : Int32) : zPr L st s I (zf_144 [.ref 0, .int x1]) (zf_210 [.ref 58, .int x1]) := by
  by_cases h0 : x1 < 1
  · refine zPr_same hE (v := -1) ?_ ?_
    · rw [zqz_144, zq_144_0, if_pos h0]
    · rw [zqz_210, zq_210_0, zl_179, if_pos h0, zcI_some, zq_210_4, if_pos rfl]
  by_cases h160 : (160 : Int32) < x1
  · refine zPr_same hE (v := -1) ?_ ?_
    · rw [zqz_144, zq_144_0, if_neg h0, if_pos h160]
    · rw [zqz_210, zq_210_0, zl_179, if_neg h0, if_pos h160, zcI_some, zq_210_4, if_pos rfl]
  obtain ⟨n, n1, n2, rfl⟩ := zin1 (n := 160) (by decide) h0 h160
  obtain ⟨⟨hX, x1a, x1b⟩, hT200, t30, t58, htb⟩ := id hx
  have st10 : zf_144 [.ref 0, .int (nI n)] (zMk (s, I)) = zQ_144 (10, [.ref 0, .int (nI n), .long 0], [.int (nI st.T), .int (nI n)], zMk (s, I)) := by
    rw [zqz_144, zq_144_0, if_neg h0, if_neg h160, zl_90, t30, zcI_some]
  by_cases hT : n ≤ st.T
  case neg =>
    refine zPr_same hE (v := -1) ?_ ?_
    · rw [st10, zq_144_10, if_neg (nI_ge (by omega) (by omega))]
    · rw [zqz_210, zq_210_0, zl_179, if_neg h0, if_neg h160, zcI_some, zq_210_4, if_neg (by decide), t58, if_neg (nI_ge (by omega) (by omega))]
  have hlaw := hE.2.1
  obtain ⟨lw, lr, lc⟩ := id hlaw
  have hO : s.2.2.2 = 8 ∨ s.2.2.2 = 34 := by rcases lc with ⟨-, b, -⟩ | ⟨-, b, -⟩ <;> omega
  obtain ⟨J1, e1, hC, hM, hVV⟩ := zf57 (s := s) (O := s.2.2.2) (T := st.tb) (n := n) (tp := st.T) (I := I) rfl hO n2 hT hT200 (fun j hj => (htb j (by omega)).1) t30 (fun j hj => (htb j (by omega)).2.1)
  have he := hC.2.2.2.2.2.2.2.1
  have rV := fun (r : Nat) (h : r < 8 ∨ (15 ≤ r ∧ r < 32) ∨ 41 ≤ r) => hVV r (by omega) (by omega) (by omega)
  have h63 : ∀ i, i < n → st.tb i < 256 ∧ I 63 i = zby (st.tb i) := fun i hi => ⟨(htb i (by omega)).1, (htb i (by omega)).2.2⟩
  have c19 : zf_144 [.ref 0, .int (nI n)] (zMk (s, I)) = zQ_144 (23, [.ref 0, .int (nI n), .int (if (zylw st.tb n).s.e = 0 then nI (zylw st.tb n).n else zyF (zylw st.tb n).s.e)], [], zMk (s, zwA J1 30 (upd (J1 30) 1 0))) := by
    rw [st10, zq_144_10, if_pos (nI_le hT (by omega)), e1, zcI_some, zq_144_19, zl_95, zcV_some]
  by_cases q : (zylw st.tb n).s.e = 0
  case neg =>
    -- the text is at fault
    obtain ⟨J3, e3, f1, f2, f3, -, f5⟩ := zf210r (s := s) (T := st.tb) (n := n) (tp := st.T) (I := zwA J1 30 (upd (J1 30) 1 0)) n1 n2 hT hT200 (by rw [zwA_n (by decide), rV 63 (by omega)]; exact h63) (by rw [zwA_n (by decide), rV 58 (by omega)]; exact t58)
    obtain ⟨f6, f7⟩ := f5 q
    have all : ∀ r, r ≠ 30 → r ≠ 32 → r ≠ 33 → r ≠ 58 → (r < 64 ∨ 69 < r) → (r < s.2.2.2 ∨ s.2.2.2 + 6 < r) → J3 r = I r := fun r a b c d e g => by
      by_cases w : 70 ≤ r ∧ r ≤ 74
      · rw [f6 r w.1 w.2, zwA_n a, hVV r b c g]
      · rw [f1 r d (by omega), zwA_n a, hVV r b c g]
    have hL3 : zLaw L s J3 := by
      refine ⟨lw, ?_, ?_⟩
      · rw [f7, zwA_n (by decide), rV 58 (by omega), all 70 (by omega) (by omega) (by omega) (by omega) (by omega) (by omega), all 71 (by omega) (by omega) (by omega) (by omega) (by omega) (by omega), all 72 (by omega) (by omega) (by omega) (by omega) (by omega) (by omega), all 73 (by omega) (by omega) (by omega) (by omega) (by omega) (by omega), all 74 (by omega) (by omega) (by omega) (by omega) (by omega) (by omega)]
        exact lr
      · rcases lc with ⟨a, b, c⟩ | ⟨a, b, c⟩
        · refine Or.inl ⟨a, b, ?_⟩
          have g := fun (r : Nat) (h1 : 8 ≤ r) (h2 : r ≤ 14) => all r (by omega) (by omega) (by omega) (by omega) (by omega) (by omega)
          rw [g 8 (by omega) (by omega), g 9 (by omega) (by omega), g 10 (by omega) (by omega), g 11 (by omega) (by omega), g 12 (by omega) (by omega), g 13 (by omega) (by omega), g 14 (by omega) (by omega)]
          exact c
        · refine Or.inr ⟨a, b, ?_⟩
          have g := fun (r : Nat) (h1 : 34 ≤ r) (h2 : r ≤ 40) => all r (by omega) (by omega) (by omega) (by omega) (by omega) (by omega)
          rw [g 34 (by omega) (by omega), g 35 (by omega) (by omega), g 36 (by omega) (by omega), g 37 (by omega) (by omega), g 38 (by omega) (by omega), g 39 (by omega) (by omega), g 40 (by omega) (by omega)]
          exact c
    have one : J3 1 = I 1 := all 1 (by omega) (by omega) (by omega) (by omega) (by omega) (by omega)
    have five : ∀ j, (j < 9 ∨ 18 < j) → J3 58 j = I 58 j := fun j hj => by rw [f2 j hj, zwA_n (by decide), rV 58 (by omega)]
    rw [if_neg q] at e3 c19
    refine ⟨zyF (zylw st.tb n).s.e, s, zwA J1 30 (upd (J1 30) 1 0), s, J3, L, (st.T' 0).V' st.V, ?_, e3, ?_, fun _ => ?_, Nat.le_succ _⟩
    · rw [c19, zq_144_23, if_pos (zyF_le he), zq_144_34]
    · exact zEv_law hE (by omega) (fun r a b c d e _ _ g => by
        by_cases w : r < s.2.2.2 ∨ s.2.2.2 + 6 < r
        · exact all r b c d e (by omega) w
        · omega) (fun j _ => by rw [one]) (by rw [one]; exact hE.1.1.2) five rfl rfl hL3 (Or.inr ⟨rfl, rfl⟩)
    · refine ⟨⟨hX, by rw [all 0 (by omega) (by omega) (by omega) (by omega) (by omega) (by omega)]; exact x1a, by rw [five 3 (by omega)]; exact x1b⟩, Nat.zero_le _, ?_, f3, fun j hj => absurd hj (Nat.not_lt_zero j)⟩
      rw [f1 30 (by decide) (by omega), zwA_s, upd_at, if_pos rfl]
      rfl
  -- the text is a law
  have hTn : ∀ S, zyn st.tb n S < 256 ∨ zyn st.tb n S = 1000 := fun S => by
    unfold zyn
    by_cases hp : S.p < n
    · rw [if_pos hp]; exact Or.inl (h63 _ hp).1
    · rw [if_neg hp]; exact Or.inr rfl
  obtain ⟨wf, c1⟩ := zyWf_lw hTn n2 q
  have c12 : (zylw st.tb n).n ≤ 12 := hM.1
  have hwf := zyL_wf n2 c12 wf
  have v1 : J1 1 12 = nI st.V := by rw [rV 1 (by omega)]; exact hE.1.1.2
  obtain ⟨J2, hJ2⟩ : ∃ J2 : Nat → Nat → Int32, J2 = zwA (zwA J1 30 (upd (J1 30) 1 0)) 1 (upd (J1 1) 12 (nI (st.V + 1))) := ⟨_, rfl⟩
  have j2r : ∀ r, r ≠ 1 → r ≠ 30 → J2 r = J1 r := fun r a b => by rw [hJ2, zwA_n a, zwA_n b]
  have j21 : J2 1 = upd (J1 1) 12 (nI (st.V + 1)) := by rw [hJ2, zwA_s]
  have j230 : J2 30 = upd (J1 30) 1 0 := by rw [hJ2, zwA_n (by decide), zwA_s]
  have cls : zf_144 [.ref 0, .int (nI n)] (zMk (s, I)) = some (.int (nI (zylw st.tb n).n), zMk ((s.1, s.2.1, s.2.2.2, s.2.2.1), J2)) := by
    rw [c19, if_pos q, zq_144_23, if_neg (show ¬ nI (zylw st.tb n).n ≤ 0 from nI_ge (a := 0) (by omega) (by omega)), zl_108, zcR_some, zq_144_32, zqz_58, zq_58_0, zMk_draft, zq_58_6, zcR_some, zq_144_33, zqz_109, zq_109_0, zMk_law, zq_109_3, zcV_some, zq_144_34, zwA_n (show (1 : Nat) ≠ 30 by decide), v1, nI_1, hJ2]
  obtain ⟨J3, e3, f1, f2, f3, f4, -⟩ := zf210r (s := (s.1, s.2.1, s.2.2.2, s.2.2.1)) (T := st.tb) (n := n) (tp := st.T) (I := J2) n1 n2 hT hT200 (by rw [j2r 63 (by decide) (by decide), rV 63 (by omega)]; exact h63) (by rw [j2r 58 (by decide) (by decide), rV 58 (by omega)]; exact t58)
  rw [if_pos q] at e3
  have hLR := f4 q
  have own : ∀ r, s.2.2.2 ≤ r → r ≤ s.2.2.2 + 6 → J3 r = J1 r := fun r a b => by rw [f1 r (by omega) (by omega), j2r r (by omega) (by omega)]
  have hL3 : zLaw (zyL (zylw st.tb n)) (s.1, s.2.1, s.2.2.2, s.2.2.1) J3 := by
    refine ⟨hwf, hLR, ?_⟩
    have hLC := zyL_C hC hM
    rcases lc with ⟨a, b, -⟩ | ⟨a, b, -⟩
    · refine Or.inr ⟨b, a, ?_⟩
      rw [b] at hLC own
      rw [own 34 (by omega) (by omega), own 35 (by omega) (by omega), own 36 (by omega) (by omega), own 37 (by omega) (by omega), own 38 (by omega) (by omega), own 39 (by omega) (by omega), own 40 (by omega) (by omega)]
      exact hLC
    · refine Or.inl ⟨b, a, ?_⟩
      rw [b] at hLC own
      rw [own 8 (by omega) (by omega), own 9 (by omega) (by omega), own 10 (by omega) (by omega), own 11 (by omega) (by omega), own 12 (by omega) (by omega), own 13 (by omega) (by omega), own 14 (by omega) (by omega)]
      exact hLC
  have five : ∀ j, (j < 9 ∨ 18 < j) → J3 58 j = I 58 j := fun j hj => by rw [f2 j hj, j2r 58 (by decide) (by decide), rV 58 (by omega)]
  refine ⟨nI (zylw st.tb n).n, (s.1, s.2.1, s.2.2.2, s.2.2.1), J2, (s.1, s.2.1, s.2.2.2, s.2.2.1), J3, zyL (zylw st.tb n), (st.T' 0).V' (st.V + 1), cls, e3, ?_, fun _ => ?_, Nat.le_refl _⟩
  · refine zEv_law hE (by omega) (fun r a b c d e g1 g2 g3 => ?_) (fun j hj => ?_) ?_ five rfl rfl hL3 (Or.inl rfl)
    · rw [f1 r e (by omega), j2r r a b, hVV r c d (by omega)]
    · rw [f1 1 (by decide) (by omega), j21, upd_at, if_neg hj, rV 1 (by omega)]
    · rw [f1 1 (by decide) (by omega), j21, upd_at, if_pos rfl]
  · refine ⟨⟨hX, by rw [f1 0 (by decide) (by omega), j2r 0 (by decide) (by decide), rV 0 (by omega)]; exact x1a, by rw [five 3 (by omega)]; exact x1b⟩, Nat.zero_le _, ?_, f3, fun j hj => absurd hj (Nat.not_lt_zero j)⟩
    rw [f1 30 (by decide) (by omega), j230, upd_at, if_pos rfl]
    rfl
