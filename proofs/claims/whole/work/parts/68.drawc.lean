/-! DRAW, AS A CALL -/
theorem zEv_dr {L : zLw} {st : zSt} {s : zQs} {I J : Nat → Nat → Int32} (h : zEv L st s I) (h1 : ∀ r, r ≠ 0 → r ≠ 58 → J r = I r) (h2 : ∀ j, j ≠ 3 → J 58 j = I 58 j) : zEv L st s J := by
  obtain ⟨⟨hv, ht, hk, hw, he, hf, hg, -, hfa, -⟩, hL, hy⟩ := h
  have kp : zkeep I J := ⟨fun k hk => by
    have hk : (8 ≤ k ∧ k ≤ 14) ∨ (17 ≤ k ∧ k ≤ 18) ∨ (34 ≤ k ∧ k ≤ 40) ∨ (70 ≤ k ∧ k ≤ 74) ∨ 103 ≤ k := hk
    exact h1 k (by omega) (by omega), h2 18 (by decide)⟩
  have r := fun k (a : k ≠ 0 ∧ k ≠ 58) => h1 k a.1 a.2
  refine ⟨⟨?_, ?_, ?_, ?_, ?_, ?_, ?_, trivial, ?_, trivial⟩, zLaw_keep hL kp, zWy_keep hy kp (zvers_rfl st)⟩
  · rw [r 1 (by decide)]; exact hv
  · rw [r 1 (by decide), h2 0 (by decide), h2 1 (by decide), h2 2 (by decide), r 2 (by decide), r 4 (by decide), r 5 (by decide), r 6 (by decide), r 59 (by decide), r 60 (by decide), r 61 (by decide), r 62 (by decide)]; exact ht
  · rw [r 1 (by decide), h2 66 (by decide), h2 67 (by decide), h2 68 (by decide)]; exact hk
  · rw [r 3 (by decide), r 93 (by decide)]; exact hw
  · rw [r 42 (by decide), h2 37 (by decide), r 43 (by decide), r 44 (by decide), r 45 (by decide), r 81 (by decide), r 82 (by decide), r 83 (by decide)]; exact he
  · rw [r 20 (by decide), h2 42 (by decide), r 21 (by decide), r 22 (by decide), r 23 (by decide), r 85 (by decide), r 86 (by decide), r 87 (by decide)]; exact hf
  · rw [r 20 (by decide), h2 43 (by decide), r 24 (by decide), r 25 (by decide), r 26 (by decide), r 88 (by decide), r 89 (by decide), r 90 (by decide)]; exact hg
  · rw [r 54 (by decide), h2 59 (by decide), r 55 (by decide), r 56 (by decide), r 57 (by decide), r 97 (by decide), r 98 (by decide), r 99 (by decide)]; exact hfa
theorem zEv_X {L : zLw} {st : zSt} {s : zQs} {I : Nat → Nat → Int32} (h : zEv L st s I) (x : Nat) : zEv L (st.X' x) s I := ⟨h.1, h.2.1, zWy_keep h.2.2 (zkeep_rfl I) (Or.inr ⟨rfl, rfl, rfl, rfl, rfl, rfl, rfl, rfl⟩)⟩
theorem zXx_dr {st : zSt} {I J1 J2 J3 J4 : Nat → Nat → Int32} {x : Nat} (h : zXx st I) (a1 : ∀ r, r ≠ 0 → J1 r = I r) (a2 : J1 0 10 = nI x) (b : zXe J1 J2) (c1 : ∀ r, r ≠ 58 → J3 r = J2 r) (c2 : ∀ j, j ≠ 3 → J3 58 j = J2 58 j) (c3 : J3 58 3 = nI x) (d : zXe J3 J4) (hx : x ≤ 65535) : zXx (st.X' x) J4 := by
  refine ⟨⟨hx, ?_, d.2.1.trans c3⟩, ?_⟩
  · rw [d.1, c1 0 (by decide), b.1]; exact a2
  · rw [d.2.2.1, d.2.2.2.1, d.2.2.2.2.1, d.2.2.2.2.2, c1 30 (by decide), c2 9 (by decide), c1 31 (by decide), c1 63 (by decide), b.2.2.1, b.2.2.2.1, b.2.2.2.2.1, b.2.2.2.2.2, a1 30 (by decide), a1 58 (by decide), a1 31 (by decide), a1 63 (by decide)]
    exact h.2
theorem zdr_Es {st : zSt} : ∀ d x t, zEs st t → zEs st (zdr st.E d (x, t)).2
  | 0, _, _, h => h
  | d + 1, x, t, h => by
    rw [zdr_s]
    refine zdr_Es d _ _ ?_
    have h8 : znx x % 8 < 8 := Nat.mod_lt _ (by decide)
    split
    · rename_i hb
      refine ⟨xor_lt h.1 h8, fun i hi hq => ?_⟩
      rw [Nat.testBit_xor, Nat.testBit_two_pow] at hq
      by_cases hj : znx x % 8 = i
      · rw [← hj]; exact hb
      · have : decide (znx x % 8 = i) = false := decide_eq_false hj
        rw [this] at hq
        exact h.2 i hi (by simpa using hq)
    · exact h
theorem zin1 {x : Int32} {n : Nat} (hn : n < 2 ^ 31) (a : ¬ x < 1) (b : ¬ nI n < x) : ∃ k, 1 ≤ k ∧ k ≤ n ∧ x = nI k := by
  have h0 : ¬ x < 0 := fun q => a (Int32.lt_trans q (by decide))
  obtain ⟨k, hk, rfl⟩ := (zin_iff hn).mpr ⟨h0, b⟩
  refine ⟨k, ?_, hk, rfl⟩
  cases k with
  | zero => exact absurd (show nI 0 < (1 : Int32) by decide) a
  | succ k => omega
theorem zp_draw {L : zLw} {st : zSt} {s : zQs} {I : Nat → Nat → Int32} (hE : zEv L st s I) (hx : zXx st I) (x1 x2 x3 : Int32) : zPr L st s I (zf_166 [.ref 0, .int x1, .int x2, .int x3]) (zf_269 [.ref 58, .int x1, .int x2, .int x3]) := by
  have hP := zEv_P hE.1
  have p1 := zEv_p1 hE.1
  have p2 := zEv_p2 hE.1
  have hsm := zEv_small (L := L) (s := s) hE.1
  obtain ⟨g1, g2, g3, hee⟩ := hE.1.2.2.2.2.1
  by_cases h1 : zlt x1 st.P
  case neg =>
    refine zPr_same hE (v := -1) ?_ ?_
    · rw [zqz_166, zq_166_0, isP1_f p1 hP h1, zcI_some, zq_166_4, if_pos rfl]
    · rw [zqz_269, zq_269_0, isP2_f p2 hP h1, zcI_some, zq_269_3, if_pos rfl]
  by_cases h2 : x2 < 1
  case pos =>
    refine zPr_same hE (v := -1) ?_ ?_
    · rw [zqz_166, zq_166_0, isP1_t p1 hP h1, zcI_some, zq_166_4, if_neg (by decide), if_pos h2]
    · rw [zqz_269, zq_269_0, isP2_t p2 hP h1, zcI_some, zq_269_3, if_neg (by decide), zl_179, if_pos h2, zcI_some, zq_269_8, if_pos rfl]
  by_cases h2b : 20 < x2
  case pos =>
    refine zPr_same hE (v := -1) ?_ ?_
    · rw [zqz_166, zq_166_0, isP1_t p1 hP h1, zcI_some, zq_166_4, if_neg (by decide), if_neg h2, if_pos h2b]
    · rw [zqz_269, zq_269_0, isP2_t p2 hP h1, zcI_some, zq_269_3, if_neg (by decide), zl_179, if_neg h2, if_pos h2b, zcI_some, zq_269_8, if_pos rfl]
  by_cases h3 : zin x3 1
  case neg =>
    refine zPr_same hE (v := -1) ?_ ?_
    · rw [zqz_166, zq_166_0, isP1_t p1 hP h1, zcI_some, zq_166_4, if_neg (by decide), if_neg h2, if_neg h2b, wi_f (m := 1) 1 rfl (by decide) h3, zcI_some, zq_166_14, if_neg (not_not_intro rfl)]
    · rw [zqz_269, zq_269_0, isP2_t p2 hP h1, zcI_some, zq_269_3, if_neg (by decide), zl_179, if_neg h2, if_neg h2b, zcI_some, zq_269_8, if_neg (by decide), in_f (m := 1) 1 rfl (by decide) h3, zcI_some, zq_269_13, if_neg (not_not_intro rfl)]
  obtain ⟨n, hn1, hn, rfl⟩ := zin1 (n := 20) (by decide) h2 h2b
  obtain ⟨J1, e1, j1, j2, j3, j4⟩ := zlp174 s hn g1 n 0 st.X 0 I (Nat.zero_add _) hx.1.1 (by decide) hx.1.2.1 g2
  have hX : zEs st (zdr st.E n (st.X, 0)).2 := zdr_Es n st.X 0 ⟨by decide, fun i _ hb => by rw [Nat.zero_testBit] at hb; cases hb⟩
  have lp := fun (I' : Nat → Nat → Int32) (s' : zQs) (h3 : I' 58 3 = nI st.X) (h37 : I' 58 37 = nI st.E) => zlp269 s' x1 x3 hn g1 n 0 st.X 0 I' (Nat.zero_add _) hx.1.1 (by decide) h3 h37
  have f174 : zf_174 [.ref 0, .int (nI n)] (zMk (s, I)) = some (.int (nI (zdr st.E n (st.X, 0)).2), zMk (s, J1)) := by
    rw [zqz_174, zq_174_0]
    exact e1
  generalize (zdr st.E n (st.X, 0)).2 = T at f174 hX lp
  generalize (zdr st.E n (st.X, 0)).1 = x' at j2 j3 lp
  have hE1 : zEv L st s J1 := zEv_dr hE (fun r hr _ => j1 r hr) (fun j _ => by rw [j1 58 (by decide)])
  have c20 : zf_166 [.ref 0, .int x1, .int (nI n), .int x3] (zMk (s, I)) = zQ_166 (20, [.ref 0, .int x1, .int (nI n), .int x3, .long 0], [.int (nI T)], zMk (s, J1)) := by
    rw [zqz_166, zq_166_0, isP1_t p1 hP h1, zcI_some, zq_166_4, if_neg (by decide), if_neg h2, if_neg h2b, wi_t (m := 1) 1 rfl (by decide) h3, zcI_some, zq_166_14, if_pos (by decide), f174, zcI_some]
  have r20 : ∀ (I' : Nat → Nat → Int32) (s' : zQs), I' 58 0 = nI st.P → zf_269 [.ref 58, .int x1, .int (nI n), .int x3] (zMk (s', I')) = zQ_269 (20, [.ref 58, .int x1, .int (nI n), .int x3, .int 0, .int 0], [], zMk (s', I')) := fun I' s' h => by
    rw [zqz_269, zq_269_0, isP2_t h hP h1, zcI_some, zq_269_3, if_neg (by decide), zl_179, if_neg h2, if_neg h2b, zcI_some, zq_269_8, if_neg (by decide), in_t (m := 1) 1 rfl (by decide) h3, zcI_some, zq_269_13, if_pos (by decide)]
  by_cases h0 : x3 = 0
  · obtain ⟨J2, e2, k1, k2, k3⟩ := lp J1 s (by rw [j1 58 (by decide)]; exact hx.1.2.2) (by rw [j1 58 (by decide)]; exact g3)
    have hE2 : zEv L st s J2 := zEv_dr hE1 (fun r _ hr => k1 r hr) k2
    refine ⟨nI T, s, J1, s, J2, L, st.X' x', ?_, ?_, zEv_X hE2 x', fun q => zXx_dr q j1 j2 ⟨rfl, rfl, rfl, rfl, rfl, rfl⟩ k1 k2 k3 ⟨rfl, rfl, rfl, rfl, rfl, rfl⟩ j3, Nat.le_succ _⟩
    · rw [c20, zq_166_20, if_pos h0]
    · rw [r20 J1 s (zEv_p2 hE1.1)]
      refine e2.trans ?_
      rw [zq_269_20, if_pos (nI_le (Nat.le_refl _) (by omega)), if_neg (not_not_intro h0)]
  obtain ⟨a, ha, rfl⟩ := h1
  have hc : ∃ s1 J2 v, zf_166 [.ref 0, .int (nI a), .int (nI n), .int x3] (zMk (s, I)) = some (.int v, zMk (s1, J2)) ∧ zEv L st s1 J2 ∧ zXe J1 J2 ∧ v = zans (zrnd0 L st T a) := by
    by_cases hT : T = 0
    · refine ⟨s, J1, nI T, ?_, hE1, ⟨rfl, rfl, rfl, rfl, rfl, rfl⟩, ?_⟩
      · rw [c20, zq_166_20, if_neg h0, if_neg (not_not_intro (by rw [hT]; rfl))]
      · unfold zrnd0
        rw [if_pos hT, hT]
        rfl
    · obtain ⟨s1, J2, e2, hE2, hF2, cv, hs1⟩ := zf77 hX hE1
      obtain ⟨J3, e81, sc3', -⟩ := zf81 hX hT ha hE2 hF2
      have sc3 : zScr J2 J3 := zScr_1 (k := 47) rfl sc3'
      have hle : ∀ x, zrs L st T a 0 a = some x → x ≤ 48635136 := fun x hx => zrs_le hsm hP (zEs_ea hE.1 hX) ha ha hx
      refine ⟨s1, J3, zans (zrs L st T a 0 a), ?_, zEv_Scr hE2 sc3, zXe_tr (zXe_Cv cv) (zXe_Scr sc3), ?_⟩
      · have hnT : ¬ nI T = 0 := nI_ne (b := 0) (by have := hX.1; omega) (by have := hX.1; omega) (by decide)
        rw [c20, zq_166_20, if_neg h0, if_pos hnT, e2, zcV_some, zq_166_31, e81, zcI_some, zq_166_36, zcnk_ans (zcnk_1 (fun x hx => by have := hle x hx; omega)) (by decide) (B := 48635136) (by decide) hle, zcI_some, zq_166_37]
      · unfold zrnd0
        rw [if_neg hT]
  obtain ⟨s1, J2, v, ec, hE2, xe2, rfl⟩ := hc
  obtain ⟨J3, e3, k1, k2, k3⟩ := lp J2 s1 (by rw [xe2.2.1, j1 58 (by decide)]; exact hx.1.2.2) hE2.1.2.2.2.2.1.2.2.1
  have hE3 : zEv L st s1 J3 := zEv_dr hE2 (fun r _ hr => k1 r hr) k2
  obtain ⟨J4, e4, sc4, hR4, -⟩ := zbegins hE3
  obtain ⟨J5, e5, sc5, hR5, -⟩ := zf230 hX ha hR4
  refine ⟨zans (zrnd0 L st T a), s1, J2, s1, J5, L, st.X' x', ec, ?_, zEv_X (zEv_Scr hE3 (zScr_tr sc4 sc5)) x', fun q => zXx_dr q j1 j2 xe2 k1 k2 k3 (zXe_Scr (zScr_tr sc4 sc5)) j3, Nat.le_succ _⟩
  rw [r20 J2 s1 (zEv_p2 hE2.1)]
  refine e3.trans ?_
  rw [zq_269_20, if_pos (nI_le (Nat.le_refl _) (by omega)), if_pos h0, e4, zcV_some, zq_269_61, e5, zcI_some, zq_269_65]
  cases hz : zrnd0 L st T a with
  | none => rw [if_neg (show ¬ nI (zR1 none) < (1000000000 : Int32) by decide)]; rfl
  | some y =>
    have hy : y ≤ 48635136 := by
      unfold zrnd0 at hz
      by_cases hT : T = 0
      · rw [if_pos hT] at hz
        have := Option.some.inj hz
        omega
      · rw [if_neg hT] at hz
        exact zrs_le hsm hP (zEs_ea hE.1 hX) ha ha hz
    rw [if_pos (show nI (zR1 (some y)) < (1000000000 : Int32) from nI_lt (b := 1000000000) (show y < 1000000000 by omega) (by decide))]
    rfl
