/-! SHOP: THE REFERENCE'S CHOICE; THE CALL -/
theorem nI_lor {a b : Nat} (ha : a < 2 ^ 31) (hb : b < 2 ^ 31) : nI a ||| nI b = nI (a ||| b) := by
  have hc : a ||| b < 2 ^ 31 := Nat.or_lt_two_pow ha hb
  apply Int32.toBitVec_inj.mp
  apply BitVec.eq_of_toNat_eq
  show (BitVec.ofNat 32 a ||| BitVec.ofNat 32 b).toNat = (BitVec.ofNat 32 (a ||| b)).toNat
  rw [BitVec.toNat_or, BitVec.toNat_ofNat, BitVec.toNat_ofNat, BitVec.toNat_ofNat, Nat.mod_eq_of_lt (show a < 2 ^ 32 by omega), Nat.mod_eq_of_lt (show b < 2 ^ 32 by omega), Nat.mod_eq_of_lt (show a ||| b < 2 ^ 32 by omega)]
theorem bit_three {a b c : Nat} (ha : a < 20) (hb : b < 20) (hc : c < 20) : (((1 : Int32) <<< (nI a &&& 31)) ||| ((1 : Int32) <<< (nI b &&& 31))) ||| ((1 : Int32) <<< (nI c &&& 31)) = nI (2 ^ a ||| 2 ^ b ||| 2 ^ c) ∧ 2 ^ a ||| 2 ^ b ||| 2 ^ c < 2 ^ 20 ∧ ∀ p, (2 ^ a ||| 2 ^ b ||| 2 ^ c).testBit p = zin3 a b c p := by
  have hsh : ∀ P, P < 20 → (1 : Int32) <<< (nI P &&& 31) = nI (2 ^ P) := by decide +kernel
  have hp : ∀ x, x < 20 → 2 ^ x < 2 ^ 20 := fun x hx => Nat.pow_lt_pow_right (by decide) hx
  have h1 := hp a ha
  have h2 := hp b hb
  have h3 := hp c hc
  have h4 : 2 ^ a ||| 2 ^ b < 2 ^ 20 := Nat.or_lt_two_pow h1 h2
  refine ⟨?_, Nat.or_lt_two_pow h4 h3, fun p => ?_⟩
  · rw [hsh a ha, hsh b hb, hsh c hc, nI_lor (by omega) (by omega), nI_lor (by omega) (by omega)]
  · rw [Nat.testBit_or, Nat.testBit_or, Nat.testBit_two_pow, Nat.testBit_two_pow, Nat.testBit_two_pow]
    by_cases q1 : a = p
    · simp [zin3, q1]
    · by_cases q2 : b = p
      · simp [zin3, q2]
      · by_cases q3 : c = p
        · simp [zin3, q3]
        · have : zin3 a b c p = false := decide_eq_false (by rintro (rfl | rfl | rfl) <;> simp_all)
          rw [this]
          simp [q1, q2, q3]
theorem zlp254c {L : zLw} {st : zSt} {s : zQs} {n a b hi : Nat} {x2 : Int32} (ha : a < st.P) (hb : b < st.P) (hn : n ≤ 3) (hh : hi = zh3 n st.P b) : ∀ m c (I : Nat → Nat → Int32) (v y4 y5 y6 : Int32) (q : Option (Nat × Nat × Nat × Nat)) (x10 : Value), c + m = hi → zRe L st s I → zqI st.P 3039696 1000000000 q v y4 y5 y6 →
    ∃ J v' z4 z5 z6 x10', zQ_254 (63, [.ref 58, .int (nI n), .int x2, .int v, .int y4, .int y5, .int y6, .int (nI a), .int (nI b), .int (nI c), x10], [], zMk (s, I)) = zQ_254 (43, [.ref 58, .int (nI n), .int x2, .int v', .int z4, .int z5, .int z6, .int (nI a), .int (nI (b + 1)), .int (nI hi), x10'], [], zMk (s, J)) ∧ zRs I J ∧ zRe L st s J ∧ zqI st.P 3039696 1000000000 (zlc L st a b m c q) v' z4 z5 z6
  | 0, c, I, v, y4, y5, y6, q, x10, h, hE, hq => by
    have hP := zEv_P hE.1
    have h : c = hi := by omega
    refine ⟨I, v, y4, y5, y6, x10, ?_, zRs_rfl I, hE, hq⟩
    have e73 : ∀ y0, y0 = nI hi → zQ_254 (73, [.ref 58, .int (nI n), .int x2, .int v, .int y4, .int y5, .int y6, .int (nI a), .int (nI b), .int (nI c), x10], [.int y0, .int (nI c)], zMk (s, I)) = zQ_254 (43, [.ref 58, .int (nI n), .int x2, .int v, .int y4, .int y5, .int y6, .int (nI a), .int (nI (b + 1)), .int (nI hi), x10], [], zMk (s, I)) := fun y0 e => by
      rw [zq_254_73, e, h, if_pos (nI_le (Nat.le_refl _) (by rw [hh]; unfold zh3; split <;> omega)), nI_1]
    rw [zq_254_63]
    by_cases c2 : n ≤ 2
    · rw [if_pos (show nI n ≤ (2 : Int32) from nI_le (b := 2) c2 (by decide)), nI_1]
      exact e73 _ (by rw [hh, show zh3 n st.P b = b + 1 from if_pos c2])
    · rw [if_neg (show ¬ nI n ≤ (2 : Int32) from nI_ge (a := 2) (by omega) (by omega)), zEv_p2 hE.1]
      exact e73 _ (by rw [hh, show zh3 n st.P b = st.P from if_neg c2])
  | m + 1, c, I, v, y4, y5, y6, q, x10, h, hE, hq => by
    have hP := zEv_P hE.1
    have hhP : hi ≤ st.P := by rw [hh]; unfold zh3; split <;> omega
    have hc : c < st.P := by omega
    obtain ⟨u1, u2⟩ := zqI_up (L := L) (s := s) hE.1 (by decide) hq ha hb hc
    obtain ⟨t1, t2, t3⟩ := bit_three (show a < 20 by omega) (show b < 20 by omega) (show c < 20 by omega)
    obtain ⟨J1, e1, k1, k2⟩ := zf252 t2 hE
    rw [zmk_cg (T := zin3 a b c) (fun p _ => t3 p)] at e1
    have e1 : zf_252 [.ref 58, .int (nI (2 ^ a ||| 2 ^ b ||| 2 ^ c))] (zMk (s, I)) = some (.int (nI (zk3 L st a b c)), zMk (s, J1)) := e1
    have e73 : ∀ y0, y0 = nI hi → zQ_254 (73, [.ref 58, .int (nI n), .int x2, .int v, .int y4, .int y5, .int y6, .int (nI a), .int (nI b), .int (nI c), x10], [.int y0, .int (nI c)], zMk (s, I)) = zQ_254 (87, [.ref 58, .int (nI n), .int x2, .int v, .int y4, .int y5, .int y6, .int (nI a), .int (nI b), .int (nI c), x10], [.int (nI (zk3 L st a b c))], zMk (s, J1)) := fun y0 e => by
      rw [zq_254_73, e, if_neg (nI_ge (by omega) (by omega)), t1, e1, zcI_some]
    have e63 : zQ_254 (63, [.ref 58, .int (nI n), .int x2, .int v, .int y4, .int y5, .int y6, .int (nI a), .int (nI b), .int (nI c), x10], [], zMk (s, I)) = zQ_254 (87, [.ref 58, .int (nI n), .int x2, .int v, .int y4, .int y5, .int y6, .int (nI a), .int (nI b), .int (nI c), x10], [.int (nI (zk3 L st a b c))], zMk (s, J1)) := by
      rw [zq_254_63]
      by_cases c2 : n ≤ 2
      · rw [if_pos (show nI n ≤ (2 : Int32) from nI_le (b := 2) c2 (by decide)), nI_1]
        exact e73 _ (by rw [hh, show zh3 n st.P b = b + 1 from if_pos c2])
      · rw [if_neg (show ¬ nI n ≤ (2 : Int32) from nI_ge (a := 2) (by omega) (by omega)), zEv_p2 hE.1]
        exact e73 _ (by rw [hh, show zh3 n st.P b = st.P from if_neg c2])
    rw [e63, zq_254_87, nI_1]
    by_cases hl : nI (zk3 L st a b c) < v
    · obtain ⟨J, v', z4, z5, z6, x10', e, j1, j2, j3⟩ := zlp254c (x2 := x2) ha hb hn hh m (c + 1) J1 _ _ _ _ (zu1 L st q a b c) (.int (nI (zk3 L st a b c))) (by omega) k2 (u1 hl)
      refine ⟨J, v', z4, z5, z6, x10', ?_, zRs_tr k1 j1, j2, j3⟩
      rw [if_pos hl]
      exact e
    · obtain ⟨J, v', z4, z5, z6, x10', e, j1, j2, j3⟩ := zlp254c (x2 := x2) ha hb hn hh m (c + 1) J1 _ _ _ _ (zu1 L st q a b c) (.int (nI (zk3 L st a b c))) (by omega) k2 (u2 hl)
      refine ⟨J, v', z4, z5, z6, x10', ?_, zRs_tr k1 j1, j2, j3⟩
      rw [if_neg hl]
      exact e
theorem zlp254b {L : zLw} {st : zSt} {s : zQs} {n a hi : Nat} {x2 : Int32} (ha : a < st.P) (hn : n ≤ 3) (hh : hi = zh2 n st.P a) : ∀ m b (I : Nat → Nat → Int32) (v y4 y5 y6 : Int32) (q : Option (Nat × Nat × Nat × Nat)) (x9 x10 : Value), b + m = hi → zRe L st s I → zqI st.P 3039696 1000000000 q v y4 y5 y6 →
    ∃ J v' z4 z5 z6 x9' x10', zQ_254 (43, [.ref 58, .int (nI n), .int x2, .int v, .int y4, .int y5, .int y6, .int (nI a), .int (nI b), x9, x10], [], zMk (s, I)) = zQ_254 (30, [.ref 58, .int (nI n), .int x2, .int v', .int z4, .int z5, .int z6, .int (nI (a + 1)), .int (nI hi), x9', x10'], [], zMk (s, J)) ∧ zRs I J ∧ zRe L st s J ∧ zqI st.P 3039696 1000000000 (zlb L st n a m b q) v' z4 z5 z6
  | 0, b, I, v, y4, y5, y6, q, x9, x10, h, hE, hq => by
    have hP := zEv_P hE.1
    have h : b = hi := by omega
    refine ⟨I, v, y4, y5, y6, x9, x10, ?_, zRs_rfl I, hE, hq⟩
    have e53 : ∀ y0, y0 = nI hi → zQ_254 (53, [.ref 58, .int (nI n), .int x2, .int v, .int y4, .int y5, .int y6, .int (nI a), .int (nI b), x9, x10], [.int y0, .int (nI b)], zMk (s, I)) = zQ_254 (30, [.ref 58, .int (nI n), .int x2, .int v, .int y4, .int y5, .int y6, .int (nI (a + 1)), .int (nI hi), x9, x10], [], zMk (s, I)) := fun y0 e => by
      rw [zq_254_53, e, h, if_pos (nI_le (Nat.le_refl _) (by rw [hh]; unfold zh2; split <;> omega)), nI_1]
    rw [zq_254_43]
    by_cases c2 : n ≤ 1
    · rw [if_pos (show nI n ≤ (1 : Int32) from nI_le (b := 1) c2 (by decide)), nI_1]
      exact e53 _ (by rw [hh, show zh2 n st.P a = a + 1 from if_pos c2])
    · rw [if_neg (show ¬ nI n ≤ (1 : Int32) from nI_ge (a := 1) (by omega) (by omega)), zEv_p2 hE.1]
      exact e53 _ (by rw [hh, show zh2 n st.P a = st.P from if_neg c2])
  | m + 1, b, I, v, y4, y5, y6, q, x9, x10, h, hE, hq => by
    have hP := zEv_P hE.1
    have hhP : hi ≤ st.P := by rw [hh]; unfold zh2; split <;> omega
    have hb : b < st.P := by omega
    have hl3 : zl3 n b ≤ zh3 n st.P b := by unfold zl3 zh3; split <;> omega
    obtain ⟨J1, v1, w4, w5, w6, w10, e1, k1, k2, k3⟩ := zlp254c (L := L) (st := st) (s := s) (n := n) (x2 := x2) ha hb hn rfl (zh3 n st.P b - zl3 n b) (zl3 n b) I v y4 y5 y6 q x10 (by omega) hE hq
    obtain ⟨J, v', z4, z5, z6, x9', x10', e, j1, j2, j3⟩ := zlp254b (x2 := x2) ha hn hh m (b + 1) J1 v1 w4 w5 w6 (zlc L st a b (zh3 n st.P b - zl3 n b) (zl3 n b) q) (.int (nI (zh3 n st.P b))) w10 (by omega) k2 k3
    refine ⟨J, v', z4, z5, z6, x9', x10', ?_, zRs_tr k1 j1, j2, j3⟩
    have e53 : ∀ y0, y0 = nI hi → zQ_254 (53, [.ref 58, .int (nI n), .int x2, .int v, .int y4, .int y5, .int y6, .int (nI a), .int (nI b), x9, x10], [.int y0, .int (nI b)], zMk (s, I)) = zQ_254 (63, [.ref 58, .int (nI n), .int x2, .int v, .int y4, .int y5, .int y6, .int (nI a), .int (nI b), .int (nI (zl3 n b)), x10], [], zMk (s, I)) := fun y0 e => by
      rw [zq_254_53, e, if_neg (nI_ge (by omega) (by omega))]
      by_cases c2 : n ≤ 2
      · rw [if_pos (show nI n ≤ (2 : Int32) from nI_le (b := 2) c2 (by decide)), show zl3 n b = b from if_pos c2]
      · rw [if_neg (show ¬ nI n ≤ (2 : Int32) from nI_ge (a := 2) (by omega) (by omega)), show zl3 n b = b + 1 from if_neg c2, nI_1]
    rw [← e, ← e1, zq_254_43]
    by_cases c2 : n ≤ 1
    · rw [if_pos (show nI n ≤ (1 : Int32) from nI_le (b := 1) c2 (by decide)), nI_1]
      exact e53 _ (by rw [hh, show zh2 n st.P a = a + 1 from if_pos c2])
    · rw [if_neg (show ¬ nI n ≤ (1 : Int32) from nI_ge (a := 1) (by omega) (by omega)), zEv_p2 hE.1]
      exact e53 _ (by rw [hh, show zh2 n st.P a = st.P from if_neg c2])
theorem zlp254 {L : zLw} {st : zSt} {s : zQs} {n : Nat} {x2 : Int32} (hn : n ≤ 3) : ∀ m a (I : Nat → Nat → Int32) (v y4 y5 y6 : Int32) (q : Option (Nat × Nat × Nat × Nat)) (x8 x9 x10 : Value), a + m = st.P → zRe L st s I → zqI st.P 3039696 1000000000 q v y4 y5 y6 →
    ∃ J v' z4 z5 z6, zQ_254 (30, [.ref 58, .int (nI n), .int x2, .int v, .int y4, .int y5, .int y6, .int (nI a), x8, x9, x10], [], zMk (s, I)) = (if ¬ x2 = (-1) then (if ¬ x2 = 0 then (if ¬ x2 = 1 then (some (.int z6, (zMk (s, J)))) else (some (.int z5, (zMk (s, J))))) else (some (.int z4, (zMk (s, J))))) else (some (.int v', (zMk (s, J))))) ∧ zRs I J ∧ zRe L st s J ∧ zqI st.P 3039696 1000000000 (zla L st n m a q) v' z4 z5 z6
  | 0, a, I, v, y4, y5, y6, q, x8, x9, x10, h, hE, hq => by
    have hP := zEv_P hE.1
    have h : a = st.P := by omega
    subst h
    refine ⟨I, v, y4, y5, y6, ?_, zRs_rfl I, hE, hq⟩
    rw [zq_254_30, zEv_p2 hE.1, if_pos (nI_le (Nat.le_refl _) (by omega))]
  | m + 1, a, I, v, y4, y5, y6, q, x8, x9, x10, h, hE, hq => by
    have hP := zEv_P hE.1
    have ha : a < st.P := by omega
    have hl2 : zl2 n a ≤ zh2 n st.P a := by unfold zl2 zh2; split <;> omega
    obtain ⟨J1, v1, w4, w5, w6, w9, w10, e1, k1, k2, k3⟩ := zlp254b (L := L) (st := st) (s := s) (n := n) (x2 := x2) ha hn rfl (zh2 n st.P a - zl2 n a) (zl2 n a) I v y4 y5 y6 q x9 x10 (by omega) hE hq
    obtain ⟨J, v', z4, z5, z6, e, j1, j2, j3⟩ := zlp254 (x2 := x2) hn m (a + 1) J1 v1 w4 w5 w6 (zlb L st n a (zh2 n st.P a - zl2 n a) (zl2 n a) q) (.int (nI (zh2 n st.P a))) w9 w10 (by omega) k2 k3
    refine ⟨J, v', z4, z5, z6, ?_, zRs_tr k1 j1, j2, j3⟩
    rw [← e, ← e1, zq_254_30, zEv_p2 hE.1, if_neg (nI_ge (by omega) (by omega))]
    by_cases c2 : n ≤ 1
    · rw [if_pos (show nI n ≤ (1 : Int32) from nI_le (b := 1) c2 (by decide)), show zl2 n a = a from if_pos c2]
    · rw [if_neg (show ¬ nI n ≤ (1 : Int32) from nI_ge (a := 1) (by omega) (by omega)), show zl2 n a = a + 1 from if_neg c2, nI_1]
theorem zp_shop {L : zLw} {st : zSt} {s : zQs} {I : Nat → Nat → Int32} (hE : zEv L st s I) (x1 x2 : Int32) : zPr L st s I (zf_158 [.ref 0, .int x1, .int x2]) (zf_254 [.ref 58, .int x1, .int x2]) := by
  have hP := zEv_P hE.1
  have p1 := zEv_p1 hE.1
  have p2 := zEv_p2 hE.1
  by_cases h1 : x1 < 1
  · refine zPr_same hE (v := -1) ?_ ?_
    · rw [zqz_158, zq_158_0, if_pos h1]
    · rw [zqz_254, zq_254_0, zl_179, if_pos h1, zcI_some, zq_254_4, if_pos rfl]
  by_cases h2 : 3 < x1
  · refine zPr_same hE (v := -1) ?_ ?_
    · rw [zqz_158, zq_158_0, if_neg h1, if_pos h2]
    · rw [zqz_254, zq_254_0, zl_179, if_neg h1, if_pos h2, zcI_some, zq_254_4, if_pos rfl]
  obtain ⟨n, n1, n3, rfl⟩ := zin1 (n := 3) (by decide) h1 h2
  have epop : nI n - 1 = nI (n - 1) := nI_sub (a := n) (b := 1) n1
  have r4 : ∀ s (J : Nat → Nat → Int32), zf_254 [.ref 58, .int (nI n), .int x2] (zMk (s, J)) = if x2 < -1 then some (.int (-1), zMk (s, J)) else if nI (n - 1) < x2 then some (.int (-1), zMk (s, J)) else (if nI n ≤ J 58 0 then (zcV (zf_216 [.ref 58] (zMk (s, J))) fun M => zQ_254 (20, [.ref 58, .int (nI n), .int x2, .long 0, .long 0, .long 0, .long 0, .long 0, .long 0, .long 0, .long 0], [], M)) else (some (.int (-1), (zMk (s, J))))) := fun s J => by
    rw [zqz_254, zq_254_0, zl_179, if_neg h1, if_neg h2, zcI_some, zq_254_4, if_neg (by decide), epop, zl_179]
    by_cases c1 : x2 < -1
    · rw [if_pos c1, if_pos c1, zcI_some, zq_254_11, if_pos rfl]
    · rw [if_neg c1, if_neg c1]
      by_cases c2 : nI (n - 1) < x2
      · rw [if_pos c2, if_pos c2, zcI_some, zq_254_11, if_pos rfl]
      · rw [if_neg c2, if_neg c2, zcI_some, zq_254_11, if_neg (by decide)]
  have hlt : (x2 < nI n) = ¬ nI (n - 1) < x2 := by
    apply propext
    rw [Int32.lt_iff_toInt_lt, Int32.lt_iff_toInt_lt, nI_toInt (by omega), nI_toInt (by omega)]
    omega
  by_cases h3 : n ≤ st.P
  case neg =>
    refine zPr_same hE (v := -1) ?_ ?_
    · rw [zqz_158, zq_158_0, if_neg h1, if_neg h2, p1, if_pos (nI_lt (by omega) (by omega))]
    · rw [r4, p2]
      by_cases c1 : x2 < -1
      · rw [if_pos c1]
      · rw [if_neg c1]
        by_cases c2 : nI (n - 1) < x2
        · rw [if_pos c2]
        · rw [if_neg c2, if_neg (nI_ge (by omega) (by omega))]
  by_cases c1 : x2 < -1
  · refine zPr_same hE (v := -1) ?_ ?_
    · rw [zqz_158, zq_158_0, if_neg h1, if_neg h2, p1, if_neg (nI_nlt h3 (by omega)), if_pos c1]
    · rw [r4, if_pos c1]
  by_cases c2 : nI (n - 1) < x2
  · refine zPr_same hE (v := -1) ?_ ?_
    · rw [zqz_158, zq_158_0, if_neg h1, if_neg h2, p1, if_neg (nI_nlt h3 (by omega)), if_neg c1, if_neg (by rw [hlt]; exact not_not_intro c2)]
    · rw [r4, if_neg c1, if_pos c2]
  obtain ⟨s1, J1, e42, hE1, hM1, xe1, -⟩ := zf42 hE
  obtain ⟨J2, v, e46, j2, hq⟩ := zlp46 (L := L) (st := st) (s := s1) n3 st.P 0 J1 100000000 none (.long 0) (.long 0) (.long 0) (.long 0) (.long 0) (Nat.zero_add _) hE1 hM1 rfl
  have f46 : zf_46 [.ref 50, .int (nI n)] (zMk (s1, J1)) = some (.int v, zMk (s1, J2)) := by
    rw [zqz_46, zq_46_0, zEv_p1 hE1.1]
    exact e46
  have sc2 : zScr J1 J2 := zScr_1 (k := 52) rfl j2
  have hE2 := zEv_Scr hE1 sc2
  obtain ⟨J3, e3, sc3, hR3, -⟩ := zbegins hE2
  obtain ⟨J4, v', z4, z5, z6, e4, k1, hR4, hq2⟩ := zlp254 (L := L) (st := st) (s := s1) (x2 := x2) n3 st.P 0 J3 1000000000 0 0 0 none (.long 0) (.long 0) (.long 0) (Nat.zero_add _) hR3 rfl
  have hy : (zla L st n st.P 0 none).isSome = true := zla_y st.P 0 none (Or.inr ⟨by omega, by unfold zl2 zh2; split <;> omega, by unfold zl3 zh3 zl2; split <;> split <;> omega⟩)
  cases hw : zla L st n st.P 0 none with
  | none => rw [hw] at hy; cases hy
  | some w =>
    rw [hw] at hq hq2
    obtain ⟨-, -, -, -, v1, v2, v3, v4⟩ := hq
    obtain ⟨-, -, -, -, u1, u2, u3, u4⟩ := hq2
    have c26 : zf_158 [.ref 0, .int (nI n), .int x2] (zMk (s, I)) = if ¬ x2 = (-1) then (zcI (zf_43 [.ref 50, .int x2] (zMk (s1, J2))) fun v' M => zQ_158 (36, [.ref 0, .int (nI n), .int x2, .int v], [.int v'], M)) else zQ_158 (36, [.ref 0, .int (nI n), .int x2, .int v], [.int v], (zMk (s1, J2))) := by
      rw [zqz_158, zq_158_0, if_neg h1, if_neg h2, p1, if_neg (nI_nlt h3 (by omega)), if_neg c1, if_pos (by rw [hlt]; exact c2), e42, zcV_some, zq_158_22, f46, zcI_some, zq_158_26]
    have r20 : zf_254 [.ref 58, .int (nI n), .int x2] (zMk (s1, J2)) = (if ¬ x2 = (-1) then (if ¬ x2 = 0 then (if ¬ x2 = 1 then (some (.int z6, (zMk (s1, J4)))) else (some (.int z5, (zMk (s1, J4))))) else (some (.int z4, (zMk (s1, J4))))) else (some (.int v', (zMk (s1, J4))))) := by
      rw [r4, if_neg c1, if_neg c2, zEv_p2 hE2.1, if_pos (nI_le h3 (by omega)), e3, zcV_some, zq_254_20]
      exact e4
    have hEn := zEv_Scr hE2 (zScr_tr sc3 (zScr_Rs k1))
    have hXn := zXe_tr xe1 (zXe_Scr (zScr_tr sc2 (zScr_tr sc3 (zScr_Rs k1))))
    by_cases m1 : x2 = -1
    · refine zPr_mk (v := v) (s1 := s1) (I1 := J2) (I2 := J4) ?_ ?_ hEn hXn
      · rw [c26, if_neg (not_not_intro m1), zq_158_36]
      · rw [r20, if_neg (not_not_intro m1), u1, v1]
    have hx0 : ¬ x2 < 0 := by
      intro q
      have a1 := Int32.lt_iff_toInt_lt.mp q
      have a2 : ¬ x2.toInt < (-1 : Int32).toInt := fun w => c1 (Int32.lt_iff_toInt_lt.mpr w)
      have a3 : ((0 : Int32)).toInt = 0 := rfl
      have a4 : ((-1 : Int32)).toInt = -1 := by decide
      exact m1 (Int32.toInt_inj.mp (by omega))
    obtain ⟨j, hj, rfl⟩ := (zin_iff (P := n - 1) (by omega)).mpr ⟨hx0, c2⟩
    refine zPr_mk (v := J2 52 j) (s1 := s1) (I1 := J2) (I2 := J4) ?_ ?_ hEn hXn
    · rw [c26, if_pos m1, zl_43, if_neg hx0, if_neg (show ¬ (3 : Int32) ≤ nI j from nI_ge (b := 3) (by omega) (by decide)), if_pos (zb_t (show j < 3 by omega) (by omega)), nI_clamp (show j < 2 ^ 31 by omega), zcI_some, zq_158_36]
    · have hj3 : j = 0 ∨ j = 1 ∨ j = 2 := by omega
      rw [r20, if_pos m1]
      rcases hj3 with rfl | rfl | rfl
      · rw [if_neg (not_not_intro (show nI 0 = 0 from rfl)), u2, v2]
      · rw [if_pos (show ¬ nI 1 = 0 by decide), if_neg (not_not_intro (show nI 1 = 1 from rfl)), u3, v3]
      · rw [if_pos (show ¬ nI 2 = 0 by decide), if_pos (show ¬ nI 2 = 1 by decide), u4, v4]
