/-! WATER: THE REFERENCE'S CHOICE; THE CALL -/
theorem zlp249 {L : zLw} {st : zSt} {s : zQs} {R : Nat → Nat → Bool} : ∀ d k (I : Nat → Nat → Int32) (m dd : Nat) (x3 x4 x5 x6 : Value), k + d = 2 ^ (zcn (zwq st.wn) st.P) → zRe L st s I → (∀ p', p' < st.P → 0 < st.wn p' → I 94 (zcn (zwq st.wn) p') = nI p') → (∀ p, p < 20 → I 95 p = nI (zsts (fun q => R q p) st.Q)) → I 58 56 = nI m → I 58 55 = nI dd → m ≤ 2000 → dd < 2 ^ 20 → zRi R st.wn st.pc st.P st.Q k m dd →
    ∃ J m' d', zQ_249 (33, [.ref 58, .int (nI (zcn (zwq st.wn) st.P)), .int (nI k), x3, x4, x5, x6], [], zMk (s, I)) = some (.long 0, zMk (s, J)) ∧ zScr I J ∧ zRe L st s J ∧ J 58 56 = nI m' ∧ J 58 55 = nI d' ∧ m' ≤ 2000 ∧ zRi R st.wn st.pc st.P st.Q (2 ^ (zcn (zwq st.wn) st.P)) m' d'
  | 0, k, I, m, dd, x3, x4, x5, x6, h, hE, h94, h95, h56, h55, hm, hd, hC => by
    have h : k = 2 ^ (zcn (zwq st.wn) st.P) := by omega
    subst h
    have hP := zEv_P hE.1
    have hc := zcn_le (zwq st.wn) st.P
    have hp20 : 2 ^ (zcn (zwq st.wn) st.P) ≤ 2 ^ 20 := Nat.pow_le_pow_right (by decide) (by omega)
    refine ⟨I, m, dd, ?_, zScr_rfl I, hE, h56, h55, hm, hC⟩
    rw [zq_249_33, bit_sh20 _ (by omega), if_pos (nI_le (Nat.le_refl _) (by omega))]
  | d + 1, k, I, m, dd, x3, x4, x5, x6, h, hE, h94, h95, h56, h55, hm, hd, hC => by
    have hP := zEv_P hE.1
    have hQ : st.Q ≤ 8 := hE.1.2.2.2.2.2.1.1
    have hc := zcn_le (zwq st.wn) st.P
    have hp20 : 2 ^ (zcn (zwq st.wn) st.P) ≤ 2 ^ 20 := Nat.pow_le_pow_right (by decide) (by omega)
    have hw := hE.1.2.2.2.1
    have hk : k < 2 ^ 20 := by omega
    have e46 := zlp249i (s := s) (R := R) hP hQ hw h94 h95 hk st.P 0 (Nat.zero_add _)
    have e46 : zQ_249 (46, [.ref 58, .int (nI (zcn (zwq st.wn) st.P)), .int (nI k), .int 0, .int (nI (zsts (zwho R (zDc st.wn k) 0) st.Q)), .int 0, .int 0], [], zMk (s, I)) = _ := e46
    have z0 : zsts (zwho R (zDc st.wn k) 0) st.Q = 0 := by
      apply Nat.eq_of_testBit_eq
      intro i
      rw [zsts_bit, Nat.zero_testBit]
      show (_ && false) = false
      rw [Bool.and_false]
    rw [z0] at e46
    have e46 : zQ_249 (46, [.ref 58, .int (nI (zcn (zwq st.wn) st.P)), .int (nI k), .int 0, .int 0, .int 0, .int 0], [], zMk (s, I)) = _ := e46
    have e248 : zf_248 [.ref 58, .int (nI (zsts (zwho R (zDc st.wn k) st.P) st.Q))] (zMk (s, I)) = some (.int (nI (zcrr R st.pc st.P st.Q (zDc st.wn k))), zMk (s, I)) := by
      rw [zqz_248, zq_248_0]
      have e := zlp248 (s := s) hE.1.2.2.2.2.2.1 (zsts_256 (zwho R (zDc st.wn k) st.P) hQ) st.Q 0 (Nat.zero_add _)
      rw [show zsgm st.pc (fun i => (zsts (zwho R (zDc st.wn k) st.P) st.Q).testBit i) st.Q = zcrr R st.pc st.P st.Q (zDc st.wn k) from zsgm_cg st.Q (fun i hi => zsts_t hi)] at e
      exact e
    have wc := zwn_cap hw hP (zDc st.wn k)
    have pcc : zcrr R st.pc st.P st.Q (zDc st.wn k) ≤ 792 := zpc_cap hE.1 _
    obtain ⟨-, t2, t3⟩ := zsubc (w := zsgm st.wn (zDc st.wn k) st.P) (c := zcrr R st.pc st.P st.Q (zDc st.wn k)) (m := m) (by omega) (by omega) (by omega)
    have hs : zsts (zDc st.wn k) st.P < 2 ^ 20 := Nat.lt_of_lt_of_le (zsts_lt _ _) (Nat.pow_le_pow_right (by decide) hP)
    rw [zq_249_33, bit_sh20 _ (by omega), if_neg (nI_ge (show k < 2 ^ (zcn (zwq st.wn) st.P) by omega) (by omega)), e46, e248, zcI_some, zq_249_91, h56, nI_1]
    by_cases c1 : zsgm st.wn (zDc st.wn k) st.P < m + zcrr R st.pc st.P st.Q (zDc st.wn k)
    · rw [if_pos (t2.mpr c1)]
      exact zlp249 d (k + 1) I m dd _ _ _ _ (by omega) hE h94 h95 h56 h55 hm hd (zRi_no hC (by omega) (fun _ e => by omega))
    rw [if_neg (fun q => c1 (t2.mp q))]
    by_cases c2 : zsgm st.wn (zDc st.wn k) st.P = m + zcrr R st.pc st.P st.Q (zDc st.wn k)
    · rw [if_neg (not_not_intro (t3.mpr c2))]
      by_cases c3 : dd = 0
      · rw [h55, if_pos (show nI dd = 0 by rw [c3]; rfl)]
        exact zlp249 d (k + 1) I m dd _ _ _ _ (by omega) hE h94 h95 h56 h55 hm hd (zRi_no hC (by omega) (fun _ _ => by
          rw [c3]
          have : zcn (fun i => Nat.testBit 0 i) 20 = 0 := by decide
          rw [this]
          exact Nat.zero_le _))
      · have hm0 : 0 < m := by
          obtain ⟨D0, -, -, b3, -⟩ := hC
          rcases Nat.eq_zero_or_pos m with h | h
          · exact absurd (b3 h) c3
          · exact h
        have q1 : zcn (fun i => (zsts (zDc st.wn k) st.P).testBit i) 20 ≤ 20 := zcn_le _ 20
        have q2 : zcn (fun i => dd.testBit i) 20 ≤ 20 := zcn_le _ 20
        rw [h55, if_neg (show ¬ nI dd = 0 from nI_ne (b := 0) c3 (by omega) (by decide)), zf182b s I hs, zcI_some, zq_249_106, h55, zf182b s I hd, zcI_some, zq_249_109, nI_1]
        by_cases c4 : zcn (fun i => (zsts (zDc st.wn k) st.P).testBit i) 20 < zcn (fun i => dd.testBit i) 20
        · rw [if_pos (nI_lt c4 (by omega))]
          have eqm : nI (zsgm st.wn (zDc st.wn k) st.P) - nI (zcrr R st.pc st.P st.Q (zDc st.wn k)) = nI m := t3.mpr c2
          rw [eqm]
          have sc : zScr I (zwA (zwA I 58 (upd (I 58) 56 (nI m))) 58 (upd (upd (I 58) 56 (nI m)) 55 (nI (zsts (zDc st.wn k) st.P)))) := by
            have a := zScr_f (I := I) (j := 56) rfl (nI m)
            have b := zScr_f (I := zwA I 58 (upd (I 58) 56 (nI m))) (j := 55) rfl (nI (zsts (zDc st.wn k) st.P))
            rw [zwA_s] at b
            exact zScr_tr a b
          obtain ⟨J, m', d', e, a1, a2, a3⟩ := zlp249 (L := L) (R := R) d (k + 1) (zwA (zwA I 58 (upd (I 58) 56 (nI m))) 58 (upd (upd (I 58) 56 (nI m)) 55 (nI (zsts (zDc st.wn k) st.P)))) m (zsts (zDc st.wn k) st.P) (.int (nI (zsgm st.wn (zDc st.wn k) st.P))) (.int (nI (zsts (zwho R (zDc st.wn k) st.P) st.Q))) (.int (nI (zsts (zDc st.wn k) st.P))) (.int (nI m)) (by omega) (zRe_fr hE sc (by rw [zwA_n (by decide), zwA_n (by decide)]) (by rw [zwA_n (by decide), zwA_n (by decide)]) (by rw [zwA_n (by decide), zwA_n (by decide)])) (fun p' h1 h2 => by rw [zwA_n (by decide), zwA_n (by decide)]; exact h94 p' h1 h2) (fun p hp => by rw [zwA_n (by decide), zwA_n (by decide)]; exact h95 p hp) (by rw [zwA_s, upd_at, if_neg (by decide), upd_at, if_pos rfl]) (by rw [zwA_s, upd_at, if_pos rfl]) hm hs (zRi_eq hC hm0 c2 (by unfold zbt20; omega))
          exact ⟨J, m', d', e, zScr_tr sc a1, a2, a3⟩
        · rw [if_neg (nI_nlt (show zcn (fun i => dd.testBit i) 20 ≤ zcn (fun i => (zsts (zDc st.wn k) st.P).testBit i) 20 by omega) (by omega))]
          exact zlp249 d (k + 1) I m dd _ _ _ _ (by omega) hE h94 h95 h56 h55 hm hd (zRi_no hC (by omega) (fun _ _ => by unfold zbt20; omega))
    · rw [if_pos (fun q => c2 (t3.mp q)), nI_sub (by omega)]
      have sc : zScr I (zwA (zwA I 58 (upd (I 58) 56 (nI (zsgm st.wn (zDc st.wn k) st.P - zcrr R st.pc st.P st.Q (zDc st.wn k))))) 58 (upd (upd (I 58) 56 (nI (zsgm st.wn (zDc st.wn k) st.P - zcrr R st.pc st.P st.Q (zDc st.wn k)))) 55 (nI (zsts (zDc st.wn k) st.P)))) := by
        have a := zScr_f (I := I) (j := 56) rfl (nI (zsgm st.wn (zDc st.wn k) st.P - zcrr R st.pc st.P st.Q (zDc st.wn k)))
        have b := zScr_f (I := zwA I 58 (upd (I 58) 56 (nI (zsgm st.wn (zDc st.wn k) st.P - zcrr R st.pc st.P st.Q (zDc st.wn k))))) (j := 55) rfl (nI (zsts (zDc st.wn k) st.P))
        rw [zwA_s] at b
        exact zScr_tr a b
      obtain ⟨J, m', d', e, a1, a2, a3⟩ := zlp249 (L := L) (R := R) d (k + 1) _ (zsgm st.wn (zDc st.wn k) st.P - zcrr R st.pc st.P st.Q (zDc st.wn k)) (zsts (zDc st.wn k) st.P) (.int (nI (zsgm st.wn (zDc st.wn k) st.P))) (.int (nI (zsts (zwho R (zDc st.wn k) st.P) st.Q))) (.int (nI (zsts (zDc st.wn k) st.P))) (.int (nI (zsgm st.wn (zDc st.wn k) st.P - zcrr R st.pc st.P st.Q (zDc st.wn k)))) (by omega) (zRe_fr hE sc (by rw [zwA_n (by decide), zwA_n (by decide)]) (by rw [zwA_n (by decide), zwA_n (by decide)]) (by rw [zwA_n (by decide), zwA_n (by decide)])) (fun p' h1 h2 => by rw [zwA_n (by decide), zwA_n (by decide)]; exact h94 p' h1 h2) (fun p hp => by rw [zwA_n (by decide), zwA_n (by decide)]; exact h95 p hp) (by rw [zwA_s, upd_at, if_neg (by decide), upd_at, if_pos rfl]) (by rw [zwA_s, upd_at, if_pos rfl]) (by omega) hs (zRi_up hC (by omega))
      exact ⟨J, m', d', e, zScr_tr sc a1, a2, a3⟩
theorem zf249 {L : zLw} {st : zSt} {s : zQs} {I : Nat → Nat → Int32} {R : Nat → Nat → Bool} (hE : zRe L st s I) (h95 : ∀ p, p < 20 → I 95 p = nI (zsts (fun q => R q p) st.Q)) :
    ∃ J m d, zf_249 [.ref 58] (zMk (s, I)) = some (.long 0, zMk (s, J)) ∧ zScr I J ∧ zRe L st s J ∧ J 58 56 = nI m ∧ J 58 55 = nI d ∧ m ≤ 2000 ∧ zRi R st.wn st.pc st.P st.Q (2 ^ (zcn (zwq st.wn) st.P)) m d := by
  have hP := zEv_P hE.1
  obtain ⟨J1, e1, a1, a2⟩ := zlp249a (s := s) hP (.long 0) (.long 0) (.long 0) (.long 0) st.P 0 I (Nat.zero_add _) (zEv_p2 hE.1) hE.1.2.2.2.1 (fun p' h => absurd h (Nat.not_lt_zero p'))
  have e1 : zQ_249 (4, [.ref 58, .int 0, .int 0, .long 0, .long 0, .long 0, .long 0], [], zMk (s, I)) = _ := e1
  have sc1 : zScr I J1 := zScr_1 (k := 94) rfl a1
  have sc2 : zScr J1 (zwA (zwA J1 58 (upd (J1 58) 55 0)) 58 (upd (upd (J1 58) 55 0) 56 0)) := by
    have a := zScr_f (I := J1) (j := 55) rfl 0
    have b := zScr_f (I := zwA J1 58 (upd (J1 58) 55 0)) (j := 56) rfl 0
    rw [zwA_s] at b
    exact zScr_tr a b
  have sc := zScr_tr sc1 sc2
  have hpos : 0 < 2 ^ (zcn (zwq st.wn) st.P) := Nat.two_pow_pos _
  obtain ⟨J, m, d, e, b1, b2, b3⟩ := zlp249 (L := L) (st := st) (s := s) (R := R) (2 ^ (zcn (zwq st.wn) st.P) - 1) 1 (zwA (zwA J1 58 (upd (J1 58) 55 0)) 58 (upd (upd (J1 58) 55 0) 56 0)) 0 0 (.long 0) (.long 0) (.long 0) (.long 0) (by omega) (zRe_fr hE sc (by rw [zwA_n (by decide), zwA_n (by decide), a1 77 (by decide)]) (by rw [zwA_n (by decide), zwA_n (by decide), a1 78 (by decide)]) (by rw [zwA_n (by decide), zwA_n (by decide), a1 79 (by decide)])) (fun p' h1 h2 => by rw [zwA_n (by decide), zwA_n (by decide)]; exact a2 p' h1 h2) (fun p hp => by rw [zwA_n (by decide), zwA_n (by decide), a1 95 (by decide)]; exact h95 p hp) (by rw [zwA_s, upd_at, if_pos rfl]; rfl) (by rw [zwA_s, upd_at, if_neg (by decide), upd_at, if_pos rfl]; rfl) (by decide) (by decide) (zRi_1 _ _ _ _ _)
  refine ⟨J, m, d, ?_, zScr_tr sc b1, b2, b3⟩
  rw [zqz_249, zq_249_0, e1]
  exact e
theorem zlp114 {st : zSt} {s : zQs} {I : Nat → Nat → Int32} (hP : st.P ≤ 20) (p1 : I 1 10 = nI st.P) (hw : cWant st.wn (I 3) (I 93)) : ∀ d p, p + d = st.P →
    zQ_114 (4, [.ref 1, .int (nI (zsgm st.wn (fun _ => true) p)), .int (nI p)], [], zMk (s, I)) = some (.int (nI (zsgm st.wn (fun _ => true) st.P)), zMk (s, I))
  | 0, p, h => by
    have h : p = st.P := by omega
    subst h
    rw [zq_114_4, p1, if_pos (nI_le (Nat.le_refl _) (by omega))]
  | d + 1, p, h => by
    have hp : p < st.P := by omega
    have nx := zlp114 (s := s) hP p1 hw d (p + 1) (by omega)
    obtain ⟨w1, w2, -⟩ := hw p (by omega)
    rw [zsgm_s, if_pos rfl] at nx
    rw [zq_114_4, p1, if_neg (nI_ge hp (by omega)), if_pos (zb_t (show p < 20 by omega) (by omega)), nI_clamp (show p < 2 ^ 31 by omega), w2, nI_add, nI_1]
    exact nx
theorem zf114w {st : zSt} {s : zQs} {I : Nat → Nat → Int32} (hR : RepW st I) : zf_114 [.ref 1] (zMk (s, I)) = some (.int (nI (zsgm st.wn (fun _ => true) st.P)), zMk (s, I)) := by
  rw [zqz_114, zq_114_0]
  exact zlp114 (zEv_P hR) (zEv_p1 hR) hR.2.2.2.1 st.P 0 (Nat.zero_add _)
/-- how the reference answers -/
def zwatr (x2 : Int32) (a m d : Int32) : Int32 := if ¬ x2 = 0 then (if ¬ x2 = 1 then d else a) else a - m
theorem zlp250 {st : zSt} {s : zQs} {I : Nat → Nat → Int32} (hP : st.P ≤ 20) (p2 : I 58 0 = nI st.P) (hw : cWant st.wn (I 3) (I 93)) (x1 x2 : Int32) : ∀ d p, p + d = st.P →
    zQ_250 (22, [.ref 58, .int x1, .int x2, .int (nI (zsgm st.wn (fun _ => true) p)), .int (nI p)], [], zMk (s, I)) = some (.int (zwatr x2 (nI (zsgm st.wn (fun _ => true) st.P)) (I 58 56) (I 58 55)), zMk (s, I))
  | 0, p, h => by
    have h : p = st.P := by omega
    subst h
    rw [zq_250_22, p2, if_pos (nI_le (Nat.le_refl _) (by omega))]
    unfold zwatr
    by_cases c : x2 = 0
    · rw [if_neg (not_not_intro c), if_neg (not_not_intro c)]
    · rw [if_pos c, if_pos c]
      by_cases c1 : x2 = 1
      · rw [if_neg (not_not_intro c1), if_neg (not_not_intro c1)]
      · rw [if_pos c1, if_pos c1]
  | d + 1, p, h => by
    have hp : p < st.P := by omega
    have nx := zlp250 (s := s) hP p2 hw x1 x2 d (p + 1) (by omega)
    obtain ⟨w1, -, w2⟩ := hw p (by omega)
    rw [zsgm_s, if_pos rfl] at nx
    rw [zq_250_22, p2, if_neg (nI_ge hp (by omega)), if_pos (zb_t (show p < 20 by omega) (by omega)), nI_clamp (show p < 2 ^ 31 by omega), w2, nI_add, nI_1]
    exact nx
theorem zp_water {L : zLw} {st : zSt} {s : zQs} {I : Nat → Nat → Int32} (hE : zEv L st s I) (x1 x2 : Int32) : zPr L st s I (zf_156 [.ref 0, .int x1, .int x2]) (zf_250 [.ref 58, .int x1, .int x2]) := by
  have hP := zEv_P hE.1
  have p1 := zEv_p1 hE.1
  have p2 := zEv_p2 hE.1
  by_cases h1 : zlt x1 st.P
  case neg =>
    refine zPr_same hE (v := -1) ?_ ?_
    · rw [zqz_156, zq_156_0, isP1_f p1 hP h1, zcI_some, zq_156_4, if_pos rfl]
    · rw [zqz_250, zq_250_0, isP2_f p2 hP h1, zcI_some, zq_250_3, if_pos rfl]
  have c1 : zf_156 [.ref 0, .int x1, .int x2] (zMk (s, I)) = (zcI (zf_171 [.int x2, .int 2] (zMk (s, I))) fun v M => zQ_156 (8, [.ref 0, .int x1, .int x2], [.int v], M)) := by
    rw [zqz_156, zq_156_0, isP1_t p1 hP h1, zcI_some, zq_156_4, if_neg (by decide)]
  have r1 : ∀ s (J : Nat → Nat → Int32), J 58 0 = nI st.P → zf_250 [.ref 58, .int x1, .int x2] (zMk (s, J)) = (zcI (zf_179 [.int x2, .int 0, .int 2] (zMk (s, J))) fun v M => zQ_250 (8, [.ref 58, .int x1, .int x2, .long 0, .long 0], [.int v], M)) := fun s J h => by
    rw [zqz_250, zq_250_0, isP2_t h hP h1, zcI_some, zq_250_3, if_neg (by decide)]
  by_cases h2 : zin x2 2
  case neg =>
    refine zPr_same hE (v := -1) ?_ ?_
    · rw [c1, wi_f (m := 2) 2 rfl (by decide) h2, zcI_some, zq_156_8, if_neg (not_not_intro rfl)]
    · rw [r1 s I p2, in_f (m := 2) 2 rfl (by decide) h2, zcI_some, zq_250_8, if_neg (not_not_intro rfl)]
  have w2 := wi_t (s := s) (I := I) (m := 2) 2 rfl (by decide) h2
  have i2 := fun s I => in_t (s := s) (I := I) (m := 2) 2 rfl (by decide) h2
  have ht20 := zwn_cap hE.1.2.2.2.1 hP (fun _ => true)
  obtain ⟨w, hw, hwx⟩ := h1
  by_cases hx1 : x2 = 1
  · -- all that is wanted
    obtain ⟨J1, e1, sc1, hR1, -⟩ := zbegins hE
    obtain ⟨F, hF⟩ := zrws_ex (L := L) (st := st) (zEv_small (s := s) hE.1) hP (fun q hq => ⟨(hE.1.2.2.2.2.2.1.2.2.2 q hq).1, (hE.1.2.2.2.2.2.1.2.2.2 q hq).2.1⟩)
    obtain ⟨J2, e2, sc2, hR2, h95⟩ := zf247 hF (show w < 20 by omega) hR1
    obtain ⟨J3, m, d, e3, sc3, hR3, h56, h55, hm, -⟩ := zf249 hR2 h95
    have sc := zScr_tr sc1 (zScr_tr sc2 sc3)
    refine zPr_mk (v := nI (zsgm st.wn (fun _ => true) st.P)) (s1 := s) (I1 := I) (I2 := J3) ?_ ?_ (zEv_Scr hE sc) (zXe_Scr sc)
    · rw [c1, w2, zcI_some, zq_156_8, if_pos (show ¬ (1 : Int32) = 0 by decide), if_neg (not_not_intro hx1), zf114w hE.1, zcI_some, zq_156_17]
    · rw [r1 s I p2, i2, zcI_some, zq_250_8, if_pos (show ¬ (1 : Int32) = 0 by decide), e1, zcV_some, zq_250_13, hwx, e2, zcV_some, zq_250_16, e3, zcV_some, zq_250_18]
      have e := zlp250 (s := s) hP (zEv_p2 hR3.1) hR3.1.2.2.2.1 (nI w) x2 st.P 0 (Nat.zero_add _)
      have e : zQ_250 (22, [.ref 58, .int (nI w), .int x2, .int 0, .int 0], [], zMk (s, J3)) = _ := e
      rw [e]
      unfold zwatr
      rw [hx1, if_pos (show ¬ (1 : Int32) = 0 by decide), if_neg (not_not_intro rfl)]
  · obtain ⟨F, s1, J1, m1, d1, hF, e1, hE1, xe1, h4, h5, hm1, hC⟩ := zf134 hE (show w < 20 by omega)
    obtain ⟨J2, e2, sc2, hR2, -⟩ := zbegins hE1
    obtain ⟨J3, e3, sc3, hR3, h95⟩ := zf247 hF (show w < 20 by omega) hR2
    obtain ⟨J4, m2, d2, e4, sc4, hR4, h56, h55, hm2, hRi⟩ := zf249 hR3 h95
    obtain ⟨em, ed⟩ := zcut2 hP hC hRi
    have sc := zScr_tr sc2 (zScr_tr sc3 sc4)
    refine zPr_mk (v := zwatr x2 (nI (zsgm st.wn (fun _ => true) st.P)) (nI m1) (nI d1)) (s1 := s1) (I1 := J1) (I2 := J4) ?_ ?_ (zEv_Scr hE1 sc) (zXe_tr xe1 (zXe_Scr sc))
    · rw [c1, w2, zcI_some, zq_156_8, if_pos (show ¬ (1 : Int32) = 0 by decide), if_pos hx1, hwx, e1, zcV_some, zq_156_22]
      unfold zwatr
      by_cases c : x2 = 0
      · rw [if_neg (not_not_intro c), if_neg (not_not_intro c), zf114w hE1.1, zcI_some, zq_156_27, zl_132, zcI_some, zq_156_30, h4, zq_156_35]
      · rw [if_pos c, if_pos c, if_pos hx1, zl_133, zcI_some, h5, zq_156_35]
    · rw [r1 s1 J1 (zEv_p2 hE1.1), i2, zcI_some, zq_250_8, if_pos (show ¬ (1 : Int32) = 0 by decide), e2, zcV_some, zq_250_13, hwx, e3, zcV_some, zq_250_16, e4, zcV_some, zq_250_18]
      have e := zlp250 (s := s1) hP (zEv_p2 hR4.1) hR4.1.2.2.2.1 (nI w) x2 st.P 0 (Nat.zero_add _)
      have e : zQ_250 (22, [.ref 58, .int (nI w), .int x2, .int 0, .int 0], [], zMk (s1, J4)) = _ := e
      rw [e, h56, h55, em, ed]
