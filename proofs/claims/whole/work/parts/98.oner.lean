/-! ONE MORE: THE REFERENCE; THE CALL -/
theorem zf219q {L : zLw} {st : zSt} {s : zQs} {I : Nat → Nat → Int32} (hT : zTwr L st I) (hy : zRy L st I) {l a b : Nat} (hl : l ≤ 99) (ha : a < st.P) (hb : b < st.P) :
    ∃ J, zf_219 [.ref 58, .int (nI a), .int (nI b), .int (nI l)] (zMk (s, I)) = some (.int (nI (zk64 (zcs L st l st.S) st.P a b)), zMk (s, J)) ∧ zRs I J ∧ zTwr L st J ∧ zRy L st J := by
  have hP : st.P ≤ 20 := hT.2.2.1
  have hi := zix4_lt hl (show a < 20 by omega) (show b < 20 by omega)
  by_cases hf : I 79 l = 0
  · obtain ⟨J, e, j1, j2, j3, j4⟩ := zf218 s hl hT hy
    refine ⟨J, ?_, j1, zTwr_Rs hT j1, j2⟩
    rw [zqz_219, zq_219_0, if_pos (zb_t (show l < 100 by omega) (by omega)), nI_clamp (show l < 2 ^ 31 by omega), if_neg (not_not_intro hf), e, zcV_some, zq_219_8, zix4_i, if_pos (zb_t hi (by omega)), nI_clamp (show zix4 l a b < 2 ^ 31 by omega), (j2 l hl j3).2 a b ha hb]
  · refine ⟨I, ?_, zRs_rfl I, hT, hy⟩
    rw [zqz_219, zq_219_0, if_pos (zb_t (show l < 100 by omega) (by omega)), nI_clamp (show l < 2 ^ 31 by omega), if_pos hf, zq_219_8, zix4_i, if_pos (zb_t hi (by omega)), nI_clamp (show zix4 l a b < 2 ^ 31 by omega), (hy l hl hf).2 a b ha hb]
theorem zf220q {L : zLw} {st : zSt} {s : zQs} {I : Nat → Nat → Int32} (hT : zTwr L st I) (hy : zRy L st I) {l a b : Nat} (hl : l ≤ 99) (ha : a < st.P) (hb : b < st.P) :
    ∃ J, zf_220 [.ref 58, .int (nI a), .int (nI b), .int (nI l)] (zMk (s, I)) = some (.int (nI (zR1 (zdc L st l a b))), zMk (s, J)) ∧ zRs I J ∧ zTwr L st J ∧ zRy L st J := by
  obtain ⟨J, e, j1, j2, j3⟩ := zf219q (s := s) hT hy hl ha hb
  obtain ⟨-, k1, -, k3⟩ := zk_cost (L := L) (l := l) (fun l => zTwr_cs hT l (Nat.le_refl _)) hT.2.2.1 ha hb
  refine ⟨J, ?_, j1, j2, j3⟩
  rw [zqz_220, zq_220_0, e, zcI_some, zq_220_5, ← k1]
  by_cases h : zk64 (zcs L st l st.S) st.P a b < 1000000000
  · rw [if_pos (show nI (zk64 (zcs L st l st.S) st.P a b) < 1000000000 from nI_lt (b := 1000000000) h (by decide)), if_pos h, show nI (zk64 (zcs L st l st.S) st.P a b) / 64 = nI (zk64 (zcs L st l st.S) st.P a b / 64) from nI_div _ 64 (by omega) (by decide)]
  · rw [if_neg (show ¬ nI (zk64 (zcs L st l st.S) st.P a b) < 1000000000 from nI_nlt (b := 1000000000) (by omega) (by omega)), if_neg h]
    rfl
theorem zlp259 {L : zLw} {st : zSt} {s : zQs} {Q : Nat} {pf pt : Nat → Nat} (hQ : Q ≤ 8) (hf : ∀ q, q < Q → pf q < st.P ∧ pt q < st.P) : ∀ d q (I : Nat → Nat → Int32) (x3 : Value), q + d = Q → zTwr L st I → zRy L st I → I 58 42 = nI Q → (∀ q, q < Q → I 85 q = nI (pf q) ∧ I 86 q = nI (pt q)) →
    ∃ J, zQ_259 (4, [.ref 58, .int (nI (zsu (fun q => zval (zdc L st 0 (pf q) (pt q))) q)), .int (nI q), x3], [], zMk (s, I)) = some (.int (nI (zsu (fun q => zval (zdc L st 0 (pf q) (pt q))) Q)), zMk (s, J)) ∧ zRs I J
  | 0, q, I, x3, h, hT, hy, q2, h8 => by
    have h : q = Q := by omega
    subst h
    refine ⟨I, ?_, zRs_rfl I⟩
    rw [zq_259_4, q2, if_pos (nI_le (Nat.le_refl _) (by omega))]
  | d + 1, q, I, x3, h, hT, hy, q2, h8 => by
    have hq : q < Q := by omega
    have zq8 := zb_t (show q < 8 by omega) (show q < 2 ^ 31 by omega)
    have cq : (nI q).toNatClampNeg = q := nI_clamp (by omega)
    obtain ⟨J1, e1, j1, j2, j3⟩ := zf220q (s := s) hT hy (l := 0) (by decide) (hf q hq).1 (hf q hq).2
    have e1 : zf_220 [.ref 58, .int (nI (pf q)), .int (nI (pt q)), .int 0] (zMk (s, I)) = _ := e1
    have nx := fun x3 => zlp259 (L := L) (st := st) (s := s) hQ hf d (q + 1) J1 x3 (by omega) j2 j3 (by rw [j1 58 (by decide) (by decide) (by decide) (by decide) (by decide)]; exact q2) (fun q hq => by
      rw [j1 85 (by decide) (by decide) (by decide) (by decide) (by decide), j1 86 (by decide) (by decide) (by decide) (by decide) (by decide)]
      exact h8 q hq)
    rw [zsu_s] at nx
    rw [zq_259_4, q2, if_neg (nI_ge hq (by omega)), if_pos zq8, if_pos zq8, cq, (h8 q hq).1, (h8 q hq).2, e1, zcI_some, zq_259_19, nI_1]
    cases hz : zdc L st 0 (pf q) (pt q) with
    | none =>
      rw [hz] at nx
      obtain ⟨J, e, a⟩ := nx (.int (nI (zR1 none)))
      refine ⟨J, ?_, zRs_tr j1 a⟩
      rw [if_neg (show ¬ nI (zR1 none) < 1000000000 by decide), show nI (zsu (fun q => zval (zdc L st 0 (pf q) (pt q))) q) + 1000 = nI (zsu (fun q => zval (zdc L st 0 (pf q) (pt q))) q + 1000) from nI_add _ 1000]
      exact e
    | some x =>
      rw [hz] at nx
      have hx := zdc_le (fun l => zTwr_cs hT l (Nat.le_refl _)) hT.2.2.1 (hf q hq).1 (hf q hq).2 hz
      obtain ⟨J, e, a⟩ := nx (.int (nI (zR1 (some x))))
      refine ⟨J, ?_, zRs_tr j1 a⟩
      have hr : zR1 (some x) = x := rfl
      rw [if_pos (show nI (zR1 (some x)) < 1000000000 from nI_lt (b := 1000000000) (by rw [hr]; omega) (by decide)), nI_add]
      exact e
/-- what trying a stair leaves behind -/
def zOm (st : zSt) (I J : Nat → Nat → Int32) : Prop := (∀ r, r ≠ 60 → r ≠ 61 → r ≠ 62 → (r < 75 ∨ 79 < r) → J r = I r) ∧ ∀ j, j ≠ st.S → J 60 j = I 60 j ∧ J 61 j = I 61 j ∧ J 62 j = I 62 j
theorem zEv_Om {L : zLw} {st : zSt} {s : zQs} {I J : Nat → Nat → Int32} (h : zEv L st s I) (g : zOm st I J) : zEv L st s J := by
  obtain ⟨⟨hv, ht, hk, hw, he, hf, hg, -, hfa, -⟩, hL, hy⟩ := h
  obtain ⟨g1, g2⟩ := g
  have k := fun (r : Nat) (h : r < 60 ∨ (62 < r ∧ r < 75) ∨ 79 < r) => g1 r (by omega) (by omega) (by omega) (by omega)
  refine ⟨⟨?_, ?_, ?_, ?_, ?_, ?_, ?_, trivial, ?_, trivial⟩, ?_, zWy_fr hy (k 18 (by omega)) (fun r hr => k r (by omega))⟩
  · rw [k 1 (by omega)]; exact hv
  · obtain ⟨t1, t2, t3, t4, t5, t6, t7, t8, t9, t10, t11⟩ := ht
    rw [k 1 (by omega), k 58 (by omega), k 2 (by omega), k 4 (by omega), k 5 (by omega), k 6 (by omega), k 59 (by omega)]
    refine ⟨t1, t2, t3, t4, t5, t6, t7, t8, t9, t10, fun j hj => ?_⟩
    obtain ⟨a1, a2, a3⟩ := g2 j (by omega)
    rw [a1, a2, a3]
    exact t11 j hj
  · rw [k 1 (by omega), k 58 (by omega)]; exact hk
  · rw [k 3 (by omega), k 93 (by omega)]; exact hw
  · rw [k 42 (by omega), k 58 (by omega), k 43 (by omega), k 44 (by omega), k 45 (by omega), k 81 (by omega), k 82 (by omega), k 83 (by omega)]; exact he
  · rw [k 20 (by omega), k 58 (by omega), k 21 (by omega), k 22 (by omega), k 23 (by omega), k 85 (by omega), k 86 (by omega), k 87 (by omega)]; exact hf
  · rw [k 20 (by omega), k 58 (by omega), k 24 (by omega), k 25 (by omega), k 26 (by omega), k 88 (by omega), k 89 (by omega), k 90 (by omega)]; exact hg
  · rw [k 54 (by omega), k 58 (by omega), k 55 (by omega), k 56 (by omega), k 57 (by omega), k 97 (by omega), k 98 (by omega), k 99 (by omega)]; exact hfa
  · unfold zLaw
    rw [k 58 (by omega), k 70 (by omega), k 71 (by omega), k 72 (by omega), k 73 (by omega), k 74 (by omega), k 8 (by omega), k 9 (by omega), k 10 (by omega), k 11 (by omega), k 12 (by omega), k 13 (by omega), k 14 (by omega), k 34 (by omega), k 35 (by omega), k 36 (by omega), k 37 (by omega), k 38 (by omega), k 39 (by omega), k 40 (by omega)]
    exact hL
theorem zXe_Om {st : zSt} {I J : Nat → Nat → Int32} (g : zOm st I J) : zXe I J := by
  have k := fun (r : Nat) (h : r < 60 ∨ (62 < r ∧ r < 75) ∨ 79 < r) => g.1 r (by omega) (by omega) (by omega) (by omega)
  exact ⟨by rw [k 0 (by omega)], by rw [k 58 (by omega)], by rw [k 30 (by omega)], by rw [k 58 (by omega)], k 31 (by omega), k 63 (by omega)⟩
theorem ztry1 {L : zLw} {st : zSt} {s : zQs} {I : Nat → Nat → Int32} (hE : zEv L st s I) {a b so : Nat} (hB : zBd L st a b so) :
    ∃ J1 J2 J3, zf_185 [.ref 58, .int (nI a), .int (nI b), .int (nI so)] (zMk (s, I)) = some (.long 0, zMk (s, J1)) ∧ zf_216 [.ref 58] (zMk (s, J1)) = some (.long 0, zMk (s, J2)) ∧ zf_259 [.ref 58] (zMk (s, J2)) = some (.int (nI (zVo L st so a b)), zMk (s, J3)) ∧ zOm st I (zwA J3 58 (upd (J3 58) 1 (J3 58 1 - 1))) := by
  have hT := zTwr_of hE.1 hE.2.1
  obtain ⟨w1, w2, w3, w4, w5, w6, w7, w8, w9⟩ := id hT
  obtain ⟨hQ, -, q2, hfo⟩ := hE.1.2.2.2.2.2.1
  obtain ⟨ha, hb, hab, hso, hS⟩ := hB
  have e1 : zf_185 [.ref 58, .int (nI a), .int (nI b), .int (nI so)] (zMk (s, I)) = some (.long 0, zMk (s, zwA (zwA (zwA (zwA I 60 (upd (I 60) st.S (nI a))) 61 (upd (I 61) st.S (nI b))) 62 (upd (I 62) st.S (nI so))) 58 (upd (I 58) 1 (nI (st.S + 1))))) := by
    have z40 := zb_t (show st.S < 40 by omega) (show st.S < 2 ^ 31 by omega)
    rw [zl_185, w7, if_pos z40, if_pos z40, if_pos z40, nI_clamp (show st.S < 2 ^ 31 by omega), nI_1]
  obtain ⟨J2, e2, j1, j2⟩ := zbeg s (zwA (zwA (zwA (zwA I 60 (upd (I 60) st.S (nI a))) 61 (upd (I 61) st.S (nI b))) 62 (upd (I 62) st.S (nI so))) 58 (upd (I 58) 1 (nI (st.S + 1))))
  have k := fun (r : Nat) (h : r ≠ 79) (h0 : r ≠ 60) (h1 : r ≠ 61) (h2 : r ≠ 62) (h3 : r ≠ 58) => show J2 r = I r by rw [j1 r h, zwA_n h3, zwA_n h2, zwA_n h1, zwA_n h0]
  have k58 : J2 58 = upd (I 58) 1 (nI (st.S + 1)) := by rw [j1 58 (by decide), zwA_s]
  have k60 : J2 60 = upd (I 60) st.S (nI a) := by rw [j1 60 (by decide), zwA_n (by decide), zwA_n (by decide), zwA_n (by decide), zwA_s]
  have k61 : J2 61 = upd (I 61) st.S (nI b) := by rw [j1 61 (by decide), zwA_n (by decide), zwA_n (by decide), zwA_s]
  have k62 : J2 62 = upd (I 62) st.S (nI so) := by rw [j1 62 (by decide), zwA_n (by decide), zwA_s]
  have hT2 : zTwr L (zpl1 st a b so) J2 := by
    refine ⟨w1, ?_, w3, by show st.S + 1 ≤ 40; omega, ?_, ?_, ?_, ?_, ?_⟩
    · rw [k58, upd_at, if_neg (by decide), k 70 (by decide) (by decide) (by decide) (by decide) (by decide), k 71 (by decide) (by decide) (by decide) (by decide) (by decide), k 72 (by decide) (by decide) (by decide) (by decide) (by decide), k 73 (by decide) (by decide) (by decide) (by decide) (by decide), k 74 (by decide) (by decide) (by decide) (by decide) (by decide)]
      exact w2
    · rw [k 59 (by decide) (by decide) (by decide) (by decide) (by decide)]
      exact w5
    · rw [k58, upd_at, if_neg (by decide)]
      exact w6
    · rw [k58, upd_at, if_pos rfl]
      rfl
    · rw [k58, upd_at, if_neg (by decide)]
      exact w8
    · intro j hj
      have hj : j < st.S + 1 := hj
      show zup st.sa st.S a j < st.P ∧ zup st.sb st.S b j < st.P ∧ zup st.sa st.S a j ≠ zup st.sb st.S b j ∧ zup st.so st.S so j ≤ 2 ∧ J2 60 j = nI (zup st.sa st.S a j) ∧ J2 61 j = nI (zup st.sb st.S b j) ∧ J2 62 j = nI (zup st.so st.S so j)
      rw [k60, k61, k62, upd_at, upd_at, upd_at]
      by_cases e : j = st.S
      · rw [e, zup_k, zup_k, zup_k, if_pos rfl, if_pos rfl, if_pos rfl]
        exact ⟨ha, hb, hab, hso, rfl, rfl, rfl⟩
      · rw [zup_n e, zup_n e, zup_n e, if_neg e, if_neg e, if_neg e]
        exact w9 j (by omega)
  have hy2 : zRy L (zpl1 st a b so) J2 := fun l hl q => absurd (j2 l (by omega)) q
  obtain ⟨J3, e3, r3⟩ := zlp259 (L := L) (st := zpl1 st a b so) (s := s) (Q := st.Q) (pf := st.pf) (pt := st.pt) hQ (fun q hq => ⟨(hfo q hq).1, (hfo q hq).2.1⟩) st.Q 0 J2 (.long 0) (Nat.zero_add _) hT2 hy2 (by rw [k58, upd_at, if_neg (by decide)]; exact q2) (fun q hq => by
    rw [k 85 (by decide) (by decide) (by decide) (by decide) (by decide), k 86 (by decide) (by decide) (by decide) (by decide) (by decide)]
    obtain ⟨-, -, -, -, -, -, a1, a2, -⟩ := hfo q hq
    exact ⟨a1, a2⟩)
  refine ⟨_, J2, J3, e1, e2, ?_, ?_, ?_⟩
  · rw [zqz_259, zq_259_0]
    exact e3
  · intro r h0 h1 h2 h3
    have m : J3 r = J2 r := r3 r (by omega) (by omega) (by omega) (by omega) (by omega)
    by_cases e : r = 58
    · subst e
      rw [zwA_s, m, k58]
      funext j
      rw [upd_at, upd_at, if_pos rfl, upd_at]
      by_cases hj : j = 1
      · rw [if_pos hj, hj, w7]
        show nI (st.S + 1) - nI 1 = nI st.S
        rw [nI_sub (by omega)]
        rfl
      · rw [if_neg hj, if_neg hj]
    · rw [zwA_n e, m]
      exact k r (by omega) h0 h1 h2 e
  · intro j hj
    have m := fun (r : Nat) (h : r < 75) => r3 r (by omega) (by omega) (by omega) (by omega) (by omega)
    rw [zwA_n (by decide), zwA_n (by decide), zwA_n (by decide), m 60 (by decide), m 61 (by decide), m 62 (by decide), k60, k61, k62, upd_at, upd_at, upd_at, if_neg hj, if_neg hj, if_neg hj]
    exact ⟨rfl, rfl, rfl⟩
/-- the best so far, as the reference keeps it -/
def zqr (q : Option (Nat × Nat × Nat)) (x3 x4 x5 : Int32) : Prop := match q with
  | none => x3 = 1000000000
  | some r => x3 = nI r.1 ∧ x4 = nI r.2.1 ∧ x5 = nI r.2.2 ∧ r.1 ≤ 2000000
theorem zlp260i {L : zLw} {st : zSt} {s : zQs} {a so : Nat} (x2 : Int32) (ha : a < st.P) (hso : so ≤ 2) (hS : st.S < 40) : ∀ d b (I : Nat → Nat → Int32) (q : Option (Nat × Nat × Nat)) (x3 x4 x5 : Int32) (x8 : Value), b + d = st.P → zEv L st s I → zqr q x3 x4 x5 →
    ∃ J y3 y4 y5 x8', zQ_260 (36, [.ref 58, .int (nI so), .int x2, .int x3, .int x4, .int x5, .int (nI a), .int (nI b), x8], [], zMk (s, I)) = zQ_260 (30, [.ref 58, .int (nI so), .int x2, .int y3, .int y4, .int y5, .int (nI (a + 1)), .int (nI st.P), x8'], [], zMk (s, J)) ∧ zEv L st s J ∧ zXe I J ∧ zqr (zoin (zVo L st so) (zcd st so) a d b q) y3 y4 y5
  | 0, b, I, q, x3, x4, x5, x8, h, hE, hq => by
    have h : b = st.P := by omega
    subst h
    have hP := zEv_P hE.1
    refine ⟨I, x3, x4, x5, x8, ?_, hE, zXe_Scr (zScr_rfl I), hq⟩
    rw [zq_260_36, zEv_p2 hE.1, if_pos (nI_le (Nat.le_refl _) (by omega)), nI_1]
  | d + 1, b, I, q, x3, x4, x5, x8, h, hE, hq => by
    have hP := zEv_P hE.1
    have hb : b < st.P := by omega
    rw [zq_260_36, zEv_p2 hE.1, if_neg (nI_ge hb (by omega)), nI_1, zoin_s]
    by_cases hab : a = b
    · have hc : zcd st so a b = false := by unfold zcd; rw [decide_eq_false (not_not_intro hab), Bool.false_and]
      rw [zost_no hc, if_pos (show nI a = nI b by rw [hab])]
      exact zlp260i x2 ha hso hS d (b + 1) I q x3 x4 x5 _ (by omega) hE hq
    rw [if_neg (nI_ne hab (by omega) (by omega))]
    have hB : zBd L st a b so := ⟨ha, hb, hab, hso, hS⟩
    have go : zcd st so a b = true → ∃ J y3 y4 y5 x8', (zcV (zf_185 [.ref 58, .int (nI a), .int (nI b), .int (nI so)] (zMk (s, I))) fun M => zQ_260 (67, [.ref 58, .int (nI so), .int x2, .int x3, .int x4, .int x5, .int (nI a), .int (nI b), x8], [], M)) = zQ_260 (30, [.ref 58, .int (nI so), .int x2, .int y3, .int y4, .int y5, .int (nI (a + 1)), .int (nI st.P), x8'], [], zMk (s, J)) ∧ zEv L st s J ∧ zXe I J ∧ zqr (zoin (zVo L st so) (zcd st so) a d (b + 1) (zost (zVo L st so) (zcd st so) a b q)) y3 y4 y5 := by
      intro hc
      obtain ⟨J1, J2, J3, e1, e2, e3, om⟩ := ztry1 hE hB
      have hV := zVo_cap (s := s) (L := L) hE.1 hB
      have hE3 := zEv_Om hE om
      rw [e1, zcV_some, zq_260_67, e2, zcV_some, zq_260_69, e3, zcI_some, zq_260_71, nI_1]
      have yes : zost (zVo L st so) (zcd st so) a b q = some (zVo L st so a b, a, b) → nI (zVo L st so a b) < x3 → (∃ J y3 y4 y5 x8', (if nI (zVo L st so a b) < x3 then zQ_260 (36, [.ref 58, .int (nI so), .int x2, .int (nI (zVo L st so a b)), .int (nI a), .int (nI b), .int (nI a), .int (nI (b + 1)), .int (nI (zVo L st so a b))], [], zMk (s, zwA J3 58 (upd (J3 58) 1 (J3 58 1 - 1)))) else zQ_260 (36, [.ref 58, .int (nI so), .int x2, .int x3, .int x4, .int x5, .int (nI a), .int (nI (b + 1)), .int (nI (zVo L st so a b))], [], zMk (s, zwA J3 58 (upd (J3 58) 1 (J3 58 1 - 1))))) = zQ_260 (30, [.ref 58, .int (nI so), .int x2, .int y3, .int y4, .int y5, .int (nI (a + 1)), .int (nI st.P), x8'], [], zMk (s, J)) ∧ zEv L st s J ∧ zXe I J ∧ zqr (zoin (zVo L st so) (zcd st so) a d (b + 1) (zost (zVo L st so) (zcd st so) a b q)) y3 y4 y5) := fun e0 hl => by
        obtain ⟨J, y3, y4, y5, x8', e, j1, j2, j3⟩ := zlp260i (L := L) (s := s) x2 ha hso hS d (b + 1) _ (some (zVo L st so a b, a, b)) (nI (zVo L st so a b)) (nI a) (nI b) (.int (nI (zVo L st so a b))) (by omega) hE3 ⟨rfl, rfl, rfl, by show zVo L st so a b ≤ 2000000; omega⟩
        exact ⟨J, y3, y4, y5, x8', by rw [if_pos hl]; exact e, j1, zXe_tr (zXe_Om om) j2, by rw [e0]; exact j3⟩
      have no : zost (zVo L st so) (zcd st so) a b q = q → ¬ nI (zVo L st so a b) < x3 → (∃ J y3 y4 y5 x8', (if nI (zVo L st so a b) < x3 then zQ_260 (36, [.ref 58, .int (nI so), .int x2, .int (nI (zVo L st so a b)), .int (nI a), .int (nI b), .int (nI a), .int (nI (b + 1)), .int (nI (zVo L st so a b))], [], zMk (s, zwA J3 58 (upd (J3 58) 1 (J3 58 1 - 1)))) else zQ_260 (36, [.ref 58, .int (nI so), .int x2, .int x3, .int x4, .int x5, .int (nI a), .int (nI (b + 1)), .int (nI (zVo L st so a b))], [], zMk (s, zwA J3 58 (upd (J3 58) 1 (J3 58 1 - 1))))) = zQ_260 (30, [.ref 58, .int (nI so), .int x2, .int y3, .int y4, .int y5, .int (nI (a + 1)), .int (nI st.P), x8'], [], zMk (s, J)) ∧ zEv L st s J ∧ zXe I J ∧ zqr (zoin (zVo L st so) (zcd st so) a d (b + 1) (zost (zVo L st so) (zcd st so) a b q)) y3 y4 y5) := fun e0 hl => by
        obtain ⟨J, y3, y4, y5, x8', e, j1, j2, j3⟩ := zlp260i (L := L) (s := s) x2 ha hso hS d (b + 1) _ q x3 x4 x5 (.int (nI (zVo L st so a b))) (by omega) hE3 hq
        exact ⟨J, y3, y4, y5, x8', by rw [if_neg hl]; exact e, j1, zXe_tr (zXe_Om om) j2, by rw [e0]; exact j3⟩
      cases q with
      | none =>
        have hq : x3 = 1000000000 := hq
        refine yes (by unfold zost; rw [hc]; rfl) ?_
        rw [hq]
        exact nI_lt (b := 1000000000) (by omega) (by decide)
      | some r =>
        obtain ⟨q1, q2, q3, q4⟩ := id hq
        by_cases hl : zVo L st so a b < r.1
        · refine yes (by unfold zost; rw [hc, if_pos rfl]; exact if_pos hl) ?_
          rw [q1]
          exact nI_lt hl (by omega)
        · refine no (by unfold zost; rw [hc, if_pos rfl]; exact if_neg hl) ?_
          rw [q1]
          exact nI_nlt (by omega) (by omega)
    by_cases h1 : so = 1
    · obtain ⟨t1, -, t2⟩ := hE.1.2.1.2.2.2.2.2.2.2.2.2.1 a ha
      obtain ⟨u1, -, u2⟩ := hE.1.2.1.2.2.2.2.2.2.2.2.2.1 b hb
      have n1 : nI so = 1 := by rw [h1]; rfl
      rw [if_neg (not_not_intro n1), if_pos (zb_t (show b < 20 by omega) (by omega)), if_pos (zb_t (show a < 20 by omega) (by omega)), nI_clamp (show a < 2 ^ 31 by omega), nI_clamp (show b < 2 ^ 31 by omega), t2, u2]
      by_cases hh : st.ht a < st.ht b
      · have hc : zcd st so a b = false := by unfold zcd; rw [if_pos h1, decide_eq_false (show ¬ st.ht b ≤ st.ht a by omega), Bool.and_false]
        rw [zost_no hc, if_pos (nI_lt hh (by omega))]
        exact zlp260i x2 ha hso hS d (b + 1) I q x3 x4 x5 _ (by omega) hE hq
      · have hc : zcd st so a b = true := by unfold zcd; rw [if_pos h1, decide_eq_true hab, decide_eq_true (show st.ht b ≤ st.ht a by omega)]; rfl
        rw [if_neg (nI_nlt (by omega) (by omega)), zq_260_55, if_pos n1]
        exact go hc
    · have n1 : ¬ nI so = 1 := nI_ne (b := 1) h1 (by omega) (by decide)
      rw [if_pos n1, zq_260_55, if_neg n1]
      by_cases hlt : a < b
      · rw [if_pos (nI_le (by omega) (by omega))]
        exact go (by unfold zcd; rw [if_neg h1, decide_eq_true hab, decide_eq_true hlt]; rfl)
      · have hc : zcd st so a b = false := by unfold zcd; rw [if_neg h1, decide_eq_false hlt, Bool.and_false]
        rw [zost_no hc, if_neg (nI_ge (by omega) (by omega)), nI_1]
        exact zlp260i x2 ha hso hS d (b + 1) I q x3 x4 x5 _ (by omega) hE hq
theorem zlp260 {L : zLw} {st : zSt} {s : zQs} {so : Nat} (x2 : Int32) (hso : so ≤ 2) (hS : st.S < 40) : ∀ d a (I : Nat → Nat → Int32) (q : Option (Nat × Nat × Nat)) (x3 x4 x5 : Int32) (x7 x8 : Value), a + d = st.P → zEv L st s I → zqr q x3 x4 x5 →
    ∃ J y3 y4 y5, zQ_260 (30, [.ref 58, .int (nI so), .int x2, .int x3, .int x4, .int x5, .int (nI a), x7, x8], [], zMk (s, I)) = some (.int (if ¬ x2 = 0 then (if ¬ x2 = 1 then y3 else y5) else y4), zMk (s, J)) ∧ zEv L st s J ∧ zXe I J ∧ zqr (zoou (zVo L st so) (zcd st so) st.P d a q) y3 y4 y5
  | 0, a, I, q, x3, x4, x5, x7, x8, h, hE, hq => by
    have h : a = st.P := by omega
    subst h
    have hP := zEv_P hE.1
    refine ⟨I, x3, x4, x5, ?_, hE, zXe_Scr (zScr_rfl I), hq⟩
    rw [zq_260_30, zEv_p2 hE.1, if_pos (nI_le (Nat.le_refl _) (by omega))]
    by_cases c : x2 = 0
    · rw [if_neg (not_not_intro c), if_neg (not_not_intro c)]
    · rw [if_pos c, if_pos c]
      by_cases c1 : x2 = 1
      · rw [if_neg (not_not_intro c1), if_neg (not_not_intro c1)]
      · rw [if_pos c1, if_pos c1]
  | d + 1, a, I, q, x3, x4, x5, x7, x8, h, hE, hq => by
    have hP := zEv_P hE.1
    obtain ⟨J1, z3, z4, z5, x8', e1, j1, j2, j3⟩ := zlp260i x2 (show a < st.P by omega) hso hS st.P 0 I q x3 x4 x5 x8 (Nat.zero_add _) hE hq
    have e1 : zQ_260 (36, [.ref 58, .int (nI so), .int x2, .int x3, .int x4, .int x5, .int (nI a), .int 0, x8], [], zMk (s, I)) = _ := e1
    obtain ⟨J, y3, y4, y5, e, k1, k2, k3⟩ := zlp260 x2 hso hS d (a + 1) J1 _ z3 z4 z5 (.int (nI st.P)) x8' (by omega) j1 j3
    refine ⟨J, y3, y4, y5, ?_, k1, zXe_tr j2 k2, k3⟩
    rw [zq_260_30, zEv_p2 hE.1, if_neg (nI_ge (show a < st.P by omega) (by omega)), e1]
    exact e
theorem zp_oneMore {L : zLw} {st : zSt} {s : zQs} {I : Nat → Nat → Int32} (hE : zEv L st s I) (x1 x2 : Int32) : zPr L st s I (zf_160 [.ref 0, .int x1, .int x2]) (zf_260 [.ref 58, .int x1, .int x2]) := by
  have hP := zEv_P hE.1
  have p1 := zEv_p1 hE.1
  have p2 := zEv_p2 hE.1
  have hS40 := zEv_S hE.1
  have sS : I 1 11 = nI st.S ∧ I 58 1 = nI st.S := ⟨hE.1.2.1.2.2.2.2.2.1, hE.1.2.1.2.2.2.2.2.2.1⟩
  by_cases h1 : zin x1 2
  case neg =>
    refine zPr_same hE (v := -1) ?_ ?_
    · rw [zqz_160, zq_160_0, wi_f (m := 2) 2 rfl (by decide) h1, zcI_some, zq_160_3, if_pos rfl]
    · rw [zqz_260, zq_260_0, in_f (m := 2) 2 rfl (by decide) h1, zcI_some, zq_260_4, if_pos rfl]
  by_cases h2 : zin x2 2
  case neg =>
    refine zPr_same hE (v := -1) ?_ ?_
    · rw [zqz_160, zq_160_0, wi_t (m := 2) 2 rfl (by decide) h1, zcI_some, zq_160_3, if_neg (by decide), wi_f (m := 2) 2 rfl (by decide) h2, zcI_some, zq_160_7, if_neg (not_not_intro rfl)]
    · rw [zqz_260, zq_260_0, in_t (m := 2) 2 rfl (by decide) h1, zcI_some, zq_260_4, if_neg (by decide), in_f (m := 2) 2 rfl (by decide) h2, zcI_some, zq_260_9, if_neg (not_not_intro rfl)]
  have c7 : zf_160 [.ref 0, .int x1, .int x2] (zMk (s, I)) = zQ_160 (7, [.ref 0, .int x1, .int x2], [.int 1], zMk (s, I)) := by
    rw [zqz_160, zq_160_0, wi_t (m := 2) 2 rfl (by decide) h1, zcI_some, zq_160_3, if_neg (by decide), wi_t (m := 2) 2 rfl (by decide) h2, zcI_some]
  have r9 : ∀ s (J : Nat → Nat → Int32), zf_260 [.ref 58, .int x1, .int x2] (zMk (s, J)) = zQ_260 (9, [.ref 58, .int x1, .int x2, .long 0, .long 0, .long 0, .long 0, .long 0, .long 0], [.int 1], zMk (s, J)) := fun s J => by
    rw [zqz_260, zq_260_0, in_t (m := 2) 2 rfl (by decide) h1, zcI_some, zq_260_4, if_neg (by decide), in_t (m := 2) 2 rfl (by decide) h2, zcI_some]
  have t10 : ¬ (1 : Int32) = 0 := by decide
  by_cases hP2 : st.P < 2
  · refine zPr_same hE (v := -2) ?_ ?_
    · rw [c7, zq_160_7, if_pos t10, p1, if_pos (show nI st.P < 2 from nI_lt (b := 2) hP2 (by decide))]
    · rw [r9, zq_260_9, if_pos t10, p2, if_pos (show nI st.P < 2 from nI_lt (b := 2) hP2 (by decide))]
  by_cases hS : st.S < 40
  case neg =>
    refine zPr_same hE (v := -2) ?_ ?_
    · rw [c7, zq_160_7, if_pos t10, p1, if_neg (show ¬ nI st.P < 2 from nI_nlt (b := 2) (by omega) (by omega)), sS.1, if_neg (show ¬ nI st.S < 40 from nI_nlt (b := 40) (by omega) (by omega))]
    · rw [r9, zq_260_9, if_pos t10, p2, if_neg (show ¬ nI st.P < 2 from nI_nlt (b := 2) (by omega) (by omega)), sS.2, if_neg (not_not_intro (show nI st.S = 40 by rw [show st.S = 40 by omega]; rfl))]
  obtain ⟨so, hso, rfl⟩ := h1
  obtain ⟨s1, J1, e1, hE1, xe1, hq1⟩ := zf54 hE hso hS
  obtain ⟨J2, y3, y4, y5, e2, hE2, xe2, hq2⟩ := zlp260 (L := L) (s := s1) x2 hso hS st.P 0 J1 none 1000000000 0 0 (.long 0) (.long 0) (Nat.zero_add _) hE1 rfl
  have e2 : zQ_260 (30, [.ref 58, .int (nI so), .int x2, .int 1000000000, .int 0, .int 0, .int 0, .long 0, .long 0], [], zMk (s1, J1)) = _ := e2
  have hne := zone_some (L := L) (st := st) (so := so) (by omega)
  cases hr : zoou (zVo L st so) (zcd st so) st.P st.P 0 none with
  | none => exact absurd hr hne
  | some r =>
    rw [hr] at hq1 hq2
    obtain ⟨a1, a2, a3, -⟩ := hq1
    obtain ⟨b1, b2, b3, -⟩ := hq2
    refine zPr_mk (v := if ¬ x2 = 0 then (if ¬ x2 = 1 then y3 else y5) else y4) (s1 := s1) (I1 := J1) (I2 := J2) ?_ ?_ hE2 (zXe_tr xe1 xe2)
    · rw [c7, zq_160_7, if_pos t10, p1, if_neg (show ¬ nI st.P < 2 from nI_nlt (b := 2) (by omega) (by omega)), sS.1, if_pos (show nI st.S < 40 from nI_lt (b := 40) hS (by decide)), e1, zcV_some, zq_160_26, zl_53, a1, a2, a3, b1, b2, b3]
      obtain ⟨j, hj, rfl⟩ := h2
      have hj3 : j = 0 ∨ j = 1 ∨ j = 2 := by omega
      rcases hj3 with rfl | rfl | rfl
      · rw [if_pos (show ¬ nI 0 = 2 by decide), if_neg (not_not_intro (show nI 0 = 0 by decide)), zcI_some, zq_160_30, if_neg (not_not_intro (show nI 0 = 0 by decide))]
      · rw [if_pos (show ¬ nI 1 = 2 by decide), if_pos (show ¬ nI 1 = 0 by decide), zcI_some, zq_160_30, if_pos (show ¬ nI 1 = 0 by decide), if_neg (not_not_intro (show nI 1 = 1 by decide))]
      · rw [if_neg (not_not_intro (show nI 2 = 2 by decide)), zcI_some, zq_160_30, if_pos (show ¬ nI 2 = 0 by decide), if_pos (show ¬ nI 2 = 1 by decide)]
    · rw [r9, zq_260_9, if_pos t10, zEv_p2 hE1.1, if_neg (show ¬ nI st.P < 2 from nI_nlt (b := 2) (by omega) (by omega)), show J1 58 1 = nI st.S from hE1.1.2.1.2.2.2.2.2.2.1, if_pos (show ¬ nI st.S = 40 from nI_ne (b := 40) (by omega) (by omega) (by decide))]
      exact e2
