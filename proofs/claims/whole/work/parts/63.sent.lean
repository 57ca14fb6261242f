/-! WHO BRINGS WHAT: THE CALL -/
theorem bit_sub : ∀ h, h < 256 → ∀ x, x < 256 → (nI x &&& (nI h ^^^ (-1)) = 0) = (x &&& h = x) := by
  have e : ∀ h, h < 256 → ∀ x, x < 256 → (decide (nI x &&& (nI h ^^^ (-1)) = 0) = decide (x &&& h = x)) := by decide +kernel
  intro h hh x hx
  have := e h hh x hx
  exact propext (decide_eq_decide.mp this)
theorem bit_sub_big (h : Nat) (hh : h < 256) {x : Int32} (h0 : ¬ x < 0) (h1 : nI 256 ≤ x) : ¬ (x &&& (nI h ^^^ (-1)) = 0) := by
  intro e
  obtain ⟨y, hy⟩ : ∃ y : BitVec 32, x = Int32.ofBitVec y := ⟨x.toBitVec, rfl⟩
  have e2 := congrArg (fun z : Int32 => z.toBitVec) e
  have e3 : x.toBitVec &&& ((nI h).toBitVec ^^^ (-1 : Int32).toBitVec) = 0#32 := e2
  have hx : x.toBitVec.toNat < 2 ^ 31 ∧ 256 ≤ x.toBitVec.toNat := by
    have a1 : 256 ≤ x.toInt := by have := Int32.le_iff_toInt_le.mp h1; rwa [show (nI 256).toInt = 256 from rfl] at this
    have a2 : x.toInt = x.toBitVec.toInt := rfl
    rw [a2, BitVec.toInt_eq_toNat_cond] at a1
    have := x.toBitVec.isLt
    split at a1 <;> omega
  have big : ∃ k, 8 ≤ k ∧ k < 32 ∧ x.toBitVec.getLsbD k = true := by
    apply Classical.byContradiction
    intro hno
    have : x.toBitVec.toNat < 2 ^ 8 := by
      apply Nat.lt_pow_two_of_testBit
      intro k hk
      cases hb : x.toBitVec.toNat.testBit k with
      | false => rfl
      | true =>
        exfalso
        by_cases hk32 : k < 32
        · exact hno ⟨k, hk, hk32, hb⟩
        · have := Nat.testBit_lt_two_pow (x := x.toBitVec.toNat) (i := k) (Nat.lt_of_lt_of_le x.toBitVec.isLt (Nat.pow_le_pow_right (by decide) (by omega)))
          rw [hb] at this
          cases this
    omega
  obtain ⟨k, k1, k2, k3⟩ := big
  have e4 := congrArg (fun z : BitVec 32 => z.getLsbD k) e3
  have hk : (nI h).toBitVec.getLsbD k = false := by
    show (BitVec.ofNat 32 h).getLsbD k = false
    rw [BitVec.getLsbD_ofNat]
    have : h.testBit k = false := Nat.testBit_lt_two_pow (Nat.lt_of_lt_of_le hh (show 2 ^ 8 ≤ 2 ^ k from Nat.pow_le_pow_right (by decide) k1))
    rw [this]
    simp
  have hm : ((-1 : Int32).toBitVec).getLsbD k = true := by
    have : ∀ k, k < 32 → ((-1 : Int32).toBitVec).getLsbD k = true := by decide +kernel
    exact this k k2
  have e4 : (x.toBitVec &&& ((nI h).toBitVec ^^^ (-1 : Int32).toBitVec)).getLsbD k = (0#32).getLsbD k := e4
  rw [BitVec.getLsbD_and, BitVec.getLsbD_xor, k3, hk, hm] at e4
  simp at e4
/-- a set of told things, as both ask for it -/
theorem zset {h : Nat} (hh : h < 256) (x : Int32) : (∃ X, X < 256 ∧ 0 < X ∧ X &&& h = X ∧ x = nI X) ∨ ((x ≤ 0 ∨ ¬ (x &&& (nI h ^^^ (-1)) = 0)) ∧ (x < 1 ∨ 255 < x ∨ ¬ (x &&& (nI h ^^^ (-1)) = 0))) := by
  rcases pk_ix x (n := 256) (by decide) with h0 | h0 | ⟨j, hj, rfl⟩
  · exact Or.inr ⟨Or.inl (Int32.le_of_lt h0), Or.inl (Int32.lt_trans h0 (by decide))⟩
  · have h9 : ¬ x < 0 := fun q => absurd (Int32.lt_of_lt_of_le (show (0 : Int32) < nI 256 by decide) h0) (fun r => absurd (Int32.lt_trans q r) (by simp))
    exact Or.inr ⟨Or.inr (bit_sub_big h hh h9 h0), Or.inr (Or.inr (bit_sub_big h hh h9 h0))⟩
  · by_cases hs : j &&& h = j
    · by_cases hz : j = 0
      · subst hz
        exact Or.inr ⟨Or.inl (by decide), Or.inl (by decide)⟩
      · exact Or.inl ⟨j, hj, by omega, hs, rfl⟩
    · have : ¬ (nI j &&& (nI h ^^^ (-1)) = 0) := by rw [bit_sub h hh j hj]; exact hs
      exact Or.inr ⟨Or.inr this, Or.inr (Or.inr this)⟩
theorem zset_t {h X : Nat} (hh : h < 256) (hX : X < 256) (h0 : 0 < X) (hs : X &&& h = X) : ¬ nI X ≤ 0 ∧ (nI X &&& (nI h ^^^ (-1)) = 0) ∧ ¬ nI X < 1 ∧ ¬ 255 < nI X := by
  refine ⟨nI_ge (b := X) (a := 0) h0 (by omega), by rw [bit_sub h hh X hX]; exact hs, nI_nlt (b := 1) (a := X) h0 (by omega), nI_nlt (b := X) (a := 255) (by omega) (by decide)⟩
theorem zset_b {h X : Nat} (hs : X &&& h = X) : ∀ i, X.testBit i = true → h.testBit i = true := by
  intro i hi
  have := congrArg (fun z => z.testBit i) hs
  have : (X &&& h).testBit i = X.testBit i := this
  rw [Nat.testBit_and, hi] at this
  simpa using this
theorem zp_sent {L : zLw} {st : zSt} {s : zQs} {I : Nat → Nat → Int32} (hE : zEv L st s I) (x1 x2 : Int32) : zPr L st s I (zf_154 [.ref 0, .int x1, .int x2]) (zf_245 [.ref 58, .int x1, .int x2]) := by
  obtain ⟨f1, f2, f3, fj⟩ := hE.1.2.2.2.2.2.1
  obtain ⟨g1, g2, g3, hth⟩ := hE.1.2.2.2.2.2.2.1
  /- within, either way -/
  have w7 : ∃ k : Int32, zf_171 [.int x2, .int 7] (zMk (s, I)) = some (.int k, zMk (s, I)) ∧ ((zin x2 7 ∧ k = 1) ∨ (¬ zin x2 7 ∧ k = 0)) := by
    by_cases h : zin x2 7
    · exact ⟨1, wi_t (m := 7) 7 rfl (by decide) h, Or.inl ⟨h, rfl⟩⟩
    · exact ⟨0, wi_f (m := 7) 7 rfl (by decide) h, Or.inr ⟨h, rfl⟩⟩
  obtain ⟨k, ek, hk⟩ := w7
  rcases zset g1 x1 with ⟨X, X1, X2, X3, rfl⟩ | ⟨b1, b2⟩
  case inr =>
    refine zPr_same hE (v := -1) ?_ ?_
    · rw [zqz_154, zq_154_0, ek, zcI_some, zq_154_3, g2, zl_172]
      rcases b1 with b | b
      · rw [if_pos b, zcI_some, zq_154_9, if_pos rfl]
      · by_cases h0 : x1 ≤ 0
        · rw [if_pos h0, zcI_some, zq_154_9, if_pos rfl]
        · rw [if_neg h0, if_pos b, zcI_some, zq_154_9, if_pos rfl]
    · rw [zqz_245, zq_245_0, zl_179]
      by_cases h0 : x1 < 1
      · rw [if_pos h0, zcI_some, zq_245_4, if_pos rfl]
      · rw [if_neg h0]
        by_cases h1 : 255 < x1
        · rw [if_pos h1, zcI_some, zq_245_4, if_pos rfl]
        · rw [if_neg h1, zcI_some, zq_245_4, if_neg (by decide), g3, if_pos ((b2.resolve_left h0).resolve_left h1)]
  obtain ⟨c1, c2, c3, c4⟩ := zset_t g1 X1 X2 X3
  have i1 : ∀ s J, zf_179 [.int (nI X), .int 1, .int 255] (zMk (s, J)) = some (.int 1, zMk (s, J)) := fun s J => by rw [zl_179, if_neg c3, if_neg c4]
  have hX : zTl0 st X := ⟨X1, fun i _ hb => zset_b X3 i hb⟩
  have c172 : zf_172 [.int (nI X), .int (I 20 11)] (zMk (s, I)) = some (.int 1, zMk (s, I)) := by rw [zl_172, if_neg c1, g2, if_neg (not_not_intro c2)]
  by_cases hw : x2 = -1 ∨ x2 = 10 ∨ zin x2 7
  case neg =>
    have n7 : ¬ zin x2 7 := fun h => hw (Or.inr (Or.inr h))
    have hk0 : k = 0 := by
      rcases hk with ⟨h, -⟩ | ⟨-, h⟩
      · exact absurd h n7
      · exact h
    refine zPr_same hE (v := -1) ?_ ?_
    · rw [zqz_154, zq_154_0, ek, zcI_some, zq_154_3, c172, zcI_some, zq_154_9, if_neg (by decide), if_neg (fun h => hw (Or.inl h)), if_neg (fun h => hw (Or.inr (Or.inl h))), hk0, if_neg (not_not_intro rfl)]
    · have i17 : zf_179 [.int x2, .int (-1), .int 7] (zMk (s, I)) = some (.int 0, zMk (s, I)) := by
        rw [zl_179]
        by_cases a1 : x2 < (-1)
        · rw [if_pos a1]
        · rw [if_neg a1]
          by_cases a2 : 7 < x2
          · rw [if_pos a2]
          · exfalso
            by_cases a3 : x2 < 0
            · have t1 : x2.toInt < 0 := by have := Int32.lt_iff_toInt_lt.mp a3; rwa [show (0 : Int32).toInt = 0 from rfl] at this
              have t2 : -1 ≤ x2.toInt := by have := Int32.le_iff_toInt_le.mp (Int32.not_lt.mp a1); rwa [show ((-1 : Int32)).toInt = -1 by decide] at this
              exact hw (Or.inl (Int32.toInt_inj.mp (by rw [show ((-1 : Int32)).toInt = -1 by decide]; omega)))
            · exact n7 ((zin_iff (by decide)).mpr ⟨a3, a2⟩)
      rw [zqz_245, zq_245_0, i1, zcI_some, zq_245_4, if_neg (by decide), g3, if_neg (not_not_intro c2), if_neg (fun h => hw (Or.inr (Or.inl h))), i17, zcI_some, zq_245_19, if_neg (not_not_intro rfl)]
  have c20 : zf_154 [.ref 0, .int (nI X), .int x2] (zMk (s, I)) = zQ_154 (20, [.ref 0, .int (nI X), .int x2, .int k], [], zMk (s, I)) := by
    rw [zqz_154, zq_154_0, ek, zcI_some, zq_154_3, c172, zcI_some, zq_154_9, if_neg (by decide)]
    by_cases a1 : x2 = -1
    · rw [if_pos a1]
    · rw [if_neg a1]
      by_cases a2 : x2 = 10
      · rw [if_pos a2]
      · rw [if_neg a2]
        rcases hk with ⟨h, hk⟩ | ⟨h, -⟩
        · rw [hk, if_pos (show ¬ (1 : Int32) = 0 by decide)]
        · rcases hw with h' | h' | h'
          · exact absurd h' a1
          · exact absurd h' a2
          · exact absurd h' h
  have i07 : ∀ s J, zf_179 [.int x2, .int 0, .int 7] (zMk (s, J)) = some (.int k, zMk (s, J)) := by
    intro s J
    rcases hk with ⟨h, hk⟩ | ⟨h, hk⟩
    · rw [hk]
      exact in_t (m := 7) 7 rfl (by decide) h
    · rw [hk]
      exact in_f (m := 7) 7 rfl (by decide) h
  have r26 : ∀ s J, J 58 43 = nI st.H → zf_245 [.ref 58, .int (nI X), .int x2] (zMk (s, J)) = zQ_245 (26, [.ref 58, .int (nI X), .int x2, .long 0, .long 0, .long 0, .long 0], [.int k], zMk (s, J)) := by
    intro s J hJ
    rw [zqz_245, zq_245_0, i1, zcI_some, zq_245_4, if_neg (by decide), hJ, if_neg (not_not_intro c2)]
    by_cases a2 : x2 = 10
    · rw [if_pos a2, i07, zcI_some]
    · rw [if_neg a2]
      have i17 : zf_179 [.int x2, .int (-1), .int 7] (zMk (s, J)) = some (.int 1, zMk (s, J)) := by
        rw [zl_179]
        rcases hw with h | h | ⟨j, hj, rfl⟩
        · rw [h, if_neg (by decide), if_neg (by decide)]
        · exact absurd h a2
        · rw [if_neg (fun q => absurd (Int32.lt_trans q (show (-1 : Int32) < 0 by decide)) (nI_pos (by omega))), if_neg (show ¬ (7 : Int32) < nI j from nI_nlt (b := j) (a := 7) hj (by decide))]
      rw [i17, zcI_some, zq_245_19, if_pos (show ¬ (1 : Int32) = 0 by decide), i07, zcI_some]
  by_cases hno : zin x2 7 ∧ X.testBit (zi x2) = false
  case pos =>
    obtain ⟨⟨j, hj, rfl⟩, hb⟩ := hno
    rw [zi_nI (by omega)] at hb
    have hk1 : k = 1 := by
      rcases hk with ⟨-, h⟩ | ⟨h, -⟩
      · exact h
      · exact absurd ⟨j, hj, rfl⟩ h
    refine zPr_same hE (v := -2) ?_ ?_
    · rw [c20, zq_154_20, hk1, if_neg (show ¬ (1 : Int32) = 0 by decide), bit_shr j (by omega) X X1, hb, if_neg (show ¬ (false = true) by decide), if_neg (not_not_intro rfl)]
    · rw [r26 s I g3, zq_245_26, hk1, if_neg (show ¬ (1 : Int32) = 0 by decide), bit_shr j (by omega) X X1, hb, if_neg (show ¬ (false = true) by decide), if_neg (not_not_intro rfl)]
  have hyes : k = 0 ∨ (k = 1 ∧ ∃ j, j < 8 ∧ x2 = nI j ∧ X.testBit j = true) := by
    rcases hk with ⟨⟨j, hj, rfl⟩, hk⟩ | ⟨-, hk⟩
    · refine Or.inr ⟨hk, j, by omega, rfl, ?_⟩
      cases hb : X.testBit j with
      | true => rfl
      | false => exact absurd ⟨⟨j, hj, rfl⟩, by rw [zi_nI (by omega)]; exact hb⟩ hno
    · exact Or.inl hk
  obtain ⟨s1, J1, e1, hE1, hF1, hF2, cv, hs1⟩ := zf21 hX hE
  obtain ⟨J2, e2, k1, k2, k3⟩ := zf23 (L := L) hX s1 ⟨hE1, hF1, hF2⟩
  have sc2 : zScr J1 J2 := by
    have h27 : zScr J1 (fun r => if r = 27 then J2 27 else J1 r) := zScr_1 (k := 27) rfl (fun r hr => if_neg hr)
    have h28 : zScr (fun r => if r = 27 then J2 27 else J1 r) (fun r => if r = 27 then J2 27 else if r = 28 then J2 28 else J1 r) := zScr_1 (k := 28) rfl (fun r hr => by
      show (if r = 27 then J2 27 else if r = 28 then J2 28 else J1 r) = (if r = 27 then J2 27 else J1 r)
      rw [if_neg (show ¬ r = 28 from hr)])
    have h29 : zScr (fun r => if r = 27 then J2 27 else if r = 28 then J2 28 else J1 r) J2 := zScr_1 (k := 29) rfl (fun r hr => by
      show J2 r = (if r = 27 then J2 27 else if r = 28 then J2 28 else J1 r)
      by_cases a : r = 27
      · rw [if_pos a, a]
      · rw [if_neg a]
        by_cases b : r = 28
        · rw [if_pos b, b]
        · rw [if_neg b]
          exact k1 r a b hr)
    exact zScr_tr h27 (zScr_tr h28 h29)
  have hE2 := zEv_Scr hE1 sc2
  obtain ⟨J3, e3, g3', hR3, -⟩ := zbegins hE2
  obtain ⟨J4, e4, sc4, m1, m2⟩ := zf243 hX s1 hR3
  have hR4 := Rep_Scr hR3.1 sc4
  obtain ⟨-, -, g3'', -⟩ := hE2.1.2.2.2.2.2.2.1
  have c38 : zf_154 [.ref 0, .int (nI X), .int x2] (zMk (s, I)) = zQ_154 (38, [.ref 0, .int (nI X), .int x2, .int k], [], zMk (s1, J2)) := by
    rw [c20, zq_154_20]
    rcases hyes with h | ⟨h, j, hj, rfl, hb⟩
    · rw [if_pos h, e1, zcV_some, zq_154_34, e2, zcV_some]
    · rw [h, if_neg (show ¬ (1 : Int32) = 0 by decide), bit_shr j hj X X1, if_pos hb, if_pos (show ¬ (1 : Int32) = 0 by decide), e1, zcV_some, zq_154_34, e2, zcV_some]
  have r44 : zf_245 [.ref 58, .int (nI X), .int x2] (zMk (s1, J2)) = zQ_245 (44, [.ref 58, .int (nI X), .int x2, .long 0, .long 0, .long 0, .long 0], [.int k], zMk (s1, J4)) := by
    rw [r26 s1 J2 g3'', zq_245_26]
    rcases hyes with h | ⟨h, j, hj, rfl, hb⟩
    · rw [if_pos h, e3, zcV_some, zq_245_37, e4, zcV_some, zq_245_40, i07, zcI_some]
    · rw [if_neg (show ¬ k = 0 by rw [h]; decide), bit_shr j hj X X1, if_pos hb, if_pos (show ¬ (1 : Int32) = 0 by decide), e3, zcV_some, zq_245_37, e4, zcV_some, zq_245_40, i07, zcI_some]
  have hfin := zEv_Scr hE2 (zScr_tr g3' sc4)
  rcases hyes with h | ⟨h, j, hj, rfl, hb⟩
  · have z8 : 0 = 0 := rfl
    have lp := fun x2 => zlp245 (L := L) hX s1 hR4 m1 m2 x2 8 0 (0, 0) (.long 0) rfl
    have t27 := zlp27 (L := L) hX s1 f1 k3 8 0 (0, 0) rfl
    have t28 := zlp28 (L := L) hX s1 f1 k2 k3 8 0 (0, 0) rfl
    refine zPr_mk (v := if ¬ x2 = -1 then (ztot (zsnd (zBx L st X) st.Q X) (zbv L st) 8 0 (0, 0)).2 else nI (ztot (zsnd (zBx L st X) st.Q X) (zbv L st) 8 0 (0, 0)).1) (s1 := s1) (I1 := J2) (I2 := J4) ?_ ?_ hfin (zXe_tr (zXe_Cv cv) (zXe_Scr (zScr_tr sc2 (zScr_tr g3' sc4))))
    · rw [c38, zq_154_38, if_pos h]
      have f27 : zf_27 [.ref 20, .int (nI X)] (zMk (s1, J2)) = some (.int (nI (ztot (zsnd (zBx L st X) st.Q X) (zbv L st) 8 0 (0, 0)).1), zMk (s1, J2)) := by
        rw [zqz_27, zq_27_0]
        exact t27
      have f28 : zf_28 [.ref 20, .int (nI X)] (zMk (s1, J2)) = some (.int (ztot (zsnd (zBx L st X) st.Q X) (zbv L st) 8 0 (0, 0)).2, zMk (s1, J2)) := by
        rw [zqz_28, zq_28_0]
        exact t28
      by_cases hm : ¬ x2 = -1
      · rw [if_pos hm, if_pos hm, f28, zcI_some, zq_154_57]
      · rw [if_neg hm, if_neg hm, f27, zcI_some, zq_154_52, zq_154_57]
    · rw [r44, zq_245_44, if_pos h]
      exact lp x2
  · refine zPr_mk (v := nI (zsnd (zBx L st X) st.Q X j)) (s1 := s1) (I1 := J2) (I2 := J4) ?_ ?_ hfin (zXe_tr (zXe_Cv cv) (zXe_Scr (zScr_tr sc2 (zScr_tr g3' sc4))))
    · rw [c38, zq_154_38, h, if_neg (show ¬ (1 : Int32) = 0 by decide), zl_26, if_pos (zb_t hj (by omega)), nI_clamp (show j < 2 ^ 31 by omega), k3 j hj, zcI_some, zq_154_44]
    · rw [r44, zq_245_44, h, if_neg (show ¬ (1 : Int32) = 0 by decide), zf244 hX s1 hR4 m1 m2 hj, zcI_some, zq_245_49]
