/-! SHOPS: THE CLASS'S SPOTS; THE CALL -/
/-- the places of a set, so far, in the row of spots -/
def zspt (X n k : Nat) (I : Nat → Nat → Int32) : Prop := n = zcn (fun p => X.testBit p) k ∧ (∀ j, j < n → ∃ p, p < k ∧ X.testBit p = true ∧ I 52 j = nI p) ∧ ∀ p, p < k → X.testBit p = true → ∃ j, j < n ∧ I 52 j = nI p
theorem zlp44 {X P : Nat} {s : zQs} (hP : P ≤ 20) (hX : X < 2 ^ P) (h3 : zcn (fun p => X.testBit p) 20 ≤ 3) : ∀ m k n (I : Nat → Nat → Int32), k + m = P → I 1 10 = nI P → zspt X n k I →
    ∃ J n' k', zQ_44 (4, [.ref 50, .int (nI X), .int (nI n), .int (nI k)], [], zMk (s, I)) = zQ_44 (26, [.ref 50, .int (nI X), .int (nI n'), .int k'], [], zMk (s, J)) ∧ (∀ r, r ≠ 52 → J r = I r) ∧ n' ≤ 3 ∧ zspt X n' P J
  | 0, k, n, I, h, p1, hS => by
    have h : k = P := by omega
    subst h
    have hc := zcn_mon (f := fun p => X.testBit p) hP
    have hn := hS.1
    refine ⟨I, n, nI k, ?_, fun _ _ => rfl, by omega, hS⟩
    rw [zq_44_4, p1, if_pos (nI_le (Nat.le_refl _) (by omega))]
  | m + 1, k, n, I, h, p1, hS => by
    have hc := zcn_mon (f := fun p => X.testBit p) (show k ≤ 20 by omega)
    have hn := hS.1
    have hX2 : X < 2 ^ 20 := Nat.lt_of_lt_of_le hX (Nat.pow_le_pow_right (by decide) hP)
    rw [zq_44_4, p1, if_neg (nI_ge (by omega) (by omega))]
    by_cases c3 : 3 ≤ n
    · refine ⟨I, n, nI k, ?_, fun _ _ => rfl, by omega, ?_⟩
      · rw [if_pos (show (3 : Int32) ≤ nI n from nI_le (a := 3) c3 (by omega))]
      · have hf := zcn_end (f := fun p => X.testBit p) (show k ≤ 20 by omega) (by omega)
        obtain ⟨a1, a2, a3⟩ := hS
        have hc2 := zcn_mon (f := fun p => X.testBit p) (show k ≤ P by omega)
        have hc3 := zcn_mon (f := fun p => X.testBit p) hP
        refine ⟨by omega, fun j hj => ?_, fun p hp hb => ?_⟩
        · obtain ⟨p, q1, q2, q3⟩ := a2 j hj
          exact ⟨p, by omega, q2, q3⟩
        · by_cases hk : p < k
          · exact a3 p hk hb
          · have := hf p (by omega) (by omega)
            have this : X.testBit p = false := this
            rw [this] at hb
            cases hb
    · rw [if_neg (show ¬ (3 : Int32) ≤ nI n from nI_ge (b := 3) (by omega) (by decide)), bit_gen (show X < 2 ^ 31 by omega) (show k < 31 by omega)]
      obtain ⟨a1, a2, a3⟩ := hS
      by_cases hb : X.testBit k = true
      · obtain ⟨J, n', k', e, j1, j2, j3⟩ := zlp44 hP hX h3 m (k + 1) (n + 1) (zwA I 52 (upd (I 52) n (nI k))) (by omega) (by rw [zwA_n (by decide)]; exact p1) (by
          refine ⟨?_, fun j hj => ?_, fun p hp hbp => ?_⟩
          · rw [zcn_s, ← a1]
            show n + 1 = n + (if X.testBit k = true then 1 else 0)
            rw [if_pos hb]
          · rw [zwA_s, upd_at]
            by_cases hj2 : j = n
            · rw [if_pos hj2]
              exact ⟨k, by omega, hb, rfl⟩
            · rw [if_neg hj2]
              obtain ⟨p, q1, q2, q3⟩ := a2 j (by omega)
              exact ⟨p, by omega, q2, q3⟩
          · by_cases hk : p = k
            · subst hk
              exact ⟨n, by omega, by rw [zwA_s, upd_at, if_pos rfl]⟩
            · obtain ⟨j, q1, q2⟩ := a3 p (by omega) hbp
              exact ⟨j, by omega, by rw [zwA_s, upd_at, if_neg (by omega)]; exact q2⟩)
        refine ⟨J, n', k', ?_, fun r hr => (j1 r hr).trans (zwA_n hr), j2, j3⟩
        rw [if_pos hb, if_neg (show ¬ (1 : Int32) = 0 by decide), if_pos (zb_t (show n < 3 by omega) (by omega)), nI_clamp (show n < 2 ^ 31 by omega), nI_1, nI_1]
        exact e
      · obtain ⟨J, n', k', e, j1, j2, j3⟩ := zlp44 hP hX h3 m (k + 1) n I (by omega) p1 (by
          refine ⟨?_, fun j hj => ?_, fun p hp hbp => ?_⟩
          · rw [zcn_s, ← a1]
            show n = n + (if X.testBit k = true then 1 else 0)
            rw [if_neg hb]
            rfl
          · obtain ⟨p, q1, q2, q3⟩ := a2 j hj
            exact ⟨p, by omega, q2, q3⟩
          · by_cases hk : p = k
            · subst hk
              exact absurd hbp hb
            · exact a3 p (by omega) hbp)
        refine ⟨J, n', k', ?_, j1, j2, j3⟩
        rw [if_neg hb, if_pos rfl, nI_1]
        exact e
theorem zf44 {L : zLw} {st : zSt} {s : zQs} {I : Nat → Nat → Int32} {X : Nat} (hE : zEv L st s I) (hM : zMt L st I) (hX : X < 2 ^ st.P) (h0 : 0 < X) (h3 : zcn (fun p => X.testBit p) 20 ≤ 3) :
    ∃ J, zf_44 [.ref 50, .int (nI X)] (zMk (s, I)) = some (.int (nI (zmk L st (fun p => X.testBit p) st.Q)), zMk (s, J)) ∧ ∀ r, r ≠ 52 → J r = I r := by
  have hP := zEv_P hE.1
  obtain ⟨J, n, k', e, j1, j2, a1, a2, a3⟩ := zlp44 (s := s) hP hX h3 st.P 0 0 I (Nat.zero_add _) (zEv_p1 hE.1) ⟨rfl, fun j hj => absurd hj (Nat.not_lt_zero j), fun p hp => absurd hp (Nat.not_lt_zero p)⟩
  have e : zQ_44 (4, [.ref 50, .int (nI X), .int 0, .int 0], [], zMk (s, I)) = _ := e
  have hn : 0 < n := by
    cases hz : n with
    | zero =>
      exfalso
      have : X = 0 := by
        apply Nat.eq_of_testBit_eq
        intro i
        rw [Nat.zero_testBit]
        by_cases hi : i < st.P
        · cases hb : X.testBit i with
          | false => rfl
          | true =>
            obtain ⟨j, hj, -⟩ := a3 i hi hb
            omega
        · exact Nat.testBit_lt_two_pow (Nat.lt_of_lt_of_le hX (Nat.pow_le_pow_right (by decide) (by omega)))
      omega
    | succ n => omega
  have sc : zScr I J := zScr_1 (k := 52) rfl j1
  have hEJ := zEv_Scr hE sc
  have hMJ := zMt_n hM (j1 51 (by decide))
  obtain ⟨a, ha, hab, ea⟩ := a2 0 hn
  obtain ⟨b, hb, hbb, eb⟩ := a2 (if n ≤ 1 then 0 else 1) (by split <;> omega)
  obtain ⟨c, hc, hcb, ec⟩ := a2 (if n ≤ 2 then 0 else 2) (by split <;> omega)
  have hS : ∀ p, p < st.P → X.testBit p = zin3 a b c p := by
    intro p hp
    cases hbp : X.testBit p with
    | true =>
      obtain ⟨j, hj, ej⟩ := a3 p hp hbp
      have w : p = a ∨ p = b ∨ p = c := by
        have inj : ∀ u, u < st.P → I 52 0 = I 52 0 → nI p = nI u → p = u := fun u hu _ q => (nI_eq (by omega) (by omega)).mp q
        by_cases j0 : j = 0
        · rw [j0, ea] at ej
          exact Or.inl (inj a ha rfl ej.symm)
        · by_cases k1 : j = 1
          · rw [if_neg (by omega)] at eb
            rw [k1, eb] at ej
            exact Or.inr (Or.inl (inj b hb rfl ej.symm))
          · rw [if_neg (by omega)] at ec
            rw [show j = 2 by omega, ec] at ej
            exact Or.inr (Or.inr (inj c hc rfl ej.symm))
      exact (decide_eq_true w).symm
    | false =>
      symm
      apply decide_eq_false
      rintro (rfl | rfl | rfl)
      · rw [hab] at hbp; cases hbp
      · rw [hbb] at hbp; cases hbp
      · rw [hcb] at hbp; cases hbp
  refine ⟨J, ?_, j1⟩
  have e45 := zf45 (L := L) (s := s) hEJ.1 hMJ ha hb hc
  rw [← zmk_cg hS] at e45
  rw [zqz_44, zq_44_0, e, zq_44_26]
  by_cases c1 : n ≤ 1
  · rw [if_pos c1] at eb
    rw [if_pos (show n ≤ 2 by omega)] at ec
    have z0 : zb (0 : Int32) 3 := by decide
    have t0 : (0 : Int32).toNatClampNeg = 0 := rfl
    rw [if_pos (show nI n ≤ (1 : Int32) from nI_le (b := 1) c1 (by decide)), zq_44_39, if_pos z0, if_pos (show nI n ≤ (2 : Int32) from nI_le (b := 2) (by omega) (by decide)), t0]
    rw [← ea] at e45
    have hbb : nI b = J 52 0 := eb.symm
    have hcc : nI c = J 52 0 := ec.symm
    rw [hbb, hcc] at e45
    rw [e45, zcI_some, zq_44_50]
  · rw [if_neg c1] at eb
    have z1 : zb (1 : Int32) 3 := by decide
    have t1 : (1 : Int32).toNatClampNeg = 1 := rfl
    rw [if_neg (show ¬ nI n ≤ (1 : Int32) from nI_ge (a := 1) (by omega) (by omega)), zq_44_39, if_pos z1, t1]
    have hbb : nI b = J 52 1 := eb.symm
    rw [← ea, hbb] at e45
    by_cases c2 : n ≤ 2
    · rw [if_pos c2] at ec
      have hcc : nI c = J 52 0 := ec.symm
      rw [hcc] at e45
      rw [if_pos (show nI n ≤ (2 : Int32) from nI_le (b := 2) c2 (by decide)), e45, zcI_some, zq_44_50]
    · rw [if_neg c2] at ec
      have hcc : nI c = J 52 2 := ec.symm
      rw [hcc] at e45
      rw [if_neg (show ¬ nI n ≤ (2 : Int32) from nI_ge (a := 2) (by omega) (by omega)), e45, zcI_some, zq_44_50]
theorem zp_shops {L : zLw} {st : zSt} {s : zQs} {I : Nat → Nat → Int32} (hE : zEv L st s I) (x1 : Int32) : zPr L st s I (zf_157 [.ref 0, .int x1]) (zf_253 [.ref 58, .int x1]) := by
  have hP := zEv_P hE.1
  have p1 := zEv_p1 hE.1
  have p2 := zEv_p2 hE.1
  have hsh : ∀ P, P ≤ 20 → (1 : Int32) <<< (nI P &&& 31) = nI (2 ^ P) := by decide +kernel
  have hpos : 0 < 2 ^ st.P := Nat.two_pow_pos st.P
  have hp20 : 2 ^ st.P ≤ 2 ^ 20 := Nat.pow_le_pow_right (by decide) hP
  have e1 : (1 : Int32) <<< (nI st.P &&& 31) - 1 = nI (2 ^ st.P - 1) := by
    rw [hsh _ hP]
    exact nI_sub (a := 2 ^ st.P) (b := 1) hpos
  by_cases h1 : x1 < 1
  · refine zPr_same hE (v := -1) ?_ ?_
    · have h0 : x1 ≤ 0 := by
        have a : x1.toInt < 1 := Int32.lt_iff_toInt_lt.mp h1
        apply Int32.le_iff_toInt_le.mpr
        show x1.toInt ≤ 0
        omega
      rw [zqz_157, zq_157_0, zl_0, zcI_some, zq_157_2, zl_172, if_pos h0, zcI_some, zq_157_12, if_pos rfl]
    · rw [zqz_253, zq_253_0, if_pos h1]
  have hmax : ¬ nI (2 ^ 31 - 1) < x1 := by
    have a := Int32.toInt_lt x1
    intro q
    have q := Int32.lt_iff_toInt_lt.mp q
    rw [nI_toInt (by decide)] at q
    omega
  obtain ⟨X, X1, X2, rfl⟩ := zin1 (n := 2 ^ 31 - 1) (by decide) h1 hmax
  have h0 : ¬ nI X ≤ 0 := nI_ge (b := X) (a := 0) (by omega) (by omega)
  by_cases hX : X < 2 ^ st.P
  case neg =>
    refine zPr_same hE (v := -1) ?_ ?_
    · rw [zqz_157, zq_157_0, zl_0, zcI_some, zq_157_2, p1, e1, zl_172, if_neg h0, if_pos (fun q => hX ((bit_out (by omega) hP).mp q)), zcI_some, zq_157_12, if_pos rfl]
    · rw [zqz_253, zq_253_0, if_neg h1, p2, hsh _ hP, if_pos (nI_le (by omega) (by omega))]
  have hX20 : X < 2 ^ 20 := by omega
  have c12 : zf_157 [.ref 0, .int (nI X)] (zMk (s, I)) = zQ_157 (12, [.ref 0, .int (nI X), .int (nI (zcn (fun i => X.testBit i) 20))], [.int 1], zMk (s, I)) := by
    rw [zqz_157, zq_157_0, zf0b s I hX20, zcI_some, zq_157_2, p1, e1, zl_172, if_neg h0, if_neg (not_not_intro ((bit_out (by omega) hP).mpr hX)), zcI_some]
  have r11 : ∀ s (J : Nat → Nat → Int32), J 58 0 = nI st.P → zf_253 [.ref 58, .int (nI X)] (zMk (s, J)) = zQ_253 (11, [.ref 58, .int (nI X)], [.int (nI (zcn (fun i => X.testBit i) 20))], zMk (s, J)) := fun s J h => by
    rw [zqz_253, zq_253_0, if_neg h1, h, hsh _ hP, if_neg (nI_ge (by omega) (by omega)), zf182b s J hX20, zcI_some]
  have hc20 : zcn (fun i => X.testBit i) 20 ≤ 20 := zcn_le _ 20
  by_cases h3 : zcn (fun i => X.testBit i) 20 ≤ 3
  case neg =>
    refine zPr_same hE (v := -1) ?_ ?_
    · rw [c12, zq_157_12, if_neg (by decide), if_neg (show ¬ nI (zcn (fun i => X.testBit i) 20) ≤ (3 : Int32) from nI_ge (a := 3) (by omega) (by omega))]
    · rw [r11 s I p2, zq_253_11, if_neg (show ¬ nI (zcn (fun i => X.testBit i) 20) ≤ (3 : Int32) from nI_ge (a := 3) (by omega) (by omega))]
  obtain ⟨s1, J1, e42, hE1, hM1, xe1, -⟩ := zf42 hE
  obtain ⟨J2, e44, j2⟩ := zf44 hE1 hM1 hX (by omega) h3
  have sc2 : zScr J1 J2 := zScr_1 (k := 52) rfl j2
  have hE2 := zEv_Scr hE1 sc2
  obtain ⟨J3, e3, sc3, hR3, -⟩ := zbegins hE2
  obtain ⟨J4, e4, k1, hR4⟩ := zf252 hX20 hR3
  refine zPr_mk (v := nI (zmk L st (fun p => X.testBit p) st.Q)) (s1 := s1) (I1 := J2) (I2 := J4) ?_ ?_ (zEv_Scr hE2 (zScr_tr sc3 (zScr_Rs k1))) (zXe_tr xe1 (zXe_Scr (zScr_tr sc2 (zScr_tr sc3 (zScr_Rs k1)))))
  · rw [c12, zq_157_12, if_neg (by decide), if_pos (show nI (zcn (fun i => X.testBit i) 20) ≤ (3 : Int32) from nI_le (b := 3) h3 (by decide)), e42, zcV_some, zq_157_21, e44, zcI_some, zq_157_25]
  · rw [r11 s1 J2 (zEv_p2 hE2.1), zq_253_11, if_pos (show nI (zcn (fun i => X.testBit i) 20) ≤ (3 : Int32) from nI_le (b := 3) h3 (by decide)), e3, zcV_some, zq_253_17, e4, zcI_some, zq_253_20]
