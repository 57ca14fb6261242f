/-! WHO BRINGS WHAT: ONE THING BY ONE PERSON -/
def zTl0 (st : zSt) (X : Nat) : Prop := X < 256 ∧ ∀ i, i < 8 → X.testBit i = true → st.H.testBit i = true
theorem zlp21 {L : zLw} {st : zSt} {X : Nat} (hX : zTl0 st X) : ∀ d i (s : zQs) (I : Nat → Nat → Int32), i + d = 8 → zEv L st s I → zFsh L st s I 0 → (∀ j, j < i → X.testBit j = true → zFsh L st s I (st.tw j)) →
    ∃ s' J, zQ_21 (6, [.ref 20, .int (nI X), .int (nI i)], [], zMk (s, I)) = some (.long 0, zMk (s', J)) ∧ zEv L st s' J ∧ zFsh L st s' J 0 ∧ (∀ j, j < 8 → X.testBit j = true → zFsh L st s' J (st.tw j)) ∧ zCv I J ∧ s'.2.2 = s.2.2
  | 0, i, s, I, h, hE, hF, hf => by
    have h : i = 8 := by omega
    subst h
    refine ⟨s, I, ?_, hE, hF, hf, zCv_rfl I, rfl⟩
    rw [zq_21_6, if_pos (show (8 : Int32) ≤ nI 8 by decide)]
  | d + 1, i, s, I, h, hE, hF, hf => by
    have hi : i < 8 := by omega
    rw [zq_21_6, if_neg (show ¬ (8 : Int32) ≤ nI i from nI_ge (b := 8) hi (by decide)), bit_shr i hi X hX.1]
    by_cases hb : X.testBit i = true
    · rw [if_pos hb, if_neg (show ¬ (1 : Int32) = 0 by decide), if_pos (zb_t hi (by omega)), nI_clamp (show i < 2 ^ 31 by omega)]
      obtain ⟨-, -, -, hth⟩ := hE.1.2.2.2.2.2.2.1
      obtain ⟨t1, t2, t3, t4, t5, t6, t7, t8, t9⟩ := hth i hi (hX.2 i hi hb)
      obtain ⟨s1, J1, e1, h1, h2, h3, h4, h5⟩ := zfresh hE (l := st.tw i) t3
      obtain ⟨s2, J2, e2, k1, k2, k3, k4, k5⟩ := zlp21 hX d (i + 1) s1 J1 (by omega) h1 (h3 0 (by decide) hF) (fun j hj hbj => by
        by_cases hji : j = i
        · subst hji
          exact h2
        · have := hth j (by omega) (hX.2 j (by omega) hbj)
          exact h3 _ this.2.2.1 (hf j (by omega) hbj))
      refine ⟨s2, J2, ?_, k1, k2, k3, zCv_tr h4 k4, k5.trans h5⟩
      rw [t6, e1, zcV_some, zq_21_22, nI_1]
      exact e2
    · rw [if_neg hb, if_pos rfl, zq_21_22, nI_1]
      exact zlp21 hX d (i + 1) s I (by omega) hE hF (fun j hj hbj => by
        by_cases hji : j = i
        · subst hji
          exact absurd hbj hb
        · exact hf j (by omega) hbj)
theorem zf21 {L : zLw} {st : zSt} {s : zQs} {I : Nat → Nat → Int32} {X : Nat} (hX : zTl0 st X) (hE : zEv L st s I) :
    ∃ s' J, zf_21 [.ref 20, .int (nI X)] (zMk (s, I)) = some (.long 0, zMk (s', J)) ∧ zEv L st s' J ∧ zFsh L st s' J 0 ∧ (∀ j, j < 8 → X.testBit j = true → zFsh L st s' J (st.tw j)) ∧ zCv I J ∧ s'.2.2 = s.2.2 := by
  obtain ⟨s1, J1, e1, h1, h2, h3, h4⟩ := zfresh0 hE
  obtain ⟨s2, J2, e2, k1, k2, k3, k4, k5⟩ := zlp21 hX 8 0 s1 J1 rfl h1 h2 (fun j hj _ => absurd hj (Nat.not_lt_zero j))
  refine ⟨s2, J2, ?_, k1, k2, k3, zCv_tr h3 k4, k5.trans h4⟩
  rw [zqz_21, zq_21_0, e1, zcV_some, zq_21_4]
  exact e2
/-- own way, way about -/
def zown (L : zLw) (st : zSt) (p : Nat) : Option Nat := zdc L st 0 (st.pf p) (st.pt p)
def zabt (L : zLw) (st : zSt) (p i : Nat) : Option Nat := zsm (zdc L st 0 (st.pf p) (st.tf i)) (zsm (zdc L st (st.tw i) (st.tf i) (st.tt i)) (zdc L st 0 (st.tt i) (st.pt p)))
/-- what it takes; far where it can't be -/
def ztks (L : zLw) (st : zSt) (p i : Nat) (far : Int32) : Int32 := match zown L st p, zabt L st p i with
  | some o, some r => nI r - nI o
  | _, _ => far
theorem zown_le {L : zLw} {st : zSt} (hs : zsmall L st) (hP : st.P ≤ 20) {p x : Nat} (h1 : st.pf p < st.P) (h2 : st.pt p < st.P) (h : zown L st p = some x) : x ≤ 189981 := zdc_le hs hP h1 h2 h
theorem zsm_some {a b : Option Nat} {x : Nat} (h : zsm a b = some x) : ∃ u v, a = some u ∧ b = some v ∧ x = u + v := by
  cases a with
  | none => cases h
  | some u =>
    cases b with
    | none => cases h
    | some v => exact ⟨u, v, rfl, rfl, (Option.some.inj h).symm⟩
theorem zabt_le {L : zLw} {st : zSt} (hs : zsmall L st) (hP : st.P ≤ 20) {p i x : Nat} (h1 : st.pf p < st.P) (h2 : st.pt p < st.P) (h3 : st.tf i < st.P) (h4 : st.tt i < st.P) (h : zabt L st p i = some x) : x ≤ 569943 := by
  obtain ⟨u, v, a1, a2, a3⟩ := zsm_some h
  obtain ⟨u2, v2, b1, b2, b3⟩ := zsm_some a2
  have := zdc_le hs hP h1 h3 a1
  have := zdc_le hs hP h3 h4 b1
  have := zdc_le hs hP h4 h2 b2
  omega
theorem zsub_lt {r o : Nat} (hr : r ≤ 569943) (ho : o ≤ 189981) : (nI r - nI o).toInt = (r : Int) - (o : Int) := by
  rw [Int32.toInt_sub, nI_toInt (show r < 2 ^ 31 by omega), nI_toInt (show o < 2 ^ 31 by omega), Int.bmod_eq_of_le (by omega) (by omega)]
theorem zf22 {L : zLw} {st : zSt} {s : zQs} {I : Nat → Nat → Int32} (hE : zEv L st s I) (hF : zFsh L st s I 0) {p i : Nat} (hp : p < st.Q) (hi : i < 8) (hb : st.H.testBit i = true) (hFi : zFsh L st s I (st.tw i)) :
    zf_22 [.ref 20, .int (nI p), .int (nI i)] (zMk (s, I)) = some (.int (ztks L st p i (-1000000)), zMk (s, I)) := by
  have hP := zEv_P hE.1
  have hs := zEv_small (L := L) (s := s) hE.1
  obtain ⟨f1, f2, f3, fj⟩ := hE.1.2.2.2.2.2.1
  obtain ⟨-, -, -, hth⟩ := hE.1.2.2.2.2.2.2.1
  obtain ⟨p1, p2, p3, p4, p5, p6, -⟩ := fj p hp
  obtain ⟨t1, t2, t3, t4, t5, t6, -⟩ := hth i hi hb
  have zp := zb_t (show p < 8 by omega) (show p < 2 ^ 31 by omega)
  have zi8 := zb_t hi (show i < 2 ^ 31 by omega)
  have cp : (nI p).toNatClampNeg = p := nI_clamp (by omega)
  have ci : (nI i).toNatClampNeg = i := nI_clamp (by omega)
  have e1 : zf_121 [.ref 16, .int (nI (st.pf p)), .int (nI (st.pt p)), .int 0] (zMk (s, I)) = _ := zf121 hE (l := 0) (by decide) hF p1 p2
  have e2 : zf_121 [.ref 16, .int (nI (st.pf p)), .int (nI (st.tf i)), .int 0] (zMk (s, I)) = _ := zf121 hE (l := 0) (by decide) hF p1 t1
  have e3 := zf121 hE (l := st.tw i) t3 hFi t1 t2
  have e4 : zf_121 [.ref 16, .int (nI (st.tt i)), .int (nI (st.pt p)), .int 0] (zMk (s, I)) = _ := zf121 hE (l := 0) (by decide) hF t2 p2
  rw [zqz_22, zq_22_0, if_pos zp, if_pos zp, cp, p4, p5, e1, zcI_some, zq_22_12, if_pos zp, if_pos zi8, cp, ci, p4, t4, e2, zcI_some, zq_22_25, if_pos zi8, if_pos zi8, if_pos zi8, ci, t4, t5, t6, e3, zcI_some, zq_22_40, if_pos zi8, if_pos zp, ci, cp, t5, p5, e4, zcI_some, zq_22_53, nI_add, nI_add]
  have b2 := (zC1_le (fun x hx => zdc_le hs hP p1 t1 (l := 0) hx)).1
  have b3 := (zC1_le (fun x hx => zdc_le hs hP t1 t2 (l := st.tw i) hx)).1
  have b4 := (zC1_le (fun x hx => zdc_le hs hP t2 p2 (l := 0) hx)).1
  unfold ztks zown zabt
  cases h1 : zdc L st 0 (st.pf p) (st.pt p) with
  | none => rw [if_pos (show (100000000 : Int32) ≤ nI (zC1 none) by decide)]
  | some o =>
    have lo := zdc_le hs hP p1 p2 h1
    rw [if_neg (show ¬ (100000000 : Int32) ≤ nI (zC1 (some o)) from nI_ge (b := 100000000) (show o < 100000000 by omega) (by decide))]
    cases h2 : zdc L st 0 (st.pf p) (st.tf i) with
    | none =>
      rw [if_neg (show ¬ nI (zC1 none + zC1 (zdc L st (st.tw i) (st.tf i) (st.tt i)) + zC1 (zdc L st 0 (st.tt i) (st.pt p))) < (100000000 : Int32) from nI_nlt (b := 100000000) (show 100000000 ≤ 100000000 + _ + _ by omega) (show 100000000 + _ + _ < 2 ^ 31 by omega))]
      rfl
    | some c1 =>
      have l1 := zdc_le hs hP p1 t1 h2
      rw [h2] at b2
      cases h3 : zdc L st (st.tw i) (st.tf i) (st.tt i) with
      | none =>
        rw [if_neg (show ¬ nI (zC1 (some c1) + zC1 none + zC1 (zdc L st 0 (st.tt i) (st.pt p))) < (100000000 : Int32) from nI_nlt (b := 100000000) (show 100000000 ≤ c1 + 100000000 + _ by omega) (show c1 + 100000000 + _ < 2 ^ 31 by omega))]
        rfl
      | some c2 =>
        have l2 := zdc_le hs hP t1 t2 h3
        cases h4 : zdc L st 0 (st.tt i) (st.pt p) with
        | none =>
          rw [if_neg (show ¬ nI (zC1 (some c1) + zC1 (some c2) + zC1 none) < (100000000 : Int32) from nI_nlt (b := 100000000) (show 100000000 ≤ c1 + c2 + 100000000 by omega) (show c1 + c2 + 100000000 < 2 ^ 31 by omega))]
          rfl
        | some c3 =>
          have l3 := zdc_le hs hP t2 p2 h4
          rw [if_pos (show nI (zC1 (some c1) + zC1 (some c2) + zC1 (some c3)) < (100000000 : Int32) from nI_lt (b := 100000000) (show c1 + c2 + c3 < 100000000 by omega) (by decide))]
          show some (Value.int (nI (c1 + c2 + c3) - nI o), _) = some (Value.int (nI (c1 + (c2 + c3)) - nI o), _)
          rw [Nat.add_assoc]
theorem zR1_lt {o : Option Nat} {B : Nat} (hB : B < 1000000000) (h : ∀ x, o = some x → x ≤ B) : zR1 o ≤ 1000000000 := by
  cases o with
  | none => exact Nat.le_refl _
  | some x => have := h x rfl; show x ≤ _; omega
theorem zf240 {L : zLw} {st : zSt} {s : zQs} {I : Nat → Nat → Int32} (hE : zRe L st s I) {p i : Nat} (hp : p < st.Q) (hi : i < 8) (hb : st.H.testBit i = true) :
    ∃ J, zf_240 [.ref 58, .int (nI p), .int (nI i)] (zMk (s, I)) = some (.int (ztks L st p i 1000000000), zMk (s, J)) ∧ zRs I J ∧ zRe L st s J := by
  have hP := zEv_P hE.1
  have hs := zEv_small (L := L) (s := s) hE.1
  obtain ⟨f1, f2, f3, fj⟩ := hE.1.2.2.2.2.2.1
  obtain ⟨-, -, -, hth⟩ := hE.1.2.2.2.2.2.2.1
  obtain ⟨p1, p2, p3, -, -, -, p4, p5, -⟩ := fj p hp
  obtain ⟨t1, t2, t3, -, -, -, t4, t5, t6⟩ := hth i hi hb
  have zp := zb_t (show p < 8 by omega) (show p < 2 ^ 31 by omega)
  have zi8 := zb_t hi (show i < 2 ^ 31 by omega)
  have cp : (nI p).toNatClampNeg = p := nI_clamp (by omega)
  have ci : (nI i).toNatClampNeg = i := nI_clamp (by omega)
  obtain ⟨J1, e1, a1, a2⟩ := zf220 hE (l := 0) (by decide) p1 p2
  obtain ⟨J2, e2, b1, b2⟩ := zf220 a2 (l := 0) (by decide) p1 t1
  obtain ⟨J3, e3, c1, c2⟩ := zf220 b2 (l := st.tw i) t3 t1 t2
  obtain ⟨J4, e4, d1, d2⟩ := zf220 c2 (l := 0) (by decide) t2 p2
  have e1 : zf_220 [.ref 58, .int (nI (st.pf p)), .int (nI (st.pt p)), .int 0] (zMk (s, I)) = _ := e1
  have e2 : zf_220 [.ref 58, .int (nI (st.pf p)), .int (nI (st.tf i)), .int 0] (zMk (s, J1)) = _ := e2
  have e4 : zf_220 [.ref 58, .int (nI (st.tt i)), .int (nI (st.pt p)), .int 0] (zMk (s, J3)) = _ := e4
  have k1 : ∀ r, r ≠ 75 → r ≠ 76 → r ≠ 77 → r ≠ 78 → r ≠ 79 → J1 r = I r := a1
  have k2 : zRs I J2 := zRs_tr a1 b1
  have k3 : zRs I J3 := zRs_tr k2 c1
  have u := fun (r : Nat) (h : r < 75 ∨ 79 < r) => k1 r (by omega) (by omega) (by omega) (by omega) (by omega)
  have u2 := fun (r : Nat) (h : r < 75 ∨ 79 < r) => k2 r (by omega) (by omega) (by omega) (by omega) (by omega)
  have u3 := fun (r : Nat) (h : r < 75 ∨ 79 < r) => k3 r (by omega) (by omega) (by omega) (by omega) (by omega)
  refine ⟨J4, ?_, zRs_tr k3 d1, d2⟩
  rw [zqz_240, zq_240_0, if_pos zp, if_pos zp, cp, p4, p5, e1, zcI_some, zq_240_11, if_pos zp, if_pos zi8, cp, ci, u 85 (by omega), u 88 (by omega), p4, t4, e2, zcI_some, zq_240_23, if_pos zi8, if_pos zi8, if_pos zi8, ci, u2 88 (by omega), u2 89 (by omega), u2 90 (by omega), t4, t5, t6, e3, zcI_some, zq_240_37, if_pos zi8, if_pos zp, ci, cp, u3 89 (by omega), u3 86 (by omega), t5, p5, e4, zcI_some, zq_240_48]
  have q2 : ∀ x, zdc L st 0 (st.pf p) (st.tf i) = some x → x ≤ 189981 := fun x hx => zdc_le hs hP p1 t1 hx
  have q3 : ∀ x, zdc L st (st.tw i) (st.tf i) (st.tt i) = some x → x ≤ 189981 := fun x hx => zdc_le hs hP t1 t2 hx
  have q4 : ∀ x, zdc L st 0 (st.tt i) (st.pt p) = some x → x ≤ 189981 := fun x hx => zdc_le hs hP t2 p2 hx
  have q34 : ∀ x, zsm (zdc L st (st.tw i) (st.tf i) (st.tt i)) (zdc L st 0 (st.tt i) (st.pt p)) = some x → x ≤ 379962 := by
    intro x hx
    obtain ⟨u, v, a, b, c⟩ := zsm_some hx
    have := q3 u a
    have := q4 v b
    omega
  rw [zl180 s J4 (zC1_le q3).2 (zC1_le q4).2, zcI_some, zR1_sm (fun x hx => by have := q3 x hx; omega) (fun x hx => by have := q4 x hx; omega), zq_240_49, zl180 s J4 (zC1_le q2).2 (zR1_lt (by decide) q34), zcI_some, zR1_sm (fun x hx => by have := q2 x hx; omega) (fun x hx => by have := q34 x hx; omega), zq_240_50]
  show (if (1000000000 : Int32) ≤ nI (zR1 (zown L st p)) then _ else if nI (zR1 (zabt L st p i)) < 1000000000 then _ else _) = _
  unfold ztks
  cases h1 : zown L st p with
  | none => rw [if_pos (show (1000000000 : Int32) ≤ nI (zR1 none) by decide)]
  | some o =>
    have lo := zown_le hs hP p1 p2 h1
    rw [if_neg (show ¬ (1000000000 : Int32) ≤ nI (zR1 (some o)) from nI_ge (b := 1000000000) (show o < 1000000000 by omega) (by decide))]
    cases h2 : zabt L st p i with
    | none => rw [if_neg (show ¬ nI (zR1 none) < (1000000000 : Int32) by decide)]
    | some r =>
      have lr := zabt_le hs hP p1 p2 t1 t2 h2
      rw [if_pos (show nI (zR1 (some r)) < (1000000000 : Int32) from nI_lt (b := 1000000000) (show r < 1000000000 by omega) (by decide))]
      rw [show zdc L st 0 (st.pf p) (st.pt p) = some o from h1, show zsm (zdc L st 0 (st.pf p) (st.tf i)) (zsm (zdc L st (st.tw i) (st.tf i) (st.tt i)) (zdc L st 0 (st.tt i) (st.pt p))) = some r from h2]
      rfl
theorem bit_one : ∀ k, k < 8 → (1 : Int32) <<< (nI k &&& 31) = nI (2 ^ k) := by decide +kernel
theorem bit_pow : ∀ k, k < 8 → ∀ j, j < 8 → (2 ^ k).testBit j = decide (j = k) := by decide +kernel
theorem pow_256 : ∀ k, k < 8 → 2 ^ k < 256 := by decide +kernel
theorem zp_brought {L : zLw} {st : zSt} {s : zQs} {I : Nat → Nat → Int32} (hE : zEv L st s I) (x1 x2 : Int32) : zPr L st s I (zf_153 [.ref 0, .int x1, .int x2]) (zf_241 [.ref 58, .int x1, .int x2]) := by
  have hP := zEv_P hE.1
  have hs := zEv_small (L := L) (s := s) hE.1
  obtain ⟨f1, f2, f3, fj⟩ := hE.1.2.2.2.2.2.1
  obtain ⟨g1, g2, g3, hth⟩ := hE.1.2.2.2.2.2.2.1
  by_cases h1 : zlt x1 st.Q
  case neg =>
    refine zPr_same hE (v := -2000000) ?_ ?_
    · rw [zqz_153, zq_153_0, f2]
      by_cases h0 : x1 < 0
      · rw [if_pos h0]
      · rw [if_neg h0, if_pos (Classical.byContradiction fun q => h1 ((zlt_iff (by omega)).mpr ⟨h0, q⟩))]
    · rw [zqz_241, zq_241_0, zl_236, f3]
      by_cases h0 : x1 < 0
      · rw [if_pos h0, zcI_some, zq_241_3, if_pos rfl]
      · rw [if_neg h0, if_pos (Classical.byContradiction fun q => h1 ((zlt_iff (by omega)).mpr ⟨h0, q⟩)), zcI_some, zq_241_3, if_pos rfl]
  obtain ⟨a1, a2⟩ := (zlt_iff (by omega)).mp h1
  have r1 : ∀ J : Nat → Nat → Int32, J 58 42 = nI st.Q → ∀ s, zf_236 [.ref 58, .int x1] (zMk (s, J)) = some (.int 1, zMk (s, J)) := fun J hJ s => by rw [zl_236, hJ, if_neg a1, if_neg a2]
  by_cases h2 : zin x2 7
  case neg =>
    refine zPr_same hE (v := -2000000) ?_ ?_
    · rw [zqz_153, zq_153_0, f2, if_neg a1, if_neg a2, wi_f (m := 7) 7 rfl (by decide) h2, zcI_some, zq_153_10, if_pos rfl]
    · rw [zqz_241, zq_241_0, r1 I f3, zcI_some, zq_241_3, if_neg (by decide), zl_237]
      by_cases h0 : x2 < 0
      · rw [if_pos h0, zcI_some, zq_241_7, if_neg (not_not_intro rfl)]
      · rw [if_neg h0, if_pos (show 8 ≤ x2 from Classical.byContradiction fun q => h2 (by obtain ⟨j, hj, e⟩ := (zlt_iff (P := 8) (by decide)).mpr ⟨h0, q⟩; exact ⟨j, by omega, e⟩)), zcI_some, zq_241_7, if_neg (not_not_intro rfl)]
  have w2 := wi_t (s := s) (I := I) (m := 7) 7 rfl (by decide) h2
  obtain ⟨p, hp, rfl⟩ := h1
  obtain ⟨i, hi, rfl⟩ := h2
  have hi8 : i < 8 := by omega
  by_cases hb : st.H.testBit i = true
  case neg =>
    refine zPr_same hE (v := -2000000) ?_ ?_
    · rw [zqz_153, zq_153_0, f2, if_neg a1, if_neg a2, w2, zcI_some, zq_153_10, if_neg (by decide), g2, bit_shr i hi8 _ g1, if_neg hb, if_neg (not_not_intro rfl)]
    · rw [zqz_241, zq_241_0, r1 I f3, zcI_some, zq_241_3, if_neg (by decide), zl_237, if_neg (nI_pos (by omega)), if_neg (show ¬ (8 : Int32) ≤ nI i from nI_ge (b := 8) hi8 (by decide)), g3, bit_shr i hi8 _ g1, if_neg hb, if_pos (by decide), zcI_some, zq_241_7, if_neg (not_not_intro rfl)]
  have hX : zTl0 st (2 ^ i) := ⟨pow_256 i hi8, fun j hj h => by
    rw [bit_pow i hi8 j hj] at h
    rw [of_decide_eq_true h]
    exact hb⟩
  obtain ⟨s1, J1, e1, hE1, hF1, hF2, cv, hs1⟩ := zf21 hX hE
  have c22 := zf22 hE1 hF1 hp hi8 hb (hF2 i hi8 (by rw [bit_pow i hi8 i hi8]; exact decide_eq_true rfl))
  obtain ⟨J2, e2, g, hR2, -⟩ := zbegins hE1
  obtain ⟨J3, e3, g3', hR3⟩ := zf240 hR2 hp hi8 hb
  obtain ⟨-, -, f3', -⟩ := hE1.1.2.2.2.2.2.1
  obtain ⟨-, -, g3'', -⟩ := hE1.1.2.2.2.2.2.2.1
  refine zPr_mk (v := ztks L st p i (-1000000)) (s1 := s1) (I1 := J1) (I2 := J3) ?_ ?_ (zEv_Scr hE1 (zScr_tr g (zScr_Rs g3'))) (zXe_tr (zXe_Cv cv) (zXe_Scr (zScr_tr g (zScr_Rs g3'))))
  · rw [zqz_153, zq_153_0, f2, if_neg a1, if_neg a2, w2, zcI_some, zq_153_10, if_neg (by decide), g2, bit_shr i hi8 _ g1, if_pos hb, if_pos (show ¬ (1 : Int32) = 0 by decide), bit_one i hi8, e1, zcV_some, zq_153_27, c22, zcI_some, zq_153_32]
  · rw [zqz_241, zq_241_0, r1 J1 f3', zcI_some, zq_241_3, if_neg (by decide), zl_237, if_neg (nI_pos (by omega)), if_neg (show ¬ (8 : Int32) ≤ nI i from nI_ge (b := 8) hi8 (by decide)), g3'', bit_shr i hi8 _ g1, if_pos hb, if_neg (not_not_intro rfl), zcI_some, zq_241_7, if_pos (show ¬ (1 : Int32) = 0 by decide), e2, zcV_some, zq_241_12, e3, zcI_some, zq_241_16]
    obtain ⟨p1, p2, -⟩ := fj p hp
    obtain ⟨t1, t2, -⟩ := hth i hi8 hb
    unfold ztks
    cases h1 : zown L st p with
    | none => rw [if_neg (show ¬ (1000000000 : Int32) < 1000000000 by decide)]
    | some o =>
      cases h2 : zabt L st p i with
      | none => rw [if_neg (show ¬ (1000000000 : Int32) < 1000000000 by decide)]
      | some r =>
        have lo := zown_le hs hP p1 p2 h1
        have lr := zabt_le hs hP p1 p2 t1 t2 h2
        rw [if_pos (show nI r - nI o < (1000000000 : Int32) by rw [Int32.lt_iff_toInt_lt, zsub_lt lr lo, show (1000000000 : Int32).toInt = 1000000000 from rfl]; omega)]
