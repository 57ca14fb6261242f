/-! BEST, AS A CALL -/
theorem zbitc : ∀ X, X < 256 → (fun x0 : Int32 => (((((((x0 - (((x0.toUInt32 >>> ((1 : Int32).toUInt32 &&& Int32.toUInt32 31)).toInt32) &&& 1431655765)) &&& 858993459) + ((((x0 - (((x0.toUInt32 >>> ((1 : Int32).toUInt32 &&& Int32.toUInt32 31)).toInt32) &&& 1431655765)).toUInt32 >>> ((2 : Int32).toUInt32 &&& Int32.toUInt32 31)).toInt32) &&& 858993459)) + (((((x0 - (((x0.toUInt32 >>> ((1 : Int32).toUInt32 &&& Int32.toUInt32 31)).toInt32) &&& 1431655765)) &&& 858993459) + ((((x0 - (((x0.toUInt32 >>> ((1 : Int32).toUInt32 &&& Int32.toUInt32 31)).toInt32) &&& 1431655765)).toUInt32 >>> ((2 : Int32).toUInt32 &&& Int32.toUInt32 31)).toInt32) &&& 858993459)).toUInt32 >>> ((4 : Int32).toUInt32 &&& Int32.toUInt32 31)).toInt32)) &&& 252645135) + (((((((x0 - (((x0.toUInt32 >>> ((1 : Int32).toUInt32 &&& Int32.toUInt32 31)).toInt32) &&& 1431655765)) &&& 858993459) + ((((x0 - (((x0.toUInt32 >>> ((1 : Int32).toUInt32 &&& Int32.toUInt32 31)).toInt32) &&& 1431655765)).toUInt32 >>> ((2 : Int32).toUInt32 &&& Int32.toUInt32 31)).toInt32) &&& 858993459)) + (((((x0 - (((x0.toUInt32 >>> ((1 : Int32).toUInt32 &&& Int32.toUInt32 31)).toInt32) &&& 1431655765)) &&& 858993459) + ((((x0 - (((x0.toUInt32 >>> ((1 : Int32).toUInt32 &&& Int32.toUInt32 31)).toInt32) &&& 1431655765)).toUInt32 >>> ((2 : Int32).toUInt32 &&& Int32.toUInt32 31)).toInt32) &&& 858993459)).toUInt32 >>> ((4 : Int32).toUInt32 &&& Int32.toUInt32 31)).toInt32)) &&& 252645135).toUInt32 >>> ((8 : Int32).toUInt32 &&& Int32.toUInt32 31)).toInt32)) + ((((((((x0 - (((x0.toUInt32 >>> ((1 : Int32).toUInt32 &&& Int32.toUInt32 31)).toInt32) &&& 1431655765)) &&& 858993459) + ((((x0 - (((x0.toUInt32 >>> ((1 : Int32).toUInt32 &&& Int32.toUInt32 31)).toInt32) &&& 1431655765)).toUInt32 >>> ((2 : Int32).toUInt32 &&& Int32.toUInt32 31)).toInt32) &&& 858993459)) + (((((x0 - (((x0.toUInt32 >>> ((1 : Int32).toUInt32 &&& Int32.toUInt32 31)).toInt32) &&& 1431655765)) &&& 858993459) + ((((x0 - (((x0.toUInt32 >>> ((1 : Int32).toUInt32 &&& Int32.toUInt32 31)).toInt32) &&& 1431655765)).toUInt32 >>> ((2 : Int32).toUInt32 &&& Int32.toUInt32 31)).toInt32) &&& 858993459)).toUInt32 >>> ((4 : Int32).toUInt32 &&& Int32.toUInt32 31)).toInt32)) &&& 252645135) + (((((((x0 - (((x0.toUInt32 >>> ((1 : Int32).toUInt32 &&& Int32.toUInt32 31)).toInt32) &&& 1431655765)) &&& 858993459) + ((((x0 - (((x0.toUInt32 >>> ((1 : Int32).toUInt32 &&& Int32.toUInt32 31)).toInt32) &&& 1431655765)).toUInt32 >>> ((2 : Int32).toUInt32 &&& Int32.toUInt32 31)).toInt32) &&& 858993459)) + (((((x0 - (((x0.toUInt32 >>> ((1 : Int32).toUInt32 &&& Int32.toUInt32 31)).toInt32) &&& 1431655765)) &&& 858993459) + ((((x0 - (((x0.toUInt32 >>> ((1 : Int32).toUInt32 &&& Int32.toUInt32 31)).toInt32) &&& 1431655765)).toUInt32 >>> ((2 : Int32).toUInt32 &&& Int32.toUInt32 31)).toInt32) &&& 858993459)).toUInt32 >>> ((4 : Int32).toUInt32 &&& Int32.toUInt32 31)).toInt32)) &&& 252645135).toUInt32 >>> ((8 : Int32).toUInt32 &&& Int32.toUInt32 31)).toInt32)).toUInt32 >>> ((16 : Int32).toUInt32 &&& Int32.toUInt32 31)).toInt32)) &&& 63) (nI X) = nI (zpop X) := by decide +kernel
theorem zf0 (s : zQs) (I : Nat → Nat → Int32) {X : Nat} (hX : X < 256) : zf_0 [.int (nI X)] (zMk (s, I)) = some (.int (nI (zpop X)), zMk (s, I)) := by
  rw [zl_0]
  exact congrArg (fun v => some (Value.int v, zMk (s, I))) (zbitc X hX)
theorem bit_shr20 : ∀ k, k < 20 → ∀ e, e < 256 → (nI e >>> (nI k &&& 31)) &&& 1 = nI (if e.testBit k = true then 1 else 0) := by decide +kernel
theorem zpop20 : ∀ X, X < 256 → zcn (fun i => X.testBit i) 20 = zpop X := by decide +kernel
theorem zlp182 (s : zQs) (I : Nat → Nat → Int32) {X : Nat} (hX : X < 256) : ∀ m k, k + m = 20 → zQ_182 (4, [.int (nI X), .int (nI (zcn (fun i => X.testBit i) k)), .int (nI k)], [], zMk (s, I)) = some (.int (nI (zpop X)), zMk (s, I))
  | 0, k, h => by
    have h : k = 20 := by omega
    subst h
    rw [zq_182_4, if_pos (show (20 : Int32) ≤ nI 20 by decide), zpop20 X hX]
  | m + 1, k, h => by
    have nx := zlp182 s I hX m (k + 1) (by omega)
    rw [zcn_s] at nx
    rw [zq_182_4, if_neg (show ¬ (20 : Int32) ≤ nI k from nI_ge (b := 20) (by omega) (by decide)), bit_shr20 k (by omega) X hX, nI_add, nI_1]
    exact nx
theorem zf182 (s : zQs) (I : Nat → Nat → Int32) {X : Nat} (hX : X < 256) : zf_182 [.int (nI X)] (zMk (s, I)) = some (.int (nI (zpop X)), zMk (s, I)) := by
  rw [zqz_182, zq_182_0]
  exact zlp182 s I hX 20 0 rfl
theorem zpop_pos : ∀ X, X < 256 → 0 < X → 0 < zpop X ∧ zpop X ≤ 8 := by decide +kernel
/-! each by itself -/
def zsep (L : zLw) (st : zSt) (X home : Nat) : Nat → Option Nat
  | 0 => some 0
  | n + 1 => if X.testBit n = true then zsm (zsep L st X home n) (zsm (zdc L st 0 home (st.ea n)) (zdc L st (st.ew n) (st.ea n) home)) else zsep L st X home n
theorem zsep_s (L : zLw) (st : zSt) (X home n : Nat) : zsep L st X home (n + 1) = if X.testBit n = true then zsm (zsep L st X home n) (zsm (zdc L st 0 home (st.ea n)) (zdc L st (st.ew n) (st.ea n) home)) else zsep L st X home n := rfl
theorem zsep_le {L : zLw} {st : zSt} (hs : zsmall L st) (hP : st.P ≤ 20) {X home : Nat} (hX : ∀ e, e < 8 → X.testBit e = true → st.ea e < st.P) (hh : home < st.P) : ∀ n x, n ≤ 8 → zsep L st X home n = some x → x ≤ 379962 * n
  | 0, x, _, h => by rw [← Option.some.inj h]; exact Nat.le_refl _
  | n + 1, x, hn, h => by
    rw [zsep_s] at h
    split at h
    · rename_i hb
      obtain ⟨u, v, a, b, c⟩ := zsm_some h
      obtain ⟨u2, v2, a2, b2, c2⟩ := zsm_some b
      have he := hX n (by omega) hb
      have := zsep_le hs hP hX hh n u (by omega) a
      have := zdc_le hs hP hh he a2
      have := zdc_le hs hP he hh b2
      omega
    · have := zsep_le hs hP hX hh n x (by omega) h
      omega
/-- the class's number of a sum of k costs -/
def zcnk (k : Nat) (o : Option Nat) (c : Nat) : Prop := (match o with
  | none => 100000000 ≤ c
  | some x => c = x) ∧ c ≤ k * 100000000
theorem zcnk_1 {o : Option Nat} (h : ∀ x, o = some x → x ≤ 100000000) : zcnk 1 o (zC1 o) := by
  cases o with
  | none => exact ⟨Nat.le_refl _, by decide⟩
  | some x => exact ⟨rfl, by have := h x rfl; show x ≤ 1 * 100000000; omega⟩
theorem zcnk_sm {k j : Nat} {a b : Option Nat} {m n : Nat} (ha : zcnk k a m) (hb : zcnk j b n) : zcnk (k + j) (zsm a b) (m + n) := by
  obtain ⟨a1, a2⟩ := ha
  obtain ⟨b1, b2⟩ := hb
  refine ⟨?_, by rw [Nat.add_mul]; omega⟩
  cases a with
  | none => exact Nat.le_trans a1 (Nat.le_add_right _ _)
  | some x =>
    cases b with
    | none => exact Nat.le_trans b1 (Nat.le_add_left _ _)
    | some y =>
      have a1 : m = x := a1
      have b1 : n = y := b1
      show m + n = x + y
      rw [a1, b1]
theorem zcnk_ans {k c B : Nat} {o : Option Nat} (h : zcnk k o c) (hk : k ≤ 20) (hB : B < 100000000) (ho : ∀ x, o = some x → x ≤ B) (s : zQs) (I : Nat → Nat → Int32) : zf_173 [.int (nI c)] (zMk (s, I)) = some (.int (zans o), zMk (s, I)) := by
  obtain ⟨h1, h2⟩ := h
  have h3 : c ≤ 20 * 100000000 := Nat.le_trans h2 (Nat.mul_le_mul_right _ hk)
  rw [zl_173]
  cases o with
  | none =>
    have h1 : 100000000 ≤ c := h1
    rw [if_neg (show ¬ nI c < (100000000 : Int32) from nI_nlt (b := 100000000) h1 (by omega))]
    rfl
  | some x =>
    have h1 : c = x := h1
    have := ho x rfl
    rw [if_pos (show nI c < (100000000 : Int32) from nI_lt (b := 100000000) (by omega) (by decide)), h1]
    rfl
theorem zld_1 (st : zSt) : ∀ i, i < 8 → zld st (2 ^ i) = st.ew i := by
  intro i hi
  have hc : i = 0 ∨ i = 1 ∨ i = 2 ∨ i = 3 ∨ i = 4 ∨ i = 5 ∨ i = 6 ∨ i = 7 := by omega
  unfold zld
  simp only [zsw_s, zsw, bit_pow i hi 0 (by decide), bit_pow i hi 1 (by decide), bit_pow i hi 2 (by decide), bit_pow i hi 3 (by decide), bit_pow i hi 4 (by decide), bit_pow i hi 5 (by decide), bit_pow i hi 6 (by decide), bit_pow i hi 7 (by decide)]
  rcases hc with rfl | rfl | rfl | rfl | rfl | rfl | rfl | rfl <;> simp
theorem pow_sub {X i : Nat} (hb : X.testBit i = true) : 2 ^ i &&& X = 2 ^ i := by
  apply Nat.eq_of_testBit_eq
  intro j
  rw [Nat.testBit_and, Nat.testBit_two_pow]
  by_cases h : i = j
  · subst h
    simp [hb]
  · simp [h]
theorem zlp80 {L : zLw} {st : zSt} {X home : Nat} {s : zQs} {I : Nat → Nat → Int32} (hE : zEv L st s I) (hF : zFx L st X s I) (hX : zEs st X) (hh : home < st.P) : ∀ m i c, i + m = 8 → zcnk (2 * i) (zsep L st X home i) c →
    ∃ c', zQ_80 (4, [.ref 42, .int (nI home), .int (nI X), .int (nI c), .int (nI i)], [], zMk (s, I)) = some (.int (nI c'), zMk (s, I)) ∧ zcnk 16 (zsep L st X home 8) c'
  | 0, i, c, h, hc => by
    have h : i = 8 := by omega
    subst h
    refine ⟨c, ?_, hc⟩
    rw [zq_80_4, if_pos (show (8 : Int32) ≤ nI 8 by decide)]
  | m + 1, i, c, h, hc => by
    have hi : i < 8 := by omega
    have hsm := zEv_small (L := L) (s := s) hE.1
    have hP := zEv_P hE.1
    rw [zq_80_4, if_neg (show ¬ (8 : Int32) ≤ nI i from nI_ge (b := 8) hi (by decide)), bit_shr i hi X hX.1]
    by_cases hb : X.testBit i = true
    · obtain ⟨-, -, -, hee⟩ := hE.1.2.2.2.2.1
      obtain ⟨q1, q2, q3, q4, q5, -⟩ := hee i hi (hX.2 i hi hb)
      have f0 : zFsh L st s I 0 := hF 0 (by decide) (Nat.zero_and X)
      have f1 : zFsh L st s I (st.ew i) := by
        have := hF (2 ^ i) (pow_256 i hi) (pow_sub hb)
        rw [zld_1 st i hi] at this
        exact this
      have e1 : zf_121 [.ref 16, .int (nI home), .int (nI (st.ea i)), .int 0] (zMk (s, I)) = _ := zf121 hE (l := 0) (by decide) f0 hh q1
      have e2 := zf121 hE (l := st.ew i) (by omega) f1 q1 hh
      have hc2 : zcnk (2 * (i + 1)) (zsep L st X home (i + 1)) (c + (zC1 (zdc L st 0 home (st.ea i)) + zC1 (zdc L st (st.ew i) (st.ea i) home))) := by
        rw [zsep_s, if_pos hb]
        exact zcnk_sm (k := 2 * i) (j := 2) hc (zcnk_sm (k := 1) (j := 1) (zcnk_1 (fun x hx => by have := zdc_le hsm hP hh q1 hx; omega)) (zcnk_1 (fun x hx => by have := zdc_le hsm hP q1 hh hx; omega)))
      obtain ⟨c', e3, h3⟩ := zlp80 hE hF hX hh m (i + 1) _ (by omega) hc2
      refine ⟨c', ?_, h3⟩
      rw [if_pos hb, if_neg (show ¬ (1 : Int32) = 0 by decide), if_pos (zb_t hi (by omega)), nI_clamp (show i < 2 ^ 31 by omega), q4, e1, zcI_some, zq_80_23, if_pos (zb_t hi (by omega)), if_pos (zb_t hi (by omega)), nI_clamp (show i < 2 ^ 31 by omega), q4, q5, e2, zcI_some, zq_80_35, nI_add, nI_add, nI_1]
      exact e3
    · have hc2 : zcnk (2 * (i + 1)) (zsep L st X home (i + 1)) c := by
        rw [zsep_s, if_neg hb]
        exact ⟨hc.1, Nat.le_trans hc.2 (Nat.mul_le_mul_right _ (by omega))⟩
      obtain ⟨c', e3, h3⟩ := zlp80 hE hF hX hh m (i + 1) c (by omega) hc2
      refine ⟨c', ?_, h3⟩
      rw [if_neg hb, if_pos rfl, nI_1]
      exact e3
theorem zlp231 {L : zLw} {st : zSt} {X home : Nat} {s : zQs} (hX : zEs st X) (hh : home < st.P) : ∀ m i (I : Nat → Nat → Int32), i + m = 8 → zRe L st s I →
    ∃ J, zQ_231 (4, [.ref 58, .int (nI home), .int (nI X), .int (nI (zR1 (zsep L st X home i))), .int (nI i)], [], zMk (s, I)) = some (.int (zans (zsep L st X home 8)), zMk (s, J)) ∧ zRs I J
  | 0, i, I, h, hE => by
    have h : i = 8 := by omega
    subst h
    have hsm := zEv_small (L := L) (s := s) hE.1
    have hP := zEv_P hE.1
    refine ⟨I, ?_, zRs_rfl I⟩
    rw [zq_231_4, if_pos (show (8 : Int32) ≤ nI 8 by decide)]
    cases hz : zsep L st X home 8 with
    | none => rw [if_neg (show ¬ nI (zR1 none) < (1000000000 : Int32) by decide)]; rfl
    | some x =>
      have := zsep_le hsm hP (zEs_ea hE.1 hX) hh 8 x (Nat.le_refl _) hz
      rw [if_pos (show nI (zR1 (some x)) < (1000000000 : Int32) from nI_lt (b := 1000000000) (show x < 1000000000 by omega) (by decide))]
      rfl
  | m + 1, i, I, h, hE => by
    have hi : i < 8 := by omega
    have hsm := zEv_small (L := L) (s := s) hE.1
    have hP := zEv_P hE.1
    have hea := zEs_ea hE.1 hX
    rw [zq_231_4, if_neg (show ¬ (8 : Int32) ≤ nI i from nI_ge (b := 8) hi (by decide)), bit_shr i hi X hX.1]
    by_cases hb : X.testBit i = true
    · obtain ⟨-, -, -, hee⟩ := hE.1.2.2.2.2.1
      obtain ⟨q1, q2, q3, q4, q5, q6, q7, q8, -⟩ := hee i hi (hX.2 i hi hb)
      obtain ⟨J1, e1, a1, a2⟩ := zf220 hE (l := 0) (by decide) hh q1
      obtain ⟨J2, e2, b1, b2⟩ := zf220 a2 (l := st.ew i) (by omega) q1 hh
      have e1 : zf_220 [.ref 58, .int (nI home), .int (nI (st.ea i)), .int 0] (zMk (s, I)) = _ := e1
      obtain ⟨J, e3, c1⟩ := zlp231 hX hh m (i + 1) J2 (by omega) b2
      have u := fun (r : Nat) (h : 79 < r) => a1 r (by omega) (by omega) (by omega) (by omega) (by omega)
      have B0 := zR1_cap (B := 379962 * 8) (by decide) (fun x hx => by have := zsep_le hsm hP hea hh i x (by omega) hx; omega)
      have B1 := zR1_cap (B := 189981) (by decide) (fun x hx => zdc_le hsm hP hh q1 (l := 0) hx)
      have B2 := zR1_cap (B := 189981) (by decide) (fun x hx => zdc_le hsm hP q1 hh (l := st.ew i) hx)
      have B3 := zR1_cap (B := 379962) (o := zsm (zdc L st 0 home (st.ea i)) (zdc L st (st.ew i) (st.ea i) home)) (by decide) (fun x hx => by
        obtain ⟨u, v, a, b, c⟩ := zsm_some hx
        have := zdc_le hsm hP hh q1 a
        have := zdc_le hsm hP q1 hh b
        omega)
      refine ⟨J, ?_, zRs_tr a1 (zRs_tr b1 c1)⟩
      rw [if_pos hb, if_neg (not_not_intro rfl), if_pos (zb_t hi (by omega)), nI_clamp (show i < 2 ^ 31 by omega), q7, e1, zcI_some, zq_231_23, if_pos (zb_t hi (by omega)), if_pos (zb_t hi (by omega)), nI_clamp (show i < 2 ^ 31 by omega), u 81 (by decide), u 82 (by decide), q7, q8, e2, zcI_some, zq_231_34, zl180 s J2 B1.1 B2.1, zcI_some, zR1_sm B1.2 B2.2, zq_231_35, zl180 s J2 B0.1 B3.1, zcI_some, zR1_sm B0.2 B3.2, zq_231_36, nI_1]
      rw [zsep_s, if_pos hb] at e3
      exact e3
    · obtain ⟨J, e3, c1⟩ := zlp231 hX hh m (i + 1) I (by omega) hE
      rw [zsep_s, if_neg hb] at e3
      refine ⟨J, ?_, c1⟩
      rw [if_neg hb, if_pos (show ¬ (0 : Int32) = 1 by decide), nI_1]
      exact e3
theorem zp_best {L : zLw} {st : zSt} {s : zQs} {I : Nat → Nat → Int32} (hE : zEv L st s I) (x1 x2 x3 : Int32) : zPr L st s I (zf_149 [.ref 0, .int x1, .int x2, .int x3]) (zf_233 [.ref 58, .int x1, .int x2, .int x3]) := by
  have hP := zEv_P hE.1
  have p1 := zEv_p1 hE.1
  have p2 := zEv_p2 hE.1
  have hsm := zEv_small (L := L) (s := s) hE.1
  obtain ⟨g1, g2, g3, hee⟩ := hE.1.2.2.2.2.1
  by_cases h1 : zlt x1 st.P
  case neg =>
    refine zPr_same hE (v := -1) ?_ ?_
    · rw [zqz_149, zq_149_0, isP1_f p1 hP h1, zcI_some, zq_149_4, if_pos rfl]
    · rw [zqz_233, zq_233_0, isP2_f p2 hP h1, zcI_some, zq_233_3, if_pos rfl]
  rcases zset g1 x2 with ⟨X, X1, X2, X3, rfl⟩ | ⟨b1, b2⟩
  case inr =>
    refine zPr_same hE (v := -1) ?_ ?_
    · rw [zqz_149, zq_149_0, isP1_t p1 hP h1, zcI_some, zq_149_4, if_neg (by decide), g2, zl_172]
      rcases b1 with b | b
      · rw [if_pos b, zcI_some, zq_149_10, if_neg (not_not_intro rfl)]
      · by_cases h0 : x2 ≤ 0
        · rw [if_pos h0, zcI_some, zq_149_10, if_neg (not_not_intro rfl)]
        · rw [if_neg h0, if_pos b, zcI_some, zq_149_10, if_neg (not_not_intro rfl)]
    · rw [zqz_233, zq_233_0, isP2_t p2 hP h1, zcI_some, zq_233_3, if_neg (by decide), zqz_232, zq_232_0, zl_179]
      by_cases h0 : x2 < 0
      · rw [if_pos h0, zcI_some, zq_232_4, if_pos rfl, zcI_some, zq_233_7, if_pos rfl]
      · rw [if_neg h0]
        by_cases h5 : 255 < x2
        · rw [if_pos h5, zcI_some, zq_232_4, if_pos rfl, zcI_some, zq_233_7, if_pos rfl]
        · rw [if_neg h5, zcI_some, zq_232_4, if_neg (by decide), g3]
          by_cases hs : x2 &&& (nI st.E ^^^ (-1)) = 0
          · have hz : x2 = 0 := by
              rcases b2 with b | b | b
              · have t1 : x2.toInt < 1 := by have := Int32.lt_iff_toInt_lt.mp b; rwa [show (1 : Int32).toInt = 1 from rfl] at this
                have t2 : 0 ≤ x2.toInt := by have := Int32.le_iff_toInt_le.mp (Int32.not_lt.mp h0); rwa [show (0 : Int32).toInt = 0 from rfl] at this
                exact Int32.toInt_inj.mp (by rw [show (0 : Int32).toInt = 0 from rfl]; omega)
              · exact absurd b h5
              · exact absurd hs b
            rw [if_neg (not_not_intro hs), zcI_some, zq_233_7, if_neg (by decide), if_pos hz]
          · rw [if_pos hs, zcI_some, zq_233_7, if_pos rfl]
  obtain ⟨c1, c2, c3, c4⟩ := zset_t g1 X1 X2 X3
  have hX : zEs st X := ⟨X1, fun i _ hb => zset_b X3 i hb⟩
  obtain ⟨pp, p8⟩ := zpop_pos X X1 X2
  have i232 : ∀ s J, J 58 37 = nI st.E → zf_232 [.ref 58, .int (nI X)] (zMk (s, J)) = some (.int 1, zMk (s, J)) := fun s J hJ => by
    rw [zqz_232, zq_232_0, zl_179, if_neg (nI_pos (by omega)), if_neg c4, zcI_some, zq_232_4, if_neg (by decide), hJ, if_neg (not_not_intro c2)]
  have epop : nI (zpop X) - 1 = nI (zpop X - 1) := by
    have := nI_pred (zpop X - 1)
    rw [show zpop X - 1 + 1 = zpop X by omega] at this
    exact this
  have c172 : zf_172 [.int (nI X), .int (I 42 6)] (zMk (s, I)) = some (.int 1, zMk (s, I)) := by rw [zl_172, if_neg c1, g2, if_neg (not_not_intro c2)]
  have wk : ∃ k : Int32, zf_171 [.int x3, .int (nI (zpop X - 1))] (zMk (s, I)) = some (.int k, zMk (s, I)) ∧ ((zin x3 (zpop X - 1) ∧ k = 1) ∨ (¬ zin x3 (zpop X - 1) ∧ k = 0)) := by
    by_cases h : zin x3 (zpop X - 1)
    · exact ⟨1, wi_t _ rfl (by omega) h, Or.inl ⟨h, rfl⟩⟩
    · exact ⟨0, wi_f _ rfl (by omega) h, Or.inr ⟨h, rfl⟩⟩
  obtain ⟨k, ek, hk⟩ := wk
  have c19 : zf_149 [.ref 0, .int x1, .int (nI X), .int x3] (zMk (s, I)) = zQ_149 (19, [.ref 0, .int x1, .int (nI X), .int x3, .long 0, .long 0], [.int k], zMk (s, I)) := by
    rw [zqz_149, zq_149_0, isP1_t p1 hP h1, zcI_some, zq_149_4, if_neg (by decide), c172, zcI_some, zq_149_10, if_pos (show ¬ (1 : Int32) = 0 by decide), zf0 s I X1, zcI_some, zq_149_16, epop, ek, zcI_some]
  have r7 : ∀ s J, J 58 0 = nI st.P → J 58 37 = nI st.E → zf_233 [.ref 58, .int x1, .int (nI X), .int x3] (zMk (s, J)) = if x3 = 10 then zcV (zf_216 [.ref 58] (zMk (s, J))) (fun M => zQ_233 (25, [.ref 58, .int x1, .int (nI X), .int x3, .long 0, .long 0, .long 0, .long 0, .long 0], [], M)) else zcI (zf_179 [.int x3, .int (-1), .int (nI (zpop X - 1))] (zMk (s, J))) (fun v M => zQ_233 (20, [.ref 58, .int x1, .int (nI X), .int x3, .long 0, .long 0, .long 0, .long 0, .long 0], [.int v], M)) := by
    intro s J hJ hJ2
    rw [zqz_233, zq_233_0, isP2_t hJ hP h1, zcI_some, zq_233_3, if_neg (by decide), i232 s J hJ2, zcI_some, zq_233_7, if_neg (by decide), if_neg (show ¬ nI X = 0 from nI_ne (b := 0) (by omega) (by omega) (by decide))]
    by_cases h10 : x3 = 10
    · rw [if_pos h10, if_pos h10]
    · rw [if_neg h10, if_neg h10, zf182 s J X1, zcI_some, zq_233_17, epop]
  by_cases hw : x3 = -1 ∨ x3 = 10 ∨ zin x3 (zpop X - 1)
  case neg =>
    have hk0 : k = 0 := by
      rcases hk with ⟨h, -⟩ | ⟨-, h⟩
      · exact absurd (Or.inr (Or.inr h)) hw
      · exact h
    have n10 : ¬ x3 = 10 := fun h => hw (Or.inr (Or.inl h))
    refine zPr_same hE (v := -1) ?_ ?_
    · rw [c19, zq_149_19, if_neg (fun h => hw (Or.inl h)), if_neg n10, hk0, if_neg (not_not_intro rfl)]
    · have i17 : zf_179 [.int x3, .int (-1), .int (nI (zpop X - 1))] (zMk (s, I)) = some (.int 0, zMk (s, I)) := by
        rw [zl_179]
        by_cases a1 : x3 < (-1)
        · rw [if_pos a1]
        · rw [if_neg a1]
          by_cases a2 : nI (zpop X - 1) < x3
          · rw [if_pos a2]
          · exfalso
            by_cases a3 : x3 < 0
            · have t1 : x3.toInt < 0 := by have := Int32.lt_iff_toInt_lt.mp a3; rwa [show (0 : Int32).toInt = 0 from rfl] at this
              have t2 : -1 ≤ x3.toInt := by have := Int32.le_iff_toInt_le.mp (Int32.not_lt.mp a1); rwa [show ((-1 : Int32)).toInt = -1 by decide] at this
              exact hw (Or.inl (Int32.toInt_inj.mp (by rw [show ((-1 : Int32)).toInt = -1 by decide]; omega)))
            · exact hw (Or.inr (Or.inr ((zin_iff (by omega)).mpr ⟨a3, a2⟩)))
      rw [r7 s I p2 g3, if_neg n10, i17, zcI_some, zq_233_20, if_neg (not_not_intro rfl)]
  obtain ⟨s1, J1, e1, hE1, hF1, cv, hs1⟩ := zf77 hX hE
  have c34 : zf_149 [.ref 0, .int x1, .int (nI X), .int x3] (zMk (s, I)) = zQ_149 (34, [.ref 0, .int x1, .int (nI X), .int x3, .int k, .long 0], [], zMk (s1, J1)) := by
    rw [c19, zq_149_19]
    by_cases a1 : x3 = -1
    · rw [if_pos a1, e1, zcV_some]
    · rw [if_neg a1]
      by_cases a2 : x3 = 10
      · rw [if_pos a2, e1, zcV_some]
      · rw [if_neg a2]
        rcases hk with ⟨h, hk⟩ | ⟨h, -⟩
        · rw [hk, if_pos (show ¬ (1 : Int32) = 0 by decide), e1, zcV_some]
        · rcases hw with h' | h' | h'
          · exact absurd h' a1
          · exact absurd h' a2
          · exact absurd h' h
  have r25 : ∀ s J J', J 58 0 = nI st.P → J 58 37 = nI st.E → zf_216 [.ref 58] (zMk (s, J)) = some (.long 0, zMk (s, J')) → zf_233 [.ref 58, .int x1, .int (nI X), .int x3] (zMk (s, J)) = zQ_233 (25, [.ref 58, .int x1, .int (nI X), .int x3, .long 0, .long 0, .long 0, .long 0, .long 0], [], zMk (s, J')) := by
    intro s J J' hJ hJ2 e
    rw [r7 s J hJ hJ2]
    by_cases h10 : x3 = 10
    · rw [if_pos h10, e, zcV_some]
    · have i17 : zf_179 [.int x3, .int (-1), .int (nI (zpop X - 1))] (zMk (s, J)) = some (.int 1, zMk (s, J)) := by
        rw [zl_179]
        rcases hw with h | h | ⟨j, hj, rfl⟩
        · rw [h, if_neg (by decide), if_neg (fun q => absurd (Int32.lt_trans q (show (-1 : Int32) < 0 by decide)) (nI_pos (by omega)))]
        · exact absurd h h10
        · rw [if_neg (fun q => absurd (Int32.lt_trans q (show (-1 : Int32) < 0 by decide)) (nI_pos (by omega))), if_neg (nI_nlt hj (by omega))]
      rw [if_neg h10, i17, zcI_some, zq_233_20, if_pos (show ¬ (1 : Int32) = 0 by decide), e, zcV_some]
  obtain ⟨a, ha, rfl⟩ := h1
  have hea := zEs_ea hE.1 hX
  by_cases h10 : x3 = 10
  · subst h10
    obtain ⟨c, e80, hc⟩ := zlp80 hE1 hF1 hX ha 8 0 0 rfl ⟨rfl, Nat.le_refl _⟩
    obtain ⟨J2, e2, sc2, hR2, -⟩ := zbegins hE1
    obtain ⟨J3, e3, sc3⟩ := zlp231 (s := s1) hX ha 8 0 J2 rfl hR2
    refine zPr_mk (v := zans (zsep L st X a 8)) (s1 := s1) (I1 := J1) (I2 := J3) ?_ ?_ (zEv_Scr hE1 (zScr_tr sc2 (zScr_Rs sc3))) (zXe_tr (zXe_Cv cv) (zXe_Scr (zScr_tr sc2 (zScr_Rs sc3))))
    · have f80 : zf_80 [.ref 42, .int (nI a), .int (nI X)] (zMk (s1, J1)) = some (.int (nI c), zMk (s1, J1)) := by
        rw [zqz_80, zq_80_0]
        exact e80
      rw [c34, zq_149_34, if_neg (not_not_intro rfl), f80, zcI_some, zq_149_42, zcnk_ans hc (by decide) (B := 379962 * 8) (by decide) (fun x hx => zsep_le hsm hP hea ha 8 x (Nat.le_refl _) hx), zcI_some, zq_149_43]
    · have f231 : zf_231 [.ref 58, .int (nI a), .int (nI X)] (zMk (s1, J2)) = some (.int (zans (zsep L st X a 8)), zMk (s1, J3)) := by
        rw [zqz_231, zq_231_0]
        exact e3
      rw [r25 s1 J1 J2 (zEv_p2 hE1.1) hE1.1.2.2.2.2.1.2.2.1 e2, zq_233_25, if_neg (not_not_intro rfl), f231, zcI_some, zq_233_32]
  · obtain ⟨J2, e81, sc2', h47⟩ := zf81 hX (by omega) ha hE1 hF1
    have sc2 : zScr J1 J2 := zScr_1 (k := 47) rfl sc2'
    have hE2 := zEv_Scr hE1 sc2
    have hF2 := zFx_Scr hF1 sc2
    obtain ⟨J3, e3, sc3, hR3, -⟩ := zbegins hE2
    obtain ⟨J4, e4, sc4, hR4, h84⟩ := zf230 hX ha hR3
    have h84 := h84 (by omega)
    have hr0 : zrnd0 L st X a = zrs L st X a 0 a := if_neg (by omega)
    rw [hr0] at e4
    have c49 : zf_149 [.ref 0, .int (nI a), .int (nI X), .int x3] (zMk (s, I)) = zQ_149 (49, [.ref 0, .int (nI a), .int (nI X), .int x3, .int k, .long 0], [.int (nI (zC1 (zrs L st X a 0 a)))], zMk (s1, J2)) := by
      rw [c34, zq_149_34, if_pos h10, e81, zcI_some]
    have r37 : zf_233 [.ref 58, .int (nI a), .int (nI X), .int x3] (zMk (s1, J2)) = zQ_233 (37, [.ref 58, .int (nI a), .int (nI X), .int x3, .long 0, .long 0, .long 0, .long 0, .long 0], [.int (nI (zR1 (zrs L st X a 0 a)))], zMk (s1, J4)) := by
      rw [r25 s1 J2 J3 (zEv_p2 hE2.1) hE2.1.2.2.2.2.1.2.2.1 e3, zq_233_25, if_pos h10, e4, zcI_some]
    cases hz : zrs L st X a 0 a with
    | none =>
      refine zPr_mk (v := -2) (s1 := s1) (I1 := J2) (I2 := J4) ?_ ?_ (zEv_Scr hE2 (zScr_tr sc3 sc4)) (zXe_tr (zXe_Cv cv) (zXe_Scr (zScr_tr sc2 (zScr_tr sc3 sc4))))
      · rw [c49, hz, zq_149_49, if_neg (show ¬ nI (zC1 none) < (100000000 : Int32) by decide)]
      · rw [r37, hz, zq_233_37, if_neg (show ¬ nI (zR1 none) < (1000000000 : Int32) by decide)]
    | some y =>
      have hy := zrs_le hsm hP hea ha ha hz
      have l1 : nI (zC1 (some y)) < (100000000 : Int32) := nI_lt (b := 100000000) (show y < 100000000 by omega) (by decide)
      have l2 : nI (zR1 (some y)) < (1000000000 : Int32) := nI_lt (b := 1000000000) (show y < 1000000000 by omega) (by decide)
      by_cases hm : x3 = -1
      · subst hm
        refine zPr_mk (v := nI y) (s1 := s1) (I1 := J2) (I2 := J4) ?_ ?_ (zEv_Scr hE2 (zScr_tr sc3 sc4)) (zXe_tr (zXe_Cv cv) (zXe_Scr (zScr_tr sc2 (zScr_tr sc3 sc4))))
        · rw [c49, hz, zq_149_49, if_pos l1, if_neg (not_not_intro rfl), zq_149_66]
          rfl
        · rw [r37, hz, zq_233_37, if_pos l2, if_neg (not_not_intro rfl)]
          rfl
      · obtain ⟨w, hw1, rfl⟩ : ∃ w, w < zpop X ∧ x3 = nI w := by
          rcases hw with h | h | ⟨j, hj, rfl⟩
          · exact absurd h hm
          · exact absurd h h10
          · exact ⟨j, by omega, rfl⟩
        obtain ⟨J5, e5, sc5, -⟩ := zlp233 (s := s1) hX ha hz hw1 p8 (nI (zR1 (some y))) w 0 8 J4 (.long 0) (Nat.zero_add _) (Or.inl rfl) rfl (Or.inl rfl) hR4 h84
        have c84 := zlp84 hE2 hF2 hX ha h47 hz hw1 p8 (w + 1) 0 (-1) (Nat.zero_add _) (fun q => absurd q (Nat.lt_irrefl 0))
        refine zPr_mk (v := nI (zsqe L st X a w)) (s1 := s1) (I1 := J2) (I2 := J5) ?_ ?_ (zEv_Scr hE2 (zScr_tr sc3 (zScr_tr sc4 (zScr_Rs sc5)))) (zXe_tr (zXe_Cv cv) (zXe_Scr (zScr_tr sc2 (zScr_tr sc3 (zScr_tr sc4 (zScr_Rs sc5))))))
        · have f84 : zf_84 [.ref 42, .int (nI a), .int (nI X), .int (nI w)] (zMk (s1, J2)) = some (.int (nI (zsqe L st X a w)), zMk (s1, J2)) := by
            rw [zqz_84, zq_84_0]
            exact c84
          rw [c49, hz, zq_149_49, if_pos l1, if_pos hm, f84, zcI_some, zq_149_66]
        · rw [r37, hz, zq_233_37, if_pos l2, if_pos hm]
          exact e5
