/-! ROUNDS: THE CLASS'S TABLE; BEST -/
theorem zFx_Scr {L : zLw} {st : zSt} {X : Nat} {s : zQs} {I J : Nat → Nat → Int32} (h : zFx L st X s I) (g : zScr I J) : zFx L st X s J := fun A hA hs => zFsh_Scr (h A hA hs) g
theorem zld_0 (st : zSt) : zld st 0 = 0 := rfl
theorem zlp81l {L : zLw} {st : zSt} {X home : Nat} {s : zQs} (hX : zEs st X) (hh : home < st.P) {A : Nat} (hA : A < 256) (hs : A &&& X = A) : ∀ m l (I : Nat → Nat → Int32), l + m = 8 → zEv L st s I → zFx L st X s I → (∀ B, A < B → B < 256 → B &&& X = B → zR47 L st X home I B) → (∀ k, k < l → A.testBit k = true → I 47 (A * 8 + k) = nI (zC1 (zrs L st X home A (st.ea k)))) →
    ∃ J, zQ_81 (17, [.ref 42, .int (nI home), .int (nI X), .int (nI A), .int (nI (zld st A)), .int (nI l)], [], zMk (s, I)) = zQ_81 (2, [.ref 42, .int (nI home), .int (nI X), .int (zpm A), .int (nI (zld st A)), .int (nI 8)], [], zMk (s, J)) ∧ (∀ r, r ≠ 47 → J r = I r) ∧ ∀ B, A ≤ B → B < 256 → B &&& X = B → zR47 L st X home J B
  | 0, l, I, h, hE, hF, h47, hI => by
    have h : l = 8 := by omega
    subst h
    refine ⟨I, ?_, fun _ _ => rfl, fun B b1 b2 b3 => ?_⟩
    · rw [zq_81_17, if_pos (show (8 : Int32) ≤ nI 8 by decide), zpm_dec]
    · by_cases e : A = B
      · subst e
        exact fun k hk hb => hI k hk hb
      · exact h47 B (by omega) b2 b3
  | m + 1, l, I, h, hE, hF, h47, hI => by
    have hl : l < 8 := by omega
    have hX1 := hX.1
    have e1 : nI A * 8 + nI l = nI (A * 8 + l) := by rw [show nI A * 8 = nI (A * 8) from nI_mul _ 8, nI_add]
    rw [zq_81_17, if_neg (show ¬ (8 : Int32) ≤ nI l from nI_ge (b := 8) hl (by decide)), bit_shr l hl A hA]
    by_cases hb : A.testBit l = true
    · obtain ⟨-, -, -, hee⟩ := hE.1.2.2.2.2.1
      obtain ⟨q1, q2, q3, q4, -⟩ := hee l hl (hX.2 l hl (zset_b hs l hb))
      have sc : zScr I (zwA I 47 (upd (I 47) (A * 8 + l) (nI (zC1 (zrs L st X home A (st.ea l)))))) := zScr_w rfl _
      obtain ⟨J, e, j1, j2⟩ := zlp81l hX hh hA hs m (l + 1) _ (by omega) (zEv_Scr hE sc) (zFx_Scr hF sc) (fun B b1 b2 b3 k hk hbk => by
        rw [zwA_s, upd_at, if_neg (by omega)]
        exact h47 B b1 b2 b3 k hk hbk) (fun k hk hbk => by
        rw [zwA_s, upd_at]
        by_cases e : k = l
        · subst e
          rw [if_pos rfl]
        · rw [if_neg (by omega)]
          exact hI k (by omega) hbk)
      refine ⟨J, ?_, fun r hr => (j1 r hr).trans (zwA_n hr), j2⟩
      have w63 : zQ_81 (63, [.ref 42, .int (nI home), .int (nI X), .int (nI A), .int (nI (zld st A)), .int (nI l)], [.int (nI (zC1 (zrs L st X home A (st.ea l)))), .int (nI (A * 8 + l)), .ref 47], zMk (s, I)) = zQ_81 (2, [.ref 42, .int (nI home), .int (nI X), .int (zpm A), .int (nI (zld st A)), .int (nI 8)], [], zMk (s, J)) := by
        rw [zq_81_63, if_pos (zb_t (show A * 8 + l < 2048 by omega) (by omega)), nI_clamp (show A * 8 + l < 2 ^ 31 by omega), nI_1]
        exact e
      rw [if_pos hb, if_neg (show ¬ (1 : Int32) = 0 by decide)]
      by_cases hAX : A = X
      · have hv : zrs L st X home A (st.ea l) = zdc L st (zld st A) (st.ea l) home := by rw [zrs_eq hA, if_pos hAX]
        have hl96 := zld_le hE.1 (zEs_sub hX hA hs)
        rw [if_neg (not_not_intro (by rw [hAX])), if_pos (zb_t hl (by omega)), nI_clamp (show l < 2 ^ 31 by omega), q4, zf121 hE (by omega) (hF A hA hs) q1 hh, zcI_some, e1, zq_81_45, ← hv]
        exact w63
      · rw [if_pos (nI_ne hAX (by omega) (by omega)), if_pos (zb_t hl (by omega)), if_pos (zb_t hl (by omega)), nI_clamp (show l < 2 ^ 31 by omega), q4, zf83 hE hX hF hh hA hs q1 h47, zcI_some, e1, zq_81_62, zf82b hE hX hF hh hA hs q1 hAX h47, zcI_some]
        exact w63
    · rw [if_neg hb, if_pos rfl, nI_1]
      exact zlp81l hX hh hA hs m (l + 1) I (by omega) hE hF h47 (fun k hk hbk => by
        by_cases e : k = l
        · rw [e] at hbk
          exact absurd hbk hb
        · exact hI k (by omega) hbk)
theorem zlp81 {L : zLw} {st : zSt} {X home : Nat} {s : zQs} (hX : zEs st X) (h0 : X ≠ 0) (hh : home < st.P) : ∀ m (I : Nat → Nat → Int32) (x4 x5 : Value), m ≤ X → zEv L st s I → zFx L st X s I → (∀ B, m < B → B < 256 → B &&& X = B → zR47 L st X home I B) →
    ∃ J, zQ_81 (2, [.ref 42, .int (nI home), .int (nI X), .int (nI m), x4, x5], [], zMk (s, I)) = some (.int (nI (zC1 (zrs L st X home 0 home))), zMk (s, J)) ∧ (∀ r, r ≠ 47 → J r = I r) ∧ ∀ B, 0 < B → B < 256 → B &&& X = B → zR47 L st X home J B
  | 0, I, x4, x5, hm, hE, hF, h47 => by
    refine ⟨I, ?_, fun _ _ => rfl, h47⟩
    have e83 : zf_83 [.ref 42, .int (nI home), .int (nI X), .int 0, .int 0] (zMk (s, I)) = _ := zf83 hE hX hF hh (A := 0) (by decide) (Nat.zero_and X) hh h47
    have e82 : zf_82 [.ref 42, .int (nI home), .int 0, .int 0, .int (zam1 (zam (zrg L st X home 0 home) 8))] (zMk (s, I)) = _ := zf82b hE hX hF hh (A := 0) (by decide) (Nat.zero_and X) hh (Ne.symm h0) h47
    rw [zq_81_2, if_pos (show nI 0 ≤ 0 by decide), e83, zcI_some, zq_81_78, e82, zcI_some, zq_81_79]
  | m + 1, I, x4, x5, hm, hE, hF, h47 => by
    have hX1 := hX.1
    rw [zq_81_2, if_neg (show ¬ nI (m + 1) ≤ 0 from nI_ge (b := m + 1) (a := 0) (by omega) (by omega))]
    by_cases hs : (m + 1) &&& X = m + 1
    · have hA := zEs_sub hX (show m + 1 < 256 by omega) hs
      obtain ⟨J1, e1, a1, a2⟩ := zlp81l hX hh (show m + 1 < 256 by omega) hs 8 0 I rfl hE hF h47 (fun k hk => absurd hk (Nat.not_lt_zero k))
      have sc : zScr I J1 := zScr_1 (k := 47) rfl a1
      obtain ⟨J, e2, b1, b2⟩ := zlp81 hX h0 hh m J1 (.int (nI (zld st (m + 1)))) (.int (nI 8)) (by omega) (zEv_Scr hE sc) (zFx_Scr hF sc) (fun B h1 h2 h3 => a2 B h1 h2 h3)
      refine ⟨J, ?_, fun r hr => (b1 r hr).trans (a1 r hr), b2⟩
      rw [if_pos (show nI (m + 1) &&& (nI X ^^^ (-1)) = 0 by rw [bit_sub X hX1 (m + 1) (by omega)]; exact hs), zf76 s hE.1 hA, zcI_some, zq_81_14]
      rw [zpm_s] at e1
      exact e1.trans e2
    · rw [if_neg (show ¬ (nI (m + 1) &&& (nI X ^^^ (-1)) = 0) by rw [bit_sub X hX1 (m + 1) (by omega)]; exact hs), zpm_dec, zpm_s]
      exact zlp81 hX h0 hh m I x4 x5 (by omega) hE hF (fun B h1 h2 h3 => by
        by_cases e : m + 1 = B
        · rw [← e] at h3
          exact absurd h3 hs
        · exact h47 B (by omega) h2 h3)
theorem zf81 {L : zLw} {st : zSt} {X home : Nat} {s : zQs} (hX : zEs st X) (h0 : X ≠ 0) (hh : home < st.P) {I : Nat → Nat → Int32} (hE : zEv L st s I) (hF : zFx L st X s I) :
    ∃ J, zf_81 [.ref 42, .int (nI home), .int (nI X)] (zMk (s, I)) = some (.int (nI (zC1 (zrs L st X home 0 home))), zMk (s, J)) ∧ (∀ r, r ≠ 47 → J r = I r) ∧ ∀ B, 0 < B → B < 256 → B &&& X = B → zR47 L st X home J B := by
  rw [zqz_81, zq_81_0]
  exact zlp81 hX h0 hh X I (.long 0) (.long 0) (Nat.le_refl _) hE hF (fun B h1 h2 h3 => by
    have : B ≤ X := by rw [← h3]; exact Nat.and_le_right
    omega)
/-! the order -/
def zpop (A : Nat) : Nat := zcn (fun i => A.testBit i) 8
theorem zpop_or : ∀ A, A < 256 → ∀ e, e < 8 → A.testBit e = false → zpop (A ||| 2 ^ e) = zpop A + 1 := by
  have h : ∀ A, A < 256 → ∀ e, e < 8 → (A.testBit e == false && !decide (zpop (A ||| 2 ^ e) = zpop A + 1)) = false := by decide +kernel
  intro A hA e he hb
  have := h A hA e he
  rw [hb] at this
  simpa using this
/-- behind k errands: what is done, where one is -/
def zsq (L : zLw) (st : zSt) (X home : Nat) : Nat → Nat × Nat
  | 0 => (0, home)
  | k + 1 => match zam (zrg L st X home (zsq L st X home k).1 (zsq L st X home k).2) 8 with
    | some (e, _) => ((zsq L st X home k).1 ||| 2 ^ e, st.ea e)
    | none => zsq L st X home k
theorem zsq_s (L : zLw) (st : zSt) (X home k : Nat) : zsq L st X home (k + 1) = match zam (zrg L st X home (zsq L st X home k).1 (zsq L st X home k).2) 8 with
    | some (e, _) => ((zsq L st X home k).1 ||| 2 ^ e, st.ea e)
    | none => zsq L st X home k := rfl
/-- the next errand at each place of the order -/
def zsqe (L : zLw) (st : zSt) (X home k : Nat) : Nat := match zam (zrg L st X home (zsq L st X home k).1 (zsq L st X home k).2) 8 with
  | some (e, _) => e
  | none => 8
theorem zrg_in {L : zLw} {st : zSt} {X home A here e y : Nat} (h : zrg L st X home A here e = some y) : X.testBit e = true ∧ A.testBit e = false ∧ ∃ u v, zdc L st (zld st A) here (st.ea e) = some u ∧ zrs L st X home (A ||| 2 ^ e) (st.ea e) = some v ∧ y = u + v := by
  unfold zrg at h
  split at h
  · rename_i hc
    obtain ⟨u, v, a, b, c⟩ := zsm_some h
    exact ⟨hc.1, hc.2, u, v, a, b, c⟩
  · cases h
theorem zsq_in {L : zLw} {st : zSt} {I : Nat → Nat → Int32} (hR : RepW st I) {X home : Nat} (hX : zEs st X) (hh : home < st.P) {y0 : Nat} (hy : zrs L st X home 0 home = some y0) : ∀ k, k ≤ zpop X → (zsq L st X home k).1 < 256 ∧ (zsq L st X home k).1 &&& X = (zsq L st X home k).1 ∧ (zsq L st X home k).2 < st.P ∧ zpop (zsq L st X home k).1 = k ∧ (∃ y, zrs L st X home (zsq L st X home k).1 (zsq L st X home k).2 = some y) ∧
      (k < zpop X → ∃ e y, zam (zrg L st X home (zsq L st X home k).1 (zsq L st X home k).2) 8 = some (e, y) ∧ e < 8 ∧ zsqe L st X home k = e ∧ X.testBit e = true ∧ (zsq L st X home k).1.testBit e = false ∧ (zsq L st X home k).1 ≠ X ∧ zrs L st X home (zsq L st X home k).1 (zsq L st X home k).2 = some y ∧ zsq L st X home (k + 1) = ((zsq L st X home k).1 ||| 2 ^ e, st.ea e)) := by
  have step : ∀ k A here y, zsq L st X home k = (A, here) → A < 256 → A &&& X = A → zpop A = k → zrs L st X home A here = some y → k < zpop X → ∃ e y, zam (zrg L st X home A here) 8 = some (e, y) ∧ e < 8 ∧ zsqe L st X home k = e ∧ X.testBit e = true ∧ A.testBit e = false ∧ A ≠ X ∧ zrs L st X home A here = some y ∧ zsq L st X home (k + 1) = (A ||| 2 ^ e, st.ea e) := by
    intro k A here y hk hA hs hp hz hlt
    have hAX : A ≠ X := fun e => by rw [e] at hp; omega
    rw [zrs_eq hA, if_neg hAX] at hz
    cases hm : zam (zrg L st X home A here) 8 with
    | none => rw [hm] at hz; cases hz
    | some q =>
      obtain ⟨e, z⟩ := q
      obtain ⟨z1, z2⟩ := zam_in 8 e z hm
      obtain ⟨c1, c2, -⟩ := zrg_in z2
      refine ⟨e, z, rfl, z1, ?_, c1, c2, hAX, ?_, ?_⟩
      · unfold zsqe
        rw [hk]
        show (match zam (zrg L st X home A here) 8 with
          | some (e, _) => e
          | none => 8) = e
        rw [hm]
      · rw [zrs_eq hA, if_neg hAX, hm]
        rfl
      · rw [zsq_s, hk]
        show (match zam (zrg L st X home A here) 8 with
          | some (e, _) => (A ||| 2 ^ e, st.ea e)
          | none => (A, here)) = _
        rw [hm]
  intro k
  induction k with
  | zero =>
    intro _
    refine ⟨by show 0 < 256; decide, Nat.zero_and X, hh, by show zpop 0 = 0; decide, ⟨y0, hy⟩, fun hlt => step 0 0 home y0 rfl (by decide) (Nat.zero_and X) (by decide) hy hlt⟩
  | succ k ih =>
    intro hk
    obtain ⟨a1, a2, a3, a4, a5, a6⟩ := ih (by omega)
    obtain ⟨e, y, b1, b2, b3, b4, b5, b6, b7, b8⟩ := a6 (by omega)
    obtain ⟨o1, o2⟩ := or_add _ a1 e b2 b5
    obtain ⟨z1, z2⟩ := zam_in 8 e y b1
    obtain ⟨-, -, u, v, c1, c2, c3⟩ := zrg_in z2
    have hp := zpop_or _ a1 e b2 b5
    have hlt : (zsq L st X home k).1 ||| 2 ^ e < 256 := by omega
    have hsub := or_sub a2 b4
    rw [b8]
    refine ⟨hlt, hsub, zEs_ea hR hX e b2 b4, by rw [hp, a4], ⟨v, c2⟩, fun hlt2 => ?_⟩
    exact step (k + 1) _ _ v b8 hlt hsub (by rw [hp, a4]) c2 hlt2
theorem zlp84 {L : zLw} {st : zSt} {X home : Nat} {s : zQs} {I : Nat → Nat → Int32} (hE : zEv L st s I) (hF : zFx L st X s I) (hX : zEs st X) (hh : home < st.P) (h47 : ∀ B, 0 < B → B < 256 → B &&& X = B → zR47 L st X home I B) {y0 : Nat} (hy : zrs L st X home 0 home = some y0) {w : Nat} (hw : w < zpop X) (hp8 : zpop X ≤ 8) : ∀ m k (x6 : Int32), k + m = w + 1 → (0 < k → x6 = nI (zsqe L st X home (k - 1))) →
    zQ_84 (8, [.ref 42, .int (nI home), .int (nI X), .int (nI w), .int (nI (zsq L st X home k).2), .int (nI (zsq L st X home k).1), .int x6, .int (nI k)], [], zMk (s, I)) = some (.int (nI (zsqe L st X home w)), zMk (s, I))
  | 0, k, x6, h, hx => by
    have h : k = w + 1 := by omega
    subst h
    rw [zq_84_8, if_pos (nI_lt (Nat.lt_succ_self w) (by omega)), hx (by omega)]
    rfl
  | m + 1, k, x6, h, hx => by
    have hk : k ≤ w := by omega
    obtain ⟨a1, a2, a3, a4, a5, a6⟩ := zsq_in (L := L) hE.1 hX hh hy k (by omega)
    obtain ⟨e, y, b1, b2, b3, b4, b5, b6, b7, b8⟩ := a6 (by omega)
    obtain ⟨-, -, -, hee⟩ := hE.1.2.2.2.2.1
    obtain ⟨q1, q2, q3, q4, -⟩ := hee e b2 (hX.2 e b2 b4)
    have e83 := zf83 hE hX hF hh a1 a2 a3 (fun B h1 h2 h3 => h47 B (by omega) h2 h3)
    rw [b1] at e83
    have e83 : zf_83 [.ref 42, .int (nI (zsq L st X home k).2), .int (nI X), .int (nI (zsq L st X home k).1), .int (nI (zld st (zsq L st X home k).1))] (zMk (s, I)) = some (.int (nI e), zMk (s, I)) := e83
    have nx := zlp84 hE hF hX hh h47 hy hw hp8 m (k + 1) (nI e) (by omega) (fun _ => by rw [Nat.add_sub_cancel, b3])
    rw [b8] at nx
    rw [zq_84_8, if_neg (nI_nlt hk (by omega)), if_neg (show ¬ (8 : Int32) ≤ nI k from nI_ge (b := 8) (by omega) (by decide)), zf76 s hE.1 (zEs_sub hX a1 a2), zcI_some, zq_84_21, e83, zcI_some, zq_84_22, if_pos (nI_m1 (by omega)), if_pos (zb_t b2 (by omega)), nI_clamp (show e < 2 ^ 31 by omega), q4, nI_or _ a1 e b2, nI_1]
    exact nx
/-- the reference goes the order -/
theorem zlp233i {L : zLw} {st : zSt} {X home : Nat} {s : zQs} (hX : zEs st X) (hh : home < st.P) {y0 : Nat} (hy : zrs L st X home 0 home = some y0) {w k last : Nat} (hk : k < zpop X) (hl : last = 8 ∨ (last < 8 ∧ st.E.testBit last = true)) (hlast : zplc st home last = (zsq L st X home k).2) (hl2 : last = 8 ∨ (zsq L st X home k).1.testBit last = true) (x4 : Int32) (hw8 : w < 8) (hk8 : k < 8) : ∀ m i (I : Nat → Nat → Int32), i + m = zsqe L st X home k → zRe L st s I → (∀ B, B < 256 → B &&& X = B → zR84 L st X home I B) →
    ∃ J, zQ_233 (56, [.ref 58, .int (nI home), .int (nI X), .int (nI w), .int x4, .int (nI (zsq L st X home k).1), .int (nI last), .int (nI k), .int (nI i)], [], zMk (s, I)) = (if k = w then some (.int (nI (zsqe L st X home k)), zMk (s, J)) else zQ_233 (54, [.ref 58, .int (nI home), .int (nI X), .int (nI w), .int x4, .int (nI ((zsq L st X home k).1 ||| 2 ^ zsqe L st X home k)), .int (nI (zsqe L st X home k)), .int (nI (k + 1)), .int (nI (zsqe L st X home k))], [], zMk (s, J))) ∧ zRs I J ∧ zRe L st s J := by
  have hl8 : last ≤ 8 := by omega
  intro m
  induction m with
  | zero =>
    intro i I h hE h84
    have h : i = zsqe L st X home k := by omega
    subst h
    obtain ⟨a1, a2, a3, a4, a5, a6⟩ := zsq_in (L := L) hE.1 hX hh hy k (by omega)
    obtain ⟨e, y, b1, b2, b3, b4, b5, b6, b7, b8⟩ := a6 hk
    obtain ⟨z1, z2⟩ := zam_in 8 e y b1
    rw [b3]
    obtain ⟨J, e2, j1, j2⟩ := zf228 (e := e) hE hX hh a1 a2 hl b2 (fun hb hAe => by
      obtain ⟨o1, o2⟩ := or_add _ a1 e b2 hAe
      exact h84 _ (by omega) (or_sub a2 hb))
    have h9 := h84 _ a1 a2 last hl8 hl2
    have e9 : (9 : Int32) * nI (zsq L st X home k).1 + nI last = nI (9 * (zsq L st X home k).1 + last) := by rw [show (9 : Int32) * nI (zsq L st X home k).1 = nI (9 * (zsq L st X home k).1) from nI_mul 9 _, nI_add]
    refine ⟨J, ?_, j1, j2⟩
    rw [zq_233_56, e2, zcI_some, zq_233_63, e9, if_pos (zb_t (show 9 * (zsq L st X home k).1 + last < 2304 by omega) (by omega)), nI_clamp (show 9 * (zsq L st X home k).1 + last < 2 ^ 31 by omega), j1 84 (by decide) (by decide) (by decide) (by decide) (by decide), h9, hlast, z2, b7, if_pos rfl]
    by_cases hkw : k = w
    · rw [if_pos hkw, if_neg (not_not_intro (by rw [hkw]))]
    · rw [if_neg hkw, if_pos (nI_ne hkw (by omega) (by omega)), nI_or _ a1 e b2, nI_1]
  | succ m ih =>
    intro i I h hE h84
    obtain ⟨a1, a2, a3, a4, a5, a6⟩ := zsq_in (L := L) hE.1 hX hh hy k (by omega)
    obtain ⟨e, y, b1, b2, b3, b4, b5, b6, b7, b8⟩ := a6 hk
    have hi : i < e := by omega
    obtain ⟨f1, f2⟩ := zam_first 8 e y b1
    have hsm := zEv_small (L := L) (s := s) hE.1
    have hP := zEv_P hE.1
    have hea := zEs_ea hE.1 hX
    obtain ⟨J1, e2, j1, j2⟩ := zf228 (e := i) hE hX hh a1 a2 hl (by omega) (fun hb hAe => by
      obtain ⟨o1, o2⟩ := or_add _ a1 i (by omega) hAe
      exact h84 _ (by omega) (or_sub a2 hb))
    obtain ⟨J, e3, k1, k2⟩ := ih (i + 1) J1 (by omega) j2 (fun B h1 h2 l' hl' hb' => by rw [j1 84 (by decide) (by decide) (by decide) (by decide) (by decide)]; exact h84 B h1 h2 l' hl' hb')
    have h9 := h84 _ a1 a2 last hl8 hl2
    have e9 : (9 : Int32) * nI (zsq L st X home k).1 + nI last = nI (9 * (zsq L st X home k).1 + last) := by rw [show (9 : Int32) * nI (zsq L st X home k).1 = nI (9 * (zsq L st X home k).1) from nI_mul 9 _, nI_add]
    have hy' : y ≤ 48635136 := zrs_le hsm hP hea hh a3 b7
    have hne : ¬ nI (zR1 (zrg L st X home (zsq L st X home k).1 (zsq L st X home k).2 i)) = nI (zR1 (some y)) := by
      cases hz : zrg L st X home (zsq L st X home k).1 (zsq L st X home k).2 i with
      | none => exact nI_ne (a := 1000000000) (b := y) (by omega) (by decide) (by omega)
      | some z =>
        have := zrg_le hsm hP (show i < 8 by omega) hea hh a3 hz
        refine nI_ne (a := z) (b := y) (fun q => f1 i hi (by rw [hz, q])) (by omega) (by omega)
    refine ⟨J, ?_, zRs_tr j1 k1, k2⟩
    rw [zq_233_56, e2, zcI_some, zq_233_63, e9, if_pos (zb_t (show 9 * (zsq L st X home k).1 + last < 2304 by omega) (by omega)), nI_clamp (show 9 * (zsq L st X home k).1 + last < 2 ^ 31 by omega), j1 84 (by decide) (by decide) (by decide) (by decide) (by decide), h9, hlast, b7, if_neg hne, nI_1]
    exact e3
theorem zlp233 {L : zLw} {st : zSt} {X home : Nat} {s : zQs} (hX : zEs st X) (hh : home < st.P) {y0 : Nat} (hy : zrs L st X home 0 home = some y0) {w : Nat} (hw : w < zpop X) (hp8 : zpop X ≤ 8) (x4 : Int32) : ∀ m k last (I : Nat → Nat → Int32) (x8 : Value), k + m = w → (last = 8 ∨ (last < 8 ∧ st.E.testBit last = true)) → zplc st home last = (zsq L st X home k).2 → (last = 8 ∨ (zsq L st X home k).1.testBit last = true) → zRe L st s I → (∀ B, B < 256 → B &&& X = B → zR84 L st X home I B) →
    ∃ J, zQ_233 (54, [.ref 58, .int (nI home), .int (nI X), .int (nI w), .int x4, .int (nI (zsq L st X home k).1), .int (nI last), .int (nI k), x8], [], zMk (s, I)) = some (.int (nI (zsqe L st X home w)), zMk (s, J)) ∧ zRs I J ∧ zRe L st s J
  | 0, k, last, I, x8, h, h1, h2, h3, hE, h84 => by
    have h : k = w := by omega
    subst h
    obtain ⟨J, e, j1, j2⟩ := zlp233i (w := k) (s := s) hX hh hy hw h1 h2 h3 x4 (by omega) (by omega) _ 0 I (Nat.zero_add _) hE h84
    rw [if_pos rfl] at e
    refine ⟨J, ?_, j1, j2⟩
    rw [zq_233_54]
    exact e
  | m + 1, k, last, I, x8, h, h1, h2, h3, hE, h84 => by
    obtain ⟨J1, e1, j1, j2⟩ := zlp233i (w := w) (s := s) hX hh hy (show k < zpop X by omega) h1 h2 h3 x4 (by omega) (by omega) _ 0 I (Nat.zero_add _) hE h84
    obtain ⟨a1, a2, a3, a4, a5, a6⟩ := zsq_in (L := L) hE.1 hX hh hy k (by omega)
    obtain ⟨e, y, b1, b2, b3, b4, b5, b6, b7, b8⟩ := a6 (by omega)
    rw [if_neg (show ¬ k = w by omega), b3] at e1
    have hbit : ((zsq L st X home k).1 ||| 2 ^ e).testBit e = true := by
      rw [Nat.testBit_or, Nat.testBit_two_pow]
      simp
    obtain ⟨J, e2, k1, k2⟩ := zlp233 hX hh hy hw hp8 x4 m (k + 1) e J1 (.int (nI e)) (by omega) (Or.inr ⟨b2, hX.2 e b2 b4⟩) (by rw [b8]; exact if_neg (by omega)) (Or.inr (by rw [b8]; exact hbit)) j2 (fun B h1 h2 l' hl' hb' => by rw [j1 84 (by decide) (by decide) (by decide) (by decide) (by decide)]; exact h84 B h1 h2 l' hl' hb')
    rw [b8] at e2
    refine ⟨J, ?_, zRs_tr j1 k1, k2⟩
    rw [zq_233_54]
    exact e1.trans e2
