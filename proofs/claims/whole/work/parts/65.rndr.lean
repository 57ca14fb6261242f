/-! ROUNDS: THE REFERENCE -/
def zplc (st : zSt) (home l : Nat) : Nat := if l = 8 then home else st.ea l
def zR84 (L : zLw) (st : zSt) (X home : Nat) (I : Nat → Nat → Int32) (A : Nat) : Prop := ∀ l, l ≤ 8 → (l = 8 ∨ A.testBit l = true) → I 84 (9 * A + l) = nI (zR1 (zrs L st X home A (zplc st home l)))
theorem zplc_lt {st : zSt} {I : Nat → Nat → Int32} (hR : RepW st I) {home l : Nat} (hh : home < st.P) (hl : l = 8 ∨ (l < 8 ∧ st.E.testBit l = true)) : zplc st home l < st.P := by
  unfold zplc
  split
  · exact hh
  · rename_i h
    rcases hl with h' | ⟨h1, h2⟩
    · exact absurd h' h
    · exact (hR.2.2.2.2.1.2.2.2 l h1 h2).1
theorem zf227 (s : zQs) {st : zSt} {I : Nat → Nat → Int32} (hR : RepW st I) {home l : Nat} (hl : l = 8 ∨ (l < 8 ∧ st.E.testBit l = true)) : zf_227 [.ref 58, .int (nI home), .int (nI l)] (zMk (s, I)) = some (.int (nI (zplc st home l)), zMk (s, I)) := by
  rw [zl_227]
  unfold zplc
  rcases hl with h | ⟨h1, h2⟩
  · subst h
    rw [if_neg (not_not_intro (show nI 8 = 8 from rfl)), if_pos rfl]
  · obtain ⟨-, -, -, hee⟩ := hR.2.2.2.2.1
    obtain ⟨-, -, -, -, -, -, e7, -⟩ := hee l h1 h2
    rw [if_pos (show ¬ nI l = 8 from nI_ne (b := 8) (by omega) (by omega) (by decide)), if_pos (zb_t h1 (by omega)), nI_clamp (show l < 2 ^ 31 by omega), e7, if_neg (by omega)]
theorem zR1_cap {o : Option Nat} {B : Nat} (hB : B < 1000000000) (h : ∀ x, o = some x → x ≤ B) : zR1 o ≤ 1000000000 ∧ ∀ x, o = some x → x < 1000000000 := ⟨zR1_lt hB h, fun x hx => by have := h x hx; omega⟩
theorem zf228 {L : zLw} {st : zSt} {X home : Nat} {s : zQs} {I : Nat → Nat → Int32} (hE : zRe L st s I) (hX : zEs st X) (hh : home < st.P) {A l e : Nat} (hA : A < 256) (hs : A &&& X = A) (hl : l = 8 ∨ (l < 8 ∧ st.E.testBit l = true)) (he : e < 8) (h84 : X.testBit e = true → A.testBit e = false → zR84 L st X home I (A ||| 2 ^ e)) :
    ∃ J, zf_228 [.ref 58, .int (nI home), .int (nI X), .int (nI A), .int (nI l), .int (nI e)] (zMk (s, I)) = some (.int (nI (zR1 (zrg L st X home A (zplc st home l) e))), zMk (s, J)) ∧ zRs I J ∧ zRe L st s J := by
  have hsm := zEv_small (L := L) (s := s) hE.1
  have hP := zEv_P hE.1
  have hea := zEs_ea hE.1 hX
  have hp := zplc_lt hE.1 hh hl
  rw [zqz_228, zq_228_0, nI_diff hX.1 hA, bit_shr e he _ (zdiff_lt hX.1 A), zdiff_b X A he]
  by_cases hc : X.testBit e = true ∧ A.testBit e = false
  · obtain ⟨-, -, -, hee⟩ := hE.1.2.2.2.2.1
    obtain ⟨e1, e2, e3, e4, e5, e6, e7, -⟩ := hee e he (hX.2 e he hc.1)
    obtain ⟨o1, o2⟩ := or_add A hA e he hc.2
    have hAs := zEs_sub hX hA hs
    have hld := zld_le hE.1 hAs
    obtain ⟨J, e8, j1, j2⟩ := zf220 hE (l := zld st A) (by omega) hp e1
    have hbit : (A ||| 2 ^ e).testBit e = true := by
      rw [Nat.testBit_or, Nat.testBit_two_pow]
      simp
    have h9 := h84 hc.1 hc.2 e (by omega) (Or.inr hbit)
    have hpe : zplc st home e = st.ea e := if_neg (by omega)
    have e10 : (9 : Int32) * nI (A ||| 2 ^ e) + nI e = nI (9 * (A ||| 2 ^ e) + e) := by rw [show (9 : Int32) * nI (A ||| 2 ^ e) = nI (9 * (A ||| 2 ^ e)) from nI_mul 9 _, nI_add]
    have b1 := zR1_cap (B := 189981) (by decide) (fun x hx => zdc_le hsm hP hp e1 (l := zld st A) hx)
    have b2 := zR1_cap (B := 48635136) (by decide) (fun x hx => zrs_le hsm hP hea hh e1 (A := A ||| 2 ^ e) hx)
    refine ⟨J, ?_, j1, j2⟩
    rw [hc.1, hc.2, if_pos (show (true && !false) = true from rfl), if_pos (show ¬ (1 : Int32) = 0 by decide), zf227 s hE.1 hl, zcI_some, zq_228_17, if_pos (zb_t he (by omega)), zf225 s hE.1 hAs, zcI_some, nI_clamp (show e < 2 ^ 31 by omega), e7, zq_228_24, e8, zcI_some, zq_228_25, nI_or A hA e he, e10, if_pos (zb_t (show 9 * (A ||| 2 ^ e) + e < 2304 by omega) (by omega)), nI_clamp (show 9 * (A ||| 2 ^ e) + e < 2 ^ 31 by omega), j1 84 (by decide) (by decide) (by decide) (by decide) (by decide), h9, hpe, zl180 s J b1.1 b2.1, zcI_some, zq_228_38, zR1_sm b1.2 b2.2]
    have : zrg L st X home A (zplc st home l) e = zsm (zdc L st (zld st A) (zplc st home l) (st.ea e)) (zrs L st X home (A ||| 2 ^ e) (st.ea e)) := if_pos hc
    rw [this]
  · have hz : zrg L st X home A (zplc st home l) e = none := if_neg hc
    have hf : (X.testBit e && !A.testBit e) = false := by
      cases h1 : X.testBit e with
      | false => rfl
      | true =>
        cases h2 : A.testBit e with
        | true => rfl
        | false => exact absurd ⟨h1, h2⟩ hc
    rw [hf, if_neg (show ¬ (false = true) by decide), if_neg (not_not_intro rfl), hz]
    exact ⟨I, rfl, zRs_rfl I, hE⟩
theorem zamr_le {f : Nat → Option Nat} {n B : Nat} (hB : B ≤ 1000000000) (hf : ∀ j x, j < n → f j = some x → x ≤ B) : zamv 1000000000 (zam f n) ≤ 1000000000 := by
  cases hz : zam f n with
  | none => exact Nat.le_refl _
  | some q =>
    obtain ⟨i, y⟩ := q
    obtain ⟨z1, z2⟩ := zam_in n i y hz
    have := hf i y z1 z2
    show y ≤ _
    omega
theorem zam_min {f : Nat → Option Nat} {n : Nat} (hf : ∀ j x, j ≤ n → f j = some x → x < 1000000000) : min (zamv 1000000000 (zam f n)) (zR1 (f n)) = zamv 1000000000 (zam f (n + 1)) := by
  obtain ⟨k1, k2⟩ := zam_r hf
  by_cases h : zR1 (f n) < zamv 1000000000 (zam f n)
  · rw [k1 h]
    exact Nat.min_eq_right (by omega)
  · rw [k2 h]
    exact Nat.min_eq_left (by omega)
theorem zlp229i {L : zLw} {st : zSt} {X home : Nat} {s : zQs} (hX : zEs st X) (hh : home < st.P) {A l : Nat} (hA : A < 256) (hs : A &&& X = A) (hAX : A ≠ X) (hl : l = 8 ∨ (l < 8 ∧ A.testBit l = true)) : ∀ m e (I : Nat → Nat → Int32), e + m = 8 → zRe L st s I → (∀ B, A < B → B < 256 → B &&& X = B → zR84 L st X home I B) →
    ∃ J, zQ_229 (47, [.ref 58, .int (nI home), .int (nI X), .int (nI A), .int (nI l), .int (nI (zamv 1000000000 (zam (zrg L st X home A (zplc st home l)) e))), .int (nI e)], [], zMk (s, I)) = zQ_229 (13, [.ref 58, .int (nI home), .int (nI X), .int (nI A), .int (nI (l + 1)), .int (nI (zR1 (zrs L st X home A (zplc st home l)))), .int (nI 8)], [], zMk (s, zwA J 84 (upd (J 84) (9 * A + l) (nI (zR1 (zrs L st X home A (zplc st home l))))))) ∧ zRs I J ∧ zRe L st s J := by
  have hX1 := hX.1
  have hlb : l = 8 ∨ (l < 8 ∧ st.E.testBit l = true) := hl.imp id (fun h => ⟨h.1, hX.2 l h.1 (zset_b hs l h.2)⟩)
  have hl8 : l ≤ 8 := by omega
  intro m
  induction m with
  | zero =>
    intro e I h hE h84
    have h : e = 8 := by omega
    subst h
    have e1 : (9 : Int32) * nI A + nI l = nI (9 * A + l) := by rw [show (9 : Int32) * nI A = nI (9 * A) from nI_mul 9 _, nI_add]
    have hv : zamv 1000000000 (zam (zrg L st X home A (zplc st home l)) 8) = zR1 (zrs L st X home A (zplc st home l)) := by
      rw [zrs_eq hA, if_neg hAX]
      cases zam (zrg L st X home A (zplc st home l)) 8 with
      | none => rfl
      | some q => rfl
    refine ⟨I, ?_, zRs_rfl I, hE⟩
    rw [zq_229_47, if_pos (show (8 : Int32) ≤ nI 8 by decide), e1, if_pos (zb_t (show 9 * A + l < 2304 by omega) (by omega)), nI_clamp (show 9 * A + l < 2 ^ 31 by omega), nI_1, hv]
  | succ m ih =>
    intro e I h hE h84
    have he : e < 8 := by omega
    have hsm := zEv_small (L := L) (s := s) hE.1
    have hP := zEv_P hE.1
    have hea := zEs_ea hE.1 hX
    have hp := zplc_lt hE.1 hh hlb
    obtain ⟨J1, e1, j1, j2⟩ := zf228 hE hX hh hA hs hlb he (fun hb hAe => by
      obtain ⟨o1, o2⟩ := or_add A hA e he hAe
      have : 0 < 2 ^ e := Nat.two_pow_pos e
      exact h84 _ (by omega) (by omega) (or_sub hs hb))
    obtain ⟨J, e2, k1, k2⟩ := ih (e + 1) J1 (by omega) j2 (fun B b1 b2 b3 l' hl' hb' => by rw [j1 84 (by decide) (by decide) (by decide) (by decide) (by decide)]; exact h84 B b1 b2 b3 l' hl' hb')
    have gl : ∀ j x, j ≤ e → zrg L st X home A (zplc st home l) j = some x → x ≤ 48825117 := fun j x hj hx => zrg_le hsm hP (show j < 8 by omega) hea hh hp hx
    have b1 := zamr_le (f := zrg L st X home A (zplc st home l)) (n := e) (B := 48825117) (by decide) (fun j x hj hx => gl j x (by omega) hx)
    have b2 := (zR1_cap (B := 48825117) (by decide) (fun x hx => gl e x (Nat.le_refl _) hx)).1
    refine ⟨J, ?_, zRs_tr j1 k1, k2⟩
    have hgo : zcI (zf_228 [.ref 58, .int (nI home), .int (nI X), .int (nI A), .int (nI l), .int (nI e)] (zMk (s, I))) (fun v M => zQ_229 (71, [.ref 58, .int (nI home), .int (nI X), .int (nI A), .int (nI l), .int (nI (zamv 1000000000 (zam (zrg L st X home A (zplc st home l)) e))), .int (nI e)], [.int v, .int (nI (zamv 1000000000 (zam (zrg L st X home A (zplc st home l)) e)))], M)) = zQ_229 (13, [.ref 58, .int (nI home), .int (nI X), .int (nI A), .int (nI (l + 1)), .int (nI (zR1 (zrs L st X home A (zplc st home l)))), .int (nI 8)], [], zMk (s, zwA J 84 (upd (J 84) (9 * A + l) (nI (zR1 (zrs L st X home A (zplc st home l))))))) := by
      rw [e1, zcI_some, zq_229_71, zl181 s J1 (by omega) (by omega), zcI_some, zq_229_72, nI_1, zam_min (fun j x hj hx => by have := gl j x hj hx; omega)]
      exact e2
    rw [zq_229_47, if_neg (show ¬ (8 : Int32) ≤ nI e from nI_ge (b := 8) he (by decide)), if_neg (nI_ne hAX (by omega) (by omega))]
    rcases hl with h8 | ⟨h8, hb⟩
    · rw [if_pos (show nI l = 8 by rw [h8]; rfl)]
      exact hgo
    · rw [if_neg (show ¬ nI l = 8 from nI_ne (b := 8) (by omega) (by omega) (by decide)), bit_shr l h8 A hA, if_pos hb, if_neg (not_not_intro rfl)]
      exact hgo
theorem zlp229j {L : zLw} {st : zSt} {X home : Nat} {s : zQs} (hX : zEs st X) {A l : Nat} (hA : A < 256) (hAX : A ≠ X) (hl : l < 8) (hb : ¬ A.testBit l = true) {I : Nat → Nat → Int32} : ∀ m e, e + m = 8 →
    zQ_229 (47, [.ref 58, .int (nI home), .int (nI X), .int (nI A), .int (nI l), .int (nI 1000000000), .int (nI e)], [], zMk (s, I)) = zQ_229 (13, [.ref 58, .int (nI home), .int (nI X), .int (nI A), .int (nI (l + 1)), .int (nI 1000000000), .int (nI 8)], [], zMk (s, zwA I 84 (upd (I 84) (9 * A + l) (nI 1000000000)))) := by
  have hX1 := hX.1
  intro m
  induction m with
  | zero =>
    intro e h
    have h : e = 8 := by omega
    subst h
    have e1 : (9 : Int32) * nI A + nI l = nI (9 * A + l) := by rw [show (9 : Int32) * nI A = nI (9 * A) from nI_mul 9 _, nI_add]
    rw [zq_229_47, if_pos (show (8 : Int32) ≤ nI 8 by decide), e1, if_pos (zb_t (show 9 * A + l < 2304 by omega) (by omega)), nI_clamp (show 9 * A + l < 2 ^ 31 by omega), nI_1]
  | succ m ih =>
    intro e h
    rw [zq_229_47, if_neg (show ¬ (8 : Int32) ≤ nI e from nI_ge (b := 8) (by omega) (by decide)), if_neg (nI_ne hAX (by omega) (by omega)), if_neg (show ¬ nI l = 8 from nI_ne (b := 8) (by omega) (by omega) (by decide)), bit_shr l hl A hA, if_neg hb, if_pos (show ¬ (0 : Int32) = 1 by decide), nI_1]
    exact ih (e + 1) (by omega)
def zpm (m : Nat) : Int32 := if m = 0 then -1 else nI (m - 1)
theorem zpm_s (m : Nat) : zpm (m + 1) = nI m := if_neg (Nat.succ_ne_zero m)
theorem zpm_dec (m : Nat) : nI m + (-1) = zpm m := by
  unfold zpm
  by_cases h : m = 0
  · subst h
    decide
  · rw [if_neg h, nI_dec (by omega)]
theorem zlp229l {L : zLw} {st : zSt} {X home : Nat} {s : zQs} (hX : zEs st X) (hh : home < st.P) {A : Nat} (hA : A < 256) (hs : A &&& X = A) : ∀ m l (I : Nat → Nat → Int32) (x5 x6 : Value), l + m = 9 → zRe L st s I → (∀ B, A < B → B < 256 → B &&& X = B → zR84 L st X home I B) → (∀ k, k < l → (k = 8 ∨ A.testBit k = true) → I 84 (9 * A + k) = nI (zR1 (zrs L st X home A (zplc st home k)))) →
    ∃ J x5' x6', zQ_229 (13, [.ref 58, .int (nI home), .int (nI X), .int (nI A), .int (nI l), x5, x6], [], zMk (s, I)) = zQ_229 (2, [.ref 58, .int (nI home), .int (nI X), .int (zpm A), .int (nI 9), x5', x6'], [], zMk (s, J)) ∧ zScr I J ∧ zRe L st s J ∧ ∀ B, A ≤ B → B < 256 → B &&& X = B → zR84 L st X home J B
  | 0, l, I, x5, x6, h, hE, h84, hI => by
    have h : l = 9 := by omega
    subst h
    refine ⟨I, x5, x6, ?_, zScr_rfl I, hE, fun B h1 h2 h3 => ?_⟩
    · rw [zq_229_13, if_pos (show (9 : Int32) ≤ nI 9 by decide), zpm_dec]
    · by_cases e : A = B
      · subst e
        exact fun k hk hb => hI k (by omega) hb
      · exact h84 B (by omega) h2 h3
  | m + 1, l, I, x5, x6, h, hE, h84, hI => by
    have hl : l < 9 := by omega
    have hX1 := hX.1
    have e1 : (9 : Int32) * nI A + nI l = nI (9 * A + l) := by rw [show (9 : Int32) * nI A = nI (9 * A) from nI_mul 9 _, nI_add]
    /- behind the write -/
    have go : ∀ (J1 : Nat → Nat → Int32) (v : Nat) (x5 x6 : Value), zScr I J1 → zRe L st s J1 → J1 84 = I 84 → ((l = 8 ∨ A.testBit l = true) → v = zR1 (zrs L st X home A (zplc st home l))) →
        ∃ J x5' x6', zQ_229 (13, [.ref 58, .int (nI home), .int (nI X), .int (nI A), .int (nI (l + 1)), x5, x6], [], zMk (s, zwA J1 84 (upd (J1 84) (9 * A + l) (nI v)))) = zQ_229 (2, [.ref 58, .int (nI home), .int (nI X), .int (zpm A), .int (nI 9), x5', x6'], [], zMk (s, J)) ∧ zScr I J ∧ zRe L st s J ∧ ∀ B, A ≤ B → B < 256 → B &&& X = B → zR84 L st X home J B := by
      intro J1 v x5 x6 g1 g2 g3 hv
      obtain ⟨J, y5, y6, e, k1, k2, k3⟩ := zlp229l hX hh hA hs m (l + 1) (zwA J1 84 (upd (J1 84) (9 * A + l) (nI v))) x5 x6 (by omega) (zRe_w g2 rfl (by decide) (by decide) (by decide) _) (fun B b1 b2 b3 k hk hb => by
        rw [zwA_s, upd_at, if_neg (by omega), g3]
        exact h84 B b1 b2 b3 k hk hb) (fun k hk hb => by
        rw [zwA_s, upd_at]
        by_cases ek : k = l
        · subst ek
          rw [if_pos rfl, hv hb]
        · rw [if_neg (by omega), g3]
          exact hI k (by omega) hb)
      exact ⟨J, y5, y6, e, zScr_tr g1 (zScr_tr (zScr_w rfl _) k1), k2, k3⟩
    rw [zq_229_13, if_neg (show ¬ (9 : Int32) ≤ nI l from nI_ge (b := 9) hl (by decide))]
    by_cases hAX : A = X
    · subst hAX
      rw [if_neg (not_not_intro rfl)]
      have wr : ∀ (J1 : Nat → Nat → Int32) (v : Nat), zQ_229 (47, [.ref 58, .int (nI home), .int (nI A), .int (nI A), .int (nI l), .int (nI v), .int (nI 0)], [], zMk (s, J1)) = zQ_229 (13, [.ref 58, .int (nI home), .int (nI A), .int (nI A), .int (nI (l + 1)), .int (nI v), .int (nI 0)], [], zMk (s, zwA J1 84 (upd (J1 84) (9 * A + l) (nI v)))) := by
        intro J1 v
        rw [zq_229_47, if_neg (show ¬ (8 : Int32) ≤ nI 0 by decide), if_pos rfl, e1, if_pos (zb_t (show 9 * A + l < 2304 by omega) (by omega)), nI_clamp (show 9 * A + l < 2 ^ 31 by omega), nI_1]
      have told : l = 8 ∨ (l < 8 ∧ st.E.testBit l = true) → ∃ J x5' x6', zcI (zf_227 [.ref 58, .int (nI home), .int (nI l)] (zMk (s, I))) (fun v M => zQ_229 (35, [.ref 58, .int (nI home), .int (nI A), .int (nI A), .int (nI l), x5, x6], [.int v, .ref 58], M)) = zQ_229 (2, [.ref 58, .int (nI home), .int (nI A), .int (zpm A), .int (nI 9), x5', x6'], [], zMk (s, J)) ∧ zScr I J ∧ zRe L st s J ∧ ∀ B, A ≤ B → B < 256 → B &&& A = B → zR84 L st A home J B := by
        intro ht
        have hp := zplc_lt hE.1 hh ht
        have hld := zld_le hE.1 hX
        obtain ⟨J1, e2, j1, j2⟩ := zf220 hE (l := zld st A) (by omega) hp hh
        obtain ⟨J, y5, y6, e3, k⟩ := go J1 (zR1 (zdc L st (zld st A) (zplc st home l) home)) (.int (nI (zR1 (zdc L st (zld st A) (zplc st home l) home)))) (.int (nI 0)) (zScr_Rs j1) j2 (j1 84 (by decide) (by decide) (by decide) (by decide) (by decide)) (fun _ => by rw [zrs_eq hA, if_pos rfl])
        refine ⟨J, y5, y6, ?_, k⟩
        rw [zf227 s hE.1 ht, zcI_some, zq_229_35, zf225 s hE.1 hX, zcI_some, zq_229_39, e2, zcI_some, zq_229_40]
        exact (wr J1 _).trans e3
      obtain ⟨-, -, hE2, -⟩ := hE.1.2.2.2.2.1
      have hEb := hE.1.2.2.2.2.1.1
      by_cases h8 : l = 8
      · rw [if_pos (show nI l = 8 by rw [h8]; rfl)]
        exact told (Or.inl h8)
      · rw [if_neg (show ¬ nI l = 8 from nI_ne (b := 8) h8 (by omega) (by decide)), hE2, bit_shr l (by omega) _ hEb]
        by_cases hbl : st.E.testBit l = true
        · rw [if_pos hbl, if_neg (not_not_intro rfl)]
          exact told (Or.inr ⟨by omega, hbl⟩)
        · rw [if_neg hbl, if_pos (show ¬ (0 : Int32) = 1 by decide)]
          obtain ⟨J, y5, y6, e3, k⟩ := go I 1000000000 (.int (nI 1000000000)) (.int (nI 0)) (zScr_rfl I) hE rfl (fun hb => by
            rcases hb with hb | hb
            · exact absurd hb h8
            · exact absurd (hX.2 l (by omega) hb) hbl)
          exact ⟨J, y5, y6, (wr I 1000000000).trans e3, k⟩
    · rw [if_pos (nI_ne hAX (by omega) (by omega))]
      by_cases hlb : l = 8 ∨ A.testBit l = true
      · have hlb' : l = 8 ∨ (l < 8 ∧ A.testBit l = true) := by
          by_cases h8 : l = 8
          · exact Or.inl h8
          · exact Or.inr ⟨by omega, hlb.resolve_left h8⟩
        obtain ⟨J1, e2, j1, j2⟩ := zlp229i (s := s) hX hh hA hs hAX hlb' 8 0 I rfl hE h84
        obtain ⟨J, y5, y6, e3, k⟩ := go J1 (zR1 (zrs L st X home A (zplc st home l))) (.int (nI (zR1 (zrs L st X home A (zplc st home l))))) (.int (nI 8)) (zScr_Rs j1) j2 (j1 84 (by decide) (by decide) (by decide) (by decide) (by decide)) (fun _ => rfl)
        exact ⟨J, y5, y6, e2.trans e3, k⟩
      · have h8 : l < 8 := by
          apply Classical.byContradiction
          intro q
          exact hlb (Or.inl (by omega))
        have e2 := zlp229j (L := L) (st := st) (home := home) (s := s) hX hA hAX h8 (fun q => hlb (Or.inr q)) (I := I) 8 0 rfl
        obtain ⟨J, y5, y6, e3, k⟩ := go I 1000000000 (.int (nI 1000000000)) (.int (nI 8)) (zScr_rfl I) hE rfl (fun hb => absurd hb hlb)
        exact ⟨J, y5, y6, e2.trans e3, k⟩
theorem zlp229 {L : zLw} {st : zSt} {X home : Nat} {s : zQs} (hX : zEs st X) (hh : home < st.P) : ∀ m (I : Nat → Nat → Int32) (x4 x5 x6 : Value), m ≤ 256 → zRe L st s I → (∀ B, m ≤ B → B < 256 → B &&& X = B → zR84 L st X home I B) →
    ∃ J, zQ_229 (2, [.ref 58, .int (nI home), .int (nI X), .int (zpm m), x4, x5, x6], [], zMk (s, I)) = some (.long 0, zMk (s, J)) ∧ zScr I J ∧ zRe L st s J ∧ ∀ B, B < 256 → B &&& X = B → zR84 L st X home J B
  | 0, I, x4, x5, x6, h, hE, h84 => by
    refine ⟨I, ?_, zScr_rfl I, hE, fun B h1 h2 => h84 B (Nat.zero_le _) h1 h2⟩
    rw [zq_229_2, show zpm 0 = -1 from rfl, if_pos (by decide)]
  | m + 1, I, x4, x5, x6, h, hE, h84 => by
    have hX1 := hX.1
    rw [zq_229_2, zpm_s, if_neg (nI_pos (by omega))]
    by_cases hs : m &&& X = m
    · rw [if_pos (show nI m &&& (nI X ^^^ (-1)) = 0 by rw [bit_sub X hX1 m (by omega)]; exact hs)]
      obtain ⟨J1, y5, y6, e1, a1, a2, a3⟩ := zlp229l (s := s) hX hh (show m < 256 by omega) hs 9 0 I x5 x6 rfl hE (fun B b1 b2 b3 => h84 B (by omega) b2 b3) (fun k hk => absurd hk (Nat.not_lt_zero k))
      obtain ⟨J, e2, b1, b2, b3⟩ := zlp229 hX hh m J1 (.int (nI 9)) y5 y6 (by omega) a2 a3
      exact ⟨J, e1.trans e2, zScr_tr a1 b1, b2, b3⟩
    · rw [if_neg (show ¬ (nI m &&& (nI X ^^^ (-1)) = 0) by rw [bit_sub X hX1 m (by omega)]; exact hs), zpm_dec]
      exact zlp229 hX hh m I x4 x5 x6 (by omega) hE (fun B b1 b2 b3 => by
        by_cases e : m = B
        · rw [← e] at b3
          exact absurd b3 hs
        · exact h84 B (by omega) b2 b3)
/-- the reference has laid what is still to be paid -/
theorem zf229 {L : zLw} {st : zSt} {X home : Nat} {s : zQs} (hX : zEs st X) (hh : home < st.P) {I : Nat → Nat → Int32} (hE : zRe L st s I) :
    ∃ J, zf_229 [.ref 58, .int (nI home), .int (nI X)] (zMk (s, I)) = some (.long 0, zMk (s, J)) ∧ zScr I J ∧ zRe L st s J ∧ ∀ B, B < 256 → B &&& X = B → zR84 L st X home J B := by
  rw [zqz_229, zq_229_0]
  exact zlp229 hX hh 256 I (.long 0) (.long 0) (.long 0) (Nat.le_refl _) hE (fun B h1 h2 => absurd h2 (by omega))
/-- what a round costs -/
def zrnd0 (L : zLw) (st : zSt) (X home : Nat) : Option Nat := if X = 0 then some 0 else zrs L st X home 0 home
theorem zf230 {L : zLw} {st : zSt} {X home : Nat} {s : zQs} (hX : zEs st X) (hh : home < st.P) {I : Nat → Nat → Int32} (hE : zRe L st s I) :
    ∃ J, zf_230 [.ref 58, .int (nI home), .int (nI X)] (zMk (s, I)) = some (.int (nI (zR1 (zrnd0 L st X home))), zMk (s, J)) ∧ zScr I J ∧ zRe L st s J ∧ (X ≠ 0 → ∀ B, B < 256 → B &&& X = B → zR84 L st X home J B) := by
  have hX1 := hX.1
  rw [zqz_230, zq_230_0]
  unfold zrnd0
  by_cases h0 : X = 0
  · subst h0
    rw [if_neg (not_not_intro (show nI 0 = 0 from rfl)), if_pos rfl]
    exact ⟨I, rfl, zScr_rfl I, hE, fun q => absurd rfl q⟩
  · obtain ⟨J, e, j1, j2, j3⟩ := zf229 hX hh hE
    have h8 := j3 0 (by decide) (Nat.zero_and X) 8 (Nat.le_refl _) (Or.inl rfl)
    rw [if_pos (show ¬ nI X = 0 from nI_ne (b := 0) h0 (by omega) (by decide)), if_neg h0]
    refine ⟨J, ?_, j1, j2, fun _ => j3⟩
    rw [e, zcV_some, zq_230_8]
    exact congrArg (fun v => some (Value.int v, zMk (s, J))) h8
