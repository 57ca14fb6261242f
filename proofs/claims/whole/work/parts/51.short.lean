/-! A TABLE OF WAYS, SHORTENED -/
theorem zlay (s : zQs) {t : Nat} (hT : zok s t) {L : zLw} {st : zSt} {l : Nat} (I : Nat → Nat → Int32) (hL : zLaw L s I) (hw : zTwn st I) :
    ∃ J, zf_128 [.ref 16, .ref t, .int (nI l)] (zMk (s, I)) = some (.long 0, zMk (s, J)) ∧ zCt t I J ∧ ∀ a b, a < 20 → b < 20 → J t (a * 20 + b) = nI (zfw (zwt 32 100000000 (zcs L st l st.S)) 0 a b) := by
  obtain ⟨J1, e1, j1, j2⟩ := zlp128a s hT (nI l) (.long 0) (.long 0) 400 0 I rfl
  have c1 := zCt_t hT.1 j1
  obtain ⟨J, e, c, jt⟩ := zlp128b s hT (L := L) (l := l) st.S 0 J1 (.long 0) (.long 0) (Nat.zero_add _) (zLaw_Ct hT.1 hL c1) (zTwn_Ct hT.1 hw c1) (fun a b ha hb => by
    rw [j2 _ (by omega), if_neg (Nat.not_lt_zero _)]
    unfold ztb
    by_cases h : a = b
    · rw [if_pos h, if_pos (show (a * 20 + b) % 21 = 0 by omega)]
      rfl
    · rw [if_neg h, if_neg (show ¬ (a * 20 + b) % 21 = 0 by omega)]
      rfl)
  refine ⟨J, ?_, zCt_tr c1 c, fun a b ha hb => (jt a b ha hb).trans rfl⟩
  rw [zqz_128, zq_128_0]
  exact e1.trans e
theorem zfw_cap {w : Nat → Nat → Nat} {F : Nat} (hw : ∀ a b, w a b ≤ F) : ∀ k a b, zfw w k a b ≤ F
  | 0, a, b => by
    show (if a = b then 0 else w a b) ≤ F
    split
    · exact Nat.zero_le _
    · exact hw a b
  | k + 1, a, b => Nat.le_trans (Nat.min_le_left _ _) (zfw_cap hw k a b)
theorem zfw_kk (w : Nat → Nat → Nat) (k j : Nat) : zfw w (k + 1) k j = zfw w k k j := by
  rw [zfw_s, zfw_aa]
  omega
theorem zfw_jk (w : Nat → Nat → Nat) (k i : Nat) : zfw w (k + 1) i k = zfw w k i k := by
  rw [zfw_s, zfw_aa]
  omega
theorem zlp130c (s : zQs) {t : Nat} (hT : zok s t) {w : Nat → Nat → Nat} {P k i : Nat} (hP : P ≤ 20) (hk : k < P) (hi : i < P) (hik : ¬ i = k) (hw : ∀ a b, w a b ≤ 100000000) : ∀ d j (I : Nat → Nat → Int32) (x7 : Value), j + d = P →
    (∀ a b, a < P → b < P → I t (a * 20 + b) = nI (if a < i ∨ (a = i ∧ b < j) then zfw w (k + 1) a b else zfw w k a b)) →
    ∃ J x7', zQ_130 (31, [.ref 16, .ref t, .int (nI P), .int (nI k), .int (nI i), .int (nI (zfw w k i k)), .int (nI j), x7], [], zMk (s, I)) = zQ_130 (11, [.ref 16, .ref t, .int (nI P), .int (nI k), .int (nI (i + 1)), .int (nI (zfw w k i k)), .int (nI P), x7'], [], zMk (s, J)) ∧ (∀ r, r ≠ t → J r = I r) ∧
      ∀ a b, a < P → b < P → J t (a * 20 + b) = nI (if a < i + 1 then zfw w (k + 1) a b else zfw w k a b)
  | 0, j, I, x7, h, hI => by
    have h : j = P := by omega
    subst h
    refine ⟨I, x7, ?_, fun _ _ => rfl, fun a b ha hb => ?_⟩
    · rw [zq_130_31, if_pos (nI_le (Nat.le_refl _) (by omega)), nI_1]
    · rw [hI a b ha hb]
      by_cases h1 : a < i + 1
      · rw [if_pos h1, if_pos (by omega)]
      · rw [if_neg h1, if_neg (by omega)]
  | d + 1, j, I, x7, h, hI => by
    have hj : j < P := by omega
    have z1 : zb (nI (k * 20 + j)) 400 = true := zb_t (by omega) (by omega)
    have z2 : zb (nI (i * 20 + j)) 400 = true := zb_t (by omega) (by omega)
    have m1 : nI k * 20 + nI j = nI (k * 20 + j) := by rw [show nI k * 20 = nI (k * 20) from nI_mul _ 20, nI_add]
    have m2 : nI i * 20 + nI j = nI (i * 20 + j) := by rw [show nI i * 20 = nI (i * 20) from nI_mul _ 20, nI_add]
    have c1 : (nI (k * 20 + j)).toNatClampNeg = k * 20 + j := nI_clamp (by omega)
    have c2 : (nI (i * 20 + j)).toNatClampNeg = i * 20 + j := nI_clamp (by omega)
    have v1 : I t (k * 20 + j) = nI (zfw w k k j) := by
      rw [hI k j hk hj]
      split
      · rw [zfw_kk]
      · rfl
    have v2 : I t (i * 20 + j) = nI (zfw w k i j) := by
      rw [hI i j hi hj, if_neg (by omega)]
    have b1 := zfw_cap hw k i k
    have b2 := zfw_cap hw k k j
    have b3 := zfw_cap hw k i j
    rw [zq_130_31, if_neg (nI_ge hj (by omega)), if_neg (zok_n hT), zok_a hT, zok_l hT, if_pos rfl, m1, m2, z1, if_pos rfl, if_neg (zok_n hT), if_pos rfl, z2, if_pos rfl, c1, c2, v1, v2, nI_add, nI_1]
    have nx : ∀ J : Nat → Nat → Int32, (∀ r, r ≠ t → J r = I r) → (∀ a b, a < P → b < P → J t (a * 20 + b) = nI (if a < i ∨ (a = i ∧ b < j + 1) then zfw w (k + 1) a b else zfw w k a b)) → ∃ J2 x7', zQ_130 (31, [.ref 16, .ref t, .int (nI P), .int (nI k), .int (nI i), .int (nI (zfw w k i k)), .int (nI (j + 1)), .int (nI (zfw w k i k + zfw w k k j))], [], zMk (s, J)) = zQ_130 (11, [.ref 16, .ref t, .int (nI P), .int (nI k), .int (nI (i + 1)), .int (nI (zfw w k i k)), .int (nI P), x7'], [], zMk (s, J2)) ∧ (∀ r, r ≠ t → J2 r = I r) ∧
      ∀ a b, a < P → b < P → J2 t (a * 20 + b) = nI (if a < i + 1 then zfw w (k + 1) a b else zfw w k a b) := by
      intro J j1 j2
      obtain ⟨J2, x, e, i1, i2⟩ := zlp130c s hT hP hk hi hik hw d (j + 1) J (.int (nI (zfw w k i k + zfw w k k j))) (by omega) j2
      exact ⟨J2, x, e, fun r hr => (i1 r hr).trans (j1 r hr), i2⟩
    by_cases hle : zfw w k i j ≤ zfw w k i k + zfw w k k j
    · rw [if_pos (nI_le hle (by omega))]
      refine nx I (fun _ _ => rfl) (fun a b ha hb => ?_)
      rw [hI a b ha hb]
      by_cases h1 : a = i ∧ b = j
      · obtain ⟨rfl, rfl⟩ := h1
        rw [if_neg (by omega), if_pos (by omega), zfw_s, Nat.min_eq_left hle]
      · by_cases h2 : a < i ∨ (a = i ∧ b < j)
        · rw [if_pos h2, if_pos (by omega)]
        · rw [if_neg h2, if_neg (by omega)]
    · rw [if_neg (nI_ge (by omega) (by omega))]
      refine nx _ (fun r hr => zwA_n hr) (fun a b ha hb => ?_)
      rw [zwA_s, upd_at]
      simp only [zix (show b < 20 by omega) (show j < 20 by omega)]
      by_cases h1 : i = a ∧ j = b
      · rw [if_pos h1]
        obtain ⟨rfl, rfl⟩ := h1
        rw [if_pos (by omega), zfw_s, Nat.min_eq_right (by omega)]
      · rw [if_neg h1, hI a b ha hb]
        by_cases h2 : a < i ∨ (a = i ∧ b < j)
        · rw [if_pos h2, if_pos (by omega)]
        · rw [if_neg h2, if_neg (by omega)]
theorem zlp130b (s : zQs) {t : Nat} (hT : zok s t) {w : Nat → Nat → Nat} {P k : Nat} (hP : P ≤ 20) (hk : k < P) (hw : ∀ a b, w a b ≤ 100000000) : ∀ d i (I : Nat → Nat → Int32) (x5 x6 x7 : Value), i + d = P →
    (∀ a b, a < P → b < P → I t (a * 20 + b) = nI (if a < i then zfw w (k + 1) a b else zfw w k a b)) →
    ∃ J x5' x6' x7', zQ_130 (11, [.ref 16, .ref t, .int (nI P), .int (nI k), .int (nI i), x5, x6, x7], [], zMk (s, I)) = zQ_130 (6, [.ref 16, .ref t, .int (nI P), .int (nI (k + 1)), .int (nI P), x5', x6', x7'], [], zMk (s, J)) ∧ (∀ r, r ≠ t → J r = I r) ∧
      ∀ a b, a < P → b < P → J t (a * 20 + b) = nI (zfw w (k + 1) a b)
  | 0, i, I, x5, x6, x7, h, hI => by
    have h : i = P := by omega
    subst h
    refine ⟨I, x5, x6, x7, ?_, fun _ _ => rfl, fun a b ha hb => ?_⟩
    · rw [zq_130_11, if_pos (nI_le (Nat.le_refl _) (by omega)), nI_1]
    · rw [hI a b ha hb, if_pos ha]
  | d + 1, i, I, x5, x6, x7, h, hI => by
    have hi : i < P := by omega
    have z1 : zb (nI (i * 20 + k)) 400 = true := zb_t (by omega) (by omega)
    have m1 : nI i * 20 + nI k = nI (i * 20 + k) := by rw [show nI i * 20 = nI (i * 20) from nI_mul _ 20, nI_add]
    have c1 : (nI (i * 20 + k)).toNatClampNeg = i * 20 + k := nI_clamp (by omega)
    have v1 : I t (i * 20 + k) = nI (zfw w k i k) := by rw [hI i k hi hk, if_neg (Nat.lt_irrefl i)]
    have b1 := zfw_cap hw k i k
    rw [zq_130_11, if_neg (nI_ge hi (by omega)), if_neg (zok_n hT), zok_a hT, zok_l hT, if_pos rfl, m1, z1, if_pos rfl, c1, v1, nI_1]
    have nx : ∀ (J : Nat → Nat → Int32) (x5 x6 x7 : Value), (∀ r, r ≠ t → J r = I r) → (∀ a b, a < P → b < P → J t (a * 20 + b) = nI (if a < i + 1 then zfw w (k + 1) a b else zfw w k a b)) → ∃ J2 x5' x6' x7', zQ_130 (11, [.ref 16, .ref t, .int (nI P), .int (nI k), .int (nI (i + 1)), x5, x6, x7], [], zMk (s, J)) = zQ_130 (6, [.ref 16, .ref t, .int (nI P), .int (nI (k + 1)), .int (nI P), x5', x6', x7'], [], zMk (s, J2)) ∧ (∀ r, r ≠ t → J2 r = I r) ∧
      ∀ a b, a < P → b < P → J2 t (a * 20 + b) = nI (zfw w (k + 1) a b) := by
      intro J x5 x6 x7 j1 j2
      obtain ⟨J2, y5, y6, y7, e, i1, i2⟩ := zlp130b s hT hP hk hw d (i + 1) J x5 x6 x7 (by omega) j2
      exact ⟨J2, y5, y6, y7, e, fun r hr => (i1 r hr).trans (j1 r hr), i2⟩
    by_cases hf : 100000000 ≤ zfw w k i k
    · rw [if_pos (show (100000000 : Int32) ≤ nI (zfw w k i k) from nI_le (a := 100000000) hf (by omega))]
      refine nx I _ _ _ (fun _ _ => rfl) (fun a b ha hb => ?_)
      rw [hI a b ha hb]
      by_cases h1 : a = i
      · subst h1
        have b3 := zfw_cap hw k a b
        rw [if_neg (Nat.lt_irrefl a), if_pos (Nat.lt_succ_self a), zfw_s, Nat.min_eq_left (by omega)]
      · by_cases h2 : a < i
        · rw [if_pos h2, if_pos (by omega)]
        · rw [if_neg h2, if_neg (by omega)]
    · rw [if_neg (show ¬ (100000000 : Int32) ≤ nI (zfw w k i k) from nI_ge (b := 100000000) (by omega) (by decide))]
      by_cases hik : i = k
      · subst hik
        rw [if_neg (not_not_intro rfl)]
        refine nx I _ _ _ (fun _ _ => rfl) (fun a b ha hb => ?_)
        rw [hI a b ha hb]
        by_cases h1 : a = i
        · subst h1
          rw [if_neg (Nat.lt_irrefl a), if_pos (Nat.lt_succ_self a), zfw_kk]
        · by_cases h2 : a < i
          · rw [if_pos h2, if_pos (by omega)]
          · rw [if_neg h2, if_neg (by omega)]
      · rw [if_pos (nI_ne hik (by omega) (by omega))]
        obtain ⟨J, y7, e, i1, i2⟩ := zlp130c s hT hP hk hi hik hw P 0 I x7 (Nat.zero_add _) (fun a b ha hb => by
          rw [hI a b ha hb]
          by_cases h2 : a < i
          · rw [if_pos h2, if_pos (by omega)]
          · rw [if_neg h2, if_neg (by omega)])
        obtain ⟨J2, y5, y6, y7', e2, j1, j2⟩ := nx J (.int (nI (zfw w k i k))) (.int (nI P)) y7 i1 i2
        exact ⟨J2, y5, y6, y7', e.trans e2, j1, j2⟩
theorem zlp130 (s : zQs) {t : Nat} (hT : zok s t) {w : Nat → Nat → Nat} {P : Nat} (hP : P ≤ 20) (hw : ∀ a b, w a b ≤ 100000000) : ∀ d k (I : Nat → Nat → Int32) (x4 x5 x6 x7 : Value), k + d = P →
    (∀ a b, a < P → b < P → I t (a * 20 + b) = nI (zfw w k a b)) →
    ∃ J, zQ_130 (6, [.ref 16, .ref t, .int (nI P), .int (nI k), x4, x5, x6, x7], [], zMk (s, I)) = some (.long 0, zMk (s, J)) ∧ (∀ r, r ≠ t → J r = I r) ∧ ∀ a b, a < P → b < P → J t (a * 20 + b) = nI (zfw w P a b)
  | 0, k, I, x4, x5, x6, x7, h, hI => by
    have h : k = P := by omega
    subst h
    refine ⟨I, ?_, fun _ _ => rfl, hI⟩
    rw [zq_130_6, if_pos (nI_le (Nat.le_refl _) (by omega))]
  | d + 1, k, I, x4, x5, x6, x7, h, hI => by
    have hk : k < P := by omega
    obtain ⟨J1, y5, y6, y7, e1, i1, i2⟩ := zlp130b s hT hP hk hw P 0 I x5 x6 x7 (Nat.zero_add _) (fun a b ha hb => by rw [if_neg (Nat.not_lt_zero a)]; exact hI a b ha hb)
    obtain ⟨J, e, j1, j2⟩ := zlp130 s hT hP hw d (k + 1) J1 (.int (nI P)) y5 y6 y7 (by omega) i2
    refine ⟨J, ?_, fun r hr => (j1 r hr).trans (i1 r hr), j2⟩
    rw [zq_130_6, if_neg (nI_ge hk (by omega))]
    exact e1.trans e
theorem zwt_cap {m far : Nat} {c : Nat → Nat → Option Nat} (hc : ∀ a b x, c a b = some x → x ≤ 9999) (hf : m * 9999 + 1 ≤ far) (a b : Nat) : zwt m far c a b ≤ far := by
  cases h : c a b with
  | none => rw [zwt_n h]; exact Nat.le_refl _
  | some x =>
    rw [zwt_s h]
    exact Nat.le_trans (Nat.succ_le_succ (Nat.mul_le_mul_left m (hc a b x h))) hf
/-- laid and shortened -/
theorem ztable (s : zQs) {t : Nat} (hT : zok s t) {L : zLw} {st : zSt} {l : Nat} (I : Nat → Nat → Int32) (hL : zLaw L s I) (hw : zTwn st I) :
    ∃ J1 J, zf_128 [.ref 16, .ref t, .int (nI l)] (zMk (s, I)) = some (.long 0, zMk (s, J1)) ∧ zf_130 [.ref 16, .ref t] (zMk (s, J1)) = some (.long 0, zMk (s, J)) ∧ zCt t I J ∧ ∀ a b, a < st.P → b < st.P → J t (a * 20 + b) = nI (zk32 (zcs L st l st.S) st.P a b) := by
  obtain ⟨J1, e1, c1, t1⟩ := zlay s hT (l := l) I hL hw
  have hP := hw.1
  have hw1 := zTwn_Ct hT.1 hw c1
  obtain ⟨J, e, j1, j2⟩ := zlp130 s hT hP (zwt_cap (zTwn_cs hw L l (Nat.le_refl _)) (show 32 * 9999 + 1 ≤ 100000000 by decide)) st.P 0 J1 (.long 0) (.long 0) (.long 0) (.long 0) (Nat.zero_add _) (fun a b ha hb => t1 a b (by omega) (by omega))
  refine ⟨J1, J, e1, ?_, zCt_tr c1 (zCt_t hT.1 j1), j2⟩
  rw [zqz_130, zq_130_0, hw1.2.2.2.2.2.1]
  exact e
