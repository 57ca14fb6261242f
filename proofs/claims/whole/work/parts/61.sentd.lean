/-! WHO BRINGS WHAT: THE CLASS SENDS -/
theorem bit_one9 : ∀ k, k < 9 → (1 : Int32) <<< (nI k &&& 31) = nI (2 ^ k) := by decide +kernel
theorem zVc_0 : zVc (0, 0) = 0 := by decide
/-- the class's phase with fresh ways -/
def zEf (L : zLw) (st : zSt) (X : Nat) (s : zQs) (I : Nat → Nat → Int32) : Prop := zEv L st s I ∧ zFsh L st s I 0 ∧ ∀ j, j < 8 → X.testBit j = true → zFsh L st s I (st.tw j)
theorem zEf_Scr {L : zLw} {st : zSt} {X : Nat} {s : zQs} {I J : Nat → Nat → Int32} (h : zEf L st X s I) (g : zScr I J) : zEf L st X s J :=
  ⟨zEv_Scr h.1 g, zFsh_Scr h.2.1 g, fun j hj hb => zFsh_Scr (h.2.2 j hj hb) g⟩
theorem zlp23a (s : zQs) (x1 : Int32) (x4 x5 : Value) {Q : Nat} (hQ : Q ≤ 8) : ∀ m k (I : Nat → Nat → Int32), k + m = 2 ^ Q → (∀ t, t < k → I 28 (2048 + t) = 0) →
    ∃ J, zQ_23 (7, [.ref 20, .int x1, .int (nI (2 ^ Q)), .int (nI k), x4, x5], [], zMk (s, I)) = zQ_23 (21, [.ref 20, .int x1, .int (nI (2 ^ Q)), .int 7, x4, x5], [], zMk (s, J)) ∧ (∀ r, r ≠ 28 → J r = I r) ∧ ∀ t, t < 2 ^ Q → J 28 (2048 + t) = 0
  | 0, k, I, h, hI => by
    have h : k = 2 ^ Q := by omega
    subst h
    have hq := zq_256 hQ
    refine ⟨I, ?_, fun _ _ => rfl, hI⟩
    rw [zq_23_7, if_pos (nI_le (Nat.le_refl _) (by omega))]
  | m + 1, k, I, h, hI => by
    have hk : k < 2 ^ Q := by omega
    have hq := zq_256 hQ
    have e : (2048 : Int32) + nI k = nI (2048 + k) := nI_add 2048 k
    obtain ⟨J, e2, j1, j2⟩ := zlp23a s x1 x4 x5 hQ m (k + 1) (zwA I 28 (upd (I 28) (2048 + k) 0)) (by omega) (fun t ht => by
      rw [zwA_s, upd_at]
      by_cases h : t = k
      · subst h
        rw [if_pos rfl]
      · rw [if_neg (by omega)]
        exact hI t (by omega))
    refine ⟨J, ?_, fun r hr => (j1 r hr).trans (zwA_n hr), j2⟩
    rw [zq_23_7, if_neg (nI_ge hk (by omega)), e, if_pos (zb_t (show 2048 + k < 2304 by omega) (by omega)), nI_clamp (show 2048 + k < 2 ^ 31 by omega), nI_1]
    exact e2
theorem zlp23b {L : zLw} {st : zSt} {X : Nat} (hX : zTl0 st X) (s : zQs) {i : Nat} (hi : i < 8) (hb : X.testBit i = true) (x1 x2 : Int32) : ∀ m p (I : Nat → Nat → Int32), p + m = st.Q → zEf L st X s I → (∀ q, q < p → I 27 (i * 8 + q) = ztks L st q i (-1000000)) →
    ∃ J, zQ_23 (35, [.ref 20, .int x1, .int x2, .int (nI i), .int 1, .int (nI p)], [], zMk (s, I)) = zQ_23 (57, [.ref 20, .int x1, .int x2, .int (nI i), .int 1, .int 0], [], zMk (s, J)) ∧ (∀ r, r ≠ 27 → J r = I r) ∧ (∀ k, (k < i * 8 ∨ i * 8 + 8 ≤ k) → J 27 k = I 27 k) ∧ zR27 L st X J i
  | 0, p, I, h, hE, hI => by
    have h : p = st.Q := by omega
    subst h
    obtain ⟨f1, f2, f3, fj⟩ := hE.1.1.2.2.2.2.2.1
    refine ⟨I, ?_, fun _ _ => rfl, fun _ _ => rfl, hI⟩
    rw [zq_23_35, f2, if_pos (nI_le (Nat.le_refl _) (by omega))]
  | m + 1, p, I, h, hE, hI => by
    have hp : p < st.Q := by omega
    obtain ⟨f1, f2, f3, fj⟩ := hE.1.1.2.2.2.2.2.1
    have e1 : nI i * 8 + nI p = nI (i * 8 + p) := by rw [show nI i * 8 = nI (i * 8) from nI_mul _ 8, nI_add]
    have e22 := zf22 hE.1 hE.2.1 hp hi (hX.2 i hi hb) (hE.2.2 i hi hb)
    obtain ⟨J, e, j1, j2, j3⟩ := zlp23b hX s hi hb x1 x2 m (p + 1) (zwA I 27 (upd (I 27) (i * 8 + p) (ztks L st p i (-1000000)))) (by omega) (zEf_Scr hE (zScr_w rfl _)) (fun q hq => by
      rw [zwA_s, upd_at]
      by_cases h : q = p
      · subst h
        rw [if_pos rfl]
      · rw [if_neg (by omega)]
        exact hI q (by omega))
    refine ⟨J, ?_, fun r hr => (j1 r hr).trans (zwA_n hr), fun k hk => by rw [j2 k hk, zwA_s, upd_at, if_neg (by omega)], j3⟩
    rw [zq_23_35, f2, if_neg (nI_ge hp (by omega)), if_neg (show ¬ (1 : Int32) = 0 by decide), e22, zcI_some, e1, zq_23_52, if_pos (zb_t (show i * 8 + p < 64 by omega) (by omega)), nI_clamp (show i * 8 + p < 2 ^ 31 by omega), nI_1]
    exact e
def zpd (d : Nat) : Int32 := if d = 8 then -1 else nI (7 - d)
theorem zpd_next {d : Nat} (h : d < 8) : nI (7 - d) + (-1) = zpd (d + 1) := by
  unfold zpd
  by_cases h7 : d = 7
  · subst h7
    decide
  · rw [if_neg (by omega), nI_dec (by omega), show 7 - d - 1 = 7 - (d + 1) by omega]
theorem zlp23c {L : zLw} {st : zSt} {X : Nat} (hX : zTl0 st X) (s : zQs) {d : Nat} (hd : d < 8) (x1 : Int32) : ∀ m t (I : Nat → Nat → Int32), t + m = 2 ^ st.Q → zEf L st X s I → (X.testBit (7 - d) = true → zR27 L st X I (7 - d)) → zR28 L st X I d → (∀ u, u < t → I 28 ((7 - d) * 256 + u) = zVc (zsv (zBx L st X) st.Q X (d + 1) u)) →
    ∃ J x5, zQ_23 (57, [.ref 20, .int x1, .int (nI (2 ^ st.Q)), .int (nI (7 - d)), .int (if X.testBit (7 - d) = true then 1 else 0), .int (nI t)], [], zMk (s, I)) = zQ_23 (21, [.ref 20, .int x1, .int (nI (2 ^ st.Q)), .int (zpd (d + 1)), .int (if X.testBit (7 - d) = true then 1 else 0), x5], [], zMk (s, J)) ∧ (∀ r, r ≠ 28 → J r = I r) ∧ (∀ k, (k < (7 - d) * 256 ∨ (7 - d) * 256 + 256 ≤ k) → J 28 k = I 28 k) ∧ zR28 L st X J (d + 1)
  | 0, t, I, h, hE, h27, h28, hI => by
    have h : t = 2 ^ st.Q := by omega
    subst h
    obtain ⟨f1, -⟩ := hE.1.1.2.2.2.2.2.1
    have hq := zq_256 f1
    refine ⟨I, .int (nI (2 ^ st.Q)), ?_, fun _ _ => rfl, fun _ _ => rfl, fun u hu => ?_⟩
    · rw [zq_23_57, if_pos (nI_le (Nat.le_refl _) (by omega)), zpd_next hd]
    · rw [show 8 - (d + 1) = 7 - d by omega]
      exact hI u hu
  | m + 1, t, I, h, hE, h27, h28, hI => by
    have ht : t < 2 ^ st.Q := by omega
    obtain ⟨f1, f2, f3, fj⟩ := hE.1.1.2.2.2.2.2.1
    have hq := zq_256 f1
    have e1 : nI (7 - d) * 256 + nI t = nI ((7 - d) * 256 + t) := by rw [show nI (7 - d) * 256 = nI ((7 - d) * 256) from nI_mul _ 256, nI_add]
    have e2 : (nI (7 - d) + 1) * 256 + nI t = nI ((8 - d) * 256 + t) := by rw [nI_1, show nI (7 - d + 1) * 256 = nI ((7 - d + 1) * 256) from nI_mul _ 256, nI_add, show 7 - d + 1 = 8 - d by omega]
    have sc : zScr I (zwA I 28 (upd (I 28) ((7 - d) * 256 + t) (zVc (zsv (zBx L st X) st.Q X (d + 1) t)))) := zScr_w rfl _
    obtain ⟨J, x5, e, j1, j2, j3⟩ := zlp23c hX s hd x1 m (t + 1) (zwA I 28 (upd (I 28) ((7 - d) * 256 + t) (zVc (zsv (zBx L st X) st.Q X (d + 1) t)))) (by omega) (zEf_Scr hE sc) (fun hb p hp => by rw [zwA_n (by decide)]; exact h27 hb p hp) (fun u hu => by
      have := zq_256 f1
      rw [zwA_s, upd_at, if_neg (by omega)]
      exact h28 u hu) (fun u hu => by
      rw [zwA_s, upd_at]
      by_cases h : u = t
      · subst h
        rw [if_pos rfl]
      · rw [if_neg (by omega)]
        exact hI u (by omega))
    refine ⟨J, x5, ?_, fun r hr => (j1 r hr).trans (zwA_n hr), fun k hk => by rw [j2 k hk, zwA_s, upd_at, if_neg (by omega)], j3⟩
    rw [zq_23_57, if_neg (nI_ge ht (by omega))]
    by_cases hb : X.testBit (7 - d) = true
    · rw [if_pos hb] at e ⊢
      rw [if_neg (show ¬ (1 : Int32) = 0 by decide), zf24 hE.1.1 hX hd (h27 hb) h28 ht hb, zcI_some, e1, zq_23_76, zf25s hE.1.1 hX hd (h27 hb) h28 ht hb, zcI_some, zq_23_77, if_pos (zb_t (show (7 - d) * 256 + t < 2304 by omega) (by omega)), nI_clamp (show (7 - d) * 256 + t < 2 ^ 31 by omega), nI_1]
      exact e
    · rw [if_neg hb] at e ⊢
      have hv : zsv (zBx L st X) st.Q X (d + 1) t = zsv (zBx L st X) st.Q X d t := by rw [zsv_s, if_neg hb]
      rw [hv] at e
      rw [if_pos rfl, e1, e2, if_pos (zb_t (show (8 - d) * 256 + t < 2304 by omega) (by omega)), if_pos (zb_t (show (7 - d) * 256 + t < 2304 by omega) (by omega)), nI_clamp (show (7 - d) * 256 + t < 2 ^ 31 by omega), nI_clamp (show (8 - d) * 256 + t < 2 ^ 31 by omega), h28 t ht, nI_1]
      exact e
theorem zR28_fr {L : zLw} {st : zSt} {X e : Nat} {I J : Nat → Nat → Int32} {d : Nat} (hQ : st.Q ≤ 8) (hd : d < 8) (h : zR28 L st X I e) (he : e ≤ d) (hk : ∀ k, (k < (7 - d) * 256 ∨ (7 - d) * 256 + 256 ≤ k) → J 28 k = I 28 k) : zR28 L st X J e := by
  intro t ht
  have hq := zq_256 hQ
  rw [hk _ (by omega)]
  exact h t ht
theorem zlp23d {L : zLw} {st : zSt} {X : Nat} (hX : zTl0 st X) (s : zQs) : ∀ m d (I : Nat → Nat → Int32) (x4 x5 : Value), d + m = 8 → zEf L st X s I → (∀ e, e ≤ d → zR28 L st X I e) → (∀ j, 8 - d ≤ j → j < 8 → X.testBit j = true → zR27 L st X I j) →
    ∃ J x5', zQ_23 (21, [.ref 20, .int (nI X), .int (nI (2 ^ st.Q)), .int (zpd d), x4, x5], [], zMk (s, I)) = zQ_23 (97, [.ref 20, .int (nI X), .int (nI (2 ^ st.Q)), .int 0, .int 0, x5'], [], zMk (s, J)) ∧ (∀ r, r ≠ 27 → r ≠ 28 → J r = I r) ∧ (∀ e, e ≤ 8 → zR28 L st X J e) ∧ (∀ j, j < 8 → X.testBit j = true → zR27 L st X J j)
  | 0, d, I, x4, x5, h, hE, h28, h27 => by
    have h : d = 8 := by omega
    subst h
    refine ⟨I, x5, ?_, fun _ _ _ => rfl, h28, fun j hj hb => h27 j (by omega) hj hb⟩
    rw [zq_23_21, show zpd 8 = -1 from rfl, if_pos (by decide)]
  | m + 1, d, I, x4, x5, h, hE, h28, h27 => by
    have hd : d < 8 := by omega
    obtain ⟨f1, -⟩ := hE.1.1.2.2.2.2.2.1
    have go : ∀ J1 : Nat → Nat → Int32, (∀ r, r ≠ 27 → J1 r = I r) → (∀ k, (k < (7 - d) * 8 ∨ (7 - d) * 8 + 8 ≤ k) → J1 27 k = I 27 k) → (X.testBit (7 - d) = true → zR27 L st X J1 (7 - d)) →
        ∃ J x5', zQ_23 (57, [.ref 20, .int (nI X), .int (nI (2 ^ st.Q)), .int (nI (7 - d)), .int (if X.testBit (7 - d) = true then 1 else 0), .int 0], [], zMk (s, J1)) = zQ_23 (97, [.ref 20, .int (nI X), .int (nI (2 ^ st.Q)), .int 0, .int 0, x5'], [], zMk (s, J)) ∧ (∀ r, r ≠ 27 → r ≠ 28 → J r = I r) ∧ (∀ e, e ≤ 8 → zR28 L st X J e) ∧ (∀ j, j < 8 → X.testBit j = true → zR27 L st X J j) := by
      intro J1 a1 a2 a3
      have sc1 : zScr I J1 := zScr_1 (k := 27) rfl a1
      obtain ⟨J2, y5, e2, b1, b2, b3⟩ := zlp23c hX s hd (nI X) (2 ^ st.Q) 0 J1 (Nat.zero_add _) (zEf_Scr hE sc1) a3 (fun t ht => by rw [a1 28 (by decide)]; exact h28 d (Nat.le_refl _) t ht) (fun u hu => absurd hu (Nat.not_lt_zero u))
      have sc2 : zScr J1 J2 := zScr_1 (k := 28) rfl b1
      have r28 : ∀ e, e ≤ d + 1 → zR28 L st X J2 e := by
        intro e he
        by_cases hed : e = d + 1
        · rw [hed]
          exact b3
        · have h1 : zR28 L st X J1 e := fun t ht => by rw [a1 28 (by decide)]; exact h28 e (by omega) t ht
          exact zR28_fr f1 hd h1 (by omega) b2
      have r27 : ∀ j, 8 - (d + 1) ≤ j → j < 8 → X.testBit j = true → zR27 L st X J2 j := by
        intro j h1 h2 hb p hp
        rw [b1 27 (by decide)]
        by_cases hj : j = 7 - d
        · subst hj
          exact a3 hb p hp
        · rw [a2 _ (by omega)]
          exact h27 j (by omega) h2 hb p hp
      obtain ⟨J, x5', e3, c1, c2, c3⟩ := zlp23d hX s m (d + 1) J2 (.int (if X.testBit (7 - d) = true then 1 else 0)) y5 (by omega) (zEf_Scr (zEf_Scr hE sc1) sc2) r28 r27
      exact ⟨J, x5', e2.trans e3, fun r h1 h2 => by rw [c1 r h1 h2, b1 r h2, a1 r h1], c2, c3⟩
    have hz : zpd d = nI (7 - d) := if_neg (by omega)
    rw [zq_23_21, hz, if_neg (nI_pos (by omega)), bit_shr (7 - d) (by omega) X hX.1]
    by_cases hb : X.testBit (7 - d) = true
    · rw [if_pos hb, if_neg (show ¬ (1 : Int32) = 0 by decide)]
      obtain ⟨J1, e1, a1, a2, a3⟩ := zlp23b hX s (show 7 - d < 8 by omega) hb (nI X) (nI (2 ^ st.Q)) st.Q 0 I (Nat.zero_add _) hE (fun q hq => absurd hq (Nat.not_lt_zero q))
      obtain ⟨J, x5', e2, c⟩ := go J1 a1 a2 (fun _ => a3)
      rw [if_pos hb] at e2
      exact ⟨J, x5', e1.trans e2, c⟩
    · rw [if_neg hb, if_pos rfl]
      obtain ⟨f1, f2, f3, fj⟩ := hE.1.1.2.2.2.2.2.1
      obtain ⟨J, x5', e2, c⟩ := go I (fun _ _ => rfl) (fun _ _ => rfl) (fun q => absurd q hb)
      rw [if_neg hb] at e2
      refine ⟨J, x5', ?_, c⟩
      rw [zq_23_35, f2]
      by_cases h0 : nI st.Q ≤ 0
      · rw [if_pos h0]
        exact e2
      · rw [if_neg h0, if_pos rfl]
        exact e2
theorem zlp23e {L : zLw} {st : zSt} {X : Nat} (hX : zTl0 st X) (s : zQs) (x2 : Int32) : ∀ m i (I : Nat → Nat → Int32) (x5 : Value), i + m = 8 → RepW st I → (∀ e, e ≤ 8 → zR28 L st X I e) → (∀ j, j < 8 → X.testBit j = true → zR27 L st X I j) → (∀ j, j < i → I 29 j = nI (zsnd (zBx L st X) st.Q X j)) →
    ∃ J, zQ_23 (97, [.ref 20, .int (nI X), .int x2, .int (nI (ztk (zBx L st X) st.Q X i)), .int (nI i), x5], [], zMk (s, I)) = some (.long 0, zMk (s, J)) ∧ (∀ r, r ≠ 29 → J r = I r) ∧ ∀ j, j < 8 → J 29 j = nI (zsnd (zBx L st X) st.Q X j)
  | 0, i, I, x5, h, hR, h28, h27, hI => by
    have h : i = 8 := by omega
    subst h
    refine ⟨I, ?_, fun _ _ => rfl, hI⟩
    rw [zq_23_97, if_pos (show (8 : Int32) ≤ nI 8 by decide)]
  | m + 1, i, I, x5, h, hR, h28, h27, hI => by
    have hi : i < 8 := by omega
    obtain ⟨f1, f2, f3, fj⟩ := hR.2.2.2.2.2.1
    have hq := zq_256 f1
    have htk := ztk_lt (B := zBx L st X) (Q := st.Q) (X := X) f1 i
    have htk2 := ztk_lt (B := zBx L st X) (Q := st.Q) (X := X) f1 (i + 1)
    have e7 : 7 - (7 - i) = i := by omega
    have zi := zb_t hi (show i < 2 ^ 31 by omega)
    have ci : (nI i).toNatClampNeg = i := nI_clamp (by omega)
    have sc : zScr I (zwA I 29 (upd (I 29) i (nI (zsnd (zBx L st X) st.Q X i)))) := zScr_w rfl _
    have hs8 : zsnd (zBx L st X) st.Q X i ≤ 8 := by
      by_cases h8 : zsnd (zBx L st X) st.Q X i = 8
      · omega
      · have := zsp_lt f1 h8
        show zsp _ _ _ _ _ ≤ 8
        omega
    have fin : ∀ x5 : Int32, ∃ J, zQ_23 (121, [.ref 20, .int (nI X), .int x2, .int (nI (ztk (zBx L st X) st.Q X i)), .int (nI i), .int x5], [.int (nI (zsnd (zBx L st X) st.Q X i)), .int (nI i), .ref 29], zMk (s, I)) = some (.long 0, zMk (s, J)) ∧ (∀ r, r ≠ 29 → J r = I r) ∧ ∀ j, j < 8 → J 29 j = nI (zsnd (zBx L st X) st.Q X j) := by
      intro x5
      obtain ⟨J, e, j1, j2⟩ := zlp23e hX s x2 m (i + 1) (zwA I 29 (upd (I 29) i (nI (zsnd (zBx L st X) st.Q X i)))) (.int x5) (by omega) (Rep_Scr hR sc) (fun e he t ht => by rw [zwA_n (by decide)]; exact h28 e he t ht) (fun j hj hb p hp => by rw [zwA_n (by decide)]; exact h27 j hj hb p hp) (fun j hj => by
        rw [zwA_s, upd_at]
        by_cases h : j = i
        · subst h
          rw [if_pos rfl]
        · rw [if_neg h]
          exact hI j (by omega))
      refine ⟨J, ?_, fun r hr => (j1 r hr).trans (zwA_n hr), j2⟩
      rw [zq_23_121, if_pos zi, if_pos zi, ci, upd_at, if_pos rfl]
      by_cases h8 : zsnd (zBx L st X) st.Q X i = 8
      · have ht : ztk (zBx L st X) st.Q X (i + 1) = ztk (zBx L st X) st.Q X i := if_pos h8
        rw [ht] at e
        rw [if_pos (show nI (zsnd (zBx L st X) st.Q X i) = 8 by rw [h8]; rfl), nI_1]
        exact e
      · have ht : ztk (zBx L st X) st.Q X (i + 1) = ztk (zBx L st X) st.Q X i ||| 2 ^ zsnd (zBx L st X) st.Q X i := if_neg h8
        rw [ht] at e
        rw [if_neg (show ¬ nI (zsnd (zBx L st X) st.Q X i) = 8 from nI_ne (b := 8) h8 (by omega) (by decide)), if_pos zi, nI_or _ (by omega) _ (by omega), nI_1]
        exact e
    rw [zq_23_97, if_neg (show ¬ (8 : Int32) ≤ nI i from nI_ge (b := 8) hi (by decide)), bit_shr i hi X hX.1]
    by_cases hb : X.testBit i = true
    · have e24 := zf24 (s := s) (d := 7 - i) hR hX (by omega) (by rw [e7]; exact h27 i hi hb) (h28 (7 - i) (by omega)) htk (by rw [e7]; exact hb)
      rw [e7] at e24
      rw [if_pos hb, if_neg (show ¬ (1 : Int32) = 0 by decide), if_neg (show ¬ (1 : Int32) = 0 by decide), e24, zcI_some, zq_23_119]
      exact fin 1
    · have h8 : zsnd (zBx L st X) st.Q X i = 8 := by
        show zsp _ _ _ _ _ = 8
        unfold zsp
        rw [e7, if_neg hb]
      have f := fin 0
      rw [h8] at f
      rw [if_neg hb, if_pos rfl, if_pos rfl]
      exact f
/-- the class has sent -/
theorem zf23 {L : zLw} {st : zSt} {X : Nat} (hX : zTl0 st X) (s : zQs) {I : Nat → Nat → Int32} (hE : zEf L st X s I) :
    ∃ J, zf_23 [.ref 20, .int (nI X)] (zMk (s, I)) = some (.long 0, zMk (s, J)) ∧ (∀ r, r ≠ 27 → r ≠ 28 → r ≠ 29 → J r = I r) ∧ (∀ j, j < 8 → X.testBit j = true → zR27 L st X J j) ∧ ∀ j, j < 8 → J 29 j = nI (zsnd (zBx L st X) st.Q X j) := by
  obtain ⟨f1, f2, f3, fj⟩ := hE.1.1.2.2.2.2.2.1
  obtain ⟨J1, e1, a1, a2⟩ := zlp23a s (nI X) (.long 0) (.long 0) f1 (2 ^ st.Q) 0 I (Nat.zero_add _) (fun t ht => absurd ht (Nat.not_lt_zero t))
  have sc1 : zScr I J1 := zScr_1 (k := 28) rfl a1
  obtain ⟨J2, x5, e2, b1, b2, b3⟩ := zlp23d (L := L) hX s 8 0 J1 (.long 0) (.long 0) rfl (zEf_Scr hE sc1) (fun e he t ht => by
    have he : e = 0 := by omega
    subst he
    rw [show (8 - 0) * 256 + t = 2048 + t by omega, a2 t ht]
    exact zVc_0.symm) (fun j h1 h2 _ => absurd h1 (by omega))
  have sc2 : zScr J1 J2 := zScr_tr (J := fun r => if r = 27 then J2 27 else J1 r) (zScr_1 (k := 27) rfl (fun r hr => if_neg hr)) (zScr_1 (k := 28) rfl (fun r hr => by
    by_cases h : r = 27
    · rw [h]; rfl
    · rw [b1 r h hr]
      exact (if_neg h).symm))
  obtain ⟨J, e3, c1, c2⟩ := zlp23e hX s (nI (2 ^ st.Q)) 8 0 J2 x5 rfl (Rep_Scr (Rep_Scr hE.1.1 sc1) sc2) b2 b3 (fun j hj => absurd hj (Nat.not_lt_zero j))
  refine ⟨J, ?_, fun r h7 h8 h9 => by rw [c1 r h9, b1 r h7 h8, a1 r h8], fun j hj hb p hp => by rw [c1 27 (by decide)]; exact b3 j hj hb p hp, c2⟩
  rw [zqz_23, zq_23_0, f2, bit_one9 st.Q (by omega)]
  exact e1.trans (e2.trans e3)
theorem zsnd_in {L : zLw} {st : zSt} {X i : Nat} (hQ : st.Q ≤ 8) (hi : i < 8) (h : zsnd (zBx L st X) st.Q X i ≠ 8) : zsnd (zBx L st X) st.Q X i < st.Q ∧ X.testBit i = true ∧ ∃ b, zBr L st i (zsnd (zBx L st X) st.Q X i) = some b := by
  have e7 : 7 - (7 - i) = i := by omega
  have hlt : zsnd (zBx L st X) st.Q X i < st.Q := zsp_lt hQ h
  have hb : X.testBit i = true := by
    cases hx : X.testBit i with
    | true => rfl
    | false =>
      exfalso
      apply h
      show zsp _ _ _ _ _ = 8
      unfold zsp
      rw [e7, hx]
      rfl
  refine ⟨hlt, hb, ?_⟩
  have hp : zsnd (zBx L st X) st.Q X i = (zpick (zso (zBx L st X (7 - (7 - i))) (zsv (zBx L st X) st.Q X (7 - i)) (ztk (zBx L st X) st.Q X i)) st.Q (zsv (zBx L st X) st.Q X (7 - i) (ztk (zBx L st X) st.Q X i))).1 := by
    show zsp _ _ _ _ _ = _
    unfold zsp
    rw [e7, if_pos hb]
  rcases zpick_is (g := zso (zBx L st X (7 - (7 - i))) (zsv (zBx L st X) st.Q X (7 - i)) (ztk (zBx L st X) st.Q X i)) hQ (nob := zsv (zBx L st X) st.Q X (7 - i) (ztk (zBx L st X) st.Q X i)) with ⟨h1, -⟩ | ⟨-, h2, -⟩
  · exact absurd (hp.trans h1) h
  · rw [← hp] at h2
    obtain ⟨-, b, hB⟩ := zso_inv h2
    rw [e7, zBx_in hlt hi hb] at hB
    exact ⟨b, hB⟩
/-- the price of a sending -/
def zbv (L : zLw) (st : zSt) (i p : Nat) : Int32 := ztks L st p i 0
theorem ztks_far {L : zLw} {st : zSt} {p i : Nat} {b : Int} (h : zBr L st i p = some b) (far : Int32) : ztks L st p i far = zbv L st i p := by
  unfold zbv
  rw [ztks_B, ztks_B, h]
theorem zlp27 {L : zLw} {st : zSt} {X : Nat} (hX : zTl0 st X) (s : zQs) {I : Nat → Nat → Int32} (hQ : st.Q ≤ 8) (hI : ∀ j, j < 8 → I 29 j = nI (zsnd (zBx L st X) st.Q X j)) : ∀ m i (q : Nat × Int32), i + m = 8 →
    zQ_27 (4, [.ref 20, .int (nI X), .int (nI q.1), .int (nI i)], [], zMk (s, I)) = some (.int (nI (ztot (zsnd (zBx L st X) st.Q X) (zbv L st) m i q).1), zMk (s, I))
  | 0, i, q, h => by
    have h : i = 8 := by omega
    subst h
    rw [zq_27_4, if_pos (show (8 : Int32) ≤ nI 8 by decide)]
    rfl
  | m + 1, i, q, h => by
    have hi : i < 8 := by omega
    rw [zq_27_4, if_neg (show ¬ (8 : Int32) ≤ nI i from nI_ge (b := 8) hi (by decide)), bit_shr i hi X hX.1, nI_1]
    show _ = some (Value.int (nI (ztot (zsnd (zBx L st X) st.Q X) (zbv L st) m (i + 1) (if zsnd (zBx L st X) st.Q X i = 8 then q else (q.1 + 1, q.2 + zbv L st i (zsnd (zBx L st X) st.Q X i)))).1), _)
    by_cases h8 : zsnd (zBx L st X) st.Q X i = 8
    · rw [if_pos h8]
      have nx := zlp27 hX s hQ hI m (i + 1) q (by omega)
      by_cases hb : X.testBit i = true
      · rw [if_pos hb, if_neg (show ¬ (1 : Int32) = 0 by decide), if_pos (zb_t hi (by omega)), nI_clamp (show i < 2 ^ 31 by omega), hI i hi, if_pos (by rw [h8]; rfl)]
        exact nx
      · rw [if_neg hb, if_pos rfl]
        exact nx
    · obtain ⟨h1, h2, -⟩ := zsnd_in hQ hi h8
      have nx := zlp27 hX s hQ hI m (i + 1) (q.1 + 1, q.2 + zbv L st i (zsnd (zBx L st X) st.Q X i)) (by omega)
      rw [if_neg h8, if_pos h2, if_neg (show ¬ (1 : Int32) = 0 by decide), if_pos (zb_t hi (by omega)), nI_clamp (show i < 2 ^ 31 by omega), hI i hi, if_neg (show ¬ nI (zsnd (zBx L st X) st.Q X i) = 8 from nI_ne (b := 8) h8 (by omega) (by decide)), nI_1]
      exact nx
theorem zlp28 {L : zLw} {st : zSt} {X : Nat} (hX : zTl0 st X) (s : zQs) {I : Nat → Nat → Int32} (hQ : st.Q ≤ 8) (h27 : ∀ j, j < 8 → X.testBit j = true → zR27 L st X I j) (hI : ∀ j, j < 8 → I 29 j = nI (zsnd (zBx L st X) st.Q X j)) : ∀ m i (q : Nat × Int32), i + m = 8 →
    zQ_28 (4, [.ref 20, .int (nI X), .int q.2, .int (nI i)], [], zMk (s, I)) = some (.int (ztot (zsnd (zBx L st X) st.Q X) (zbv L st) m i q).2, zMk (s, I))
  | 0, i, q, h => by
    have h : i = 8 := by omega
    subst h
    rw [zq_28_4, if_pos (show (8 : Int32) ≤ nI 8 by decide)]
    rfl
  | m + 1, i, q, h => by
    have hi : i < 8 := by omega
    rw [zq_28_4, if_neg (show ¬ (8 : Int32) ≤ nI i from nI_ge (b := 8) hi (by decide)), bit_shr i hi X hX.1, nI_1]
    show _ = some (Value.int (ztot (zsnd (zBx L st X) st.Q X) (zbv L st) m (i + 1) (if zsnd (zBx L st X) st.Q X i = 8 then q else (q.1 + 1, q.2 + zbv L st i (zsnd (zBx L st X) st.Q X i)))).2, _)
    by_cases h8 : zsnd (zBx L st X) st.Q X i = 8
    · rw [if_pos h8]
      have nx := zlp28 hX s hQ h27 hI m (i + 1) q (by omega)
      by_cases hb : X.testBit i = true
      · rw [if_pos hb, if_neg (show ¬ (1 : Int32) = 0 by decide), if_pos (zb_t hi (by omega)), nI_clamp (show i < 2 ^ 31 by omega), hI i hi, if_pos (by rw [h8]; rfl)]
        exact nx
      · rw [if_neg hb, if_pos rfl]
        exact nx
    · obtain ⟨h1, h2, b, hb⟩ := zsnd_in hQ hi h8
      have nx := zlp28 hX s hQ h27 hI m (i + 1) (q.1 + 1, q.2 + zbv L st i (zsnd (zBx L st X) st.Q X i)) (by omega)
      have e1 : nI i * 8 + nI (zsnd (zBx L st X) st.Q X i) = nI (i * 8 + zsnd (zBx L st X) st.Q X i) := by rw [show nI i * 8 = nI (i * 8) from nI_mul _ 8, nI_add]
      rw [if_neg h8, if_pos h2, if_neg (show ¬ (1 : Int32) = 0 by decide), if_pos (zb_t hi (by omega)), nI_clamp (show i < 2 ^ 31 by omega), hI i hi, if_neg (show ¬ nI (zsnd (zBx L st X) st.Q X i) = 8 from nI_ne (b := 8) h8 (by omega) (by decide)), if_pos (zb_t hi (by omega)), e1, if_pos (zb_t (show i * 8 + zsnd (zBx L st X) st.Q X i < 64 by omega) (by omega)), nI_clamp (show i * 8 + zsnd (zBx L st X) st.Q X i < 2 ^ 31 by omega), h27 i hi h2 _ h1, ztks_far hb]
      exact nx
