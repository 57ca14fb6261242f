/-! WHO BRINGS WHAT: THE REFERENCE -/
def zgv (o : Option zkc) : Int32 := match o with
  | none => -1000000000
  | some v => zVr v
def zR91 (L : zLw) (st : zSt) (X : Nat) (I : Nat → Nat → Int32) (i : Nat) : Prop := ∀ p, p < st.Q → I 91 (8 * i + p) = if X.testBit i = true then ztks L st p i 1000000000 else 1000000000
def zR92 (L : zLw) (st : zSt) (X : Nat) (I : Nat → Nat → Int32) (d : Nat) : Prop := ∀ t, t < 256 → I 92 (256 * (8 - d) + t) = zVr (zsv (zBx L st X) st.Q X d t)
theorem zf242n {L : zLw} {st : zSt} {s : zQs} {I : Nat → Nat → Int32} {X d t : Nat} (hd : d < 8) (h92 : zR92 L st X I d) (ht : t < 256) : zf_242 [.ref 58, .int (nI X), .int (nI (7 - d)), .int 8, .int (nI t)] (zMk (s, I)) = some (.int (zVr (zsv (zBx L st X) st.Q X d t)), zMk (s, I)) := by
  have e : (256 : Int32) * (nI (7 - d) + 1) + nI t = nI (256 * (8 - d) + t) := by rw [nI_1, show (256 : Int32) * nI (7 - d + 1) = nI (256 * (7 - d + 1)) from nI_mul 256 _, nI_add, show 7 - d + 1 = 8 - d by omega]
  rw [zqz_242, zq_242_0, if_neg (not_not_intro rfl), e, if_pos (zb_t (show 256 * (8 - d) + t < 2304 by omega) (by omega)), nI_clamp (show 256 * (8 - d) + t < 2 ^ 31 by omega), h92 t ht]
theorem zf242p {L : zLw} {st : zSt} {s : zQs} {I : Nat → Nat → Int32} (hR : RepW st I) {X d t p : Nat} (hX : zTl0 st X) (hd : d < 8) (h91 : zR91 L st X I (7 - d)) (h92 : zR92 L st X I d) (ht : t < 256) (hp : p < 8) :
    zf_242 [.ref 58, .int (nI X), .int (nI (7 - d)), .int (nI p), .int (nI t)] (zMk (s, I)) = some (.int (zgv (zso (zBx L st X (7 - d)) (zsv (zBx L st X) st.Q X d) t p)), zMk (s, I)) := by
  obtain ⟨f1, f2, f3, fj⟩ := hR.2.2.2.2.2.1
  have hn : zBx L st X (7 - d) p = none → zso (zBx L st X (7 - d)) (zsv (zBx L st X) st.Q X d) t p = none := by
    intro h
    unfold zso
    rw [h]
    split <;> rfl
  rw [zqz_242, zq_242_0, if_pos (show ¬ nI p = 8 from nI_ne (b := 8) (by omega) (by omega) (by decide)), bit_shr (7 - d) (by omega) X hX.1]
  by_cases hb : X.testBit (7 - d) = true
  case neg =>
    rw [if_neg hb, if_pos rfl, hn (if_neg (fun q => hb q.2.2))]
    rfl
  rw [if_pos hb, if_neg (show ¬ (1 : Int32) = 0 by decide), zl_236, f3, if_neg (nI_pos (by omega))]
  by_cases hpQ : st.Q ≤ p
  · rw [if_pos (nI_le hpQ (by omega)), zcI_some, zq_242_23, if_pos rfl, hn (if_neg (fun q => by omega))]
    rfl
  · have hpq : p < st.Q := by omega
    rw [if_neg (nI_ge hpq (by omega)), zcI_some, zq_242_23, if_neg (show ¬ (1 : Int32) = 0 by decide), bit_shr p hp t ht]
    cases htp : t.testBit p with
    | true =>
      have hz : zso (zBx L st X (7 - d)) (zsv (zBx L st X) st.Q X d) t p = none := if_pos htp
      rw [if_pos rfl, if_pos rfl, hz]
      rfl
    | false =>
      have e1 : (8 : Int32) * nI (7 - d) + nI p = nI (8 * (7 - d) + p) := by rw [show (8 : Int32) * nI (7 - d) = nI (8 * (7 - d)) from nI_mul 8 _, nI_add]
      rw [if_neg (show ¬ (false = true) by decide), if_neg (show ¬ (0 : Int32) = 1 by decide), e1, if_pos (zb_t (show 8 * (7 - d) + p < 64 by omega) (by omega)), nI_clamp (show 8 * (7 - d) + p < 2 ^ 31 by omega), h91 p hpq, if_pos hb, ztks_B]
      cases hB : zBr L st (7 - d) p with
      | none =>
        rw [if_neg (show ¬ (1000000000 : Int32) < 1000000000 by decide), hn (by rw [zBx_in hpq (by omega) hb]; exact hB)]
        rfl
      | some b =>
        have hbb := zBx_bd (L := L) hR hX (7 - d) p b (by rw [zBx_in hpq (by omega) hb]; exact hB)
        have h2 : t ||| 2 ^ p < 2 ^ 8 := Nat.or_lt_two_pow (n := 8) ht (Nat.pow_lt_pow_right (by decide) hp)
        have h2 : t ||| 2 ^ p < 256 := h2
        have e2 : (256 : Int32) * (nI (7 - d) + 1) + nI (t ||| 2 ^ p) = nI (256 * (8 - d) + (t ||| 2 ^ p)) := by rw [nI_1, show (256 : Int32) * nI (7 - d + 1) = nI (256 * (7 - d + 1)) from nI_mul 256 _, nI_add, show 7 - d + 1 = 8 - d by omega]
        have hz : zso (zBx L st X (7 - d)) (zsv (zBx L st X) st.Q X d) t p = some ((zsv (zBx L st X) st.Q X d (t ||| 2 ^ p)).1 + 1, (zsv (zBx L st X) st.Q X d (t ||| 2 ^ p)).2 + b) := by
          unfold zso
          rw [if_neg (by rw [htp]; decide), zBx_in hpq (by omega) hb, hB]
        have hlt : iI b < (1000000000 : Int32) := by
          rw [show (1000000000 : Int32) = iI 1000000000 from rfl, iI_lt (by omega) (by omega) (by omega) (by omega)]
          omega
        rw [if_pos hlt, if_pos (zb_t (show 8 * (7 - d) + p < 64 by omega) (by omega)), nI_or t ht p hp, e2, if_pos (zb_t (show 256 * (8 - d) + (t ||| 2 ^ p) < 2304 by omega) (by omega)), nI_clamp (show 256 * (8 - d) + (t ||| 2 ^ p) < 2 ^ 31 by omega), h92 _ h2, hz]
        show some (Value.int (20000000 - iI b + zVr _), _) = some (Value.int (zVr _), _)
        unfold zVr
        rw [show (20000000 : Int32) = iI 20000000 from rfl, iI_sub, iI_add]
        congr 3
        congr 1
        show 20000000 - b + (20000000 * ((zsv (zBx L st X) st.Q X d (t ||| 2 ^ p)).1 : Int) - (zsv (zBx L st X) st.Q X d (t ||| 2 ^ p)).2) = 20000000 * (((zsv (zBx L st X) st.Q X d (t ||| 2 ^ p)).1 + 1 : Nat) : Int) - ((zsv (zBx L st X) st.Q X d (t ||| 2 ^ p)).2 + b)
        omega
theorem zlp243b {L : zLw} {st : zSt} {X : Nat} (hX : zTl0 st X) (s : zQs) {i : Nat} (hi : i < 8) (x4 x5 : Value) : ∀ m p (I : Nat → Nat → Int32), p + m = st.Q → zRe L st s I → (∀ q, q < p → I 91 (8 * i + q) = if X.testBit i = true then ztks L st q i 1000000000 else 1000000000) →
    ∃ J, zQ_243 (7, [.ref 58, .int (nI X), .int (nI i), .int (nI p), x4, x5], [], zMk (s, I)) = zQ_243 (2, [.ref 58, .int (nI X), .int (nI (i + 1)), .int (nI st.Q), x4, x5], [], zMk (s, J)) ∧ zScr I J ∧ zRe L st s J ∧ (∀ k, (k < 8 * i ∨ 8 * i + 8 ≤ k) → J 91 k = I 91 k) ∧ zR91 L st X J i
  | 0, p, I, h, hE, hI => by
    have h : p = st.Q := by omega
    subst h
    obtain ⟨f1, f2, f3, fj⟩ := hE.1.2.2.2.2.2.1
    refine ⟨I, ?_, zScr_rfl I, hE, fun _ _ => rfl, hI⟩
    rw [zq_243_7, f3, if_pos (nI_le (Nat.le_refl _) (by omega)), nI_1]
  | m + 1, p, I, h, hE, hI => by
    have hp : p < st.Q := by omega
    obtain ⟨f1, f2, f3, fj⟩ := hE.1.2.2.2.2.2.1
    have e1 : (8 : Int32) * nI i + nI p = nI (8 * i + p) := by rw [show (8 : Int32) * nI i = nI (8 * i) from nI_mul 8 _, nI_add]
    have go : ∀ (I1 : Nat → Nat → Int32) (v : Int32), zScr I I1 → zRe L st s I1 → I1 91 = I 91 → (v = if X.testBit i = true then ztks L st p i 1000000000 else 1000000000) →
        ∃ J, zQ_243 (7, [.ref 58, .int (nI X), .int (nI i), .int (nI (p + 1)), x4, x5], [], zMk (s, zwA I1 91 (upd (I1 91) (8 * i + p) v))) = zQ_243 (2, [.ref 58, .int (nI X), .int (nI (i + 1)), .int (nI st.Q), x4, x5], [], zMk (s, J)) ∧ zScr I J ∧ zRe L st s J ∧ (∀ k, (k < 8 * i ∨ 8 * i + 8 ≤ k) → J 91 k = I 91 k) ∧ zR91 L st X J i := by
      intro I1 v g1 g2 g3 hv
      obtain ⟨J, e, j1, j2, j3, j4⟩ := zlp243b hX s hi x4 x5 m (p + 1) (zwA I1 91 (upd (I1 91) (8 * i + p) v)) (by omega) (zRe_w g2 rfl (by decide) (by decide) (by decide) _) (fun q hq => by
        rw [zwA_s, upd_at]
        by_cases h : q = p
        · subst h
          rw [if_pos rfl, hv]
        · rw [if_neg (by omega), g3]
          exact hI q (by omega))
      exact ⟨J, e, zScr_tr g1 (zScr_tr (zScr_w rfl _) j1), j2, fun k hk => by rw [j3 k hk, zwA_s, upd_at, if_neg (by omega), g3], j4⟩
    rw [zq_243_7, f3, if_neg (nI_ge hp (by omega)), bit_shr i hi X hX.1]
    by_cases hb : X.testBit i = true
    · obtain ⟨J1, e2, g1, g2⟩ := zf240 hE hp hi (hX.2 i hi hb)
      rw [if_pos hb, if_neg (not_not_intro rfl), e2, zcI_some, e1, zq_243_29, if_pos (zb_t (show 8 * i + p < 64 by omega) (by omega)), nI_clamp (show 8 * i + p < 2 ^ 31 by omega), nI_1]
      exact go J1 _ (zScr_Rs g1) g2 (g1 91 (by decide) (by decide) (by decide) (by decide) (by decide)) (by rw [if_pos hb])
    · rw [if_neg hb, if_pos (show ¬ (0 : Int32) = 1 by decide), e1, if_pos (zb_t (show 8 * i + p < 64 by omega) (by omega)), nI_clamp (show 8 * i + p < 2 ^ 31 by omega), nI_1]
      exact go I _ (zScr_rfl I) hE rfl (by rw [if_neg hb])
theorem zlp243a {L : zLw} {st : zSt} {X : Nat} (hX : zTl0 st X) (s : zQs) (x4 x5 : Value) : ∀ m i (I : Nat → Nat → Int32) (x3 : Value), i + m = 8 → zRe L st s I → (∀ j, j < i → zR91 L st X I j) →
    ∃ J x3', zQ_243 (2, [.ref 58, .int (nI X), .int (nI i), x3, x4, x5], [], zMk (s, I)) = zQ_243 (38, [.ref 58, .int (nI X), .int (nI 0), x3', x4, x5], [], zMk (s, J)) ∧ zScr I J ∧ zRe L st s J ∧ ∀ j, j < 8 → zR91 L st X J j
  | 0, i, I, x3, h, hE, hI => by
    have h : i = 8 := by omega
    subst h
    refine ⟨I, x3, ?_, zScr_rfl I, hE, hI⟩
    rw [zq_243_2, if_pos (show (8 : Int32) ≤ nI 8 by decide)]
    rfl
  | m + 1, i, I, x3, h, hE, hI => by
    have hi : i < 8 := by omega
    obtain ⟨f1, -⟩ := hE.1.2.2.2.2.2.1
    obtain ⟨J1, e1, a1, a2, a3, a4⟩ := zlp243b hX s hi x4 x5 st.Q 0 I (Nat.zero_add _) hE (fun q hq => absurd hq (Nat.not_lt_zero q))
    obtain ⟨J, x3', e, b1, b2, b3⟩ := zlp243a hX s x4 x5 m (i + 1) J1 (.int (nI st.Q)) (by omega) a2 (fun j hj => by
      by_cases h : j = i
      · rw [h]
        exact a4
      · intro p hp
        rw [a3 _ (by omega)]
        exact hI j (by omega) p hp)
    refine ⟨J, x3', ?_, zScr_tr a1 b1, b2, b3⟩
    rw [zq_243_2, if_neg (show ¬ (8 : Int32) ≤ nI i from nI_ge (b := 8) hi (by decide))]
    exact e1.trans e
theorem zlp243c (s : zQs) (x1 : Int32) (x3 x4 x5 : Value) : ∀ m k (I : Nat → Nat → Int32), k + m = 256 → (∀ t, t < k → I 92 (2048 + t) = 0) →
    ∃ J, zQ_243 (38, [.ref 58, .int x1, .int (nI k), x3, x4, x5], [], zMk (s, I)) = zQ_243 (52, [.ref 58, .int x1, .int 7, x3, x4, x5], [], zMk (s, J)) ∧ (∀ r, r ≠ 92 → J r = I r) ∧ ∀ t, t < 256 → J 92 (2048 + t) = 0
  | 0, k, I, h, hI => by
    have h : k = 256 := by omega
    subst h
    refine ⟨I, ?_, fun _ _ => rfl, hI⟩
    rw [zq_243_38, if_pos (show (256 : Int32) ≤ nI 256 by decide)]
  | m + 1, k, I, h, hI => by
    have hk : k < 256 := by omega
    have e : (2048 : Int32) + nI k = nI (2048 + k) := nI_add 2048 k
    obtain ⟨J, e2, j1, j2⟩ := zlp243c s x1 x3 x4 x5 m (k + 1) (zwA I 92 (upd (I 92) (2048 + k) 0)) (by omega) (fun t ht => by
      rw [zwA_s, upd_at]
      by_cases h : t = k
      · subst h
        rw [if_pos rfl]
      · rw [if_neg (by omega)]
        exact hI t (by omega))
    refine ⟨J, ?_, fun r hr => (j1 r hr).trans (zwA_n hr), j2⟩
    rw [zq_243_38, if_neg (show ¬ (256 : Int32) ≤ nI k from nI_ge (b := 256) hk (by decide)), e, if_pos (zb_t (show 2048 + k < 2304 by omega) (by omega)), nI_clamp (show 2048 + k < 2 ^ 31 by omega), nI_1]
    exact e2
theorem zmx_bd {g : Nat → Option zkc} {nob : zkc} {d : Nat} (h0 : zbd nob d) (hg : ∀ p v, g p = some v → zbd v d) : ∀ n, zbd (zmx nob g n) d
  | 0 => h0
  | n + 1 => by
    rw [zmx_s]
    cases h : g n with
    | none => exact zmx_bd h0 hg n
    | some v =>
      show zbd (if zbt v (zmx nob g n) = true then v else zmx nob g n) d
      split
      · exact hg n v h
      · exact zmx_bd h0 hg n
theorem zlp243p {L : zLw} {st : zSt} {X : Nat} (hX : zTl0 st X) (s : zQs) {d t : Nat} (hd : d < 8) (ht : t < 256) {I : Nat → Nat → Int32} (hR : RepW st I) (h91 : zR91 L st X I (7 - d)) (h92 : zR92 L st X I d) : ∀ m p, p + m = st.Q →
    zQ_243 (68, [.ref 58, .int (nI X), .int (nI (7 - d)), .int (nI t), .int (zVr (zmx (zsv (zBx L st X) st.Q X d t) (zso (zBx L st X (7 - d)) (zsv (zBx L st X) st.Q X d) t) p)), .int (nI p)], [], zMk (s, I)) = zQ_243 (56, [.ref 58, .int (nI X), .int (nI (7 - d)), .int (nI (t + 1)), .int (zVr (zmx (zsv (zBx L st X) st.Q X d t) (zso (zBx L st X (7 - d)) (zsv (zBx L st X) st.Q X d) t) st.Q)), .int (nI st.Q)], [], zMk (s, zwA I 92 (upd (I 92) (256 * (7 - d) + t) (zVr (zmx (zsv (zBx L st X) st.Q X d t) (zso (zBx L st X (7 - d)) (zsv (zBx L st X) st.Q X d) t) st.Q))))) := by
  obtain ⟨f1, f2, f3, fj⟩ := hR.2.2.2.2.2.1
  have hB := zBx_bd (L := L) hR hX
  have hF := zsv_bd (B := zBx L st X) (Q := st.Q) (X := X) f1 hB d
  have hg : ∀ p v, zso (zBx L st X (7 - d)) (zsv (zBx L st X) st.Q X d) t p = some v → zbd v (d + 1) := fun p v h => zso_bd (hB (7 - d)) hF h
  have h0 : zbd (zsv (zBx L st X) st.Q X d t) (d + 1) := ⟨by have := (hF t).1; omega, (hF t).2⟩
  intro m
  induction m with
  | zero =>
    intro p h
    have h : p = st.Q := by omega
    subst h
    have e1 : (256 : Int32) * nI (7 - d) + nI t = nI (256 * (7 - d) + t) := by rw [show (256 : Int32) * nI (7 - d) = nI (256 * (7 - d)) from nI_mul 256 _, nI_add]
    rw [zq_243_68, f3, if_pos (nI_le (Nat.le_refl _) (by omega)), e1, if_pos (zb_t (show 256 * (7 - d) + t < 2304 by omega) (by omega)), nI_clamp (show 256 * (7 - d) + t < 2 ^ 31 by omega), nI_1]
  | succ m ih =>
    intro p h
    have hp : p < st.Q := by omega
    have e := zf242p (s := s) hR hX hd h91 h92 ht (show p < 8 by omega)
    have hm := zmx_bd h0 hg p
    rw [zq_243_68, f3, if_neg (nI_ge hp (by omega)), e, zcI_some, zq_243_78]
    have nx := ih (p + 1) (by omega)
    rw [zmx_s] at nx
    cases hz : zso (zBx L st X (7 - d)) (zsv (zBx L st X) st.Q X d) t p with
    | none =>
      rw [hz] at nx
      rw [if_pos (show zgv none ≤ _ from (zVr_far (d := d + 1) (by omega) hm).2), nI_1]
      exact nx
    | some v =>
      rw [hz] at nx
      have nx : zQ_243 (68, [.ref 58, .int (nI X), .int (nI (7 - d)), .int (nI t), .int (zVr (if zbt v (zmx (zsv (zBx L st X) st.Q X d t) (zso (zBx L st X (7 - d)) (zsv (zBx L st X) st.Q X d) t) p) = true then v else zmx (zsv (zBx L st X) st.Q X d t) (zso (zBx L st X (7 - d)) (zsv (zBx L st X) st.Q X d) t) p)), .int (nI (p + 1))], [], zMk (s, I)) = _ := nx
      have hle := zVr_le (d := d + 1) (e := d + 1) (by omega) (by omega) (hg p v hz) hm
      by_cases hc : zbt v (zmx (zsv (zBx L st X) st.Q X d t) (zso (zBx L st X (7 - d)) (zsv (zBx L st X) st.Q X d) t) p) = true
      · rw [if_pos hc] at nx
        rw [if_neg (show ¬ zgv (some v) ≤ _ by show ¬ zVr v ≤ _; rw [hle]; exact fun q => q hc), e, hz, zcI_some, zq_243_86, nI_1]
        exact nx
      · rw [if_neg hc] at nx
        rw [if_pos (show zgv (some v) ≤ _ by show zVr v ≤ _; rw [hle]; exact hc), nI_1]
        exact nx
theorem zso_no {L : zLw} {st : zSt} {X i : Nat} (hb : ¬ X.testBit i = true) (F : Nat → zkc) (t p : Nat) : zso (zBx L st X i) F t p = none := by
  have h : zBx L st X i p = none := if_neg (fun q => hb q.2.2)
  unfold zso
  rw [h]
  split <;> rfl
theorem zmx_no {g : Nat → Option zkc} {nob : zkc} (hg : ∀ p, g p = none) : ∀ n, zmx nob g n = nob
  | 0 => rfl
  | n + 1 => by
    rw [zmx_s, hg n]
    exact zmx_no hg n
theorem zsv_mx {L : zLw} {st : zSt} {X d t : Nat} : zmx (zsv (zBx L st X) st.Q X d t) (zso (zBx L st X (7 - d)) (zsv (zBx L st X) st.Q X d) t) st.Q = zsv (zBx L st X) st.Q X (d + 1) t := by
  rw [zsv_s]
  by_cases hb : X.testBit (7 - d) = true
  · rw [if_pos hb, zmx_pick]
  · rw [if_neg hb, zmx_no (fun p => zso_no hb _ t p)]
theorem zlp243t {L : zLw} {st : zSt} {X : Nat} (hX : zTl0 st X) (s : zQs) {d : Nat} (hd : d < 8) : ∀ m t (I : Nat → Nat → Int32) (x4 x5 : Value), t + m = 256 → RepW st I → zR91 L st X I (7 - d) → zR92 L st X I d → (∀ u, u < t → I 92 (256 * (7 - d) + u) = zVr (zsv (zBx L st X) st.Q X (d + 1) u)) →
    ∃ J x4' x5', zQ_243 (56, [.ref 58, .int (nI X), .int (nI (7 - d)), .int (nI t), x4, x5], [], zMk (s, I)) = zQ_243 (52, [.ref 58, .int (nI X), .int (zpd (d + 1)), .int (nI 256), x4', x5'], [], zMk (s, J)) ∧ (∀ r, r ≠ 92 → J r = I r) ∧ (∀ k, (k < 256 * (7 - d) ∨ 256 * (7 - d) + 256 ≤ k) → J 92 k = I 92 k) ∧ zR92 L st X J (d + 1)
  | 0, t, I, x4, x5, h, hR, h91, h92, hI => by
    have h : t = 256 := by omega
    subst h
    refine ⟨I, x4, x5, ?_, fun _ _ => rfl, fun _ _ => rfl, fun u hu => ?_⟩
    · rw [zq_243_56, if_pos (show (256 : Int32) ≤ nI 256 by decide), zpd_next hd]
    · rw [show 8 - (d + 1) = 7 - d by omega]
      exact hI u hu
  | m + 1, t, I, x4, x5, h, hR, h91, h92, hI => by
    have ht : t < 256 := by omega
    have sc : zScr I (zwA I 92 (upd (I 92) (256 * (7 - d) + t) (zVr (zsv (zBx L st X) st.Q X (d + 1) t)))) := zScr_w rfl _
    obtain ⟨J, y4, y5, e, j1, j2, j3⟩ := zlp243t hX s hd m (t + 1) (zwA I 92 (upd (I 92) (256 * (7 - d) + t) (zVr (zsv (zBx L st X) st.Q X (d + 1) t)))) (.int (zVr (zsv (zBx L st X) st.Q X (d + 1) t))) (.int (nI st.Q)) (by omega) (Rep_Scr hR sc) (fun p hp => by rw [zwA_n (by decide)]; exact h91 p hp) (fun u hu => by rw [zwA_s, upd_at, if_neg (by omega)]; exact h92 u hu) (fun u hu => by
      rw [zwA_s, upd_at]
      by_cases h : u = t
      · subst h
        rw [if_pos rfl]
      · rw [if_neg (by omega)]
        exact hI u (by omega))
    refine ⟨J, y4, y5, ?_, fun r hr => (j1 r hr).trans (zwA_n hr), fun k hk => by rw [j2 k hk, zwA_s, upd_at, if_neg (by omega)], j3⟩
    have lp := zlp243p hX s hd ht hR h91 h92 st.Q 0 (Nat.zero_add _)
    rw [zsv_mx] at lp
    rw [zq_243_56, if_neg (show ¬ (256 : Int32) ≤ nI t from nI_ge (b := 256) ht (by decide)), zf242n hd h92 ht, zcI_some, zq_243_65]
    exact lp.trans e
theorem zlp243d {L : zLw} {st : zSt} {X : Nat} (hX : zTl0 st X) (s : zQs) : ∀ m d (I : Nat → Nat → Int32) (x3 x4 x5 : Value), d + m = 8 → RepW st I → (∀ j, j < 8 → zR91 L st X I j) → (∀ e, e ≤ d → zR92 L st X I e) →
    ∃ J, zQ_243 (52, [.ref 58, .int (nI X), .int (zpd d), x3, x4, x5], [], zMk (s, I)) = some (.long 0, zMk (s, J)) ∧ (∀ r, r ≠ 92 → J r = I r) ∧ ∀ e, e ≤ 8 → zR92 L st X J e
  | 0, d, I, x3, x4, x5, h, hR, h91, h92 => by
    have h : d = 8 := by omega
    subst h
    refine ⟨I, ?_, fun _ _ => rfl, h92⟩
    rw [zq_243_52, show zpd 8 = -1 from rfl, if_pos (by decide)]
  | m + 1, d, I, x3, x4, x5, h, hR, h91, h92 => by
    have hd : d < 8 := by omega
    obtain ⟨J1, y4, y5, e1, a1, a2, a3⟩ := zlp243t hX s hd 256 0 I x4 x5 rfl hR (h91 (7 - d) (by omega)) (h92 d (Nat.le_refl _)) (fun u hu => absurd hu (Nat.not_lt_zero u))
    obtain ⟨J, e, b1, b2⟩ := zlp243d hX s m (d + 1) J1 (.int (nI 256)) y4 y5 (by omega) (Rep_Scr hR (zScr_1 (k := 92) rfl a1)) (fun j hj p hp => by rw [a1 91 (by decide)]; exact h91 j hj p hp) (fun e he => by
      by_cases hed : e = d + 1
      · rw [hed]
        exact a3
      · intro t ht
        rw [a2 _ (by omega)]
        exact h92 e (by omega) t ht)
    refine ⟨J, ?_, fun r hr => (b1 r hr).trans (a1 r hr), b2⟩
    have hz : zpd d = nI (7 - d) := if_neg (by omega)
    rw [zq_243_52, hz, if_neg (nI_pos (by omega))]
    exact e1.trans e
theorem zVr_0 : zVr (0, 0) = 0 := by decide
/-- the reference has sent -/
theorem zf243 {L : zLw} {st : zSt} {X : Nat} (hX : zTl0 st X) (s : zQs) {I : Nat → Nat → Int32} (hE : zRe L st s I) :
    ∃ J, zf_243 [.ref 58, .int (nI X)] (zMk (s, I)) = some (.long 0, zMk (s, J)) ∧ zScr I J ∧ (∀ j, j < 8 → zR91 L st X J j) ∧ ∀ e, e ≤ 8 → zR92 L st X J e := by
  obtain ⟨J1, x3, e1, a1, a2, a3⟩ := zlp243a hX s (.long 0) (.long 0) 8 0 I (.long 0) rfl hE (fun j hj => absurd hj (Nat.not_lt_zero j))
  obtain ⟨J2, e2, b1, b2⟩ := zlp243c s (nI X) x3 (.long 0) (.long 0) 256 0 J1 rfl (fun t ht => absurd ht (Nat.not_lt_zero t))
  have sc2 : zScr J1 J2 := zScr_1 (k := 92) rfl b1
  obtain ⟨J, e3, c1, c2⟩ := zlp243d (L := L) hX s 8 0 J2 x3 (.long 0) (.long 0) rfl (Rep_Scr a2.1 sc2) (fun j hj p hp => by rw [b1 91 (by decide)]; exact a3 j hj p hp) (fun e he t ht => by
    have he : e = 0 := by omega
    subst he
    rw [show 256 * (8 - 0) + t = 2048 + t by omega, b2 t ht]
    exact zVr_0.symm)
  refine ⟨J, ?_, zScr_tr a1 (zScr_tr sc2 (zScr_1 (k := 92) rfl c1)), fun j hj p hp => by rw [c1 91 (by decide), b1 91 (by decide)]; exact a3 j hj p hp, c2⟩
  rw [zqz_243, zq_243_0]
  exact e1.trans (e2.trans e3)
/-- the reference finds who brings -/
theorem zlp244p {L : zLw} {st : zSt} {X : Nat} (hX : zTl0 st X) (s : zQs) {I : Nat → Nat → Int32} (hR : RepW st I) (h91 : ∀ j, j < 8 → zR91 L st X I j) (h92 : ∀ e, e ≤ 8 → zR92 L st X I e) (x2 : Int32) {i : Nat} (hi : i < 8) : ∀ m p, p + m = zsnd (zBx L st X) st.Q X i →
    zQ_244 (6, [.ref 58, .int (nI X), .int x2, .int (nI (ztk (zBx L st X) st.Q X i)), .int (nI i), .int (nI p)], [], zMk (s, I)) = zQ_244 (29, [.ref 58, .int (nI X), .int x2, .int (nI (ztk (zBx L st X) st.Q X i)), .int (nI i), .int (nI (zsnd (zBx L st X) st.Q X i))], [], zMk (s, I)) := by
  obtain ⟨f1, f2, f3, fj⟩ := hR.2.2.2.2.2.1
  have hq := zq_256 f1
  have htk := ztk_lt (B := zBx L st X) (Q := st.Q) (X := X) f1 i
  have e7 : 7 - (7 - i) = i := by omega
  have hB := zBx_bd (L := L) hR hX
  have hF := zsv_bd (B := zBx L st X) (Q := st.Q) (X := X) f1 hB (7 - i)
  have hbest := zsv_bd (B := zBx L st X) (Q := st.Q) (X := X) f1 hB (8 - i) (ztk (zBx L st X) st.Q X i)
  have hg : ∀ p v, zso (zBx L st X i) (zsv (zBx L st X) st.Q X (7 - i)) (ztk (zBx L st X) st.Q X i) p = some v → zbd v (8 - i) := fun p v h => by
    have := zso_bd (hB i) hF h
    rw [show 7 - i + 1 = 8 - i by omega] at this
    exact this
  have e1 : (256 : Int32) * nI i + nI (ztk (zBx L st X) st.Q X i) = nI (256 * i + ztk (zBx L st X) st.Q X i) := by rw [show (256 : Int32) * nI i = nI (256 * i) from nI_mul 256 _, nI_add]
  have hval : I 92 (256 * i + ztk (zBx L st X) st.Q X i) = zVr (zsv (zBx L st X) st.Q X (8 - i) (ztk (zBx L st X) st.Q X i)) := by
    have := h92 (8 - i) (by omega) (ztk (zBx L st X) st.Q X i) (by omega)
    rw [show 8 - (8 - i) = i by omega] at this
    exact this
  have step : ∀ p, p < 8 → zQ_244 (6, [.ref 58, .int (nI X), .int x2, .int (nI (ztk (zBx L st X) st.Q X i)), .int (nI i), .int (nI p)], [], zMk (s, I)) = if zgv (zso (zBx L st X i) (zsv (zBx L st X) st.Q X (7 - i)) (ztk (zBx L st X) st.Q X i) p) = zVr (zsv (zBx L st X) st.Q X (8 - i) (ztk (zBx L st X) st.Q X i)) then zQ_244 (29, [.ref 58, .int (nI X), .int x2, .int (nI (ztk (zBx L st X) st.Q X i)), .int (nI i), .int (nI p)], [], zMk (s, I)) else zQ_244 (6, [.ref 58, .int (nI X), .int x2, .int (nI (ztk (zBx L st X) st.Q X i)), .int (nI i), .int (nI (p + 1))], [], zMk (s, I)) := by
    intro p hp
    have e := zf242p (s := s) (d := 7 - i) hR hX (by omega) (by rw [e7]; exact h91 i hi) (h92 (7 - i) (by omega)) (show ztk (zBx L st X) st.Q X i < 256 by omega) hp
    rw [e7] at e
    rw [zq_244_6, if_neg (show ¬ (8 : Int32) ≤ nI p from nI_ge (b := 8) hp (by decide)), e, zcI_some, zq_244_15, e1, if_pos (zb_t (show 256 * i + ztk (zBx L st X) st.Q X i < 2304 by omega) (by omega)), nI_clamp (show 256 * i + ztk (zBx L st X) st.Q X i < 2 ^ 31 by omega), hval, nI_1]
  have hv8 : zsv (zBx L st X) st.Q X (8 - i) (ztk (zBx L st X) st.Q X i) = if X.testBit i = true then (zpick (zso (zBx L st X i) (zsv (zBx L st X) st.Q X (7 - i)) (ztk (zBx L st X) st.Q X i)) st.Q (zsv (zBx L st X) st.Q X (7 - i) (ztk (zBx L st X) st.Q X i))).2 else zsv (zBx L st X) st.Q X (7 - i) (ztk (zBx L st X) st.Q X i) := by
    have := zsv_s (zBx L st X) st.Q X (7 - i) (ztk (zBx L st X) st.Q X i)
    rw [e7, show 7 - i + 1 = 8 - i by omega] at this
    exact this
  have hs : zsnd (zBx L st X) st.Q X i = if X.testBit i = true then (zpick (zso (zBx L st X i) (zsv (zBx L st X) st.Q X (7 - i)) (ztk (zBx L st X) st.Q X i)) st.Q (zsv (zBx L st X) st.Q X (7 - i) (ztk (zBx L st X) st.Q X i))).1 else 8 := by
    show zsp _ _ _ _ _ = _
    unfold zsp
    rw [e7]
  have far : ¬ zgv none = zVr (zsv (zBx L st X) st.Q X (8 - i) (ztk (zBx L st X) st.Q X i)) := (zVr_far (d := 8 - i) (by omega) hbest).1
  /- no one ahead of the sender is as good -/
  have ahead : ∀ p, p < zsnd (zBx L st X) st.Q X i → ¬ zgv (zso (zBx L st X i) (zsv (zBx L st X) st.Q X (7 - i)) (ztk (zBx L st X) st.Q X i) p) = zVr (zsv (zBx L st X) st.Q X (8 - i) (ztk (zBx L st X) st.Q X i)) := by
    intro p hp
    cases hz : zso (zBx L st X i) (zsv (zBx L st X) st.Q X (7 - i)) (ztk (zBx L st X) st.Q X i) p with
    | none => exact far
    | some v =>
      show ¬ zVr v = _
      rw [zVr_eq (d := 8 - i) (e := 8 - i) (by omega) (by omega) (hg p v hz) hbest]
      intro hv
      by_cases hb : X.testBit i = true
      · rw [if_pos hb] at hv8 hs
        rcases zpick_is (g := zso (zBx L st X i) (zsv (zBx L st X) st.Q X (7 - i)) (ztk (zBx L st X) st.Q X i)) f1 (nob := zsv (zBx L st X) st.Q X (7 - i) (ztk (zBx L st X) st.Q X i)) with ⟨k1, k2, k3⟩ | ⟨k1, k2, k3⟩
        · have hpQ : p < st.Q := by
            apply Classical.byContradiction
            intro hno
            have : zso (zBx L st X i) (zsv (zBx L st X) st.Q X (7 - i)) (ztk (zBx L st X) st.Q X i) p = none := by
              have h : zBx L st X i p = none := if_neg (fun q => hno q.1)
              unfold zso
              rw [h]
              split <;> rfl
            rw [this] at hz
            cases hz
          exact k3 p hpQ (by rw [hz, hv, hv8, k2])
        · exact k3 p (by rw [← hs]; exact hp) (by rw [hz, hv, hv8])
      · rw [zso_no hb] at hz
        cases hz
  intro m
  induction m with
  | zero =>
    intro p h
    have h : p = zsnd (zBx L st X) st.Q X i := by omega
    by_cases h8 : zsnd (zBx L st X) st.Q X i = 8
    · rw [h, h8, zq_244_6, if_pos (show (8 : Int32) ≤ nI 8 by decide)]
    · obtain ⟨g1, g2, -⟩ := zsnd_in f1 hi h8
      have hz : zgv (zso (zBx L st X i) (zsv (zBx L st X) st.Q X (7 - i)) (ztk (zBx L st X) st.Q X i) p) = zVr (zsv (zBx L st X) st.Q X (8 - i) (ztk (zBx L st X) st.Q X i)) := by
        rw [if_pos g2] at hv8 hs
        rcases zpick_is (g := zso (zBx L st X i) (zsv (zBx L st X) st.Q X (7 - i)) (ztk (zBx L st X) st.Q X i)) f1 (nob := zsv (zBx L st X) st.Q X (7 - i) (ztk (zBx L st X) st.Q X i)) with ⟨k1, -⟩ | ⟨k1, k2, k3⟩
        · exact absurd (hs.trans k1) h8
        · rw [← hs] at k2
          rw [h, k2, hv8]
          rfl
      rw [step p (by omega), if_pos hz, h]
  | succ m ih =>
    intro p h
    have hs8 : zsnd (zBx L st X) st.Q X i ≤ 8 := by
      by_cases h8 : zsnd (zBx L st X) st.Q X i = 8
      · omega
      · have := (zsnd_in f1 hi h8).1
        omega
    rw [step p (by omega), if_neg (ahead p (by omega))]
    exact ih (p + 1) (by omega)
theorem zlp244 {L : zLw} {st : zSt} {X : Nat} (hX : zTl0 st X) (s : zQs) {I : Nat → Nat → Int32} (hR : RepW st I) (h91 : ∀ j, j < 8 → zR91 L st X I j) (h92 : ∀ e, e ≤ 8 → zR92 L st X I e) {w : Nat} (hw : w < 8) : ∀ m i (x5 : Value), i + m = w →
    zQ_244 (4, [.ref 58, .int (nI X), .int (nI w), .int (nI (ztk (zBx L st X) st.Q X i)), .int (nI i), x5], [], zMk (s, I)) = some (.int (nI (zsnd (zBx L st X) st.Q X w)), zMk (s, I)) := by
  obtain ⟨f1, f2, f3, fj⟩ := hR.2.2.2.2.2.1
  have hq := zq_256 f1
  intro m
  induction m with
  | zero =>
    intro i x5 h
    have h : i = w := by omega
    subst h
    rw [zq_244_4]
    refine (zlp244p hX s hR h91 h92 (nI i) hw _ 0 (Nat.zero_add _)).trans ?_
    rw [zq_244_29, if_neg (not_not_intro rfl)]
  | succ m ih =>
    intro i x5 h
    have hi : i < 8 := by omega
    have htk := ztk_lt (B := zBx L st X) (Q := st.Q) (X := X) f1 i
    rw [zq_244_4]
    refine (zlp244p hX s hR h91 h92 (nI w) hi _ 0 (Nat.zero_add _)).trans ?_
    rw [zq_244_29, if_pos (nI_ne (show i ≠ w by omega) (by omega) (by omega)), nI_1]
    have nx := fun x5 => ih (i + 1) x5 (by omega)
    by_cases h8 : zsnd (zBx L st X) st.Q X i = 8
    · have ht : ztk (zBx L st X) st.Q X (i + 1) = ztk (zBx L st X) st.Q X i := if_pos h8
      rw [ht] at nx
      rw [if_neg (not_not_intro (show nI (zsnd (zBx L st X) st.Q X i) = 8 by rw [h8]; rfl))]
      exact nx _
    · have ht : ztk (zBx L st X) st.Q X (i + 1) = ztk (zBx L st X) st.Q X i ||| 2 ^ zsnd (zBx L st X) st.Q X i := if_neg h8
      obtain ⟨g1, -⟩ := zsnd_in f1 hi h8
      rw [ht] at nx
      rw [if_pos (show ¬ nI (zsnd (zBx L st X) st.Q X i) = 8 from nI_ne (b := 8) h8 (by omega) (by decide)), nI_or _ (by omega) _ (by omega)]
      exact nx _
theorem zf244 {L : zLw} {st : zSt} {X : Nat} (hX : zTl0 st X) (s : zQs) {I : Nat → Nat → Int32} (hR : RepW st I) (h91 : ∀ j, j < 8 → zR91 L st X I j) (h92 : ∀ e, e ≤ 8 → zR92 L st X I e) {w : Nat} (hw : w < 8) : zf_244 [.ref 58, .int (nI X), .int (nI w)] (zMk (s, I)) = some (.int (nI (zsnd (zBx L st X) st.Q X w)), zMk (s, I)) := by
  rw [zqz_244, zq_244_0]
  exact zlp244 hX s hR h91 h92 hw w 0 (.long 0) (Nat.zero_add _)
theorem zlp245 {L : zLw} {st : zSt} {X : Nat} (hX : zTl0 st X) (s : zQs) {I : Nat → Nat → Int32} (hR : RepW st I) (h91 : ∀ j, j < 8 → zR91 L st X I j) (h92 : ∀ e, e ≤ 8 → zR92 L st X I e) (x2 : Int32) : ∀ m i (q : Nat × Int32) (x6 : Value), i + m = 8 →
    zQ_245 (56, [.ref 58, .int (nI X), .int x2, .int (nI q.1), .int q.2, .int (nI i), x6], [], zMk (s, I)) = some (.int (if ¬ x2 = -1 then (ztot (zsnd (zBx L st X) st.Q X) (zbv L st) m i q).2 else nI (ztot (zsnd (zBx L st X) st.Q X) (zbv L st) m i q).1), zMk (s, I)) := by
  obtain ⟨f1, f2, f3, fj⟩ := hR.2.2.2.2.2.1
  intro m
  induction m with
  | zero =>
    intro i q x6 h
    have h : i = 8 := by omega
    subst h
    rw [zq_245_56, if_pos (show (8 : Int32) ≤ nI 8 by decide)]
    show (if ¬ x2 = -1 then _ else _) = some (Value.int (if ¬ x2 = -1 then q.2 else nI q.1), _)
    split <;> rfl
  | succ m ih =>
    intro i q x6 h
    have hi : i < 8 := by omega
    rw [zq_245_56, if_neg (show ¬ (8 : Int32) ≤ nI i from nI_ge (b := 8) hi (by decide)), zf244 hX s hR h91 h92 hi, zcI_some, zq_245_63, nI_1 i]
    have nx := ih (i + 1) (if zsnd (zBx L st X) st.Q X i = 8 then q else (q.1 + 1, q.2 + zbv L st i (zsnd (zBx L st X) st.Q X i))) (.int (nI (zsnd (zBx L st X) st.Q X i))) (by omega)
    by_cases h8 : zsnd (zBx L st X) st.Q X i = 8
    · rw [if_pos h8] at nx
      rw [if_neg (not_not_intro (show nI (zsnd (zBx L st X) st.Q X i) = 8 by rw [h8]; rfl)), nx]
      show _ = some (Value.int (if ¬ x2 = -1 then (ztot (zsnd (zBx L st X) st.Q X) (zbv L st) m (i + 1) (if zsnd (zBx L st X) st.Q X i = 8 then q else (q.1 + 1, q.2 + zbv L st i (zsnd (zBx L st X) st.Q X i)))).2 else nI (ztot (zsnd (zBx L st X) st.Q X) (zbv L st) m (i + 1) (if zsnd (zBx L st X) st.Q X i = 8 then q else (q.1 + 1, q.2 + zbv L st i (zsnd (zBx L st X) st.Q X i)))).1), _)
      rw [if_pos h8]
    · obtain ⟨g1, g2, b, hb⟩ := zsnd_in f1 hi h8
      have e1 : (8 : Int32) * nI i + nI (zsnd (zBx L st X) st.Q X i) = nI (8 * i + zsnd (zBx L st X) st.Q X i) := by rw [show (8 : Int32) * nI i = nI (8 * i) from nI_mul 8 _, nI_add]
      rw [if_neg h8] at nx
      rw [if_pos (show ¬ nI (zsnd (zBx L st X) st.Q X i) = 8 from nI_ne (b := 8) h8 (by omega) (by decide)), e1, if_pos (zb_t (show 8 * i + zsnd (zBx L st X) st.Q X i < 64 by omega) (by omega)), nI_clamp (show 8 * i + zsnd (zBx L st X) st.Q X i < 2 ^ 31 by omega), h91 i hi _ g1, if_pos g2, ztks_far hb, nI_1, nx]
      show _ = some (Value.int (if ¬ x2 = -1 then (ztot (zsnd (zBx L st X) st.Q X) (zbv L st) m (i + 1) (if zsnd (zBx L st X) st.Q X i = 8 then q else (q.1 + 1, q.2 + zbv L st i (zsnd (zBx L st X) st.Q X i)))).2 else nI (ztot (zsnd (zBx L st X) st.Q X) (zbv L st) m (i + 1) (if zsnd (zBx L st X) st.Q X i = 8 then q else (q.1 + 1, q.2 + zbv L st i (zsnd (zBx L st X) st.Q X i)))).1), _)
      rw [if_neg h8]
