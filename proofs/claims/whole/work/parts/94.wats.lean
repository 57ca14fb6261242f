/-! WATER: THE REFERENCE GOES THROUGH THE SETS OF PLACES -/
theorem zsts_or (S T : Nat → Bool) (n : Nat) : zsts S n ||| zsts T n = zsts (fun i => S i || T i) n := by
  apply Nat.eq_of_testBit_eq
  intro i
  rw [Nat.testBit_or, zsts_bit, zsts_bit, zsts_bit]
  cases decide (i < n) <;> rfl
theorem zsgm_none {f : Nat → Nat} {S : Nat → Bool} : ∀ n, (∀ i, i < n → S i = false) → zsgm f S n = 0
  | 0, _ => rfl
  | n + 1, h => by rw [zsgm_s, zsgm_none n (fun i hi => h i (by omega)), h n (by omega)]; rfl
/-- the places that want -/
def zwq (wn : Nat → Nat) (p : Nat) : Bool := decide (0 < wn p)
/-- the places of a code -/
def zDc (wn : Nat → Nat) (c p : Nat) : Bool := zwq wn p && c.testBit (zcn (zwq wn) p)
theorem zDc_w {wn : Nat → Nat} {c p : Nat} (h : zDc wn c p = true) : 0 < wn p := by
  unfold zDc at h
  rw [Bool.and_eq_true] at h
  exact of_decide_eq_true h.1
/-- each set of places that want has its code -/
theorem zcodw (wn : Nat → Nat) (D : Nat → Bool) : ∀ P, ∃ c, c < 2 ^ (zcn (zwq wn) P) ∧ ∀ p, p < P → (0 < wn p) → c.testBit (zcn (zwq wn) p) = D p
  | 0 => ⟨0, Nat.one_pos, fun p hp => absurd hp (Nat.not_lt_zero p)⟩
  | P + 1 => by
    obtain ⟨c, h1, h2⟩ := zcodw wn D P
    by_cases hw : 0 < wn P
    · have e : zcn (zwq wn) (P + 1) = zcn (zwq wn) P + 1 := by rw [zcn_s]; rw [if_pos (show zwq wn P = true from decide_eq_true hw)]
      have lt : 2 ^ (zcn (zwq wn) P) < 2 ^ (zcn (zwq wn) P + 1) := Nat.pow_lt_pow_right (by decide) (Nat.lt_succ_self _)
      have below : ∀ p, p < P → 0 < wn p → zcn (zwq wn) p < zcn (zwq wn) P := fun p hp hwp => by
        have := zcn_mon (f := zwq wn) (show p + 1 ≤ P by omega)
        rw [zcn_s, if_pos (show zwq wn p = true from decide_eq_true hwp)] at this
        omega
      refine ⟨c ||| (if D P = true then 2 ^ (zcn (zwq wn) P) else 0), ?_, fun p hp hwp => ?_⟩
      · rw [e]
        apply Nat.or_lt_two_pow (by omega)
        split <;> omega
      · rw [Nat.testBit_or]
        by_cases hpP : p = P
        · subst hpP
          rw [Nat.testBit_lt_two_pow h1, Bool.false_or]
          cases D p with
          | true => rw [if_pos rfl, Nat.testBit_two_pow]; exact decide_eq_true rfl
          | false => rw [if_neg (by decide)]; exact Nat.zero_testBit _
        · rw [h2 p (by omega) hwp]
          have : (if D P = true then 2 ^ (zcn (zwq wn) P) else 0).testBit (zcn (zwq wn) p) = false := by
            split
            · rw [Nat.testBit_two_pow]
              exact decide_eq_false (by have := below p (by omega) hwp; omega)
            · exact Nat.zero_testBit _
          rw [this, Bool.or_false]
    · have e : zcn (zwq wn) (P + 1) = zcn (zwq wn) P := by rw [zcn_s]; rw [if_neg (show ¬ zwq wn P = true from fun h => hw (of_decide_eq_true h))]; rfl
      refine ⟨c, by rw [e]; exact h1, fun p hp hwp => ?_⟩
      exact h2 p (by
        by_cases hpP : p = P
        · subst hpP; exact absurd hwp hw
        · omega) hwp
theorem zwho_cg {R : Nat → Nat → Bool} {D E : Nat → Bool} (q : Nat) : ∀ n, (∀ p, p < n → D p = E p) → zwho R D n q = zwho R E n q
  | 0, _ => rfl
  | n + 1, h => by rw [zwho_s, zwho_s, zwho_cg q n (fun p hp => h p (by omega)), h n (by omega)]
theorem zcrr_cg {R : Nat → Nat → Bool} {pc : Nat → Nat} {P Q : Nat} {D E : Nat → Bool} (h : ∀ p, p < P → D p = E p) : zcrr R pc P Q D = zcrr R pc P Q E := zsgm_cg Q (fun q _ => zwho_cg q P h)
def zbt20 (D : Nat → Bool) (P : Nat) : Nat := zcn (fun i => (zsts D P).testBit i) 20
/-- what the reference has found among the codes so far -/
def zRi (R : Nat → Nat → Bool) (wn pc : Nat → Nat) (P Q k m d : Nat) : Prop := ∃ D0 : Nat → Bool, (∀ p, p < P → D0 p = true → 0 < wn p) ∧ d = zsts D0 P ∧ (m = 0 → d = 0) ∧ (0 < m → zsgm wn D0 P = m + zcrr R pc P Q D0) ∧ (∀ c, c < k → zsgm wn (zDc wn c) P ≤ m + zcrr R pc P Q (zDc wn c)) ∧ (0 < m → ∀ c, c < k → zsgm wn (zDc wn c) P = m + zcrr R pc P Q (zDc wn c) → zbt20 D0 P ≤ zbt20 (zDc wn c) P)
theorem zRi_1 (R : Nat → Nat → Bool) (wn pc : Nat → Nat) (P Q : Nat) : zRi R wn pc P Q 1 0 0 := by
  refine ⟨fun _ => false, fun p _ h => (nomatch h), ?_, fun _ => rfl, fun h => absurd h (Nat.lt_irrefl 0), fun c hc => ?_, fun h => absurd h (Nat.lt_irrefl 0)⟩
  · symm
    apply Nat.eq_of_testBit_eq
    intro i
    rw [zsts_bit, Bool.and_false, Nat.zero_testBit]
  · have : c = 0 := by omega
    subst this
    rw [zsgm_none P (fun i _ => by show (zwq wn i && Nat.testBit 0 _) = false; rw [Nat.zero_testBit, Bool.and_false])]
    exact Nat.zero_le _
theorem zRi_no {R : Nat → Nat → Bool} {wn pc : Nat → Nat} {P Q k m d : Nat} (h : zRi R wn pc P Q k m d) (g : zsgm wn (zDc wn k) P ≤ m + zcrr R pc P Q (zDc wn k)) (g2 : 0 < m → zsgm wn (zDc wn k) P = m + zcrr R pc P Q (zDc wn k) → zcn (fun i => d.testBit i) 20 ≤ zbt20 (zDc wn k) P) : zRi R wn pc P Q (k + 1) m d := by
  obtain ⟨D0, a, b, c, e, f, i⟩ := h
  refine ⟨D0, a, b, c, e, fun c' hc => ?_, fun hm c' hc hh => ?_⟩
  · by_cases hk : c' = k
    · rw [hk]; exact g
    · exact f c' (by omega)
  · by_cases hk : c' = k
    · rw [hk] at hh ⊢
      have := g2 hm hh
      rw [b] at this
      exact this
    · exact i hm c' (by omega) hh
theorem zRi_up {R : Nat → Nat → Bool} {wn pc : Nat → Nat} {P Q k m d : Nat} (h : zRi R wn pc P Q k m d) (g : m + zcrr R pc P Q (zDc wn k) < zsgm wn (zDc wn k) P) : zRi R wn pc P Q (k + 1) (zsgm wn (zDc wn k) P - zcrr R pc P Q (zDc wn k)) (zsts (zDc wn k) P) := by
  obtain ⟨D0, a, b, c, e, f, i⟩ := h
  refine ⟨zDc wn k, fun p _ h => zDc_w h, rfl, fun h => by omega, fun _ => by omega, fun c' hc => ?_, fun _ c' hc hh => ?_⟩
  · by_cases hk : c' = k
    · rw [hk]; omega
    · have := f c' (by omega); omega
  · by_cases hk : c' = k
    · rw [hk]; exact Nat.le_refl _
    · have := f c' (by omega); omega
theorem zRi_eq {R : Nat → Nat → Bool} {wn pc : Nat → Nat} {P Q k m d : Nat} (h : zRi R wn pc P Q k m d) (hm : 0 < m) (g : zsgm wn (zDc wn k) P = m + zcrr R pc P Q (zDc wn k)) (g2 : zbt20 (zDc wn k) P ≤ zcn (fun i => d.testBit i) 20) : zRi R wn pc P Q (k + 1) m (zsts (zDc wn k) P) := by
  obtain ⟨D0, a, b, c, e, f, i⟩ := h
  rw [b] at g2
  have g2 : zbt20 (zDc wn k) P ≤ zbt20 D0 P := g2
  refine ⟨zDc wn k, fun p _ h => zDc_w h, rfl, fun h => by omega, fun _ => g, fun c' hc => ?_, fun _ c' hc hh => ?_⟩
  · by_cases hk : c' = k
    · rw [hk, g]; exact Nat.le_refl _
    · exact f c' (by omega)
  · by_cases hk : c' = k
    · rw [hk]; exact Nat.le_refl _
    · exact Nat.le_trans g2 (i hm c' (by omega) hh)
/-- both have found the same -/
theorem zcut2 {R : Nat → Nat → Bool} {wn pc : Nat → Nat} {P Q m1 d1 m2 d2 : Nat} (hP : P ≤ 20) (h1 : zCi R wn pc P Q (2 ^ Q) m1 d1) (h2 : zRi R wn pc P Q (2 ^ (zcn (zwq wn) P)) m2 d2) : m1 = m2 ∧ d1 = d2 := by
  obtain ⟨k0, a1, a2, a3, a4⟩ := h1
  obtain ⟨D0, b1, b2, b3, b4, b5, b6⟩ := h2
  have cd : ∀ D : Nat → Bool, (∀ p, p < P → D p = true → 0 < wn p) → ∃ c, c < 2 ^ (zcn (zwq wn) P) ∧ ∀ p, p < P → zDc wn c p = D p := fun D hD => by
    obtain ⟨c, c1, c2⟩ := zcodw wn D P
    refine ⟨c, c1, fun p hp => ?_⟩
    unfold zDc
    by_cases hw : 0 < wn p
    · rw [show zwq wn p = true from decide_eq_true hw, Bool.true_and, c2 p hp hw]
    · rw [show zwq wn p = false from decide_eq_false hw, Bool.false_and]
      cases hx : D p with
      | false => rfl
      | true => exact absurd (hD p hp hx) hw
  obtain ⟨e1, e2⟩ := zcut (R := R) (wn := wn) (pc := pc) (P := P) (Q := Q) hP b1 b4 (fun D hD => by
    obtain ⟨c, c1, c2⟩ := cd D hD
    have := b5 c c1
    rw [zsgm_cg P c2, zcrr_cg c2] at this
    exact this) (fun hm D hD hw => by
    obtain ⟨c, c1, c2⟩ := cd D hD
    have := b6 hm c c1 (by rw [zsgm_cg P c2, zcrr_cg c2]; exact hw)
    unfold zbt20 at this
    rw [zsts_cg P c2] at this
    exact this) (fun hm => (a1 hm).2) a3 a4
  refine ⟨e1, ?_⟩
  by_cases hm : 0 < m1
  · rw [a2, if_pos hm, e2 hm, b2]
  · rw [a2, if_neg hm, b3 (by omega)]
theorem zlp249a {st : zSt} {s : zQs} (hP : st.P ≤ 20) (x3 x4 x5 x6 : Value) : ∀ d p (I : Nat → Nat → Int32), p + d = st.P → I 58 0 = nI st.P → cWant st.wn (I 3) (I 93) → (∀ p', p' < p → 0 < st.wn p' → I 94 (zcn (zwq st.wn) p') = nI p') →
    ∃ J, zQ_249 (4, [.ref 58, .int (nI (zcn (zwq st.wn) p)), .int (nI p), x3, x4, x5, x6], [], zMk (s, I)) = zQ_249 (33, [.ref 58, .int (nI (zcn (zwq st.wn) st.P)), .int 1, x3, x4, x5, x6], [], zMk (s, zwA (zwA J 58 (upd (J 58) 55 0)) 58 (upd (upd (J 58) 55 0) 56 0))) ∧ (∀ k, k ≠ 94 → J k = I k) ∧ ∀ p', p' < st.P → 0 < st.wn p' → J 94 (zcn (zwq st.wn) p') = nI p'
  | 0, p, I, h, p2, hw, h94 => by
    have h : p = st.P := by omega
    subst h
    refine ⟨I, ?_, fun _ _ => rfl, h94⟩
    rw [zq_249_4, p2, if_pos (nI_le (Nat.le_refl _) (by omega))]
  | d + 1, p, I, h, p2, hw, h94 => by
    have hp : p < st.P := by omega
    obtain ⟨w1, -, w2⟩ := hw p (by omega)
    have z20 := zb_t (show p < 20 by omega) (show p < 2 ^ 31 by omega)
    have cp : (nI p).toNatClampNeg = p := nI_clamp (by omega)
    have hc := zcn_le (zwq st.wn) p
    by_cases c : 0 < st.wn p
    · have e1 : zcn (zwq st.wn) (p + 1) = zcn (zwq st.wn) p + 1 := by rw [zcn_s, if_pos (show zwq st.wn p = true from decide_eq_true c)]
      obtain ⟨J, e, a, b⟩ := zlp249a (s := s) hP x3 x4 x5 x6 d (p + 1) (zwA I 94 (upd (I 94) (zcn (zwq st.wn) p) (nI p))) (by omega) (by rw [zwA_n (by decide)]; exact p2) (by rw [zwA_n (by decide), zwA_n (by decide)]; exact hw) (fun p' hp' hw' => by
        rw [zwA_s, upd_at]
        by_cases e : p' = p
        · rw [e, if_pos rfl]
        · have := zcn_mon (f := zwq st.wn) (show p' + 1 ≤ p by omega)
          rw [zcn_s, if_pos (show zwq st.wn p' = true from decide_eq_true hw')] at this
          rw [if_neg (by omega)]
          exact h94 p' (by omega) hw')
      refine ⟨J, ?_, fun k hk => (a k hk).trans (zwA_n hk), b⟩
      rw [e1] at e
      rw [zq_249_4, p2, if_neg (nI_ge hp (by omega)), if_pos z20, cp, w2, if_pos (show ¬ nI (st.wn p) = 0 from nI_ne (b := 0) (by omega) (by omega) (by decide)), if_pos (zb_t (show zcn (zwq st.wn) p < 20 by omega) (by omega)), nI_clamp (show zcn (zwq st.wn) p < 2 ^ 31 by omega), nI_1, nI_1]
      exact e
    · have e1 : zcn (zwq st.wn) (p + 1) = zcn (zwq st.wn) p := by rw [zcn_s, if_neg (show ¬ zwq st.wn p = true from fun h => c (of_decide_eq_true h))]; rfl
      obtain ⟨J, e, a, b⟩ := zlp249a (s := s) hP x3 x4 x5 x6 d (p + 1) I (by omega) p2 hw (fun p' hp' hw' => h94 p' (by
        by_cases e : p' = p
        · subst e; exact absurd hw' c
        · omega) hw')
      refine ⟨J, ?_, a, b⟩
      rw [e1] at e
      rw [zq_249_4, p2, if_neg (nI_ge hp (by omega)), if_pos z20, cp, w2, if_neg (not_not_intro (by rw [show st.wn p = 0 by omega]; rfl)), nI_1]
      exact e
theorem zlp249i {st : zSt} {s : zQs} {I : Nat → Nat → Int32} {R : Nat → Nat → Bool} {k : Nat} (hP : st.P ≤ 20) (hQ : st.Q ≤ 8) (hw : cWant st.wn (I 3) (I 93)) (h94 : ∀ p', p' < st.P → 0 < st.wn p' → I 94 (zcn (zwq st.wn) p') = nI p') (h95 : ∀ p, p < 20 → I 95 p = nI (zsts (fun q => R q p) st.Q)) (hk : k < 2 ^ 20) : ∀ d p, p + d = st.P →
    zQ_249 (46, [.ref 58, .int (nI (zcn (zwq st.wn) st.P)), .int (nI k), .int (nI (zsgm st.wn (zDc st.wn k) p)), .int (nI (zsts (zwho R (zDc st.wn k) p) st.Q)), .int (nI (zsts (zDc st.wn k) p)), .int (nI (zcn (zwq st.wn) p))], [], zMk (s, I)) = (zcI (zf_248 [.ref 58, .int (nI (zsts (zwho R (zDc st.wn k) st.P) st.Q))] (zMk (s, I))) fun v M => zQ_249 (91, [.ref 58, .int (nI (zcn (zwq st.wn) st.P)), .int (nI k), .int (nI (zsgm st.wn (zDc st.wn k) st.P)), .int (nI (zsts (zwho R (zDc st.wn k) st.P) st.Q)), .int (nI (zsts (zDc st.wn k) st.P)), .int (nI (zcn (zwq st.wn) st.P))], [.int v, .int (nI (zsgm st.wn (zDc st.wn k) st.P))], M))
  | 0, p, h => by
    have h : p = st.P := by omega
    subst h
    have := zcn_le (zwq st.wn) st.P
    rw [zq_249_46, if_pos (nI_le (Nat.le_refl _) (by omega))]
  | d + 1, p, h => by
    have hp : p < st.P := by omega
    obtain ⟨w1, -, w2⟩ := hw p (by omega)
    have hc := zcn_le (zwq st.wn) st.P
    have hm := zcn_mon (f := zwq st.wn) (show p + 1 ≤ st.P by omega)
    have nx := zlp249i (s := s) hP hQ hw h94 h95 hk d (p + 1) (by omega)
    rw [zsgm_s, zsts_s (zDc st.wn k) p] at nx
    have hzw : zsts (zwho R (zDc st.wn k) (p + 1)) st.Q = zsts (zwho R (zDc st.wn k) p) st.Q ||| (if zDc st.wn k p = true then zsts (fun q => R q p) st.Q else 0) := by
      by_cases c : zDc st.wn k p = true
      · rw [if_pos c, zsts_or]
        exact zsts_cg _ (fun i _ => by rw [zwho_s, c, Bool.true_and])
      · rw [if_neg c, Nat.or_zero]
        have c : zDc st.wn k p = false := by cases hx : zDc st.wn k p with
          | false => rfl
          | true => exact absurd hx c
        exact zsts_cg _ (fun i _ => by rw [zwho_s, c, Bool.false_and, Bool.or_false])
    rw [hzw] at nx
    by_cases c : 0 < st.wn p
    · have e1 : zcn (zwq st.wn) (p + 1) = zcn (zwq st.wn) p + 1 := by rw [zcn_s, if_pos (show zwq st.wn p = true from decide_eq_true c)]
      have dv : zDc st.wn k p = k.testBit (zcn (zwq st.wn) p) := by unfold zDc; rw [show zwq st.wn p = true from decide_eq_true c, Bool.true_and]
      rw [e1] at nx hm
      have zj := zb_t (show zcn (zwq st.wn) p < 20 by omega) (show zcn (zwq st.wn) p < 2 ^ 31 by omega)
      have cj : (nI (zcn (zwq st.wn) p)).toNatClampNeg = zcn (zwq st.wn) p := nI_clamp (by omega)
      rw [zq_249_46, if_neg (nI_ge (show zcn (zwq st.wn) p < zcn (zwq st.wn) st.P by omega) (by omega)), bit_gen (show k < 2 ^ 31 by omega) (show zcn (zwq st.wn) p < 31 by omega), nI_1]
      by_cases b : k.testBit (zcn (zwq st.wn) p) = true
      · rw [dv, if_pos b, if_pos b, if_pos b] at nx
        have z20 := zb_t (show p < 20 by omega) (show p < 2 ^ 31 by omega)
        have cp : (nI p).toNatClampNeg = p := nI_clamp (by omega)
        have b1 := zsts_256 (zwho R (zDc st.wn k) p) hQ
        have b2 := zsts_256 (fun q => R q p) hQ
        have b3 : zsts (zDc st.wn k) p < 2 ^ 31 := Nat.lt_of_lt_of_le (zsts_lt _ p) (Nat.pow_le_pow_right (by decide) (by omega))
        rw [if_pos b, if_pos (show ¬ (1 : Int32) = 0 by decide), cj, h94 p hp c, cp, if_pos zj, if_pos z20, if_pos zj, if_pos z20, if_pos zj, w2, h95 p (by omega), nI_add, nI_lor (by omega) (by omega), bit_sh20 p (by omega), nI_lor b3 (Nat.pow_lt_pow_right (by decide) (by omega))]
        exact nx
      · rw [dv, if_neg b, if_neg b, if_neg b, Nat.add_zero, Nat.or_zero, Nat.or_zero] at nx
        rw [if_neg b, if_neg (not_not_intro rfl)]
        exact nx
    · have e1 : zcn (zwq st.wn) (p + 1) = zcn (zwq st.wn) p := by rw [zcn_s, if_neg (show ¬ zwq st.wn p = true from fun h => c (of_decide_eq_true h))]; rfl
      have dv : zDc st.wn k p = false := by unfold zDc; rw [show zwq st.wn p = false from decide_eq_false c, Bool.false_and]
      rw [dv, if_neg (show ¬ false = true by decide), if_neg (show ¬ false = true by decide), if_neg (show ¬ false = true by decide), Nat.add_zero, Nat.or_zero, Nat.or_zero, e1] at nx
      exact nx
theorem zlp248 {st : zSt} {s : zQs} {I : Nat → Nat → Int32} {k : Nat} (hf : cFolk st.P st.Q st.pf st.pt st.pc (I 20 10) (I 58 42) (I 21) (I 22) (I 23) (I 85) (I 86) (I 87)) (hk : k < 256) : ∀ d q, q + d = st.Q →
    zQ_248 (4, [.ref 58, .int (nI k), .int (nI (zsgm st.pc (fun i => k.testBit i) q)), .int (nI q)], [], zMk (s, I)) = some (.int (nI (zsgm st.pc (fun i => k.testBit i) st.Q)), zMk (s, I))
  | 0, q, h => by
    have h : q = st.Q := by omega
    subst h
    rw [zq_248_4, hf.2.2.1, if_pos (nI_le (Nat.le_refl _) (by have := hf.1; omega))]
  | d + 1, q, h => by
    have hq : q < st.Q := by omega
    have hQ := hf.1
    have nx := zlp248 (s := s) hf hk d (q + 1) (by omega)
    obtain ⟨-, -, -, -, -, -, -, -, f6⟩ := hf.2.2.2 q hq
    rw [zsgm_s] at nx
    rw [zq_248_4, hf.2.2.1, if_neg (nI_ge hq (by omega)), bit_gen (show k < 2 ^ 31 by omega) (show q < 31 by omega), nI_1]
    by_cases c : k.testBit q = true
    · rw [if_pos c] at nx
      rw [if_pos c, if_neg (not_not_intro rfl), if_pos (zb_t (show q < 8 by omega) (by omega)), nI_clamp (show q < 2 ^ 31 by omega), f6, nI_add]
      exact nx
    · rw [if_neg c] at nx
      rw [if_neg c, if_pos (show ¬ (0 : Int32) = 1 by decide), show nI (zsgm st.pc (fun i => k.testBit i) q) + 0 = nI (zsgm st.pc (fun i => k.testBit i) q + 0) from nI_add _ 0]
      exact nx
