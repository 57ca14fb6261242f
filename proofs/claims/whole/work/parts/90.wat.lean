/-! WATER: SETS AND THEIR SUMS; THE CUT -/
def zsts (S : Nat → Bool) : Nat → Nat
  | 0 => 0
  | n + 1 => zsts S n ||| (if S n = true then 2 ^ n else 0)
theorem zsts_s (S : Nat → Bool) (n : Nat) : zsts S (n + 1) = zsts S n ||| (if S n = true then 2 ^ n else 0) := rfl
theorem zsts_lt (S : Nat → Bool) : ∀ n, zsts S n < 2 ^ n
  | 0 => Nat.one_pos
  | n + 1 => by
    have h := zsts_lt S n
    have e : 2 ^ n < 2 ^ (n + 1) := Nat.pow_lt_pow_right (by decide) (Nat.lt_succ_self n)
    rw [zsts_s]
    apply Nat.or_lt_two_pow (by omega)
    split
    · exact e
    · omega
theorem zsts_bit (S : Nat → Bool) : ∀ n i, (zsts S n).testBit i = (decide (i < n) && S i)
  | 0, i => by
    show (0 : Nat).testBit i = _
    rw [Nat.zero_testBit]
    simp
  | n + 1, i => by
    rw [zsts_s, Nat.testBit_or, zsts_bit S n i]
    by_cases hi : i = n
    · subst hi
      cases hS : S i with
      | true => simp [Nat.testBit_two_pow]
      | false => simp
    · have e : (if S n = true then 2 ^ n else 0).testBit i = false := by
        split
        · rw [Nat.testBit_two_pow]
          exact decide_eq_false (fun q => hi q.symm)
        · exact Nat.zero_testBit i
      rw [e, Bool.or_false]
      by_cases h2 : i < n
      · simp [h2, show i < n + 1 by omega]
      · simp [h2, show ¬ i < n + 1 by omega]
theorem zsts_t {S : Nat → Bool} {n i : Nat} (h : i < n) : (zsts S n).testBit i = S i := by rw [zsts_bit, decide_eq_true h, Bool.true_and]
theorem zsts_cg {S T : Nat → Bool} : ∀ n, (∀ i, i < n → S i = T i) → zsts S n = zsts T n
  | 0, _ => rfl
  | n + 1, h => by rw [zsts_s, zsts_s, zsts_cg n (fun i hi => h i (by omega)), h n (by omega)]
def zsgm (f : Nat → Nat) (S : Nat → Bool) : Nat → Nat
  | 0 => 0
  | n + 1 => zsgm f S n + (if S n = true then f n else 0)
theorem zsgm_s (f : Nat → Nat) (S : Nat → Bool) (n : Nat) : zsgm f S (n + 1) = zsgm f S n + (if S n = true then f n else 0) := rfl
theorem zsgm_cg {f : Nat → Nat} {S T : Nat → Bool} : ∀ n, (∀ i, i < n → S i = T i) → zsgm f S n = zsgm f T n
  | 0, _ => rfl
  | n + 1, h => by rw [zsgm_s, zsgm_s, zsgm_cg n (fun i hi => h i (by omega)), h n (by omega)]
theorem zsgm_le {f : Nat → Nat} {S T : Nat → Bool} : ∀ n, (∀ i, i < n → S i = true → T i = true) → zsgm f S n ≤ zsgm f T n
  | 0, _ => Nat.le_refl _
  | n + 1, h => by
    have a := zsgm_le (f := f) (S := S) (T := T) n (fun i hi => h i (by omega))
    have b := h n (by omega)
    rw [zsgm_s, zsgm_s]
    by_cases c : S n = true
    · rw [if_pos c, if_pos (b c)]
      omega
    · rw [if_neg c]
      omega
theorem zsgm_cap {f : Nat → Nat} {S : Nat → Bool} {m : Nat} : ∀ n, (∀ i, i < n → f i ≤ m) → zsgm f S n ≤ m * n
  | 0, _ => Nat.zero_le _
  | n + 1, h => by
    have a := zsgm_cap (S := S) n (fun i hi => h i (by omega))
    have b := h n (by omega)
    have e : m * (n + 1) = m * n + m := rfl
    rw [zsgm_s]
    split <;> omega
theorem zsgm_sub {f : Nat → Nat} {S T : Nat → Bool} : ∀ n, (∀ i, i < n → S i = true → T i = true) → (∀ i, i < n → T i = true → 0 < f i) → zsgm f T n ≤ zsgm f S n → ∀ i, i < n → T i = S i
  | 0, _, _, _, i, hi => absurd hi (Nat.not_lt_zero i)
  | n + 1, h, hp, hs, i, hi => by
    have a := zsgm_le (f := f) (S := S) (T := T) n (fun i hi => h i (by omega))
    rw [zsgm_s, zsgm_s] at hs
    have b := h n (by omega)
    have c := hp n (by omega)
    have hn : T n = S n ∧ zsgm f T n ≤ zsgm f S n := by
      cases hS : S n with
      | true =>
        rw [hS, b hS, if_pos rfl] at hs
        exact ⟨b hS, by omega⟩
      | false =>
        cases hT : T n with
        | true =>
          rw [hS, hT, if_pos rfl, if_neg (show ¬ false = true by decide)] at hs
          have := c hT
          omega
        | false =>
          rw [hS, hT] at hs
          exact ⟨rfl, by omega⟩
    by_cases hin : i = n
    · rw [hin]; exact hn.1
    · exact zsgm_sub n (fun i hi => h i (by omega)) (fun i hi => hp i (by omega)) hn.2 i (by omega)
theorem zsgm_mod (f : Nat → Nat) (S T : Nat → Bool) : ∀ n, zsgm f (fun i => S i && T i) n + zsgm f (fun i => S i || T i) n = zsgm f S n + zsgm f T n
  | 0 => rfl
  | n + 1 => by
    have h := zsgm_mod f S T n
    rw [zsgm_s, zsgm_s, zsgm_s, zsgm_s]
    cases S n <;> cases T n <;> simp <;> omega
/-- who brings to any of these places -/
def zwho (R : Nat → Nat → Bool) (D : Nat → Bool) : Nat → Nat → Bool
  | 0, _ => false
  | n + 1, q => zwho R D n q || (D n && R q n)
theorem zwho_s (R : Nat → Nat → Bool) (D : Nat → Bool) (n q : Nat) : zwho R D (n + 1) q = (zwho R D n q || (D n && R q n)) := rfl
theorem zwho_iff {R : Nat → Nat → Bool} {D : Nat → Bool} {q : Nat} : ∀ n, zwho R D n q = true ↔ ∃ p, p < n ∧ D p = true ∧ R q p = true
  | 0 => ⟨fun h => (nomatch h), fun ⟨p, h, _⟩ => absurd h (Nat.not_lt_zero p)⟩
  | n + 1 => by
    rw [zwho_s, Bool.or_eq_true, zwho_iff n, Bool.and_eq_true]
    constructor
    · rintro (⟨p, a, b⟩ | h)
      · exact ⟨p, by omega, b⟩
      · exact ⟨n, by omega, h⟩
    · rintro ⟨p, a, b⟩
      by_cases hp : p = n
      · subst hp; exact Or.inr b
      · exact Or.inl ⟨p, by omega, b⟩
/-- what these people leave to the others: places that want and have no other bringer -/
def zDk (R : Nat → Nat → Bool) (wn : Nat → Nat) (Q k p : Nat) : Bool := decide (0 < wn p) && decide (zsts (fun q => R q p) Q &&& k = zsts (fun q => R q p) Q)
theorem zDk_iff {R : Nat → Nat → Bool} {wn : Nat → Nat} {Q k p : Nat} : zDk R wn Q k p = true ↔ 0 < wn p ∧ ∀ q, q < Q → R q p = true → k.testBit q = true := by
  unfold zDk
  rw [Bool.and_eq_true, decide_eq_true_iff, decide_eq_true_iff]
  refine and_congr_right fun _ => ⟨fun h q hq hr => ?_, fun h => ?_⟩
  · have e := congrArg (fun x => x.testBit q) h
    have e : (zsts (fun q => R q p) Q &&& k).testBit q = (zsts (fun q => R q p) Q).testBit q := e
    rw [Nat.testBit_and, zsts_t hq, hr, Bool.true_and] at e
    exact e
  · apply Nat.eq_of_testBit_eq
    intro i
    rw [Nat.testBit_and, zsts_bit]
    by_cases hi : i < Q
    · cases hr : R i p with
      | true => rw [h i hi hr, Bool.and_true]
      | false => rw [Bool.and_false, Bool.false_and]
    · rw [decide_eq_false hi, Bool.false_and, Bool.false_and]
theorem zbits_le {a b n : Nat} (ha : a < 2 ^ n) (h : ∀ i, i < n → a.testBit i = true → b.testBit i = true) : a ≤ b := by
  have e : a &&& b = a := by
    apply Nat.eq_of_testBit_eq
    intro i
    rw [Nat.testBit_and]
    by_cases hi : i < n
    · cases hb : a.testBit i with
      | true => rw [h i hi hb]; rfl
      | false => rfl
    · rw [Nat.testBit_lt_two_pow (Nat.lt_of_lt_of_le ha (Nat.pow_le_pow_right (by decide) (by omega)))]
      rfl
  rw [← e]
  exact Nat.and_le_right
def zcrr (R : Nat → Nat → Bool) (pc : Nat → Nat) (P Q : Nat) (D : Nat → Bool) : Nat := zsgm pc (zwho R D P) Q
/-- the cut: both ways of looking find the same -/
theorem zcut {R : Nat → Nat → Bool} {wn pc : Nat → Nat} {P Q : Nat} (hP : P ≤ 20)
    {m2 : Nat} {D2 : Nat → Bool} (hD2 : ∀ p, p < P → D2 p = true → 0 < wn p) (h2 : 0 < m2 → zsgm wn D2 P = m2 + zcrr R pc P Q D2)
    (hmax : ∀ D : Nat → Bool, (∀ p, p < P → D p = true → 0 < wn p) → zsgm wn D P ≤ m2 + zcrr R pc P Q D)
    (hmin : 0 < m2 → ∀ D : Nat → Bool, (∀ p, p < P → D p = true → 0 < wn p) → zsgm wn D P = m2 + zcrr R pc P Q D → zcn (fun i => (zsts D2 P).testBit i) 20 ≤ zcn (fun i => (zsts D P).testBit i) 20)
    {m1 k0 : Nat} (h1 : 0 < m1 → zsgm wn (zDk R wn Q k0) P = m1 + zsgm pc (fun i => k0.testBit i) Q)
    (kmax : ∀ k, k < 2 ^ Q → zsgm wn (zDk R wn Q k) P ≤ m1 + zsgm pc (fun i => k.testBit i) Q)
    (kfst : 0 < m1 → ∀ k, k < k0 → zsgm wn (zDk R wn Q k) P < m1 + zsgm pc (fun i => k.testBit i) Q) :
    m1 = m2 ∧ (0 < m1 → zsts (zDk R wn Q k0) P = zsts D2 P) := by
  have hW : ∀ k p, p < P → zDk R wn Q k p = true → 0 < wn p := fun k p _ h => (zDk_iff.mp h).1
  have inK : ∀ k q, q < Q → zwho R (zDk R wn Q k) P q = true → k.testBit q = true := fun k q hq h => by
    obtain ⟨p, -, a, b⟩ := (zwho_iff P).mp h
    exact (zDk_iff.mp a).2 q hq b
  have cK : ∀ k, zcrr R pc P Q (zDk R wn Q k) ≤ zsgm pc (fun i => k.testBit i) Q := fun k => zsgm_le Q (fun q hq h => inK k q hq h)
  -- the people of a set
  have wk : ∀ D : Nat → Bool, ∀ q, q < Q → (zsts (zwho R D P) Q).testBit q = zwho R D P q := fun D q hq => zsts_t hq
  have cW : ∀ D : Nat → Bool, zsgm pc (fun i => (zsts (zwho R D P) Q).testBit i) Q = zcrr R pc P Q D := fun D => zsgm_cg Q (fun q hq => wk D q hq)
  have sub : ∀ D : Nat → Bool, (∀ p, p < P → D p = true → 0 < wn p) → ∀ p, p < P → D p = true → zDk R wn Q (zsts (zwho R D P) Q) p = true := fun D hD p hp h => zDk_iff.mpr ⟨hD p hp h, fun q hq hr => by
    rw [wk D q hq]
    exact (zwho_iff P).mpr ⟨p, hp, h, hr⟩⟩
  have kw : ∀ D : Nat → Bool, zsts (zwho R D P) Q < 2 ^ Q := fun D => zsts_lt _ Q
  have le21 : m2 ≤ m1 := by
    by_cases hz : 0 < m2
    · have a := h2 hz
      have b := kmax _ (kw D2)
      have c := zsgm_le (f := wn) P (sub D2 hD2)
      rw [cW] at b
      omega
    · omega
  have le12 : m1 ≤ m2 := by
    by_cases hz : 0 < m1
    · have a := h1 hz
      have b := hmax _ (hW k0)
      have c := cK k0
      omega
    · omega
  refine ⟨by omega, fun hz => ?_⟩
  have e : m1 = m2 := by omega
  subst e
  have a1 := h1 hz
  have a2 := h2 hz
  -- the class's set is one of the worst
  have w0 : zsgm wn (zDk R wn Q k0) P = m1 + zcrr R pc P Q (zDk R wn Q k0) := by
    have := hmax _ (hW k0)
    have := cK k0
    omega
  -- the reference's set lies in every worst one
  have inn : ∀ D : Nat → Bool, (∀ p, p < P → D p = true → 0 < wn p) → zsgm wn D P = m1 + zcrr R pc P Q D → ∀ p, p < P → D2 p = true → D p = true := by
    intro D hD hw p hp hp2
    have hA : ∀ p, p < P → (D2 p && D p) = true → 0 < wn p := fun p hp h => hD2 p hp (by rw [Bool.and_eq_true] at h; exact h.1)
    have hO : ∀ p, p < P → (D2 p || D p) = true → 0 < wn p := fun p hp h => by
      rw [Bool.or_eq_true] at h
      rcases h with h | h
      · exact hD2 p hp h
      · exact hD p hp h
    have mA := hmax _ hA
    have mO := hmax _ hO
    have s1 := zsgm_mod wn D2 D P
    have s2 := zsgm_mod pc (zwho R D2 P) (zwho R D P) Q
    have c1 : zcrr R pc P Q (fun p => D2 p && D p) ≤ zsgm pc (fun q => zwho R D2 P q && zwho R D P q) Q := zsgm_le Q (fun q _ h => by
      obtain ⟨p, b1, b2, b3⟩ := (zwho_iff P).mp h
      have b2 : (D2 p && D p) = true := b2
      rw [Bool.and_eq_true] at b2
      show (zwho R D2 P q && zwho R D P q) = true
      rw [(zwho_iff P).mpr ⟨p, b1, b2.1, b3⟩, (zwho_iff P).mpr ⟨p, b1, b2.2, b3⟩]
      rfl)
    have c2 : zcrr R pc P Q (fun p => D2 p || D p) ≤ zsgm pc (fun q => zwho R D2 P q || zwho R D P q) Q := zsgm_le Q (fun q _ h => by
      obtain ⟨p, b1, b2, b3⟩ := (zwho_iff P).mp h
      have b2 : (D2 p || D p) = true := b2
      rw [Bool.or_eq_true] at b2
      show (zwho R D2 P q || zwho R D P q) = true
      rcases b2 with b2 | b2
      · rw [(zwho_iff P).mpr ⟨p, b1, b2, b3⟩]; rfl
      · rw [(zwho_iff P).mpr ⟨p, b1, b2, b3⟩, Bool.or_true])
    have d2 : zcrr R pc P Q D2 = zsgm pc (zwho R D2 P) Q := rfl
    have dD : zcrr R pc P Q D = zsgm pc (zwho R D P) Q := rfl
    have eA : zsgm wn (fun p => D2 p && D p) P = m1 + zcrr R pc P Q (fun p => D2 p && D p) := by omega
    have hm := hmin hz _ hA eA
    refine Classical.byContradiction fun hn => ?_
    have hf : D p = false := by cases hx : D p with
      | false => rfl
      | true => exact absurd hx hn
    have hl := zcn_lt (f := fun i => (zsts (fun p => D2 p && D p) P).testBit i) (g := fun i => (zsts D2 P).testBit i) 20 (fun j _ h => by
      have h : (zsts (fun p => D2 p && D p) P).testBit j = true := h
      show (zsts D2 P).testBit j = true
      rw [zsts_bit, Bool.and_eq_true, Bool.and_eq_true] at h
      rw [zsts_bit, h.1, h.2.1]
      rfl) p (by omega) (by show (zsts (fun p => D2 p && D p) P).testBit p = false; rw [zsts_t hp, hf, Bool.and_false]) (by show (zsts D2 P).testBit p = true; rw [zsts_t hp, hp2])
    omega
  have in0 := inn _ (hW k0) w0
  -- its people come first
  have hk : zsts (zwho R D2 P) Q ≤ k0 := zbits_le (kw D2) (fun q hq h => by
    rw [wk D2 q hq] at h
    obtain ⟨p, b1, b2, b3⟩ := (zwho_iff P).mp h
    exact (zDk_iff.mp (in0 p b1 b2)).2 q hq b3)
  have e0 : k0 = zsts (zwho R D2 P) Q := by
    by_cases hl : zsts (zwho R D2 P) Q < k0
    · have a := kfst hz _ hl
      have c := zsgm_le (f := wn) P (sub D2 hD2)
      rw [cW] at a
      omega
    · omega
  have fin := zsgm_sub P (sub D2 hD2) (hW _) (by
    rw [e0, cW] at a1
    omega)
  rw [e0]
  exact zsts_cg P fin
