/-! LEAST WAYS, IN PLAIN NUMBERS -/
def zcn (f : Nat → Bool) : Nat → Nat
  | 0 => 0
  | n + 1 => zcn f n + (if f n = true then 1 else 0)
theorem zcn_s (f : Nat → Bool) (n : Nat) : zcn f (n + 1) = zcn f n + (if f n = true then 1 else 0) := rfl
theorem zcn_le (f : Nat → Bool) : ∀ n, zcn f n ≤ n
  | 0 => Nat.le_refl _
  | n + 1 => by
    have := zcn_le f n
    rw [zcn_s]
    split <;> omega
theorem zcn_mono {f g : Nat → Bool} : ∀ n, (∀ j, j < n → f j = true → g j = true) → zcn f n ≤ zcn g n
  | 0, _ => Nat.le_refl _
  | n + 1, h => by
    have h1 := zcn_mono n (fun j hj => h j (by omega))
    have h2 := h n (by omega)
    rw [zcn_s, zcn_s]
    by_cases hf : f n = true
    · rw [if_pos hf, if_pos (h2 hf)]; omega
    · rw [if_neg hf]; exact Nat.le_trans h1 (Nat.le_add_right _ _)
theorem zcn_lt {f g : Nat → Bool} : ∀ n, (∀ j, j < n → f j = true → g j = true) → ∀ k, k < n → f k = false → g k = true → zcn f n + 1 ≤ zcn g n
  | 0, _, k, hk, _, _ => absurd hk (Nat.not_lt_zero k)
  | n + 1, h, k, hk, h1, h2 => by
    rw [zcn_s, zcn_s]
    by_cases hkn : k = n
    · subst hkn
      have := zcn_mono k (fun j hj => h j (by omega))
      rw [if_neg (by rw [h1]; decide), if_pos h2]; omega
    · have h3 := zcn_lt n (fun j hj => h j (by omega)) k (by omega) h1 h2
      have h4 := h n (by omega)
      by_cases hf : f n = true
      · rw [if_pos hf, if_pos (h4 hf)]; omega
      · rw [if_neg hf]; exact Nat.le_trans h3 (Nat.le_add_right _ _)
def zfw (w : Nat → Nat → Nat) : Nat → Nat → Nat → Nat
  | 0, a, b => if a = b then 0 else w a b
  | k + 1, a, b => min (zfw w k a b) (zfw w k a k + zfw w k k b)
theorem zfw_s (w : Nat → Nat → Nat) (k a b : Nat) : zfw w (k + 1) a b = min (zfw w k a b) (zfw w k a k + zfw w k k b) := rfl
theorem zfw_aa (w : Nat → Nat → Nat) (a : Nat) : ∀ k, zfw w k a a = 0
  | 0 => if_pos rfl
  | k + 1 => by rw [zfw_s, zfw_aa w a k]; exact Nat.zero_min _
theorem zfw_tri (w : Nat → Nat → Nat) : ∀ k a b c, b < k → zfw w k a c ≤ zfw w k a b + zfw w k b c
  | 0, _, b, _, h => absurd h (Nat.not_lt_zero b)
  | k + 1, a, b, c, h => by
    have kk := zfw_aa w k k
    rw [zfw_s, zfw_s, zfw_s]
    by_cases e : b = k
    · subst e; rw [kk]; omega
    · have hb : b < k := by omega
      have h1 := zfw_tri w k a b c hb
      have h2 := zfw_tri w k k b c hb
      have h3 := zfw_tri w k a b k hb
      omega
theorem zfw_mono (w : Nat → Nat → Nat) (a b : Nat) : ∀ d k, zfw w (k + d) a b ≤ zfw w k a b
  | 0, k => Nat.le_refl _
  | d + 1, k => Nat.le_trans (show zfw w (k + d + 1) a b ≤ zfw w (k + d) a b by rw [zfw_s]; exact Nat.min_le_left _ _) (zfw_mono w a b d k)
theorem zfw_le {w : Nat → Nat → Nat} {a b : Nat} (P : Nat) (h : a ≠ b) : zfw w P a b ≤ w a b := by
  have h1 := zfw_mono w a b P 0
  rw [Nat.zero_add] at h1
  have h2 : zfw w 0 a b = w a b := if_neg h
  omega
theorem zfw_first (w : Nat → Nat → Nat) (P : Nat) : ∀ k, k ≤ P → ∀ a b, a ≠ b → b < P → ∃ p, p < P ∧ p ≠ a ∧ w a p + zfw w P p b ≤ zfw w k a b
  | 0, _, a, b, hab, hb => by
    refine ⟨b, hb, Ne.symm hab, ?_⟩
    have h2 : zfw w 0 a b = w a b := if_neg hab
    rw [zfw_aa, h2]
    exact Nat.le_refl _
  | k + 1, hk, a, b, hab, hb => by
    by_cases h : zfw w k a b ≤ zfw w k a k + zfw w k k b
    · obtain ⟨p, h1, h2, h3⟩ := zfw_first w P k (by omega) a b hab hb
      exact ⟨p, h1, h2, by rw [zfw_s]; omega⟩
    · have hak : a ≠ k := by
        intro e
        subst e
        apply h
        omega
      obtain ⟨p, h1, h2, h3⟩ := zfw_first w P k (by omega) a k hak (by omega)
      have h4 := zfw_tri w P p k b (by omega)
      have h5 := zfw_mono w k b (P - k) k
      rw [show k + (P - k) = P by omega] at h5
      exact ⟨p, h1, h2, by rw [zfw_s]; omega⟩
theorem zfw_step (w : Nat → Nat → Nat) (P a b : Nat) (hab : a ≠ b) (hb : b < P) : ∃ p, p < P ∧ p ≠ a ∧ zfw w P a b = w a p + zfw w P p b := by
  obtain ⟨p, h1, h2, h3⟩ := zfw_first w P P (Nat.le_refl _) a b hab hb
  have h4 := zfw_tri w P a p b h1
  have h5 := zfw_le (w := w) P (Ne.symm h2)
  exact ⟨p, h1, h2, by omega⟩
/-- a price by the sort of key; far where there is none -/
def zwt (m far : Nat) (c : Nat → Nat → Option Nat) (a b : Nat) : Nat := match c a b with
  | some x => m * x + 1
  | none => far
theorem zwt_s {m far : Nat} {c : Nat → Nat → Option Nat} {a b x : Nat} (h : c a b = some x) : zwt m far c a b = m * x + 1 := by unfold zwt; rw [h]
theorem zwt_n {m far : Nat} {c : Nat → Nat → Option Nat} {a b : Nat} (h : c a b = none) : zwt m far c a b = far := by unfold zwt; rw [h]
theorem zfw_pair {m far m' far' P : Nat} {c : Nat → Nat → Option Nat} (hc : ∀ a b x, c a b = some x → x ≤ 9999) {b : Nat} (hb : b < P) (n : Nat) : ∀ a, a < P → zfw (zwt m far c) P a b ≤ n → zfw (zwt m far c) P a b < far →
    ∃ C S, zfw (zwt m far c) P a b = m * C + S ∧ S ≤ zcn (fun v => decide (zfw (zwt m far c) P v b < zfw (zwt m far c) P a b)) P ∧ C ≤ 9999 * S ∧ zfw (zwt m' far' c) P a b ≤ m' * C + S := by
  induction n with
  | zero =>
    intro a ha hn hf
    by_cases hab : a = b
    · subst hab
      exact ⟨0, 0, by rw [zfw_aa, Nat.mul_zero], Nat.zero_le _, Nat.zero_le _, by rw [zfw_aa]; exact Nat.zero_le _⟩
    · obtain ⟨p, h1, h2, h3⟩ := zfw_step (zwt m far c) P a b hab hb
      cases hx : c a p with
      | none => rw [h3, zwt_n hx] at hf; omega
      | some x => rw [h3, zwt_s hx] at hn; omega
  | succ n ih =>
    intro a ha hn hf
    by_cases hab : a = b
    · subst hab
      exact ⟨0, 0, by rw [zfw_aa, Nat.mul_zero], Nat.zero_le _, Nat.zero_le _, by rw [zfw_aa]; exact Nat.zero_le _⟩
    · obtain ⟨p, h1, h2, h3⟩ := zfw_step (zwt m far c) P a b hab hb
      cases hx : c a p with
      | none => rw [h3, zwt_n hx] at hf; omega
      | some x =>
        have e := zwt_s (m := m) (far := far) hx
        have e' := zwt_s (m := m') (far := far') hx
        rw [e] at h3
        obtain ⟨C, S, k1, k2, k3, k4⟩ := ih p h1 (by omega) (by omega)
        refine ⟨x + C, S + 1, ?_, ?_, ?_, ?_⟩
        · rw [h3, k1, Nat.mul_add]; omega
        · have := zcn_lt P (f := fun v => decide (zfw (zwt m far c) P v b < zfw (zwt m far c) P p b)) (g := fun v => decide (zfw (zwt m far c) P v b < zfw (zwt m far c) P a b)) (fun j _ hj => decide_eq_true (by have := of_decide_eq_true hj; omega)) p h1 (decide_eq_false (Nat.lt_irrefl _)) (decide_eq_true (by omega))
          omega
        · have := hc a p x hx
          omega
        · have t := zfw_tri (zwt m' far' c) P a p b h1
          have t2 := zfw_le (w := zwt m' far' c) P (Ne.symm h2)
          rw [e'] at t2
          rw [Nat.mul_add]
          omega
theorem zfw_half {m far m' far' P : Nat} {c : Nat → Nat → Option Nat} (hc : ∀ a b x, c a b = some x → x ≤ 9999) (hP : P ≤ 20) {a b : Nat} (ha : a < P) (hb : b < P) (h : zfw (zwt m far c) P a b < far) :
    ∃ C S, S ≤ 19 ∧ C ≤ 9999 * S ∧ zfw (zwt m far c) P a b = m * C + S ∧ zfw (zwt m' far' c) P a b ≤ m' * C + S := by
  obtain ⟨C, S, k1, k2, k3, k4⟩ := zfw_pair (m' := m') (far' := far') hc hb _ a ha (Nat.le_refl _) h
  have h1 := zcn_lt P (f := fun v => decide (zfw (zwt m far c) P v b < zfw (zwt m far c) P a b)) (g := fun _ => true) (fun _ _ _ => rfl) a ha (decide_eq_false (Nat.lt_irrefl _)) rfl
  have h2 := zcn_le (fun _ => true) P
  exact ⟨C, S, by omega, k3, k1, k4⟩
theorem zfw_conv {m far m' far' P : Nat} {c : Nat → Nat → Option Nat} (hc : ∀ a b x, c a b = some x → x ≤ 9999) (hP : P ≤ 20) (hm : 20 ≤ m) (hm' : 20 ≤ m') (hf' : m' * 200000 ≤ far') {a b : Nat} (ha : a < P) (hb : b < P) (h : zfw (zwt m far c) P a b < far) :
    ∃ C S, S ≤ 19 ∧ C ≤ 9999 * S ∧ zfw (zwt m far c) P a b = m * C + S ∧ zfw (zwt m' far' c) P a b = m' * C + S := by
  obtain ⟨C, S, h1, h2, h3, h4⟩ := zfw_half (m' := m') (far' := far') hc hP ha hb h
  have b1 : m' * C ≤ m' * 189981 := Nat.mul_le_mul_left _ (by omega)
  obtain ⟨C', S', g1, g2, g3, g4⟩ := zfw_half (m' := m) (far' := far) hc hP ha hb (show zfw (zwt m' far' c) P a b < far' by omega)
  have e : C = C' := by
    rcases Nat.lt_trichotomy C C' with l | l | l
    · have : m' * (C + 1) ≤ m' * C' := Nat.mul_le_mul_left _ l
      rw [Nat.mul_add] at this
      omega
    · exact l
    · have : m * (C' + 1) ≤ m * C := Nat.mul_le_mul_left _ l
      rw [Nat.mul_add] at this
      omega
  subst e
  exact ⟨C, S, h1, h2, h3, by omega⟩
/-- the class's keys, the reference's keys -/
abbrev zk32 (c : Nat → Nat → Option Nat) (P : Nat) : Nat → Nat → Nat := zfw (zwt 32 100000000 c) P
abbrev zk64 (c : Nat → Nat → Option Nat) (P : Nat) : Nat → Nat → Nat := zfw (zwt 64 1000000000 c) P
theorem zk_to {P : Nat} {c : Nat → Nat → Option Nat} (hc : ∀ a b x, c a b = some x → x ≤ 9999) (hP : P ≤ 20) {a b : Nat} (ha : a < P) (hb : b < P) (h : zk32 c P a b < 100000000) :
    ∃ C S, S ≤ 19 ∧ C ≤ 9999 * S ∧ zk32 c P a b = 32 * C + S ∧ zk64 c P a b = 64 * C + S := zfw_conv hc hP (by decide) (by decide) (by decide) ha hb h
theorem zk_of {P : Nat} {c : Nat → Nat → Option Nat} (hc : ∀ a b x, c a b = some x → x ≤ 9999) (hP : P ≤ 20) {a b : Nat} (ha : a < P) (hb : b < P) (h : zk64 c P a b < 1000000000) :
    ∃ C S, S ≤ 19 ∧ C ≤ 9999 * S ∧ zk64 c P a b = 64 * C + S ∧ zk32 c P a b = 32 * C + S := zfw_conv hc hP (by decide) (by decide) (by decide) ha hb h
/-- what a way costs, and its stairs -/
def zway (c : Nat → Nat → Option Nat) (P a b : Nat) : Option (Nat × Nat) := if zk64 c P a b < 1000000000 then some (zk64 c P a b / 64, zk64 c P a b % 64) else none
theorem zway_s {P : Nat} {c : Nat → Nat → Option Nat} (hc : ∀ a b x, c a b = some x → x ≤ 9999) (hP : P ≤ 20) {a b C S : Nat} (ha : a < P) (hb : b < P) (h : zway c P a b = some (C, S)) :
    S ≤ 19 ∧ C ≤ 9999 * S ∧ zk64 c P a b = 64 * C + S ∧ zk32 c P a b = 32 * C + S := by
  unfold zway at h
  split at h
  · rename_i hk
    obtain ⟨C', S', h1, h2, h3, h4⟩ := zk_of hc hP ha hb hk
    rw [h3] at h
    have h := Option.some.inj h
    have e1 : C = C' := by rw [← (Prod.mk.inj h).1]; omega
    have e2 : S = S' := by rw [← (Prod.mk.inj h).2]; omega
    subst e1; subst e2
    exact ⟨h1, h2, h3, h4⟩
  · cases h
theorem zway_n {P : Nat} {c : Nat → Nat → Option Nat} (hc : ∀ a b x, c a b = some x → x ≤ 9999) (hP : P ≤ 20) {a b : Nat} (ha : a < P) (hb : b < P) (h : zway c P a b = none) :
    1000000000 ≤ zk64 c P a b ∧ 100000000 ≤ zk32 c P a b := by
  unfold zway at h
  split at h
  · cases h
  · rename_i hk
    refine ⟨by omega, ?_⟩
    apply Nat.le_of_not_lt
    intro q
    obtain ⟨C, S, h1, h2, h3, h4⟩ := zk_to hc hP ha hb q
    omega
theorem zk64_0 {P : Nat} {c : Nat → Nat → Option Nat} {a b : Nat} (hb : b < P) (h : zk64 c P a b = 0) : a = b := by
  apply Classical.byContradiction
  intro hab
  have h : zfw (zwt 64 1000000000 c) P a b = 0 := h
  obtain ⟨p, h1, h2, h3⟩ := zfw_step (zwt 64 1000000000 c) P a b hab hb
  cases hx : c a p with
  | none => rw [zwt_n hx] at h3; omega
  | some x => rw [zwt_s hx] at h3; omega
theorem znext {P : Nat} {c : Nat → Nat → Option Nat} (hc : ∀ a b x, c a b = some x → x ≤ 9999) (hP : P ≤ 20) {a b p : Nat} (ha : a < P) (hb : b < P) (hp : p < P) (h : zk64 c P a b < 1000000000) :
    (zk32 c P a p % 32 = 1 ∧ zk32 c P a p + zk32 c P p b = zk32 c P a b) ↔ (p ≠ a ∧ zwt 64 1000000000 c a p + zk64 c P p b = zk64 c P a b) := by
  obtain ⟨C, S, h1, h2, h3, h4⟩ := zk_of hc hP ha hb h
  constructor
  · rintro ⟨q1, q2⟩
    obtain ⟨C1, S1, a1, a2, a3, a4⟩ := zk_to hc hP ha hp (by omega)
    obtain ⟨C2, S2, b1, b2, b3, b4⟩ := zk_to hc hP hp hb (by omega)
    have hpa : p ≠ a := by
      intro e
      subst e
      have : zk32 c P p p = 0 := zfw_aa _ _ _
      omega
    refine ⟨hpa, ?_⟩
    have hw : zwt 64 1000000000 c a p = zk64 c P a p := by
      obtain ⟨q, k1, k2, k3⟩ := zfw_step (zwt 64 1000000000 c) P a p (Ne.symm hpa) hp
      have k3 : zk64 c P a p = zwt 64 1000000000 c a q + zk64 c P q p := k3
      obtain ⟨C3, S3, c1, c2, c3, c4⟩ := zk_of hc hP k1 hp (by omega)
      cases hx : c a q with
      | none => rw [zwt_n hx] at k3; omega
      | some x =>
        rw [zwt_s hx] at k3
        have hqp := zk64_0 (c := c) hp (show zk64 c P q p = 0 by omega)
        subst hqp
        rw [zwt_s hx]
        omega
    omega
  · rintro ⟨q1, q2⟩
    have t1 : zk64 c P a p ≤ zwt 64 1000000000 c a p := zfw_le P (Ne.symm q1)
    have t2 : zk64 c P a b ≤ zk64 c P a p + zk64 c P p b := zfw_tri _ P a p b hp
    cases hx : c a p with
    | none => rw [zwt_n hx] at q2; omega
    | some x =>
      rw [zwt_s hx] at q2 t1
      obtain ⟨C1, S1, a1, a2, a3, a4⟩ := zk_of hc hP ha hp (by omega)
      obtain ⟨C2, S2, b1, b2, b3, b4⟩ := zk_of hc hP hp hb (by omega)
      omega
theorem znext_ex {P : Nat} {c : Nat → Nat → Option Nat} {a b : Nat} (hab : a ≠ b) (hb : b < P) : ∃ p, p < P ∧ p ≠ a ∧ zwt 64 1000000000 c a p + zk64 c P p b = zk64 c P a b := by
  obtain ⟨p, h1, h2, h3⟩ := zfw_step (zwt 64 1000000000 c) P a b hab hb
  exact ⟨p, h1, h2, h3.symm⟩
