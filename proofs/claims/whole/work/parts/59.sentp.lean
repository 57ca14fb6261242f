/-! WHO BRINGS WHAT: PLAIN NUMBERS -/
def iI (n : Int) : Int32 := Int32.ofInt n
theorem iI_add (a b : Int) : iI a + iI b = iI (a + b) := (Int32.ofInt_add a b).symm
theorem iI_sub (a b : Int) : iI a - iI b = iI (a - b) := (Int32.ofInt_sub a b).symm
theorem iI_nat (n : Nat) : nI n = iI (n : Int) := (Int32.ofInt_eq_ofNat (n := n)).symm
theorem iI_toInt {n : Int} (h : -2 ^ 31 ≤ n) (h' : n < 2 ^ 31) : (iI n).toInt = n := Int32.toInt_ofInt_of_le h h'
theorem iI_le {a b : Int} (a1 : -2 ^ 31 ≤ a) (a2 : a < 2 ^ 31) (b1 : -2 ^ 31 ≤ b) (b2 : b < 2 ^ 31) : (iI a ≤ iI b) = (a ≤ b) := by
  rw [Int32.le_iff_toInt_le, iI_toInt a1 a2, iI_toInt b1 b2]
theorem iI_lt {a b : Int} (a1 : -2 ^ 31 ≤ a) (a2 : a < 2 ^ 31) (b1 : -2 ^ 31 ≤ b) (b2 : b < 2 ^ 31) : (iI a < iI b) = (a < b) := by
  rw [Int32.lt_iff_toInt_lt, iI_toInt a1 a2, iI_toInt b1 b2]
theorem iI_eq {a b : Int} (a1 : -2 ^ 31 ≤ a) (a2 : a < 2 ^ 31) (b1 : -2 ^ 31 ≤ b) (b2 : b < 2 ^ 31) : (iI a = iI b) = (a = b) := by
  apply propext
  constructor
  · intro h
    have := congrArg Int32.toInt h
    rw [iI_toInt a1 a2, iI_toInt b1 b2] at this
    exact this
  · intro h
    rw [h]
/-- how many are sent, at what cost -/
abbrev zkc : Type := Nat × Int
def zbt (a b : zkc) : Bool := decide (b.1 < a.1 ∨ (a.1 = b.1 ∧ a.2 < b.2))
theorem zbt_iff (a b : zkc) : zbt a b = true ↔ (b.1 < a.1 ∨ (a.1 = b.1 ∧ a.2 < b.2)) := decide_eq_true_iff
def zso (B : Nat → Option Int) (F : Nat → zkc) (t p : Nat) : Option zkc := if t.testBit p = true then none else match B p with
  | none => none
  | some b => some ((F (t ||| 2 ^ p)).1 + 1, (F (t ||| 2 ^ p)).2 + b)
/-- the first of the best -/
def zbs (g : Nat → Option zkc) : Nat → Option (Nat × zkc)
  | 0 => none
  | n + 1 => match g n, zbs g n with
    | none, q => q
    | some v, none => some (n, v)
    | some v, some (i, w) => if zbt v w = true then some (n, v) else some (i, w)
theorem zbs_s (g : Nat → Option zkc) (n : Nat) : zbs g (n + 1) = match g n, zbs g n with
    | none, q => q
    | some v, none => some (n, v)
    | some v, some (i, w) => if zbt v w = true then some (n, v) else some (i, w) := rfl
theorem zbs_n {g : Nat → Option zkc} : ∀ n, zbs g n = none → ∀ q, q < n → g q = none
  | 0, _, q, hq => absurd hq (Nat.not_lt_zero q)
  | n + 1, h, q, hq => by
    rw [zbs_s] at h
    cases hg : g n with
    | none =>
      rw [hg] at h
      by_cases e : q = n
      · rw [e, hg]
      · exact zbs_n n h q (by omega)
    | some v =>
      rw [hg] at h
      cases hz : zbs g n with
      | none => rw [hz] at h; cases h
      | some p =>
        obtain ⟨i, w⟩ := p
        rw [hz] at h
        have h : (if zbt v w = true then some (n, v) else some (i, w)) = none := h
        split at h <;> cases h
theorem zbs_p {g : Nat → Option zkc} : ∀ n p v, zbs g n = some (p, v) → p < n ∧ g p = some v ∧ (∀ q, q < p → g q ≠ some v) ∧ ∀ q w, q < n → g q = some w → ¬ zbt w v = true
  | 0, _, _, h => by cases h
  | n + 1, p, v, h => by
    rw [zbs_s] at h
    cases hg : g n with
    | none =>
      rw [hg] at h
      obtain ⟨h1, h2, h3, h4⟩ := zbs_p n p v h
      refine ⟨by omega, h2, h3, fun q w hq hw => ?_⟩
      by_cases e : q = n
      · rw [e, hg] at hw
        cases hw
      · exact h4 q w (by omega) hw
    | some u =>
      rw [hg] at h
      cases hz : zbs g n with
      | none =>
        rw [hz] at h
        have h := Option.some.inj h
        have e1 := (Prod.mk.inj h).1
        have e2 := (Prod.mk.inj h).2
        subst e1; subst e2
        have hn := zbs_n n hz
        refine ⟨Nat.lt_succ_self _, hg, fun q hq e => ?_, fun q w hq hw => ?_⟩
        · rw [hn q hq] at e
          cases e
        · by_cases e : q = n
          · rw [e, hg] at hw
            have hw := Option.some.inj hw
            subst hw
            rw [zbt_iff]
            omega
          · rw [hn q (by omega)] at hw
            cases hw
      | some r =>
        obtain ⟨i, w⟩ := r
        obtain ⟨h1, h2, h3, h4⟩ := zbs_p n i w hz
        rw [hz] at h
        have h : (if zbt u w = true then some (n, u) else some (i, w)) = some (p, v) := h
        by_cases hb : zbt u w = true
        · rw [if_pos hb] at h
          have h := Option.some.inj h
          have e1 := (Prod.mk.inj h).1
          have e2 := (Prod.mk.inj h).2
          subst e1; subst e2
          refine ⟨Nat.lt_succ_self _, hg, fun q hq e => h4 q u hq e hb, fun q x hq hx => ?_⟩
          by_cases e : q = n
          · rw [e, hg] at hx
            have hx := Option.some.inj hx
            subst hx
            rw [zbt_iff]
            omega
          · have := h4 q x (by omega) hx
            rw [zbt_iff] at this hb ⊢
            omega
        · rw [if_neg hb] at h
          have h := Option.some.inj h
          have e1 := (Prod.mk.inj h).1
          have e2 := (Prod.mk.inj h).2
          subst e1; subst e2
          refine ⟨by omega, h2, h3, fun q x hq hx => ?_⟩
          by_cases e : q = n
          · rw [e, hg] at hx
            have hx := Option.some.inj hx
            subst hx
            exact hb
          · exact h4 q x (by omega) hx
def zpick (g : Nat → Option zkc) (Q : Nat) (nob : zkc) : Nat × zkc := match zbs g Q with
  | none => (8, nob)
  | some (p, v) => if zbt nob v = true then (8, nob) else (p, v)
theorem zpick_n {g : Nat → Option zkc} {Q : Nat} {nob : zkc} (h : zbs g Q = none) : zpick g Q nob = (8, nob) := by unfold zpick; rw [h]
theorem zpick_p {g : Nat → Option zkc} {Q p : Nat} {nob v : zkc} (h : zbs g Q = some (p, v)) : zpick g Q nob = if zbt nob v = true then (8, nob) else (p, v) := by unfold zpick; rw [h]
/-- the pick: nobody, and none else is as good; or the first as good -/
theorem zpick_is {g : Nat → Option zkc} {Q : Nat} (hQ : Q ≤ 8) {nob : zkc} : ((zpick g Q nob).1 = 8 ∧ (zpick g Q nob).2 = nob ∧ ∀ q, q < Q → g q ≠ some nob) ∨ ((zpick g Q nob).1 < Q ∧ g (zpick g Q nob).1 = some (zpick g Q nob).2 ∧ ∀ q, q < (zpick g Q nob).1 → g q ≠ some (zpick g Q nob).2) := by
  cases h : zbs g Q with
  | none =>
    rw [zpick_n h]
    exact Or.inl ⟨rfl, rfl, fun q hq e => by rw [zbs_n Q h q hq] at e; cases e⟩
  | some r =>
    obtain ⟨p, v⟩ := r
    obtain ⟨h1, h2, h3, h4⟩ := zbs_p Q p v h
    rw [zpick_p h]
    by_cases hb : zbt nob v = true
    · rw [if_pos hb]
      exact Or.inl ⟨rfl, rfl, fun q hq e => h4 q nob hq e hb⟩
    · rw [if_neg hb]
      exact Or.inr ⟨h1, h2, h3⟩
/-- the best value, as the reference finds it -/
def zmx (nob : zkc) (g : Nat → Option zkc) : Nat → zkc
  | 0 => nob
  | n + 1 => match g n with
    | none => zmx nob g n
    | some v => if zbt v (zmx nob g n) = true then v else zmx nob g n
theorem zmx_s (nob : zkc) (g : Nat → Option zkc) (n : Nat) : zmx nob g (n + 1) = match g n with
    | none => zmx nob g n
    | some v => if zbt v (zmx nob g n) = true then v else zmx nob g n := rfl
theorem zkc_eq {a b : zkc} (h1 : ¬ zbt a b = true) (h2 : ¬ zbt b a = true) : a = b := by
  rw [zbt_iff] at h1 h2
  exact Prod.ext (by omega) (by omega)
theorem zmx_pick (nob : zkc) (g : Nat → Option zkc) : ∀ n, zmx nob g n = (zpick g n nob).2
  | 0 => rfl
  | n + 1 => by
    have ih := zmx_pick nob g n
    rw [zmx_s]
    cases hg : g n with
    | none =>
      have e : zbs g (n + 1) = zbs g n := by rw [zbs_s, hg]
      have e2 : zpick g (n + 1) nob = zpick g n nob := by unfold zpick; rw [e]
      rw [e2]
      exact ih
    | some v =>
      show (if zbt v (zmx nob g n) = true then v else zmx nob g n) = _
      rw [ih]
      cases hz : zbs g n with
      | none =>
        have e : zbs g (n + 1) = some (n, v) := by rw [zbs_s, hg, hz]
        rw [zpick_n hz, zpick_p e]
        show (if zbt v nob = true then v else nob) = (if zbt nob v = true then (8, nob) else (n, v)).2
        by_cases h1 : zbt v nob = true
        · have h2 : ¬ zbt nob v = true := by rw [zbt_iff] at h1 ⊢; omega
          rw [if_pos h1, if_neg h2]
        · rw [if_neg h1]
          by_cases h2 : zbt nob v = true
          · rw [if_pos h2]
          · rw [if_neg h2]
            exact zkc_eq h2 h1
      | some r =>
        obtain ⟨i, w⟩ := r
        have e : zbs g (n + 1) = if zbt v w = true then some (n, v) else some (i, w) := by rw [zbs_s, hg, hz]
        rw [zpick_p hz]
        by_cases hb : zbt v w = true
        · rw [if_pos hb] at e
          rw [zpick_p e]
          by_cases h1 : zbt nob w = true
          · rw [if_pos h1]
            show (if zbt v nob = true then v else nob) = _
            by_cases h2 : zbt v nob = true
            · have h3 : ¬ zbt nob v = true := by rw [zbt_iff] at h2 ⊢; omega
              rw [if_pos h2, if_neg h3]
            · rw [if_neg h2]
              by_cases h3 : zbt nob v = true
              · rw [if_pos h3]
              · rw [if_neg h3]
                exact zkc_eq h3 h2
          · rw [if_neg h1]
            show (if zbt v w = true then v else w) = _
            have h3 : ¬ zbt nob v = true := by rw [zbt_iff] at h1 hb ⊢; omega
            rw [if_pos hb, if_neg h3]
        · rw [if_neg hb] at e
          rw [zpick_p e]
          by_cases h1 : zbt nob w = true
          · rw [if_pos h1]
            show (if zbt v nob = true then v else nob) = _
            have h2 : ¬ zbt v nob = true := by rw [zbt_iff] at h1 hb ⊢; omega
            rw [if_neg h2]
          · rw [if_neg h1]
            show (if zbt v w = true then v else w) = _
            rw [if_neg hb]
/-- with the last d things: the best from these taken people on -/
def zsv (B : Nat → Nat → Option Int) (Q X : Nat) : Nat → Nat → zkc
  | 0, _ => (0, 0)
  | d + 1, t => if X.testBit (7 - d) = true then (zpick (zso (B (7 - d)) (zsv B Q X d) t) Q (zsv B Q X d t)).2 else zsv B Q X d t
theorem zsv_s (B : Nat → Nat → Option Int) (Q X d t : Nat) : zsv B Q X (d + 1) t = if X.testBit (7 - d) = true then (zpick (zso (B (7 - d)) (zsv B Q X d) t) Q (zsv B Q X d t)).2 else zsv B Q X d t := rfl
def zbd (v : zkc) (d : Nat) : Prop := v.1 ≤ d ∧ -(569943 * (v.1 : Int)) ≤ v.2 ∧ v.2 ≤ 569943 * (v.1 : Int)
theorem zso_bd {B : Nat → Option Int} {F : Nat → zkc} {t d p : Nat} {v : zkc} (hB : ∀ p b, B p = some b → -569943 ≤ b ∧ b ≤ 569943) (hF : ∀ t, zbd (F t) d) (h : zso B F t p = some v) : zbd v (d + 1) := by
  unfold zso at h
  split at h
  · cases h
  · cases hb : B p with
    | none => rw [hb] at h; cases h
    | some b =>
      rw [hb] at h
      have h : ((F (t ||| 2 ^ p)).1 + 1, (F (t ||| 2 ^ p)).2 + b) = v := Option.some.inj h
      subst h
      obtain ⟨f1, f2, f3⟩ := hF (t ||| 2 ^ p)
      have := hB p b hb
      refine ⟨by show _ + 1 ≤ _; omega, ?_, ?_⟩
      · show -(569943 * (((F (t ||| 2 ^ p)).1 + 1 : Nat) : Int)) ≤ (F (t ||| 2 ^ p)).2 + b
        omega
      · show (F (t ||| 2 ^ p)).2 + b ≤ 569943 * (((F (t ||| 2 ^ p)).1 + 1 : Nat) : Int)
        omega
theorem zsv_bd {B : Nat → Nat → Option Int} {Q X : Nat} (hQ : Q ≤ 8) (hB : ∀ i p b, B i p = some b → -569943 ≤ b ∧ b ≤ 569943) : ∀ d t, zbd (zsv B Q X d t) d
  | 0, _ => show zbd (0, 0) 0 from ⟨Nat.le_refl _, by decide, by decide⟩
  | d + 1, t => by
    have up : ∀ v : zkc, zbd v d → zbd v (d + 1) := fun v h => ⟨by have := h.1; omega, h.2⟩
    rw [zsv_s]
    split
    · rcases zpick_is (g := zso (B (7 - d)) (zsv B Q X d) t) hQ (nob := zsv B Q X d t) with ⟨-, h, -⟩ | ⟨-, h, -⟩
      · rw [h]
        exact up _ (zsv_bd hQ hB d t)
      · exact zso_bd (hB (7 - d)) (zsv_bd hQ hB d) h
    · exact up _ (zsv_bd hQ hB d t)
/-- values, as the class and as the reference have them -/
def zVc (v : zkc) : Int32 := iI (v.2 - 10000000 * (v.1 : Int))
def zVr (v : zkc) : Int32 := iI (20000000 * (v.1 : Int) - v.2)
theorem zVc_le {v w : zkc} {d e : Nat} (hd : d ≤ 8) (he : e ≤ 8) (hv : zbd v d) (hw : zbd w e) : (zVc v ≤ zVc w) = (¬ zbt w v = true) := by
  obtain ⟨a1, a2, a3⟩ := hv
  obtain ⟨b1, b2, b3⟩ := hw
  unfold zVc
  rw [iI_le (by omega) (by omega) (by omega) (by omega), zbt_iff]
  apply propext
  omega
theorem zVr_le {v w : zkc} {d e : Nat} (hd : d ≤ 8) (he : e ≤ 8) (hv : zbd v d) (hw : zbd w e) : (zVr v ≤ zVr w) = (¬ zbt v w = true) := by
  obtain ⟨a1, a2, a3⟩ := hv
  obtain ⟨b1, b2, b3⟩ := hw
  unfold zVr
  rw [iI_le (by omega) (by omega) (by omega) (by omega), zbt_iff]
  apply propext
  omega
theorem zVr_eq {v w : zkc} {d e : Nat} (hd : d ≤ 8) (he : e ≤ 8) (hv : zbd v d) (hw : zbd w e) : (zVr v = zVr w) = (v = w) := by
  obtain ⟨a1, a2, a3⟩ := hv
  obtain ⟨b1, b2, b3⟩ := hw
  unfold zVr
  rw [iI_eq (by omega) (by omega) (by omega) (by omega)]
  apply propext
  constructor
  · intro h
    exact Prod.ext (by omega) (by omega)
  · intro h
    rw [h]
theorem zVr_far {v : zkc} {d : Nat} (hd : d ≤ 8) (hv : zbd v d) : ¬ (-1000000000 : Int32) = zVr v ∧ (-1000000000 : Int32) ≤ zVr v := by
  obtain ⟨a1, a2, a3⟩ := hv
  have e : (-1000000000 : Int32) = iI (-1000000000) := by decide
  unfold zVr
  rw [e, iI_eq (by omega) (by omega) (by omega) (by omega), iI_le (by omega) (by omega) (by omega) (by omega)]
  omega
theorem zVc_far {v : zkc} {d : Nat} (hd : d ≤ 8) (hv : zbd v d) : ¬ (100000000 : Int32) ≤ zVc v := by
  obtain ⟨a1, a2, a3⟩ := hv
  have e : (100000000 : Int32) = iI 100000000 := by decide
  unfold zVc
  rw [e, iI_le (by omega) (by omega) (by omega) (by omega)]
  omega
/-- the sender of the thing 7 - d -/
def zsp (B : Nat → Nat → Option Int) (Q X d t : Nat) : Nat := if X.testBit (7 - d) = true then (zpick (zso (B (7 - d)) (zsv B Q X d) t) Q (zsv B Q X d t)).1 else 8
/-- who is taken when the first i things are given -/
def ztk (B : Nat → Nat → Option Int) (Q X : Nat) : Nat → Nat
  | 0 => 0
  | i + 1 => if zsp B Q X (7 - i) (ztk B Q X i) = 8 then ztk B Q X i else ztk B Q X i ||| 2 ^ zsp B Q X (7 - i) (ztk B Q X i)
def zsnd (B : Nat → Nat → Option Int) (Q X i : Nat) : Nat := zsp B Q X (7 - i) (ztk B Q X i)
theorem zsp_lt {B : Nat → Nat → Option Int} {Q X d t : Nat} (hQ : Q ≤ 8) (h : zsp B Q X d t ≠ 8) : zsp B Q X d t < Q := by
  unfold zsp at h ⊢
  split at h
  · rename_i hb
    rw [if_pos hb]
    rcases zpick_is (g := zso (B (7 - d)) (zsv B Q X d) t) hQ (nob := zsv B Q X d t) with ⟨h1, -⟩ | ⟨h1, -⟩
    · exact absurd h1 h
    · exact h1
  · exact absurd rfl h
theorem ztk_lt {B : Nat → Nat → Option Int} {Q X : Nat} (hQ : Q ≤ 8) : ∀ i, ztk B Q X i < 2 ^ Q
  | 0 => Nat.two_pow_pos Q
  | i + 1 => by
    show (if zsp B Q X (7 - i) (ztk B Q X i) = 8 then ztk B Q X i else ztk B Q X i ||| 2 ^ zsp B Q X (7 - i) (ztk B Q X i)) < 2 ^ Q
    split
    · exact ztk_lt hQ i
    · rename_i h
      exact Nat.or_lt_two_pow (ztk_lt hQ i) (Nat.pow_lt_pow_right (by decide) (zsp_lt hQ h))
/-- how many are sent, what it costs -/
def ztot (sd : Nat → Nat) (bv : Nat → Nat → Int32) : Nat → Nat → Nat × Int32 → Nat × Int32
  | 0, _, q => q
  | d + 1, i, q => ztot sd bv d (i + 1) (if sd i = 8 then q else (q.1 + 1, q.2 + bv i (sd i)))
