/-! WHAT A GOING COSTS BY THE LAW -/
theorem zev_b {C : zCd} {ty : Nat → List Bool} {fr to : Nat} {fx : Nat → Int32} (hty : ∀ i, fr ≤ i → i < to → ztyp C ty to i) (hl : ty to = [true]) :
    ∀ d pc st, fr ≤ pc → pc ≤ to → to ≤ pc + d → zcf (ty pc) st → zev C fx to d pc st = 0 ∨ zev C fx to d pc st = 1 := by
  have hend : ∀ d st, zcf (ty to) st → zev C fx to d to st = 0 ∨ zev C fx to d to st = 1 := by
    intro d st hc
    rw [zev_end (Nat.le_refl _)]
    rw [hl] at hc
    obtain ⟨x, S, rfl, h, -⟩ := zcf_cons hc
    exact h rfl
  intro d
  induction d with
  | zero =>
    intro pc st hf hp hd hc
    have e : pc = to := by omega
    subst e
    exact hend 0 st hc
  | succ d ih =>
    intro pc st hf hp hd hc
    by_cases hlt : to ≤ pc
    · have e : pc = to := by omega
      subst e
      exact hend _ st hc
    · have hlt : pc < to := by omega
      obtain ⟨t1, t2⟩ := hty pc hf hlt
      rw [zev_s, if_neg (show ¬ to ≤ pc by omega)]
      rcases t2 with ⟨o, t⟩ | ⟨o, o9, t⟩ | ⟨o2, o9, x, y, T, t, t'⟩ | ⟨o, T, t, t'⟩ | ⟨o, T, t, t', v1, v2, v3⟩
      · rw [if_pos o]
        exact ih _ _ (by omega) (by omega) (by omega) (by rw [t]; exact ⟨fun h => (by cases h), hc⟩)
      · rw [if_neg (show ¬ (C pc).1 = 0 by omega), if_pos o]
        exact ih _ _ (by omega) (by omega) (by omega) (by rw [t]; exact ⟨fun h => (by cases h), hc⟩)
      · rw [t] at hc
        obtain ⟨b, S1, rfl, -, hc1⟩ := zcf_cons hc
        obtain ⟨a, S, rfl, -, hc2⟩ := zcf_cons hc1
        rw [if_neg (show ¬ (C pc).1 = 0 by omega), if_neg (show ¬ (C pc).1 = 1 by omega), if_neg (show ¬ (C pc).1 = 10 by omega), if_neg (show ¬ 11 ≤ (C pc).1 by omega)]
        split
        · exact Or.inl rfl
        · exact ih _ _ (by omega) (by omega) (by omega) (by rw [t']; exact ⟨fun h => zop_b (of_decide_eq_true h) o9, hc2⟩)
      · rw [t] at hc
        obtain ⟨b, S, rfl, hb1, hc1⟩ := zcf_cons hc
        rw [if_neg (show ¬ (C pc).1 = 0 by omega), if_neg (show ¬ (C pc).1 = 1 by omega), if_pos o]
        refine ih _ _ (by omega) (by omega) (by omega) ?_
        rw [t']
        refine ⟨fun _ => ?_, hc1⟩
        split
        · exact Or.inr rfl
        · exact Or.inl rfl
      · rw [t] at hc
        obtain ⟨b, S, rfl, hb1, hc1⟩ := zcf_cons hc
        rw [if_neg (show ¬ (C pc).1 = 0 by omega), if_neg (show ¬ (C pc).1 = 1 by omega), if_neg (show ¬ (C pc).1 = 10 by omega), if_pos (show 11 ≤ (C pc).1 by omega)]
        split
        · exact ih _ _ (by omega) v2 (by omega) (by rw [v3]; exact ⟨hb1, hc1⟩)
        · exact ih _ _ (by omega) (by omega) (by omega) (by rw [t']; exact hc1)
/-- a law: its steps, how many; its clauses' sorts, from where, whence the condition, to where; how many; whether the load matters -/
abbrev zLw : Type := zCd × Nat × (Nat → Bool) × (Nat → Nat × Nat × Nat) × Nat × Bool
def zLw.c (L : zLw) : zCd := L.1
def zLw.m (L : zLw) : Nat := L.2.1
def zLw.k (L : zLw) : Nat → Bool := L.2.2.1
def zLw.f (L : zLw) (q : Nat) : Nat := (L.2.2.2.1 q).1
def zLw.h (L : zLw) (q : Nat) : Nat := (L.2.2.2.1 q).2.1
def zLw.t (L : zLw) (q : Nat) : Nat := (L.2.2.2.1 q).2.2
def zLw.n (L : zLw) : Nat := L.2.2.2.2.1
def zLw.l (L : zLw) : Bool := L.2.2.2.2.2
def zwf (L : zLw) : Prop := L.n ≤ 12 ∧ L.m ≤ 160 ∧ (L.l = false → ∀ i, i < L.m → ¬ ((L.c i).1 = 1 ∧ (L.c i).2 = 3)) ∧
  ∀ q, q < L.n → L.f q ≤ L.h q ∧ L.h q ≤ L.t q ∧ L.t q ≤ L.m ∧
    (∃ ty : Nat → List Bool, (∀ i, L.h q ≤ i → i < L.t q → ztyp L.c ty (L.t q) i) ∧ ty (L.h q) = [] ∧ ty (L.t q) = [true]) ∧
    (L.k q = false → ∃ ty : Nat → List Bool, (∀ i, L.f q ≤ i → i < L.h q → ztyp L.c ty (L.h q) i) ∧ ty (L.f q) = [] ∧ ty (L.h q) = [false])
def zLC (L : zLw) (a b : Int32) (r1 r2 r3 r4 r5 r6 : Nat → Int32) : Prop := a = nI L.n ∧ b = (if L.l = true then 1 else 0) ∧
  (∀ i, i < L.m → r1 i = nI (zsg (L.c i).1) ∧ r2 i = nI (L.c i).2 ∧ (L.c i).2 < 100000) ∧
  ∀ q, q < L.n → r3 q = (if L.k q = true then 110 else 99) ∧ r4 q = nI (L.f q) ∧ r5 q = nI (L.h q) ∧ r6 q = nI (L.t q)
def zLR (L : zLw) (a : Int32) (r70 r71 r72 r73 r74 : Nat → Int32) : Prop := a = nI L.n ∧
  (∀ i, i < L.m → r70 i = nI (1048576 * (L.c i).1 + (L.c i).2) ∧ (L.c i).2 < 100000) ∧
  ∀ q, q < L.n → r71 q = (if L.k q = true then 110 else 99) ∧ r72 q = nI (L.f q) ∧ r73 q = nI (L.h q) ∧ r74 q = nI (L.t q)
def zclp (x : Int32) : Nat := if x < 0 then 0 else if 9999 < x then 9999 else x.toNatClampNeg
theorem zclp_c (x : Int32) : (if (0 : Int32) < (if x < (9999 : Int32) then x else (9999 : Int32)) then (if x < (9999 : Int32) then x else (9999 : Int32)) else (0 : Int32)) = nI (zclp x) ∧ zclp x ≤ 9999 := by
  unfold zclp
  rcases pk_ix x (n := 10000) (by decide) with h | h | ⟨j, hj, rfl⟩
  · rw [if_pos h, if_pos (show x < 9999 from Int32.lt_trans h (by decide)), if_neg (fun q => absurd (Int32.lt_trans h q) (by simp))]
    exact ⟨rfl, by decide⟩
  · have h1 : (9999 : Int32) < x := Int32.lt_of_lt_of_le (show (9999 : Int32) < nI 10000 by decide) h
    rw [if_neg (fun q => absurd (Int32.lt_trans h1 q) (by simp)), if_pos (by decide), if_neg (fun q => absurd (Int32.lt_trans q (Int32.lt_trans (show (0 : Int32) < 9999 by decide) h1)) (by simp)), if_pos h1]
    exact ⟨rfl, by decide⟩
  · rw [if_neg (show ¬ nI j < 0 from nI_pos (by omega)), if_neg (show ¬ (9999 : Int32) < nI j from nI_nlt (b := j) (a := 9999) (by omega) (by omega)), nI_clamp (show j < 2 ^ 31 by omega)]
    refine ⟨?_, by omega⟩
    by_cases h9 : j = 9999
    · subst h9
      decide
    · rw [if_pos (show nI j < 9999 from nI_lt (b := 9999) (by omega) (by omega))]
      by_cases h0 : j = 0
      · subst h0
        decide
      · rw [if_pos (show (0 : Int32) < nI j from nI_lt (a := 0) (by omega) (by omega))]
theorem zclp_r (x : Int32) : (if 0 ≤ x then (if x ≤ 9999 then x else 9999) else 0) = nI (zclp x) := by
  unfold zclp
  rcases pk_ix x (n := 10000) (by decide) with h | h | ⟨j, hj, rfl⟩
  · rw [if_neg (Int32.not_le.mpr h), if_pos h]
    rfl
  · have h1 : (9999 : Int32) < x := Int32.lt_of_lt_of_le (show (9999 : Int32) < nI 10000 by decide) h
    rw [if_pos (Int32.le_of_lt (Int32.lt_trans (show (0 : Int32) < 9999 by decide) h1)), if_neg (Int32.not_le.mpr h1), if_neg (fun q => absurd (Int32.lt_trans q (Int32.lt_trans (show (0 : Int32) < 9999 by decide) h1)) (by simp)), if_pos h1]
    rfl
  · rw [if_neg (show ¬ nI j < 0 from nI_pos (by omega)), if_neg (show ¬ (9999 : Int32) < nI j from nI_nlt (b := j) (a := 9999) (by omega) (by omega)), nI_clamp (show j < 2 ^ 31 by omega), if_pos (show (0 : Int32) ≤ nI j from nI_pos' (by omega)), if_pos (show nI j ≤ 9999 from nI_le (b := 9999) (by omega) (by omega))]
/-- the clauses from q on -/
def zpl (L : zLw) (fx : Nat → Int32) : Nat → Nat → Option Nat → Option Nat
  | 0, _, f => some (f.getD (zi (fx 0)))
  | d + 1, q, f => if (L.k q = false ∧ f ≠ none) ∨ zev L.c fx (L.t q) (L.t q - L.h q) (L.h q) [] = 0 then zpl L fx d (q + 1) f else
    if L.k q = true then none else zpl L fx d (q + 1) (some (zclp (zev L.c fx (L.h q) (L.h q - L.f q) (L.f q) [])))
theorem zpl_s (L : zLw) (fx : Nat → Int32) (d q : Nat) (f : Option Nat) : zpl L fx (d + 1) q f = if (L.k q = false ∧ f ≠ none) ∨ zev L.c fx (L.t q) (L.t q - L.h q) (L.h q) [] = 0 then zpl L fx d (q + 1) f else
    if L.k q = true then none else zpl L fx d (q + 1) (some (zclp (zev L.c fx (L.h q) (L.h q - L.f q) (L.f q) []))) := rfl
def zprice (L : zLw) (fx : Nat → Int32) : Option Nat := zpl L fx L.n 0 none
theorem zpl_le {L : zLw} {fx : Nat → Int32} (h : zi (fx 0) ≤ 9999) : ∀ d q f, (∀ p, f = some p → p ≤ 9999) → ∀ x, zpl L fx d q f = some x → x ≤ 9999
  | 0, q, f, hf, x, hx => by
    have hx : some (f.getD (zi (fx 0))) = some x := hx
    have hx := Option.some.inj hx
    cases f with
    | none => rw [← hx]; exact h
    | some p => rw [← hx]; exact hf p rfl
  | d + 1, q, f, hf, x, hx => by
    rw [zpl_s] at hx
    split at hx
    · exact zpl_le h d (q + 1) f hf x hx
    · split at hx
      · cases hx
      · exact zpl_le h d (q + 1) _ (fun p hp => by rw [← Option.some.inj hp]; exact (zclp_c _).2) x hx
theorem zprice_le {L : zLw} {fx : Nat → Int32} (h : zi (fx 0) ≤ 9999) {x : Nat} (hx : zprice L fx = some x) : x ≤ 9999 := zpl_le h L.n 0 none (fun _ hp => by cases hp) x hx
/-- a find, a price, as the class has it; as the reference has it -/
def zfd (f : Option Nat) : Int32 := match f with
  | none => -1
  | some p => nI p
def zpk (f : Option Nat) : Int32 := match f with
  | none => -2
  | some p => nI p
def zpf (f : Option Nat) : Int32 := match f with
  | none => 1000000000
  | some p => nI p
theorem zfd_n {p : Nat} (h : p ≤ 9999) : ¬ zfd (some p) = -1 := fun e => by
  have h1 := nI_nm1 (a := p) (by omega)
  have e : nI p = -1 := e
  rw [h1] at e
  exact e
theorem zknd {L : zLw} {q : Nat} {x : Int32} (h : x = (if L.k q = true then 110 else 99)) : (L.k q = true → x = 110) ∧ (L.k q = false → x = 99) :=
  ⟨fun e => by rw [h, if_pos e], fun e => by rw [h, if_neg (by rw [e]; decide)]⟩
theorem zi_I0 {x : Int32} (h : ¬ x < 0) : nI (zi x) = x := by
  have e : (0 : Int32) ≤ x := Int32.not_lt.mp h
  apply Int32.toInt_inj.mp
  rw [Int32.le_iff_toInt_le] at e
  have e0 : (0 : Int32).toInt = 0 := rfl
  rw [e0] at e
  have h2 : zi x = x.toInt.toNat := rfl
  have h3 := Int32.toInt_lt x
  rw [h2, nI_toInt (by omega)]
  omega
theorem zlp38_8 (s : zQs) {L : zLw} (hw : zwf L) {fx : Nat → Int32} (hup : ¬ fx 0 < 0) : ∀ d q f (I : Nat → Nat → Int32) (x4 x5 x6 : Value), q + d = L.n → (∀ p, f = some p → p ≤ 9999) →
    zLC L (I 8 7) (I 8 8) (I 9) (I 10) (I 11) (I 12) (I 13) (I 14) → (∀ i, i < 9 → I 7 i = fx i) →
    ∃ J, zQ_38 (4, [.ref 8, .ref 7, .int (zfd f), .int (nI q), x4, x5, x6], [], zMk (s, I)) = some (.int (zpk (zpl L fx d q f)), zMk (s, J)) ∧ (∀ r, r ≠ 8 → r ≠ 15 → J r = I r) ∧ ∀ j, j ≠ 10 → J 8 j = I 8 j := by
  obtain ⟨hn, hm, -, hq⟩ := hw
  intro d
  induction d with
  | zero =>
    intro q f I x4 x5 x6 hqd hf hC hx
    have e : q = L.n := by omega
    subst e
    refine ⟨I, ?_, fun _ _ _ => rfl, fun _ _ => rfl⟩
    rw [zq_38_8_4, hC.1, if_pos (nI_le (Nat.le_refl _) (by omega))]
    cases f with
    | none =>
      rw [if_neg (not_not_intro (show zfd none = -1 from rfl)), hx 0 (by decide)]
      show some (Value.int (fx 0), _) = some (Value.int (nI (zi (fx 0))), _)
      rw [zi_I0 hup]
    | some p =>
      rw [if_pos (zfd_n (hf p rfl))]
      rfl
  | succ d ih =>
    intro q f I x4 x5 x6 hqd hf hC hx
    have hlt : q < L.n := by omega
    obtain ⟨c1, c2, c3, c4⟩ := id hC
    obtain ⟨u1, u2, u3, u4⟩ := c4 q hlt
    obtain ⟨k1, k2⟩ := zknd u1
    obtain ⟨w1, w2, w3, ⟨ty, w4, w5, w6⟩, w7⟩ := hq q hlt
    have hb : zb (nI q) 12 = true := zb_t (by omega) (by omega)
    have hcl : (nI q).toNatClampNeg = q := nI_clamp (by omega)
    have next : ∀ (J : Nat → Nat → Int32) (g : Option Nat) (x4 x5 x6 : Value), (∀ p, g = some p → p ≤ 9999) → (∀ r, r ≠ 8 → r ≠ 15 → J r = I r) → (∀ j, j ≠ 10 → J 8 j = I 8 j) →
        ∃ J2, zQ_38 (4, [.ref 8, .ref 7, .int (zfd g), .int (nI (q + 1)), x4, x5, x6], [], zMk (s, J)) = some (.int (zpk (zpl L fx d (q + 1) g)), zMk (s, J2)) ∧ (∀ r, r ≠ 8 → r ≠ 15 → J2 r = I r) ∧ ∀ j, j ≠ 10 → J2 8 j = I 8 j := by
      intro J g x4 x5 x6 hg j1 j2
      obtain ⟨J2, e, i1, i2⟩ := ih (q + 1) g J x4 x5 x6 (by omega) hg (by rw [j2 7 (by decide), j2 8 (by decide), j1 _ (by decide) (by decide), j1 _ (by decide) (by decide), j1 _ (by decide) (by decide), j1 _ (by decide) (by decide), j1 _ (by decide) (by decide), j1 _ (by decide) (by decide)]; exact hC) (fun i hi => by rw [j1 7 (by decide) (by decide)]; exact hx i hi)
      exact ⟨J2, e, fun r a b => (i1 r a b).trans (j1 r a b), fun j hj => (i2 j hj).trans (j2 j hj)⟩
    have hcond : ∃ J, zf_39 [.ref 8, .int (I 13 (nI q).toNatClampNeg), .int (I 14 (nI q).toNatClampNeg), .ref 7] (zMk (s, I)) = some (.int (zev L.c fx (L.t q) (L.t q - L.h q) (L.h q) []), zMk (s, J)) ∧ (∀ r, r ≠ 8 → r ≠ 15 → J r = I r) ∧ ∀ j, j ≠ 10 → J 8 j = I 8 j := by
      rw [hcl, u3, u4]
      exact zf39_8 s (by omega) w2 w4 w5 (by rw [w6]; rfl) (fun i hi => c3 i (by omega)) hx
    obtain ⟨J, e, j1, j2⟩ := hcond
    have main : ∀ (x4 : Int32) (y0 : Int32), (x4 = if L.k q = true then 1 else 0) → ¬ y0 = 0 → ¬ (L.k q = false ∧ f ≠ none) → ∃ J2, zQ_38 (26, [.ref 8, .ref 7, .int (zfd f), .int (nI q), .int x4, x5, x6], [.int y0], zMk (s, I)) = some (.int (zpk (zpl L fx (d + 1) q f)), zMk (s, J2)) ∧ (∀ r, r ≠ 8 → r ≠ 15 → J2 r = I r) ∧ ∀ j, j ≠ 10 → J2 8 j = I 8 j := by
      intro x4 y0 hx4 hy0 hno
      rw [zq_38_8_26, if_neg hy0, if_pos hb, if_pos hb, e, zcI_some, zq_38_8_40, zpl_s]
      by_cases hz : zev L.c fx (L.t q) (L.t q - L.h q) (L.h q) [] = 0
      · rw [if_neg (not_not_intro hz), nI_1, if_pos (show (L.k q = false ∧ f ≠ none) ∨ zev L.c fx (L.t q) (L.t q - L.h q) (L.h q) [] = 0 from Or.inr hz)]
        exact next J f _ _ _ hf j1 j2
      · rw [if_pos hz, if_neg (show ¬ ((L.k q = false ∧ f ≠ none) ∨ zev L.c fx (L.t q) (L.t q - L.h q) (L.h q) [] = 0) from fun h => h.elim hno hz)]
        by_cases hk : L.k q = true
        · rw [if_pos hk] at hx4
          rw [hx4, if_neg (show ¬ (1 : Int32) = 0 by decide), if_pos hk]
          exact ⟨J, rfl, j1, j2⟩
        · have hk' : L.k q = false := by
            cases h : L.k q with
            | true => exact absurd h hk
            | false => rfl
          obtain ⟨ty2, v4, v5, v6⟩ := w7 hk'
          have hpr : ∃ J3, zf_39 [.ref 8, .int (J 12 (nI q).toNatClampNeg), .int (J 13 (nI q).toNatClampNeg), .ref 7] (zMk (s, J)) = some (.int (zev L.c fx (L.h q) (L.h q - L.f q) (L.f q) []), zMk (s, J3)) ∧ (∀ r, r ≠ 8 → r ≠ 15 → J3 r = J r) ∧ ∀ j, j ≠ 10 → J3 8 j = J 8 j := by
            rw [hcl, j1 12 (by decide) (by decide), j1 13 (by decide) (by decide), u2, u3]
            exact zf39_8 s (by omega) w1 v4 v5 (by rw [v6]; rfl) (fun i hi => by rw [j1 9 (by decide) (by decide), j1 10 (by decide) (by decide)]; exact c3 i (by omega)) (fun i hi => by rw [j1 7 (by decide) (by decide)]; exact hx i hi)
          obtain ⟨J3, e3, i1, i2⟩ := hpr
          rw [if_neg hk] at hx4
          rw [hx4, if_pos rfl, if_pos hb, if_pos hb, e3, zcI_some, zq_38_8_57, (zclp_c _).1, nI_1, if_neg hk]
          exact next J3 (some (zclp (zev L.c fx (L.h q) (L.h q - L.f q) (L.f q) []))) _ _ _ (fun p hp => by rw [← Option.some.inj hp]; exact (zclp_c _).2) (fun r a b => (i1 r a b).trans (j1 r a b)) (fun j hj => (i2 j hj).trans (j2 j hj))
    rw [zq_38_8_4, hC.1, if_neg (nI_ge hlt (by omega)), if_pos hb, hcl]
    cases hk : L.k q with
    | true =>
      rw [k1 hk, if_neg (not_not_intro rfl), if_pos (show ¬ (1 : Int32) = 0 by decide)]
      exact main 1 1 (by rw [if_pos hk]) (by decide) (fun h => by rw [hk] at h; cases h.1)
    | false =>
      rw [k2 hk, if_pos (show ¬ (99 : Int32) = 110 by decide), if_neg (not_not_intro rfl)]
      cases f with
      | none =>
        rw [if_neg (not_not_intro (show zfd none = -1 from rfl))]
        exact main 0 1 (by rw [if_neg (by rw [hk]; decide)]) (by decide) (fun h => h.2 rfl)
      | some p =>
        rw [if_pos (zfd_n (hf p rfl)), zq_38_8_26, if_pos rfl, nI_1, zpl_s, if_pos (show (L.k q = false ∧ some p ≠ none) ∨ zev L.c fx (L.t q) (L.t q - L.h q) (L.h q) [] = 0 from Or.inl ⟨hk, fun h => by cases h⟩)]
        exact next I (some p) _ _ _ hf (fun _ _ _ => rfl) (fun _ _ => rfl)
theorem zf38_8 (s : zQs) {L : zLw} (hw : zwf L) {fx : Nat → Int32} (hup : ¬ fx 0 < 0) {I : Nat → Nat → Int32} (hC : zLC L (I 8 7) (I 8 8) (I 9) (I 10) (I 11) (I 12) (I 13) (I 14)) (hx : ∀ i, i < 9 → I 7 i = fx i) :
    ∃ J, zf_38 [.ref 8, .ref 7] (zMk (s, I)) = some (.int (zpk (zprice L fx)), zMk (s, J)) ∧ (∀ r, r ≠ 8 → r ≠ 15 → J r = I r) ∧ ∀ j, j ≠ 10 → J 8 j = I 8 j := by
  rw [zqz_38_8, zq_38_8_0]
  exact zlp38_8 s hw hup L.n 0 none I (.long 0) (.long 0) (.long 0) (Nat.zero_add _) (fun _ h => by cases h) hC hx
theorem zlp38_34 (s : zQs) {L : zLw} (hw : zwf L) {fx : Nat → Int32} (hup : ¬ fx 0 < 0) : ∀ d q f (I : Nat → Nat → Int32) (x4 x5 x6 : Value), q + d = L.n → (∀ p, f = some p → p ≤ 9999) →
    zLC L (I 34 7) (I 34 8) (I 35) (I 36) (I 37) (I 38) (I 39) (I 40) → (∀ i, i < 9 → I 7 i = fx i) →
    ∃ J, zQ_38 (4, [.ref 34, .ref 7, .int (zfd f), .int (nI q), x4, x5, x6], [], zMk (s, I)) = some (.int (zpk (zpl L fx d q f)), zMk (s, J)) ∧ (∀ r, r ≠ 34 → r ≠ 41 → J r = I r) ∧ ∀ j, j ≠ 10 → J 34 j = I 34 j := by
  obtain ⟨hn, hm, -, hq⟩ := hw
  intro d
  induction d with
  | zero =>
    intro q f I x4 x5 x6 hqd hf hC hx
    have e : q = L.n := by omega
    subst e
    refine ⟨I, ?_, fun _ _ _ => rfl, fun _ _ => rfl⟩
    rw [zq_38_34_4, hC.1, if_pos (nI_le (Nat.le_refl _) (by omega))]
    cases f with
    | none =>
      rw [if_neg (not_not_intro (show zfd none = -1 from rfl)), hx 0 (by decide)]
      show some (Value.int (fx 0), _) = some (Value.int (nI (zi (fx 0))), _)
      rw [zi_I0 hup]
    | some p =>
      rw [if_pos (zfd_n (hf p rfl))]
      rfl
  | succ d ih =>
    intro q f I x4 x5 x6 hqd hf hC hx
    have hlt : q < L.n := by omega
    obtain ⟨c1, c2, c3, c4⟩ := id hC
    obtain ⟨u1, u2, u3, u4⟩ := c4 q hlt
    obtain ⟨k1, k2⟩ := zknd u1
    obtain ⟨w1, w2, w3, ⟨ty, w4, w5, w6⟩, w7⟩ := hq q hlt
    have hb : zb (nI q) 12 = true := zb_t (by omega) (by omega)
    have hcl : (nI q).toNatClampNeg = q := nI_clamp (by omega)
    have next : ∀ (J : Nat → Nat → Int32) (g : Option Nat) (x4 x5 x6 : Value), (∀ p, g = some p → p ≤ 9999) → (∀ r, r ≠ 34 → r ≠ 41 → J r = I r) → (∀ j, j ≠ 10 → J 34 j = I 34 j) →
        ∃ J2, zQ_38 (4, [.ref 34, .ref 7, .int (zfd g), .int (nI (q + 1)), x4, x5, x6], [], zMk (s, J)) = some (.int (zpk (zpl L fx d (q + 1) g)), zMk (s, J2)) ∧ (∀ r, r ≠ 34 → r ≠ 41 → J2 r = I r) ∧ ∀ j, j ≠ 10 → J2 34 j = I 34 j := by
      intro J g x4 x5 x6 hg j1 j2
      obtain ⟨J2, e, i1, i2⟩ := ih (q + 1) g J x4 x5 x6 (by omega) hg (by rw [j2 7 (by decide), j2 8 (by decide), j1 _ (by decide) (by decide), j1 _ (by decide) (by decide), j1 _ (by decide) (by decide), j1 _ (by decide) (by decide), j1 _ (by decide) (by decide), j1 _ (by decide) (by decide)]; exact hC) (fun i hi => by rw [j1 7 (by decide) (by decide)]; exact hx i hi)
      exact ⟨J2, e, fun r a b => (i1 r a b).trans (j1 r a b), fun j hj => (i2 j hj).trans (j2 j hj)⟩
    have hcond : ∃ J, zf_39 [.ref 34, .int (I 39 (nI q).toNatClampNeg), .int (I 40 (nI q).toNatClampNeg), .ref 7] (zMk (s, I)) = some (.int (zev L.c fx (L.t q) (L.t q - L.h q) (L.h q) []), zMk (s, J)) ∧ (∀ r, r ≠ 34 → r ≠ 41 → J r = I r) ∧ ∀ j, j ≠ 10 → J 34 j = I 34 j := by
      rw [hcl, u3, u4]
      exact zf39_34 s (by omega) w2 w4 w5 (by rw [w6]; rfl) (fun i hi => c3 i (by omega)) hx
    obtain ⟨J, e, j1, j2⟩ := hcond
    have main : ∀ (x4 : Int32) (y0 : Int32), (x4 = if L.k q = true then 1 else 0) → ¬ y0 = 0 → ¬ (L.k q = false ∧ f ≠ none) → ∃ J2, zQ_38 (26, [.ref 34, .ref 7, .int (zfd f), .int (nI q), .int x4, x5, x6], [.int y0], zMk (s, I)) = some (.int (zpk (zpl L fx (d + 1) q f)), zMk (s, J2)) ∧ (∀ r, r ≠ 34 → r ≠ 41 → J2 r = I r) ∧ ∀ j, j ≠ 10 → J2 34 j = I 34 j := by
      intro x4 y0 hx4 hy0 hno
      rw [zq_38_34_26, if_neg hy0, if_pos hb, if_pos hb, e, zcI_some, zq_38_34_40, zpl_s]
      by_cases hz : zev L.c fx (L.t q) (L.t q - L.h q) (L.h q) [] = 0
      · rw [if_neg (not_not_intro hz), nI_1, if_pos (show (L.k q = false ∧ f ≠ none) ∨ zev L.c fx (L.t q) (L.t q - L.h q) (L.h q) [] = 0 from Or.inr hz)]
        exact next J f _ _ _ hf j1 j2
      · rw [if_pos hz, if_neg (show ¬ ((L.k q = false ∧ f ≠ none) ∨ zev L.c fx (L.t q) (L.t q - L.h q) (L.h q) [] = 0) from fun h => h.elim hno hz)]
        by_cases hk : L.k q = true
        · rw [if_pos hk] at hx4
          rw [hx4, if_neg (show ¬ (1 : Int32) = 0 by decide), if_pos hk]
          exact ⟨J, rfl, j1, j2⟩
        · have hk' : L.k q = false := by
            cases h : L.k q with
            | true => exact absurd h hk
            | false => rfl
          obtain ⟨ty2, v4, v5, v6⟩ := w7 hk'
          have hpr : ∃ J3, zf_39 [.ref 34, .int (J 38 (nI q).toNatClampNeg), .int (J 39 (nI q).toNatClampNeg), .ref 7] (zMk (s, J)) = some (.int (zev L.c fx (L.h q) (L.h q - L.f q) (L.f q) []), zMk (s, J3)) ∧ (∀ r, r ≠ 34 → r ≠ 41 → J3 r = J r) ∧ ∀ j, j ≠ 10 → J3 34 j = J 34 j := by
            rw [hcl, j1 38 (by decide) (by decide), j1 39 (by decide) (by decide), u2, u3]
            exact zf39_34 s (by omega) w1 v4 v5 (by rw [v6]; rfl) (fun i hi => by rw [j1 35 (by decide) (by decide), j1 36 (by decide) (by decide)]; exact c3 i (by omega)) (fun i hi => by rw [j1 7 (by decide) (by decide)]; exact hx i hi)
          obtain ⟨J3, e3, i1, i2⟩ := hpr
          rw [if_neg hk] at hx4
          rw [hx4, if_pos rfl, if_pos hb, if_pos hb, e3, zcI_some, zq_38_34_57, (zclp_c _).1, nI_1, if_neg hk]
          exact next J3 (some (zclp (zev L.c fx (L.h q) (L.h q - L.f q) (L.f q) []))) _ _ _ (fun p hp => by rw [← Option.some.inj hp]; exact (zclp_c _).2) (fun r a b => (i1 r a b).trans (j1 r a b)) (fun j hj => (i2 j hj).trans (j2 j hj))
    rw [zq_38_34_4, hC.1, if_neg (nI_ge hlt (by omega)), if_pos hb, hcl]
    cases hk : L.k q with
    | true =>
      rw [k1 hk, if_neg (not_not_intro rfl), if_pos (show ¬ (1 : Int32) = 0 by decide)]
      exact main 1 1 (by rw [if_pos hk]) (by decide) (fun h => by rw [hk] at h; cases h.1)
    | false =>
      rw [k2 hk, if_pos (show ¬ (99 : Int32) = 110 by decide), if_neg (not_not_intro rfl)]
      cases f with
      | none =>
        rw [if_neg (not_not_intro (show zfd none = -1 from rfl))]
        exact main 0 1 (by rw [if_neg (by rw [hk]; decide)]) (by decide) (fun h => h.2 rfl)
      | some p =>
        rw [if_pos (zfd_n (hf p rfl)), zq_38_34_26, if_pos rfl, nI_1, zpl_s, if_pos (show (L.k q = false ∧ some p ≠ none) ∨ zev L.c fx (L.t q) (L.t q - L.h q) (L.h q) [] = 0 from Or.inl ⟨hk, fun h => by cases h⟩)]
        exact next I (some p) _ _ _ hf (fun _ _ _ => rfl) (fun _ _ => rfl)
theorem zf38_34 (s : zQs) {L : zLw} (hw : zwf L) {fx : Nat → Int32} (hup : ¬ fx 0 < 0) {I : Nat → Nat → Int32} (hC : zLC L (I 34 7) (I 34 8) (I 35) (I 36) (I 37) (I 38) (I 39) (I 40)) (hx : ∀ i, i < 9 → I 7 i = fx i) :
    ∃ J, zf_38 [.ref 34, .ref 7] (zMk (s, I)) = some (.int (zpk (zprice L fx)), zMk (s, J)) ∧ (∀ r, r ≠ 34 → r ≠ 41 → J r = I r) ∧ ∀ j, j ≠ 10 → J 34 j = I 34 j := by
  rw [zqz_38_34, zq_38_34_0]
  exact zlp38_34 s hw hup L.n 0 none I (.long 0) (.long 0) (.long 0) (Nat.zero_add _) (fun _ h => by cases h) hC hx
theorem zlp213 (s : zQs) {L : zLw} (hw : zwf L) {fx : Nat → Int32} (hup : ¬ fx 0 < 0) (x1 x2 x3 x4 x5 x6 : Int32) : ∀ d q f (I : Nat → Nat → Int32) (x9 : Value), q + d = L.n → (∀ p, f = some p → p ≤ 9999) →
    zLR L (I 58 18) (I 70) (I 71) (I 72) (I 73) (I 74) → (∀ i, i < 9 → I 76 i = fx i) →
    ∃ J, zQ_213 (109, [.ref 58, .int x1, .int x2, .int x3, .int x4, .int x5, .int x6, .int (zfd f), .int (nI q), x9], [], zMk (s, I)) = some (.int (zpf (zpl L fx d q f)), zMk (s, J)) ∧ (∀ r, r ≠ 75 → J r = I r) := by
  obtain ⟨hn, hm, -, hq⟩ := hw
  intro d
  induction d with
  | zero =>
    intro q f I x9 hqd hf hC hx
    have e : q = L.n := by omega
    subst e
    refine ⟨I, ?_, fun _ _ => rfl⟩
    rw [zq_213_109, hC.1, if_pos (nI_le (Nat.le_refl _) (by omega))]
    cases f with
    | none =>
      rw [if_neg (not_not_intro (show zfd none = -1 from rfl)), hx 0 (by decide)]
      show some (Value.int (fx 0), _) = some (Value.int (nI (zi (fx 0))), _)
      rw [zi_I0 hup]
    | some p =>
      rw [if_pos (zfd_n (hf p rfl))]
      rfl
  | succ d ih =>
    intro q f I x9 hqd hf hC hx
    have hlt : q < L.n := by omega
    obtain ⟨c1, c3, c4⟩ := id hC
    obtain ⟨u1, u2, u3, u4⟩ := c4 q hlt
    obtain ⟨k1, k2⟩ := zknd u1
    obtain ⟨w1, w2, w3, ⟨ty, w4, w5, w6⟩, w7⟩ := hq q hlt
    have hb : zb (nI q) 12 = true := zb_t (by omega) (by omega)
    have hcl : (nI q).toNatClampNeg = q := nI_clamp (by omega)
    have next : ∀ (J : Nat → Nat → Int32) (g : Option Nat) (x9 : Value), (∀ p, g = some p → p ≤ 9999) → (∀ r, r ≠ 75 → J r = I r) →
        ∃ J2, zQ_213 (109, [.ref 58, .int x1, .int x2, .int x3, .int x4, .int x5, .int x6, .int (zfd g), .int (nI (q + 1)), x9], [], zMk (s, J)) = some (.int (zpf (zpl L fx d (q + 1) g)), zMk (s, J2)) ∧ (∀ r, r ≠ 75 → J2 r = I r) := by
      intro J g x9 hg j1
      obtain ⟨J2, e, i1⟩ := ih (q + 1) g J x9 (by omega) hg (by rw [j1 58 (by decide), j1 70 (by decide), j1 71 (by decide), j1 72 (by decide), j1 73 (by decide), j1 74 (by decide)]; exact hC) (fun i hi => by rw [j1 76 (by decide)]; exact hx i hi)
      exact ⟨J2, e, fun r a => (i1 r a).trans (j1 r a)⟩
    have hcond : ∃ J, zf_212 [.ref 58, .int (I 73 (nI q).toNatClampNeg), .int (I 74 (nI q).toNatClampNeg)] (zMk (s, I)) = some (.int (zev L.c fx (L.t q) (L.t q - L.h q) (L.h q) []), zMk (s, J)) ∧ (∀ r, r ≠ 75 → J r = I r) := by
      rw [hcl, u3, u4]
      exact zf212 s (by omega) w2 w4 w5 (by rw [w6]; rfl) (fun i hi => c3 i (by omega)) hx
    obtain ⟨J, e, j1⟩ := hcond
    have hbool := zev_b (fx := fx) w4 w6 (L.t q - L.h q) (L.h q) [] (Nat.le_refl _) w2 (by omega) (by rw [w5]; exact trivial)
    have main : ¬ (L.k q = false ∧ f ≠ none) → ∃ J2, zQ_213 (132, [.ref 58, .int x1, .int x2, .int x3, .int x4, .int x5, .int x6, .int (zfd f), .int (nI q), x9], [.int (zev L.c fx (L.t q) (L.t q - L.h q) (L.h q) [])], zMk (s, J)) = some (.int (zpf (zpl L fx (d + 1) q f)), zMk (s, J2)) ∧ (∀ r, r ≠ 75 → J2 r = I r) := by
      intro hno
      rw [zq_213_132, zpl_s]
      by_cases hz : zev L.c fx (L.t q) (L.t q - L.h q) (L.h q) [] = 0
      · rw [hz, if_neg (show ¬ (0 : Int32) = 1 by decide), nI_1, if_pos (show (L.k q = false ∧ f ≠ none) ∨ (0 : Int32) = 0 from Or.inr rfl)]
        exact next J f _ hf j1
      · have h1 : zev L.c fx (L.t q) (L.t q - L.h q) (L.h q) [] = 1 := hbool.resolve_left hz
        rw [h1, if_pos rfl, if_pos hb, if_neg (show ¬ ((L.k q = false ∧ f ≠ none) ∨ (1 : Int32) = 0) from fun h => h.elim hno (by decide)), hcl, j1 71 (by decide)]
        by_cases hk : L.k q = true
        · rw [k1 hk, if_neg (not_not_intro rfl), if_pos hk]
          exact ⟨J, rfl, j1⟩
        · have hk' : L.k q = false := by
            cases h : L.k q with
            | true => exact absurd h hk
            | false => rfl
          obtain ⟨ty2, v4, v5, v6⟩ := w7 hk'
          have hpr : ∃ J3, zf_212 [.ref 58, .int (J 72 q), .int (J 73 q)] (zMk (s, J)) = some (.int (zev L.c fx (L.h q) (L.h q - L.f q) (L.f q) []), zMk (s, J3)) ∧ (∀ r, r ≠ 75 → J3 r = J r) := by
            rw [j1 72 (by decide), j1 73 (by decide), u2, u3]
            exact zf212 s (by omega) w1 v4 v5 (by rw [v6]; rfl) (fun i hi => by rw [j1 70 (by decide)]; exact c3 i (by omega)) (fun i hi => by rw [j1 76 (by decide)]; exact hx i hi)
          obtain ⟨J3, e3, i1⟩ := hpr
          rw [k2 hk', if_pos (show ¬ (99 : Int32) = 110 by decide), if_pos hb, if_pos hb, e3, zcI_some, zq_213_153, nI_1, if_neg hk]
          have hcl2 := zclp_r (zev L.c fx (L.h q) (L.h q - L.f q) (L.f q) [])
          have nx := next J3 (some (zclp (zev L.c fx (L.h q) (L.h q - L.f q) (L.f q) []))) (.int (zev L.c fx (L.h q) (L.h q - L.f q) (L.f q) [])) (fun p hp => by rw [← Option.some.inj hp]; exact (zclp_c _).2) (fun r a => (i1 r a).trans (j1 r a))
          rw [show zfd (some (zclp (zev L.c fx (L.h q) (L.h q - L.f q) (L.f q) []))) = nI (zclp (zev L.c fx (L.h q) (L.h q - L.f q) (L.f q) [])) from rfl, ← hcl2] at nx
          by_cases g1 : 0 ≤ zev L.c fx (L.h q) (L.h q - L.f q) (L.f q) []
          · rw [if_pos g1] at nx ⊢
            by_cases g2 : zev L.c fx (L.h q) (L.h q - L.f q) (L.f q) [] ≤ 9999
            · rw [if_pos g2] at nx ⊢
              exact nx
            · rw [if_neg g2] at nx ⊢
              exact nx
          · rw [if_neg g1] at nx ⊢
            exact nx
    rw [zq_213_109, hC.1, if_neg (nI_ge hlt (by omega)), if_pos hb]
    cases hk : L.k q with
    | true =>
      rw [show I 71 (nI q).toNatClampNeg = 110 by rw [hcl]; exact k1 hk, if_pos (show ¬ (110 : Int32) = 99 by decide), if_pos hb, if_pos hb, e, zcI_some]
      exact main (fun h => by rw [hk] at h; cases h.1)
    | false =>
      rw [show I 71 (nI q).toNatClampNeg = 99 by rw [hcl]; exact k2 hk, if_neg (not_not_intro rfl)]
      cases f with
      | none =>
        rw [if_neg (not_not_intro (show zfd none = -1 from rfl)), if_pos hb, if_pos hb, e, zcI_some]
        exact main (fun h => h.2 rfl)
      | some p =>
        rw [if_pos (zfd_n (hf p rfl)), nI_1, zpl_s, if_pos (show (L.k q = false ∧ some p ≠ none) ∨ zev L.c fx (L.t q) (L.t q - L.h q) (L.h q) [] = 0 from Or.inl ⟨hk, fun h => by cases h⟩)]
        exact next I (some p) _ hf (fun _ _ => rfl)
