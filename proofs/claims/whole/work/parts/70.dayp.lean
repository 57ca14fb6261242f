/-! A DAY: FROM HOME ON, AND BACK -/
theorem zmn_n (a : Option Nat) : zmn a none = a := by cases a <;> rfl
def zmf (f : Nat → Option Nat) : Nat → Option Nat
  | 0 => none
  | k + 1 => zmn (zmf f k) (f k)
theorem zmf_s (f : Nat → Option Nat) (k : Nat) : zmf f (k + 1) = zmn (zmf f k) (f k) := rfl
theorem zmn_some {a b : Option Nat} {x : Nat} (h : zmn a b = some x) : (a = some x ∨ b = some x) ∧ (∀ y, a = some y → x ≤ y) ∧ ∀ y, b = some y → x ≤ y := by
  cases a with
  | none => exact ⟨Or.inr h, fun y q => (nomatch q), fun y q => by rw [show b = some x from h] at q; exact Nat.le_of_eq (Option.some.inj q)⟩
  | some u =>
    cases b with
    | none =>
      have h : u = x := Option.some.inj h
      subst h
      exact ⟨Or.inl rfl, fun y q => Nat.le_of_eq (Option.some.inj q), fun y q => (nomatch q)⟩
    | some v =>
      have h : min u v = x := Option.some.inj h
      subst h
      refine ⟨?_, fun y q => ?_, fun y q => ?_⟩
      · by_cases hc : u ≤ v
        · exact Or.inl (by rw [Nat.min_eq_left hc])
        · exact Or.inr (by rw [Nat.min_eq_right (by omega)])
      · have := Option.some.inj q
        omega
      · have := Option.some.inj q
        omega
theorem zmn_l {a b : Option Nat} {y : Nat} (h : a = some y ∨ b = some y) : ∃ x, zmn a b = some x := by
  cases a with
  | none =>
    cases b with
    | none => rcases h with h | h <;> cases h
    | some v => exact ⟨v, rfl⟩
  | some u =>
    cases b with
    | none => exact ⟨u, rfl⟩
    | some v => exact ⟨min u v, rfl⟩
theorem zmf_in {f : Nat → Option Nat} : ∀ n x, zmf f n = some x → ∃ j, j < n ∧ f j = some x
  | 0, _, h => nomatch h
  | n + 1, x, h => by
    rw [zmf_s] at h
    rcases (zmn_some h).1 with q | q
    · obtain ⟨j, hj, e⟩ := zmf_in n x q
      exact ⟨j, by omega, e⟩
    · exact ⟨n, by omega, q⟩
theorem zmf_le {f : Nat → Option Nat} : ∀ n j y, j < n → f j = some y → ∃ x, zmf f n = some x ∧ x ≤ y
  | 0, _, _, h, _ => absurd h (Nat.not_lt_zero _)
  | n + 1, j, y, h, e => by
    rw [zmf_s]
    by_cases hj : j = n
    · subst hj
      obtain ⟨x, hx⟩ := zmn_l (a := zmf f j) (b := f j) (Or.inr e)
      exact ⟨x, hx, (zmn_some hx).2.2 y e⟩
    · obtain ⟨u, hu, hl⟩ := zmf_le n j y (by omega) e
      obtain ⟨x, hx⟩ := zmn_l (a := zmf f n) (b := f n) (Or.inl hu)
      have := (zmn_some hx).2.1 u hu
      exact ⟨x, hx, by omega⟩
/-- at most -/
def zol (a b : Option Nat) : Prop := ∀ x, b = some x → ∃ y, a = some y ∧ y ≤ x
theorem zol_eq {a b : Option Nat} (h : zol a b) (g : zol b a) : a = b := by
  cases hb : b with
  | none =>
    cases ha : a with
    | none => rfl
    | some x =>
      obtain ⟨y, hy, -⟩ := g x ha
      rw [hb] at hy
      cases hy
  | some x =>
    obtain ⟨y, hy, l1⟩ := h x hb
    obtain ⟨z, hz, l2⟩ := g y hy
    rw [hb] at hz
    have := Option.some.inj hz
    rw [hy, show y = x by omega]
theorem sub_bit : ∀ A, A < 256 → ∀ e, e < 8 → A.testBit e = true → (A - 2 ^ e).testBit e = false ∧ (A - 2 ^ e) ||| 2 ^ e = A ∧ 2 ^ e ≤ A := by
  have h : ∀ A, A < 256 → ∀ e, e < 8 → (A.testBit e && !(decide ((A - 2 ^ e).testBit e = false) && (decide ((A - 2 ^ e) ||| 2 ^ e = A) && decide (2 ^ e ≤ A)))) = false := by decide +kernel
  intro A hA e he hb
  have := h A hA e he
  rw [hb] at this
  simpa using this
theorem sub_in {A X e : Nat} (hA : A < 256) (he : e < 8) (hb : A.testBit e = true) (hs : A &&& X = A) : (A - 2 ^ e) &&& X = A - 2 ^ e ∧ ∀ i, (A - 2 ^ e).testBit i = true → A.testBit i = true := by
  obtain ⟨-, h2, -⟩ := sub_bit A hA e he hb
  have h3 : ∀ i, (A - 2 ^ e).testBit i = true → A.testBit i = true := fun i q => by
    rw [← h2, Nat.testBit_or, q]
    rfl
  refine ⟨?_, h3⟩
  apply Nat.eq_of_testBit_eq
  intro i
  rw [Nat.testBit_and]
  cases q : (A - 2 ^ e).testBit i with
  | false => rfl
  | true => rw [zset_b hs i (h3 i q)]; rfl
/-- the step onto e, from a set done and the places' numbers -/
def zst1 (L : zLw) (st : zSt) (A e : Nat) (g : Nat → Option Nat) (k : Nat) : Option Nat := zsm (g k) (zdc L st (zld st A) (st.ea k) (st.ea e))
def zfc (L : zLw) (st : zSt) (home : Nat) (T : Nat → Nat → Option Nat) (B e : Nat) : Option Nat :=
  if B.testBit e = true then (if B = 2 ^ e then zdc L st 0 home (st.ea e) else zmf (zst1 L st (B - 2 ^ e) e (T (B - 2 ^ e))) 8) else none
def zft (L : zLw) (st : zSt) (home : Nat) : Nat → Nat → Nat → Option Nat
  | 0, _, _ => none
  | n + 1, B, e => if B = n then zfc L st home (zft L st home n) B e else zft L st home n B e
theorem zft_s (L : zLw) (st : zSt) (home n B e : Nat) : zft L st home (n + 1) B e = if B = n then zfc L st home (zft L st home n) B e else zft L st home n B e := rfl
/-- the least cost of the errands of a set, from home on, the last one at e -/
def zFd (L : zLw) (st : zSt) (home B e : Nat) : Option Nat := zft L st home (B + 1) B e
theorem zft_Fd {L : zLw} {st : zSt} {home : Nat} : ∀ n B e, B < n → zft L st home n B e = zFd L st home B e
  | 0, _, _, h => absurd h (Nat.not_lt_zero _)
  | n + 1, B, e, h => by
    by_cases hB : B = n
    · subst hB
      rfl
    · rw [zft_s, if_neg hB]
      exact zft_Fd n B e (by omega)
theorem zFd_no {L : zLw} {st : zSt} {home B e : Nat} (h : B.testBit e = false) : zFd L st home B e = none := by
  show zft L st home (B + 1) B e = none
  rw [zft_s, if_pos rfl]
  exact if_neg (by rw [h]; decide)
theorem zFd_1 {L : zLw} {st : zSt} {home e : Nat} (he : e < 8) : zFd L st home (2 ^ e) e = zdc L st 0 home (st.ea e) := by
  show zft L st home (2 ^ e + 1) (2 ^ e) e = _
  rw [zft_s, if_pos rfl]
  have hb : (2 ^ e).testBit e = true := by rw [bit_pow e he e he]; simp
  unfold zfc
  rw [if_pos hb, if_pos rfl]
theorem zmf_cg {f g : Nat → Option Nat} : ∀ n, (∀ j, j < n → f j = g j) → zmf f n = zmf g n
  | 0, _ => rfl
  | n + 1, h => by rw [zmf_s, zmf_s, h n (by omega), zmf_cg n (fun j hj => h j (by omega))]
theorem zFd_s {L : zLw} {st : zSt} {home B e : Nat} (hb : B.testBit e = true) (h1 : B ≠ 2 ^ e) : zFd L st home B e = zmf (zst1 L st (B - 2 ^ e) e (zFd L st home (B - 2 ^ e))) 8 := by
  show zft L st home (B + 1) B e = _
  rw [zft_s, if_pos rfl]
  unfold zfc
  rw [if_pos hb, if_neg h1]
  have hB : 0 < B := by
    cases B with
    | zero => rw [Nat.zero_testBit] at hb; cases hb
    | succ n => omega
  have : 0 < 2 ^ e := Nat.two_pow_pos e
  apply zmf_cg
  intro j _
  unfold zst1
  rw [zft_Fd B _ _ (by omega)]
theorem zFd_le {L : zLw} {st : zSt} (hs : zsmall L st) (hP : st.P ≤ 20) {X home : Nat} (hX : ∀ e, e < 8 → X.testBit e = true → st.ea e < st.P) (hh : home < st.P) : ∀ n B e x, B < n → B < 256 → B &&& X = B → e < 8 → zFd L st home B e = some x → x ≤ 189981 * (B + 1)
  | 0, _, _, _, h, _, _, _, _ => absurd h (Nat.not_lt_zero _)
  | n + 1, B, e, x, h, hB, hsub, he, hx => by
    cases hb : B.testBit e with
    | false => rw [zFd_no hb] at hx; cases hx
    | true =>
      have hp := hX e he (zset_b hsub e hb)
      by_cases h1 : B = 2 ^ e
      · rw [h1, zFd_1 he] at hx
        have := zdc_le hs hP hh hp hx
        omega
      · rw [zFd_s hb h1] at hx
        obtain ⟨k, hk, q⟩ := zmf_in 8 x hx
        obtain ⟨u, v, a, b, c⟩ := zsm_some q
        obtain ⟨s1, s2, s3⟩ := sub_bit B hB e he hb
        obtain ⟨s4, s5⟩ := sub_in hB he hb hsub
        have : 0 < 2 ^ e := Nat.two_pow_pos e
        have hbk : (B - 2 ^ e).testBit k = true := by
          cases q : (B - 2 ^ e).testBit k with
          | true => rfl
          | false => rw [zFd_no q] at a; cases a
        have := zFd_le hs hP hX hh n (B - 2 ^ e) k u (by omega) (by omega) s4 hk a
        have := zdc_le hs hP (hX k hk (zset_b s4 k hbk)) hp b
        have : 189981 * (B - 2 ^ e + 1) ≤ 189981 * B := Nat.mul_le_mul_left _ (by omega)
        rw [Nat.mul_succ]
        omega
theorem zrs_st {L : zLw} {st : zSt} {X home A here e u v : Nat} (hA : A < 256) (he : e < 8) (hb : X.testBit e = true) (hAe : A.testBit e = false) (h1 : zdc L st (zld st A) here (st.ea e) = some u) (h2 : zrs L st X home (A ||| 2 ^ e) (st.ea e) = some v) : ∃ y, zrs L st X home A here = some y ∧ y ≤ u + v := by
  have hne : A ≠ X := fun q => by rw [q, hb] at hAe; cases hAe
  rw [zrs_eq hA, if_neg hne]
  have hg : zrg L st X home A here e = some (u + v) := by
    unfold zrg
    rw [if_pos ⟨hb, hAe⟩, h1, h2]
    rfl
  cases hz : zam (zrg L st X home A here) 8 with
  | none => rw [zam_none 8 hz e he] at hg; cases hg
  | some p =>
    obtain ⟨i, y⟩ := p
    exact ⟨y, rfl, (zam_first 8 i y hz).2 e (u + v) he hg⟩
theorem zrs_at {L : zLw} {st : zSt} {X home A here v : Nat} (hA : A < 256) (hne : A ≠ X) (h : zrs L st X home A here = some v) : ∃ e p q, e < 8 ∧ X.testBit e = true ∧ A.testBit e = false ∧ zdc L st (zld st A) here (st.ea e) = some p ∧ zrs L st X home (A ||| 2 ^ e) (st.ea e) = some q ∧ v = p + q := by
  rw [zrs_eq hA, if_neg hne] at h
  cases hz : zam (zrg L st X home A here) 8 with
  | none => rw [hz] at h; cases h
  | some r =>
    obtain ⟨i, y⟩ := r
    rw [hz] at h
    have h : y = v := Option.some.inj h
    subst h
    obtain ⟨z1, z2⟩ := zam_in 8 i y hz
    unfold zrg at z2
    split at z2
    · rename_i hc
      obtain ⟨p, q, a, b, c⟩ := zsm_some z2
      exact ⟨i, p, q, z1, hc.1, hc.2, a, b, by omega⟩
    · cases z2
theorem zFd_up {L : zLw} {st : zSt} {X home : Nat} (hX : X < 256) (h0 : X ≠ 0) : ∀ n A e, A < n → A < 256 → A &&& X = A → e < 8 → A.testBit e = true → zol (zrs L st X home 0 home) (zsm (zFd L st home A e) (zrs L st X home A (st.ea e)))
  | 0, _, _, h, _, _, _, _ => absurd h (Nat.not_lt_zero _)
  | n + 1, A, e, h, hA, hs, he, hb => by
    intro x hx
    obtain ⟨u, v, a, b, c⟩ := zsm_some hx
    by_cases h1 : A = 2 ^ e
    · rw [h1, zFd_1 he] at a
      rw [h1] at b
      obtain ⟨y, hy, hl⟩ := zrs_st (L := L) (st := st) (X := X) (home := home) (A := 0) (here := home) (by decide) he (zset_b hs e hb) (Nat.zero_testBit e) a (by rw [Nat.zero_or]; exact b)
      exact ⟨y, hy, by omega⟩
    · rw [zFd_s hb h1] at a
      obtain ⟨k, hk, q⟩ := zmf_in 8 u a
      obtain ⟨p, r, a1, a2, a3⟩ := zsm_some q
      obtain ⟨s1, s2, s3⟩ := sub_bit A hA e he hb
      obtain ⟨s4, s5⟩ := sub_in hA he hb hs
      have : 0 < 2 ^ e := Nat.two_pow_pos e
      have hbk : (A - 2 ^ e).testBit k = true := by
        cases q : (A - 2 ^ e).testBit k with
        | true => rfl
        | false => rw [zFd_no q] at a1; cases a1
      obtain ⟨y, hy, hl⟩ := zrs_st (L := L) (st := st) (X := X) (home := home) (A := A - 2 ^ e) (here := st.ea k) (by omega) he (zset_b hs e hb) s1 a2 (by rw [s2]; exact b)
      obtain ⟨z, hz, hl2⟩ := zFd_up hX h0 n (A - 2 ^ e) k (by omega) (by omega) s4 hk hbk (p + y) (by rw [a1, hy]; rfl)
      exact ⟨z, hz, by omega⟩
/-- the round of a set, closed at home -/
def zcl (L : zLw) (st : zSt) (home X e : Nat) : Option Nat := zsm (zFd L st home X e) (zdc L st (zld st X) (st.ea e) home)
theorem zFd_dn {L : zLw} {st : zSt} {X home : Nat} (hX : X < 256) : ∀ n A e, 256 ≤ A + n → A < 256 → A &&& X = A → e < 8 → A.testBit e = true → zol (zmf (zcl L st home X) 8) (zsm (zFd L st home A e) (zrs L st X home A (st.ea e)))
  | 0, _, _, h, h', _, _, _ => absurd h (by omega)
  | n + 1, A, e, h, hA, hs, he, hb => by
    intro x hx
    obtain ⟨u, v, a, b, c⟩ := zsm_some hx
    by_cases h1 : A = X
    · subst h1
      rw [zrs_eq hA, if_pos rfl] at b
      obtain ⟨y, hy, hl⟩ := zmf_le (f := zcl L st home A) 8 e (u + v) he (by unfold zcl; rw [a, b]; rfl)
      exact ⟨y, hy, by omega⟩
    · obtain ⟨k, p, q, hk, k1, k2, k3, k4, k5⟩ := zrs_at hA h1 b
      obtain ⟨o1, o2⟩ := or_add A hA k hk k2
      have : 0 < 2 ^ k := Nat.two_pow_pos k
      have hbk : (A ||| 2 ^ k).testBit k = true := by rw [Nat.testBit_or, Nat.testBit_two_pow]; simp
      have hbe : (A ||| 2 ^ k).testBit e = true := by rw [Nat.testBit_or, hb]; rfl
      have hne : A ||| 2 ^ k ≠ 2 ^ k := fun w => by
        rw [w, bit_pow k hk e he] at hbe
        have : e = k := of_decide_eq_true hbe
        rw [← this, hb] at k2
        cases k2
      have hF : zFd L st home (A ||| 2 ^ k) k = zmf (zst1 L st A k (zFd L st home A)) 8 := by
        rw [zFd_s hbk hne, o1, show A + 2 ^ k - 2 ^ k = A by omega]
      obtain ⟨w, hw, hl⟩ := zmf_le (f := zst1 L st A k (zFd L st home A)) 8 e (u + p) he (by unfold zst1; rw [a, k3]; rfl)
      obtain ⟨z, hz, hl2⟩ := zFd_dn hX n (A ||| 2 ^ k) k (by omega) (by omega) (or_sub hs k1) hk hbk (w + q) (by rw [hF, hw, k4]; rfl)
      exact ⟨z, hz, by omega⟩
theorem zcl_eq {L : zLw} {st : zSt} {X home : Nat} (hX : X < 256) (h0 : X ≠ 0) : zmf (zcl L st home X) 8 = zrs L st X home 0 home := by
  apply zol_eq
  · intro x hx
    obtain ⟨e, p, q, he, k1, k2, k3, k4, k5⟩ := zrs_at (by decide) (Ne.symm h0) hx
    rw [Nat.zero_or] at k4
    have hb : (2 ^ e).testBit e = true := by rw [bit_pow e he e he]; simp
    have hs : 2 ^ e &&& X = 2 ^ e := by
      have := or_sub (A := 0) (X := X) (e := e) (Nat.zero_and X) k1
      rw [Nat.zero_or] at this
      exact this
    exact zFd_dn hX 256 (2 ^ e) e (by omega) (pow_256 e he) hs he hb x (by rw [zFd_1 he, show zdc L st 0 home (st.ea e) = some p from k3, k4, k5]; rfl)
  · intro x hx
    obtain ⟨e, he, hq⟩ := zmf_in 8 x hx
    obtain ⟨u, v, a, b, c⟩ := zsm_some hq
    have hb : X.testBit e = true := by
      cases q : X.testBit e with
      | true => rfl
      | false => rw [zFd_no q] at a; cases a
    exact zFd_up hX h0 256 X e hX hX (Nat.and_self X) he hb x (by rw [a, zrs_eq hX, if_pos rfl, b, c]; rfl)
