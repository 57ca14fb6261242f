/-! SHOPS, AS A CALL -/
theorem zR1_min {a b : Option Nat} (ha : ∀ x, a = some x → x < 1000000000) (hb : ∀ x, b = some x → x < 1000000000) : min (zR1 a) (zR1 b) = zR1 (zmn a b) := by
  cases a with
  | none =>
    cases b with
    | none => rfl
    | some y => have := hb y rfl; show min 1000000000 y = y; omega
  | some x =>
    have := ha x rfl
    cases b with
    | none => show min x 1000000000 = x; omega
    | some y => rfl
theorem zpb_s (L : zLw) (st : zSt) (S : Nat → Bool) (q p : Nat) : zpb L st S q (p + 1) = zmn (zpb L st S q p) (if S p = true then ztrip L st (st.pf q) p else none) := rfl
theorem zlp252i {L : zLw} {st : zSt} {s : zQs} {X q : Nat} (hX : X < 2 ^ 20) (hq : q < st.Q) (acc : Nat) : ∀ m p (I : Nat → Nat → Int32), p + m = st.P → zRe L st s I →
    ∃ J x4, zQ_252 (12, [.ref 58, .int (nI X), .int (nI acc), .int (nI q), .int (nI (zR1 (zpb L st (fun p => X.testBit p) q p))), .int (nI p)], [], zMk (s, I)) = zQ_252 (4, [.ref 58, .int (nI X), .int (nI (acc + zpv L st (fun p => X.testBit p) q)), .int (nI (q + 1)), x4, .int (nI st.P)], [], zMk (s, J)) ∧ zRs I J ∧ zRe L st s J
  | 0, p, I, h, hE => by
    have h : p = st.P := by omega
    subst h
    have hP := zEv_P hE.1
    refine ⟨I, .int (nI (zR1 (zpb L st (fun p => X.testBit p) q st.P))), ?_, zRs_rfl I, hE⟩
    rw [zq_252_12, zEv_p2 hE.1, if_pos (nI_le (Nat.le_refl _) (by omega)), nI_1]
    unfold zpv
    cases hz : zpb L st (fun p => X.testBit p) q st.P with
    | none =>
      rw [if_neg (show ¬ nI (zR1 none) < (1000000000 : Int32) by decide), show nI acc + 1000 = nI (acc + 1000) from nI_add _ 1000]
    | some x =>
      have := zpb_le (s := s) hE.1 _ hq st.P x (Nat.le_refl _) hz
      rw [if_pos (show nI (zR1 (some x)) < (1000000000 : Int32) from nI_lt (b := 1000000000) (show x < 1000000000 by omega) (by decide)), nI_add]
      rfl
  | m + 1, p, I, h, hE => by
    have hP := zEv_P hE.1
    have hp : p < st.P := by omega
    obtain ⟨hQ, -, q2, hfo⟩ := hE.1.2.2.2.2.2.1
    obtain ⟨f1, f2, f3, f4, f5, f6, f7, -⟩ := hfo q hq
    rw [zq_252_12, zEv_p2 hE.1, if_neg (nI_ge (by omega) (by omega)), bit_gen (show X < 2 ^ 31 by omega) (show p < 31 by omega)]
    by_cases hb : X.testBit p = true
    · obtain ⟨J1, e1, a1, a2⟩ := zf251 hE f1 hp
      have c0 : ∀ x, zpb L st (fun p => X.testBit p) q p = some x → x < 1000000000 := fun x hx => by have := zpb_le (s := s) hE.1 _ hq p x (by omega) hx; omega
      have c1 : ∀ x, ztrip L st (st.pf q) p = some x → x < 1000000000 := fun x hx => by have := ztrip_le (zEv_small (L := L) (s := s) hE.1) hP f1 hp hx; omega
      have b0 : zR1 (zpb L st (fun p => X.testBit p) q p) ≤ 1000000000 := (zR1_cap (B := 999999999) (by decide) (fun x hx => by have := c0 x hx; omega)).1
      have b1 : zR1 (ztrip L st (st.pf q) p) ≤ 1000000000 := (zR1_cap (B := 999999999) (by decide) (fun x hx => by have := c1 x hx; omega)).1
      obtain ⟨J, x4, e, k1, k2⟩ := zlp252i hX hq acc m (p + 1) J1 (by omega) a2
      rw [zpb_s, if_pos hb] at e
      refine ⟨J, x4, ?_, zRs_tr a1 k1, k2⟩
      rw [if_pos hb, if_neg (not_not_intro rfl), if_pos (zb_t (show q < 8 by omega) (by omega)), nI_clamp (show q < 2 ^ 31 by omega), f7, e1, zcI_some, zq_252_31, zl_181]
      have em : (if nI (zR1 (ztrip L st (st.pf q) p)) ≤ nI (zR1 (zpb L st (fun p => X.testBit p) q p)) then some (Value.int (nI (zR1 (ztrip L st (st.pf q) p))), zMk (s, J1)) else some (Value.int (nI (zR1 (zpb L st (fun p => X.testBit p) q p))), zMk (s, J1))) = some (Value.int (nI (zR1 (zmn (zpb L st (fun p => X.testBit p) q p) (ztrip L st (st.pf q) p)))), zMk (s, J1)) := by
        rw [← zR1_min c0 c1]
        by_cases hl : zR1 (ztrip L st (st.pf q) p) ≤ zR1 (zpb L st (fun p => X.testBit p) q p)
        · rw [if_pos (nI_le hl (by omega)), Nat.min_eq_right hl]
        · rw [if_neg (nI_ge (by omega) (by omega)), Nat.min_eq_left (by omega)]
      rw [em, zcI_some, zq_252_32, nI_1]
      exact e
    · obtain ⟨J, x4, e, k1, k2⟩ := zlp252i hX hq acc m (p + 1) I (by omega) hE
      rw [zpb_s, if_neg hb, zmn_n] at e
      refine ⟨J, x4, ?_, k1, k2⟩
      rw [if_neg hb, if_pos (show ¬ (0 : Int32) = 1 by decide), nI_1]
      exact e
theorem zlp252 {L : zLw} {st : zSt} {s : zQs} {X : Nat} (hX : X < 2 ^ 20) : ∀ m q (I : Nat → Nat → Int32) (x4 x5 : Value), q + m = st.Q → zRe L st s I →
    ∃ J, zQ_252 (4, [.ref 58, .int (nI X), .int (nI (zmk L st (fun p => X.testBit p) q)), .int (nI q), x4, x5], [], zMk (s, I)) = some (.int (nI (zmk L st (fun p => X.testBit p) st.Q)), zMk (s, J)) ∧ zRs I J ∧ zRe L st s J
  | 0, q, I, x4, x5, h, hE => by
    have h : q = st.Q := by omega
    subst h
    obtain ⟨hQ, -, q2, hfo⟩ := hE.1.2.2.2.2.2.1
    refine ⟨I, ?_, zRs_rfl I, hE⟩
    rw [zq_252_4, q2, if_pos (nI_le (Nat.le_refl _) (by omega))]
  | m + 1, q, I, x4, x5, h, hE => by
    obtain ⟨hQ, -, q2, hfo⟩ := hE.1.2.2.2.2.2.1
    obtain ⟨J1, y4, e1, a1, a2⟩ := zlp252i hX (show q < st.Q by omega) (zmk L st (fun p => X.testBit p) q) st.P 0 I (Nat.zero_add _) hE
    have e1 : zQ_252 (12, [.ref 58, .int (nI X), .int (nI (zmk L st (fun p => X.testBit p) q)), .int (nI q), .int 1000000000, .int 0], [], zMk (s, I)) = _ := e1
    obtain ⟨J, e, k1, k2⟩ := zlp252 hX m (q + 1) J1 y4 (.int (nI st.P)) (by omega) a2
    refine ⟨J, ?_, zRs_tr a1 k1, k2⟩
    rw [zq_252_4, q2, if_neg (nI_ge (by omega) (by omega)), e1]
    exact e
theorem zf252 {L : zLw} {st : zSt} {s : zQs} {X : Nat} {I : Nat → Nat → Int32} (hX : X < 2 ^ 20) (hE : zRe L st s I) :
    ∃ J, zf_252 [.ref 58, .int (nI X)] (zMk (s, I)) = some (.int (nI (zmk L st (fun p => X.testBit p) st.Q)), zMk (s, J)) ∧ zRs I J ∧ zRe L st s J := by
  rw [zqz_252, zq_252_0]
  exact zlp252 hX st.Q 0 I (.long 0) (.long 0) (Nat.zero_add _) hE
theorem bit_out {X P : Nat} (hX : X < 2 ^ 31) (hP : P ≤ 20) : (nI X &&& (nI (2 ^ P - 1) ^^^ (-1)) = 0) ↔ X < 2 ^ P := by
  have hm : ∀ k, k < 32 → ((-1 : Int32).toBitVec).getLsbD k = true := by decide +kernel
  have hb : ∀ i, i < 32 → (nI X &&& (nI (2 ^ P - 1) ^^^ (-1))).toBitVec.getLsbD i = (X.testBit i && !decide (i < P)) := by
    intro i hi
    show (BitVec.ofNat 32 X &&& (BitVec.ofNat 32 (2 ^ P - 1) ^^^ (-1 : Int32).toBitVec)).getLsbD i = _
    rw [BitVec.getLsbD_and, BitVec.getLsbD_xor, BitVec.getLsbD_ofNat, BitVec.getLsbD_ofNat, hm i hi, Nat.testBit_two_pow_sub_one]
    simp [hi]
  constructor
  · intro h
    apply Nat.lt_pow_two_of_testBit
    intro i hi
    by_cases h32 : i < 32
    · have := hb i h32
      rw [h] at this
      have z : ((0 : Int32).toBitVec).getLsbD i = false := by
        show (BitVec.ofNat 32 0).getLsbD i = false
        rw [BitVec.getLsbD_ofNat, Nat.zero_testBit]
        simp
      rw [z] at this
      have hn : decide (i < P) = false := decide_eq_false (by omega)
      rw [hn] at this
      simpa using this.symm
    · exact Nat.testBit_lt_two_pow (Nat.lt_of_lt_of_le hX (Nat.pow_le_pow_right (by decide) (by omega)))
  · intro h
    apply Int32.toBitVec_inj.mp
    apply BitVec.eq_of_getLsbD_eq
    intro i hi
    rw [hb i hi]
    show _ = (BitVec.ofNat 32 0).getLsbD i
    rw [BitVec.getLsbD_ofNat, Nat.zero_testBit]
    by_cases hp : i < P
    · simp [hp]
    · have : X.testBit i = false := Nat.testBit_lt_two_pow (Nat.lt_of_lt_of_le h (Nat.pow_le_pow_right (by decide) (by omega)))
      simp [this]
theorem zcn_0 {f : Nat → Bool} : ∀ n, zcn f n = 0 → ∀ i, i < n → f i = false
  | 0, _, _, h => absurd h (Nat.not_lt_zero _)
  | n + 1, h, i, hi => by
    rw [zcn_s] at h
    by_cases e : i = n
    · subst e
      cases hf : f i with
      | false => rfl
      | true => rw [hf] at h; rw [if_pos rfl] at h; omega
    · exact zcn_0 n (by omega) i (by omega)
theorem zcn_end {f : Nat → Bool} {k n : Nat} (hk : k ≤ n) (h : zcn f n ≤ zcn f k) : ∀ i, k ≤ i → i < n → f i = false := by
  intro i h1 h2
  have := zcn_add f k (n - k)
  rw [show k + (n - k) = n by omega] at this
  have z := zcn_0 (f := fun i => f (k + i)) (n - k) (by omega) (i - k) (by omega)
  have z : f (k + (i - k)) = false := z
  rw [show k + (i - k) = i by omega] at z
  exact z
theorem zcn_mon {f : Nat → Bool} {k n : Nat} (hk : k ≤ n) : zcn f k ≤ zcn f n := by
  have := zcn_add f k (n - k)
  rw [show k + (n - k) = n by omega] at this
  omega
