/-! BITS OF SETS OF PLACES -/
theorem bit_gen {X k : Nat} (hX : X < 2 ^ 31) (hk : k < 31) : (nI X >>> (nI k &&& 31)) &&& 1 = if X.testBit k = true then 1 else 0 := by
  have hs : ∀ k, k < 31 → BitVec.smod ((nI k &&& 31 : Int32).toBitVec) 32#32 = BitVec.ofNat 32 k := by decide +kernel
  have h1 : ∀ i, i < 32 → (1#32).getLsbD i = decide (i = 0) := by decide
  have e1 : (if X.testBit k = true then (1 : Int32) else 0).toBitVec = BitVec.ofNat 32 (if X.testBit k = true then 1 else 0) := by split <;> rfl
  apply Int32.toBitVec_inj.mp
  rw [e1]
  apply BitVec.eq_of_getLsbD_eq
  intro i hi
  show (BitVec.sshiftRight' (BitVec.ofNat 32 X) (BitVec.smod ((nI k &&& 31 : Int32).toBitVec) 32#32) &&& 1#32).getLsbD i = _
  rw [hs k hk, BitVec.getLsbD_and, h1 i hi]
  show (((BitVec.ofNat 32 X).sshiftRight ((BitVec.ofNat 32 k).toNat)).getLsbD i && _) = _
  rw [BitVec.toNat_ofNat, Nat.mod_eq_of_lt (show k < 2 ^ 32 by omega), BitVec.getLsbD_sshiftRight]
  have h2 : ∀ i, i < 32 → (1 : Nat).testBit i = decide (i = 0) := by decide
  rw [BitVec.getLsbD_ofNat]
  by_cases h0 : i = 0
  · subst h0
    rw [if_pos (show k + 0 < 32 by omega), BitVec.getLsbD_ofNat]
    cases hb : X.testBit k with
    | false => simp [hb]
    | true => simp [hb, show k < 32 by omega]
  · cases hb : X.testBit k with
    | false => simp [h0]
    | true => simp [h0, hi, h2 i hi]
theorem nI_land {a b : Nat} (ha : a < 2 ^ 31) (hb : b < 2 ^ 31) : nI a &&& nI b = nI (a &&& b) := by
  have hc : a &&& b ≤ a := Nat.and_le_left
  apply Int32.toBitVec_inj.mp
  apply BitVec.eq_of_toNat_eq
  show (BitVec.ofNat 32 a &&& BitVec.ofNat 32 b).toNat = (BitVec.ofNat 32 (a &&& b)).toNat
  rw [BitVec.toNat_and, BitVec.toNat_ofNat, BitVec.toNat_ofNat, BitVec.toNat_ofNat, Nat.mod_eq_of_lt (show a < 2 ^ 32 by omega), Nat.mod_eq_of_lt (show b < 2 ^ 32 by omega), Nat.mod_eq_of_lt (show a &&& b < 2 ^ 32 by omega)]
theorem nI_ush {x : Nat} (hx : x < 2 ^ 31) (k : Nat) (m : Int32) (hm : m = nI k) (hk : k < 32) : ((nI x).toUInt32 >>> (m.toUInt32 &&& Int32.toUInt32 31)).toInt32 = nI (x >>> k) := by
  have hs : ∀ k, k < 32 → ((nI k).toUInt32 &&& Int32.toUInt32 31).toBitVec % 32#32 = BitVec.ofNat 32 k := by decide +kernel
  have hc : x >>> k ≤ x := Nat.shiftRight_le x k
  subst hm
  apply Int32.toBitVec_inj.mp
  apply BitVec.eq_of_toNat_eq
  show (BitVec.ofNat 32 x >>> (((nI k).toUInt32 &&& Int32.toUInt32 31).toBitVec % 32#32)).toNat = (BitVec.ofNat 32 (x >>> k)).toNat
  rw [hs k hk]
  show (BitVec.ofNat 32 x >>> (BitVec.ofNat 32 k).toNat).toNat = _
  rw [BitVec.toNat_ushiftRight, BitVec.toNat_ofNat, BitVec.toNat_ofNat, BitVec.toNat_ofNat, Nat.mod_eq_of_lt (show x < 2 ^ 32 by omega), Nat.mod_eq_of_lt (show k < 2 ^ 32 by omega), Nat.mod_eq_of_lt (show x >>> k < 2 ^ 32 by omega)]
/-- byte by byte -/
theorem zby_and {a m b n : Nat} (ha : a < 256) (hm : m < 256) : (a + 256 * b) &&& (m + 256 * n) = (a &&& m) + 256 * (b &&& n) := by
  have hc : a &&& m < 2 ^ 8 := Nat.lt_of_le_of_lt Nat.and_le_left ha
  apply Nat.eq_of_testBit_eq
  intro i
  have e := fun (x y : Nat) (hx : x < 2 ^ 8) => Nat.testBit_two_pow_mul_add (i := 8) y hx i
  rw [Nat.testBit_and, show a + 256 * b = 2 ^ 8 * b + a from Nat.add_comm _ _, show m + 256 * n = 2 ^ 8 * n + m from Nat.add_comm _ _, show (a &&& m) + 256 * (b &&& n) = 2 ^ 8 * (b &&& n) + (a &&& m) from Nat.add_comm _ _, e a b ha, e m n hm, e (a &&& m) (b &&& n) hc]
  by_cases h : i < 8
  · simp [h, Nat.testBit_and]
  · simp [h, Nat.testBit_and]
theorem zby_shr {a m b n k : Nat} (ha : a < 256) (hk : k ≤ 8) (hm : m < 2 ^ (8 - k)) : ((a + 256 * b) >>> k) &&& (m + 256 * n) = ((a >>> k) &&& m) + 256 * ((b >>> k) &&& n) := by
  have hm8 : m < 2 ^ 8 := Nat.lt_of_lt_of_le hm (Nat.pow_le_pow_right (by decide) (by omega))
  have hc : (a >>> k) &&& m < 2 ^ 8 := Nat.lt_of_le_of_lt Nat.and_le_right hm8
  apply Nat.eq_of_testBit_eq
  intro i
  have e := fun (x y i : Nat) (hx : x < 2 ^ 8) => Nat.testBit_two_pow_mul_add (i := 8) y hx i
  rw [Nat.testBit_and, Nat.testBit_shiftRight, show a + 256 * b = 2 ^ 8 * b + a from Nat.add_comm _ _, show m + 256 * n = 2 ^ 8 * n + m from Nat.add_comm _ _, show ((a >>> k) &&& m) + 256 * ((b >>> k) &&& n) = 2 ^ 8 * ((b >>> k) &&& n) + ((a >>> k) &&& m) from Nat.add_comm _ _, e a b _ ha, e m n _ hm8, e _ _ _ hc]
  by_cases h : i < 8
  · by_cases h2 : k + i < 8
    · simp [h, h2, Nat.testBit_and, Nat.testBit_shiftRight]
    · have : m.testBit i = false := Nat.testBit_lt_two_pow (Nat.lt_of_lt_of_le hm (Nat.pow_le_pow_right (by decide) (by omega)))
      simp [h, Nat.testBit_and, this]
  · have h2 : ¬ k + i < 8 := by omega
    have h3 : k + i - 8 = k + (i - 8) := by omega
    simp [h, h2, h3, Nat.testBit_and, Nat.testBit_shiftRight]
def zbt1 (b : Nat) : Nat := b - ((b >>> 1) &&& 85)
def zbt2 (c : Nat) : Nat := (c &&& 51) + ((c >>> 2) &&& 51)
theorem zbt12 : ∀ b, b < 256 → (b >>> 1) &&& 85 ≤ b ∧ zbt1 b < 256 ∧ zbt2 (zbt1 b) % 16 ≤ 4 ∧ zbt2 (zbt1 b) / 16 ≤ 4 ∧ zbt2 (zbt1 b) % 16 + zbt2 (zbt1 b) / 16 = zcn (fun i => b.testBit i) 8 := by decide +kernel
theorem zcn_add (f : Nat → Bool) (m : Nat) : ∀ n, zcn f (m + n) = zcn f m + zcn (fun i => f (m + i)) n
  | 0 => rfl
  | n + 1 => by
    have := zcn_add f m n
    rw [show m + (n + 1) = m + n + 1 from rfl, zcn_s, zcn_s, this]
    omega
theorem zpopn {X : Nat} (hX : X < 2 ^ 20) :
    (X >>> 1) &&& 1431655765 ≤ X ∧ ∃ Y Z W V, Y = X - ((X >>> 1) &&& 1431655765) ∧ Y < 2 ^ 24 ∧ Z = (Y &&& 858993459) + ((Y >>> 2) &&& 858993459) ∧ Z < 2 ^ 24 ∧ W = (Z + (Z >>> 4)) &&& 252645135 ∧ Z + (Z >>> 4) < 2 ^ 26 ∧ W < 2 ^ 24 ∧ V = W + (W >>> 8) ∧ V < 2 ^ 25 ∧ V + (V >>> 16) < 2 ^ 26 ∧ (V + (V >>> 16)) &&& 63 = zcn (fun i => X.testBit i) 20 := by
  obtain ⟨a, b, c, e, ha, hb, hc⟩ : ∃ a b c, X = a + 256 * (b + 256 * (c + 256 * 0)) ∧ a < 256 ∧ b < 256 ∧ c < 16 := ⟨X % 256, X / 256 % 256, X / 65536, by omega, by omega, by omega, by omega⟩
  obtain ⟨a1, a2, a3, a4, a5⟩ := zbt12 a ha
  obtain ⟨b1, b2, b3, b4, b5⟩ := zbt12 b hb
  obtain ⟨c1, c2, c3, c4, c5⟩ := zbt12 c (by omega)
  have m1 : (1431655765 : Nat) = 85 + 256 * (85 + 256 * (85 + 256 * 85)) := rfl
  have m2 : (858993459 : Nat) = 51 + 256 * (51 + 256 * (51 + 256 * 51)) := rfl
  have m3 : (252645135 : Nat) = 15 + 256 * (15 + 256 * (15 + 256 * 15)) := rfl
  have s1 : (X >>> 1) &&& 1431655765 = ((a >>> 1) &&& 85) + 256 * (((b >>> 1) &&& 85) + 256 * (((c >>> 1) &&& 85) + 256 * 0)) := by
    rw [e, m1, zby_shr ha (by decide) (by decide), zby_shr hb (by decide) (by decide), zby_shr (show c < 256 by omega) (by decide) (by decide)]
    rfl
  have d1 : zbt1 a = a - ((a >>> 1) &&& 85) := rfl
  have d2 : zbt1 b = b - ((b >>> 1) &&& 85) := rfl
  have d3 : zbt1 c = c - ((c >>> 1) &&& 85) := rfl
  have y1 : X - ((X >>> 1) &&& 1431655765) = zbt1 a + 256 * (zbt1 b + 256 * (zbt1 c + 256 * 0)) := by rw [s1, d1, d2, d3]; omega
  refine ⟨by rw [s1]; omega, _, _, _, _, rfl, by rw [y1]; omega, rfl, ?_, rfl, ?_, ?_, rfl, ?_, ?_, ?_⟩
  all_goals rw [y1]
  all_goals rw [show ((zbt1 a + 256 * (zbt1 b + 256 * (zbt1 c + 256 * 0))) &&& 858993459) + (((zbt1 a + 256 * (zbt1 b + 256 * (zbt1 c + 256 * 0))) >>> 2) &&& 858993459) = zbt2 (zbt1 a) + 256 * (zbt2 (zbt1 b) + 256 * zbt2 (zbt1 c)) by
    rw [m2, zby_and a2 (by decide), zby_and b2 (by decide), zby_and c2 (by decide), zby_shr a2 (by decide) (by decide), zby_shr b2 (by decide) (by decide), zby_shr c2 (by decide) (by decide)]
    have z0 : (0 : Nat) &&& 51 = 0 := rfl
    have z1 : ((0 : Nat) >>> 2) &&& 51 = 0 := rfl
    rw [z0, z1]
    show _ = ((zbt1 a &&& 51) + ((zbt1 a >>> 2) &&& 51)) + 256 * (((zbt1 b &&& 51) + ((zbt1 b >>> 2) &&& 51)) + 256 * ((zbt1 c &&& 51) + ((zbt1 c >>> 2) &&& 51)))
    omega]
  all_goals generalize zbt2 (zbt1 a) = p at *
  all_goals generalize zbt2 (zbt1 b) = q at *
  all_goals generalize zbt2 (zbt1 c) = r at *
  · omega
  all_goals rw [Nat.shiftRight_eq_div_pow]
  · omega
  all_goals rw [show p + 256 * (q + 256 * r) + (p + 256 * (q + 256 * r)) / 2 ^ 4 = (p + p / 16 + 16 * (q % 16)) + 256 * ((q + q / 16 + 16 * (r % 16)) + 256 * ((r + r / 16) + 256 * 0)) by omega, m3, zby_and (by omega) (by decide), zby_and (by omega) (by decide), zby_and (by omega) (by decide), show (0 : Nat) &&& 15 = 0 from rfl, Nat.and_two_pow_sub_one_eq_mod _ 4, Nat.and_two_pow_sub_one_eq_mod _ 4, Nat.and_two_pow_sub_one_eq_mod _ 4]
  all_goals rw [show (p + p / 16 + 16 * (q % 16)) % 2 ^ 4 = p % 16 + p / 16 by omega, show (q + q / 16 + 16 * (r % 16)) % 2 ^ 4 = q % 16 + q / 16 by omega, show (r + r / 16) % 2 ^ 4 = r % 16 + r / 16 by omega]
  · omega
  all_goals rw [Nat.shiftRight_eq_div_pow]
  · omega
  all_goals rw [Nat.shiftRight_eq_div_pow]
  · omega
  · rw [show (63 : Nat) = 2 ^ 6 - 1 from rfl, Nat.and_two_pow_sub_one_eq_mod, a5, b5, c5]
    have t : ∀ i, X.testBit i = if i < 8 then a.testBit i else if i - 8 < 8 then b.testBit (i - 8) else c.testBit (i - 8 - 8) := by
      intro i
      rw [e, show a + 256 * (b + 256 * (c + 256 * 0)) = 2 ^ 8 * (2 ^ 8 * c + b) + a by omega, Nat.testBit_two_pow_mul_add (i := 8) _ ha, Nat.testBit_two_pow_mul_add (i := 8) _ hb]
    have u : zcn (fun i => X.testBit i) 20 = zcn (fun i => a.testBit i) 8 + (zcn (fun i => b.testBit i) 8 + zcn (fun i => c.testBit i) 4) := by
      rw [show (20 : Nat) = 8 + (8 + 4) from rfl, zcn_add, zcn_add]
      have f : ∀ (g h : Nat → Bool) n, (∀ i, i < n → g i = h i) → zcn g n = zcn h n := by
        intro g h n
        induction n with
        | zero => exact fun _ => rfl
        | succ n ih => exact fun w => by rw [zcn_s, zcn_s, ih (fun i hi => w i (by omega)), w n (by omega)]
      rw [f (fun i => X.testBit i) (fun i => a.testBit i) 8 (fun i hi => by rw [t, if_pos hi]), f (fun i => X.testBit (8 + i)) (fun i => b.testBit i) 8 (fun i hi => by rw [t, if_neg (by omega), show 8 + i - 8 = i by omega, if_pos hi]), f (fun i => X.testBit (8 + (8 + i))) (fun i => c.testBit i) 4 (fun i hi => by rw [t, if_neg (by omega), if_neg (by omega), show 8 + (8 + i) - 8 - 8 = i by omega])]
    have v : ∀ c, c < 16 → zcn (fun i => c.testBit i) 8 = zcn (fun i => c.testBit i) 4 := by decide
    have w1 : zcn (fun i => a.testBit i) 8 ≤ 8 := zcn_le _ 8
    have w2 : zcn (fun i => b.testBit i) 8 ≤ 8 := zcn_le _ 8
    have w3 : zcn (fun i => c.testBit i) 8 ≤ 8 := zcn_le _ 8
    rw [u, ← v c hc]
    generalize zcn (fun i => a.testBit i) 8 = j at *
    generalize zcn (fun i => b.testBit i) 8 = k at *
    generalize zcn (fun i => c.testBit i) 8 = l at *
    have k1 : j + 256 * (k + 256 * (l + 256 * 0)) + (j + 256 * (k + 256 * (l + 256 * 0))) / 2 ^ 8 = (j + k) + 256 * ((k + l) + 256 * l) := by omega
    have k2 : ((j + k) + 256 * ((k + l) + 256 * l)) / 2 ^ 16 = l := by omega
    rw [k1, k2]
    omega
