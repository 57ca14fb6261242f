/-! DRAWS -/
theorem nI_and16 (y : Nat) (hy : y < 2 ^ 31) : nI y &&& 65535 = nI (y % 65536) := by
  apply Int32.toBitVec_inj.mp
  apply BitVec.eq_of_toNat_eq
  show (BitVec.ofNat 32 y &&& 65535#32).toNat = (BitVec.ofNat 32 (y % 65536)).toNat
  rw [BitVec.toNat_and, show (65535#32).toNat = 2 ^ 16 - 1 from rfl, Nat.and_two_pow_sub_one_eq_mod, BitVec.toNat_ofNat, BitVec.toNat_ofNat, Nat.mod_eq_of_lt (show y < 2 ^ 32 by omega), Nat.mod_eq_of_lt (show y % 65536 < 2 ^ 32 by omega)]
theorem nI_and3 (y : Nat) (hy : y < 2 ^ 31) : nI y &&& 7 = nI (y % 8) := by
  apply Int32.toBitVec_inj.mp
  apply BitVec.eq_of_toNat_eq
  show (BitVec.ofNat 32 y &&& 7#32).toNat = (BitVec.ofNat 32 (y % 8)).toNat
  rw [BitVec.toNat_and, show (7#32).toNat = 2 ^ 3 - 1 from rfl, Nat.and_two_pow_sub_one_eq_mod, BitVec.toNat_ofNat, BitVec.toNat_ofNat, Nat.mod_eq_of_lt (show y < 2 ^ 32 by omega), Nat.mod_eq_of_lt (show y % 8 < 2 ^ 32 by omega)]
theorem nI_mul (a b : Nat) : nI a * nI b = nI (a * b) := (Int32.ofNat_mul a b).symm
theorem nI_div (y b : Nat) (hy : y < 2 ^ 31) (hb : b < 2 ^ 31) : nI y / nI b = nI (y / b) := by
  apply Int32.toInt_inj.mp
  have := Nat.div_le_self y b
  rw [Int32.toInt_div, nI_toInt hy, nI_toInt hb, nI_toInt (by omega)]
  rw [show ((y : Int).tdiv (b : Int)) = ((y / b : Nat) : Int) from rfl]
  generalize y / b = q at this ⊢
  exact Int.bmod_eq_of_le (by omega) (by omega)
theorem nI_rem (y b : Nat) (hy : y < 2 ^ 31) (hb : b < 2 ^ 31) : nI y - nI y / nI b * nI b = nI (y % b) := by
  rw [nI_div y b hy hb, nI_mul, nI_sub (Nat.div_mul_le_self y b)]
  congr 1
  have := Nat.div_add_mod y b
  rw [Nat.mul_comm] at this
  omega
theorem bit_and : ∀ k, k < 8 → ∀ e, e < 256 → ((1 : Int32) <<< (nI k &&& 31)) &&& nI e = if e.testBit k then nI (2 ^ k) else 0 := by decide +kernel
theorem bit_shr : ∀ k, k < 8 → ∀ e, e < 256 → (nI e >>> (nI k &&& 31)) &&& 1 = if e.testBit k then 1 else 0 := by decide +kernel
theorem bit_xor : ∀ k, k < 8 → ∀ e, e < 256 → nI e ^^^ nI (2 ^ k) = nI (e ^^^ 2 ^ k) := by decide +kernel
theorem bit_xor1 : ∀ k, k < 8 → ∀ e, e < 256 → nI e ^^^ ((1 : Int32) <<< (nI k &&& 31)) = nI (e ^^^ 2 ^ k) := by decide +kernel
/-- the next number; the set behind so many draws, and the number -/
def znx (x : Nat) : Nat := (25173 * x + 13849) % 65536
def zdr (E : Nat) : Nat → Nat × Nat → Nat × Nat
  | 0, q => q
  | n + 1, q => zdr E n (znx q.1, if E.testBit (znx q.1 % 8) then q.2 ^^^ 2 ^ (znx q.1 % 8) else q.2)
theorem znx_lt (x : Nat) : znx x ≤ 65535 := by unfold znx; omega
theorem xor_lt {a j : Nat} (ha : a < 256) (hj : j < 8) : a ^^^ 2 ^ j < 256 := Nat.xor_lt_two_pow (n := 8) ha (Nat.pow_lt_pow_right (by decide) hj)
