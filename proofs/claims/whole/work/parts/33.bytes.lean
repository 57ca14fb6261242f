/-! BYTES OF A NUMBER -/
def zbn (x : Int32) (c : Nat) : Nat := x.toBitVec.toNat / 2 ^ c % 256
theorem zbn_lt (x : Int32) (c : Nat) : zbn x c < 256 := Nat.mod_lt _ (by decide)
theorem zbyA0 (x : Int32) (u : UInt32) (c : Nat) (hc : c < 32) (hu : u.toBitVec = BitVec.ofNat 32 c) : ((x.toUInt32 >>> u).toInt32) &&& 255 = nI (zbn x c) := by
  apply Int32.toBitVec_inj.mp
  apply BitVec.eq_of_toNat_eq
  have e1 : ((x.toUInt32 >>> u).toInt32 &&& 255).toBitVec = (x.toBitVec >>> c) &&& 255#32 := by
    show (x.toBitVec >>> (u.toBitVec % 32#32)) &&& 255#32 = _
    rw [hu]
    congr 1
    show x.toBitVec >>> (BitVec.ofNat 32 c % 32#32).toNat = x.toBitVec >>> c
    rw [BitVec.toNat_umod, BitVec.toNat_ofNat, Nat.mod_eq_of_lt (show c < 2 ^ 32 by omega)]
    rw [show (32#32).toNat = 32 from rfl, Nat.mod_eq_of_lt hc]
  rw [e1, BitVec.toNat_and, BitVec.toNat_ushiftRight, show (255#32).toNat = 2 ^ 8 - 1 from rfl, Nat.and_two_pow_sub_one_eq_mod, Nat.shiftRight_eq_div_pow]
  show zbn x c = (BitVec.ofNat 32 (zbn x c)).toNat
  have := zbn_lt x c
  rw [BitVec.toNat_ofNat, Nat.mod_eq_of_lt (by omega)]
theorem zby256 : ∀ n, n < 256 → Int32.ofBitVec ((((BitVec.ofNat 8 n).signExtend 32).signExtend 8).signExtend 32) = zby n := by decide +kernel
theorem zbyB0 (x y : Int32) (c : Nat) (hc : c ≤ 24) (hy : y = nI c) : (x >>> y).toInt8.toInt32.toInt8.toInt32 = zby (zbn x c) := by
  subst hy
  rw [← zby256 _ (zbn_lt x c)]
  apply Int32.toBitVec_inj.mp
  show (((((x >>> nI c).toBitVec.signExtend 8).signExtend 32).signExtend 8).signExtend 32) = ((((BitVec.ofNat 8 (zbn x c)).signExtend 32).signExtend 8).signExtend 32)
  congr 3
  rw [BitVec.signExtend_eq_setWidth_of_le _ (by decide)]
  have e1 : (x >>> nI c).toBitVec = x.toBitVec.sshiftRight c := by
    show x.toBitVec.sshiftRight' ((nI c).toBitVec.smod 32#32) = _
    have : (nI c).toBitVec.smod 32#32 = BitVec.ofNat 32 c := by
      have hd : ∀ k, k ≤ 24 → (BitVec.ofNat 32 k).smod 32#32 = BitVec.ofNat 32 k := by decide +kernel
      exact hd c hc
    rw [this]
    show x.toBitVec.sshiftRight (BitVec.ofNat 32 c).toNat = _
    rw [BitVec.toNat_ofNat, Nat.mod_eq_of_lt (show c < 2 ^ 32 by omega)]
  rw [e1]
  apply BitVec.eq_of_getLsbD_eq
  intro i hi
  rw [BitVec.getLsbD_setWidth, BitVec.getLsbD_sshiftRight, BitVec.getLsbD_ofNat]
  have h1 : (zbn x c).testBit i = x.toBitVec.getLsbD (c + i) := by
    unfold zbn
    rw [show (256 : Nat) = 2 ^ 8 from rfl, Nat.testBit_mod_two_pow, ← Nat.shiftRight_eq_div_pow, Nat.testBit_shiftRight]
    simp [hi, BitVec.getLsbD]
  rw [h1]
  simp [hi, show c + i < 32 by omega, show i < 32 by omega]
