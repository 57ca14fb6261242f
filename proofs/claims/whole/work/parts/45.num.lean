/-! NUMBERS, FOR REWRITING -/
theorem eT {p : Prop} (h : p) : p = True := eq_true h
theorem eF {p : Prop} (h : ¬ p) : p = False := eq_false h
theorem le_T {a b : Nat} (h : a ≤ b) (hb : b < 2 ^ 31) : (nI a ≤ nI b) = True := eq_true (nI_le h hb)
theorem le_F {a b : Nat} (h : b < a) (hb : a < 2 ^ 31) : (nI a ≤ nI b) = False := eq_false (nI_ge h hb)
theorem lt_T {a b : Nat} (h : a < b) (hb : b < 2 ^ 31) : (nI a < nI b) = True := eq_true (nI_lt h hb)
theorem lt_F {a b : Nat} (h : b ≤ a) (hb : a < 2 ^ 31) : (nI a < nI b) = False := eq_false (nI_nlt h hb)
theorem eq_T {a b : Nat} (h : a = b) : (nI a = nI b) = True := by subst h; exact eq_true rfl
theorem eq_F {a b : Nat} (h : a ≠ b) (ha : a < 2 ^ 31) (hb : b < 2 ^ 31) : (nI a = nI b) = False := eq_false (nI_ne h ha hb)
theorem le_D {a b : Nat} (ha : a < 2 ^ 31) (hb : b < 2 ^ 31) : (nI a ≤ nI b) = (a ≤ b) := by
  apply propext
  constructor
  · intro h
    exact Nat.le_of_not_lt fun q => nI_ge q ha h
  · intro h
    exact nI_le h hb
theorem lt_D {a b : Nat} (ha : a < 2 ^ 31) (hb : b < 2 ^ 31) : (nI a < nI b) = (a < b) := by
  apply propext
  constructor
  · intro h
    exact Nat.lt_of_not_le fun q => nI_nlt q ha h
  · intro h
    exact nI_lt h hb
theorem eq_D {a b : Nat} (ha : a < 2 ^ 31) (hb : b < 2 ^ 31) : (nI a = nI b) = (a = b) := propext (nI_eq ha hb)
theorem nI_nm1 {a : Nat} (h : a < 2 ^ 31) : (nI a = -1) = False := by
  apply eq_false
  intro e
  have e2 := congrArg Int32.toInt e
  rw [nI_toInt h] at e2
  have : ((-1 : Int32)).toInt = -1 := by decide
  omega
theorem nI_nm2 {a : Nat} (h : a < 2 ^ 31) : (nI a = -2) = False := by
  apply eq_false
  intro e
  have e2 := congrArg Int32.toInt e
  rw [nI_toInt h] at e2
  have : ((-2 : Int32)).toInt = -2 := by decide
  omega
theorem m1_lt0 : ((-1 : Int32) < nI 0) = True := eq_true (by decide)
theorem m2_lt0 : ((-2 : Int32) < nI 0) = True := eq_true (by decide)
theorem m1_m1 : ((-1 : Int32) = -1) = True := eq_true rfl
theorem m2_m1 : ((-2 : Int32) = -1) = False := eq_false (by decide)
theorem m2_m2 : ((-2 : Int32) = -2) = True := eq_true rfl
theorem nI_suc (a : Nat) : nI (a + 1) + (-1) = nI a := by
  rw [← nI_pred a]
  exact (Int32.sub_eq_add_neg _ _).symm
theorem nI_dec {a : Nat} (h : 1 ≤ a) : nI a + (-1) = nI (a - 1) := by
  have := nI_suc (a - 1)
  rw [show a - 1 + 1 = a by omega] at this
  exact this
theorem nI_shl5 {a : Nat} (h : a < 2 ^ 26) : nI a <<< (nI 5 &&& nI 31) = nI (32 * a) := by
  apply Int32.toBitVec_inj.mp
  apply BitVec.eq_of_toNat_eq
  show (BitVec.ofNat 32 a <<< 5#32).toNat = (BitVec.ofNat 32 (32 * a)).toNat
  simp only [BitVec.shiftLeft_eq', BitVec.toNat_shiftLeft, BitVec.toNat_ofNat, Nat.shiftLeft_eq]
  rw [show (2 ^ (5 % 2 ^ 32) : Nat) = 32 from rfl]
  omega
theorem nI_sar5 {a : Nat} (h : a < 2 ^ 31) : nI a >>> (nI 5 &&& nI 31) = nI (a / 32) := by
  apply Int32.toInt_inj.mp
  have h2 : a / 32 < 2 ^ 31 := by omega
  rw [nI_toInt h2]
  have h3 := nI_toInt h
  have h5 : (nI 5 &&& nI 31) = nI 5 := by decide
  rw [h5]
  have h4 : (nI a >>> nI 5).toInt = ((nI a).toBitVec.sshiftRight 5).toInt := rfl
  have h6 : (nI a).toBitVec.toInt = (a : Int) := h3
  rw [h4, BitVec.toInt_sshiftRight, h6, Int.shiftRight_eq_div_pow]
  omega
theorem nI_and31 {a : Nat} (h : a < 2 ^ 31) : nI a &&& nI 31 = nI (a % 32) := by
  apply Int32.toBitVec_inj.mp
  apply BitVec.eq_of_toNat_eq
  show (BitVec.ofNat 32 a &&& 31#32).toNat = (BitVec.ofNat 32 (a % 32)).toNat
  rw [BitVec.toNat_and, show (31#32).toNat = 2 ^ 5 - 1 from rfl, Nat.and_two_pow_sub_one_eq_mod, BitVec.toNat_ofNat, BitVec.toNat_ofNat, Nat.mod_eq_of_lt (show a < 2 ^ 32 by omega), Nat.mod_eq_of_lt (show a % 32 < 2 ^ 32 by omega)]
theorem e_0 : (0 : Int32) = nI 0 := rfl
theorem e_1 : (1 : Int32) = nI 1 := rfl
theorem e_2 : (2 : Int32) = nI 2 := rfl
theorem e_3 : (3 : Int32) = nI 3 := rfl
theorem e_4 : (4 : Int32) = nI 4 := rfl
theorem e_5 : (5 : Int32) = nI 5 := rfl
theorem e_6 : (6 : Int32) = nI 6 := rfl
theorem e_7 : (7 : Int32) = nI 7 := rfl
theorem e_8 : (8 : Int32) = nI 8 := rfl
theorem e_9 : (9 : Int32) = nI 9 := rfl
theorem e_10 : (10 : Int32) = nI 10 := rfl
theorem e_11 : (11 : Int32) = nI 11 := rfl
theorem e_12 : (12 : Int32) = nI 12 := rfl
theorem e_13 : (13 : Int32) = nI 13 := rfl
theorem e_14 : (14 : Int32) = nI 14 := rfl
theorem e_20 : (20 : Int32) = nI 20 := rfl
theorem e_21 : (21 : Int32) = nI 21 := rfl
theorem e_31 : (31 : Int32) = nI 31 := rfl
theorem e_33 : (33 : Int32) = nI 33 := rfl
theorem e_37 : (37 : Int32) = nI 37 := rfl
theorem e_38 : (38 : Int32) = nI 38 := rfl
theorem e_40 : (40 : Int32) = nI 40 := rfl
theorem e_41 : (41 : Int32) = nI 41 := rfl
theorem e_42 : (42 : Int32) = nI 42 := rfl
theorem e_43 : (43 : Int32) = nI 43 := rfl
theorem e_45 : (45 : Int32) = nI 45 := rfl
theorem e_47 : (47 : Int32) = nI 47 := rfl
theorem e_48 : (48 : Int32) = nI 48 := rfl
theorem e_57 : (57 : Int32) = nI 57 := rfl
theorem e_59 : (59 : Int32) = nI 59 := rfl
theorem e_60 : (60 : Int32) = nI 60 := rfl
theorem e_61 : (61 : Int32) = nI 61 := rfl
theorem e_62 : (62 : Int32) = nI 62 := rfl
theorem e_64 : (64 : Int32) = nI 64 := rfl
theorem e_91 : (91 : Int32) = nI 91 := rfl
theorem e_93 : (93 : Int32) = nI 93 := rfl
theorem e_97 : (97 : Int32) = nI 97 := rfl
theorem e_99 : (99 : Int32) = nI 99 := rfl
theorem e_110 : (110 : Int32) = nI 110 := rfl
theorem e_124 : (124 : Int32) = nI 124 := rfl
theorem e_160 : (160 : Int32) = nI 160 := rfl
theorem e_180 : (180 : Int32) = nI 180 := rfl
theorem e_255 : (255 : Int32) = nI 255 := rfl
theorem e_256 : (256 : Int32) = nI 256 := rfl
theorem e_400 : (400 : Int32) = nI 400 := rfl
theorem e_1000 : (1000 : Int32) = nI 1000 := rfl
theorem e_9999 : (9999 : Int32) = nI 9999 := rfl
theorem e_1e8 : (100000000 : Int32) = nI 100000000 := rfl
theorem e_1e9 : (1000000000 : Int32) = nI 1000000000 := rfl
theorem e_u : (1048576 : Int32) = nI 1048576 := rfl
