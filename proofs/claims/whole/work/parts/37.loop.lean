/-! THE LAW'S LOOP -/
def zCall (Q : Nat → zQs → (Nat → Nat → Int32) → Prop) (f g : zM → Option (Value × zM)) : Prop := ∀ n s I, n < 512 → Q n s I → ∃ v s1 I1 s2 I2, f (zMk (s, I)) = some (.int v, zMk (s1, I1)) ∧ g (zMk (s1, I1)) = some (.int v, zMk (s2, I2)) ∧ Q (n + 1) s2 I2
theorem ztab_to {γ : Type} {j : Nat} {d t hi : Int} {o : Array Int} {f : Int → Option γ} (hj : j < 2 ^ 31) (hh : (j : Int) ≤ hi) (ho : o[j]? = some t) : ztab (nI j) d 0 hi o f = f t := by
  have e : (nI j).toInt = (j : Int) := nI_toInt hj
  unfold ztab
  rw [e, if_neg (by omega), Int.sub_zero, Int.toNat_natCast, ho]
theorem and31 (x : Int32) : ∃ j, j < 32 ∧ x &&& 31 = nI j := by
  refine ⟨x.toBitVec.toNat % 32, Nat.mod_lt _ (by decide), ?_⟩
  apply Int32.toBitVec_inj.mp
  apply BitVec.eq_of_toNat_eq
  show (x.toBitVec &&& 31#32).toNat = (BitVec.ofNat 32 (x.toBitVec.toNat % 32)).toNat
  have := Nat.mod_lt x.toBitVec.toNat (show 0 < 32 by decide)
  rw [BitVec.toNat_and, show (31#32).toNat = 2 ^ 5 - 1 from rfl, Nat.and_two_pow_sub_one_eq_mod, BitVec.toNat_ofNat, Nat.mod_eq_of_lt (show x.toBitVec.toNat % 32 < 2 ^ 32 by omega)]
theorem sub6 {l : Nat} (hl : l < 2 ^ 31) : (Int32.ofNat l - 6).toInt = (l : Int) - 6 := by
  have e : (nI l).toInt = (l : Int) := nI_toInt hl
  have e6 : (6 : Int32).toInt = 6 := rfl
  show (nI l - 6).toInt = _
  rw [Int32.toInt_sub, e, e6, Int.bmod_eq_of_le (by omega) (by omega)]
theorem zstep_0 {Q : Nat → zQs → (Nat → Nat → Int32) → Prop} (h : ∀ x1 : Int32, zCall Q (zf_140 [.ref 0, .int x1]) (zf_184 [.ref 58, .int x1])) {X : zX} {i n : Nat} {s : zQs} {I : Nat → Nat → Int32} (hi : i + 6 ≤ X.1 - 1) (hX : X.1 ≤ 3073) (hn : n < 512) (hQ : Q n s I) :
    ∃ s2 I2, zQ_L X (22, [.ref 1000000, .ref 0, .ref 58, .int (nI i)], [], zMk (s, I)) = zQ_L X (10, [.ref 1000000, .ref 0, .ref 58, .int (nI (i + 6))], [], zMk (s2, I2)) ∧ Q (n + 1) s2 I2 := by
  have e6 : nI i + 6 = nI (i + 6) := nI_add i 6
  have z1 : zb (nI i + 1) (X.1 - 1) = true := by rw [show nI i + 1 = nI (i + 1) from nI_add i 1]; exact zb_t (by omega) (by omega)
  have z2 : zb (nI i + 2) (X.1 - 1) = true := by rw [show nI i + 2 = nI (i + 2) from nI_add i 2]; exact zb_t (by omega) (by omega)
  have z3 : zb (nI i + 3) (X.1 - 1) = true := by rw [show nI i + 3 = nI (i + 3) from nI_add i 3]; exact zb_t (by omega) (by omega)
  have z4 : zb (nI i + 4) (X.1 - 1) = true := by rw [show nI i + 4 = nI (i + 4) from nI_add i 4]; exact zb_t (by omega) (by omega)
  have z5 : zb (nI i + 5) (X.1 - 1) = true := by rw [show nI i + 5 = nI (i + 5) from nI_add i 5]; exact zb_t (by omega) (by omega)
  obtain ⟨v, s1, I1, s2, I2, e1, e2, hq⟩ := h (X.2 (nI i + 1).toNatClampNeg) n s I hn hQ
  refine ⟨s2, I2, ?_, hq⟩
  rw [zq_L_22, if_pos z1, e1, zcI_some, zq_L_29, if_pos z1, e2, zcI_some, zq_L_36, if_pos rfl, zq_L_937, e6]

theorem zstep_1 {Q : Nat → zQs → (Nat → Nat → Int32) → Prop} (h : ∀ x1 x2 x3 : Int32, zCall Q (zf_141 [.ref 0, .int x1, .int x2, .int x3]) (zf_186 [.ref 58, .int x1, .int x2, .int x3])) {X : zX} {i n : Nat} {s : zQs} {I : Nat → Nat → Int32} (hi : i + 6 ≤ X.1 - 1) (hX : X.1 ≤ 3073) (hn : n < 512) (hQ : Q n s I) :
    ∃ s2 I2, zQ_L X (39, [.ref 1000000, .ref 0, .ref 58, .int (nI i)], [], zMk (s, I)) = zQ_L X (10, [.ref 1000000, .ref 0, .ref 58, .int (nI (i + 6))], [], zMk (s2, I2)) ∧ Q (n + 1) s2 I2 := by
  have e6 : nI i + 6 = nI (i + 6) := nI_add i 6
  have z1 : zb (nI i + 1) (X.1 - 1) = true := by rw [show nI i + 1 = nI (i + 1) from nI_add i 1]; exact zb_t (by omega) (by omega)
  have z2 : zb (nI i + 2) (X.1 - 1) = true := by rw [show nI i + 2 = nI (i + 2) from nI_add i 2]; exact zb_t (by omega) (by omega)
  have z3 : zb (nI i + 3) (X.1 - 1) = true := by rw [show nI i + 3 = nI (i + 3) from nI_add i 3]; exact zb_t (by omega) (by omega)
  have z4 : zb (nI i + 4) (X.1 - 1) = true := by rw [show nI i + 4 = nI (i + 4) from nI_add i 4]; exact zb_t (by omega) (by omega)
  have z5 : zb (nI i + 5) (X.1 - 1) = true := by rw [show nI i + 5 = nI (i + 5) from nI_add i 5]; exact zb_t (by omega) (by omega)
  obtain ⟨v, s1, I1, s2, I2, e1, e2, hq⟩ := h (X.2 (nI i + 1).toNatClampNeg) (X.2 (nI i + 2).toNatClampNeg) (X.2 (nI i + 3).toNatClampNeg) n s I hn hQ
  refine ⟨s2, I2, ?_, hq⟩
  rw [zq_L_39, if_pos z1, if_pos z2, if_pos z3, e1, zcI_some, zq_L_56, if_pos z1, if_pos z2, if_pos z3, e2, zcI_some, zq_L_73, if_pos rfl, zq_L_937, e6]

theorem zstep_2 {Q : Nat → zQs → (Nat → Nat → Int32) → Prop} (h : ∀ x1 : Int32, zCall Q (zf_142 [.ref 0, .int x1]) (zf_187 [.ref 58, .int x1])) {X : zX} {i n : Nat} {s : zQs} {I : Nat → Nat → Int32} (hi : i + 6 ≤ X.1 - 1) (hX : X.1 ≤ 3073) (hn : n < 512) (hQ : Q n s I) :
    ∃ s2 I2, zQ_L X (76, [.ref 1000000, .ref 0, .ref 58, .int (nI i)], [], zMk (s, I)) = zQ_L X (10, [.ref 1000000, .ref 0, .ref 58, .int (nI (i + 6))], [], zMk (s2, I2)) ∧ Q (n + 1) s2 I2 := by
  have e6 : nI i + 6 = nI (i + 6) := nI_add i 6
  have z1 : zb (nI i + 1) (X.1 - 1) = true := by rw [show nI i + 1 = nI (i + 1) from nI_add i 1]; exact zb_t (by omega) (by omega)
  have z2 : zb (nI i + 2) (X.1 - 1) = true := by rw [show nI i + 2 = nI (i + 2) from nI_add i 2]; exact zb_t (by omega) (by omega)
  have z3 : zb (nI i + 3) (X.1 - 1) = true := by rw [show nI i + 3 = nI (i + 3) from nI_add i 3]; exact zb_t (by omega) (by omega)
  have z4 : zb (nI i + 4) (X.1 - 1) = true := by rw [show nI i + 4 = nI (i + 4) from nI_add i 4]; exact zb_t (by omega) (by omega)
  have z5 : zb (nI i + 5) (X.1 - 1) = true := by rw [show nI i + 5 = nI (i + 5) from nI_add i 5]; exact zb_t (by omega) (by omega)
  obtain ⟨v, s1, I1, s2, I2, e1, e2, hq⟩ := h (X.2 (nI i + 1).toNatClampNeg) n s I hn hQ
  refine ⟨s2, I2, ?_, hq⟩
  rw [zq_L_76, if_pos z1, e1, zcI_some, zq_L_83, if_pos z1, e2, zcI_some, zq_L_90, if_pos rfl, zq_L_937, e6]

theorem zstep_3 {Q : Nat → zQs → (Nat → Nat → Int32) → Prop} (h : ∀ x1 x2 x3 x4 x5 : Int32, zCall Q (zf_143 [.ref 0, .int x1, .int x2, .int x3, .int x4, .int x5]) (zf_189 [.ref 58, .int x1, .int x2, .int x3, .int x4, .int x5])) {X : zX} {i n : Nat} {s : zQs} {I : Nat → Nat → Int32} (hi : i + 6 ≤ X.1 - 1) (hX : X.1 ≤ 3073) (hn : n < 512) (hQ : Q n s I) :
    ∃ s2 I2, zQ_L X (93, [.ref 1000000, .ref 0, .ref 58, .int (nI i)], [], zMk (s, I)) = zQ_L X (10, [.ref 1000000, .ref 0, .ref 58, .int (nI (i + 6))], [], zMk (s2, I2)) ∧ Q (n + 1) s2 I2 := by
  have e6 : nI i + 6 = nI (i + 6) := nI_add i 6
  have z1 : zb (nI i + 1) (X.1 - 1) = true := by rw [show nI i + 1 = nI (i + 1) from nI_add i 1]; exact zb_t (by omega) (by omega)
  have z2 : zb (nI i + 2) (X.1 - 1) = true := by rw [show nI i + 2 = nI (i + 2) from nI_add i 2]; exact zb_t (by omega) (by omega)
  have z3 : zb (nI i + 3) (X.1 - 1) = true := by rw [show nI i + 3 = nI (i + 3) from nI_add i 3]; exact zb_t (by omega) (by omega)
  have z4 : zb (nI i + 4) (X.1 - 1) = true := by rw [show nI i + 4 = nI (i + 4) from nI_add i 4]; exact zb_t (by omega) (by omega)
  have z5 : zb (nI i + 5) (X.1 - 1) = true := by rw [show nI i + 5 = nI (i + 5) from nI_add i 5]; exact zb_t (by omega) (by omega)
  obtain ⟨v, s1, I1, s2, I2, e1, e2, hq⟩ := h (X.2 (nI i + 1).toNatClampNeg) (X.2 (nI i + 2).toNatClampNeg) (X.2 (nI i + 3).toNatClampNeg) (X.2 (nI i + 4).toNatClampNeg) (X.2 (nI i + 5).toNatClampNeg) n s I hn hQ
  refine ⟨s2, I2, ?_, hq⟩
  rw [zq_L_93, if_pos z1, if_pos z2, if_pos z3, if_pos z4, if_pos z5, e1, zcI_some, zq_L_120, if_pos z1, if_pos z2, if_pos z3, if_pos z4, if_pos z5, e2, zcI_some, zq_L_147, if_pos rfl, zq_L_937, e6]

theorem zstep_4 {Q : Nat → zQs → (Nat → Nat → Int32) → Prop} (h : ∀ x1 : Int32, zCall Q (zf_144 [.ref 0, .int x1]) (zf_210 [.ref 58, .int x1])) {X : zX} {i n : Nat} {s : zQs} {I : Nat → Nat → Int32} (hi : i + 6 ≤ X.1 - 1) (hX : X.1 ≤ 3073) (hn : n < 512) (hQ : Q n s I) :
    ∃ s2 I2, zQ_L X (150, [.ref 1000000, .ref 0, .ref 58, .int (nI i)], [], zMk (s, I)) = zQ_L X (10, [.ref 1000000, .ref 0, .ref 58, .int (nI (i + 6))], [], zMk (s2, I2)) ∧ Q (n + 1) s2 I2 := by
  have e6 : nI i + 6 = nI (i + 6) := nI_add i 6
  have z1 : zb (nI i + 1) (X.1 - 1) = true := by rw [show nI i + 1 = nI (i + 1) from nI_add i 1]; exact zb_t (by omega) (by omega)
  have z2 : zb (nI i + 2) (X.1 - 1) = true := by rw [show nI i + 2 = nI (i + 2) from nI_add i 2]; exact zb_t (by omega) (by omega)
  have z3 : zb (nI i + 3) (X.1 - 1) = true := by rw [show nI i + 3 = nI (i + 3) from nI_add i 3]; exact zb_t (by omega) (by omega)
  have z4 : zb (nI i + 4) (X.1 - 1) = true := by rw [show nI i + 4 = nI (i + 4) from nI_add i 4]; exact zb_t (by omega) (by omega)
  have z5 : zb (nI i + 5) (X.1 - 1) = true := by rw [show nI i + 5 = nI (i + 5) from nI_add i 5]; exact zb_t (by omega) (by omega)
  obtain ⟨v, s1, I1, s2, I2, e1, e2, hq⟩ := h (X.2 (nI i + 1).toNatClampNeg) n s I hn hQ
  refine ⟨s2, I2, ?_, hq⟩
  rw [zq_L_150, if_pos z1, e1, zcI_some, zq_L_157, if_pos z1, e2, zcI_some, zq_L_164, if_pos rfl, zq_L_937, e6]

theorem zstep_5 {Q : Nat → zQs → (Nat → Nat → Int32) → Prop} (h : ∀ x1 x3 : Int32, ∀ b : Int32, (b = 0 ∨ b = 1) → zCall Q (zf_145 [.ref 0, .int x1, .int b, .int x3]) (zf_215 [.ref 58, .int x1, .int b, .int x3])) {X : zX} {i n : Nat} {s : zQs} {I : Nat → Nat → Int32} (hi : i + 6 ≤ X.1 - 1) (hX : X.1 ≤ 3073) (hn : n < 512) (hQ : Q n s I) :
    ∃ s2 I2, zQ_L X (167, [.ref 1000000, .ref 0, .ref 58, .int (nI i)], [], zMk (s, I)) = zQ_L X (10, [.ref 1000000, .ref 0, .ref 58, .int (nI (i + 6))], [], zMk (s2, I2)) ∧ Q (n + 1) s2 I2 := by
  have e6 : nI i + 6 = nI (i + 6) := nI_add i 6
  have z1 : zb (nI i + 1) (X.1 - 1) = true := by rw [show nI i + 1 = nI (i + 1) from nI_add i 1]; exact zb_t (by omega) (by omega)
  have z2 : zb (nI i + 2) (X.1 - 1) = true := by rw [show nI i + 2 = nI (i + 2) from nI_add i 2]; exact zb_t (by omega) (by omega)
  have z3 : zb (nI i + 3) (X.1 - 1) = true := by rw [show nI i + 3 = nI (i + 3) from nI_add i 3]; exact zb_t (by omega) (by omega)
  have z4 : zb (nI i + 4) (X.1 - 1) = true := by rw [show nI i + 4 = nI (i + 4) from nI_add i 4]; exact zb_t (by omega) (by omega)
  have z5 : zb (nI i + 5) (X.1 - 1) = true := by rw [show nI i + 5 = nI (i + 5) from nI_add i 5]; exact zb_t (by omega) (by omega)
  by_cases hb : X.2 (nI i + 2).toNatClampNeg = 0
  · obtain ⟨v, s1, I1, s2, I2, e1, e2, hq⟩ := h (X.2 (nI i + 1).toNatClampNeg) (X.2 (nI i + 3).toNatClampNeg) 0 (Or.inl rfl) n s I hn hQ
    refine ⟨s2, I2, ?_, hq⟩
    rw [zq_L_167, if_pos z1, if_pos z2, if_pos hb, if_pos z3, e1, zcI_some, zq_L_188, if_pos z1, if_pos z2, if_pos hb, if_pos z3, e2, zcI_some, zq_L_209, if_pos rfl, zq_L_937, e6]
  · obtain ⟨v, s1, I1, s2, I2, e1, e2, hq⟩ := h (X.2 (nI i + 1).toNatClampNeg) (X.2 (nI i + 3).toNatClampNeg) 1 (Or.inr rfl) n s I hn hQ
    refine ⟨s2, I2, ?_, hq⟩
    rw [zq_L_167, if_pos z1, if_pos z2, if_neg hb, if_pos z3, e1, zcI_some, zq_L_188, if_pos z1, if_pos z2, if_neg hb, if_pos z3, e2, zcI_some, zq_L_209, if_pos rfl, zq_L_937, e6]

theorem zstep_6 {Q : Nat → zQs → (Nat → Nat → Int32) → Prop} (h : ∀ x1 x2 x3 x4 : Int32, zCall Q (zf_146 [.ref 0, .int x1, .int x2, .int x3, .int x4]) (zf_223 [.ref 58, .int x1, .int x2, .int x3, .int x4])) {X : zX} {i n : Nat} {s : zQs} {I : Nat → Nat → Int32} (hi : i + 6 ≤ X.1 - 1) (hX : X.1 ≤ 3073) (hn : n < 512) (hQ : Q n s I) :
    ∃ s2 I2, zQ_L X (212, [.ref 1000000, .ref 0, .ref 58, .int (nI i)], [], zMk (s, I)) = zQ_L X (10, [.ref 1000000, .ref 0, .ref 58, .int (nI (i + 6))], [], zMk (s2, I2)) ∧ Q (n + 1) s2 I2 := by
  have e6 : nI i + 6 = nI (i + 6) := nI_add i 6
  have z1 : zb (nI i + 1) (X.1 - 1) = true := by rw [show nI i + 1 = nI (i + 1) from nI_add i 1]; exact zb_t (by omega) (by omega)
  have z2 : zb (nI i + 2) (X.1 - 1) = true := by rw [show nI i + 2 = nI (i + 2) from nI_add i 2]; exact zb_t (by omega) (by omega)
  have z3 : zb (nI i + 3) (X.1 - 1) = true := by rw [show nI i + 3 = nI (i + 3) from nI_add i 3]; exact zb_t (by omega) (by omega)
  have z4 : zb (nI i + 4) (X.1 - 1) = true := by rw [show nI i + 4 = nI (i + 4) from nI_add i 4]; exact zb_t (by omega) (by omega)
  have z5 : zb (nI i + 5) (X.1 - 1) = true := by rw [show nI i + 5 = nI (i + 5) from nI_add i 5]; exact zb_t (by omega) (by omega)
  obtain ⟨v, s1, I1, s2, I2, e1, e2, hq⟩ := h (X.2 (nI i + 1).toNatClampNeg) (X.2 (nI i + 2).toNatClampNeg) (X.2 (nI i + 3).toNatClampNeg) (X.2 (nI i + 4).toNatClampNeg) n s I hn hQ
  refine ⟨s2, I2, ?_, hq⟩
  rw [zq_L_212, if_pos z1, if_pos z2, if_pos z3, if_pos z4, e1, zcI_some, zq_L_234, if_pos z1, if_pos z2, if_pos z3, if_pos z4, e2, zcI_some, zq_L_256, if_pos rfl, zq_L_937, e6]

theorem zstep_7 {Q : Nat → zQs → (Nat → Nat → Int32) → Prop} (h : ∀ x1 x2 x3 x4 : Int32, zCall Q (zf_147 [.ref 0, .int x1, .int x2, .int x3, .int x4]) (zf_224 [.ref 58, .int x1, .int x2, .int x3, .int x4])) {X : zX} {i n : Nat} {s : zQs} {I : Nat → Nat → Int32} (hi : i + 6 ≤ X.1 - 1) (hX : X.1 ≤ 3073) (hn : n < 512) (hQ : Q n s I) :
    ∃ s2 I2, zQ_L X (259, [.ref 1000000, .ref 0, .ref 58, .int (nI i)], [], zMk (s, I)) = zQ_L X (10, [.ref 1000000, .ref 0, .ref 58, .int (nI (i + 6))], [], zMk (s2, I2)) ∧ Q (n + 1) s2 I2 := by
  have e6 : nI i + 6 = nI (i + 6) := nI_add i 6
  have z1 : zb (nI i + 1) (X.1 - 1) = true := by rw [show nI i + 1 = nI (i + 1) from nI_add i 1]; exact zb_t (by omega) (by omega)
  have z2 : zb (nI i + 2) (X.1 - 1) = true := by rw [show nI i + 2 = nI (i + 2) from nI_add i 2]; exact zb_t (by omega) (by omega)
  have z3 : zb (nI i + 3) (X.1 - 1) = true := by rw [show nI i + 3 = nI (i + 3) from nI_add i 3]; exact zb_t (by omega) (by omega)
  have z4 : zb (nI i + 4) (X.1 - 1) = true := by rw [show nI i + 4 = nI (i + 4) from nI_add i 4]; exact zb_t (by omega) (by omega)
  have z5 : zb (nI i + 5) (X.1 - 1) = true := by rw [show nI i + 5 = nI (i + 5) from nI_add i 5]; exact zb_t (by omega) (by omega)
  obtain ⟨v, s1, I1, s2, I2, e1, e2, hq⟩ := h (X.2 (nI i + 1).toNatClampNeg) (X.2 (nI i + 2).toNatClampNeg) (X.2 (nI i + 3).toNatClampNeg) (X.2 (nI i + 4).toNatClampNeg) n s I hn hQ
  refine ⟨s2, I2, ?_, hq⟩
  rw [zq_L_259, if_pos z1, if_pos z2, if_pos z3, if_pos z4, e1, zcI_some, zq_L_281, if_pos z1, if_pos z2, if_pos z3, if_pos z4, e2, zcI_some, zq_L_303, if_pos rfl, zq_L_937, e6]

theorem zstep_8 {Q : Nat → zQs → (Nat → Nat → Int32) → Prop} (h : ∀ x1 x2 : Int32, zCall Q (zf_148 [.ref 0, .int x1, .int x2]) (zf_226 [.ref 58, .int x1, .int x2])) {X : zX} {i n : Nat} {s : zQs} {I : Nat → Nat → Int32} (hi : i + 6 ≤ X.1 - 1) (hX : X.1 ≤ 3073) (hn : n < 512) (hQ : Q n s I) :
    ∃ s2 I2, zQ_L X (306, [.ref 1000000, .ref 0, .ref 58, .int (nI i)], [], zMk (s, I)) = zQ_L X (10, [.ref 1000000, .ref 0, .ref 58, .int (nI (i + 6))], [], zMk (s2, I2)) ∧ Q (n + 1) s2 I2 := by
  have e6 : nI i + 6 = nI (i + 6) := nI_add i 6
  have z1 : zb (nI i + 1) (X.1 - 1) = true := by rw [show nI i + 1 = nI (i + 1) from nI_add i 1]; exact zb_t (by omega) (by omega)
  have z2 : zb (nI i + 2) (X.1 - 1) = true := by rw [show nI i + 2 = nI (i + 2) from nI_add i 2]; exact zb_t (by omega) (by omega)
  have z3 : zb (nI i + 3) (X.1 - 1) = true := by rw [show nI i + 3 = nI (i + 3) from nI_add i 3]; exact zb_t (by omega) (by omega)
  have z4 : zb (nI i + 4) (X.1 - 1) = true := by rw [show nI i + 4 = nI (i + 4) from nI_add i 4]; exact zb_t (by omega) (by omega)
  have z5 : zb (nI i + 5) (X.1 - 1) = true := by rw [show nI i + 5 = nI (i + 5) from nI_add i 5]; exact zb_t (by omega) (by omega)
  obtain ⟨v, s1, I1, s2, I2, e1, e2, hq⟩ := h (X.2 (nI i + 1).toNatClampNeg) (X.2 (nI i + 2).toNatClampNeg) n s I hn hQ
  refine ⟨s2, I2, ?_, hq⟩
  rw [zq_L_306, if_pos z1, if_pos z2, e1, zcI_some, zq_L_318, if_pos z1, if_pos z2, e2, zcI_some, zq_L_330, if_pos rfl, zq_L_937, e6]

theorem zstep_9 {Q : Nat → zQs → (Nat → Nat → Int32) → Prop} (h : ∀ x1 x2 x3 : Int32, zCall Q (zf_149 [.ref 0, .int x1, .int x2, .int x3]) (zf_233 [.ref 58, .int x1, .int x2, .int x3])) {X : zX} {i n : Nat} {s : zQs} {I : Nat → Nat → Int32} (hi : i + 6 ≤ X.1 - 1) (hX : X.1 ≤ 3073) (hn : n < 512) (hQ : Q n s I) :
    ∃ s2 I2, zQ_L X (333, [.ref 1000000, .ref 0, .ref 58, .int (nI i)], [], zMk (s, I)) = zQ_L X (10, [.ref 1000000, .ref 0, .ref 58, .int (nI (i + 6))], [], zMk (s2, I2)) ∧ Q (n + 1) s2 I2 := by
  have e6 : nI i + 6 = nI (i + 6) := nI_add i 6
  have z1 : zb (nI i + 1) (X.1 - 1) = true := by rw [show nI i + 1 = nI (i + 1) from nI_add i 1]; exact zb_t (by omega) (by omega)
  have z2 : zb (nI i + 2) (X.1 - 1) = true := by rw [show nI i + 2 = nI (i + 2) from nI_add i 2]; exact zb_t (by omega) (by omega)
  have z3 : zb (nI i + 3) (X.1 - 1) = true := by rw [show nI i + 3 = nI (i + 3) from nI_add i 3]; exact zb_t (by omega) (by omega)
  have z4 : zb (nI i + 4) (X.1 - 1) = true := by rw [show nI i + 4 = nI (i + 4) from nI_add i 4]; exact zb_t (by omega) (by omega)
  have z5 : zb (nI i + 5) (X.1 - 1) = true := by rw [show nI i + 5 = nI (i + 5) from nI_add i 5]; exact zb_t (by omega) (by omega)
  obtain ⟨v, s1, I1, s2, I2, e1, e2, hq⟩ := h (X.2 (nI i + 1).toNatClampNeg) (X.2 (nI i + 2).toNatClampNeg) (X.2 (nI i + 3).toNatClampNeg) n s I hn hQ
  refine ⟨s2, I2, ?_, hq⟩
  rw [zq_L_333, if_pos z1, if_pos z2, if_pos z3, e1, zcI_some, zq_L_350, if_pos z1, if_pos z2, if_pos z3, e2, zcI_some, zq_L_367, if_pos rfl, zq_L_937, e6]

theorem zstep_10 {Q : Nat → zQs → (Nat → Nat → Int32) → Prop} (h : ∀ x1 x2 x3 : Int32, zCall Q (zf_150 [.ref 0, .int x1, .int x2, .int x3]) (zf_235 [.ref 58, .int x1, .int x2, .int x3])) {X : zX} {i n : Nat} {s : zQs} {I : Nat → Nat → Int32} (hi : i + 6 ≤ X.1 - 1) (hX : X.1 ≤ 3073) (hn : n < 512) (hQ : Q n s I) :
    ∃ s2 I2, zQ_L X (370, [.ref 1000000, .ref 0, .ref 58, .int (nI i)], [], zMk (s, I)) = zQ_L X (10, [.ref 1000000, .ref 0, .ref 58, .int (nI (i + 6))], [], zMk (s2, I2)) ∧ Q (n + 1) s2 I2 := by
  have e6 : nI i + 6 = nI (i + 6) := nI_add i 6
  have z1 : zb (nI i + 1) (X.1 - 1) = true := by rw [show nI i + 1 = nI (i + 1) from nI_add i 1]; exact zb_t (by omega) (by omega)
  have z2 : zb (nI i + 2) (X.1 - 1) = true := by rw [show nI i + 2 = nI (i + 2) from nI_add i 2]; exact zb_t (by omega) (by omega)
  have z3 : zb (nI i + 3) (X.1 - 1) = true := by rw [show nI i + 3 = nI (i + 3) from nI_add i 3]; exact zb_t (by omega) (by omega)
  have z4 : zb (nI i + 4) (X.1 - 1) = true := by rw [show nI i + 4 = nI (i + 4) from nI_add i 4]; exact zb_t (by omega) (by omega)
  have z5 : zb (nI i + 5) (X.1 - 1) = true := by rw [show nI i + 5 = nI (i + 5) from nI_add i 5]; exact zb_t (by omega) (by omega)
  obtain ⟨v, s1, I1, s2, I2, e1, e2, hq⟩ := h (X.2 (nI i + 1).toNatClampNeg) (X.2 (nI i + 2).toNatClampNeg) (X.2 (nI i + 3).toNatClampNeg) n s I hn hQ
  refine ⟨s2, I2, ?_, hq⟩
  rw [zq_L_370, if_pos z1, if_pos z2, if_pos z3, e1, zcI_some, zq_L_387, if_pos z1, if_pos z2, if_pos z3, e2, zcI_some, zq_L_404, if_pos rfl, zq_L_937, e6]

theorem zstep_11 {Q : Nat → zQs → (Nat → Nat → Int32) → Prop} (h : ∀ x1 x2 x3 : Int32, zCall Q (zf_151 [.ref 0, .int x1, .int x2, .int x3]) (zf_238 [.ref 58, .int x1, .int x2, .int x3])) {X : zX} {i n : Nat} {s : zQs} {I : Nat → Nat → Int32} (hi : i + 6 ≤ X.1 - 1) (hX : X.1 ≤ 3073) (hn : n < 512) (hQ : Q n s I) :
    ∃ s2 I2, zQ_L X (407, [.ref 1000000, .ref 0, .ref 58, .int (nI i)], [], zMk (s, I)) = zQ_L X (10, [.ref 1000000, .ref 0, .ref 58, .int (nI (i + 6))], [], zMk (s2, I2)) ∧ Q (n + 1) s2 I2 := by
  have e6 : nI i + 6 = nI (i + 6) := nI_add i 6
  have z1 : zb (nI i + 1) (X.1 - 1) = true := by rw [show nI i + 1 = nI (i + 1) from nI_add i 1]; exact zb_t (by omega) (by omega)
  have z2 : zb (nI i + 2) (X.1 - 1) = true := by rw [show nI i + 2 = nI (i + 2) from nI_add i 2]; exact zb_t (by omega) (by omega)
  have z3 : zb (nI i + 3) (X.1 - 1) = true := by rw [show nI i + 3 = nI (i + 3) from nI_add i 3]; exact zb_t (by omega) (by omega)
  have z4 : zb (nI i + 4) (X.1 - 1) = true := by rw [show nI i + 4 = nI (i + 4) from nI_add i 4]; exact zb_t (by omega) (by omega)
  have z5 : zb (nI i + 5) (X.1 - 1) = true := by rw [show nI i + 5 = nI (i + 5) from nI_add i 5]; exact zb_t (by omega) (by omega)
  obtain ⟨v, s1, I1, s2, I2, e1, e2, hq⟩ := h (X.2 (nI i + 1).toNatClampNeg) (X.2 (nI i + 2).toNatClampNeg) (X.2 (nI i + 3).toNatClampNeg) n s I hn hQ
  refine ⟨s2, I2, ?_, hq⟩
  rw [zq_L_407, if_pos z1, if_pos z2, if_pos z3, e1, zcI_some, zq_L_424, if_pos z1, if_pos z2, if_pos z3, e2, zcI_some, zq_L_441, if_pos rfl, zq_L_937, e6]

theorem zstep_12 {Q : Nat → zQs → (Nat → Nat → Int32) → Prop} (h : ∀ x1 x2 x3 x4 : Int32, zCall Q (zf_152 [.ref 0, .int x1, .int x2, .int x3, .int x4]) (zf_239 [.ref 58, .int x1, .int x2, .int x3, .int x4])) {X : zX} {i n : Nat} {s : zQs} {I : Nat → Nat → Int32} (hi : i + 6 ≤ X.1 - 1) (hX : X.1 ≤ 3073) (hn : n < 512) (hQ : Q n s I) :
    ∃ s2 I2, zQ_L X (444, [.ref 1000000, .ref 0, .ref 58, .int (nI i)], [], zMk (s, I)) = zQ_L X (10, [.ref 1000000, .ref 0, .ref 58, .int (nI (i + 6))], [], zMk (s2, I2)) ∧ Q (n + 1) s2 I2 := by
  have e6 : nI i + 6 = nI (i + 6) := nI_add i 6
  have z1 : zb (nI i + 1) (X.1 - 1) = true := by rw [show nI i + 1 = nI (i + 1) from nI_add i 1]; exact zb_t (by omega) (by omega)
  have z2 : zb (nI i + 2) (X.1 - 1) = true := by rw [show nI i + 2 = nI (i + 2) from nI_add i 2]; exact zb_t (by omega) (by omega)
  have z3 : zb (nI i + 3) (X.1 - 1) = true := by rw [show nI i + 3 = nI (i + 3) from nI_add i 3]; exact zb_t (by omega) (by omega)
  have z4 : zb (nI i + 4) (X.1 - 1) = true := by rw [show nI i + 4 = nI (i + 4) from nI_add i 4]; exact zb_t (by omega) (by omega)
  have z5 : zb (nI i + 5) (X.1 - 1) = true := by rw [show nI i + 5 = nI (i + 5) from nI_add i 5]; exact zb_t (by omega) (by omega)
  obtain ⟨v, s1, I1, s2, I2, e1, e2, hq⟩ := h (X.2 (nI i + 1).toNatClampNeg) (X.2 (nI i + 2).toNatClampNeg) (X.2 (nI i + 3).toNatClampNeg) (X.2 (nI i + 4).toNatClampNeg) n s I hn hQ
  refine ⟨s2, I2, ?_, hq⟩
  rw [zq_L_444, if_pos z1, if_pos z2, if_pos z3, if_pos z4, e1, zcI_some, zq_L_466, if_pos z1, if_pos z2, if_pos z3, if_pos z4, e2, zcI_some, zq_L_488, if_pos rfl, zq_L_937, e6]

theorem zstep_13 {Q : Nat → zQs → (Nat → Nat → Int32) → Prop} (h : ∀ x1 x2 : Int32, zCall Q (zf_153 [.ref 0, .int x1, .int x2]) (zf_241 [.ref 58, .int x1, .int x2])) {X : zX} {i n : Nat} {s : zQs} {I : Nat → Nat → Int32} (hi : i + 6 ≤ X.1 - 1) (hX : X.1 ≤ 3073) (hn : n < 512) (hQ : Q n s I) :
    ∃ s2 I2, zQ_L X (491, [.ref 1000000, .ref 0, .ref 58, .int (nI i)], [], zMk (s, I)) = zQ_L X (10, [.ref 1000000, .ref 0, .ref 58, .int (nI (i + 6))], [], zMk (s2, I2)) ∧ Q (n + 1) s2 I2 := by
  have e6 : nI i + 6 = nI (i + 6) := nI_add i 6
  have z1 : zb (nI i + 1) (X.1 - 1) = true := by rw [show nI i + 1 = nI (i + 1) from nI_add i 1]; exact zb_t (by omega) (by omega)
  have z2 : zb (nI i + 2) (X.1 - 1) = true := by rw [show nI i + 2 = nI (i + 2) from nI_add i 2]; exact zb_t (by omega) (by omega)
  have z3 : zb (nI i + 3) (X.1 - 1) = true := by rw [show nI i + 3 = nI (i + 3) from nI_add i 3]; exact zb_t (by omega) (by omega)
  have z4 : zb (nI i + 4) (X.1 - 1) = true := by rw [show nI i + 4 = nI (i + 4) from nI_add i 4]; exact zb_t (by omega) (by omega)
  have z5 : zb (nI i + 5) (X.1 - 1) = true := by rw [show nI i + 5 = nI (i + 5) from nI_add i 5]; exact zb_t (by omega) (by omega)
  obtain ⟨v, s1, I1, s2, I2, e1, e2, hq⟩ := h (X.2 (nI i + 1).toNatClampNeg) (X.2 (nI i + 2).toNatClampNeg) n s I hn hQ
  refine ⟨s2, I2, ?_, hq⟩
  rw [zq_L_491, if_pos z1, if_pos z2, e1, zcI_some, zq_L_503, if_pos z1, if_pos z2, e2, zcI_some, zq_L_515, if_pos rfl, zq_L_937, e6]

theorem zstep_14 {Q : Nat → zQs → (Nat → Nat → Int32) → Prop} (h : ∀ x1 x2 : Int32, zCall Q (zf_154 [.ref 0, .int x1, .int x2]) (zf_245 [.ref 58, .int x1, .int x2])) {X : zX} {i n : Nat} {s : zQs} {I : Nat → Nat → Int32} (hi : i + 6 ≤ X.1 - 1) (hX : X.1 ≤ 3073) (hn : n < 512) (hQ : Q n s I) :
    ∃ s2 I2, zQ_L X (518, [.ref 1000000, .ref 0, .ref 58, .int (nI i)], [], zMk (s, I)) = zQ_L X (10, [.ref 1000000, .ref 0, .ref 58, .int (nI (i + 6))], [], zMk (s2, I2)) ∧ Q (n + 1) s2 I2 := by
  have e6 : nI i + 6 = nI (i + 6) := nI_add i 6
  have z1 : zb (nI i + 1) (X.1 - 1) = true := by rw [show nI i + 1 = nI (i + 1) from nI_add i 1]; exact zb_t (by omega) (by omega)
  have z2 : zb (nI i + 2) (X.1 - 1) = true := by rw [show nI i + 2 = nI (i + 2) from nI_add i 2]; exact zb_t (by omega) (by omega)
  have z3 : zb (nI i + 3) (X.1 - 1) = true := by rw [show nI i + 3 = nI (i + 3) from nI_add i 3]; exact zb_t (by omega) (by omega)
  have z4 : zb (nI i + 4) (X.1 - 1) = true := by rw [show nI i + 4 = nI (i + 4) from nI_add i 4]; exact zb_t (by omega) (by omega)
  have z5 : zb (nI i + 5) (X.1 - 1) = true := by rw [show nI i + 5 = nI (i + 5) from nI_add i 5]; exact zb_t (by omega) (by omega)
  obtain ⟨v, s1, I1, s2, I2, e1, e2, hq⟩ := h (X.2 (nI i + 1).toNatClampNeg) (X.2 (nI i + 2).toNatClampNeg) n s I hn hQ
  refine ⟨s2, I2, ?_, hq⟩
  rw [zq_L_518, if_pos z1, if_pos z2, e1, zcI_some, zq_L_530, if_pos z1, if_pos z2, e2, zcI_some, zq_L_542, if_pos rfl, zq_L_937, e6]

theorem zstep_15 {Q : Nat → zQs → (Nat → Nat → Int32) → Prop} (h : ∀ x1 x2 : Int32, zCall Q (zf_155 [.ref 0, .int x1, .int x2]) (zf_246 [.ref 58, .int x1, .int x2])) {X : zX} {i n : Nat} {s : zQs} {I : Nat → Nat → Int32} (hi : i + 6 ≤ X.1 - 1) (hX : X.1 ≤ 3073) (hn : n < 512) (hQ : Q n s I) :
    ∃ s2 I2, zQ_L X (545, [.ref 1000000, .ref 0, .ref 58, .int (nI i)], [], zMk (s, I)) = zQ_L X (10, [.ref 1000000, .ref 0, .ref 58, .int (nI (i + 6))], [], zMk (s2, I2)) ∧ Q (n + 1) s2 I2 := by
  have e6 : nI i + 6 = nI (i + 6) := nI_add i 6
  have z1 : zb (nI i + 1) (X.1 - 1) = true := by rw [show nI i + 1 = nI (i + 1) from nI_add i 1]; exact zb_t (by omega) (by omega)
  have z2 : zb (nI i + 2) (X.1 - 1) = true := by rw [show nI i + 2 = nI (i + 2) from nI_add i 2]; exact zb_t (by omega) (by omega)
  have z3 : zb (nI i + 3) (X.1 - 1) = true := by rw [show nI i + 3 = nI (i + 3) from nI_add i 3]; exact zb_t (by omega) (by omega)
  have z4 : zb (nI i + 4) (X.1 - 1) = true := by rw [show nI i + 4 = nI (i + 4) from nI_add i 4]; exact zb_t (by omega) (by omega)
  have z5 : zb (nI i + 5) (X.1 - 1) = true := by rw [show nI i + 5 = nI (i + 5) from nI_add i 5]; exact zb_t (by omega) (by omega)
  obtain ⟨v, s1, I1, s2, I2, e1, e2, hq⟩ := h (X.2 (nI i + 1).toNatClampNeg) (X.2 (nI i + 2).toNatClampNeg) n s I hn hQ
  refine ⟨s2, I2, ?_, hq⟩
  rw [zq_L_545, if_pos z1, if_pos z2, e1, zcI_some, zq_L_557, if_pos z1, if_pos z2, e2, zcI_some, zq_L_569, if_pos rfl, zq_L_937, e6]

theorem zstep_16 {Q : Nat → zQs → (Nat → Nat → Int32) → Prop} (h : ∀ x1 x2 : Int32, zCall Q (zf_156 [.ref 0, .int x1, .int x2]) (zf_250 [.ref 58, .int x1, .int x2])) {X : zX} {i n : Nat} {s : zQs} {I : Nat → Nat → Int32} (hi : i + 6 ≤ X.1 - 1) (hX : X.1 ≤ 3073) (hn : n < 512) (hQ : Q n s I) :
    ∃ s2 I2, zQ_L X (572, [.ref 1000000, .ref 0, .ref 58, .int (nI i)], [], zMk (s, I)) = zQ_L X (10, [.ref 1000000, .ref 0, .ref 58, .int (nI (i + 6))], [], zMk (s2, I2)) ∧ Q (n + 1) s2 I2 := by
  have e6 : nI i + 6 = nI (i + 6) := nI_add i 6
  have z1 : zb (nI i + 1) (X.1 - 1) = true := by rw [show nI i + 1 = nI (i + 1) from nI_add i 1]; exact zb_t (by omega) (by omega)
  have z2 : zb (nI i + 2) (X.1 - 1) = true := by rw [show nI i + 2 = nI (i + 2) from nI_add i 2]; exact zb_t (by omega) (by omega)
  have z3 : zb (nI i + 3) (X.1 - 1) = true := by rw [show nI i + 3 = nI (i + 3) from nI_add i 3]; exact zb_t (by omega) (by omega)
  have z4 : zb (nI i + 4) (X.1 - 1) = true := by rw [show nI i + 4 = nI (i + 4) from nI_add i 4]; exact zb_t (by omega) (by omega)
  have z5 : zb (nI i + 5) (X.1 - 1) = true := by rw [show nI i + 5 = nI (i + 5) from nI_add i 5]; exact zb_t (by omega) (by omega)
  obtain ⟨v, s1, I1, s2, I2, e1, e2, hq⟩ := h (X.2 (nI i + 1).toNatClampNeg) (X.2 (nI i + 2).toNatClampNeg) n s I hn hQ
  refine ⟨s2, I2, ?_, hq⟩
  rw [zq_L_572, if_pos z1, if_pos z2, e1, zcI_some, zq_L_584, if_pos z1, if_pos z2, e2, zcI_some, zq_L_596, if_pos rfl, zq_L_937, e6]

theorem zstep_17 {Q : Nat → zQs → (Nat → Nat → Int32) → Prop} (h : ∀ x1 : Int32, zCall Q (zf_157 [.ref 0, .int x1]) (zf_253 [.ref 58, .int x1])) {X : zX} {i n : Nat} {s : zQs} {I : Nat → Nat → Int32} (hi : i + 6 ≤ X.1 - 1) (hX : X.1 ≤ 3073) (hn : n < 512) (hQ : Q n s I) :
    ∃ s2 I2, zQ_L X (599, [.ref 1000000, .ref 0, .ref 58, .int (nI i)], [], zMk (s, I)) = zQ_L X (10, [.ref 1000000, .ref 0, .ref 58, .int (nI (i + 6))], [], zMk (s2, I2)) ∧ Q (n + 1) s2 I2 := by
  have e6 : nI i + 6 = nI (i + 6) := nI_add i 6
  have z1 : zb (nI i + 1) (X.1 - 1) = true := by rw [show nI i + 1 = nI (i + 1) from nI_add i 1]; exact zb_t (by omega) (by omega)
  have z2 : zb (nI i + 2) (X.1 - 1) = true := by rw [show nI i + 2 = nI (i + 2) from nI_add i 2]; exact zb_t (by omega) (by omega)
  have z3 : zb (nI i + 3) (X.1 - 1) = true := by rw [show nI i + 3 = nI (i + 3) from nI_add i 3]; exact zb_t (by omega) (by omega)
  have z4 : zb (nI i + 4) (X.1 - 1) = true := by rw [show nI i + 4 = nI (i + 4) from nI_add i 4]; exact zb_t (by omega) (by omega)
  have z5 : zb (nI i + 5) (X.1 - 1) = true := by rw [show nI i + 5 = nI (i + 5) from nI_add i 5]; exact zb_t (by omega) (by omega)
  obtain ⟨v, s1, I1, s2, I2, e1, e2, hq⟩ := h (X.2 (nI i + 1).toNatClampNeg) n s I hn hQ
  refine ⟨s2, I2, ?_, hq⟩
  rw [zq_L_599, if_pos z1, e1, zcI_some, zq_L_606, if_pos z1, e2, zcI_some, zq_L_613, if_pos rfl, zq_L_937, e6]

theorem zstep_18 {Q : Nat → zQs → (Nat → Nat → Int32) → Prop} (h : ∀ x1 x2 : Int32, zCall Q (zf_158 [.ref 0, .int x1, .int x2]) (zf_254 [.ref 58, .int x1, .int x2])) {X : zX} {i n : Nat} {s : zQs} {I : Nat → Nat → Int32} (hi : i + 6 ≤ X.1 - 1) (hX : X.1 ≤ 3073) (hn : n < 512) (hQ : Q n s I) :
    ∃ s2 I2, zQ_L X (616, [.ref 1000000, .ref 0, .ref 58, .int (nI i)], [], zMk (s, I)) = zQ_L X (10, [.ref 1000000, .ref 0, .ref 58, .int (nI (i + 6))], [], zMk (s2, I2)) ∧ Q (n + 1) s2 I2 := by
  have e6 : nI i + 6 = nI (i + 6) := nI_add i 6
  have z1 : zb (nI i + 1) (X.1 - 1) = true := by rw [show nI i + 1 = nI (i + 1) from nI_add i 1]; exact zb_t (by omega) (by omega)
  have z2 : zb (nI i + 2) (X.1 - 1) = true := by rw [show nI i + 2 = nI (i + 2) from nI_add i 2]; exact zb_t (by omega) (by omega)
  have z3 : zb (nI i + 3) (X.1 - 1) = true := by rw [show nI i + 3 = nI (i + 3) from nI_add i 3]; exact zb_t (by omega) (by omega)
  have z4 : zb (nI i + 4) (X.1 - 1) = true := by rw [show nI i + 4 = nI (i + 4) from nI_add i 4]; exact zb_t (by omega) (by omega)
  have z5 : zb (nI i + 5) (X.1 - 1) = true := by rw [show nI i + 5 = nI (i + 5) from nI_add i 5]; exact zb_t (by omega) (by omega)
  obtain ⟨v, s1, I1, s2, I2, e1, e2, hq⟩ := h (X.2 (nI i + 1).toNatClampNeg) (X.2 (nI i + 2).toNatClampNeg) n s I hn hQ
  refine ⟨s2, I2, ?_, hq⟩
  rw [zq_L_616, if_pos z1, if_pos z2, e1, zcI_some, zq_L_628, if_pos z1, if_pos z2, e2, zcI_some, zq_L_640, if_pos rfl, zq_L_937, e6]

theorem zstep_19 {Q : Nat → zQs → (Nat → Nat → Int32) → Prop} (h : ∀ x1 x2 x3 : Int32, zCall Q (zf_159 [.ref 0, .int x1, .int x2, .int x3]) (zf_258 [.ref 58, .int x1, .int x2, .int x3])) {X : zX} {i n : Nat} {s : zQs} {I : Nat → Nat → Int32} (hi : i + 6 ≤ X.1 - 1) (hX : X.1 ≤ 3073) (hn : n < 512) (hQ : Q n s I) :
    ∃ s2 I2, zQ_L X (643, [.ref 1000000, .ref 0, .ref 58, .int (nI i)], [], zMk (s, I)) = zQ_L X (10, [.ref 1000000, .ref 0, .ref 58, .int (nI (i + 6))], [], zMk (s2, I2)) ∧ Q (n + 1) s2 I2 := by
  have e6 : nI i + 6 = nI (i + 6) := nI_add i 6
  have z1 : zb (nI i + 1) (X.1 - 1) = true := by rw [show nI i + 1 = nI (i + 1) from nI_add i 1]; exact zb_t (by omega) (by omega)
  have z2 : zb (nI i + 2) (X.1 - 1) = true := by rw [show nI i + 2 = nI (i + 2) from nI_add i 2]; exact zb_t (by omega) (by omega)
  have z3 : zb (nI i + 3) (X.1 - 1) = true := by rw [show nI i + 3 = nI (i + 3) from nI_add i 3]; exact zb_t (by omega) (by omega)
  have z4 : zb (nI i + 4) (X.1 - 1) = true := by rw [show nI i + 4 = nI (i + 4) from nI_add i 4]; exact zb_t (by omega) (by omega)
  have z5 : zb (nI i + 5) (X.1 - 1) = true := by rw [show nI i + 5 = nI (i + 5) from nI_add i 5]; exact zb_t (by omega) (by omega)
  obtain ⟨v, s1, I1, s2, I2, e1, e2, hq⟩ := h (X.2 (nI i + 1).toNatClampNeg) (X.2 (nI i + 2).toNatClampNeg) (X.2 (nI i + 3).toNatClampNeg) n s I hn hQ
  refine ⟨s2, I2, ?_, hq⟩
  rw [zq_L_643, if_pos z1, if_pos z2, if_pos z3, e1, zcI_some, zq_L_660, if_pos z1, if_pos z2, if_pos z3, e2, zcI_some, zq_L_677, if_pos rfl, zq_L_937, e6]

theorem zstep_20 {Q : Nat → zQs → (Nat → Nat → Int32) → Prop} (h : ∀ x1 x2 : Int32, zCall Q (zf_160 [.ref 0, .int x1, .int x2]) (zf_260 [.ref 58, .int x1, .int x2])) {X : zX} {i n : Nat} {s : zQs} {I : Nat → Nat → Int32} (hi : i + 6 ≤ X.1 - 1) (hX : X.1 ≤ 3073) (hn : n < 512) (hQ : Q n s I) :
    ∃ s2 I2, zQ_L X (680, [.ref 1000000, .ref 0, .ref 58, .int (nI i)], [], zMk (s, I)) = zQ_L X (10, [.ref 1000000, .ref 0, .ref 58, .int (nI (i + 6))], [], zMk (s2, I2)) ∧ Q (n + 1) s2 I2 := by
  have e6 : nI i + 6 = nI (i + 6) := nI_add i 6
  have z1 : zb (nI i + 1) (X.1 - 1) = true := by rw [show nI i + 1 = nI (i + 1) from nI_add i 1]; exact zb_t (by omega) (by omega)
  have z2 : zb (nI i + 2) (X.1 - 1) = true := by rw [show nI i + 2 = nI (i + 2) from nI_add i 2]; exact zb_t (by omega) (by omega)
  have z3 : zb (nI i + 3) (X.1 - 1) = true := by rw [show nI i + 3 = nI (i + 3) from nI_add i 3]; exact zb_t (by omega) (by omega)
  have z4 : zb (nI i + 4) (X.1 - 1) = true := by rw [show nI i + 4 = nI (i + 4) from nI_add i 4]; exact zb_t (by omega) (by omega)
  have z5 : zb (nI i + 5) (X.1 - 1) = true := by rw [show nI i + 5 = nI (i + 5) from nI_add i 5]; exact zb_t (by omega) (by omega)
  obtain ⟨v, s1, I1, s2, I2, e1, e2, hq⟩ := h (X.2 (nI i + 1).toNatClampNeg) (X.2 (nI i + 2).toNatClampNeg) n s I hn hQ
  refine ⟨s2, I2, ?_, hq⟩
  rw [zq_L_680, if_pos z1, if_pos z2, e1, zcI_some, zq_L_692, if_pos z1, if_pos z2, e2, zcI_some, zq_L_704, if_pos rfl, zq_L_937, e6]

theorem zstep_21 {Q : Nat → zQs → (Nat → Nat → Int32) → Prop} (h : ∀ x1 x2 x3 : Int32, zCall Q (zf_161 [.ref 0, .int x1, .int x2, .int x3]) (zf_262 [.ref 58, .int x1, .int x2, .int x3])) {X : zX} {i n : Nat} {s : zQs} {I : Nat → Nat → Int32} (hi : i + 6 ≤ X.1 - 1) (hX : X.1 ≤ 3073) (hn : n < 512) (hQ : Q n s I) :
    ∃ s2 I2, zQ_L X (707, [.ref 1000000, .ref 0, .ref 58, .int (nI i)], [], zMk (s, I)) = zQ_L X (10, [.ref 1000000, .ref 0, .ref 58, .int (nI (i + 6))], [], zMk (s2, I2)) ∧ Q (n + 1) s2 I2 := by
  have e6 : nI i + 6 = nI (i + 6) := nI_add i 6
  have z1 : zb (nI i + 1) (X.1 - 1) = true := by rw [show nI i + 1 = nI (i + 1) from nI_add i 1]; exact zb_t (by omega) (by omega)
  have z2 : zb (nI i + 2) (X.1 - 1) = true := by rw [show nI i + 2 = nI (i + 2) from nI_add i 2]; exact zb_t (by omega) (by omega)
  have z3 : zb (nI i + 3) (X.1 - 1) = true := by rw [show nI i + 3 = nI (i + 3) from nI_add i 3]; exact zb_t (by omega) (by omega)
  have z4 : zb (nI i + 4) (X.1 - 1) = true := by rw [show nI i + 4 = nI (i + 4) from nI_add i 4]; exact zb_t (by omega) (by omega)
  have z5 : zb (nI i + 5) (X.1 - 1) = true := by rw [show nI i + 5 = nI (i + 5) from nI_add i 5]; exact zb_t (by omega) (by omega)
  obtain ⟨v, s1, I1, s2, I2, e1, e2, hq⟩ := h (X.2 (nI i + 1).toNatClampNeg) (X.2 (nI i + 2).toNatClampNeg) (X.2 (nI i + 3).toNatClampNeg) n s I hn hQ
  refine ⟨s2, I2, ?_, hq⟩
  rw [zq_L_707, if_pos z1, if_pos z2, if_pos z3, e1, zcI_some, zq_L_724, if_pos z1, if_pos z2, if_pos z3, e2, zcI_some, zq_L_741, if_pos rfl, zq_L_937, e6]

theorem zstep_22 {Q : Nat → zQs → (Nat → Nat → Int32) → Prop} (h : ∀ x1 x2 x3 : Int32, zCall Q (zf_162 [.ref 0, .int x1, .int x2, .int x3]) (zf_263 [.ref 58, .int x1, .int x2, .int x3])) {X : zX} {i n : Nat} {s : zQs} {I : Nat → Nat → Int32} (hi : i + 6 ≤ X.1 - 1) (hX : X.1 ≤ 3073) (hn : n < 512) (hQ : Q n s I) :
    ∃ s2 I2, zQ_L X (744, [.ref 1000000, .ref 0, .ref 58, .int (nI i)], [], zMk (s, I)) = zQ_L X (10, [.ref 1000000, .ref 0, .ref 58, .int (nI (i + 6))], [], zMk (s2, I2)) ∧ Q (n + 1) s2 I2 := by
  have e6 : nI i + 6 = nI (i + 6) := nI_add i 6
  have z1 : zb (nI i + 1) (X.1 - 1) = true := by rw [show nI i + 1 = nI (i + 1) from nI_add i 1]; exact zb_t (by omega) (by omega)
  have z2 : zb (nI i + 2) (X.1 - 1) = true := by rw [show nI i + 2 = nI (i + 2) from nI_add i 2]; exact zb_t (by omega) (by omega)
  have z3 : zb (nI i + 3) (X.1 - 1) = true := by rw [show nI i + 3 = nI (i + 3) from nI_add i 3]; exact zb_t (by omega) (by omega)
  have z4 : zb (nI i + 4) (X.1 - 1) = true := by rw [show nI i + 4 = nI (i + 4) from nI_add i 4]; exact zb_t (by omega) (by omega)
  have z5 : zb (nI i + 5) (X.1 - 1) = true := by rw [show nI i + 5 = nI (i + 5) from nI_add i 5]; exact zb_t (by omega) (by omega)
  obtain ⟨v, s1, I1, s2, I2, e1, e2, hq⟩ := h (X.2 (nI i + 1).toNatClampNeg) (X.2 (nI i + 2).toNatClampNeg) (X.2 (nI i + 3).toNatClampNeg) n s I hn hQ
  refine ⟨s2, I2, ?_, hq⟩
  rw [zq_L_744, if_pos z1, if_pos z2, if_pos z3, e1, zcI_some, zq_L_761, if_pos z1, if_pos z2, if_pos z3, e2, zcI_some, zq_L_778, if_pos rfl, zq_L_937, e6]

theorem zstep_23 {Q : Nat → zQs → (Nat → Nat → Int32) → Prop} (h : ∀ x1 x2 : Int32, zCall Q (zf_163 [.ref 0, .int x1, .int x2]) (zf_266 [.ref 58, .int x1, .int x2])) {X : zX} {i n : Nat} {s : zQs} {I : Nat → Nat → Int32} (hi : i + 6 ≤ X.1 - 1) (hX : X.1 ≤ 3073) (hn : n < 512) (hQ : Q n s I) :
    ∃ s2 I2, zQ_L X (781, [.ref 1000000, .ref 0, .ref 58, .int (nI i)], [], zMk (s, I)) = zQ_L X (10, [.ref 1000000, .ref 0, .ref 58, .int (nI (i + 6))], [], zMk (s2, I2)) ∧ Q (n + 1) s2 I2 := by
  have e6 : nI i + 6 = nI (i + 6) := nI_add i 6
  have z1 : zb (nI i + 1) (X.1 - 1) = true := by rw [show nI i + 1 = nI (i + 1) from nI_add i 1]; exact zb_t (by omega) (by omega)
  have z2 : zb (nI i + 2) (X.1 - 1) = true := by rw [show nI i + 2 = nI (i + 2) from nI_add i 2]; exact zb_t (by omega) (by omega)
  have z3 : zb (nI i + 3) (X.1 - 1) = true := by rw [show nI i + 3 = nI (i + 3) from nI_add i 3]; exact zb_t (by omega) (by omega)
  have z4 : zb (nI i + 4) (X.1 - 1) = true := by rw [show nI i + 4 = nI (i + 4) from nI_add i 4]; exact zb_t (by omega) (by omega)
  have z5 : zb (nI i + 5) (X.1 - 1) = true := by rw [show nI i + 5 = nI (i + 5) from nI_add i 5]; exact zb_t (by omega) (by omega)
  obtain ⟨v, s1, I1, s2, I2, e1, e2, hq⟩ := h (X.2 (nI i + 1).toNatClampNeg) (X.2 (nI i + 2).toNatClampNeg) n s I hn hQ
  refine ⟨s2, I2, ?_, hq⟩
  rw [zq_L_781, if_pos z1, if_pos z2, e1, zcI_some, zq_L_793, if_pos z1, if_pos z2, e2, zcI_some, zq_L_805, if_pos rfl, zq_L_937, e6]

theorem zstep_24 {Q : Nat → zQs → (Nat → Nat → Int32) → Prop} (h : ∀ x1 : Int32, zCall Q (zf_164 [.ref 0, .int x1]) (zf_267 [.ref 58, .int x1])) {X : zX} {i n : Nat} {s : zQs} {I : Nat → Nat → Int32} (hi : i + 6 ≤ X.1 - 1) (hX : X.1 ≤ 3073) (hn : n < 512) (hQ : Q n s I) :
    ∃ s2 I2, zQ_L X (808, [.ref 1000000, .ref 0, .ref 58, .int (nI i)], [], zMk (s, I)) = zQ_L X (10, [.ref 1000000, .ref 0, .ref 58, .int (nI (i + 6))], [], zMk (s2, I2)) ∧ Q (n + 1) s2 I2 := by
  have e6 : nI i + 6 = nI (i + 6) := nI_add i 6
  have z1 : zb (nI i + 1) (X.1 - 1) = true := by rw [show nI i + 1 = nI (i + 1) from nI_add i 1]; exact zb_t (by omega) (by omega)
  have z2 : zb (nI i + 2) (X.1 - 1) = true := by rw [show nI i + 2 = nI (i + 2) from nI_add i 2]; exact zb_t (by omega) (by omega)
  have z3 : zb (nI i + 3) (X.1 - 1) = true := by rw [show nI i + 3 = nI (i + 3) from nI_add i 3]; exact zb_t (by omega) (by omega)
  have z4 : zb (nI i + 4) (X.1 - 1) = true := by rw [show nI i + 4 = nI (i + 4) from nI_add i 4]; exact zb_t (by omega) (by omega)
  have z5 : zb (nI i + 5) (X.1 - 1) = true := by rw [show nI i + 5 = nI (i + 5) from nI_add i 5]; exact zb_t (by omega) (by omega)
  obtain ⟨v, s1, I1, s2, I2, e1, e2, hq⟩ := h (X.2 (nI i + 1).toNatClampNeg) n s I hn hQ
  refine ⟨s2, I2, ?_, hq⟩
  rw [zq_L_808, if_pos z1, e1, zcI_some, zq_L_815, if_pos z1, e2, zcI_some, zq_L_822, if_pos rfl, zq_L_937, e6]

theorem zstep_25 {Q : Nat → zQs → (Nat → Nat → Int32) → Prop} (h : ∀ x1 : Int32, zCall Q (zf_165 [.ref 0, .int x1]) (zf_268 [.ref 58, .int x1])) {X : zX} {i n : Nat} {s : zQs} {I : Nat → Nat → Int32} (hi : i + 6 ≤ X.1 - 1) (hX : X.1 ≤ 3073) (hn : n < 512) (hQ : Q n s I) :
    ∃ s2 I2, zQ_L X (825, [.ref 1000000, .ref 0, .ref 58, .int (nI i)], [], zMk (s, I)) = zQ_L X (10, [.ref 1000000, .ref 0, .ref 58, .int (nI (i + 6))], [], zMk (s2, I2)) ∧ Q (n + 1) s2 I2 := by
  have e6 : nI i + 6 = nI (i + 6) := nI_add i 6
  have z1 : zb (nI i + 1) (X.1 - 1) = true := by rw [show nI i + 1 = nI (i + 1) from nI_add i 1]; exact zb_t (by omega) (by omega)
  have z2 : zb (nI i + 2) (X.1 - 1) = true := by rw [show nI i + 2 = nI (i + 2) from nI_add i 2]; exact zb_t (by omega) (by omega)
  have z3 : zb (nI i + 3) (X.1 - 1) = true := by rw [show nI i + 3 = nI (i + 3) from nI_add i 3]; exact zb_t (by omega) (by omega)
  have z4 : zb (nI i + 4) (X.1 - 1) = true := by rw [show nI i + 4 = nI (i + 4) from nI_add i 4]; exact zb_t (by omega) (by omega)
  have z5 : zb (nI i + 5) (X.1 - 1) = true := by rw [show nI i + 5 = nI (i + 5) from nI_add i 5]; exact zb_t (by omega) (by omega)
  obtain ⟨v, s1, I1, s2, I2, e1, e2, hq⟩ := h (X.2 (nI i + 1).toNatClampNeg) n s I hn hQ
  refine ⟨s2, I2, ?_, hq⟩
  rw [zq_L_825, if_pos z1, e1, zcI_some, zq_L_832, if_pos z1, e2, zcI_some, zq_L_839, if_pos rfl, zq_L_937, e6]

theorem zstep_26 {Q : Nat → zQs → (Nat → Nat → Int32) → Prop} (h : ∀ x1 x2 x3 : Int32, zCall Q (zf_166 [.ref 0, .int x1, .int x2, .int x3]) (zf_269 [.ref 58, .int x1, .int x2, .int x3])) {X : zX} {i n : Nat} {s : zQs} {I : Nat → Nat → Int32} (hi : i + 6 ≤ X.1 - 1) (hX : X.1 ≤ 3073) (hn : n < 512) (hQ : Q n s I) :
    ∃ s2 I2, zQ_L X (842, [.ref 1000000, .ref 0, .ref 58, .int (nI i)], [], zMk (s, I)) = zQ_L X (10, [.ref 1000000, .ref 0, .ref 58, .int (nI (i + 6))], [], zMk (s2, I2)) ∧ Q (n + 1) s2 I2 := by
  have e6 : nI i + 6 = nI (i + 6) := nI_add i 6
  have z1 : zb (nI i + 1) (X.1 - 1) = true := by rw [show nI i + 1 = nI (i + 1) from nI_add i 1]; exact zb_t (by omega) (by omega)
  have z2 : zb (nI i + 2) (X.1 - 1) = true := by rw [show nI i + 2 = nI (i + 2) from nI_add i 2]; exact zb_t (by omega) (by omega)
  have z3 : zb (nI i + 3) (X.1 - 1) = true := by rw [show nI i + 3 = nI (i + 3) from nI_add i 3]; exact zb_t (by omega) (by omega)
  have z4 : zb (nI i + 4) (X.1 - 1) = true := by rw [show nI i + 4 = nI (i + 4) from nI_add i 4]; exact zb_t (by omega) (by omega)
  have z5 : zb (nI i + 5) (X.1 - 1) = true := by rw [show nI i + 5 = nI (i + 5) from nI_add i 5]; exact zb_t (by omega) (by omega)
  obtain ⟨v, s1, I1, s2, I2, e1, e2, hq⟩ := h (X.2 (nI i + 1).toNatClampNeg) (X.2 (nI i + 2).toNatClampNeg) (X.2 (nI i + 3).toNatClampNeg) n s I hn hQ
  refine ⟨s2, I2, ?_, hq⟩
  rw [zq_L_842, if_pos z1, if_pos z2, if_pos z3, e1, zcI_some, zq_L_859, if_pos z1, if_pos z2, if_pos z3, e2, zcI_some, zq_L_876, if_pos rfl, zq_L_937, e6]

theorem zstep_27 {Q : Nat → zQs → (Nat → Nat → Int32) → Prop} (h : zCall Q (zf_167 [.ref 0]) (zf_270 [.ref 58])) {X : zX} {i n : Nat} {s : zQs} {I : Nat → Nat → Int32} (hi : i + 6 ≤ X.1 - 1) (hX : X.1 ≤ 3073) (hn : n < 512) (hQ : Q n s I) :
    ∃ s2 I2, zQ_L X (879, [.ref 1000000, .ref 0, .ref 58, .int (nI i)], [], zMk (s, I)) = zQ_L X (10, [.ref 1000000, .ref 0, .ref 58, .int (nI (i + 6))], [], zMk (s2, I2)) ∧ Q (n + 1) s2 I2 := by
  have e6 : nI i + 6 = nI (i + 6) := nI_add i 6
  have z1 : zb (nI i + 1) (X.1 - 1) = true := by rw [show nI i + 1 = nI (i + 1) from nI_add i 1]; exact zb_t (by omega) (by omega)
  have z2 : zb (nI i + 2) (X.1 - 1) = true := by rw [show nI i + 2 = nI (i + 2) from nI_add i 2]; exact zb_t (by omega) (by omega)
  have z3 : zb (nI i + 3) (X.1 - 1) = true := by rw [show nI i + 3 = nI (i + 3) from nI_add i 3]; exact zb_t (by omega) (by omega)
  have z4 : zb (nI i + 4) (X.1 - 1) = true := by rw [show nI i + 4 = nI (i + 4) from nI_add i 4]; exact zb_t (by omega) (by omega)
  have z5 : zb (nI i + 5) (X.1 - 1) = true := by rw [show nI i + 5 = nI (i + 5) from nI_add i 5]; exact zb_t (by omega) (by omega)
  obtain ⟨v, s1, I1, s2, I2, e1, e2, hq⟩ := h  n s I hn hQ
  refine ⟨s2, I2, ?_, hq⟩
  rw [zq_L_879, e1, zcI_some, zq_L_881, e2, zcI_some, zq_L_883, if_pos rfl, zq_L_937, e6]

theorem zstep_28 {Q : Nat → zQs → (Nat → Nat → Int32) → Prop} (h : zCall Q (zf_168 [.ref 0]) (zf_271 [.ref 58])) {X : zX} {i n : Nat} {s : zQs} {I : Nat → Nat → Int32} (hi : i + 6 ≤ X.1 - 1) (hX : X.1 ≤ 3073) (hn : n < 512) (hQ : Q n s I) :
    ∃ s2 I2, zQ_L X (886, [.ref 1000000, .ref 0, .ref 58, .int (nI i)], [], zMk (s, I)) = zQ_L X (10, [.ref 1000000, .ref 0, .ref 58, .int (nI (i + 6))], [], zMk (s2, I2)) ∧ Q (n + 1) s2 I2 := by
  have e6 : nI i + 6 = nI (i + 6) := nI_add i 6
  have z1 : zb (nI i + 1) (X.1 - 1) = true := by rw [show nI i + 1 = nI (i + 1) from nI_add i 1]; exact zb_t (by omega) (by omega)
  have z2 : zb (nI i + 2) (X.1 - 1) = true := by rw [show nI i + 2 = nI (i + 2) from nI_add i 2]; exact zb_t (by omega) (by omega)
  have z3 : zb (nI i + 3) (X.1 - 1) = true := by rw [show nI i + 3 = nI (i + 3) from nI_add i 3]; exact zb_t (by omega) (by omega)
  have z4 : zb (nI i + 4) (X.1 - 1) = true := by rw [show nI i + 4 = nI (i + 4) from nI_add i 4]; exact zb_t (by omega) (by omega)
  have z5 : zb (nI i + 5) (X.1 - 1) = true := by rw [show nI i + 5 = nI (i + 5) from nI_add i 5]; exact zb_t (by omega) (by omega)
  obtain ⟨v, s1, I1, s2, I2, e1, e2, hq⟩ := h  n s I hn hQ
  refine ⟨s2, I2, ?_, hq⟩
  rw [zq_L_886, e1, zcI_some, zq_L_888, e2, zcI_some, zq_L_890, if_pos rfl, zq_L_937, e6]

theorem zstep_29 {Q : Nat → zQs → (Nat → Nat → Int32) → Prop} (h : ∀ x1 x2 : Int32, zCall Q (zf_169 [.ref 0, .int x1, .int x2]) (zf_273 [.ref 58, .int x1, .int x2])) {X : zX} {i n : Nat} {s : zQs} {I : Nat → Nat → Int32} (hi : i + 6 ≤ X.1 - 1) (hX : X.1 ≤ 3073) (hn : n < 512) (hQ : Q n s I) :
    ∃ s2 I2, zQ_L X (893, [.ref 1000000, .ref 0, .ref 58, .int (nI i)], [], zMk (s, I)) = zQ_L X (10, [.ref 1000000, .ref 0, .ref 58, .int (nI (i + 6))], [], zMk (s2, I2)) ∧ Q (n + 1) s2 I2 := by
  have e6 : nI i + 6 = nI (i + 6) := nI_add i 6
  have z1 : zb (nI i + 1) (X.1 - 1) = true := by rw [show nI i + 1 = nI (i + 1) from nI_add i 1]; exact zb_t (by omega) (by omega)
  have z2 : zb (nI i + 2) (X.1 - 1) = true := by rw [show nI i + 2 = nI (i + 2) from nI_add i 2]; exact zb_t (by omega) (by omega)
  have z3 : zb (nI i + 3) (X.1 - 1) = true := by rw [show nI i + 3 = nI (i + 3) from nI_add i 3]; exact zb_t (by omega) (by omega)
  have z4 : zb (nI i + 4) (X.1 - 1) = true := by rw [show nI i + 4 = nI (i + 4) from nI_add i 4]; exact zb_t (by omega) (by omega)
  have z5 : zb (nI i + 5) (X.1 - 1) = true := by rw [show nI i + 5 = nI (i + 5) from nI_add i 5]; exact zb_t (by omega) (by omega)
  obtain ⟨v, s1, I1, s2, I2, e1, e2, hq⟩ := h (X.2 (nI i + 1).toNatClampNeg) (X.2 (nI i + 2).toNatClampNeg) n s I hn hQ
  refine ⟨s2, I2, ?_, hq⟩
  rw [zq_L_893, if_pos z1, if_pos z2, e1, zcI_some, zq_L_905, if_pos z1, if_pos z2, e2, zcI_some, zq_L_917, if_pos rfl, zq_L_937, e6]

theorem zstep_30 {Q : Nat → zQs → (Nat → Nat → Int32) → Prop} (h : ∀ x1 : Int32, zCall Q (zf_170 [.ref 0, .int x1]) (zf_274 [.ref 58, .int x1])) {X : zX} {i n : Nat} {s : zQs} {I : Nat → Nat → Int32} (hi : i + 6 ≤ X.1 - 1) (hX : X.1 ≤ 3073) (hn : n < 512) (hQ : Q n s I) :
    ∃ s2 I2, zQ_L X (920, [.ref 1000000, .ref 0, .ref 58, .int (nI i)], [], zMk (s, I)) = zQ_L X (10, [.ref 1000000, .ref 0, .ref 58, .int (nI (i + 6))], [], zMk (s2, I2)) ∧ Q (n + 1) s2 I2 := by
  have e6 : nI i + 6 = nI (i + 6) := nI_add i 6
  have z1 : zb (nI i + 1) (X.1 - 1) = true := by rw [show nI i + 1 = nI (i + 1) from nI_add i 1]; exact zb_t (by omega) (by omega)
  have z2 : zb (nI i + 2) (X.1 - 1) = true := by rw [show nI i + 2 = nI (i + 2) from nI_add i 2]; exact zb_t (by omega) (by omega)
  have z3 : zb (nI i + 3) (X.1 - 1) = true := by rw [show nI i + 3 = nI (i + 3) from nI_add i 3]; exact zb_t (by omega) (by omega)
  have z4 : zb (nI i + 4) (X.1 - 1) = true := by rw [show nI i + 4 = nI (i + 4) from nI_add i 4]; exact zb_t (by omega) (by omega)
  have z5 : zb (nI i + 5) (X.1 - 1) = true := by rw [show nI i + 5 = nI (i + 5) from nI_add i 5]; exact zb_t (by omega) (by omega)
  obtain ⟨v, s1, I1, s2, I2, e1, e2, hq⟩ := h (X.2 (nI i + 1).toNatClampNeg) n s I hn hQ
  refine ⟨s2, I2, ?_, hq⟩
  rw [zq_L_920, if_pos z1, e1, zcI_some, zq_L_927, if_pos z1, e2, zcI_some, zq_L_934, if_pos rfl, zq_L_937, e6]

def zCalls (Q : Nat → zQs → (Nat → Nat → Int32) → Prop) : Prop :=
  (∀ x1 : Int32, zCall Q (zf_140 [.ref 0, .int x1]) (zf_184 [.ref 58, .int x1])) ∧
  (∀ x1 x2 x3 : Int32, zCall Q (zf_141 [.ref 0, .int x1, .int x2, .int x3]) (zf_186 [.ref 58, .int x1, .int x2, .int x3])) ∧
  (∀ x1 : Int32, zCall Q (zf_142 [.ref 0, .int x1]) (zf_187 [.ref 58, .int x1])) ∧
  (∀ x1 x2 x3 x4 x5 : Int32, zCall Q (zf_143 [.ref 0, .int x1, .int x2, .int x3, .int x4, .int x5]) (zf_189 [.ref 58, .int x1, .int x2, .int x3, .int x4, .int x5])) ∧
  (∀ x1 : Int32, zCall Q (zf_144 [.ref 0, .int x1]) (zf_210 [.ref 58, .int x1])) ∧
  (∀ x1 x3 : Int32, ∀ b : Int32, (b = 0 ∨ b = 1) → zCall Q (zf_145 [.ref 0, .int x1, .int b, .int x3]) (zf_215 [.ref 58, .int x1, .int b, .int x3])) ∧
  (∀ x1 x2 x3 x4 : Int32, zCall Q (zf_146 [.ref 0, .int x1, .int x2, .int x3, .int x4]) (zf_223 [.ref 58, .int x1, .int x2, .int x3, .int x4])) ∧
  (∀ x1 x2 x3 x4 : Int32, zCall Q (zf_147 [.ref 0, .int x1, .int x2, .int x3, .int x4]) (zf_224 [.ref 58, .int x1, .int x2, .int x3, .int x4])) ∧
  (∀ x1 x2 : Int32, zCall Q (zf_148 [.ref 0, .int x1, .int x2]) (zf_226 [.ref 58, .int x1, .int x2])) ∧
  (∀ x1 x2 x3 : Int32, zCall Q (zf_149 [.ref 0, .int x1, .int x2, .int x3]) (zf_233 [.ref 58, .int x1, .int x2, .int x3])) ∧
  (∀ x1 x2 x3 : Int32, zCall Q (zf_150 [.ref 0, .int x1, .int x2, .int x3]) (zf_235 [.ref 58, .int x1, .int x2, .int x3])) ∧
  (∀ x1 x2 x3 : Int32, zCall Q (zf_151 [.ref 0, .int x1, .int x2, .int x3]) (zf_238 [.ref 58, .int x1, .int x2, .int x3])) ∧
  (∀ x1 x2 x3 x4 : Int32, zCall Q (zf_152 [.ref 0, .int x1, .int x2, .int x3, .int x4]) (zf_239 [.ref 58, .int x1, .int x2, .int x3, .int x4])) ∧
  (∀ x1 x2 : Int32, zCall Q (zf_153 [.ref 0, .int x1, .int x2]) (zf_241 [.ref 58, .int x1, .int x2])) ∧
  (∀ x1 x2 : Int32, zCall Q (zf_154 [.ref 0, .int x1, .int x2]) (zf_245 [.ref 58, .int x1, .int x2])) ∧
  (∀ x1 x2 : Int32, zCall Q (zf_155 [.ref 0, .int x1, .int x2]) (zf_246 [.ref 58, .int x1, .int x2])) ∧
  (∀ x1 x2 : Int32, zCall Q (zf_156 [.ref 0, .int x1, .int x2]) (zf_250 [.ref 58, .int x1, .int x2])) ∧
  (∀ x1 : Int32, zCall Q (zf_157 [.ref 0, .int x1]) (zf_253 [.ref 58, .int x1])) ∧
  (∀ x1 x2 : Int32, zCall Q (zf_158 [.ref 0, .int x1, .int x2]) (zf_254 [.ref 58, .int x1, .int x2])) ∧
  (∀ x1 x2 x3 : Int32, zCall Q (zf_159 [.ref 0, .int x1, .int x2, .int x3]) (zf_258 [.ref 58, .int x1, .int x2, .int x3])) ∧
  (∀ x1 x2 : Int32, zCall Q (zf_160 [.ref 0, .int x1, .int x2]) (zf_260 [.ref 58, .int x1, .int x2])) ∧
  (∀ x1 x2 x3 : Int32, zCall Q (zf_161 [.ref 0, .int x1, .int x2, .int x3]) (zf_262 [.ref 58, .int x1, .int x2, .int x3])) ∧
  (∀ x1 x2 x3 : Int32, zCall Q (zf_162 [.ref 0, .int x1, .int x2, .int x3]) (zf_263 [.ref 58, .int x1, .int x2, .int x3])) ∧
  (∀ x1 x2 : Int32, zCall Q (zf_163 [.ref 0, .int x1, .int x2]) (zf_266 [.ref 58, .int x1, .int x2])) ∧
  (∀ x1 : Int32, zCall Q (zf_164 [.ref 0, .int x1]) (zf_267 [.ref 58, .int x1])) ∧
  (∀ x1 : Int32, zCall Q (zf_165 [.ref 0, .int x1]) (zf_268 [.ref 58, .int x1])) ∧
  (∀ x1 x2 x3 : Int32, zCall Q (zf_166 [.ref 0, .int x1, .int x2, .int x3]) (zf_269 [.ref 58, .int x1, .int x2, .int x3])) ∧
  (zCall Q (zf_167 [.ref 0]) (zf_270 [.ref 58])) ∧
  (zCall Q (zf_168 [.ref 0]) (zf_271 [.ref 58])) ∧
  (∀ x1 x2 : Int32, zCall Q (zf_169 [.ref 0, .int x1, .int x2]) (zf_273 [.ref 58, .int x1, .int x2])) ∧
  (∀ x1 : Int32, zCall Q (zf_170 [.ref 0, .int x1]) (zf_274 [.ref 58, .int x1]))
theorem zturn {Q : Nat → zQs → (Nat → Nat → Int32) → Prop} (h : zCalls Q) (hm : ∀ n s I, Q n s I → Q (n + 1) s I) {X : zX} {i n : Nat} {s : zQs} {I : Nat → Nat → Int32} (hi : i + 6 ≤ X.1 - 1) (hX : X.1 ≤ 3073) (hn : n < 512) (hQ : Q n s I) (x : Int32) :
    ∃ s2 I2, zQ_L X (21, [.ref 1000000, .ref 0, .ref 58, .int (nI i)], [.int (x &&& 31)], zMk (s, I)) = zQ_L X (10, [.ref 1000000, .ref 0, .ref 58, .int (nI (i + 6))], [], zMk (s2, I2)) ∧ Q (n + 1) s2 I2 := by
  obtain ⟨j, hj, e⟩ := and31 x
  rw [e, zq_L_21]
  obtain ⟨h0, h1, h2, h3, h4, h5, h6, h7, h8, h9, h10, h11, h12, h13, h14, h15, h16, h17, h18, h19, h20, h21, h22, h23, h24, h25, h26, h27, h28, h29, h30⟩ := h
  have hc : j = 0 ∨ j = 1 ∨ j = 2 ∨ j = 3 ∨ j = 4 ∨ j = 5 ∨ j = 6 ∨ j = 7 ∨ j = 8 ∨ j = 9 ∨ j = 10 ∨ j = 11 ∨ j = 12 ∨ j = 13 ∨ j = 14 ∨ j = 15 ∨ j = 16 ∨ j = 17 ∨ j = 18 ∨ j = 19 ∨ j = 20 ∨ j = 21 ∨ j = 22 ∨ j = 23 ∨ j = 24 ∨ j = 25 ∨ j = 26 ∨ j = 27 ∨ j = 28 ∨ j = 29 ∨ j = 30 ∨ j = 31 := by omega
  rcases hc with rfl | rfl | rfl | rfl | rfl | rfl | rfl | rfl | rfl | rfl | rfl | rfl | rfl | rfl | rfl | rfl | rfl | rfl | rfl | rfl | rfl | rfl | rfl | rfl | rfl | rfl | rfl | rfl | rfl | rfl | rfl | rfl
  · rw [ztab_to (j := 0) (t := 22) (by decide) (by decide) rfl]
    exact zstep_0 h0 hi hX hn hQ
  · rw [ztab_to (j := 1) (t := 39) (by decide) (by decide) rfl]
    exact zstep_1 h1 hi hX hn hQ
  · rw [ztab_to (j := 2) (t := 76) (by decide) (by decide) rfl]
    exact zstep_2 h2 hi hX hn hQ
  · rw [ztab_to (j := 3) (t := 93) (by decide) (by decide) rfl]
    exact zstep_3 h3 hi hX hn hQ
  · rw [ztab_to (j := 4) (t := 150) (by decide) (by decide) rfl]
    exact zstep_4 h4 hi hX hn hQ
  · rw [ztab_to (j := 5) (t := 167) (by decide) (by decide) rfl]
    exact zstep_5 h5 hi hX hn hQ
  · rw [ztab_to (j := 6) (t := 212) (by decide) (by decide) rfl]
    exact zstep_6 h6 hi hX hn hQ
  · rw [ztab_to (j := 7) (t := 259) (by decide) (by decide) rfl]
    exact zstep_7 h7 hi hX hn hQ
  · rw [ztab_to (j := 8) (t := 306) (by decide) (by decide) rfl]
    exact zstep_8 h8 hi hX hn hQ
  · rw [ztab_to (j := 9) (t := 333) (by decide) (by decide) rfl]
    exact zstep_9 h9 hi hX hn hQ
  · rw [ztab_to (j := 10) (t := 370) (by decide) (by decide) rfl]
    exact zstep_10 h10 hi hX hn hQ
  · rw [ztab_to (j := 11) (t := 407) (by decide) (by decide) rfl]
    exact zstep_11 h11 hi hX hn hQ
  · rw [ztab_to (j := 12) (t := 444) (by decide) (by decide) rfl]
    exact zstep_12 h12 hi hX hn hQ
  · rw [ztab_to (j := 13) (t := 491) (by decide) (by decide) rfl]
    exact zstep_13 h13 hi hX hn hQ
  · rw [ztab_to (j := 14) (t := 518) (by decide) (by decide) rfl]
    exact zstep_14 h14 hi hX hn hQ
  · rw [ztab_to (j := 15) (t := 545) (by decide) (by decide) rfl]
    exact zstep_15 h15 hi hX hn hQ
  · rw [ztab_to (j := 16) (t := 572) (by decide) (by decide) rfl]
    exact zstep_16 h16 hi hX hn hQ
  · rw [ztab_to (j := 17) (t := 599) (by decide) (by decide) rfl]
    exact zstep_17 h17 hi hX hn hQ
  · rw [ztab_to (j := 18) (t := 616) (by decide) (by decide) rfl]
    exact zstep_18 h18 hi hX hn hQ
  · rw [ztab_to (j := 19) (t := 643) (by decide) (by decide) rfl]
    exact zstep_19 h19 hi hX hn hQ
  · rw [ztab_to (j := 20) (t := 680) (by decide) (by decide) rfl]
    exact zstep_20 h20 hi hX hn hQ
  · rw [ztab_to (j := 21) (t := 707) (by decide) (by decide) rfl]
    exact zstep_21 h21 hi hX hn hQ
  · rw [ztab_to (j := 22) (t := 744) (by decide) (by decide) rfl]
    exact zstep_22 h22 hi hX hn hQ
  · rw [ztab_to (j := 23) (t := 781) (by decide) (by decide) rfl]
    exact zstep_23 h23 hi hX hn hQ
  · rw [ztab_to (j := 24) (t := 808) (by decide) (by decide) rfl]
    exact zstep_24 h24 hi hX hn hQ
  · rw [ztab_to (j := 25) (t := 825) (by decide) (by decide) rfl]
    exact zstep_25 h25 hi hX hn hQ
  · rw [ztab_to (j := 26) (t := 842) (by decide) (by decide) rfl]
    exact zstep_26 h26 hi hX hn hQ
  · rw [ztab_to (j := 27) (t := 879) (by decide) (by decide) rfl]
    exact zstep_27 h27 hi hX hn hQ
  · rw [ztab_to (j := 28) (t := 886) (by decide) (by decide) rfl]
    exact zstep_28 h28 hi hX hn hQ
  · rw [ztab_to (j := 29) (t := 893) (by decide) (by decide) rfl]
    exact zstep_29 h29 hi hX hn hQ
  · rw [ztab_to (j := 30) (t := 920) (by decide) (by decide) rfl]
    exact zstep_30 h30 hi hX hn hQ
  · refine ⟨s, I, ?_, hm n s I hQ⟩
    rw [ztab_out (Or.inr (show (30 : Int) < (nI 31).toInt by decide))]
    show zQ_L X (937, [.ref 1000000, .ref 0, .ref 58, .int (nI i)], [], zMk (s, I)) = _
    rw [zq_L_937, show nI i + 6 = nI (i + 6) from nI_add i 6]
theorem zloop {Q : Nat → zQs → (Nat → Nat → Int32) → Prop} (h : zCalls Q) (hm : ∀ n s I, Q n s I → Q (n + 1) s I) {X : zX} (h0 : 0 < X.1) (hX : X.1 ≤ 3073) : ∀ (d n : Nat) (s : zQs) (I : Nat → Nat → Int32), X.1 - 1 < 6 * n + 6 * d + 6 → 6 * n ≤ X.1 - 1 → Q n s I →
    ∃ m s2 I2, m ≤ 512 ∧ zQ_L X (10, [.ref 1000000, .ref 0, .ref 58, .int (nI (6 * n))], [], zMk (s, I)) = some (.int 1, zMk (s2, I2)) ∧ Q m s2 I2
  | d, n, s, I, hd, hn, hQ => by
    have e1 : (Int32.ofNat (X.1 - 1) - 6).toInt = ((X.1 - 1 : Nat) : Int) - 6 := sub6 (by omega)
    have e2 : (nI (6 * n)).toInt = ((6 * n : Nat) : Int) := nI_toInt (by omega)
    rw [zq_L_10, if_pos h0]
    by_cases hc : X.1 - 1 < 6 * n + 6
    · refine ⟨n, s, I, by omega, ?_, hQ⟩
      rw [if_pos (by rw [Int32.lt_iff_toInt_lt, e1, e2]; omega)]
    · rw [if_neg (by rw [Int32.lt_iff_toInt_lt, e1, e2]; omega), zb_t (show 6 * n < X.1 - 1 by omega) (by omega), if_pos rfl]
      obtain ⟨s2, I2, e, hq⟩ := zturn h hm (X := X) (i := 6 * n) (n := n) (by omega) hX (by omega) hQ (X.2 (nI (6 * n)).toNatClampNeg)
      rw [e]
      match d, hd with
      | 0, hd => exact absurd hd (by omega)
      | d + 1, hd => exact zloop h hm h0 hX d (n + 1) s2 I2 (by omega) (by omega) hq
