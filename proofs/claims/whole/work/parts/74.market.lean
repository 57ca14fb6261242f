/-! SHOPS -/
theorem zf0b (s : zQs) (I : Nat → Nat → Int32) {X : Nat} (hX : X < 2 ^ 20) : zf_0 [.int (nI X)] (zMk (s, I)) = some (.int (nI (zcn (fun i => X.testBit i) 20)), zMk (s, I)) := by
  obtain ⟨h1, Y, Z, W, V, hY, y1, hZ, z1, hW, w0, w1, hV, v1, v2, hF⟩ := zpopn hX
  have eY : nI X - (((nI X).toUInt32 >>> ((1 : Int32).toUInt32 &&& Int32.toUInt32 31)).toInt32 &&& 1431655765) = nI Y := by
    have hs : X >>> 1 ≤ X := Nat.shiftRight_le X 1
    rw [nI_ush (by omega) 1 1 rfl (by decide), show (1431655765 : Int32) = nI 1431655765 from rfl, nI_land (by omega) (by decide), nI_sub h1, hY]
  have eZ : (nI Y &&& 858993459) + (((nI Y).toUInt32 >>> ((2 : Int32).toUInt32 &&& Int32.toUInt32 31)).toInt32 &&& 858993459) = nI Z := by
    have hs : Y >>> 2 ≤ Y := Nat.shiftRight_le Y 2
    rw [nI_ush (by omega) 2 2 rfl (by decide), show (858993459 : Int32) = nI 858993459 from rfl, nI_land (by omega) (by decide), nI_land (by omega) (by decide), nI_add, hZ]
  have eW : (nI Z + ((nI Z).toUInt32 >>> ((4 : Int32).toUInt32 &&& Int32.toUInt32 31)).toInt32) &&& 252645135 = nI W := by
    rw [nI_ush (by omega) 4 4 rfl (by decide), show (252645135 : Int32) = nI 252645135 from rfl, nI_add, nI_land (by omega) (by decide), hW]
  have eV : nI W + ((nI W).toUInt32 >>> ((8 : Int32).toUInt32 &&& Int32.toUInt32 31)).toInt32 = nI V := by
    rw [nI_ush (by omega) 8 8 rfl (by decide), nI_add, hV]
  have eF : (nI V + ((nI V).toUInt32 >>> ((16 : Int32).toUInt32 &&& Int32.toUInt32 31)).toInt32) &&& 63 = nI (zcn (fun i => X.testBit i) 20) := by
    rw [nI_ush (by omega) 16 16 rfl (by decide), show (63 : Int32) = nI 63 from rfl, nI_add, nI_land (by omega) (by decide), hF]
  rw [zl_0, eY, eZ, eW, eV, eF]
theorem zlp182b (s : zQs) (I : Nat → Nat → Int32) {X : Nat} (hX : X < 2 ^ 20) : ∀ m k, k + m = 20 → zQ_182 (4, [.int (nI X), .int (nI (zcn (fun i => X.testBit i) k)), .int (nI k)], [], zMk (s, I)) = some (.int (nI (zcn (fun i => X.testBit i) 20)), zMk (s, I))
  | 0, k, h => by
    have h : k = 20 := by omega
    subst h
    rw [zq_182_4, if_pos (show (20 : Int32) ≤ nI 20 by decide)]
  | m + 1, k, h => by
    have nx := zlp182b s I hX m (k + 1) (by omega)
    rw [zcn_s] at nx
    have e : (if X.testBit k = true then (1 : Int32) else 0) = nI (if X.testBit k = true then 1 else 0) := by split <;> rfl
    rw [zq_182_4, if_neg (show ¬ (20 : Int32) ≤ nI k from nI_ge (b := 20) (by omega) (by decide)), bit_gen (show X < 2 ^ 31 by omega) (show k < 31 by omega), e, nI_add, nI_1]
    exact nx
theorem zf182b (s : zQs) (I : Nat → Nat → Int32) {X : Nat} (hX : X < 2 ^ 20) : zf_182 [.int (nI X)] (zMk (s, I)) = some (.int (nI (zcn (fun i => X.testBit i) 20)), zMk (s, I)) := by
  rw [zqz_182, zq_182_0]
  exact zlp182b s I hX 20 0 rfl
