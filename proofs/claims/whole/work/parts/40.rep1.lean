theorem rep0_of {I : Nat → Nat → Int32} (hn : I 1 12 = nI 1 ∧ I 1 10 = nI 0 ∧ I 58 0 = nI 0 ∧ I 1 11 = nI 0 ∧ I 58 1 = nI 0 ∧ I 1 7 = nI 0 ∧ I 58 2 = nI 0 ∧ I 1 8 = -1 ∧ I 58 66 = 0 ∧ I 42 6 = nI 0 ∧ I 58 37 = nI 0 ∧ I 20 10 = nI 0 ∧ I 58 42 = nI 0 ∧ I 20 11 = nI 0 ∧ I 58 43 = nI 0 ∧ I 30 1 = nI 0 ∧ I 58 9 = nI 0 ∧ I 54 3 = nI 0 ∧ I 58 59 = nI 0 ∧ I 54 4 = nI 0 ∧ I 0 10 = nI 1 ∧ I 58 3 = nI 1)
    (hr : ∀ j, j < 20 → I 3 j = nI 0 ∧ I 93 j = nI 0 ∧ I 55 j = nI j ∧ I 56 j = 0) : Rep zst0 I := by
  obtain ⟨a1, a2, a3, a4, a5, a6, a7, a8, a9, a10, a11, a12, a13, a14, a15, a16, a17, a18, a19, a20, a21, a22⟩ := hn
  refine ⟨⟨by decide, a1⟩, ?_, ?_, ?_, ?_, ?_, ?_, ?_, ?_, ⟨by decide, a21, a22⟩⟩
  · exact ⟨by decide, by decide, by decide, a2, a3, a4, a5, a6, a7, fun j hj => absurd hj (Nat.not_lt_zero j), fun j hj => absurd hj (Nat.not_lt_zero j)⟩
  · exact ⟨a8, a9⟩
  · exact fun j hj => ⟨Nat.zero_le _, (hr j hj).1, (hr j hj).2.1⟩
  · refine ⟨by decide, a10, a11, fun j _ hb => ?_⟩
    have hb : (0 : Nat).testBit j = true := hb
    rw [Nat.zero_testBit] at hb
    cases hb
  · exact ⟨by decide, a12, a13, fun j hj => absurd hj (Nat.not_lt_zero j)⟩
  · refine ⟨by decide, a14, a15, fun j _ hb => ?_⟩
    have hb : (0 : Nat).testBit j = true := hb
    rw [Nat.zero_testBit] at hb
    cases hb
  · exact ⟨by decide, a16, a17, fun j hj => absurd hj (Nat.not_lt_zero j)⟩
  · exact ⟨by decide, a18, a19, fun j hj => absurd hj (Nat.not_lt_zero j), a20, fun p hp => ⟨(hr p hp).2.2.1, (hr p hp).2.2.2⟩, fun i v hv => by cases hv⟩
theorem rep0 : Rep zst0 zI0 := rep0_of zI0_n zI0_r
