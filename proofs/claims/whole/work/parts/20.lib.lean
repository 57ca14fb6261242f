/-! SMALL NUMBERS -/
/-- a number from 0 to n; below n -/
def zin (x : Int32) (n : Nat) : Prop := ∃ j, j ≤ n ∧ x = nI j
def zlt (x : Int32) (n : Nat) : Prop := ∃ j, j < n ∧ x = nI j
def zi (x : Int32) : Nat := x.toNatClampNeg
theorem zi_nI {j : Nat} (h : j < 2 ^ 31) : zi (nI j) = j := nI_clamp h
theorem zin_zi {x : Int32} {n : Nat} (h : zin x n) (hn : n < 2 ^ 31) : x = nI (zi x) ∧ zi x ≤ n := by
  obtain ⟨j, hj, rfl⟩ := h
  rw [zi_nI (by omega)]
  exact ⟨rfl, hj⟩
theorem zlt_zi {x : Int32} {n : Nat} (h : zlt x n) (hn : n < 2 ^ 31) : x = nI (zi x) ∧ zi x < n := by
  obtain ⟨j, hj, rfl⟩ := h
  rw [zi_nI (by omega)]
  exact ⟨rfl, hj⟩
theorem zb_nI {j n : Nat} (hj : j < 2 ^ 31) : zb (nI j) n = decide (j < n) := by
  unfold zb
  rw [nI_clamp hj]
  have h0 : ¬ nI j < 0 := nI_pos hj
  rw [Bool.eq_iff_iff, decide_eq_true_iff, decide_eq_true_iff]
  constructor
  · intro q
    exact Nat.lt_of_not_le fun w => q (Or.inr w)
  · intro h q
    rcases q with q | q
    · exact h0 q
    · omega
theorem zb_t {j n : Nat} (h : j < n) (hj : j < 2 ^ 31) : zb (nI j) n = true := by rw [zb_nI hj]; exact decide_eq_true h
theorem zb_lt {x : Int32} {n m : Nat} (h : zlt x n) (hm : n ≤ m) (hn : n < 2 ^ 31) : zb x m = true := by
  obtain ⟨j, hj, rfl⟩ := h
  exact zb_t (by omega) (by omega)
theorem zin_of {x M : Int32} {n : Nat} (hM : M = nI n) (hn : n < 2 ^ 31) (h0 : ¬ x < 0) (h1 : ¬ M < x) : zin x n := by
  subst hM
  rcases pk_ix x (n := n + 1 - 1) (by omega) with h | h | ⟨j, hj, rfl⟩
  · exact absurd h h0
  · refine ⟨n, Nat.le_refl _, ?_⟩
    have h2 : x ≤ nI n := Int32.not_lt.mp h1
    have h3 : nI n ≤ x := by rw [Nat.add_sub_cancel] at h; exact h
    exact Int32.le_antisymm h2 h3
  · exact ⟨j, by omega, rfl⟩
theorem zlt_of {x M : Int32} {n : Nat} (hM : M = nI n) (hn : n < 2 ^ 31) (h0 : ¬ x < 0) (h1 : ¬ M ≤ x) : zlt x n := by
  subst hM
  rcases pk_ix x hn with h | h | h
  · exact absurd h h0
  · exact absurd h h1
  · exact h
theorem zin_nlt {x M : Int32} {n : Nat} (hM : M = nI n) (hn : n < 2 ^ 31) (h : zin x n) : ¬ x < 0 ∧ ¬ M < x := by
  subst hM
  obtain ⟨j, hj, rfl⟩ := h
  exact ⟨nI_pos (by omega), nI_nlt hj (by omega)⟩
theorem zlt_nle {x M : Int32} {n : Nat} (hM : M = nI n) (hn : n < 2 ^ 31) (h : zlt x n) : ¬ x < 0 ∧ ¬ M ≤ x := by
  subst hM
  obtain ⟨j, hj, rfl⟩ := h
  exact ⟨nI_pos (by omega), nI_ge hj hn⟩
theorem zwA_s (I : Nat → Nat → Int32) (k : Nat) (f : Nat → Int32) : zwA I k f k = f := if_pos rfl
theorem zwA_n {I : Nat → Nat → Int32} {k a : Nat} {f : Nat → Int32} (h : a ≠ k) : zwA I k f a = I a := if_neg h
theorem zwA_at (I : Nat → Nat → Int32) (k a : Nat) (f : Nat → Int32) : zwA I k f a = if a = k then f else I a := rfl
theorem upd_at (f : Nat → Int32) (k j : Nat) (x : Int32) : upd f k x j = if j = k then x else f j := rfl
theorem tt_1 : ((1 : Int32) = 0) = False := by simp
theorem tt_2 : ((20 : Int32) < 30) = True := by simp
theorem tt_3 (I : Nat → Nat → Int32) (f : Nat → Int32) : (zwA I 59 f) 58 3 = I 58 3 := by simp [zwA_at]
theorem tt_4 (I : Nat → Nat → Int32) (v : Int32) : (zwA I 58 (upd (I 58) 4 v)) 58 3 = I 58 3 := by simp [zwA_at, upd_at]
