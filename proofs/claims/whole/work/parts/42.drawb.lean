theorem zdr_s (E d x t : Nat) : zdr E (d + 1) (x, t) = zdr E d (znx x, if E.testBit (znx x % 8) then t ^^^ 2 ^ (znx x % 8) else t) := rfl
theorem znx_e {x : Nat} (hx : x ≤ 65535) : (25173 : Int32) * nI x + 13849 = nI (25173 * x + 13849) := (congrArg (fun y => y + 13849) (nI_mul 25173 x)).trans (nI_add _ 13849)
theorem zlp174 (s : zQs) {n E : Nat} (hn : n ≤ 20) (hE : E < 256) : ∀ (d k x t : Nat) (I : Nat → Nat → Int32), k + d = n → x ≤ 65535 → t < 256 → I 0 10 = nI x → I 42 6 = nI E →
    ∃ J, zQ_174 (4, [.ref 0, .int (nI n), .int (nI t), .int (nI k)], [], zMk (s, I)) = some (.int (nI (zdr E d (x, t)).2), zMk (s, J)) ∧ (∀ r, r ≠ 0 → J r = I r) ∧ J 0 10 = nI (zdr E d (x, t)).1 ∧ (zdr E d (x, t)).1 ≤ 65535 ∧ (zdr E d (x, t)).2 < 256
  | 0, k, x, t, I, hk, hx, ht, e1, e2 => by
    have hk : k = n := by omega
    subst hk
    refine ⟨I, ?_, fun _ _ => rfl, e1, hx, ht⟩
    rw [zq_174_4, if_pos (nI_le (Nat.le_refl _) (by omega))]
    rfl
  | d + 1, k, x, t, I, hk, hx, ht, e1, e2 => by
    have h8 : znx x % 8 < 8 := Nat.mod_lt _ (by decide)
    have c1 : ((25173 : Int32) * nI x + 13849) &&& 65535 = nI (znx x) := by rw [znx_e hx, nI_and16 _ (by omega)]; rfl
    have c2 : nI (znx x) &&& 7 = nI (znx x % 8) := nI_and3 _ (by have := znx_lt x; omega)
    obtain ⟨J, e, j1, j2, j3, j4⟩ := zlp174 s hn hE d (k + 1) (znx x) (if E.testBit (znx x % 8) then t ^^^ 2 ^ (znx x % 8) else t) (zwA I 0 (upd (I 0) 10 (nI (znx x)))) (by omega) (znx_lt x) (by split <;> first | exact xor_lt ht h8 | exact ht) (by simp [zwA_at, upd_at]) (by simp [zwA_at, e2])
    refine ⟨J, ?_, fun r hr => (j1 r hr).trans (zwA_n hr), j2, j3, j4⟩
    rw [zq_174_4, if_neg (nI_ge (by omega) (by omega)), e1, e2, c1, c2, bit_and _ h8 _ hE, nI_1]
    refine Eq.trans ?_ e
    congr 1
    by_cases hb : E.testBit (znx x % 8) = true
    · rw [if_pos hb, if_pos hb, bit_xor _ h8 _ ht]
    · rw [if_neg hb, if_neg hb, show nI t ^^^ 0 = nI t from Int32.xor_zero]
theorem zlp269 (s : zQs) (x1 x3 : Int32) {n E : Nat} (hn : n ≤ 20) (hE : E < 256) : ∀ (d k x t : Nat) (I : Nat → Nat → Int32), k + d = n → x ≤ 65535 → t < 256 → I 58 3 = nI x → I 58 37 = nI E →
    ∃ J, zQ_269 (20, [.ref 58, .int x1, .int (nI n), .int x3, .int (nI t), .int (nI k)], [], zMk (s, I)) = zQ_269 (20, [.ref 58, .int x1, .int (nI n), .int x3, .int (nI (zdr E d (x, t)).2), .int (nI n)], [], zMk (s, J)) ∧ (∀ r, r ≠ 58 → J r = I r) ∧ (∀ j, j ≠ 3 → J 58 j = I 58 j) ∧ J 58 3 = nI (zdr E d (x, t)).1
  | 0, k, x, t, I, hk, hx, ht, e1, e2 => by
    have hk : k = n := by omega
    subst hk
    exact ⟨I, rfl, fun _ _ => rfl, fun _ _ => rfl, e1⟩
  | d + 1, k, x, t, I, hk, hx, ht, e1, e2 => by
    have h8 : znx x % 8 < 8 := Nat.mod_lt _ (by decide)
    have c1 : nI (25173 * x + 13849) - nI (25173 * x + 13849) / 65536 * 65536 = nI (znx x) := nI_rem _ 65536 (by omega) (by decide)
    have c2 : nI (znx x) - nI (znx x) / 8 * 8 = nI (znx x % 8) := nI_rem _ 8 (by have := znx_lt x; omega) (by decide)
    obtain ⟨J, e, j1, j2, j3⟩ := zlp269 s x1 x3 hn hE d (k + 1) (znx x) (if E.testBit (znx x % 8) then t ^^^ 2 ^ (znx x % 8) else t) (zwA I 58 (upd (I 58) 3 (nI (znx x)))) (by omega) (znx_lt x) (by split <;> first | exact xor_lt ht h8 | exact ht) (by simp [zwA_at, upd_at]) (by simp [zwA_at, upd_at, e2])
    refine ⟨J, ?_, fun r hr => (j1 r hr).trans (zwA_n hr), fun j hj => (j2 j hj).trans (by simp [zwA_at, upd_at, hj]), j3⟩
    rw [zq_269_20, if_neg (nI_ge (by omega) (by omega)), e1, e2, znx_e hx, c1, c2, bit_shr _ h8 _ hE, nI_1]
    by_cases hb : E.testBit (znx x % 8) = true
    · rw [if_pos hb, if_neg (not_not_intro rfl), bit_xor1 _ h8 _ ht, zdr_s, if_pos hb]
      rw [if_pos hb] at e
      exact e
    · rw [if_neg hb, if_pos (by decide), zdr_s, if_neg hb]
      rw [if_neg hb] at e
      exact e
