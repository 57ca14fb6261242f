/-- a row of bytes, four more -/
def ztbx (tb : Nat → Nat) (T : Nat) (x : Int32) : Nat → Nat := fun p => if p = T + 3 then zbn x 0 else if p = T + 2 then zbn x 8 else if p = T + 1 then zbn x 16 else if p = T then zbn x 24 else tb p
theorem zap_step {s : zQs} {I : Nat → Nat → Int32} {T c : Nat} {x k k' : Int32} (hT : T < 200) (e : I 30 1 = nI T) (hc : c < 32) (hk : ¬ k < 0) (hu : (k.toUInt32 &&& Int32.toUInt32 31).toBitVec = BitVec.ofNat 32 c) (hk' : k + (-8) = k') :
    zQ_92 (7, [.ref 30, .int x, .int k], [], zMk (s, I)) = zQ_92 (7, [.ref 30, .int x, .int k'], [], zMk (s, zwA (zwA I 31 (upd (I 31) T (nI (zbn x c)))) 30 (upd (I 30) 1 (nI (T + 1))))) := by
  rw [zq_92_7, if_neg hk, e, zb_t hT (by omega), if_pos rfl, nI_clamp (show T < 2 ^ 31 by omega), zbyA0 x _ c hc hu, nI_1, hk']
theorem zap1 {s : zQs} {I : Nat → Nat → Int32} {T : Nat} {x : Int32} (hT : T + 4 ≤ 200) (e : I 30 1 = nI T) : ∃ J, zf_92 [.ref 30, .int x] (zMk (s, I)) = some (.long 0, zMk (s, J)) ∧ (∀ r, r ≠ 30 → r ≠ 31 → J r = I r) ∧ J 30 1 = nI (T + 4) ∧
    ∀ p, J 31 p = if p = T + 3 then nI (zbn x 0) else if p = T + 2 then nI (zbn x 8) else if p = T + 1 then nI (zbn x 16) else if p = T then nI (zbn x 24) else I 31 p := by
  refine ⟨_, Eq.trans ?_ (Eq.trans (zap_step (x := x) (c := 24) (k := 24) (k' := 16) (show T < 200 by omega) e (by decide) (by decide) (by decide) (by decide)) (Eq.trans (zap_step (T := T + 1) (c := 16) (k := 16) (k' := 8) (by omega) (by simp [zwA_at, upd_at]) (by decide) (by decide) (by decide) (by decide)) (Eq.trans (zap_step (T := T + 2) (c := 8) (k := 8) (k' := 0) (by omega) (by simp [zwA_at, upd_at]) (by decide) (by decide) (by decide) (by decide)) (Eq.trans (zap_step (T := T + 3) (c := 0) (k := 0) (k' := -8) (by omega) (by simp [zwA_at, upd_at]) (by decide) (by decide) (by decide) (by decide)) ((zq_92_7 _ _ _ _).trans (if_pos (by decide))))))), fun r h1 h2 => ?_, ?_, fun p => ?_⟩
  · rw [zqz_92, zq_92_0, zl_91, e, show nI T + 4 = nI (T + 4) from nI_add T 4, if_neg (show ¬ 200 < nI (T + 4) from nI_nlt (a := 200) hT (by decide)), zcI_some, zq_92_3, if_pos (by decide)]
  · simp only [zwA_at, if_neg h1, if_neg h2]
  · simp [zwA_at, upd_at]
  · simp only [zwA_at, upd_at, Nat.reduceEqDiff, if_true, if_false]
theorem zap2_step {s : zQs} {I : Nat → Nat → Int32} {T c : Nat} {x k k' : Int32} (hT : T < 200) (e : I 58 9 = nI T) (hc : c ≤ 24) (hk : ¬ k < 0) (hu : ((8 : Int32) * k) &&& 31 = nI c) (hk' : k + (-1) = k') :
    zQ_188 (2, [.ref 58, .int x, .int k], [], zMk (s, I)) = zQ_188 (2, [.ref 58, .int x, .int k'], [], zMk (s, zwA (zwA I 63 (upd (I 63) T (zby (zbn x c)))) 58 (upd (I 58) 9 (nI (T + 1))))) := by
  rw [zq_188_2, if_neg hk, e, zb_t hT (by omega), if_pos rfl, nI_clamp (show T < 2 ^ 31 by omega), zbyB0 x _ c hc hu, nI_1, hk']
theorem zap2 {s : zQs} {I : Nat → Nat → Int32} {T : Nat} {x : Int32} (hT : T + 4 ≤ 200) (e : I 58 9 = nI T) : ∃ J, zf_188 [.ref 58, .int x] (zMk (s, I)) = some (.long 0, zMk (s, J)) ∧ (∀ r, r ≠ 58 → r ≠ 63 → J r = I r) ∧ (∀ j, J 58 j = if j = 9 then nI (T + 4) else I 58 j) ∧
    ∀ p, J 63 p = if p = T + 3 then zby (zbn x 0) else if p = T + 2 then zby (zbn x 8) else if p = T + 1 then zby (zbn x 16) else if p = T then zby (zbn x 24) else I 63 p := by
  refine ⟨_, Eq.trans ?_ (Eq.trans (zap2_step (x := x) (c := 24) (k := 3) (k' := 2) (show T < 200 by omega) e (by decide) (by decide) (by decide) (by decide)) (Eq.trans (zap2_step (T := T + 1) (c := 16) (k := 2) (k' := 1) (by omega) (by simp [zwA_at, upd_at]) (by decide) (by decide) (by decide) (by decide)) (Eq.trans (zap2_step (T := T + 2) (c := 8) (k := 1) (k' := 0) (by omega) (by simp [zwA_at, upd_at]) (by decide) (by decide) (by decide) (by decide)) (Eq.trans (zap2_step (T := T + 3) (c := 0) (k := 0) (k' := -1) (by omega) (by simp [zwA_at, upd_at]) (by decide) (by decide) (by decide) (by decide)) ((zq_188_2 _ _ _ _).trans (if_pos (by decide))))))), fun r h1 h2 => ?_, fun j => ?_, fun p => ?_⟩
  · rw [zqz_188, zq_188_0]
  · simp only [zwA_at, if_neg h1, if_neg h2]
  · simp only [zwA_at, upd_at, if_true]
    by_cases hj : j = 9
    · simp only [if_pos hj]
    · simp only [if_neg hj]
  · simp only [zwA_at, upd_at, Nat.reduceEqDiff, if_true, if_false]
