/-! THE REFERENCE FORGETS ITS WAYS AT EACH CALL -/
theorem zlp216 (s : zQs) : ∀ (d k : Nat) (I : Nat → Nat → Int32), k + d = 100 → ∃ J, zQ_216 (2, [.ref 58, .int (nI k)], [], zMk (s, I)) = some (.long 0, zMk (s, J)) ∧ (∀ r, r ≠ 79 → J r = I r) ∧ ∀ p, J 79 p = if k ≤ p ∧ p < 100 then 0 else I 79 p
  | 0, k, I, hk => by
    have hk : k = 100 := by omega
    subst hk
    refine ⟨I, ?_, fun _ _ => rfl, fun p => ?_⟩
    · rw [zq_216_2, if_pos (by decide)]
    · rw [if_neg (by omega)]
  | d + 1, k, I, hk => by
    have hk' : k < 100 := by omega
    obtain ⟨J, e, j1, j2⟩ := zlp216 s d (k + 1) (zwA I 79 (upd (I 79) k 0)) (by omega)
    refine ⟨J, ?_, fun r hr => (j1 r hr).trans (zwA_n hr), fun p => ?_⟩
    · rw [zq_216_2, if_neg (show ¬ 100 ≤ nI k from nI_ge hk' (by decide)), zb_t hk' (by omega), if_pos rfl, nI_clamp (show k < 2 ^ 31 by omega), nI_1]
      exact e
    · rw [j2 p]
      simp only [zwA_at, upd_at, if_true]
      by_cases hp : p = k
      · subst hp
        rw [if_neg (by omega), if_pos rfl, if_pos ⟨Nat.le_refl _, hk'⟩]
      · simp only [if_neg hp, show (k + 1 ≤ p ∧ p < 100) = (k ≤ p ∧ p < 100) from propext ⟨fun w => ⟨by omega, w.2⟩, fun w => ⟨by omega, w.2⟩⟩]
theorem zbeg (s : zQs) (I : Nat → Nat → Int32) : ∃ J, zf_216 [.ref 58] (zMk (s, I)) = some (.long 0, zMk (s, J)) ∧ (∀ r, r ≠ 79 → J r = I r) ∧ ∀ p, p < 100 → J 79 p = 0 := by
  obtain ⟨J, e, j1, j2⟩ := zlp216 s 100 0 I rfl
  refine ⟨J, ?_, j1, fun p hp => ?_⟩
  · rw [zqz_216, zq_216_0]; exact e
  · rw [j2 p, if_pos ⟨Nat.zero_le _, hp⟩]
