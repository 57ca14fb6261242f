/-! FARES -/
theorem zlp12 (s : zQs) (x1 x2 x3 : Int32) : ∀ (d k : Nat) (I : Nat → Nat → Int32), k + d = 20 → ∃ J, zQ_12 (2, [.ref 54, .int x1, .int x2, .int x3, .int (nI k)], [], zMk (s, I)) = some (.long 0, zMk (s, J)) ∧ (∀ a, a ≠ 55 → a ≠ 56 → J a = I a) ∧ (∀ p, J 55 p = if k ≤ p ∧ p < 20 ∧ I 55 p = x2 then x1 else I 55 p) ∧ ∀ p, J 56 p = if k ≤ p ∧ p < 20 ∧ I 55 p = x2 then I 56 p + x3 else I 56 p
  | 0, k, I, hk => by
    have hk : k = 20 := by omega
    subst hk
    refine ⟨I, ?_, fun _ _ _ => rfl, fun p => ?_, fun p => ?_⟩
    · rw [zq_12_2, if_pos (by decide)]
    · rw [if_neg (by omega)]
    · rw [if_neg (by omega)]
  | d + 1, k, I, hk => by
    have hk' : k < 20 := by omega
    have e0 : zQ_12 (2, [.ref 54, .int x1, .int x2, .int x3, .int (nI k)], [], zMk (s, I)) = if ¬ I 55 k = x2 then zQ_12 (2, [.ref 54, .int x1, .int x2, .int x3, .int (nI (k + 1))], [], zMk (s, I)) else zQ_12 (2, [.ref 54, .int x1, .int x2, .int x3, .int (nI (k + 1))], [], zMk (s, zwA (zwA I 55 (upd (I 55) k x1)) 56 (upd (I 56) k (I 56 k + x3)))) := by
      rw [zq_12_2, if_neg (show ¬ 20 ≤ nI k from nI_ge hk' (by decide))]
      simp only [zb_t hk' (by omega), if_true, nI_clamp (show k < 2 ^ 31 by omega), nI_1]
    rw [e0]
    by_cases h : I 55 k = x2
    · rw [if_neg (not_not_intro h)]
      obtain ⟨J, e, j1, j2, j3⟩ := zlp12 s x1 x2 x3 d (k + 1) (zwA (zwA I 55 (upd (I 55) k x1)) 56 (upd (I 56) k (I 56 k + x3))) (by omega)
      refine ⟨J, e, fun a h1 h2 => ?_, fun p => ?_, fun p => ?_⟩
      · rw [j1 a h1 h2, zwA_n h2, zwA_n h1]
      · rw [j2 p]
        simp only [zwA_at, upd_at, Nat.reduceEqDiff, if_true, if_false]
        by_cases hp : p = k
        · subst hp
          rw [if_neg (by omega), if_pos rfl, if_pos ⟨Nat.le_refl _, hk', h⟩]
        · simp only [if_neg hp, show (k + 1 ≤ p ∧ p < 20 ∧ I 55 p = x2) = (k ≤ p ∧ p < 20 ∧ I 55 p = x2) from propext ⟨fun w => ⟨by omega, w.2⟩, fun w => ⟨by omega, w.2⟩⟩]
      · rw [j3 p]
        simp only [zwA_at, upd_at, Nat.reduceEqDiff, if_true, if_false]
        by_cases hp : p = k
        · subst hp
          rw [if_neg (by omega), if_pos rfl, if_pos ⟨Nat.le_refl _, hk', h⟩]
        · simp only [if_neg hp, show (k + 1 ≤ p ∧ p < 20 ∧ I 55 p = x2) = (k ≤ p ∧ p < 20 ∧ I 55 p = x2) from propext ⟨fun w => ⟨by omega, w.2⟩, fun w => ⟨by omega, w.2⟩⟩]
    · rw [if_pos h]
      obtain ⟨J, e, j1, j2, j3⟩ := zlp12 s x1 x2 x3 d (k + 1) I (by omega)
      have hc : ∀ p, (k + 1 ≤ p ∧ p < 20 ∧ I 55 p = x2) = (k ≤ p ∧ p < 20 ∧ I 55 p = x2) := fun p => propext ⟨fun w => ⟨by omega, w.2⟩, fun w => ⟨by
        have : p ≠ k := fun hp => h (hp ▸ w.2.2)
        omega, w.2⟩⟩
      refine ⟨J, e, j1, fun p => ?_, fun p => ?_⟩
      · rw [j2 p]; simp only [hc p]
      · rw [j3 p]; simp only [hc p]
theorem zfar_ext {fa fb fa' fb' : Nat → Nat} {fs fs' : Nat → Int32} {F : Nat} (h : ∀ j, j < F → fa' j = fa j ∧ fb' j = fb j ∧ fs' j = fs j) : ∀ n, n ≤ F → zfar fa' fb' fs' n = zfar fa fb fs n
  | 0, _ => rfl
  | n + 1, hn => by
    obtain ⟨h1, h2, h3⟩ := h n (by omega)
    have ih := zfar_ext h n (by omega)
    simp only [zfar, ih, h1, h2, h3]
theorem zfar_lt {fa fb : Nat → Nat} {fs : Nat → Int32} {F : Nat} (h : ∀ j, j < F → fa j < 20 ∧ fb j < 20) : ∀ n, n ≤ F → ∀ p, p < 20 → (zfar fa fb fs n).1 p < 20
  | 0, _, p, hp => hp
  | n + 1, hn, p, hp => by
    have ih := zfar_lt (fs := fs) h n (by omega)
    have hq := h n (by omega)
    simp only [zfar]
    by_cases hc : (zfar fa fb fs n).1 (fa n) = (zfar fa fb fs n).1 (fb n)
    · rw [if_pos hc]
      by_cases hd : (zfar fa fb fs n).2.1 (fb n) - (zfar fa fb fs n).2.1 (fa n) = fs n
      · rw [if_pos hd]; exact ih p hp
      · rw [if_neg hd]; exact ih p hp
    · rw [if_neg hc]
      show (if (zfar fa fb fs n).1 p = (zfar fa fb fs n).1 (fb n) then (zfar fa fb fs n).1 (fa n) else (zfar fa fb fs n).1 p) < 20
      by_cases hd : (zfar fa fb fs n).1 p = (zfar fa fb fs n).1 (fb n)
      · rw [if_pos hd]; exact ih _ hq.1
      · rw [if_neg hd]; exact ih p hp
theorem zfar_len {fa fb : Nat → Nat} {fs : Nat → Int32} : ∀ n, (zfar fa fb fs n).2.2.length ≤ n
  | 0 => Nat.le_refl _
  | n + 1 => by
    have ih := zfar_len (fa := fa) (fb := fb) (fs := fs) n
    simp only [zfar]
    by_cases hc : (zfar fa fb fs n).1 (fa n) = (zfar fa fb fs n).1 (fb n)
    · rw [if_pos hc]
      by_cases hd : (zfar fa fb fs n).2.1 (fb n) - (zfar fa fb fs n).2.1 (fa n) = fs n
      · rw [if_pos hd]; omega
      · rw [if_neg hd]
        show ((zfar fa fb fs n).2.2 ++ [n]).length ≤ n + 1
        rw [List.length_append]
        show _ + 1 ≤ n + 1
        omega
    · rw [if_neg hc]
      show (zfar fa fb fs n).2.2.length ≤ n + 1
      omega
