/-! FARES, AS THE REFERENCE LAYS THEM -/
theorem zlp264 (s : zQs) (x1 x3 x4 x5 : Int32) {a : Nat} (ha : a < 20) : ∀ (d k : Nat) (I : Nat → Nat → Int32), k + d = 20 → ¬ I 101 a = x5 → ∃ J, zQ_264 (60, [.ref 58, .int x1, .int (nI a), .int x3, .int x4, .int x5, .int (nI k)], [], zMk (s, I)) = some (.long 0, zMk (s, J)) ∧ (∀ r, r ≠ 100 → r ≠ 101 → J r = I r) ∧ (∀ p, J 101 p = if k ≤ p ∧ p < 20 ∧ I 101 p = x5 then I 101 a else I 101 p) ∧ ∀ p, J 100 p = if k ≤ p ∧ p < 20 ∧ I 101 p = x5 then I 100 p + x4 else I 100 p
  | 0, k, I, hk, _ => by
    have hk : k = 20 := by omega
    subst hk
    refine ⟨I, ?_, fun _ _ _ => rfl, fun p => ?_, fun p => ?_⟩
    · rw [zq_264_60, if_pos (by decide)]
    · rw [if_neg (by omega)]
    · rw [if_neg (by omega)]
  | d + 1, k, I, hk, hne => by
    have hk' : k < 20 := by omega
    have e0 : zQ_264 (60, [.ref 58, .int x1, .int (nI a), .int x3, .int x4, .int x5, .int (nI k)], [], zMk (s, I)) = if I 101 k = x5 then zQ_264 (60, [.ref 58, .int x1, .int (nI a), .int x3, .int x4, .int x5, .int (nI (k + 1))], [], zMk (s, zwA (zwA I 101 (upd (I 101) k (I 101 a))) 100 (upd (I 100) k (I 100 k + x4)))) else zQ_264 (60, [.ref 58, .int x1, .int (nI a), .int x3, .int x4, .int x5, .int (nI (k + 1))], [], zMk (s, I)) := by
      rw [zq_264_60, if_neg (show ¬ 20 ≤ nI k from nI_ge hk' (by decide))]
      simp only [zb_t hk' (by omega), zb_t ha (by omega), if_true, nI_clamp (show k < 2 ^ 31 by omega), nI_clamp (show a < 2 ^ 31 by omega), nI_1]
    rw [e0]
    by_cases h : I 101 k = x5
    · rw [if_pos h]
      have hak : a ≠ k := fun e => hne (e ▸ h)
      obtain ⟨J, e, j1, j2, j3⟩ := zlp264 s x1 x3 x4 x5 ha d (k + 1) (zwA (zwA I 101 (upd (I 101) k (I 101 a))) 100 (upd (I 100) k (I 100 k + x4))) (by omega) (by simp only [zwA_at, upd_at, Nat.reduceEqDiff, if_true, if_false, if_neg hak]; exact hne)
      refine ⟨J, e, fun r h1 h2 => ?_, fun p => ?_, fun p => ?_⟩
      · rw [j1 r h1 h2, zwA_n h1, zwA_n h2]
      · rw [j2 p]
        simp only [zwA_at, upd_at, Nat.reduceEqDiff, if_true, if_false, if_neg hak]
        by_cases hp : p = k
        · subst hp
          rw [if_neg (by omega), if_pos rfl, if_pos ⟨Nat.le_refl _, hk', h⟩]
        · simp only [if_neg hp, show (k + 1 ≤ p ∧ p < 20 ∧ I 101 p = x5) = (k ≤ p ∧ p < 20 ∧ I 101 p = x5) from propext ⟨fun w => ⟨by omega, w.2⟩, fun w => ⟨by omega, w.2⟩⟩]
      · rw [j3 p]
        simp only [zwA_at, upd_at, Nat.reduceEqDiff, if_true, if_false]
        by_cases hp : p = k
        · subst hp
          rw [if_neg (by omega), if_pos rfl, if_pos ⟨Nat.le_refl _, hk', h⟩]
        · simp only [if_neg hp, show (k + 1 ≤ p ∧ p < 20 ∧ I 101 p = x5) = (k ≤ p ∧ p < 20 ∧ I 101 p = x5) from propext ⟨fun w => ⟨by omega, w.2⟩, fun w => ⟨by omega, w.2⟩⟩]
    · rw [if_neg h]
      obtain ⟨J, e, j1, j2, j3⟩ := zlp264 s x1 x3 x4 x5 ha d (k + 1) I (by omega) hne
      have hc : ∀ p, (k + 1 ≤ p ∧ p < 20 ∧ I 101 p = x5) = (k ≤ p ∧ p < 20 ∧ I 101 p = x5) := fun p => propext ⟨fun w => ⟨by omega, w.2⟩, fun w => ⟨by
        have : p ≠ k := fun hp => h (hp ▸ w.2.2)
        omega, w.2⟩⟩
      refine ⟨J, e, j1, fun p => ?_, fun p => ?_⟩
      · rw [j2 p]; simp only [hc p]
      · rw [j3 p]; simp only [hc p]
/-- one fare joins -/
theorem zjoin2 {s : zQs} {I : Nat → Nat → Int32} {i a b : Nat} {x : Int32} {g : Nat → Nat} {l : Nat → Int32} (hi : i < 30) (ha : a < 20) (hb : b < 20) (e97 : I 97 i = nI a) (e98 : I 98 i = nI b) (e99 : I 99 i = x) (hg : ∀ p, p < 20 → g p < 20 ∧ I 101 p = nI (g p) ∧ I 100 p = l p) :
    ∃ J, zf_264 [.ref 58, .int (nI i)] (zMk (s, I)) = some (.long 0, zMk (s, J)) ∧ (∀ r, r ≠ 100 → r ≠ 101 → r ≠ 102 → J r = I r) ∧ (∀ p, p ≠ i → J 102 p = I 102 p) ∧ J 102 i = (if g a = g b ∧ ¬ l a + x - l b = 0 then 1 else 0) ∧
      ∀ p, p < 20 → J 101 p = nI (if g a = g b then g p else if g p = g b then g a else g p) ∧ J 100 p = (if g a = g b then l p else if g p = g b then l p + (l a + x - l b) else l p) := by
  have c1 := nI_clamp (show i < 2 ^ 31 by omega)
  have c2 := nI_clamp (show a < 2 ^ 31 by omega)
  have c3 := nI_clamp (show b < 2 ^ 31 by omega)
  have z1 := zb_t hi (by omega)
  have z2 := zb_t ha (by omega)
  have z3 := zb_t hb (by omega)
  have gi : ∀ {p q}, p < 20 → q < 20 → (I 101 p = I 101 q ↔ g p = g q) := fun {p q} hp hq => by
    rw [(hg p hp).2.1, (hg q hq).2.1]
    exact nI_eq (by have := (hg p hp).1; omega) (by have := (hg q hq).1; omega)
  by_cases hc : g a = g b
  · have hc' : I 101 a = I 101 b := (gi ha hb).mpr hc
    have key : ∀ y : Int32, (y = 0 ∨ y = 1) → zQ_264 (42, [.ref 58, .int (nI i), .int (nI a), .int (nI b), .int (l a + x - l b), .long 0, .long 0], [.int y, .int (nI i), .ref 102], zMk (s, I)) = some (.long 0, zMk (s, zwA I 102 (upd (I 102) i y))) := by
      intro y hy
      rw [zq_264_42, z1, if_pos rfl, if_pos hy, z2, if_pos rfl, z3, if_pos rfl, c1, c2, c3, if_neg (not_not_intro hc')]
    refine ⟨zwA I 102 (upd (I 102) i (if g a = g b ∧ ¬ l a + x - l b = 0 then 1 else 0)), ?_, fun r _ _ h3 => zwA_n h3, fun p hp => ?_, ?_, fun p hp => ?_⟩
    · rw [zqz_264, zq_264_0]
      simp only [z1, if_true, c1, e97, e98, e99, z2, z3, c2, c3, if_neg (not_not_intro hc'), (hg a ha).2.2, (hg b hb).2.2]
      by_cases hd : l a + x - l b = 0
      · rw [if_pos hd, if_neg (fun w => w.2 hd)]
        exact key 0 (Or.inl rfl)
      · rw [if_neg hd, if_pos ⟨hc, hd⟩]
        exact key 1 (Or.inr rfl)
    · simp only [zwA_at, if_true, upd_at, if_neg hp]
    · simp only [zwA_at, if_true, upd_at]
    · simp only [zwA_at, Nat.reduceEqDiff, if_false, if_pos hc]; exact (hg p hp).2
  · have hc' : ¬ I 101 a = I 101 b := fun e => hc ((gi ha hb).mp e)
    obtain ⟨J, e, j1, j2, j3⟩ := zlp264 s (nI i) (nI b) (l a + x - l b) (I 101 b) ha 20 0 (zwA I 102 (upd (I 102) i 0)) rfl (by simp only [zwA_at, Nat.reduceEqDiff, if_false]; exact hc')
    refine ⟨J, ?_, fun r h1 h2 h3 => ?_, fun p hp => ?_, ?_, fun p hp => ?_⟩
    · rw [zqz_264, zq_264_0]
      simp only [z1, if_true, c1, e97, e98, e99, z2, z3, c2, c3, if_pos hc', (hg a ha).2.2, (hg b hb).2.2]
      rw [zq_264_42, z1, if_pos rfl, if_pos (Or.inl rfl), z2, if_pos rfl, z3, if_pos rfl, c1, c2, c3, if_pos hc', if_pos rfl]
      exact e
    · rw [j1 r h1 h2, zwA_n h3]
    · rw [j1 102 (by decide) (by decide)]; simp only [zwA_at, if_true, upd_at, if_neg hp]
    · rw [j1 102 (by decide) (by decide), if_neg (fun w => hc w.1)]; simp only [zwA_at, if_true, upd_at]
    · rw [j2 p, j3 p]
      simp only [zwA_at, Nat.reduceEqDiff, if_false, if_neg hc]
      have hcc : (0 ≤ p ∧ p < 20 ∧ I 101 p = I 101 b) = (g p = g b) := propext ⟨fun w => (gi hp hb).mp w.2.2, fun w => ⟨Nat.zero_le _, hp, (gi hp hb).mpr w⟩⟩
      simp only [hcc]
      by_cases hq : g p = g b
      · simp only [if_pos hq]; exact ⟨(hg a ha).2.1, by rw [(hg p hp).2.2]⟩
      · simp only [if_neg hq]; exact (hg p hp).2
