theorem zfar_succ (fa fb : Nat → Nat) (fs : Nat → Int32) (F i j : Nat) (x : Int32) : zfar (zup fa F i) (zup fb F j) (upd fs F x) (F + 1) =
    (if (zfar fa fb fs F).1 i = (zfar fa fb fs F).1 j then (if (zfar fa fb fs F).2.1 j - (zfar fa fb fs F).2.1 i = x then zfar fa fb fs F else ((zfar fa fb fs F).1, (zfar fa fb fs F).2.1, (zfar fa fb fs F).2.2 ++ [F]))
    else (fun p => if (zfar fa fb fs F).1 p = (zfar fa fb fs F).1 j then (zfar fa fb fs F).1 i else (zfar fa fb fs F).1 p, fun p => if (zfar fa fb fs F).1 p = (zfar fa fb fs F).1 j then (zfar fa fb fs F).2.1 p + ((zfar fa fb fs F).2.1 i + x - (zfar fa fb fs F).2.1 j) else (zfar fa fb fs F).2.1 p, (zfar fa fb fs F).2.2)) := by
  have e := zfar_ext (fa := fa) (fb := fb) (fs := fs) (fa' := zup fa F i) (fb' := zup fb F j) (fs' := upd fs F x) (F := F) (fun k hk => ⟨if_neg (by omega), if_neg (by omega), if_neg (by omega)⟩) F (Nat.le_refl _)
  have e1 : zup fa F i F = i := if_pos rfl
  have e2 : zup fb F j F = j := if_pos rfl
  have e3 : upd fs F x F = x := if_pos rfl
  simp only [zfar, e, e1, e2, e3]
theorem cFare_step {P F i j : Nat} {fa fb : Nat → Nat} {fs : Nat → Int32} {x a b c a' b' c' : Int32} {r55 r56 r57 r97 r98 r99 s55 s56 s57 s97 s98 s99 : Nat → Int32} (h : cFare P F fa fb fs a b c r55 r56 r57 r97 r98 r99) (hF : F < 30) (hi : i < P) (hj : j < P)
    (ha : a' = nI (F + 1)) (hb : b' = nI (F + 1)) (h97 : s97 = upd r97 F (nI i)) (h98 : s98 = upd r98 F (nI j)) (h99 : s99 = upd r99 F x)
    (hc : c' = nI (zfar (zup fa F i) (zup fb F j) (upd fs F x) (F + 1)).2.2.length) (h5 : ∀ p, p < 20 → s55 p = nI ((zfar (zup fa F i) (zup fb F j) (upd fs F x) (F + 1)).1 p) ∧ s56 p = (zfar (zup fa F i) (zup fb F j) (upd fs F x) (F + 1)).2.1 p)
    (h7 : ∀ i' v, (zfar (zup fa F i) (zup fb F j) (upd fs F x) (F + 1)).2.2[i']? = some v → s57 i' = nI v) : cFare P (F + 1) (zup fa F i) (zup fb F j) (upd fs F x) a' b' c' s55 s56 s57 s97 s98 s99 := by
  subst h97 h98 h99
  refine ⟨hF, ha, hb, fun k hk => ?_, hc, h5, h7⟩
  by_cases hk' : k = F
  · simp only [zup, upd_at, if_pos hk']
    exact ⟨hi, hj, by simp⟩
  · simp only [zup, upd_at, if_neg hk']
    exact h.2.2.2.1 k (by omega)
/-- what the class does with a fare -/
theorem zfare1 {s : zQs} {I : Nat → Nat → Int32} {P F i j : Nat} {fa fb : Nat → Nat} {fs : Nat → Int32} {x b : Int32} {r97 r98 r99 : Nat → Int32} (h : cFare P F fa fb fs (I 54 3) b (I 54 4) (I 55) (I 56) (I 57) r97 r98 r99) (hF : F < 30) (hP : P ≤ 20) (hi : i < P) (hj : j < P) :
    ∃ J, zf_11 [.ref 54, .int (nI i), .int (nI j), .int x] (zMk (s, I)) = some (.int (nI (F + 1)), zMk (s, J)) ∧ (∀ a, a ≠ 54 → a ≠ 55 → a ≠ 56 → a ≠ 57 → J a = I a) ∧ J 54 3 = nI (F + 1) ∧
      J 54 4 = nI (zfar (zup fa F i) (zup fb F j) (upd fs F x) (F + 1)).2.2.length ∧ (∀ p, p < 20 → J 55 p = nI ((zfar (zup fa F i) (zup fb F j) (upd fs F x) (F + 1)).1 p) ∧ J 56 p = (zfar (zup fa F i) (zup fb F j) (upd fs F x) (F + 1)).2.1 p) ∧
      ∀ i' v, (zfar (zup fa F i) (zup fb F j) (upd fs F x) (F + 1)).2.2[i']? = some v → J 57 i' = nI v := by
  obtain ⟨-, e3, -, hb, e4, h5, h7⟩ := h
  have hi' : i < 20 := by omega
  have hj' : j < 20 := by omega
  have hl : (zfar fa fb fs F).2.2.length ≤ F := zfar_len F
  have hlt := zfar_lt (fs := fs) (fun k hk => ⟨Nat.lt_of_lt_of_le (hb k hk).1 hP, Nat.lt_of_lt_of_le (hb k hk).2.1 hP⟩) F (Nat.le_refl _)
  rw [zfar_succ]
  have e0 : zf_11 [.ref 54, .int (nI i), .int (nI j), .int x] (zMk (s, I)) = zQ_11 (0, [.ref 54, .int (nI i), .int (nI j), .int x], [], zMk (s, I)) := zqz_11 _ _ _ _
  by_cases hc : (zfar fa fb fs F).1 i = (zfar fa fb fs F).1 j
  · have hc' : I 55 i = I 55 j := by rw [(h5 i hi').1, (h5 j hj').1, hc]
    by_cases hd : (zfar fa fb fs F).2.1 j - (zfar fa fb fs F).2.1 i = x
    · have hd' : I 56 j - I 56 i = x := by rw [(h5 i hi').2, (h5 j hj').2, hd]
      refine ⟨zwA I 54 (upd (I 54) 3 (nI (F + 1))), ?_, fun a h1 h2 h3 h4 => ?_, ?_, ?_, ?_, ?_⟩
      rotate_left
      · exact zwA_n h1
      · simp [zwA_at, upd_at]
      · rw [if_pos hc, if_pos hd]; simp [zwA_at, upd_at, e4]
      · rw [if_pos hc, if_pos hd]; intro p hp; simp [zwA_at]; exact h5 p hp
      · rw [if_pos hc, if_pos hd]; intro i' v hv; simp [zwA_at]; exact h7 i' v hv
      · rw [e0, zq_11_0, e3, if_pos (show nI F < 30 from nI_lt hF (by decide))]
        simp only [zb_t hi' (by omega), zb_t hj' (by omega), if_true, nI_clamp (show i < 2 ^ 31 by omega), nI_clamp (show j < 2 ^ 31 by omega), if_pos hc', if_pos hd', nI_1]
    · have hd' : ¬ I 56 j - I 56 i = x := by rw [(h5 i hi').2, (h5 j hj').2]; exact hd
      refine ⟨zwA (zwA (zwA I 57 (upd (I 57) (zfar fa fb fs F).2.2.length (nI F))) 54 (upd (I 54) 4 (nI ((zfar fa fb fs F).2.2.length + 1)))) 54 (upd (upd (I 54) 4 (nI ((zfar fa fb fs F).2.2.length + 1))) 3 (nI (F + 1))), ?_, fun a h1 h2 h3 h4 => ?_, ?_, ?_, ?_, ?_⟩
      rotate_left
      · exact (zwA_n h1).trans ((zwA_n h1).trans (zwA_n h4))
      · simp [zwA_at, upd_at]
      · rw [if_pos hc, if_neg hd]; simp [zwA_at, upd_at]
      · rw [if_pos hc, if_neg hd]; intro p hp; simp [zwA_at]; exact h5 p hp
      · rw [if_pos hc, if_neg hd]
        intro i' v hv
        show (zwA (zwA (zwA I 57 (upd (I 57) (zfar fa fb fs F).2.2.length (nI F))) 54 (upd (I 54) 4 (nI ((zfar fa fb fs F).2.2.length + 1)))) 54 (upd (upd (I 54) 4 (nI ((zfar fa fb fs F).2.2.length + 1))) 3 (nI (F + 1)))) 57 i' = nI v
        simp only [zwA_at, Nat.reduceEqDiff, if_true, if_false, upd_at]
        have hv : ((zfar fa fb fs F).2.2 ++ [F])[i']? = some v := hv
        by_cases hq : i' = (zfar fa fb fs F).2.2.length
        · subst hq
          rw [List.getElem?_concat_length] at hv
          rw [if_pos rfl, Option.some.inj hv]
        · rw [if_neg hq]
          have hlen := (List.getElem?_eq_some_iff.mp hv).1
          rw [List.length_append] at hlen
          have hlen : i' < (zfar fa fb fs F).2.2.length + 1 := hlen
          rw [List.getElem?_append_left (by omega)] at hv
          exact h7 i' v hv
      · rw [e0, zq_11_0, e3, if_pos (show nI F < 30 from nI_lt hF (by decide)), e4]
        simp only [zb_t hi' (by omega), zb_t hj' (by omega), if_true, nI_clamp (show i < 2 ^ 31 by omega), nI_clamp (show j < 2 ^ 31 by omega), if_pos hc', if_neg hd', nI_1, zb_t (show (zfar fa fb fs F).2.2.length < 30 by omega) (by omega), nI_clamp (show (zfar fa fb fs F).2.2.length < 2 ^ 31 by omega)]
  · have hc' : ¬ I 55 i = I 55 j := by
      rw [(h5 i hi').1, (h5 j hj').1]
      exact nI_ne hc (by have := hlt i hi'; omega) (by have := hlt j hj'; omega)
    obtain ⟨J, e, j1, j2, j3⟩ := zlp12 s (I 55 i) (I 55 j) (I 56 i + x - I 56 j) 20 0 I rfl
    have hcc : ∀ p, p < 20 → (0 ≤ p ∧ p < 20 ∧ I 55 p = I 55 j) = ((zfar fa fb fs F).1 p = (zfar fa fb fs F).1 j) := fun p hp => propext ⟨fun w => by
      have := w.2.2
      rw [(h5 p hp).1, (h5 j hj').1] at this
      exact (nI_eq (by have := hlt p hp; omega) (by have := hlt j hj'; omega)).mp this, fun w => ⟨Nat.zero_le _, hp, by rw [(h5 p hp).1, (h5 j hj').1, w]⟩⟩
    refine ⟨zwA J 54 (upd (J 54) 3 (nI (F + 1))), ?_, fun a h1 h2 h3 h4 => ?_, ?_, ?_, ?_, ?_⟩
    · rw [e0, zq_11_0, e3, if_pos (show nI F < 30 from nI_lt hF (by decide))]
      simp only [zb_t hi' (by omega), zb_t hj' (by omega), if_true, nI_clamp (show i < 2 ^ 31 by omega), nI_clamp (show j < 2 ^ 31 by omega), if_neg hc', zqz_12, zq_12_0]
      rw [show (0 : Int32) = nI 0 from rfl, e, zcV_some, zq_11_36, j1 54 (by decide) (by decide), e3, nI_1]
    · rw [zwA_n h1, j1 a h2 h3]
    · simp [zwA_at, upd_at]
    · rw [if_neg hc]; simp [zwA_at, upd_at, j1, e4]
    · rw [if_neg hc]
      intro p hp
      simp only [zwA_at, Nat.reduceEqDiff, if_false, j2 p, j3 p, hcc p hp]
      by_cases hq : (zfar fa fb fs F).1 p = (zfar fa fb fs F).1 j
      · simp only [if_pos hq]; exact ⟨(h5 i hi').1, by rw [(h5 p hp).2, (h5 i hi').2, (h5 j hj').2]⟩
      · simp only [if_neg hq]; exact h5 p hp
    · rw [if_neg hc]
      intro i' v hv
      rw [zwA_n (by decide), j1 57 (by decide) (by decide)]
      exact h7 i' v hv
