/-! SHOPS THAT CHOOSE THEMSELVES: THE GIVEN SPOTS -/
def zog (P : Nat) : Nat → Nat → Bool
  | 0, v => decide (v = 0)
  | m + 1, v => decide (v % 20 < P) && zog P m (v / 20)
def zdg : Nat → Nat → Nat
  | 0, v => v % 20
  | i + 1, v => zdg i (v / 20)
theorem zog_big {P : Nat} : ∀ m v, 20 ^ m ≤ v → zog P m v = false
  | 0, v, h => decide_eq_false (by have : 20 ^ 0 = 1 := rfl; omega)
  | m + 1, v, h => by
    have : 20 ^ m ≤ v / 20 := by rw [Nat.pow_succ] at h; omega
    show (decide (v % 20 < P) && zog P m (v / 20)) = false
    rw [zog_big m (v / 20) this, Bool.and_false]
theorem zog_dg {P : Nat} : ∀ m v, zog P m v = true → ∀ i, i < m → zdg i v < P
  | 0, _, _, i, hi => absurd hi (Nat.not_lt_zero i)
  | m + 1, v, h, i, hi => by
    have h : (decide (v % 20 < P) && zog P m (v / 20)) = true := h
    rw [Bool.and_eq_true] at h
    cases i with
    | zero => exact of_decide_eq_true h.1
    | succ i => exact zog_dg m (v / 20) h.2 i (by omega)
theorem zlp47 {P n : Nat} {s : zQs} (hP : P ≤ 20) (hn : n ≤ 3) (x1 : Int32) : ∀ m j v (I : Nat → Nat → Int32), j + m = n → v < 2 ^ 31 → I 1 10 = nI P →
    ∃ J, zQ_47 (4, [.ref 50, .int x1, .int (nI n), .int (nI v), .int (nI j)], [], zMk (s, I)) = some (.int (zbnn (zog P m v)), zMk (s, J)) ∧ (∀ r, r ≠ 52 → J r = I r) ∧ (∀ i, i < j → J 52 i = I 52 i) ∧ (zog P m v = true → ∀ i, i < m → J 52 (j + i) = nI (zdg i v))
  | 0, j, v, I, h, hv, p1 => by
    have h : j = n := by omega
    subst h
    refine ⟨I, ?_, fun _ _ => rfl, fun _ _ => rfl, fun _ i hi => absurd hi (Nat.not_lt_zero i)⟩
    rw [zq_47_4, if_pos (nI_le (Nat.le_refl _) (by omega))]
    show _ = some (Value.int (zbnn (decide (v = 0))), _)
    by_cases e : v = 0
    · rw [if_neg (not_not_intro (by rw [e]; rfl)), decide_eq_true e]
      rfl
    · rw [if_pos (show ¬ nI v = 0 from nI_ne (b := 0) e hv (by decide)), decide_eq_false e]
      rfl
  | m + 1, j, v, I, h, hv, p1 => by
    have hj : j < n := by omega
    have hr := Nat.mod_lt v (show 0 < 20 by decide)
    rw [zq_47_4, if_neg (nI_ge (by omega) (by omega)), if_neg (show ¬ (3 : Int32) ≤ nI j from nI_ge (b := 3) (by omega) (by decide)), if_neg (nI_pos hv), show nI v - nI v / 20 * 20 = nI (v % 20) from nI_rem v 20 hv (by decide)]
    show ∃ J, _ = some (Value.int (zbnn (decide (v % 20 < P) && zog P m (v / 20))), _) ∧ _ ∧ _ ∧ ((decide (v % 20 < P) && zog P m (v / 20)) = true → _)
    by_cases c : v % 20 < P
    · obtain ⟨J, e, a1, a2, a3⟩ := zlp47 (s := s) hP hn x1 m (j + 1) (v / 20) (zwA I 52 (upd (I 52) j (nI (v % 20)))) (by omega) (by omega) (by rw [zwA_n (by decide)]; exact p1)
      have hc : decide (v % 20 < P) = true := decide_eq_true c
      rw [hc, Bool.true_and]
      refine ⟨J, ?_, fun r hr => (a1 r hr).trans (zwA_n hr), fun i hi => (a2 i (by omega)).trans (by rw [zwA_s, upd_at, if_neg (by omega)]), fun q i hi => ?_⟩
      · rw [isP1_t p1 hP ⟨v % 20, c, rfl⟩, zcI_some, zq_47_18, if_pos (show ¬ (1 : Int32) = 0 by decide), if_pos (zb_t (show j < 3 by omega) (by omega)), nI_clamp (show j < 2 ^ 31 by omega), show nI v - nI v / 20 * 20 = nI (v % 20) from nI_rem v 20 hv (by decide), show nI v / 20 = nI (v / 20) from nI_div v 20 hv (by decide), nI_1]
        exact e
      · cases i with
        | zero =>
          rw [show j + 0 = j from rfl, a2 j (by omega), zwA_s, upd_at, if_pos rfl]
          rfl
        | succ i =>
          rw [show j + (i + 1) = j + 1 + i by omega]
          exact a3 q i (by omega)
    · have hc : decide (v % 20 < P) = false := decide_eq_false c
      rw [hc, Bool.false_and]
      refine ⟨I, ?_, fun _ _ => rfl, fun _ _ => rfl, fun q => (nomatch q)⟩
      have hz : ¬ zlt (nI (v % 20)) P := fun ⟨k, hk, ek⟩ => c (by rw [(nI_eq (by omega) (by omega)).mp ek]; exact hk)
      rw [isP1_f p1 hP hz, zcI_some, zq_47_18, if_neg (not_not_intro rfl)]
      rfl
theorem zlp258o {L : zLw} {st : zSt} {n : Nat} {s : zQs} (hn : n ≤ 3) (x1 x3 : Int32) (x6 x7 : Value) : ∀ m j v (I : Nat → Nat → Int32), j + m = n → v < 2 ^ 31 → v < 20 ^ m → zEv L st s I →
    ∃ J, zEv L st s J ∧ (∀ r, r ≠ 96 → J r = I r) ∧ (∀ i, i < j → J 96 i = I 96 i) ∧ (zog st.P m v = true → (∃ x4, zQ_258 (41, [.ref 58, .int x1, .int (nI n), .int x3, .int (nI v), .int (nI j), x6, x7], [], zMk (s, I)) = zQ_258 (41, [.ref 58, .int x1, .int (nI n), .int x3, .int x4, .int (nI n), x6, x7], [], zMk (s, J))) ∧ ∀ i, i < m → J 96 (j + i) = nI (zdg i v)) ∧ (zog st.P m v = false → zQ_258 (41, [.ref 58, .int x1, .int (nI n), .int x3, .int (nI v), .int (nI j), x6, x7], [], zMk (s, I)) = some (.int (-1), zMk (s, J)))
  | 0, j, v, I, h, hv, hlt, hE => by
    have h : j = n := by omega
    subst h
    have h0 : v = 0 := by have : 20 ^ 0 = 1 := rfl; omega
    refine ⟨I, hE, fun _ _ => rfl, fun _ _ => rfl, fun _ => ⟨⟨nI v, rfl⟩, fun i hi => absurd hi (Nat.not_lt_zero i)⟩, fun q => ?_⟩
    have q : decide (v = 0) = false := q
    rw [h0] at q
    cases q
  | m + 1, j, v, I, h, hv, hlt, hE => by
    have hP := zEv_P hE.1
    have hj : j < n := by omega
    have hr := Nat.mod_lt v (show 0 < 20 by decide)
    have sc := zScr_w (I := I) (k := 96) rfl (upd (I 96) j (nI (v % 20)))
    have hE2 := zEv_Scr hE sc
    have zj : zb (nI j) 3 := zb_t (show j < 3 by omega) (by omega)
    have eu : upd (I 96) j (nI (v % 20)) j = nI (v % 20) := by rw [upd_at, if_pos rfl]
    have e41 : zQ_258 (41, [.ref 58, .int x1, .int (nI n), .int x3, .int (nI v), .int (nI j), x6, x7], [], zMk (s, I)) = zcI (zf_183 [.ref 58, .int (nI (v % 20))] (zMk (s, zwA I 96 (upd (I 96) j (nI (v % 20)))))) (fun v' M => zQ_258 (61, [.ref 58, .int x1, .int (nI n), .int x3, .int (nI (v / 20)), .int (nI j), x6, x7], [.int v'], M)) := by
      rw [zq_258_41, if_neg (nI_ge (by omega) (by omega)), if_pos zj, if_pos zj, nI_clamp (show j < 2 ^ 31 by omega), show nI v - nI v / 20 * 20 = nI (v % 20) from nI_rem v 20 hv (by decide), show nI v / 20 = nI (v / 20) from nI_div v 20 hv (by decide), eu]
    show ∃ J, _ ∧ _ ∧ _ ∧ ((decide (v % 20 < st.P) && zog st.P m (v / 20)) = true → _) ∧ ((decide (v % 20 < st.P) && zog st.P m (v / 20)) = false → _)
    by_cases c : v % 20 < st.P
    · obtain ⟨J, a0, a1, a2, a3, a4⟩ := zlp258o (L := L) (st := st) (s := s) hn x1 x3 x6 x7 m (j + 1) (v / 20) _ (by omega) (by omega) (by rw [Nat.pow_succ] at hlt; omega) hE2
      have hc : decide (v % 20 < st.P) = true := decide_eq_true c
      rw [hc, Bool.true_and]
      have e61 : zQ_258 (41, [.ref 58, .int x1, .int (nI n), .int x3, .int (nI v), .int (nI j), x6, x7], [], zMk (s, I)) = zQ_258 (41, [.ref 58, .int x1, .int (nI n), .int x3, .int (nI (v / 20)), .int (nI (j + 1)), x6, x7], [], zMk (s, zwA I 96 (upd (I 96) j (nI (v % 20))))) := by
        rw [e41, isP2_t (zEv_p2 hE2.1) hP ⟨v % 20, c, rfl⟩, zcI_some, zq_258_61, if_pos (show ¬ (1 : Int32) = 0 by decide), nI_1]
      refine ⟨J, a0, fun r hr => (a1 r hr).trans (zwA_n hr), fun i hi => (a2 i (by omega)).trans (by rw [zwA_s, upd_at, if_neg (by omega)]), fun q => ⟨?_, fun i hi => ?_⟩, fun q => ?_⟩
      · rw [e61]
        exact (a3 q).1
      · cases i with
        | zero =>
          rw [show j + 0 = j from rfl, a2 j (by omega), zwA_s, upd_at, if_pos rfl]
          rfl
        | succ i =>
          rw [show j + (i + 1) = j + 1 + i by omega]
          exact (a3 q).2 i (by omega)
      · rw [e61]
        exact a4 q
    · have hc : decide (v % 20 < st.P) = false := decide_eq_false c
      rw [hc, Bool.false_and]
      refine ⟨_, hE2, fun r hr => zwA_n hr, fun i hi => by rw [zwA_s, upd_at, if_neg (by omega)], fun q => (nomatch q), fun _ => ?_⟩
      have hz : ¬ zlt (nI (v % 20)) st.P := fun ⟨k, hk, ek⟩ => c (by rw [(nI_eq (by omega) (by omega)).mp ek]; exact hk)
      rw [e41, isP2_f (zEv_p2 hE2.1) hP hz, zcI_some, zq_258_61, if_neg (not_not_intro rfl)]
