/-! SHOPS THAT CHOOSE THEMSELVES: THE REFERENCE'S ROUNDS -/
theorem zf255 {L : zLw} {st : zSt} {s : zQs} {I : Nat → Nat → Int32} {S : Nat → Nat} {n q : Nat} (hn : n ≤ 3) (hq : q < st.Q) (hE : zRe L st s I) (hS : zSr st S n (I 96)) (h57 : I 58 57 = nI n) :
    ∃ J, zf_255 [.ref 58, .int (nI q)] (zMk (s, I)) = some (.int (zne L st S n q), zMk (s, J)) ∧ zRs I J ∧ zRe L st s J := by
  rw [zqz_255, zq_255_0]
  exact zlp255 hn hq n 0 I (.long 0) (Nat.zero_add _) hE hS h57
theorem zlp256 {L : zLw} {st : zSt} {s : zQs} {S : Nat → Nat} {n : Nat} (hn : n ≤ 3) (j : Int32) : ∀ m q (I : Nat → Nat → Int32), q + m = st.Q → zRe L st s I → zSr st S n (I 96) → I 58 57 = nI n →
    ∃ J, zQ_256 (4, [.ref 58, .int j, .int (nI (zco L st S n j q)), .int (nI q)], [], zMk (s, I)) = some (.int (nI (zco L st S n j st.Q)), zMk (s, J)) ∧ zRs I J ∧ zRe L st s J
  | 0, q, I, h, hE, hS, h57 => by
    have h : q = st.Q := by omega
    subst h
    obtain ⟨hQ, -, q2, -⟩ := hE.1.2.2.2.2.2.1
    refine ⟨I, ?_, zRs_rfl I, hE⟩
    rw [zq_256_4, q2, if_pos (nI_le (Nat.le_refl _) (by omega))]
  | m + 1, q, I, h, hE, hS, h57 => by
    obtain ⟨hQ, -, q2, -⟩ := hE.1.2.2.2.2.2.1
    obtain ⟨J1, e1, a1, a2⟩ := zf255 hn (show q < st.Q by omega) hE hS h57
    obtain ⟨J, e, b1, b2⟩ := zlp256 (L := L) (st := st) (s := s) (S := S) hn j m (q + 1) J1 (by omega) a2 (by rw [a1 96 (by decide) (by decide) (by decide) (by decide) (by decide)]; exact hS) (by rw [a1 58 (by decide) (by decide) (by decide) (by decide) (by decide)]; exact h57)
    rw [zco_s] at e
    refine ⟨J, ?_, zRs_tr a1 b1, b2⟩
    rw [zq_256_4, q2, if_neg (nI_ge (by omega) (by omega)), e1, zcI_some, zq_256_12, nI_1, nI_1, show nI (zco L st S n j q) + 0 = nI (zco L st S n j q + 0) from nI_add _ 0]
    by_cases c : zne L st S n q = j
    · rw [if_pos c] at e
      rw [if_neg (not_not_intro c)]
      exact e
    · rw [if_neg c] at e
      rw [if_pos c]
      exact e
theorem zf256 {L : zLw} {st : zSt} {s : zQs} {I : Nat → Nat → Int32} {S : Nat → Nat} {n : Nat} (hn : n ≤ 3) (j : Int32) (hE : zRe L st s I) (hS : zSr st S n (I 96)) (h57 : I 58 57 = nI n) :
    ∃ J, zf_256 [.ref 58, .int j] (zMk (s, I)) = some (.int (nI (zco L st S n j st.Q)), zMk (s, J)) ∧ zRs I J ∧ zRe L st s J := by
  rw [zqz_256, zq_256_0]
  exact zlp256 hn j st.Q 0 I (Nat.zero_add _) hE hS h57
def zR6 (I J : Nat → Nat → Int32) : Prop := ∀ r, r ≠ 75 → r ≠ 76 → r ≠ 77 → r ≠ 78 → r ≠ 79 → r ≠ 96 → J r = I r
theorem zR6_rfl (I : Nat → Nat → Int32) : zR6 I I := fun _ _ _ _ _ _ _ => rfl
theorem zR6_tr {I J K : Nat → Nat → Int32} (h : zR6 I J) (g : zR6 J K) : zR6 I K := fun r a b c d e f => (g r a b c d e f).trans (h r a b c d e f)
theorem zR6_s {I J : Nat → Nat → Int32} (h : zRs I J) : zR6 I J := fun r a b c d e _ => h r a b c d e
theorem zR6_w (I : Nat → Nat → Int32) (f : Nat → Int32) : zR6 I (zwA I 96 f) := fun _ _ _ _ _ _ h => zwA_n h
theorem zR6_58 {I J : Nat → Nat → Int32} (h : zR6 I J) : J 58 = I 58 := h 58 (by decide) (by decide) (by decide) (by decide) (by decide) (by decide)
theorem zScr_R6 {I J : Nat → Nat → Int32} (h : zR6 I J) : zScr I J := by
  refine ⟨fun r hr _ _ _ => ?_, fun j _ => ?_, fun j _ => by rw [zR6_58 h]⟩
  · refine h r ?_ ?_ ?_ ?_ ?_ ?_ <;> (intro q; rw [q] at hr; cases hr)
  · rw [h 8 (by decide) (by decide) (by decide) (by decide) (by decide) (by decide), h 34 (by decide) (by decide) (by decide) (by decide) (by decide) (by decide)]
    exact ⟨rfl, rfl⟩
theorem zlp257 {L : zLw} {st : zSt} {s : zQs} {S : Nat → Nat} {n j : Nat} (hn : n ≤ 3) (hj : j < n) (I0 : Nat → Nat → Int32) (hS : zSr st S n (I0 96)) : ∀ m p (I : Nat → Nat → Int32) (w : Nat × Nat) (x6 : Value), p + m = st.P → w.2 ≤ 8 → w.1 < st.P → zRe L st s I → I 58 57 = nI n → (∀ i, i ≠ j → I 96 i = I0 96 i) →
    ∃ J, zQ_257 (13, [.ref 58, .int (nI j), .int (nI (S j)), .int (nI w.1), .int (nI w.2), .int (nI p), x6], [], zMk (s, I)) = some (.int (zbnn (decide ((zlikf L st S n j m p w).1 ≠ S j))), zMk (s, J)) ∧ zR6 I J ∧ zRe L st s J ∧ ∀ i, J 96 i = if i = j then nI (zlikf L st S n j m p w).1 else I0 96 i
  | 0, p, I, w, x6, h, hw, hw1, hE, h57, hI => by
    have hP := zEv_P hE.1
    have h : p = st.P := by omega
    subst h
    have hs := (hS j hj).1
    refine ⟨zwA I 96 (upd (I 96) j (nI w.1)), ?_, zR6_w I _, zRe_w hE rfl (by decide) (by decide) (by decide) _, fun i => ?_⟩
    · rw [zq_257_13, zEv_p2 hE.1, if_pos (nI_le (Nat.le_refl _) (by omega)), if_pos (zb_t (show j < 3 by omega) (by omega)), nI_clamp (show j < 2 ^ 31 by omega)]
      show _ = some (Value.int (zbnn (decide (w.1 ≠ S j))), _)
      by_cases e : w.1 = S j
      · rw [if_pos (by rw [e]), decide_eq_false (not_not_intro e)]
        rfl
      · rw [if_neg (nI_ne e (by omega) (by omega)), decide_eq_true e]
        rfl
    · rw [zwA_s, upd_at]
      by_cases e : i = j
      · rw [if_pos e, if_pos e]
        rfl
      · rw [if_neg e, if_neg e]
        exact hI i e
  | m + 1, p, I, w, x6, h, hw, hw1, hE, h57, hI => by
    have hP := zEv_P hE.1
    have hp : p < st.P := by omega
    have hQ := hE.1.2.2.2.2.2.1.1
    have hE2 := zRe_w (k := 96) hE rfl (by decide) (by decide) (by decide) (upd (I 96) j (nI p))
    have hS2 : zSr st (zuS S j p) n ((zwA I 96 (upd (I 96) j (nI p))) 96) := zSr_u hS hp (fun i => by
      rw [zwA_s, upd_at]
      by_cases e : i = j
      · rw [if_pos e, if_pos e]
      · rw [if_neg e, if_neg e]
        exact hI i e)
    obtain ⟨J1, e1, a1, a2⟩ := zf256 (S := zuS S j p) hn (nI j) hE2 hS2 (by rw [zwA_n (by decide)]; exact h57)
    have hc := zco_le L st (zuS S j p) n (nI j) st.Q
    have g1 : zR6 I J1 := zR6_tr (zR6_w I _) (zR6_s a1)
    have nx := fun w' x6 h1 h2 => zlp257 (L := L) (st := st) (s := s) hn hj I0 hS m (p + 1) J1 w' x6 (by omega) h1 h2 a2 (by rw [zR6_58 g1]; exact h57) (fun i hi => by
      rw [a1 96 (by decide) (by decide) (by decide) (by decide) (by decide), zwA_s, upd_at, if_neg hi]
      exact hI i hi)
    rw [zq_257_13, zEv_p2 hE.1, if_neg (nI_ge (by omega) (by omega)), if_pos (zb_t (show j < 3 by omega) (by omega)), nI_clamp (show j < 2 ^ 31 by omega), e1, zcI_some, zq_257_25, nI_1]
    by_cases hl : zco L st (zuS S j p) n (nI j) st.Q ≤ w.2
    · have e2 : zlik1 L st S n j p w = w := if_pos hl
      obtain ⟨J, e, a, b, c⟩ := nx w (.int (nI (zco L st (zuS S j p) n (nI j) st.Q))) hw hw1
      refine ⟨J, ?_, zR6_tr g1 a, b, ?_⟩
      · rw [if_neg (nI_nlt hl (by omega))]
        show _ = some (Value.int (zbnn (decide ((zlikf L st S n j m (p + 1) (zlik1 L st S n j p w)).1 ≠ S j))), _)
        rw [e2]
        exact e
      · show ∀ i, J 96 i = if i = j then nI (zlikf L st S n j m (p + 1) (zlik1 L st S n j p w)).1 else I0 96 i
        rw [e2]
        exact c
    · have e2 : zlik1 L st S n j p w = (p, zco L st (zuS S j p) n (nI j) st.Q) := if_neg hl
      obtain ⟨J, e, a, b, c⟩ := nx (p, zco L st (zuS S j p) n (nI j) st.Q) (.int (nI (zco L st (zuS S j p) n (nI j) st.Q))) (by show zco L st (zuS S j p) n (nI j) st.Q ≤ 8; omega) hp
      refine ⟨J, ?_, zR6_tr g1 a, b, ?_⟩
      · rw [if_pos (nI_lt (by omega) (by omega))]
        show _ = some (Value.int (zbnn (decide ((zlikf L st S n j m (p + 1) (zlik1 L st S n j p w)).1 ≠ S j))), _)
        rw [e2]
        exact e
      · show ∀ i, J 96 i = if i = j then nI (zlikf L st S n j m (p + 1) (zlik1 L st S n j p w)).1 else I0 96 i
        rw [e2]
        exact c
theorem zf257 {L : zLw} {st : zSt} {s : zQs} {I : Nat → Nat → Int32} {S : Nat → Nat} {n j : Nat} (hn : n ≤ 3) (hj : j < n) (hE : zRe L st s I) (hS : zSr st S n (I 96)) (h57 : I 58 57 = nI n) :
    ∃ J, zf_257 [.ref 58, .int (nI j)] (zMk (s, I)) = some (.int (zbnn (decide (zlik L st S n j ≠ S j))), zMk (s, J)) ∧ zR6 I J ∧ zRe L st s J ∧ ∀ i, J 96 i = if i = j then nI (zlik L st S n j) else I 96 i := by
  have hQ := hE.1.2.2.2.2.2.1.1
  have hc := zco_le L st S n (nI j) st.Q
  obtain ⟨J1, e1, a1, a2⟩ := zf256 (S := S) hn (nI j) hE hS h57
  have r96 : J1 96 = I 96 := a1 96 (by decide) (by decide) (by decide) (by decide) (by decide)
  have r58 : J1 58 = I 58 := a1 58 (by decide) (by decide) (by decide) (by decide) (by decide)
  obtain ⟨J, e, b1, b2, b3⟩ := zlp257 (L := L) (st := st) (s := s) hn hj I hS st.P 0 J1 (S j, zco L st S n (nI j) st.Q) (.long 0) (Nat.zero_add _) (by show zco L st S n (nI j) st.Q ≤ 8; omega) (hS j hj).1 a2 (by rw [r58]; exact h57) (fun i _ => by rw [r96])
  refine ⟨J, ?_, zR6_tr (zR6_s a1) b1, b2, b3⟩
  rw [zqz_257, zq_257_0, if_pos (zb_t (show j < 3 by omega) (by omega)), nI_clamp (show j < 2 ^ 31 by omega), e1, zcI_some, zq_257_10, (hS j hj).2]
  exact e
