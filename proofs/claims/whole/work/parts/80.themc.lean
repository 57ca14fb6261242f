/-! SHOPS THAT CHOOSE THEMSELVES: THE CLASS -/
def zne (L : zLw) (st : zSt) (S : Nat → Nat) (n q : Nat) : Int32 := zam1 (zam (fun j => ztrip L st (st.pf q) (S j)) n)
def zco (L : zLw) (st : zSt) (S : Nat → Nat) (n : Nat) (j : Int32) : Nat → Nat
  | 0 => 0
  | q + 1 => zco L st S n j q + (if zne L st S n q = j then 1 else 0)
theorem zco_s (L : zLw) (st : zSt) (S : Nat → Nat) (n : Nat) (j : Int32) (q : Nat) : zco L st S n j (q + 1) = zco L st S n j q + (if zne L st S n q = j then 1 else 0) := rfl
theorem zco_le (L : zLw) (st : zSt) (S : Nat → Nat) (n : Nat) (j : Int32) : ∀ q, zco L st S n j q ≤ q
  | 0 => Nat.le_refl _
  | q + 1 => by
    have := zco_le L st S n j q
    rw [zco_s]
    split <;> omega
/-- the spots in a row -/
def zSr (st : zSt) (S : Nat → Nat) (n : Nat) (r : Nat → Int32) : Prop := ∀ j, j < n → S j < st.P ∧ r j = nI (S j)
def zuS (S : Nat → Nat) (j p : Nat) : Nat → Nat := fun i => if i = j then p else S i
theorem zSr_u {st : zSt} {S : Nat → Nat} {n j p : Nat} {r t : Nat → Int32} (h : zSr st S n r) (hp : p < st.P) (ht : ∀ i, t i = if i = j then nI p else r i) : zSr st (zuS S j p) n t := fun i hi => by
  unfold zuS
  rw [ht]
  by_cases e : i = j
  · rw [if_pos e, if_pos e]
    exact ⟨hp, rfl⟩
  · rw [if_neg e, if_neg e]
    exact h i hi
theorem zlp51 {L : zLw} {st : zSt} {s : zQs} {I : Nat → Nat → Int32} (hR : RepW st I) (hM : zMt L st I) {S : Nat → Nat} {n q : Nat} (hS : zSr st S n (I 52)) (hn : n ≤ 3) (hq : q < st.Q) : ∀ m j (x6 : Value), j + m = n →
    zQ_51 (6, [.ref 50, .int (nI q), .int (nI n), .int (zam1 (zam (fun j => ztrip L st (st.pf q) (S j)) j)), .int (nI (zamv 100000000 (zam (fun j => ztrip L st (st.pf q) (S j)) j))), .int (nI j), x6], [], zMk (s, I)) = some (.int (zne L st S n q), zMk (s, I))
  | 0, j, x6, h => by
    have h : j = n := by omega
    subst h
    rw [zq_51_6, if_pos (nI_le (Nat.le_refl _) (by omega))]
    rfl
  | m + 1, j, x6, h => by
    have hs := zEv_small (L := L) (s := s) hR
    have hP := zEv_P hR
    obtain ⟨hQ, -, -, hfo⟩ := hR.2.2.2.2.2.1
    have hf := (hfo q hq).1
    obtain ⟨hp, er⟩ := hS j (by omega)
    obtain ⟨t1, t2⟩ := ztrip_c (L := L) hs hP hf hp
    have hle : ∀ i x, i ≤ j → (fun j => ztrip L st (st.pf q) (S j)) i = some x → x < 100000000 := fun i x hi hx => by
      have := ztrip_le hs hP hf (hS i (by omega)).1 hx
      omega
    obtain ⟨k1, k2⟩ := zam_c (f := fun j => ztrip L st (st.pf q) (S j)) (n := j) hle t1
    have hv := zamv_le (f := fun j => ztrip L st (st.pf q) (S j)) (n := j) (B := 99999999) (by decide) (fun i x hi hx => by have := hle i x (by omega) hx; omega)
    have ei : nI q * 20 + nI (S j) = nI (q * 20 + S j) := by rw [show nI q * 20 = nI (q * 20) from nI_mul _ 20, nI_add]
    have ez : zC1 (zdc L st 0 (st.pf q) (S j)) + zC1 (zdc L st 0 (S j) (st.pf q)) = zC2 L st q (S j) := rfl
    rw [ez] at k1 k2 t2
    have nx := fun x6 => zlp51 (s := s) hR hM hS hn hq m (j + 1) x6 (by omega)
    rw [zq_51_6, if_neg (nI_ge (by omega) (by omega)), if_neg (show ¬ (3 : Int32) ≤ nI j from nI_ge (b := 3) (by omega) (by decide)), if_pos (zb_t (show j < 3 by omega) (by omega)), nI_clamp (show j < 2 ^ 31 by omega), er, ei, if_pos (zb_t (show q * 20 + S j < 160 by omega) (by omega)), nI_clamp (show q * 20 + S j < 2 ^ 31 by omega), hM q (S j) hq hp, nI_1]
    by_cases hl : zamv 100000000 (zam (fun j => ztrip L st (st.pf q) (S j)) j) ≤ zC2 L st q (S j)
    · rw [k1 hl] at nx
      rw [if_pos (nI_le hl (by omega))]
      exact nx _
    · rw [k2 hl] at nx
      rw [if_neg (nI_ge (by omega) (by omega))]
      exact nx _
theorem zf51 {L : zLw} {st : zSt} {s : zQs} {I : Nat → Nat → Int32} (hR : RepW st I) (hM : zMt L st I) {S : Nat → Nat} {n q : Nat} (hS : zSr st S n (I 52)) (hn : n ≤ 3) (hq : q < st.Q) : zf_51 [.ref 50, .int (nI q), .int (nI n)] (zMk (s, I)) = some (.int (zne L st S n q), zMk (s, I)) := by
  rw [zqz_51, zq_51_0]
  exact zlp51 hR hM hS hn hq n 0 (.long 0) (Nat.zero_add _)
theorem zlp50 {L : zLw} {st : zSt} {s : zQs} {I : Nat → Nat → Int32} (hR : RepW st I) (hM : zMt L st I) {S : Nat → Nat} {n : Nat} (j : Int32) (hS : zSr st S n (I 52)) (hn : n ≤ 3) : ∀ m q, q + m = st.Q →
    zQ_50 (4, [.ref 50, .int j, .int (nI n), .int (nI (zco L st S n j q)), .int (nI q)], [], zMk (s, I)) = some (.int (nI (zco L st S n j st.Q)), zMk (s, I))
  | 0, q, h => by
    have h : q = st.Q := by omega
    subst h
    obtain ⟨hQ, q1, -, -⟩ := hR.2.2.2.2.2.1
    rw [zq_50_4, q1, if_pos (nI_le (Nat.le_refl _) (by omega))]
  | m + 1, q, h => by
    obtain ⟨hQ, q1, -, -⟩ := hR.2.2.2.2.2.1
    have nx := zlp50 (s := s) hR hM j hS hn m (q + 1) (by omega)
    rw [zco_s] at nx
    rw [zq_50_4, q1, if_neg (nI_ge (by omega) (by omega)), zf51 hR hM hS hn (show q < st.Q by omega), zcI_some, zq_50_13, nI_1, nI_1]
    by_cases e : zne L st S n q = j
    · rw [if_pos e] at nx
      rw [if_neg (not_not_intro e)]
      exact nx
    · rw [if_neg e] at nx
      rw [if_pos e]
      exact nx
theorem zf50 {L : zLw} {st : zSt} {s : zQs} {I : Nat → Nat → Int32} (hR : RepW st I) (hM : zMt L st I) {S : Nat → Nat} {n : Nat} (j : Int32) (hS : zSr st S n (I 52)) (hn : n ≤ 3) : zf_50 [.ref 50, .int j, .int (nI n)] (zMk (s, I)) = some (.int (nI (zco L st S n j st.Q)), zMk (s, I)) := by
  rw [zqz_50, zq_50_0]
  exact zlp50 hR hM j hS hn st.Q 0 (Nat.zero_add _)
/-- the place a shop likes best -/
def zlik1 (L : zLw) (st : zSt) (S : Nat → Nat) (n j p : Nat) (w : Nat × Nat) : Nat × Nat := if zco L st (zuS S j p) n (nI j) st.Q ≤ w.2 then w else (p, zco L st (zuS S j p) n (nI j) st.Q)
def zlikf (L : zLw) (st : zSt) (S : Nat → Nat) (n j : Nat) : Nat → Nat → Nat × Nat → Nat × Nat
  | 0, _, w => w
  | m + 1, p, w => zlikf L st S n j m (p + 1) (zlik1 L st S n j p w)
def zlik (L : zLw) (st : zSt) (S : Nat → Nat) (n j : Nat) : Nat := (zlikf L st S n j st.P 0 (S j, zco L st S n (nI j) st.Q)).1
theorem zlikf_lt {L : zLw} {st : zSt} {S : Nat → Nat} {n j : Nat} : ∀ m p w, p + m ≤ st.P → w.1 < st.P → (zlikf L st S n j m p w).1 < st.P
  | 0, _, _, _, h => h
  | m + 1, p, w, h, hw => zlikf_lt m (p + 1) _ (by omega) (by unfold zlik1; split; exact hw; show p < st.P; omega)
theorem zlik_lt {L : zLw} {st : zSt} {S : Nat → Nat} {n j : Nat} (h : S j < st.P) : zlik L st S n j < st.P := zlikf_lt st.P 0 _ (by omega) h
theorem zlp49 {L : zLw} {st : zSt} {s : zQs} {S : Nat → Nat} {n j : Nat} (hn : n ≤ 3) (hj : j < n) (I0 : Nat → Nat → Int32) (hS : zSr st S n (I0 52)) : ∀ m p (I : Nat → Nat → Int32) (w : Nat × Nat) (x7 : Value), p + m = st.P → w.2 ≤ 8 → w.1 < st.P → zEv L st s I → zMt L st I → (∀ i, i ≠ j → I 52 i = I0 52 i) →
    ∃ J, zQ_49 (14, [.ref 50, .int (nI j), .int (nI n), .int (nI (S j)), .int (nI w.1), .int (nI w.2), .int (nI p), x7], [], zMk (s, I)) = some (.int (nI (zlikf L st S n j m p w).1), zMk (s, J)) ∧ (∀ r, r ≠ 52 → J r = I r) ∧ ∀ i, J 52 i = I0 52 i
  | 0, p, I, w, x7, h, hw, hw1, hE, hM, hI => by
    have hP := zEv_P hE.1
    have h : p = st.P := by omega
    subst h
    refine ⟨zwA I 52 (upd (I 52) j (nI (S j))), ?_, fun r hr => zwA_n hr, fun i => ?_⟩
    · rw [zq_49_14, zEv_p1 hE.1, if_pos (nI_le (Nat.le_refl _) (by omega)), if_pos (zb_t (show j < 3 by omega) (by omega)), nI_clamp (show j < 2 ^ 31 by omega)]
      rfl
    · rw [zwA_s, upd_at]
      by_cases e : i = j
      · rw [if_pos e, e, (hS j hj).2]
      · rw [if_neg e]
        exact hI i e
  | m + 1, p, I, w, x7, h, hw, hw1, hE, hM, hI => by
    have hP := zEv_P hE.1
    have hp : p < st.P := by omega
    have hQ := hE.1.2.2.2.2.2.1.1
    have sc := zScr_w (I := I) (k := 52) rfl (upd (I 52) j (nI p))
    have hE2 := zEv_Scr hE sc
    have hM2 : zMt L st (zwA I 52 (upd (I 52) j (nI p))) := zMt_n hM (zwA_n (by decide))
    have hS2 : zSr st (zuS S j p) n ((zwA I 52 (upd (I 52) j (nI p))) 52) := zSr_u hS hp (fun i => by
      rw [zwA_s, upd_at]
      by_cases e : i = j
      · rw [if_pos e, if_pos e]
      · rw [if_neg e, if_neg e]
        exact hI i e)
    have e1 := zf50 (s := s) hE2.1 hM2 (nI j) hS2 hn
    have hc := zco_le L st (zuS S j p) n (nI j) st.Q
    have nx := fun w' x7 h1 h2 => zlp49 (L := L) (st := st) (s := s) hn hj I0 hS m (p + 1) (zwA I 52 (upd (I 52) j (nI p))) w' x7 (by omega) h1 h2 hE2 hM2 (fun i hi => by
      rw [zwA_s, upd_at, if_neg hi]
      exact hI i hi)
    rw [zq_49_14, zEv_p1 hE.1, if_neg (nI_ge (by omega) (by omega)), if_pos (zb_t (show j < 3 by omega) (by omega)), nI_clamp (show j < 2 ^ 31 by omega), e1, zcI_some, zq_49_28, nI_1]
    by_cases hl : zco L st (zuS S j p) n (nI j) st.Q ≤ w.2
    · have e2 : zlik1 L st S n j p w = w := if_pos hl
      obtain ⟨J, e, a, b⟩ := nx w (.int (nI (zco L st (zuS S j p) n (nI j) st.Q))) hw hw1
      refine ⟨J, ?_, fun r hr => (a r hr).trans (zwA_n hr), b⟩
      rw [if_pos (nI_le hl (by omega))]
      show _ = some (Value.int (nI (zlikf L st S n j m (p + 1) (zlik1 L st S n j p w)).1), _)
      rw [e2]
      exact e
    · have e2 : zlik1 L st S n j p w = (p, zco L st (zuS S j p) n (nI j) st.Q) := if_neg hl
      obtain ⟨J, e, a, b⟩ := nx (p, zco L st (zuS S j p) n (nI j) st.Q) (.int (nI (zco L st (zuS S j p) n (nI j) st.Q))) (by show zco L st (zuS S j p) n (nI j) st.Q ≤ 8; omega) hp
      refine ⟨J, ?_, fun r hr => (a r hr).trans (zwA_n hr), b⟩
      rw [if_neg (nI_ge (by omega) (by omega))]
      show _ = some (Value.int (nI (zlikf L st S n j m (p + 1) (zlik1 L st S n j p w)).1), _)
      rw [e2]
      exact e
theorem zf49 {L : zLw} {st : zSt} {s : zQs} {I : Nat → Nat → Int32} {S : Nat → Nat} {n j : Nat} (hE : zEv L st s I) (hM : zMt L st I) (hS : zSr st S n (I 52)) (hn : n ≤ 3) (hj : j < n) :
    ∃ J, zf_49 [.ref 50, .int (nI j), .int (nI n)] (zMk (s, I)) = some (.int (nI (zlik L st S n j)), zMk (s, J)) ∧ (∀ r, r ≠ 52 → J r = I r) ∧ ∀ i, J 52 i = I 52 i := by
  have hQ := hE.1.2.2.2.2.2.1.1
  have hc := zco_le L st S n (nI j) st.Q
  have e1 := zf50 (s := s) hE.1 hM (nI j) hS hn
  obtain ⟨J, e, a, b⟩ := zlp49 (L := L) (st := st) (s := s) hn hj I hS st.P 0 I (S j, zco L st S n (nI j) st.Q) (.long 0) (Nat.zero_add _) (by show zco L st S n (nI j) st.Q ≤ 8; omega) (hS j hj).1 hE hM (fun _ _ => rfl)
  refine ⟨J, ?_, a, b⟩
  rw [zqz_49, zq_49_0, if_pos (zb_t (show j < 3 by omega) (by omega)), nI_clamp (show j < 2 ^ 31 by omega), e1, zcI_some, zq_49_11, (hS j hj).2]
  exact e
