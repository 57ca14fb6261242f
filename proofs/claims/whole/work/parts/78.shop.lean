/-! SHOP: ALL CHOICES OF SPOTS -/
def zk3 (L : zLw) (st : zSt) (a b c : Nat) : Nat := zmk L st (zin3 a b c) st.Q
def zu1 (L : zLw) (st : zSt) (q : Option (Nat × Nat × Nat × Nat)) (a b c : Nat) : Option (Nat × Nat × Nat × Nat) := match q with
  | none => some (zk3 L st a b c, a, b, c)
  | some w => if zk3 L st a b c < w.1 then some (zk3 L st a b c, a, b, c) else some w
def zlc (L : zLw) (st : zSt) (a b : Nat) : Nat → Nat → Option (Nat × Nat × Nat × Nat) → Option (Nat × Nat × Nat × Nat)
  | 0, _, q => q
  | m + 1, c, q => zlc L st a b m (c + 1) (zu1 L st q a b c)
def zl3 (n b : Nat) : Nat := if n ≤ 2 then b else b + 1
def zh3 (n P b : Nat) : Nat := if n ≤ 2 then b + 1 else P
def zl2 (n a : Nat) : Nat := if n ≤ 1 then a else a + 1
def zh2 (n P a : Nat) : Nat := if n ≤ 1 then a + 1 else P
def zlb (L : zLw) (st : zSt) (n a : Nat) : Nat → Nat → Option (Nat × Nat × Nat × Nat) → Option (Nat × Nat × Nat × Nat)
  | 0, _, q => q
  | m + 1, b, q => zlb L st n a m (b + 1) (zlc L st a b (zh3 n st.P b - zl3 n b) (zl3 n b) q)
def zla (L : zLw) (st : zSt) (n : Nat) : Nat → Nat → Option (Nat × Nat × Nat × Nat) → Option (Nat × Nat × Nat × Nat)
  | 0, _, q => q
  | m + 1, a, q => zla L st n m (a + 1) (zlb L st n a (zh2 n st.P a - zl2 n a) (zl2 n a) q)
theorem zu1_y {L : zLw} {st : zSt} (q : Option (Nat × Nat × Nat × Nat)) (a b c : Nat) : (zu1 L st q a b c).isSome = true := by
  cases q with
  | none => rfl
  | some w => show (if zk3 L st a b c < w.1 then some (zk3 L st a b c, a, b, c) else some w).isSome = true; split <;> rfl
theorem zlc_y {L : zLw} {st : zSt} {a b : Nat} : ∀ m c q, (q.isSome = true ∨ 0 < m) → (zlc L st a b m c q).isSome = true
  | 0, _, q, h => h.elim id (fun h => absurd h (Nat.not_lt_zero 0))
  | m + 1, c, q, _ => zlc_y m (c + 1) _ (Or.inl (zu1_y q a b c))
theorem zlb_y {L : zLw} {st : zSt} {n a : Nat} : ∀ m b q, (q.isSome = true ∨ (0 < m ∧ zl3 n b < zh3 n st.P b)) → (zlb L st n a m b q).isSome = true
  | 0, _, q, h => h.elim id (fun h => absurd h.1 (Nat.not_lt_zero 0))
  | m + 1, b, q, h => zlb_y m (b + 1) _ (Or.inl (zlc_y _ _ q (h.imp id (fun h => by omega))))
theorem zla_y {L : zLw} {st : zSt} {n : Nat} : ∀ m a q, (q.isSome = true ∨ (0 < m ∧ zl2 n a < zh2 n st.P a ∧ zl3 n (zl2 n a) < zh3 n st.P (zl2 n a))) → (zla L st n m a q).isSome = true
  | 0, _, q, h => h.elim id (fun h => absurd h.1 (Nat.not_lt_zero 0))
  | m + 1, a, q, h => zla_y m (a + 1) _ (Or.inl (zlb_y _ _ q (h.imp id (fun h => ⟨by omega, h.2.2⟩))))
/-- the best so far, in numbers -/
def zqI (P B : Nat) (F : Int32) (q : Option (Nat × Nat × Nat × Nat)) (v a b c : Int32) : Prop := match q with
  | none => v = F
  | some w => w.1 ≤ B ∧ w.2.1 < P ∧ w.2.2.1 < P ∧ w.2.2.2 < P ∧ v = nI w.1 ∧ a = nI w.2.1 ∧ b = nI w.2.2.1 ∧ c = nI w.2.2.2
theorem zk3_le {L : zLw} {st : zSt} {s : zQs} {I : Nat → Nat → Int32} (hR : RepW st I) (a b c : Nat) : zk3 L st a b c ≤ 3039696 := by
  have h1 := zmk_le (L := L) (s := s) hR (zin3 a b c) st.Q (Nat.le_refl _)
  have h2 := hR.2.2.2.2.2.1.1
  have : 379962 * st.Q ≤ 379962 * 8 := Nat.mul_le_mul_left _ h2
  exact Nat.le_trans h1 this
theorem zqI_up {L : zLw} {st : zSt} {s : zQs} {I : Nat → Nat → Int32} (hR : RepW st I) {F v a' b' c' : Int32} {q : Option (Nat × Nat × Nat × Nat)} (hF : nI 3039696 < F) (h : zqI st.P 3039696 F q v a' b' c') {a b c : Nat} (ha : a < st.P) (hb : b < st.P) (hc : c < st.P) :
    (nI (zk3 L st a b c) < v → zqI st.P 3039696 F (zu1 L st q a b c) (nI (zk3 L st a b c)) (nI a) (nI b) (nI c)) ∧ (¬ nI (zk3 L st a b c) < v → zqI st.P 3039696 F (zu1 L st q a b c) v a' b' c') := by
  have hk := zk3_le (L := L) (s := s) hR a b c
  cases q with
  | none =>
    have h : v = F := h
    refine ⟨fun _ => ⟨hk, ha, hb, hc, rfl, rfl, rfl, rfl⟩, fun q => ?_⟩
    exfalso
    rw [h] at q
    have h2 : nI (zk3 L st a b c) ≤ nI 3039696 := nI_le hk (by decide)
    have a1 := Int32.le_iff_toInt_le.mp h2
    have a2 := Int32.lt_iff_toInt_lt.mp hF
    exact q (Int32.lt_iff_toInt_lt.mpr (by omega))
  | some w =>
    obtain ⟨w1, w2, w3, w4, w5, w6, w7, w8⟩ := h
    subst w5
    refine ⟨fun q => ?_, fun q => ?_⟩
    · have hl : zk3 L st a b c < w.1 := by
        by_cases hl : zk3 L st a b c < w.1
        · exact hl
        · exact absurd q (nI_nlt (by omega) (by omega))
      show zqI _ _ _ (if zk3 L st a b c < w.1 then some (zk3 L st a b c, a, b, c) else some w) _ _ _ _
      rw [if_pos hl]
      exact ⟨hk, ha, hb, hc, rfl, rfl, rfl, rfl⟩
    · have hl : ¬ zk3 L st a b c < w.1 := fun hl => q (nI_lt hl (by omega))
      show zqI _ _ _ (if zk3 L st a b c < w.1 then some (zk3 L st a b c, a, b, c) else some w) _ _ _ _
      rw [if_neg hl]
      exact ⟨w1, w2, w3, w4, rfl, w6, w7, w8⟩
/-! the class -/
theorem zlp46c {L : zLw} {st : zSt} {s : zQs} {n a b hi : Nat} {x5 : Int32} (ha : a < st.P) (hb : b < st.P) (hh : hi ≤ st.P) : ∀ m c (I : Nat → Nat → Int32) (v : Int32) (q : Option (Nat × Nat × Nat × Nat)) (x9 : Value), c + m = hi → zEv L st s I → zMt L st I → zqI st.P 3039696 100000000 q v (I 52 0) (I 52 1) (I 52 2) →
    ∃ J v' x9', zQ_46 (50, [.ref 50, .int (nI n), .int v, .int (nI st.P), .int (nI a), .int x5, .int (nI b), .int (nI hi), .int (nI c), x9], [], zMk (s, I)) = zQ_46 (29, [.ref 50, .int (nI n), .int v', .int (nI st.P), .int (nI a), .int x5, .int (nI (b + 1)), .int (nI hi), .int (nI hi), x9'], [], zMk (s, J)) ∧ (∀ r, r ≠ 52 → J r = I r) ∧ zqI st.P 3039696 100000000 (zlc L st a b m c q) v' (J 52 0) (J 52 1) (J 52 2)
  | 0, c, I, v, q, x9, h, hE, hM, hq => by
    have hP := zEv_P hE.1
    have h : c = hi := by omega
    subst h
    refine ⟨I, v, x9, ?_, fun _ _ => rfl, hq⟩
    rw [zq_46_50, if_pos (nI_le (Nat.le_refl _) (by omega)), nI_1]
  | m + 1, c, I, v, q, x9, h, hE, hM, hq => by
    have hP := zEv_P hE.1
    have hc : c < st.P := by omega
    obtain ⟨u1, u2⟩ := zqI_up (L := L) (s := s) hE.1 (by decide) hq ha hb hc
    have e45 : zf_45 [.ref 50, .int (nI a), .int (nI b), .int (nI c)] (zMk (s, I)) = some (.int (nI (zk3 L st a b c)), zMk (s, I)) := zf45 hE.1 hM ha hb hc
    rw [zq_46_50, if_neg (nI_ge (by omega) (by omega)), e45, zcI_some, zq_46_58, nI_1]
    by_cases hl : nI (zk3 L st a b c) < v
    · have sc := zScr_w (I := I) (k := 52) rfl (upd (upd (upd (I 52) 0 (nI a)) 1 (nI b)) 2 (nI c))
      have ew : zwA (zwA (zwA I 52 (upd (I 52) 0 (nI a))) 52 (upd (upd (I 52) 0 (nI a)) 1 (nI b))) 52 (upd (upd (upd (I 52) 0 (nI a)) 1 (nI b)) 2 (nI c)) = zwA I 52 (upd (upd (upd (I 52) 0 (nI a)) 1 (nI b)) 2 (nI c)) := by
        funext r
        by_cases hr : r = 52
        · rw [hr, zwA_s, zwA_s]
        · rw [zwA_n hr, zwA_n hr, zwA_n hr, zwA_n hr]
      obtain ⟨J, v', x9', e, j1, j2⟩ := zlp46c (x5 := x5) (n := n) ha hb hh m (c + 1) _ (nI (zk3 L st a b c)) (zu1 L st q a b c) (.int (nI (zk3 L st a b c))) (by omega) (zEv_Scr hE sc) (zMt_n hM (zwA_n (by decide))) (by
        rw [zwA_s]
        exact u1 hl)
      refine ⟨J, v', x9', ?_, fun r hr => (j1 r hr).trans (zwA_n hr), j2⟩
      rw [if_neg (Int32.not_le.mpr hl), ew]
      exact e
    · obtain ⟨J, v', x9', e, j1, j2⟩ := zlp46c (x5 := x5) (n := n) ha hb hh m (c + 1) I v (zu1 L st q a b c) (.int (nI (zk3 L st a b c))) (by omega) hE hM (u2 hl)
      refine ⟨J, v', x9', ?_, j1, j2⟩
      rw [if_pos (Int32.not_lt.mp hl)]
      exact e
theorem zlp46b {L : zLw} {st : zSt} {s : zQs} {n a hi : Nat} (ha : a < st.P) (hh : hi ≤ st.P) (hn : n ≤ 3) : ∀ m b (I : Nat → Nat → Int32) (v : Int32) (q : Option (Nat × Nat × Nat × Nat)) (x7 x8 x9 : Value), b + m = hi → zEv L st s I → zMt L st I → zqI st.P 3039696 100000000 q v (I 52 0) (I 52 1) (I 52 2) →
    ∃ J v' x7' x8' x9', zQ_46 (29, [.ref 50, .int (nI n), .int v, .int (nI st.P), .int (nI a), .int (nI hi), .int (nI b), x7, x8, x9], [], zMk (s, I)) = zQ_46 (8, [.ref 50, .int (nI n), .int v', .int (nI st.P), .int (nI (a + 1)), .int (nI hi), .int (nI hi), x7', x8', x9'], [], zMk (s, J)) ∧ (∀ r, r ≠ 52 → J r = I r) ∧ zqI st.P 3039696 100000000 (zlb L st n a m b q) v' (J 52 0) (J 52 1) (J 52 2)
  | 0, b, I, v, q, x7, x8, x9, h, hE, hM, hq => by
    have hP := zEv_P hE.1
    have h : b = hi := by omega
    subst h
    refine ⟨I, v, x7, x8, x9, ?_, fun _ _ => rfl, hq⟩
    rw [zq_46_29, if_pos (nI_le (Nat.le_refl _) (by omega)), nI_1]
  | m + 1, b, I, v, q, x7, x8, x9, h, hE, hM, hq => by
    have hP := zEv_P hE.1
    have hb : b < st.P := by omega
    have hl3 : zl3 n b ≤ zh3 n st.P b ∧ zh3 n st.P b ≤ st.P := by unfold zl3 zh3; split <;> omega
    obtain ⟨J1, v1, y9, e1, a1, a2⟩ := zlp46c (L := L) (st := st) (s := s) (n := n) (x5 := nI hi) ha hb hl3.2 (zh3 n st.P b - zl3 n b) (zl3 n b) I v q x9 (by omega) hE hM hq
    have sc : zScr I J1 := zScr_1 (k := 52) rfl a1
    obtain ⟨J, v', x7', x8', x9', e, j1, j2⟩ := zlp46b ha hh hn m (b + 1) J1 v1 (zlc L st a b (zh3 n st.P b - zl3 n b) (zl3 n b) q) (.int (nI (zh3 n st.P b))) (.int (nI (zh3 n st.P b))) y9 (by omega) (zEv_Scr hE sc) (zMt_n hM (a1 51 (by decide))) a2
    refine ⟨J, v', x7', x8', x9', ?_, fun r hr => (j1 r hr).trans (a1 r hr), j2⟩
    rw [zq_46_29, if_neg (nI_ge (by omega) (by omega)), nI_1]
    by_cases c2 : n ≤ 2
    · have t1 : zl3 n b = b := if_pos c2
      have t2 : zh3 n st.P b = b + 1 := if_pos c2
      rw [t1, t2] at e1
      rw [t2] at e
      have hc : nI n ≤ (2 : Int32) := nI_le (b := 2) c2 (by decide)
      rw [if_pos hc, if_pos hc]
      exact e1.trans e
    · have t1 : zl3 n b = b + 1 := if_neg c2
      have t2 : zh3 n st.P b = st.P := if_neg c2
      rw [t1, t2] at e1
      rw [t2] at e
      have hc : ¬ nI n ≤ (2 : Int32) := nI_ge (a := 2) (by omega) (by omega)
      rw [if_neg hc, if_neg hc]
      exact e1.trans e
theorem zlp46 {L : zLw} {st : zSt} {s : zQs} {n : Nat} (hn : n ≤ 3) : ∀ m a (I : Nat → Nat → Int32) (v : Int32) (q : Option (Nat × Nat × Nat × Nat)) (x5 x6 x7 x8 x9 : Value), a + m = st.P → zEv L st s I → zMt L st I → zqI st.P 3039696 100000000 q v (I 52 0) (I 52 1) (I 52 2) →
    ∃ J v', zQ_46 (8, [.ref 50, .int (nI n), .int v, .int (nI st.P), .int (nI a), x5, x6, x7, x8, x9], [], zMk (s, I)) = some (.int v', zMk (s, J)) ∧ (∀ r, r ≠ 52 → J r = I r) ∧ zqI st.P 3039696 100000000 (zla L st n m a q) v' (J 52 0) (J 52 1) (J 52 2)
  | 0, a, I, v, q, x5, x6, x7, x8, x9, h, hE, hM, hq => by
    have hP := zEv_P hE.1
    have h : a = st.P := by omega
    subst h
    refine ⟨I, v, ?_, fun _ _ => rfl, hq⟩
    rw [zq_46_8, if_pos (nI_le (Nat.le_refl _) (by omega))]
  | m + 1, a, I, v, q, x5, x6, x7, x8, x9, h, hE, hM, hq => by
    have hP := zEv_P hE.1
    have ha : a < st.P := by omega
    have hl2 : zl2 n a ≤ zh2 n st.P a ∧ zh2 n st.P a ≤ st.P := by unfold zl2 zh2; split <;> omega
    obtain ⟨J1, v1, y7, y8, y9, e1, a1, a2⟩ := zlp46b (L := L) (st := st) (s := s) (n := n) ha hl2.2 hn (zh2 n st.P a - zl2 n a) (zl2 n a) I v q x7 x8 x9 (by omega) hE hM hq
    have sc : zScr I J1 := zScr_1 (k := 52) rfl a1
    obtain ⟨J, v', e, j1, j2⟩ := zlp46 hn m (a + 1) J1 v1 (zlb L st n a (zh2 n st.P a - zl2 n a) (zl2 n a) q) (.int (nI (zh2 n st.P a))) (.int (nI (zh2 n st.P a))) y7 y8 y9 (by omega) (zEv_Scr hE sc) (zMt_n hM (a1 51 (by decide))) a2
    refine ⟨J, v', ?_, fun r hr => (j1 r hr).trans (a1 r hr), j2⟩
    rw [zq_46_8, if_neg (nI_ge (by omega) (by omega)), nI_1]
    by_cases c2 : n ≤ 1
    · have t1 : zl2 n a = a := if_pos c2
      have t2 : zh2 n st.P a = a + 1 := if_pos c2
      rw [t1, t2] at e1
      rw [t2] at e
      have hc : nI n ≤ (1 : Int32) := nI_le (b := 1) c2 (by decide)
      rw [if_pos hc, if_pos hc]
      exact e1.trans e
    · have t1 : zl2 n a = a + 1 := if_neg c2
      have t2 : zh2 n st.P a = st.P := if_neg c2
      rw [t1, t2] at e1
      rw [t2] at e
      have hc : ¬ nI n ≤ (1 : Int32) := nI_ge (a := 1) (by omega) (by omega)
      rw [if_neg hc, if_neg hc]
      exact e1.trans e
