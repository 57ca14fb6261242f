/-! SHOPS THAT CHOOSE THEMSELVES: ROUNDS; THE REFERENCE -/
def zbnn (b : Bool) : Int32 := if b = true then 1 else 0
def zmvr (L : zLw) (st : zSt) (n : Nat) : Nat → Nat → (Nat → Nat) × Bool → (Nat → Nat) × Bool
  | 0, _, w => w
  | m + 1, j, w => zmvr L st n m (j + 1) (zuS w.1 j (zlik L st w.1 n j), w.2 || decide (zlik L st w.1 n j ≠ w.1 j))
def zrn (L : zLw) (st : zSt) (n : Nat) : Nat → Nat → (Nat → Nat) → Nat × (Nat → Nat)
  | 0, c, S => (c, S)
  | d + 1, c, S => if (zmvr L st n n 0 (S, false)).2 = true then zrn L st n d (c + 1) (zmvr L st n n 0 (S, false)).1 else (c, (zmvr L st n n 0 (S, false)).1)
theorem zlp48i {L : zLw} {st : zSt} {s : zQs} {n : Nat} (hn : n ≤ 3) (c : Int32) : ∀ m j (I : Nat → Nat → Int32) (w : (Nat → Nat) × Bool) (x5 : Value), j + m = n → zEv L st s I → zMt L st I → zSr st w.1 n (I 52) →
    ∃ J x5', zQ_48 (13, [.ref 50, .int (nI n), .int c, .int (zbnn w.2), .int (nI j), x5], [], zMk (s, I)) = zQ_48 (13, [.ref 50, .int (nI n), .int c, .int (zbnn (zmvr L st n m j w).2), .int (nI n), x5'], [], zMk (s, J)) ∧ (∀ r, r ≠ 52 → J r = I r) ∧ zSr st (zmvr L st n m j w).1 n (J 52)
  | 0, j, I, w, x5, h, hE, hM, hS => by
    have h : j = n := by omega
    subst h
    exact ⟨I, x5, rfl, fun _ _ => rfl, hS⟩
  | m + 1, j, I, w, x5, h, hE, hM, hS => by
    have hP := zEv_P hE.1
    have hj : j < n := by omega
    obtain ⟨J1, e1, a1, a2⟩ := zf49 (L := L) (s := s) hE hM hS hn hj
    obtain ⟨s1, s2⟩ := hS j hj
    have hk := zlik_lt (L := L) (st := st) (n := n) s1
    have sc1 : zScr I J1 := zScr_1 (k := 52) rfl a1
    have sc2 := zScr_w (I := J1) (k := 52) rfl (upd (J1 52) j (nI (zlik L st w.1 n j)))
    obtain ⟨J, x5', e, b1, b2⟩ := zlp48i (L := L) (st := st) (s := s) hn c m (j + 1) (zwA J1 52 (upd (J1 52) j (nI (zlik L st w.1 n j)))) (zuS w.1 j (zlik L st w.1 n j), w.2 || decide (zlik L st w.1 n j ≠ w.1 j)) (.int (nI (zlik L st w.1 n j))) (by omega) (zEv_Scr hE (zScr_tr sc1 sc2)) (zMt_n hM (by rw [zwA_n (by decide)]; exact a1 51 (by decide))) (zSr_u hS hk (fun i => by
      rw [zwA_s, upd_at]
      by_cases q : i = j
      · rw [if_pos q, if_pos q]
      · rw [if_neg q, if_neg q]
        exact a2 i))
    refine ⟨J, x5', ?_, fun r hr => (b1 r hr).trans ((zwA_n hr).trans (a1 r hr)), b2⟩
    have zj : zb (nI j) 3 := zb_t (show j < 3 by omega) (by omega)
    have f0 : zbnn w.2 ||| 0 = zbnn w.2 := by cases w.2 <;> rfl
    have f1 : zbnn w.2 ||| 1 = 1 := by cases w.2 <;> rfl
    rw [zq_48_13, if_neg (nI_ge (by omega) (by omega)), e1, zcI_some, zq_48_20, if_pos zj, if_pos zj, nI_clamp (show j < 2 ^ 31 by omega), a2 j, s2, f0, f1, nI_1]
    by_cases q : zlik L st w.1 n j = w.1 j
    · have d : decide (zlik L st w.1 n j ≠ w.1 j) = false := decide_eq_false (not_not_intro q)
      rw [d, Bool.or_false] at e
      rw [if_pos (by rw [q])]
      show _ = zQ_48 (13, [.ref 50, .int (nI n), .int c, .int (zbnn (zmvr L st n m (j + 1) (zuS w.1 j (zlik L st w.1 n j), w.2 || decide (zlik L st w.1 n j ≠ w.1 j))).2), .int (nI n), x5'], [], zMk (s, J))
      rw [d, Bool.or_false]
      exact e
    · have d : decide (zlik L st w.1 n j ≠ w.1 j) = true := decide_eq_true q
      rw [d, Bool.or_true] at e
      rw [if_neg (nI_ne q (by omega) (by omega)), if_pos zj]
      show _ = zQ_48 (13, [.ref 50, .int (nI n), .int c, .int (zbnn (zmvr L st n m (j + 1) (zuS w.1 j (zlik L st w.1 n j), w.2 || decide (zlik L st w.1 n j ≠ w.1 j))).2), .int (nI n), x5'], [], zMk (s, J))
      rw [d, Bool.or_true]
      exact e
theorem zlp48 {L : zLw} {st : zSt} {s : zQs} {n : Nat} (hn : n ≤ 3) : ∀ d c (I : Nat → Nat → Int32) (S : Nat → Nat) (x4 x5 : Value), c + d = 20 → zEv L st s I → zMt L st I → zSr st S n (I 52) →
    ∃ J, zQ_48 (4, [.ref 50, .int (nI n), .int (nI c), .int 1, x4, x5], [], zMk (s, I)) = some (.int (nI (zrn L st n d c S).1), zMk (s, J)) ∧ (∀ r, r ≠ 52 → J r = I r) ∧ zSr st (zrn L st n d c S).2 n (J 52)
  | 0, c, I, S, x4, x5, h, hE, hM, hS => by
    have h : c = 20 := by omega
    subst h
    refine ⟨I, ?_, fun _ _ => rfl, hS⟩
    rw [zq_48_4, if_neg (by decide), if_pos (show (20 : Int32) ≤ nI 20 by decide)]
    rfl
  | d + 1, c, I, S, x4, x5, h, hE, hM, hS => by
    obtain ⟨J1, y5, e1, a1, a2⟩ := zlp48i (L := L) (st := st) (s := s) hn (nI c) n 0 I (S, false) x5 (Nat.zero_add _) hE hM hS
    have e1 : zQ_48 (13, [.ref 50, .int (nI n), .int (nI c), .int 0, .int 0, x5], [], zMk (s, I)) = _ := e1
    have sc1 : zScr I J1 := zScr_1 (k := 52) rfl a1
    rw [zq_48_4, if_neg (by decide), if_neg (show ¬ (20 : Int32) ≤ nI c from nI_ge (b := 20) (by omega) (by decide)), e1, zq_48_13, if_pos (nI_le (Nat.le_refl _) (by omega))]
    cases hf : (zmvr L st n n 0 (S, false)).2 with
    | true =>
      have er : zrn L st n (d + 1) c S = zrn L st n d (c + 1) (zmvr L st n n 0 (S, false)).1 := if_pos hf
      obtain ⟨J, e, b1, b2⟩ := zlp48 (L := L) (st := st) (s := s) hn d (c + 1) J1 (zmvr L st n n 0 (S, false)).1 (.int (nI n)) y5 (by omega) (zEv_Scr hE sc1) (zMt_n hM (a1 51 (by decide))) a2
      rw [er]
      refine ⟨J, ?_, fun r hr => (b1 r hr).trans (a1 r hr), b2⟩
      rw [if_neg (show ¬ zbnn true = 0 by decide), nI_1]
      exact e
    | false =>
      have er : zrn L st n (d + 1) c S = (c, (zmvr L st n n 0 (S, false)).1) := if_neg (by rw [hf]; decide)
      rw [er]
      refine ⟨J1, ?_, a1, a2⟩
      rw [if_pos (show zbnn false = 0 from rfl), zq_48_4, if_pos (show zbnn false = 0 from rfl)]
/-! the reference -/
theorem zlp255 {L : zLw} {st : zSt} {s : zQs} {S : Nat → Nat} {n q : Nat} (hn : n ≤ 3) (hq : q < st.Q) : ∀ m j (I : Nat → Nat → Int32) (x4 : Value), j + m = n → zRe L st s I → zSr st S n (I 96) → I 58 57 = nI n →
    ∃ J, zQ_255 (4, [.ref 58, .int (nI q), .int (zam1 (zam (fun j => ztrip L st (st.pf q) (S j)) j)), .int (nI j), x4], [], zMk (s, I)) = some (.int (zne L st S n q), zMk (s, J)) ∧ zRs I J ∧ zRe L st s J
  | 0, j, I, x4, h, hE, hS, h57 => by
    have h : j = n := by omega
    subst h
    refine ⟨I, ?_, zRs_rfl I, hE⟩
    rw [zq_255_4, h57, if_pos (nI_le (Nat.le_refl _) (by omega))]
    rfl
  | m + 1, j, I, x4, h, hE, hS, h57 => by
    have hs := zEv_small (L := L) (s := s) hE.1
    have hP := zEv_P hE.1
    obtain ⟨hQ, -, -, hfo⟩ := hE.1.2.2.2.2.2.1
    obtain ⟨f1, f2, f3, f4, f5, f6, f7, -⟩ := hfo q hq
    obtain ⟨hp, er⟩ := hS j (by omega)
    have hle : ∀ i x, i ≤ j → (fun j => ztrip L st (st.pf q) (S j)) i = some x → x ≤ 379962 := fun i x hi hx => ztrip_le hs hP f1 (hS i (by omega)).1 hx
    obtain ⟨J1, e1, a1, a2⟩ := zf251 hE f1 hp
    have r85 : ∀ J, zRs I J → J 85 = I 85 ∧ J 96 = I 96 ∧ J 58 = I 58 := fun J h => ⟨h 85 (by decide) (by decide) (by decide) (by decide) (by decide), h 96 (by decide) (by decide) (by decide) (by decide) (by decide), h 58 (by decide) (by decide) (by decide) (by decide) (by decide)⟩
    obtain ⟨w1, w2, w3⟩ := r85 J1 a1
    have nx := fun J x4 (hJ : zRs I J) (hR : zRe L st s J) => zlp255 (L := L) (st := st) (s := s) (S := S) (n := n) (q := q) hn hq m (j + 1) J x4 (by omega) hR (by rw [(r85 J hJ).2.1]; exact hS) (by rw [(r85 J hJ).2.2]; exact h57)
    have zq8 : zb (nI q) 8 := zb_t (show q < 8 by omega) (by omega)
    have cq : (nI q).toNatClampNeg = q := nI_clamp (by omega)
    rw [zq_255_4, h57, if_neg (nI_ge (by omega) (by omega)), if_pos zq8, if_pos (zb_t (show j < 3 by omega) (by omega)), nI_clamp (show j < 2 ^ 31 by omega), cq, f7, er, e1, zcI_some, zq_255_18, nI_1]
    have zs := zam_s (fun j => ztrip L st (st.pf q) (S j)) j
    cases ht : ztrip L st (st.pf q) (S j) with
    | none =>
      have z1 : zam (fun j => ztrip L st (st.pf q) (S j)) (j + 1) = zam (fun j => ztrip L st (st.pf q) (S j)) j := by
        rw [zs]
        show (match ztrip L st (st.pf q) (S j), zam (fun j => ztrip L st (st.pf q) (S j)) j with
          | none, q => q
          | some x, none => some (j, x)
          | some x, some (i, y) => if x < y then some (j, x) else some (i, y)) = _
        rw [ht]
      obtain ⟨J, e, b1, b2⟩ := nx J1 (.int (nI (zR1 none))) a1 a2
      rw [z1] at e
      refine ⟨J, ?_, zRs_tr a1 b1, b2⟩
      rw [if_pos (show (1000000000 : Int32) ≤ nI (zR1 none) by decide)]
      exact e
    | some x =>
      have hx := hle j x (Nat.le_refl _) ht
      have ex : zR1 (some x) = x := rfl
      rw [ex, if_neg (show ¬ (1000000000 : Int32) ≤ nI x from nI_ge (b := 1000000000) (by omega) (by decide))]
      cases hz : zam (fun j => ztrip L st (st.pf q) (S j)) j with
      | none =>
        have z1 : zam (fun j => ztrip L st (st.pf q) (S j)) (j + 1) = some (j, x) := by
          rw [zs]
          show (match ztrip L st (st.pf q) (S j), zam (fun j => ztrip L st (st.pf q) (S j)) j with
            | none, q => q
            | some x, none => some (j, x)
            | some x, some (i, y) => if x < y then some (j, x) else some (i, y)) = _
          rw [ht, hz]
        obtain ⟨J, e, b1, b2⟩ := nx J1 (.int (nI x)) a1 a2
        rw [z1] at e
        refine ⟨J, ?_, zRs_tr a1 b1, b2⟩
        rw [if_pos (show zam1 none = -1 from rfl)]
        exact e
      | some p =>
        obtain ⟨i, y⟩ := p
        obtain ⟨i1, i2⟩ := zam_in j i y hz
        have i2 : ztrip L st (st.pf q) (S i) = some y := i2
        have hy := hle i y (by omega) i2
        obtain ⟨hpi, eri⟩ := hS i (by omega)
        obtain ⟨J2, e2, b1, b2⟩ := zf251 a2 f1 hpi
        rw [i2] at e2
        have z1 : zam (fun j => ztrip L st (st.pf q) (S j)) (j + 1) = if x < y then some (j, x) else some (i, y) := by
          rw [zs]
          show (match ztrip L st (st.pf q) (S j), zam (fun j => ztrip L st (st.pf q) (S j)) j with
            | none, q => q
            | some x, none => some (j, x)
            | some x, some (i, y) => if x < y then some (j, x) else some (i, y)) = _
          rw [ht, hz]
        obtain ⟨J, e, c1, c2⟩ := nx J2 (.int (nI x)) (zRs_tr a1 b1) b2
        refine ⟨J, ?_, zRs_tr a1 (zRs_tr b1 c1), c2⟩
        have zi : zam1 (some (i, y)) = nI i := rfl
        rw [zi, if_neg (nI_m1 (by omega)), if_pos zq8, if_pos (zb_t (show i < 3 by omega) (by omega)), nI_clamp (show i < 2 ^ 31 by omega), cq, w1, w2, f7, eri, e2, zcI_some, zq_255_36, show zR1 (some y) = y from rfl, nI_1]
        by_cases hl : x < y
        · rw [z1, if_pos hl] at e
          rw [if_neg (nI_ge hl (by omega))]
          exact e
        · rw [z1, if_neg hl] at e
          rw [if_pos (nI_le (by omega) (by omega))]
          exact e
