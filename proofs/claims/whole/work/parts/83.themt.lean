/-! SHOPS THAT CHOOSE THEMSELVES: THE REFERENCE'S ROUNDS, ALL -/
theorem zlp258i {L : zLw} {st : zSt} {s : zQs} {n : Nat} (hn : n ≤ 3) (x1 x3 x4 c : Int32) : ∀ m j (I : Nat → Nat → Int32) (w : (Nat → Nat) × Bool), j + m = n → zRe L st s I → zSr st w.1 n (I 96) → I 58 57 = nI n →
    ∃ J, zQ_258 (81, [.ref 58, .int x1, .int (nI n), .int x3, .int x4, .int c, .int (zbnn w.2), .int (nI j)], [], zMk (s, I)) = zQ_258 (81, [.ref 58, .int x1, .int (nI n), .int x3, .int x4, .int c, .int (zbnn (zmvr L st n m j w).2), .int (nI n)], [], zMk (s, J)) ∧ zR6 I J ∧ zRe L st s J ∧ zSr st (zmvr L st n m j w).1 n (J 96)
  | 0, j, I, w, h, hE, hS, h57 => by
    have h : j = n := by omega
    subst h
    exact ⟨I, rfl, zR6_rfl I, hE, hS⟩
  | m + 1, j, I, w, h, hE, hS, h57 => by
    have hj : j < n := by omega
    obtain ⟨J1, e1, a1, a2, a3⟩ := zf257 (L := L) (s := s) hn hj hE hS h57
    obtain ⟨s1, s2⟩ := hS j hj
    have hk := zlik_lt (L := L) (st := st) (n := n) s1
    obtain ⟨J, e, b1, b2, b3⟩ := zlp258i (L := L) (st := st) (s := s) hn x1 x3 x4 c m (j + 1) J1 (zuS w.1 j (zlik L st w.1 n j), w.2 || decide (zlik L st w.1 n j ≠ w.1 j)) (by omega) a2 (zSr_u hS hk a3) (by rw [zR6_58 a1]; exact h57)
    refine ⟨J, ?_, zR6_tr a1 b1, b2, b3⟩
    rw [zq_258_81, if_neg (nI_ge (by omega) (by omega)), e1, zcI_some, zq_258_87, nI_1]
    have ef : (if ¬ zbnn (decide (zlik L st w.1 n j ≠ w.1 j)) = 0 then zQ_258 (81, [.ref 58, .int x1, .int (nI n), .int x3, .int x4, .int c, .int 1, .int (nI (j + 1))], [], zMk (s, J1)) else (if zbnn w.2 = 0 then zQ_258 (81, [.ref 58, .int x1, .int (nI n), .int x3, .int x4, .int c, .int 0, .int (nI (j + 1))], [], zMk (s, J1)) else zQ_258 (81, [.ref 58, .int x1, .int (nI n), .int x3, .int x4, .int c, .int 1, .int (nI (j + 1))], [], zMk (s, J1)))) = zQ_258 (81, [.ref 58, .int x1, .int (nI n), .int x3, .int x4, .int c, .int (zbnn (w.2 || decide (zlik L st w.1 n j ≠ w.1 j))), .int (nI (j + 1))], [], zMk (s, J1)) := by
      cases decide (zlik L st w.1 n j ≠ w.1 j) with
      | true =>
        rw [if_pos (show ¬ zbnn true = 0 by decide), Bool.or_true]
        rfl
      | false =>
        rw [if_neg (not_not_intro (show zbnn false = 0 from rfl)), Bool.or_false]
        cases w.2 with
        | true => rw [if_neg (show ¬ zbnn true = 0 by decide)]; rfl
        | false => rw [if_pos (show zbnn false = 0 from rfl)]; rfl
    rw [ef]
    exact e
theorem zlp258 {L : zLw} {st : zSt} {s : zQs} {n : Nat} (hn : n ≤ 3) (x1 x3 x4 : Int32) : ∀ d c (I : Nat → Nat → Int32) (S : Nat → Nat) (x7 : Value), c + d = 20 → zRe L st s I → zSr st S n (I 96) → I 58 57 = nI n →
    ∃ J x7', zQ_258 (72, [.ref 58, .int x1, .int (nI n), .int x3, .int x4, .int (nI c), .int 1, x7], [], zMk (s, I)) = zQ_258 (105, [.ref 58, .int x1, .int (nI n), .int x3, .int x4, .int (nI (zrn L st n d c S).1), .int (if (zrn L st n d c S).1 = 20 then 1 else 0), x7'], [], zMk (s, J)) ∧ zR6 I J ∧ zRe L st s J ∧ zSr st (zrn L st n d c S).2 n (J 96) ∧ (zrn L st n d c S).1 ≤ 20
  | 0, c, I, S, x7, h, hE, hS, h57 => by
    have h : c = 20 := by omega
    subst h
    refine ⟨I, x7, ?_, zR6_rfl I, hE, hS, Nat.le_refl _⟩
    rw [zq_258_72, if_neg (by decide), if_pos (show (20 : Int32) ≤ nI 20 by decide)]
    rfl
  | d + 1, c, I, S, x7, h, hE, hS, h57 => by
    obtain ⟨J1, e1, a1, a2, a3⟩ := zlp258i (L := L) (st := st) (s := s) hn x1 x3 x4 (nI c) n 0 I (S, false) (Nat.zero_add _) hE hS h57
    have e1 : zQ_258 (81, [.ref 58, .int x1, .int (nI n), .int x3, .int x4, .int (nI c), .int 0, .int 0], [], zMk (s, I)) = _ := e1
    rw [zq_258_72, if_neg (by decide), if_neg (show ¬ (20 : Int32) ≤ nI c from nI_ge (b := 20) (by omega) (by decide)), e1, zq_258_81, if_pos (nI_le (Nat.le_refl _) (by omega))]
    cases hf : (zmvr L st n n 0 (S, false)).2 with
    | true =>
      have er : zrn L st n (d + 1) c S = zrn L st n d (c + 1) (zmvr L st n n 0 (S, false)).1 := if_pos hf
      obtain ⟨J, x7', e, b1, b2, b3, b4⟩ := zlp258 (L := L) (st := st) (s := s) hn x1 x3 x4 d (c + 1) J1 (zmvr L st n n 0 (S, false)).1 (.int (nI n)) (by omega) a2 a3 (by rw [zR6_58 a1]; exact h57)
      rw [er]
      refine ⟨J, x7', ?_, zR6_tr a1 b1, b2, b3, b4⟩
      rw [if_neg (show ¬ zbnn true = 0 by decide), nI_1]
      exact e
    | false =>
      have er : zrn L st n (d + 1) c S = (c, (zmvr L st n n 0 (S, false)).1) := if_neg (by rw [hf]; decide)
      rw [er]
      refine ⟨J1, .int (nI n), ?_, a1, a2, a3, by show c ≤ 20; omega⟩
      rw [if_pos (show zbnn false = 0 from rfl), zq_258_72, if_pos (show zbnn false = 0 from rfl)]
      show _ = zQ_258 (105, [.ref 58, .int x1, .int (nI n), .int x3, .int x4, .int (nI c), .int (if c = 20 then 1 else 0), .int (nI n)], [], zMk (s, J1))
      rw [if_neg (by omega)]
      rfl
