/-! THE ROUND ON THE TAPE -/
theorem zby_in : ∀ b, b < 256 → (b < 8 → zby b = nI b) ∧ (8 ≤ b → zby b < 0 ∨ 7 < zby b) := by decide +kernel
theorem zbt8 : ∀ b, b < 8 → ∀ X, X < 256 → ((nI X >>> (nI b &&& 31)) &&& 1 = 0 ↔ X.testBit b = false) := by decide +kernel
theorem zEv_tp {L : zLw} {st : zSt} {s : zQs} {I J : Nat → Nat → Int32} (h : zEv L st s I) (h1 : ∀ r, r ≠ 30 → r ≠ 58 → J r = I r) (h2 : ∀ j, j ≠ 9 → J 58 j = I 58 j) : zEv L st s J := by
  obtain ⟨⟨hv, ht, hk, hw, he, hf, hg, -, hfa, -⟩, hL, hy⟩ := h
  have kp : zkeep I J := ⟨fun k hk => by
    have hk : (8 ≤ k ∧ k ≤ 14) ∨ (17 ≤ k ∧ k ≤ 18) ∨ (34 ≤ k ∧ k ≤ 40) ∨ (70 ≤ k ∧ k ≤ 74) ∨ 103 ≤ k := hk
    exact h1 k (by omega) (by omega), h2 18 (by decide)⟩
  have r := fun k (a : k ≠ 30 ∧ k ≠ 58) => h1 k a.1 a.2
  refine ⟨⟨?_, ?_, ?_, ?_, ?_, ?_, ?_, trivial, ?_, trivial⟩, zLaw_keep hL kp, zWy_keep hy kp (zvers_rfl st)⟩
  · rw [r 1 (by decide)]; exact hv
  · rw [r 1 (by decide), h2 0 (by decide), h2 1 (by decide), h2 2 (by decide), r 2 (by decide), r 4 (by decide), r 5 (by decide), r 6 (by decide), r 59 (by decide), r 60 (by decide), r 61 (by decide), r 62 (by decide)]; exact ht
  · rw [r 1 (by decide), h2 66 (by decide), h2 67 (by decide), h2 68 (by decide)]; exact hk
  · rw [r 3 (by decide), r 93 (by decide)]; exact hw
  · rw [r 42 (by decide), h2 37 (by decide), r 43 (by decide), r 44 (by decide), r 45 (by decide), r 81 (by decide), r 82 (by decide), r 83 (by decide)]; exact he
  · rw [r 20 (by decide), h2 42 (by decide), r 21 (by decide), r 22 (by decide), r 23 (by decide), r 85 (by decide), r 86 (by decide), r 87 (by decide)]; exact hf
  · rw [r 20 (by decide), h2 43 (by decide), r 24 (by decide), r 25 (by decide), r 26 (by decide), r 88 (by decide), r 89 (by decide), r 90 (by decide)]; exact hg
  · rw [r 54 (by decide), h2 59 (by decide), r 55 (by decide), r 56 (by decide), r 57 (by decide), r 97 (by decide), r 98 (by decide), r 99 (by decide)]; exact hfa
theorem zEv_T {L : zLw} {st : zSt} {s : zQs} {I : Nat → Nat → Int32} (h : zEv L st s I) (x : Nat) : zEv L (st.T' x) s I := ⟨h.1, h.2.1, zWy_keep h.2.2 (zkeep_rfl I) (Or.inr ⟨rfl, rfl, rfl, rfl, rfl, rfl, rfl, rfl⟩)⟩
/-- is the order on the tape good -/
def zrod (st : zSt) : Nat → Nat → Nat → Bool
  | 0, _, _ => true
  | d + 1, k, X => if st.tb k < 8 ∧ st.E.testBit (st.tb k) = true ∧ X.testBit (st.tb k) = false then zrod st d (k + 1) (X ||| 2 ^ st.tb k) else false
theorem zrod_s (st : zSt) (d k X : Nat) : zrod st (d + 1) k X = if st.tb k < 8 ∧ st.E.testBit (st.tb k) = true ∧ X.testBit (st.tb k) = false then zrod st d (k + 1) (X ||| 2 ^ st.tb k) else false := rfl
theorem zrod_all {st : zSt} : ∀ d k X, zrod st d k X = true → ∀ j, k ≤ j → j < k + d → st.tb j < 8 ∧ st.E.testBit (st.tb j) = true
  | 0, _, _, _, _, h1, h2 => by omega
  | d + 1, k, X, h, j, h1, h2 => by
    rw [zrod_s] at h
    by_cases hc : st.tb k < 8 ∧ st.E.testBit (st.tb k) = true ∧ X.testBit (st.tb k) = false
    · rw [if_pos hc] at h
      by_cases hj : j = k
      · subst hj
        exact ⟨hc.1, hc.2.1⟩
      · exact zrod_all d (k + 1) _ h j (by omega) (by omega)
    · rw [if_neg hc] at h
      cases h
theorem zlp78 {st : zSt} (s : zQs) {n : Nat} (hn : n ≤ 8) (hT : st.T ≤ 200) (hnT : n ≤ st.T) (hE : st.E < 256) : ∀ d k X (I : Nat → Nat → Int32) (x5 : Value), k + d = n → X < 256 → I 30 1 = nI st.T → I 42 6 = nI st.E → (∀ j, j < st.T → st.tb j < 256 ∧ I 31 j = nI (st.tb j)) →
    ∃ J, zQ_78 (4, [.ref 42, .ref 30, .int (nI n), .int (nI X), .int (nI k), x5], [], zMk (s, I)) = some (.int (if zrod st d k X = true then 1 else 0), zMk (s, J)) ∧ (∀ r, r ≠ 46 → J r = I r) ∧ (∀ j, j < k → J 46 j = I 46 j) ∧ (zrod st d k X = true → ∀ j, k ≤ j → j < n → J 46 j = nI (st.tb j))
  | 0, k, X, I, x5, h, hX, eT, eE, hb => by
    have h : k = n := by omega
    subst h
    refine ⟨I, ?_, fun _ _ => rfl, fun _ _ => rfl, fun _ j a b => absurd a (by omega)⟩
    rw [zq_78_4, if_pos (nI_le (Nat.le_refl _) (by omega))]
    rfl
  | d + 1, k, X, I, x5, h, hX, eT, eE, hb => by
    obtain ⟨b1, b2⟩ := hb k (by omega)
    have f93 : zf_93 [.ref 30, .int (nI k)] (zMk (s, I)) = some (.int (nI (st.tb k)), zMk (s, I)) := by
      rw [zl_93, if_neg (nI_pos (by omega)), eT, if_neg (nI_ge (by omega) (by omega)), if_pos (zb_t (show k < 200 by omega) (by omega)), nI_clamp (show k < 2 ^ 31 by omega), b2]
    rw [zq_78_4, if_neg (nI_ge (by omega) (by omega)), if_neg (show ¬ (8 : Int32) ≤ nI k from nI_ge (b := 8) (by omega) (by decide)), f93, zcI_some, zq_78_13, if_neg (nI_pos (by omega)), eE, zrod_s]
    by_cases c1 : st.tb k < 8
    case neg =>
      rw [if_pos (show (8 : Int32) ≤ nI (st.tb k) from nI_le (a := 8) (by omega) (by omega)), if_neg (show ¬ (st.tb k < 8 ∧ st.E.testBit (st.tb k) = true ∧ X.testBit (st.tb k) = false) from fun q => c1 q.1)]
      exact ⟨I, rfl, fun _ _ => rfl, fun _ _ => rfl, fun q => (nomatch q)⟩
    rw [if_neg (show ¬ (8 : Int32) ≤ nI (st.tb k) from nI_ge (b := 8) c1 (by decide))]
    by_cases c2 : st.E.testBit (st.tb k) = true
    case neg =>
      rw [if_pos ((zbt8 _ c1 _ hE).mpr (by simpa using c2)), if_neg (show ¬ (st.tb k < 8 ∧ st.E.testBit (st.tb k) = true ∧ X.testBit (st.tb k) = false) from fun q => c2 q.2.1)]
      exact ⟨I, rfl, fun _ _ => rfl, fun _ _ => rfl, fun q => (nomatch q)⟩
    rw [if_neg (fun q => by rw [(zbt8 _ c1 _ hE).mp q] at c2; cases c2)]
    by_cases c3 : X.testBit (st.tb k) = false
    case neg =>
      rw [if_neg (fun q => c3 ((zbt8 _ c1 _ hX).mp q)), if_neg (show ¬ (st.tb k < 8 ∧ st.E.testBit (st.tb k) = true ∧ X.testBit (st.tb k) = false) from fun q => c3 q.2.2)]
      exact ⟨I, rfl, fun _ _ => rfl, fun _ _ => rfl, fun q => (nomatch q)⟩
    rw [if_pos ((zbt8 _ c1 _ hX).mpr c3), if_pos (show st.tb k < 8 ∧ st.E.testBit (st.tb k) = true ∧ X.testBit (st.tb k) = false from ⟨c1, c2, c3⟩), if_pos (zb_t (show k < 8 by omega) (by omega)), nI_clamp (show k < 2 ^ 31 by omega), nI_or X hX _ c1, nI_1]
    obtain ⟨J, e, a1, a2, a3⟩ := zlp78 s hn hT hnT hE d (k + 1) (X ||| 2 ^ st.tb k) (zwA I 46 (upd (I 46) k (nI (st.tb k)))) (.int (nI (st.tb k))) (by omega) (or_lt hX c1) (by rw [zwA_n (by decide)]; exact eT) (by rw [zwA_n (by decide)]; exact eE) (fun j hj => by rw [zwA_n (by decide)]; exact hb j hj)
    refine ⟨J, e, fun r hr => (a1 r hr).trans (zwA_n hr), fun j hj => (a2 j (by omega)).trans (by rw [zwA_s, upd_at, if_neg (by omega)]), fun q j h1 h2 => ?_⟩
    by_cases hj : j = k
    · subst hj
      rw [a2 j (by omega), zwA_s, upd_at, if_pos rfl]
    · exact a3 q j (by omega) h2
theorem zlp226r {st : zSt} (s : zQs) (x1 : Int32) {n : Nat} (hn : n ≤ 8) (hT : st.T ≤ 200) (hnT : n ≤ st.T) (hE : st.E < 256) {I : Nat → Nat → Int32} (eE : I 58 37 = nI st.E) (hb : ∀ j, j < st.T → st.tb j < 256 ∧ I 63 j = zby (st.tb j)) : ∀ d k X (x5 x6 x7 : Value), k + d = n → X < 256 →
    (zrod st d k X = true → ∃ X' x5', zQ_226 (22, [.ref 58, .int x1, .int (nI n), .int (nI X), .int (nI k), x5, x6, x7], [], zMk (s, I)) = zQ_226 (22, [.ref 58, .int x1, .int (nI n), .int X', .int (nI n), x5', x6, x7], [], zMk (s, I))) ∧
    (zrod st d k X = false → zQ_226 (22, [.ref 58, .int x1, .int (nI n), .int (nI X), .int (nI k), x5, x6, x7], [], zMk (s, I)) = some (.int (-3), zMk (s, I)))
  | 0, k, X, x5, x6, x7, h, hX => by
    have h : k = n := by omega
    subst h
    exact ⟨fun _ => ⟨nI X, x5, rfl⟩, fun q => (nomatch q)⟩
  | d + 1, k, X, x5, x6, x7, h, hX => by
    obtain ⟨b1, b2⟩ := hb k (by omega)
    obtain ⟨z1, z2⟩ := zby_in _ b1
    have key : zQ_226 (22, [.ref 58, .int x1, .int (nI n), .int (nI X), .int (nI k), x5, x6, x7], [], zMk (s, I)) = if st.tb k < 8 ∧ st.E.testBit (st.tb k) = true ∧ X.testBit (st.tb k) = false then zQ_226 (22, [.ref 58, .int x1, .int (nI n), .int (nI (X ||| 2 ^ st.tb k)), .int (nI (k + 1)), .int (nI (st.tb k)), x6, x7], [], zMk (s, I)) else some (.int (-3), zMk (s, I)) := by
      rw [zq_226_22, if_neg (nI_ge (by omega) (by omega)), if_pos (zb_t (show k < 200 by omega) (by omega)), nI_clamp (show k < 2 ^ 31 by omega), b2, zl_179]
      by_cases c1 : st.tb k < 8
      case neg =>
        rw [if_neg (show ¬ (st.tb k < 8 ∧ st.E.testBit (st.tb k) = true ∧ X.testBit (st.tb k) = false) from fun q => c1 q.1)]
        by_cases q1 : zby (st.tb k) < 0
        · rw [if_pos q1, zcI_some, zq_226_34, if_pos rfl]
        · have q2 : 7 < zby (st.tb k) := (z2 (by omega)).resolve_left q1
          rw [if_neg q1, if_pos q2, zcI_some, zq_226_34, if_pos rfl]
      rw [z1 c1, if_neg (nI_pos (by omega)), if_neg (show ¬ (7 : Int32) < nI (st.tb k) from nI_nlt (a := 7) (by omega) (by omega)), zcI_some, zq_226_34, if_neg (show ¬ (1 : Int32) = 0 by decide), eE]
      by_cases c2 : st.E.testBit (st.tb k) = true
      case neg =>
        rw [if_pos ((zbt8 _ c1 _ hE).mpr (by simpa using c2)), if_neg (show ¬ (st.tb k < 8 ∧ st.E.testBit (st.tb k) = true ∧ X.testBit (st.tb k) = false) from fun q => c2 q.2.1)]
      rw [if_neg (show ¬ (nI st.E >>> (nI (st.tb k) &&& 31)) &&& 1 = 0 from fun q => by rw [(zbt8 _ c1 _ hE).mp q] at c2; cases c2), bit_shr _ c1 _ hX]
      by_cases c3 : X.testBit (st.tb k) = true
      · rw [if_pos c3, if_neg (not_not_intro rfl), if_neg (show ¬ (st.tb k < 8 ∧ st.E.testBit (st.tb k) = true ∧ X.testBit (st.tb k) = false) from fun q => by rw [q.2.2] at c3; cases c3)]
      · rw [if_neg c3, if_pos (show ¬ (0 : Int32) = 1 by decide), if_pos (show st.tb k < 8 ∧ st.E.testBit (st.tb k) = true ∧ X.testBit (st.tb k) = false from ⟨c1, c2, by simpa using c3⟩), nI_or X hX _ c1, nI_1]
    rw [key, zrod_s]
    by_cases hc : st.tb k < 8 ∧ st.E.testBit (st.tb k) = true ∧ X.testBit (st.tb k) = false
    · rw [if_pos hc, if_pos hc]
      exact zlp226r s x1 hn hT hnT hE eE hb d (k + 1) (X ||| 2 ^ st.tb k) (.int (nI (st.tb k))) x6 x7 (by omega) (or_lt hX hc.1)
    · rw [if_neg hc, if_neg hc]
      exact ⟨fun q => (nomatch q), fun _ => rfl⟩
/-- the cost in the order of the tape -/
def zod (L : zLw) (st : zSt) (home : Nat) : Nat → Nat → Nat → Nat → Option Nat → Option Nat
  | 0, _, here, l, o => zsm o (zdc L st l here home)
  | d + 1, i, here, l, o => zod L st home d (i + 1) (st.ea (st.tb i)) (l + st.ew (st.tb i)) (zsm o (zdc L st l here (st.ea (st.tb i))))
theorem zod_s (L : zLw) (st : zSt) (home d i here l : Nat) (o : Option Nat) : zod L st home (d + 1) i here l o = zod L st home d (i + 1) (st.ea (st.tb i)) (l + st.ew (st.tb i)) (zsm o (zdc L st l here (st.ea (st.tb i)))) := rfl
theorem zsm_le {a b : Option Nat} {A B : Nat} (ha : ∀ x, a = some x → x ≤ A) (hb : ∀ x, b = some x → x ≤ B) : ∀ x, zsm a b = some x → x ≤ A + B := by
  intro x h
  obtain ⟨u, v, p, q, r⟩ := zsm_some h
  have := ha u p
  have := hb v q
  omega
theorem zod_le {L : zLw} {st : zSt} {s : zQs} {I : Nat → Nat → Int32} (hE : zEv L st s I) {home n : Nat} (hh : home < st.P) (hg : ∀ j, j < n → st.tb j < 8 ∧ st.E.testBit (st.tb j) = true) : ∀ d i here l o, i + d = n → here < st.P → (∀ x, o = some x → x ≤ 189981 * i) → ∀ x, zod L st home d i here l o = some x → x ≤ 189981 * (n + 1)
  | 0, i, here, l, o, h, hp, ho, x, hx => by
    have := zsm_le ho (fun y hy => zdc_le (zEv_small (L := L) (s := s) hE.1) (zEv_P hE.1) hp hh hy) x hx
    omega
  | d + 1, i, here, l, o, h, hp, ho, x, hx => by
    obtain ⟨g1, g2⟩ := hg i (by omega)
    obtain ⟨q1, -⟩ := hE.1.2.2.2.2.1.2.2.2 _ g1 g2
    rw [zod_s] at hx
    refine zod_le hE hh hg d (i + 1) _ _ _ (by omega) q1 (fun y hy => ?_) x hx
    have := zsm_le ho (fun y hy => zdc_le (zEv_small (L := L) (s := s) hE.1) (zEv_P hE.1) hp q1 hy) y hy
    omega
theorem zlp79 {L : zLw} {st : zSt} {home n : Nat} (hn : n ≤ 8) (hh : home < st.P) (hg : ∀ j, j < n → st.tb j < 8 ∧ st.E.testBit (st.tb j) = true) : ∀ d i here l c (o : Option Nat) (x7 : Value) (s : zQs) (I : Nat → Nat → Int32), i + d = n → here < st.P → l ≤ 12 * i → zcnk i o c → zEv L st s I → (∀ j, j < n → I 46 j = nI (st.tb j)) →
    ∃ s' J c', zQ_79 (8, [.ref 42, .int (nI home), .int (nI n), .int (nI here), .int (nI l), .int (nI c), .int (nI i), x7], [], zMk (s, I)) = some (.int (nI c'), zMk (s', J)) ∧ zEv L st s' J ∧ zCv I J ∧ zcnk (n + 1) (zod L st home d i here l o) c'
  | 0, i, here, l, c, o, x7, s, I, h, hp, hl, hc, hE, h46 => by
    have h : i = n := by omega
    subst h
    obtain ⟨s', J, e, hE', hf, -, cv, -⟩ := zfresh hE (l := l) (by omega)
    have e1 := zf121 hE' (l := l) (by omega) hf hp hh
    refine ⟨s', J, c + zC1 (zdc L st l here home), ?_, hE', cv, zcnk_sm hc (zcnk_1 (fun x hx => by have := zdc_le (zEv_small (L := L) (s := s) hE.1) (zEv_P hE.1) hp hh hx; omega))⟩
    rw [zq_79_8, if_pos (nI_le (Nat.le_refl _) (by omega)), e, zcV_some, zq_79_53, e1, zcI_some, zq_79_60, nI_add]
  | d + 1, i, here, l, c, o, x7, s, I, h, hp, hl, hc, hE, h46 => by
    obtain ⟨g1, g2⟩ := hg i (by omega)
    obtain ⟨s', J, e, hE', hf, -, cv, -⟩ := zfresh hE (l := l) (by omega)
    obtain ⟨q1, q2, q3, q4, q5, -⟩ := hE'.1.2.2.2.2.1.2.2.2 _ g1 g2
    have e1 := zf121 hE' (l := l) (by omega) hf hp q1
    have r46 : J 46 = I 46 := cv.1 46 (by decide) (by decide) (by decide) (by decide) (by decide) (by decide) (by decide)
    have hc2 := zcnk_sm hc (zcnk_1 (o := zdc L st l here (st.ea (st.tb i))) (fun x hx => by have := zdc_le (zEv_small (L := L) (s := s) hE.1) (zEv_P hE.1) hp q1 hx; omega))
    obtain ⟨s2, J2, c', e2, hE2, cv2, hc'⟩ := zlp79 hn hh hg d (i + 1) (st.ea (st.tb i)) (l + st.ew (st.tb i)) _ _ (.int (nI (st.tb i))) s' J (by omega) q1 (by omega) hc2 hE' (fun j hj => by rw [r46]; exact h46 j hj)
    refine ⟨s2, J2, c', ?_, hE2, zCv_tr cv cv2, hc'⟩
    rw [zq_79_8, if_neg (nI_ge (by omega) (by omega)), if_neg (show ¬ (8 : Int32) ≤ nI i from nI_ge (b := 8) (by omega) (by decide)), e, zcV_some, zq_79_18, if_pos (zb_t (show i < 8 by omega) (by omega)), nI_clamp (show i < 2 ^ 31 by omega), r46, h46 i (by omega), if_pos (zb_t g1 (by omega)), nI_clamp (show st.tb i < 2 ^ 31 by omega), q4, e1, zcI_some, zq_79_33, if_pos (zb_t g1 (by omega)), if_pos (zb_t g1 (by omega)), nI_clamp (show st.tb i < 2 ^ 31 by omega), q4, q5, nI_add, nI_add, nI_1]
    exact e2
theorem zlp226 {L : zLw} {st : zSt} {home n : Nat} (s : zQs) (x3 : Int32) (hn : n ≤ 8) (hh : home < st.P) (hg : ∀ j, j < n → st.tb j < 8 ∧ st.E.testBit (st.tb j) = true) : ∀ d i here l (o : Option Nat) (I : Nat → Nat → Int32), i + d = n → here < st.P → l ≤ 12 * i → (∀ x, o = some x → x ≤ 189981 * i) → zRe L st s I → (∀ j, j < n → I 63 j = nI (st.tb j)) →
    ∃ J, zQ_226 (69, [.ref 58, .int (nI home), .int (nI n), .int x3, .int (nI (zR1 o)), .int (nI here), .int (nI l), .int (nI i)], [], zMk (s, I)) = some (.int (zans (zod L st home d i here l o)), zMk (s, J)) ∧ zScr I J
  | 0, i, here, l, o, I, h, hp, hl, ho, hE, h63 => by
    have h : i = n := by omega
    subst h
    have hsm := zEv_small (L := L) (s := s) hE.1
    have hP := zEv_P hE.1
    obtain ⟨J1, e1, a1, a2⟩ := zf220 hE (l := l) (by omega) hp hh
    have B0 := zR1_cap (B := 189981 * 8) (by decide) (fun x hx => by have := ho x hx; omega)
    have B1 := zR1_cap (B := 189981) (by decide) (fun x hx => zdc_le hsm hP hp hh (l := l) hx)
    refine ⟨J1, ?_, zScr_Rs a1⟩
    rw [zq_226_69, if_pos (nI_le (Nat.le_refl _) (by omega)), e1, zcI_some, zq_226_112, zl180 s J1 B0.1 B1.1, zcI_some, zR1_sm B0.2 B1.2, zq_226_113]
    show _ = some (Value.int (zans (zsm o (zdc L st l here home))), _)
    cases hz : zsm o (zdc L st l here home) with
    | none => rw [if_neg (show ¬ nI (zR1 none) < (1000000000 : Int32) by decide)]; rfl
    | some y =>
      have := zsm_le ho (fun y hy => zdc_le hsm hP hp hh hy) y hz
      rw [if_pos (show nI (zR1 (some y)) < (1000000000 : Int32) from nI_lt (b := 1000000000) (show y < 1000000000 by omega) (by decide))]
      rfl
  | d + 1, i, here, l, o, I, h, hp, hl, ho, hE, h63 => by
    have hsm := zEv_small (L := L) (s := s) hE.1
    have hP := zEv_P hE.1
    obtain ⟨g1, g2⟩ := hg i (by omega)
    obtain ⟨q1, q2, q3, q4, q5, q6, q7, q8, -⟩ := hE.1.2.2.2.2.1.2.2.2 _ g1 g2
    obtain ⟨J1, e1, a1, a2⟩ := zf220 hE (l := l) (by omega) hp q1
    have u := fun (r : Nat) (h : 79 < r) => a1 r (by omega) (by omega) (by omega) (by omega) (by omega)
    have r63 : J1 63 = I 63 := a1 63 (by decide) (by decide) (by decide) (by decide) (by decide)
    have B0 := zR1_cap (B := 189981 * 8) (by decide) (fun x hx => by have := ho x hx; omega)
    have B1 := zR1_cap (B := 189981) (by decide) (fun x hx => zdc_le hsm hP hp q1 (l := l) hx)
    obtain ⟨J, e, sc⟩ := zlp226 s x3 hn hh hg d (i + 1) (st.ea (st.tb i)) (l + st.ew (st.tb i)) (zsm o (zdc L st l here (st.ea (st.tb i)))) J1 (by omega) q1 (by omega) (fun y hy => by
      have := zsm_le ho (fun y hy => zdc_le hsm hP hp q1 hy) y hy
      omega) a2 (fun j hj => by rw [r63]; exact h63 j hj)
    refine ⟨J, ?_, zScr_tr (zScr_Rs a1) sc⟩
    have k1 : nI i = nI i := rfl
    rw [zq_226_69, if_neg (nI_ge (by omega) (by omega)), if_pos (zb_t (show i < 200 by omega) (by omega)), nI_clamp (show i < 2 ^ 31 by omega), h63 i (by omega), if_pos (zb_t g1 (by omega)), nI_clamp (show st.tb i < 2 ^ 31 by omega), q7, e1, zcI_some, zq_226_84, zl180 s J1 B0.1 B1.1, zcI_some, zR1_sm B0.2 B1.2, zq_226_85, if_pos (zb_t (show i < 200 by omega) (by omega)), nI_clamp (show i < 2 ^ 31 by omega), r63, h63 i (by omega), if_pos (zb_t g1 (by omega)), if_pos (zb_t (show i < 200 by omega) (by omega)), if_pos (zb_t g1 (by omega)), nI_clamp (show st.tb i < 2 ^ 31 by omega), u 81 (by decide), u 82 (by decide), q7, q8, nI_add, nI_1, zod_s]
    exact e
theorem zp_round {L : zLw} {st : zSt} {s : zQs} {I : Nat → Nat → Int32} (hE : zEv L st s I) (hx : zXx st I) (x1 x2 : Int32) : zPr L st s I (zf_148 [.ref 0, .int x1, .int x2]) (zf_226 [.ref 58, .int x1, .int x2]) := by
  have hP := zEv_P hE.1
  have p1 := zEv_p1 hE.1
  have p2 := zEv_p2 hE.1
  obtain ⟨hT, eT1, eT2, hb⟩ := hx.2
  obtain ⟨g1, g2, g3, hee⟩ := hE.1.2.2.2.2.1
  have hz90 : zf_90 [.ref 30] (zMk (s, I)) = some (.int (I 30 1), zMk (s, I)) := zl_90 s I
  by_cases h1 : zlt x1 st.P
  case neg =>
    refine zPr_same hE (v := -1) ?_ ?_
    · rw [zqz_148, zq_148_0, isP1_f p1 hP h1, zcI_some, zq_148_4, if_pos rfl]
    · rw [zqz_226, zq_226_0, isP2_f p2 hP h1, zcI_some, zq_226_3, if_pos rfl]
  by_cases h2 : x2 < 1
  case pos =>
    refine zPr_same hE (v := -1) ?_ ?_
    · rw [zqz_148, zq_148_0, isP1_t p1 hP h1, zcI_some, zq_148_4, if_neg (by decide), if_pos h2]
    · rw [zqz_226, zq_226_0, isP2_t p2 hP h1, zcI_some, zq_226_3, if_neg (by decide), zl_179, if_pos h2, zcI_some, zq_226_8, if_pos rfl]
  by_cases h2b : 8 < x2
  case pos =>
    refine zPr_same hE (v := -1) ?_ ?_
    · rw [zqz_148, zq_148_0, isP1_t p1 hP h1, zcI_some, zq_148_4, if_neg (by decide), if_neg h2, if_pos h2b]
    · rw [zqz_226, zq_226_0, isP2_t p2 hP h1, zcI_some, zq_226_3, if_neg (by decide), zl_179, if_neg h2, if_pos h2b, zcI_some, zq_226_8, if_pos rfl]
  obtain ⟨n, hn1, hn, rfl⟩ := zin1 (n := 8) (by decide) h2 h2b
  have c15 : zf_148 [.ref 0, .int x1, .int (nI n)] (zMk (s, I)) = zQ_148 (15, [.ref 0, .int x1, .int (nI n), .long 0], [.int (nI st.T), .int (nI n)], zMk (s, I)) := by
    rw [zqz_148, zq_148_0, isP1_t p1 hP h1, zcI_some, zq_148_4, if_neg (by decide), if_neg h2, if_neg h2b, hz90, zcI_some, eT1]
  have r8 : ∀ s (J : Nat → Nat → Int32), J 58 0 = nI st.P → J 58 9 = nI st.T → zf_226 [.ref 58, .int x1, .int (nI n)] (zMk (s, J)) = if nI n ≤ nI st.T then zQ_226 (22, [.ref 58, .int x1, .int (nI n), .int 0, .int 0, .long 0, .long 0, .long 0], [], (zMk (s, (zwA J 58 (upd (J 58) 9 0))))) else some (.int (-1), zMk (s, J)) := fun s J h h9 => by
    rw [zqz_226, zq_226_0, isP2_t h hP h1, zcI_some, zq_226_3, if_neg (by decide), zl_179, if_neg h2, if_neg h2b, zcI_some, zq_226_8, if_neg (by decide), h9]
  by_cases hnT : n ≤ st.T
  case neg =>
    have q : ¬ nI n ≤ nI st.T := nI_ge (by omega) (by omega)
    refine zPr_same hE (v := -1) ?_ ?_
    · rw [c15, zq_148_15, if_neg q]
    · rw [r8 s I p2 eT2, if_neg q]
  have q : nI n ≤ nI st.T := nI_le hnT (by omega)
  obtain ⟨J1, e1, j1, -, j3⟩ := zlp78 (st := st) s hn hT hnT g1 n 0 0 I (.long 0) (Nat.zero_add _) (by decide) eT1 g2 (fun j hj => ⟨(hb j hj).1, (hb j hj).2.1⟩)
  have f78 : zf_78 [.ref 42, .ref 30, .int (nI n)] (zMk (s, I)) = some (.int (if zrod st n 0 0 = true then 1 else 0), zMk (s, J1)) := by
    rw [zqz_78, zq_78_0]
    exact e1
  have sc1 : zScr I J1 := zScr_1 (k := 46) rfl j1
  have hE1 : zEv L st s (zwA J1 30 (upd (J1 30) 1 0)) := zEv_tp (zEv_Scr hE sc1) (fun r a _ => zwA_n a) (fun j _ => by rw [zwA_n (by decide)])
  have c28 : zf_148 [.ref 0, .int x1, .int (nI n)] (zMk (s, I)) = zQ_148 (28, [.ref 0, .int x1, .int (nI n), .int (if zrod st n 0 0 = true then 1 else 0)], [], zMk (s, zwA J1 30 (upd (J1 30) 1 0))) := by
    rw [c15, zq_148_15, if_pos q, f78, zcI_some, zq_148_24, zl_95, zcV_some]
  have fin : ∀ J2 J4, zXe (zwA J1 30 (upd (J1 30) 1 0)) J2 → zXe (zwA J2 58 (upd (J2 58) 9 0)) J4 → zXx st I → zXx (st.T' 0) J4 := by
    intro J2 J4 a b c
    refine ⟨⟨c.1.1, ?_, ?_⟩, Nat.zero_le _, ?_, ?_, fun j hj => absurd hj (Nat.not_lt_zero j)⟩
    · rw [b.1, zwA_n (by decide), a.1, zwA_n (by decide), j1 0 (by decide)]; exact c.1.2.1
    · rw [b.2.1, zwA_s, upd_at, if_neg (by decide), a.2.1, zwA_n (by decide), j1 58 (by decide)]; exact c.1.2.2
    · rw [b.2.2.1, zwA_n (by decide), a.2.2.1, zwA_s, upd_at, if_pos rfl]; rfl
    · rw [b.2.2.2.1, zwA_s, upd_at, if_pos rfl]; rfl
  have clr : ∀ s2 J2, zEv L st s2 J2 → zEv L st s2 (zwA J2 58 (upd (J2 58) 9 0)) := fun s2 J2 h => zEv_tp h (fun r _ b => zwA_n b) (fun j hj => by rw [zwA_s, upd_at, if_neg hj])
  have rd : ∀ s2 J2, zEv L st s2 J2 → zXe (zwA J1 30 (upd (J1 30) 1 0)) J2 → (zwA J2 58 (upd (J2 58) 9 0)) 58 37 = nI st.E ∧ (∀ j, j < st.T → st.tb j < 256 ∧ (zwA J2 58 (upd (J2 58) 9 0)) 63 j = zby (st.tb j)) ∧ J2 58 0 = nI st.P ∧ J2 58 9 = nI st.T := fun s2 J2 h x => by
    refine ⟨?_, fun j hj => ⟨(hb j hj).1, ?_⟩, zEv_p2 h.1, ?_⟩
    · rw [zwA_s, upd_at, if_neg (by decide)]; exact h.1.2.2.2.2.1.2.2.1
    · rw [zwA_n (by decide), x.2.2.2.2.2, zwA_n (by decide), j1 63 (by decide)]; exact (hb j hj).2.2
    · rw [x.2.2.2.1, zwA_n (by decide), j1 58 (by decide)]; exact eT2
  cases hz : zrod st n 0 0 with
  | false =>
    obtain ⟨b1, b2, b3, b4⟩ := rd s _ hE1 ⟨rfl, rfl, rfl, rfl, rfl, rfl⟩
    obtain ⟨-, r2⟩ := zlp226r s x1 hn hT hnT g1 b1 b2 n 0 0 (.long 0) (.long 0) (.long 0) (Nat.zero_add _) (by decide)
    refine ⟨-3, s, zwA J1 30 (upd (J1 30) 1 0), s, zwA (zwA J1 30 (upd (J1 30) 1 0)) 58 (upd ((zwA J1 30 (upd (J1 30) 1 0)) 58) 9 0), L, st.T' 0, ?_, ?_, zEv_T (clr s _ hE1) 0, fin _ _ ⟨rfl, rfl, rfl, rfl, rfl, rfl⟩ ⟨rfl, rfl, rfl, rfl, rfl, rfl⟩, Nat.le_succ _⟩
    · rw [c28, hz, zq_148_28, if_neg (by decide)]
    · rw [r8 _ _ b3 b4, if_pos q]
      exact r2 hz
  | true =>
    obtain ⟨a, ha, rfl⟩ := h1
    have hg : ∀ j, j < n → st.tb j < 8 ∧ st.E.testBit (st.tb j) = true := fun j hj => zrod_all n 0 0 hz j (Nat.zero_le _) (by omega)
    obtain ⟨s2, J2, c, e2, hE2, cv, hc⟩ := zlp79 hn ha hg n 0 a 0 0 (some 0) (.long 0) s _ (Nat.zero_add _) ha (Nat.zero_le _) ⟨rfl, Nat.le_refl _⟩ hE1 (fun j hj => by rw [zwA_n (by decide)]; exact j3 hz j (Nat.zero_le _) hj)
    obtain ⟨b1, b2, b3, b4⟩ := rd s2 J2 hE2 (zXe_Cv cv)
    obtain ⟨r1, -⟩ := zlp226r s2 (nI a) hn hT hnT g1 b1 b2 n 0 0 (.long 0) (.long 0) (.long 0) (Nat.zero_add _) (by decide)
    obtain ⟨X', x5', r1⟩ := r1 hz
    obtain ⟨J4, e4, sc4, hR4, k4⟩ := zbegins (clr s2 J2 hE2)
    obtain ⟨J5, e5, sc5⟩ := zlp226 (L := L) (st := st) (home := a) (n := n) s2 X' hn ha hg n 0 a 0 (some 0) J4 (Nat.zero_add _) ha (Nat.zero_le _) (fun x hx => by have := Option.some.inj hx; omega) hR4 (fun j hj => by rw [k4 63 (by decide), (b2 j (by omega)).2]; exact (zby_in _ (b2 j (by omega)).1).1 (hg j hj).1)
    refine ⟨zans (zod L st a n 0 a 0 (some 0)), s2, J2, s2, J5, L, st.T' 0, ?_, ?_, zEv_T (zEv_Scr (clr s2 J2 hE2) (zScr_tr sc4 sc5)) 0, fin J2 J5 (zXe_Cv cv) (zXe_Scr (zScr_tr sc4 sc5)), Nat.le_succ _⟩
    · have f79 : zf_79 [.ref 42, .int (nI a), .int (nI n)] (zMk (s, zwA J1 30 (upd (J1 30) 1 0))) = some (.int (nI c), zMk (s2, J2)) := by
        rw [zqz_79, zq_79_0]
        exact e2
      rw [c28, hz, zq_148_28, if_pos (by decide), f79, zcI_some, zq_148_37, zcnk_ans hc (by omega) (B := 189981 * 9) (by decide) (fun x hx => by have := zod_le hE ha hg n 0 a 0 (some 0) (Nat.zero_add _) ha (fun x hx => by have := Option.some.inj hx; omega) x hx; omega), zcI_some, zq_148_38]
    · rw [r8 _ _ b3 b4, if_pos q]
      refine r1.trans ?_
      rw [zq_226_22, if_pos (nI_le (Nat.le_refl _) (by omega)), e4, zcV_some, zq_226_61]
      exact e5
