/-! SHOPS: COSTS -/
def zC2 (L : zLw) (st : zSt) (q p : Nat) : Nat := zC1 (zdc L st 0 (st.pf q) p) + zC1 (zdc L st 0 p (st.pf q))
def zMt (L : zLw) (st : zSt) (I : Nat → Nat → Int32) : Prop := ∀ q p, q < st.Q → p < st.P → I 51 (q * 20 + p) = nI (zC2 L st q p)
theorem zMt_n {L : zLw} {st : zSt} {I J : Nat → Nat → Int32} (h : zMt L st I) (g : J 51 = I 51) : zMt L st J := fun q p hq hp => by rw [g]; exact h q p hq hp
theorem zlp42i {L : zLw} {st : zSt} {s : zQs} {q : Nat} (hq : q < st.Q) : ∀ m p (I : Nat → Nat → Int32), p + m = st.P → zEv L st s I → zFsh L st s I 0 → (∀ q' p', p' < st.P → (q' < q ∨ (q' = q ∧ p' < p)) → I 51 (q' * 20 + p') = nI (zC2 L st q' p')) →
    ∃ J, zQ_42 (13, [.ref 50, .int (nI q), .int (nI p)], [], zMk (s, I)) = zQ_42 (6, [.ref 50, .int (nI (q + 1)), .int (nI st.P)], [], zMk (s, J)) ∧ (∀ r, r ≠ 51 → J r = I r) ∧ ∀ q' p', p' < st.P → q' < q + 1 → J 51 (q' * 20 + p') = nI (zC2 L st q' p')
  | 0, p, I, h, hE, hF, hD => by
    have h : p = st.P := by omega
    subst h
    have hP := zEv_P hE.1
    refine ⟨I, ?_, fun _ _ => rfl, fun q' p' h1 h2 => hD q' p' h1 (by omega)⟩
    rw [zq_42_13, zEv_p1 hE.1, if_pos (nI_le (Nat.le_refl _) (by omega)), nI_1]
  | m + 1, p, I, h, hE, hF, hD => by
    have hP := zEv_P hE.1
    have hp : p < st.P := by omega
    obtain ⟨hQ, -, -, hfo⟩ := hE.1.2.2.2.2.2.1
    obtain ⟨f1, f2, f3, f4, -⟩ := hfo q hq
    have ei : nI q * 20 + nI p = nI (q * 20 + p) := by rw [show nI q * 20 = nI (q * 20) from nI_mul _ 20, nI_add]
    have sc := zScr_w (I := I) (k := 51) rfl (upd (I 51) (q * 20 + p) (nI (zC2 L st q p)))
    obtain ⟨J, e, a, b⟩ := zlp42i hq m (p + 1) _ (by omega) (zEv_Scr hE sc) (zFsh_Scr hF sc) (fun q' p' h1 h2 => by
      rw [zwA_s, upd_at]
      by_cases hc : q' * 20 + p' = q * 20 + p
      · rw [if_pos hc]
        have : q' = q ∧ p' = p := by omega
        rw [this.1, this.2]
      · rw [if_neg hc]
        exact hD q' p' h1 (by omega))
    refine ⟨J, ?_, fun r hr => (a r hr).trans (zwA_n hr), b⟩
    have e2 := zf122 hE hF f1 hp
    rw [zq_42_13, zEv_p1 hE.1, if_neg (nI_ge (by omega) (by omega)), zl_17, if_pos (zb_t (show q < 8 by omega) (by omega)), nI_clamp (show q < 2 ^ 31 by omega), f4, zcI_some, zq_42_31, e2, zcI_some, ei, zq_42_33, if_pos (zb_t (show q * 20 + p < 160 by omega) (by omega)), nI_clamp (show q * 20 + p < 2 ^ 31 by omega), nI_1]
    exact e
theorem zlp42 {L : zLw} {st : zSt} {s : zQs} : ∀ m q (I : Nat → Nat → Int32) (x2 : Value), q + m = st.Q → zEv L st s I → zFsh L st s I 0 → (∀ q' p', p' < st.P → q' < q → I 51 (q' * 20 + p') = nI (zC2 L st q' p')) →
    ∃ J, zQ_42 (6, [.ref 50, .int (nI q), x2], [], zMk (s, I)) = some (.long 0, zMk (s, J)) ∧ (∀ r, r ≠ 51 → J r = I r) ∧ zMt L st J
  | 0, q, I, x2, h, hE, hF, hD => by
    have h : q = st.Q := by omega
    subst h
    obtain ⟨hQ, q1, -, hfo⟩ := hE.1.2.2.2.2.2.1
    refine ⟨I, ?_, fun _ _ => rfl, fun q' p' h1 h2 => hD q' p' h2 h1⟩
    rw [zq_42_6, q1, if_pos (nI_le (Nat.le_refl _) (by omega))]
  | m + 1, q, I, x2, h, hE, hF, hD => by
    obtain ⟨hQ, q1, -, hfo⟩ := hE.1.2.2.2.2.2.1
    obtain ⟨J1, e1, a1, a2⟩ := zlp42i (show q < st.Q by omega) st.P 0 I (Nat.zero_add _) hE hF (fun q' p' h1 h2 => hD q' p' h1 (by omega))
    have e1 : zQ_42 (13, [.ref 50, .int (nI q), .int 0], [], zMk (s, I)) = _ := e1
    have sc : zScr I J1 := zScr_1 (k := 51) rfl a1
    obtain ⟨J, e, b1, b2⟩ := zlp42 m (q + 1) J1 (.int (nI st.P)) (by omega) (zEv_Scr hE sc) (zFsh_Scr hF sc) (fun q' p' h1 h2 => a2 q' p' h1 h2)
    refine ⟨J, ?_, fun r hr => (b1 r hr).trans (a1 r hr), b2⟩
    rw [zq_42_6, q1, if_neg (nI_ge (by omega) (by omega)), e1]
    exact e
/-- the market's table -/
theorem zf42 {L : zLw} {st : zSt} {s : zQs} {I : Nat → Nat → Int32} (hE : zEv L st s I) :
    ∃ s' J, zf_42 [.ref 50] (zMk (s, I)) = some (.long 0, zMk (s', J)) ∧ zEv L st s' J ∧ zMt L st J ∧ zXe I J ∧ (∀ r, r = 52 ∨ r = 96 → J r = I r) := by
  obtain ⟨s1, J1, e1, hE1, hF1, cv, -⟩ := zfresh0 hE
  obtain ⟨J, e, a, b⟩ := zlp42 (L := L) (st := st) (s := s1) st.Q 0 J1 (.long 0) (Nat.zero_add _) hE1 hF1 (fun q' p' _ h => absurd h (Nat.not_lt_zero _))
  have sc : zScr J1 J := zScr_1 (k := 51) rfl a
  refine ⟨s1, J, ?_, zEv_Scr hE1 sc, b, zXe_tr (zXe_Cv cv) (zXe_Scr sc), fun r hr => ?_⟩
  · rw [zqz_42, zq_42_0, e1, zcV_some, zq_42_4]
    exact e
  · rcases hr with rfl | rfl
    · exact (a 52 (by decide)).trans (cv.1 52 (by decide) (by decide) (by decide) (by decide) (by decide) (by decide) (by decide))
    · exact (a 96 (by decide)).trans (cv.1 96 (by decide) (by decide) (by decide) (by decide) (by decide) (by decide) (by decide))
/-- the best place of a set, for one -/
def zpb (L : zLw) (st : zSt) (S : Nat → Bool) (q : Nat) : Nat → Option Nat := zmf (fun p => if S p = true then ztrip L st (st.pf q) p else none)
def zpv (L : zLw) (st : zSt) (S : Nat → Bool) (q : Nat) : Nat := match zpb L st S q st.P with
  | none => 1000
  | some x => x
def zmk (L : zLw) (st : zSt) (S : Nat → Bool) : Nat → Nat
  | 0 => 0
  | q + 1 => zmk L st S q + zpv L st S q
theorem zmk_s (L : zLw) (st : zSt) (S : Nat → Bool) (q : Nat) : zmk L st S (q + 1) = zmk L st S q + zpv L st S q := rfl
theorem zpb_cg {L : zLw} {st : zSt} {S T : Nat → Bool} (h : ∀ p, p < st.P → S p = T p) (q : Nat) : zpb L st S q st.P = zpb L st T q st.P := zmf_cg st.P (fun p hp => by show (if S p = true then _ else _) = (if T p = true then _ else _); rw [h p hp])
theorem zmk_cg {L : zLw} {st : zSt} {S T : Nat → Bool} (h : ∀ p, p < st.P → S p = T p) : ∀ n, zmk L st S n = zmk L st T n
  | 0 => rfl
  | n + 1 => by rw [zmk_s, zmk_s, zmk_cg h n]; unfold zpv; rw [zpb_cg h]
theorem zpb_le {L : zLw} {st : zSt} {s : zQs} {I : Nat → Nat → Int32} (hR : RepW st I) (S : Nat → Bool) {q : Nat} (hq : q < st.Q) : ∀ n x, n ≤ st.P → zpb L st S q n = some x → x ≤ 379962 := fun n x hn hx => by
  obtain ⟨p, hp, e⟩ := zmf_in n x hx
  have e : (if S p = true then ztrip L st (st.pf q) p else none) = some x := e
  split at e
  · exact ztrip_le (zEv_small (L := L) (s := s) hR) (zEv_P hR) (hR.2.2.2.2.2.1.2.2.2 q hq).1 (by omega) e
  · cases e
theorem zmk_le {L : zLw} {st : zSt} {s : zQs} {I : Nat → Nat → Int32} (hR : RepW st I) (S : Nat → Bool) : ∀ n, n ≤ st.Q → zmk L st S n ≤ 379962 * n
  | 0, _ => Nat.le_refl _
  | n + 1, h => by
    have := zmk_le (L := L) (s := s) hR S n (by omega)
    rw [zmk_s]
    have : zpv L st S n ≤ 379962 := by
      unfold zpv
      cases hz : zpb L st S n st.P with
      | none => decide
      | some x => exact zpb_le (s := s) hR S (by omega) st.P x (Nat.le_refl _) hz
    omega
theorem nI_min {x y : Nat} (hx : x < 2 ^ 31) (hy : y < 2 ^ 31) : (if nI x < nI y then nI x else nI y) = nI (min x y) := by
  by_cases h : x < y
  · rw [if_pos (nI_lt h hy), Nat.min_eq_left (by omega)]
  · rw [if_neg (nI_nlt (by omega) hx), Nat.min_eq_right (by omega)]
def zin3 (a b c p : Nat) : Bool := decide (p = a ∨ p = b ∨ p = c)
theorem zm3 {L : zLw} {st : zSt} {s : zQs} {I : Nat → Nat → Int32} (hR : RepW st I) {q a b c : Nat} (hq : q < st.Q) (ha : a < st.P) (hb : b < st.P) (hc : c < st.P) : (if min (min (zC2 L st q c) (zC2 L st q b)) (zC2 L st q a) < 100000000 then min (min (zC2 L st q c) (zC2 L st q b)) (zC2 L st q a) else 1000) = zpv L st (zin3 a b c) q := by
  have hs := zEv_small (L := L) (s := s) hR
  have hP := zEv_P hR
  have hf := (hR.2.2.2.2.2.1.2.2.2 q hq).1
  have t := fun p (hp : p < st.P) => (ztrip_c (L := L) hs hP hf hp).1
  have v : ∀ p, p < st.P → (∀ x, ztrip L st (st.pf q) p = some x → zC2 L st q p = x) ∧ (ztrip L st (st.pf q) p = none → 100000000 ≤ zC2 L st q p) := fun p hp => by
    have t := t p hp
    refine ⟨fun x e => ?_, fun e => ?_⟩
    · rw [e] at t; exact t
    · rw [e] at t; exact t.1
  unfold zpv
  cases hz : zpb L st (zin3 a b c) q st.P with
  | none =>
    have hn : ∀ p, p < st.P → zin3 a b c p = true → ztrip L st (st.pf q) p = none := fun p hp hi => by
      cases e : ztrip L st (st.pf q) p with
      | none => rfl
      | some y =>
        obtain ⟨x, hx, -⟩ := zmf_le (f := fun p => if zin3 a b c p = true then ztrip L st (st.pf q) p else none) st.P p y hp (by show (if zin3 a b c p = true then ztrip L st (st.pf q) p else none) = some y; rw [if_pos hi]; exact e)
        rw [show zpb L st (zin3 a b c) q st.P = some x from hx] at hz
        cases hz
    have na := (v a ha).2 (hn a ha (by simp [zin3]))
    have nb := (v b hb).2 (hn b hb (by simp [zin3]))
    have nc := (v c hc).2 (hn c hc (by simp [zin3]))
    exact if_neg (by omega)
  | some x =>
    have hx := zpb_le (s := s) hR (zin3 a b c) hq st.P x (Nat.le_refl _) hz
    have lo : ∀ p, p < st.P → zin3 a b c p = true → x ≤ zC2 L st q p := fun p hp hi => by
      cases e : ztrip L st (st.pf q) p with
      | none =>
        have := (v p hp).2 e
        omega
      | some y =>
        obtain ⟨x', hx', hl⟩ := zmf_le (f := fun p => if zin3 a b c p = true then ztrip L st (st.pf q) p else none) st.P p y hp (by show (if zin3 a b c p = true then ztrip L st (st.pf q) p else none) = some y; rw [if_pos hi]; exact e)
        rw [show zpb L st (zin3 a b c) q st.P = some x' from hx'] at hz
        have := Option.some.inj hz
        have := (v p hp).1 y e
        omega
    obtain ⟨p, hp, e⟩ := zmf_in st.P x hz
    have e : (if zin3 a b c p = true then ztrip L st (st.pf q) p else none) = some x := e
    have la := lo a ha (by simp [zin3])
    have lb := lo b hb (by simp [zin3])
    have lc := lo c hc (by simp [zin3])
    split at e
    · rename_i hi
      have hv := (v p hp).1 x e
      have hi : p = a ∨ p = b ∨ p = c := of_decide_eq_true hi
      show (if _ < 100000000 then _ else _) = x
      rcases hi with rfl | rfl | rfl
      · rw [if_pos (by omega)]; omega
      · rw [if_pos (by omega)]; omega
      · rw [if_pos (by omega)]; omega
    · cases e
theorem zlp45 {L : zLw} {st : zSt} {s : zQs} {I : Nat → Nat → Int32} (hR : RepW st I) (hM : zMt L st I) {a b c : Nat} (ha : a < st.P) (hb : b < st.P) (hc : c < st.P) : ∀ m q (x6 x7 : Value), q + m = st.Q →
    zQ_45 (4, [.ref 50, .int (nI a), .int (nI b), .int (nI c), .int (nI (zmk L st (zin3 a b c) q)), .int (nI q), x6, x7], [], zMk (s, I)) = some (.int (nI (zmk L st (zin3 a b c) st.Q)), zMk (s, I))
  | 0, q, x6, x7, h => by
    have h : q = st.Q := by omega
    subst h
    obtain ⟨hQ, q1, -, -⟩ := hR.2.2.2.2.2.1
    rw [zq_45_4, q1, if_pos (nI_le (Nat.le_refl _) (by omega))]
  | m + 1, q, x6, x7, h => by
    obtain ⟨hQ, q1, -, hfo⟩ := hR.2.2.2.2.2.1
    have hs := zEv_small (L := L) (s := s) hR
    have hP := zEv_P hR
    have hq : q < st.Q := by omega
    have nx := fun x6 x7 => zlp45 (s := s) hR hM ha hb hc m (q + 1) x6 x7 (by omega)
    have bd := fun p (hp : p < st.P) => (ztrip_c (L := L) hs hP (hfo q hq).1 hp).2
    have ba : zC2 L st q a ≤ 200000000 := bd a ha
    have bb : zC2 L st q b ≤ 200000000 := bd b hb
    have bc : zC2 L st q c ≤ 200000000 := bd c hc
    have ei := fun p => show nI q * 20 + nI p = nI (q * 20 + p) by rw [show nI q * 20 = nI (q * 20) from nI_mul _ 20, nI_add]
    have hz := zm3 (L := L) (s := s) hR hq ha hb hc
    rw [zmk_s, ← hz] at nx
    have hk : ∀ p, p < st.P → zb (nI (q * 20 + p)) 160 ∧ I 51 (nI (q * 20 + p)).toNatClampNeg = nI (zC2 L st q p) := fun p hp => ⟨zb_t (show q * 20 + p < 160 by omega) (by omega), by rw [nI_clamp (show q * 20 + p < 2 ^ 31 by omega)]; exact hM q p hq hp⟩
    rw [zq_45_4, q1, if_neg (nI_ge (by omega) (by omega)), ei, ei, ei, if_pos (hk a ha).1, if_pos (hk b hb).1, if_pos (hk c hc).1, (hk a ha).2, (hk b hb).2, (hk c hc).2, nI_min (by omega) (by omega), nI_min (by omega) (by omega)]
    by_cases hl : min (min (zC2 L st q c) (zC2 L st q b)) (zC2 L st q a) < 100000000
    · rw [if_pos hl] at nx
      rw [if_pos (show nI (min (min (zC2 L st q c) (zC2 L st q b)) (zC2 L st q a)) < (100000000 : Int32) from nI_lt (b := 100000000) hl (by decide)), nI_add, nI_1]
      exact nx _ _
    · rw [if_neg hl] at nx
      rw [if_neg (show ¬ nI (min (min (zC2 L st q c) (zC2 L st q b)) (zC2 L st q a)) < (100000000 : Int32) from nI_nlt (b := 100000000) (by omega) (by omega)), show nI (zmk L st (zin3 a b c) q) + 1000 = nI (zmk L st (zin3 a b c) q + 1000) from nI_add _ 1000, nI_1]
      exact nx _ _
theorem zf45 {L : zLw} {st : zSt} {s : zQs} {I : Nat → Nat → Int32} (hR : RepW st I) (hM : zMt L st I) {a b c : Nat} (ha : a < st.P) (hb : b < st.P) (hc : c < st.P) :
    zf_45 [.ref 50, .int (nI a), .int (nI b), .int (nI c)] (zMk (s, I)) = some (.int (nI (zmk L st (zin3 a b c) st.Q)), zMk (s, I)) := by
  rw [zqz_45, zq_45_0]
  exact zlp45 hR hM ha hb hc st.Q 0 (.long 0) (.long 0) (Nat.zero_add _)
