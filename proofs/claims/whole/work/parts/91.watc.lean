/-! WATER: WHO BRINGS WHERE; THE CLASS -/
def zfil (w : Nat) (r : Nat → Nat) : Nat → Bool
  | 0 => false
  | n + 1 => zfil w r n || decide (r n = w)
def zbr (w : Nat) (r : Nat → Nat) : Nat → Nat → Bool
  | 0, _ => false
  | n + 1, p => zbr w r n p || (zfil w r (n + 1) && decide (r n = p))
theorem zfil_s (w : Nat) (r : Nat → Nat) (n : Nat) : zfil w r (n + 1) = (zfil w r n || decide (r n = w)) := rfl
theorem zbr_s (w : Nat) (r : Nat → Nat) (n p : Nat) : zbr w r (n + 1) p = (zbr w r n p || (zfil w r (n + 1) && decide (r n = p))) := rfl
/-- the own ways, by person -/
def zrws (L : zLw) (st : zSt) (F : Nat → Nat → Nat) : Prop := ∀ q, q < st.Q → ∀ C S, zway (zcs L st 0 st.S) st.P (st.pf q) (st.pt q) = some (C, S) → F q 0 = st.pf q ∧ zrowp L st 0 (st.pt q) S (F q)
theorem zrws_ex {L : zLw} {st : zSt} (hs : zsmall L st) (hP : st.P ≤ 20) (hf : ∀ q, q < st.Q → st.pf q < st.P ∧ st.pt q < st.P) : ∃ F, zrws L st F := by
  have h : ∀ q, ∃ r : Nat → Nat, q < st.Q → ∀ C S, zway (zcs L st 0 st.S) st.P (st.pf q) (st.pt q) = some (C, S) → r 0 = st.pf q ∧ zrowp L st 0 (st.pt q) S r := by
    intro q
    by_cases hq : q < st.Q
    · cases hw : zway (zcs L st 0 st.S) st.P (st.pf q) (st.pt q) with
      | none => exact ⟨fun _ => 0, fun _ C S e => nomatch e⟩
      | some cs =>
        obtain ⟨C, S⟩ := cs
        obtain ⟨r, r0, r1, r2, r3⟩ := zpath hs hP (hf q hq).2 S C _ (hf q hq).1 hw
        refine ⟨r, fun _ C' S' e => ?_⟩
        have e := Option.some.inj e
        have e1 : S = S' := congrArg Prod.snd e
        subst e1
        exact ⟨r0, r1, r2, r3⟩
    · exact ⟨fun _ => 0, fun h => absurd h hq⟩
  exact ⟨fun q => Classical.choose (h q), fun q hq C S e => Classical.choose_spec (h q) hq C S e⟩
def zlen (L : zLw) (st : zSt) (q : Nat) : Nat := match zway (zcs L st 0 st.S) st.P (st.pf q) (st.pt q) with
  | none => 0
  | some cs => cs.2 + 1
def zRR (L : zLw) (st : zSt) (F : Nat → Nat → Nat) (w q p : Nat) : Bool := zbr w (F q) (zlen L st q) p
theorem bit_sh20 : ∀ k, k ≤ 20 → (1 : Int32) <<< (nI k &&& 31) = nI (2 ^ k) := by decide +kernel
theorem pow8_le {q : Nat} (h : q < 8) : 2 ^ q < 256 := pow_256 q h
theorem nI_or1 (a b : Bool) : (nI (if a = true then 1 else 0) ||| nI (if b = true then 1 else 0)) = nI (if (a || b) = true then 1 else 0) := by cases a <;> cases b <;> decide
/-- the row, one place further -/
theorem zrow_up {b : Nat → Nat} {w q n : Nat} {r : Nat → Nat} {f : Nat → Int32} (hq : q < 8) (hb : ∀ p, p < 20 → b p < 256) (h : ∀ p, p < 20 → f p = nI (b p ||| (if zbr w r n p = true then 2 ^ q else 0))) (hr : r n < 20) (hf : zfil w r (n + 1) = true) :
    ∀ p, p < 20 → upd f (r n) (f (r n) ||| ((1 : Int32) <<< (nI q &&& 31))) p = nI (b p ||| (if zbr w r (n + 1) p = true then 2 ^ q else 0)) := by
  intro p hp
  have h2 := pow8_le hq
  rw [upd_at, zbr_s, hf, Bool.true_and]
  by_cases e : p = r n
  · rw [if_pos e, decide_eq_true e.symm, Bool.or_true, if_pos rfl, h _ hr, bit_one q hq, ← e]
    have hb := hb p hp
    by_cases c : zbr w r n p = true
    · rw [if_pos c, nI_lor (Nat.or_lt_two_pow (by omega) (by omega)) (by omega), Nat.or_assoc, Nat.or_self]
    · rw [if_neg c, Nat.or_zero, nI_lor (by omega) (by omega)]
  · rw [if_neg e, decide_eq_false (fun x => e x.symm), Bool.or_false]
    exact h p hp
theorem zrow_no {b : Nat → Nat} {w q n : Nat} {r : Nat → Nat} {f : Nat → Int32} (h : ∀ p, p < 20 → f p = nI (b p ||| (if zbr w r n p = true then 2 ^ q else 0))) (hf : zfil w r (n + 1) = false) :
    ∀ p, p < 20 → f p = nI (b p ||| (if zbr w r (n + 1) p = true then 2 ^ q else 0)) := by
  intro p hp
  rw [zbr_s, hf, Bool.false_and, Bool.or_false]
  exact h p hp
theorem zlp135i {s : zQs} {b : Nat → Nat} {w q len : Nat} {r : Nat → Nat} (hw : w < 20) (hq : q < 8) (hl : len ≤ 20) (hb : ∀ p, p < 20 → b p < 256) (hr : ∀ j, j < len → r j < 20) : ∀ d i (I : Nat → Nat → Int32) (x6 : Value), i + d = len → I 16 4 = nI len → (∀ j, j < len → I 19 j = nI (r j)) →
    (∀ p, p < 20 → I 49 p = nI (b p ||| (if zbr w r i p = true then 2 ^ q else 0))) →
    ∃ J x4' x6', zQ_135 (36, [.ref 48, .int (nI w), .int (nI q), .int (nI len), .int (nI (if zfil w r i = true then 1 else 0)), .int (nI i), x6], [], zMk (s, I)) = zQ_135 (14, [.ref 48, .int (nI w), .int (nI (q + 1)), .int (nI len), x4', .int (nI len), x6'], [], zMk (s, J)) ∧ (∀ k, k ≠ 49 → J k = I k) ∧ ∀ p, p < 20 → J 49 p = nI (b p ||| (if zbr w r len p = true then 2 ^ q else 0))
  | 0, i, I, x6, h, h16, h19, h49 => by
    have h : i = len := by omega
    subst h
    refine ⟨I, .int (nI (if zfil w r i = true then 1 else 0)), x6, ?_, fun _ _ => rfl, h49⟩
    rw [zq_135_36, if_pos (nI_le (Nat.le_refl _) (by omega)), nI_1]
  | d + 1, i, I, x6, h, h16, h19, h49 => by
    have hi : i < len := by omega
    have hri := hr i hi
    have nx := zlp135i (s := s) hw hq hl hb hr d (i + 1)
    have e51 : zQ_135 (36, [.ref 48, .int (nI w), .int (nI q), .int (nI len), .int (nI (if zfil w r i = true then 1 else 0)), .int (nI i), x6], [], zMk (s, I)) = zQ_135 (51, [.ref 48, .int (nI w), .int (nI q), .int (nI len), .int (nI (if zfil w r i = true then 1 else 0)), .int (nI i), .int (nI (r i))], [.int (nI (if decide (r i = w) = true then 1 else 0)), .int (nI (if zfil w r i = true then 1 else 0))], zMk (s, I)) := by
      rw [zq_135_36, if_neg (nI_ge hi (by omega)), zl_124, if_neg (nI_pos (by omega)), h16, if_neg (nI_ge hi (by omega)), if_pos (zb_t (show i < 20 by omega) (by omega)), nI_clamp (show i < 2 ^ 31 by omega), h19 i hi, zcI_some, zq_135_43]
      by_cases c : r i = w
      · rw [if_neg (not_not_intro (by rw [c])), decide_eq_true c]
        rfl
      · rw [if_pos (nI_ne c (by omega) (by omega)), decide_eq_false c]
        rfl
    rw [e51, zq_135_51, nI_or1, ← zfil_s, nI_1]
    by_cases hf : zfil w r (i + 1) = true
    · have up := zrow_up hq hb h49 hri hf
      obtain ⟨J, x4', x6', e, j1, j2⟩ := nx (zwA I 49 (upd (I 49) (r i) (I 49 (r i) ||| ((1 : Int32) <<< (nI q &&& 31))))) (.int (nI (r i))) (by omega) (by rw [zwA_n (by decide)]; exact h16) (fun j hj => by rw [zwA_n (by decide)]; exact h19 j hj) (by rw [zwA_s]; exact up)
      refine ⟨J, x4', x6', ?_, fun k hk => (j1 k hk).trans (zwA_n hk), j2⟩
      rw [hf, if_pos rfl] at e
      rw [hf, if_pos rfl, if_neg (show ¬ nI 1 = 0 by decide), if_neg (nI_m1 (show r i < 2 ^ 31 by omega)), if_pos (zb_t hri (by omega)), if_pos (zb_t hri (by omega)), nI_clamp (show r i < 2 ^ 31 by omega)]
      exact e
    · have hf : zfil w r (i + 1) = false := by cases hx : zfil w r (i + 1) with
        | false => rfl
        | true => exact absurd hx hf
      obtain ⟨J, x4', x6', e, j1, j2⟩ := nx I (.int (nI (r i))) (by omega) h16 h19 (zrow_no h49 hf)
      refine ⟨J, x4', x6', ?_, j1, j2⟩
      rw [hf, if_neg (show ¬ false = true by decide)] at e
      rw [hf, if_neg (show ¬ false = true by decide), if_pos (show nI 0 = 0 by decide)]
      exact e
theorem zsts_up {R : Nat → Nat → Bool} {q p : Nat} {c : Bool} (h : c = R q p) : (zsts (fun q => R q p) q ||| (if c = true then 2 ^ q else 0)) = zsts (fun q => R q p) (q + 1) := by rw [h]; rfl
theorem zsts_256 (S : Nat → Bool) {q : Nat} (h : q ≤ 8) : zsts S q < 256 := Nat.lt_of_lt_of_le (zsts_lt S q) (show 2 ^ q ≤ 2 ^ 8 from Nat.pow_le_pow_right (by decide) h)
theorem zlp135 {L : zLw} {st : zSt} {s : zQs} {F : Nat → Nat → Nat} (hF : zrws L st F) {w : Nat} (hw : w < 20) : ∀ d q (I : Nat → Nat → Int32) (x3 x4 x5 x6 : Value), q + d = st.Q → zEv L st s I → zFsh L st s I 0 → (∀ p, p < 20 → I 49 p = nI (zsts (fun q => zRR L st F w q p) q)) →
    ∃ J, zQ_135 (14, [.ref 48, .int (nI w), .int (nI q), x3, x4, x5, x6], [], zMk (s, I)) = some (.long 0, zMk (s, J)) ∧ zScr I J ∧ (∀ k, k ≠ 16 → k ≠ 19 → k ≠ 49 → J k = I k) ∧ ∀ p, p < 20 → J 49 p = nI (zsts (fun q => zRR L st F w q p) st.Q)
  | 0, q, I, x3, x4, x5, x6, h, hE, hf, h49 => by
    have h : q = st.Q := by omega
    subst h
    obtain ⟨hQ, q1, -, -⟩ := hE.1.2.2.2.2.2.1
    refine ⟨I, ?_, zScr_rfl I, fun _ _ _ _ => rfl, h49⟩
    rw [zq_135_14, q1, if_pos (nI_le (Nat.le_refl _) (by omega))]
  | d + 1, q, I, x3, x4, x5, x6, h, hE, hf, h49 => by
    have hP := zEv_P hE.1
    have hq : q < st.Q := by omega
    obtain ⟨hQ, q1, -, hfo⟩ := hE.1.2.2.2.2.2.1
    obtain ⟨f1, f2, f3, f4, f5, -⟩ := hfo q hq
    have zq8 := zb_t (show q < 8 by omega) (show q < 2 ^ 31 by omega)
    have cq : (nI q).toNatClampNeg = q := nI_clamp (by omega)
    have st1 : zQ_135 (14, [.ref 48, .int (nI w), .int (nI q), x3, x4, x5, x6], [], zMk (s, I)) = (zcI (zf_123 [.ref 16, .int (nI (st.pf q)), .int (nI (st.pt q)), .int (nI 0)] (zMk (s, I))) fun v M => zQ_135 (31, [.ref 48, .int (nI w), .int (nI q), x3, x4, x5, x6], [.int v], M)) := by
      rw [zq_135_14, q1, if_neg (nI_ge (by omega) (by omega)), zl_17, if_pos zq8, cq, f4, zcI_some, zq_135_25, zl_18, if_pos zq8, cq, f5, zcI_some, zq_135_29]
      rfl
    have go : ∀ len (I1 : Nat → Nat → Int32), len = zlen L st q → len ≤ 20 → (∀ j, j < len → F q j < 20) → zScr I I1 → (∀ k, k ≠ 16 → k ≠ 19 → I1 k = I k) → I1 16 4 = nI len → (∀ j, j < len → I1 19 j = nI (F q j)) →
        ∃ J, zQ_135 (31, [.ref 48, .int (nI w), .int (nI q), x3, x4, x5, x6], [.int (nI len)], zMk (s, I1)) = some (.long 0, zMk (s, J)) ∧ zScr I J ∧ (∀ k, k ≠ 16 → k ≠ 19 → k ≠ 49 → J k = I k) ∧ ∀ p, p < 20 → J 49 p = nI (zsts (fun q => zRR L st F w q p) st.Q) := by
      intro len I1 hl hl20 hr sc same h16 h19
      obtain ⟨J1, x4', x6', e1, k1, k2⟩ := zlp135i (s := s) (b := fun p => zsts (fun q => zRR L st F w q p) q) (r := F q) hw (show q < 8 by omega) hl20 (fun p _ => zsts_256 _ (by omega)) hr len 0 I1 x6 (Nat.zero_add _) h16 h19 (fun p hp => by
        rw [same 49 (by decide) (by decide), h49 p hp]
        show _ = nI (_ ||| 0)
        rw [Nat.or_zero])
      have sc1 : zScr I1 J1 := zScr_1 (k := 49) rfl k1
      obtain ⟨J, e, a, b, c⟩ := zlp135 hF hw d (q + 1) J1 (.int (nI len)) x4' (.int (nI len)) x6' (by omega) (zEv_Scr hE (zScr_tr sc sc1)) (zFsh_Scr hf (zScr_tr sc sc1)) (fun p hp => by
        rw [k2 p hp]
        exact congrArg nI (zsts_up (R := fun q p => zRR L st F w q p) (by rw [hl]; rfl)))
      refine ⟨J, ?_, zScr_tr (zScr_tr sc sc1) a, fun k h1 h2 h3 => by rw [b k h1 h2 h3, k1 k h3, same k h1 h2], c⟩
      rw [zq_135_31]
      have e1 : zQ_135 (36, [.ref 48, .int (nI w), .int (nI q), .int (nI len), .int 0, .int 0, x6], [], zMk (s, I1)) = _ := e1
      rw [e1]
      exact e
    rw [st1]
    cases hz : zway (zcs L st 0 st.S) st.P (st.pf q) (st.pt q) with
    | none =>
      have e := zwalkn hE (l := 0) (by decide) hf f1 f2 hz
      rw [e, zcI_some]
      exact go 0 _ (by unfold zlen; rw [hz]) (by omega) (fun j hj => absurd hj (Nat.not_lt_zero j)) (zScr_w (k := 16) rfl _) (fun k h1 _ => zwA_n h1) (by rw [zwA_s, upd_at, if_pos rfl]; rfl) (fun j hj => absurd hj (Nat.not_lt_zero j))
    | some cs =>
      obtain ⟨C, S⟩ := cs
      obtain ⟨g0, g1⟩ := hF q hq C S hz
      obtain ⟨hS, -⟩ := zway_s (zEv_small (L := L) (s := s) hE.1 0) hP f1 f2 hz
      obtain ⟨J1, e, a1, a2, a3, a4⟩ := zwalkc hE (l := 0) (by decide) hf f1 f2 hz g0 g1
      rw [e, zcI_some]
      exact go (S + 1) J1 (by unfold zlen; rw [hz]) (by omega) (fun j hj => Nat.lt_of_lt_of_le (g1.2.1 j (by omega)) hP) a1 (fun k h1 h2 => a4 k h1 h2) a2 (fun j hj => a3 j (by omega))
theorem zlp135z {s : zQs} {w : Nat} (x3 x4 x5 x6 : Value) : ∀ d p (I : Nat → Nat → Int32), p + d = 20 → (∀ j, j < p → I 49 j = 0) →
    ∃ J, zQ_135 (2, [.ref 48, .int (nI w), .int (nI p), x3, x4, x5, x6], [], zMk (s, I)) = zQ_135 (14, [.ref 48, .int (nI w), .int 0, x3, x4, x5, x6], [], zMk (s, J)) ∧ (∀ k, k ≠ 49 → J k = I k) ∧ ∀ j, j < 20 → J 49 j = 0
  | 0, p, I, h, h49 => by
    have h : p = 20 := by omega
    subst h
    refine ⟨I, ?_, fun _ _ => rfl, h49⟩
    rw [zq_135_2, if_pos (by decide)]
  | d + 1, p, I, h, h49 => by
    obtain ⟨J, e, a, b⟩ := zlp135z (s := s) (w := w) x3 x4 x5 x6 d (p + 1) (zwA I 49 (upd (I 49) p 0)) (by omega) (fun j hj => by
      rw [zwA_s, upd_at]
      split
      · rfl
      · exact h49 j (by omega))
    refine ⟨J, ?_, fun k hk => (a k hk).trans (zwA_n hk), b⟩
    rw [zq_135_2, if_neg (show ¬ (20 : Int32) ≤ nI p from nI_ge (b := 20) (by omega) (by decide)), if_pos (zb_t (show p < 20 by omega) (by omega)), nI_clamp (show p < 2 ^ 31 by omega), nI_1]
    exact e
theorem zf135 {L : zLw} {st : zSt} {s : zQs} {I : Nat → Nat → Int32} {F : Nat → Nat → Nat} (hF : zrws L st F) {w : Nat} (hw : w < 20) (hE : zEv L st s I) (hf : zFsh L st s I 0) :
    ∃ J, zf_135 [.ref 48, .int (nI w)] (zMk (s, I)) = some (.long 0, zMk (s, J)) ∧ zScr I J ∧ (∀ k, k ≠ 16 → k ≠ 19 → k ≠ 49 → J k = I k) ∧ ∀ p, p < 20 → J 49 p = nI (zsts (fun q => zRR L st F w q p) st.Q) := by
  obtain ⟨J1, e1, a1, a2⟩ := zlp135z (s := s) (w := w) (.long 0) (.long 0) (.long 0) (.long 0) 20 0 I (Nat.zero_add _) (fun j hj => absurd hj (Nat.not_lt_zero j))
  have sc : zScr I J1 := zScr_1 (k := 49) rfl a1
  obtain ⟨J, e, b1, b2, b3⟩ := zlp135 hF hw st.Q 0 J1 (.long 0) (.long 0) (.long 0) (.long 0) (Nat.zero_add _) (zEv_Scr hE sc) (zFsh_Scr hf sc) (fun p hp => a2 p hp)
  refine ⟨J, ?_, zScr_tr sc b1, fun k h1 h2 h3 => by rw [b2 k h1 h2 h3, a1 k h3], b3⟩
  rw [zqz_135, zq_135_0]
  have e1 : zQ_135 (2, [.ref 48, .int (nI w), .int 0, .long 0, .long 0, .long 0, .long 0], [], zMk (s, I)) = _ := e1
  rw [e1]
  exact e
theorem zlp136 {st : zSt} {s : zQs} {I : Nat → Nat → Int32} {R : Nat → Nat → Bool} {k : Nat} (hP : st.P ≤ 20) (hQ : st.Q ≤ 8) (p1 : I 1 10 = nI st.P) (hw : cWant st.wn (I 3) (I 93)) (h49 : ∀ p, p < 20 → I 49 p = nI (zsts (fun q => R q p) st.Q)) (hk : k < 256) : ∀ d p, p + d = st.P →
    zQ_136 (4, [.ref 48, .int (nI k), .int (nI (zsts (zDk R st.wn st.Q k) p)), .int (nI p)], [], zMk (s, I)) = some (.int (nI (zsts (zDk R st.wn st.Q k) st.P)), zMk (s, I))
  | 0, p, h => by
    have h : p = st.P := by omega
    subst h
    rw [zq_136_4, p1, if_pos (nI_le (Nat.le_refl _) (by omega))]
  | d + 1, p, h => by
    have hp : p < st.P := by omega
    have nx := zlp136 (s := s) hP hQ p1 hw h49 hk d (p + 1) (by omega)
    obtain ⟨w1, w2, -⟩ := hw p (by omega)
    have hb := zsts_256 (fun q => R q p) hQ
    have hs : zsts (zDk R st.wn st.Q k) p < 2 ^ 31 := Nat.lt_of_lt_of_le (zsts_lt _ p) (Nat.pow_le_pow_right (by decide) (by omega))
    rw [zsts_s] at nx
    rw [zq_136_4, p1, if_neg (nI_ge hp (by omega)), zl_112, if_pos (zb_t (show p < 20 by omega) (by omega)), nI_clamp (show p < 2 ^ 31 by omega), w2, zcI_some, zq_136_13, nI_1]
    have dv : zDk R st.wn st.Q k p = (decide (0 < st.wn p) && decide (zsts (fun q => R q p) st.Q &&& k = zsts (fun q => R q p) st.Q)) := rfl
    by_cases c0 : st.wn p = 0
    · rw [dv, decide_eq_false (show ¬ 0 < st.wn p by omega), Bool.false_and, if_neg (show ¬ false = true by decide), Nat.or_zero] at nx
      rw [c0, if_pos (show nI 0 ≤ 0 by decide)]
      exact nx
    · rw [if_neg (show ¬ nI (st.wn p) ≤ 0 from nI_ge (a := 0) (by omega) (by omega)), if_pos (zb_t (show p < 20 by omega) (by omega)), nI_clamp (show p < 2 ^ 31 by omega), h49 p (by omega)]
      by_cases c : zsts (fun q => R q p) st.Q &&& k = zsts (fun q => R q p) st.Q
      · rw [dv, decide_eq_true (show 0 < st.wn p by omega), decide_eq_true c, Bool.true_and, if_pos rfl] at nx
        rw [if_neg (not_not_intro ((bit_sub k hk _ hb).mpr c)), bit_sh20 p (by omega), nI_lor hs (Nat.pow_lt_pow_right (by decide) (by omega))]
        exact nx
      · rw [dv, decide_eq_false c, Bool.and_false, if_neg (show ¬ false = true by decide), Nat.or_zero] at nx
        rw [if_pos (fun q => c ((bit_sub k hk _ hb).mp q))]
        exact nx
theorem zlp137 {st : zSt} {s : zQs} {I : Nat → Nat → Int32} {X : Nat} (hP : st.P ≤ 20) (p1 : I 1 10 = nI st.P) (hw : cWant st.wn (I 3) (I 93)) (hX : X < 2 ^ 31) : ∀ d p, p + d = st.P →
    zQ_137 (4, [.ref 48, .int (nI X), .int (nI (zsgm st.wn (fun i => X.testBit i) p)), .int (nI p)], [], zMk (s, I)) = some (.int (nI (zsgm st.wn (fun i => X.testBit i) st.P)), zMk (s, I))
  | 0, p, h => by
    have h : p = st.P := by omega
    subst h
    rw [zq_137_4, p1, if_pos (nI_le (Nat.le_refl _) (by omega))]
  | d + 1, p, h => by
    have hp : p < st.P := by omega
    have nx := zlp137 (s := s) hP p1 hw hX d (p + 1) (by omega)
    obtain ⟨w1, w2, -⟩ := hw p (by omega)
    rw [zsgm_s] at nx
    rw [zq_137_4, p1, if_neg (nI_ge hp (by omega)), bit_gen hX (show p < 31 by omega), nI_1]
    by_cases c : X.testBit p = true
    · rw [if_pos c] at nx
      rw [if_pos c, if_neg (by decide), zl_112, if_pos (zb_t (show p < 20 by omega) (by omega)), nI_clamp (show p < 2 ^ 31 by omega), w2, zcI_some, zq_137_20, nI_add, nI_1]
      exact nx
    · rw [if_neg c] at nx
      rw [if_neg c, if_pos rfl]
      exact nx
theorem zlp138 {st : zSt} {s : zQs} {I : Nat → Nat → Int32} {k : Nat} (hf : cFolk st.P st.Q st.pf st.pt st.pc (I 20 10) (I 58 42) (I 21) (I 22) (I 23) (I 85) (I 86) (I 87)) (hk : k < 256) : ∀ d q, q + d = st.Q →
    zQ_138 (4, [.ref 48, .int (nI k), .int (nI (zsgm st.pc (fun i => k.testBit i) q)), .int (nI q)], [], zMk (s, I)) = some (.int (nI (zsgm st.pc (fun i => k.testBit i) st.Q)), zMk (s, I))
  | 0, q, h => by
    have h : q = st.Q := by omega
    subst h
    rw [zq_138_4, hf.2.1, if_pos (nI_le (Nat.le_refl _) (by have := hf.1; omega))]
  | d + 1, q, h => by
    have hq : q < st.Q := by omega
    have hQ := hf.1
    have nx := zlp138 (s := s) hf hk d (q + 1) (by omega)
    obtain ⟨-, -, -, -, -, f6, -⟩ := hf.2.2.2 q hq
    rw [zsgm_s] at nx
    rw [zq_138_4, hf.2.1, if_neg (nI_ge hq (by omega)), bit_gen (show k < 2 ^ 31 by omega) (show q < 31 by omega), nI_1]
    by_cases c : k.testBit q = true
    · rw [if_pos c] at nx
      rw [if_pos c, if_neg (by decide), zl_19, if_pos (zb_t (show q < 8 by omega) (by omega)), nI_clamp (show q < 2 ^ 31 by omega), f6, zcI_some, zq_138_20, nI_add, nI_1]
      exact nx
    · rw [if_neg c] at nx
      rw [if_neg c, if_pos rfl]
      exact nx
