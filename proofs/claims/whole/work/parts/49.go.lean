/-! A GOING, BY BOTH -/
theorem zwA_zwA (I : Nat → Nat → Int32) (k : Nat) (f g : Nat → Int32) : zwA (zwA I k f) k g = zwA I k g := by
  funext a
  simp only [zwA_at]
  split <;> rfl
/-- the law that holds, as both have it -/
def zLaw (L : zLw) (s : zQs) (I : Nat → Nat → Int32) : Prop := zwf L ∧ zLR L (I 58 18) (I 70) (I 71) (I 72) (I 73) (I 74) ∧
  ((s.2.2.1 = 8 ∧ s.2.2.2 = 34 ∧ zLC L (I 8 7) (I 8 8) (I 9) (I 10) (I 11) (I 12) (I 13) (I 14)) ∨
   (s.2.2.1 = 34 ∧ s.2.2.2 = 8 ∧ zLC L (I 34 7) (I 34 8) (I 35) (I 36) (I 37) (I 38) (I 39) (I 40)))
/-- what the class writes when it reckons a price -/
def zCs (I J : Nat → Nat → Int32) : Prop := (∀ r, r ≠ 7 → r ≠ 8 → r ≠ 34 → r ≠ 15 → r ≠ 41 → J r = I r) ∧ ∀ j, j ≠ 10 → J 8 j = I 8 j ∧ J 34 j = I 34 j
theorem zCs_rfl (I : Nat → Nat → Int32) : zCs I I := ⟨fun _ _ _ _ _ _ => rfl, fun _ _ => ⟨rfl, rfl⟩⟩
theorem zCs_tr {I J K : Nat → Nat → Int32} (h : zCs I J) (g : zCs J K) : zCs I K :=
  ⟨fun r a b c d e => (g.1 r a b c d e).trans (h.1 r a b c d e), fun j hj => ⟨(g.2 j hj).1.trans (h.2 j hj).1, (g.2 j hj).2.trans (h.2 j hj).2⟩⟩
theorem zLaw_Cs {L : zLw} {s : zQs} {I J : Nat → Nat → Int32} (h : zLaw L s I) (g : zCs I J) : zLaw L s J := by
  obtain ⟨h1, h2, h3⟩ := h
  obtain ⟨g1, g2⟩ := g
  refine ⟨h1, ?_, ?_⟩
  · rw [g1 58 (by decide) (by decide) (by decide) (by decide) (by decide), g1 70 (by decide) (by decide) (by decide) (by decide) (by decide), g1 71 (by decide) (by decide) (by decide) (by decide) (by decide), g1 72 (by decide) (by decide) (by decide) (by decide) (by decide), g1 73 (by decide) (by decide) (by decide) (by decide) (by decide), g1 74 (by decide) (by decide) (by decide) (by decide) (by decide)]
    exact h2
  · rcases h3 with ⟨a, b, c⟩ | ⟨a, b, c⟩
    · refine Or.inl ⟨a, b, ?_⟩
      rw [(g2 7 (by decide)).1, (g2 8 (by decide)).1, g1 9 (by decide) (by decide) (by decide) (by decide) (by decide), g1 10 (by decide) (by decide) (by decide) (by decide) (by decide), g1 11 (by decide) (by decide) (by decide) (by decide) (by decide), g1 12 (by decide) (by decide) (by decide) (by decide) (by decide), g1 13 (by decide) (by decide) (by decide) (by decide) (by decide), g1 14 (by decide) (by decide) (by decide) (by decide) (by decide)]
      exact c
    · refine Or.inr ⟨a, b, ?_⟩
      rw [(g2 7 (by decide)).2, (g2 8 (by decide)).2, g1 35 (by decide) (by decide) (by decide) (by decide) (by decide), g1 36 (by decide) (by decide) (by decide) (by decide) (by decide), g1 37 (by decide) (by decide) (by decide) (by decide) (by decide), g1 38 (by decide) (by decide) (by decide) (by decide) (by decide), g1 39 (by decide) (by decide) (by decide) (by decide) (by decide), g1 40 (by decide) (by decide) (by decide) (by decide) (by decide)]
      exact c
theorem zf38 (s : zQs) {L : zLw} {I : Nat → Nat → Int32} (hL : zLaw L s I) {fx : Nat → Int32} (hup : ¬ fx 0 < 0) (hx : ∀ i, i < 9 → I 7 i = fx i) :
    za (zMk (s, I)) s.2.2.1 2 = true ∧ ∃ J, zf_38 [.ref s.2.2.1, .ref 7] (zMk (s, I)) = some (.int (zpk (zprice L fx)), zMk (s, J)) ∧ zCs I J := by
  obtain ⟨h1, h2, h3⟩ := hL
  rcases h3 with ⟨a, b, c⟩ | ⟨a, b, c⟩
  · rw [a]
    refine ⟨rfl, ?_⟩
    obtain ⟨J, e, j1, j2⟩ := zf38_8 s h1 hup c hx
    exact ⟨J, e, fun r _ r8 r34 r15 r41 => j1 r r8 r15, fun j hj => ⟨j2 j hj, by rw [j1 34 (by decide) (by decide)]⟩⟩
  · rw [a]
    refine ⟨rfl, ?_⟩
    obtain ⟨J, e, j1, j2⟩ := zf38_34 s h1 hup c hx
    exact ⟨J, e, fun r _ r8 r34 r15 r41 => j1 r r34 r41, fun j hj => ⟨by rw [j1 8 (by decide) (by decide)], j2 j hj⟩⟩
theorem zsub_i {x y : Nat} (hx : x ≤ 200) (hy : y ≤ 200) : (nI x - nI y).toInt = (x : Int) - (y : Int) := by
  rw [Int32.toInt_sub, nI_toInt (show x < 2 ^ 31 by omega), nI_toInt (show y < 2 ^ 31 by omega), Int.bmod_eq_of_le (by omega) (by omega)]
theorem zdif {x y : Nat} (hx : x ≤ 200) (hy : y ≤ 200) : (if (0 : Int32) < nI x - nI y then nI x - nI y else (0 : Int32)) = nI (x - y) := by
  by_cases h : y ≤ x
  · rw [nI_sub h]
    split
    · rfl
    · rename_i h0
      rw [show x - y = 0 from Classical.byContradiction fun q => h0 (show nI 0 < nI (x - y) from nI_lt (by omega) (by omega))]
      rfl
  · rw [if_neg, show x - y = 0 by omega]
    · rfl
    · rw [Int32.lt_iff_toInt_lt, zsub_i hx hy]
      have : (0 : Int32).toInt = 0 := rfl
      omega
/-- the letters of a going from a to b of this sort, stair and load -/
def zls (st : zSt) (a b so n l : Nat) : Nat → Int32 := fun i => if i = 0 then nI (st.ht b - st.ht a) else if i = 1 then nI (st.ht a - st.ht b) else if i = 2 then nI so else if i = 3 then nI l else if i = 4 then nI st.W else if i = 5 then nI a else if i = 6 then nI b else if i = 7 then nI n else nI (st.ht a)
theorem zls_up {st : zSt} {a b so n l : Nat} (h : st.ht b ≤ 200) : ¬ zls st a b so n l 0 < 0 ∧ zi (zls st a b so n l 0) ≤ 9999 := by
  have e : zls st a b so n l 0 = nI (st.ht b - st.ht a) := rfl
  rw [e, zi_nI (by omega)]
  exact ⟨nI_pos (by omega), by omega⟩
def zcost (L : zLw) (st : zSt) (a b so n l : Nat) : Option Nat := zprice L (zls st a b so n l)
/-- a going along a stair -/
def zgo (L : zLw) (st : zSt) (n : Nat) (back : Bool) (l : Nat) : Option Nat :=
  if back = true then (if st.so n = 1 then none else zcost L st (st.sb n) (st.sa n) (st.so n) n l) else zcost L st (st.sa n) (st.sb n) (st.so n) n l
theorem i9 {p : Nat → Prop} (h0 : p 0) (h1 : p 1) (h2 : p 2) (h3 : p 3) (h4 : p 4) (h5 : p 5) (h6 : p 6) (h7 : p 7) (h8 : p 8) : ∀ i, i < 9 → p i := by
  intro i hi
  have hc : i = 0 ∨ i = 1 ∨ i = 2 ∨ i = 3 ∨ i = 4 ∨ i = 5 ∨ i = 6 ∨ i = 7 ∨ i = 8 := by omega
  rcases hc with rfl | rfl | rfl | rfl | rfl | rfl | rfl | rfl | rfl <;> assumption
/-- the class puts the letters -/
theorem zletrs (s : zQs) {st : zSt} {I : Nat → Nat → Int32} (ht : ∀ j, j < st.P → st.ht j ≤ 200 ∧ I 2 j = nI (st.ht j)) (hP : st.P ≤ 20) (hW : I 1 7 = nI st.W) {a b : Nat} (ha : a < st.P) (hb : b < st.P) (so n l : Nat) :
    ∃ J1 J, zf_117 [.ref 1, .int (nI a), .int (nI b)] (zMk (s, I)) = some (.long 0, zMk (s, J1)) ∧ zf_118 [.ref 1, .int (nI so), .int (nI n), .int (nI l)] (zMk (s, J1)) = some (.long 0, zMk (s, J)) ∧ (∀ r, r ≠ 7 → J1 r = I r) ∧ (∀ r, r ≠ 7 → J r = I r) ∧ ∀ i, i < 9 → J 7 i = zls st a b so n l i := by
  have ya := zb_t (show a < 20 by omega) (show a < 2 ^ 31 by omega)
  have yb := zb_t (show b < 20 by omega) (show b < 2 ^ 31 by omega)
  have ca : (nI a).toNatClampNeg = a := nI_clamp (by omega)
  have cb : (nI b).toNatClampNeg = b := nI_clamp (by omega)
  obtain ⟨a1, a2⟩ := ht a ha
  obtain ⟨b1, b2⟩ := ht b hb
  have e1 := zl_117 s I (nI a) (nI b)
  rw [if_pos yb, if_pos ya, if_pos ya, if_pos yb, if_pos ya] at e1
  refine ⟨_, _, e1, zl_118 s _ _ _ _, ?_, ?_, ?_⟩
  · intro r hr
    simp only [zwA_n hr]
  · intro r hr
    simp only [zwA_n hr]
  · simp only [zwA_zwA]
    apply i9 <;> simp [zwA_at, upd_at, zls, ca, cb, a2, b2, hW, zdif a1 b1, zdif b1 a1]
theorem zalong (s : zQs) {L : zLw} {st : zSt} {I : Nat → Nat → Int32} (hL : zLaw L s I) (ht : ∀ j, j < st.P → st.ht j ≤ 200 ∧ I 2 j = nI (st.ht j)) (hP : st.P ≤ 20) (hW : I 1 7 = nI st.W) {n l : Nat} (hn : n < 40) (h4 : I 4 n = nI (st.sa n)) (h5 : I 5 n = nI (st.sb n)) (h6 : I 6 n = nI (st.so n)) (ha : st.sa n < st.P) (hb : st.sb n < st.P) (ho : st.so n ≤ 2) (back : Bool) :
    ∃ J, zf_115 [.ref 1, .int (nI n), .int (if back = true then 1 else 0), .int (nI l)] (zMk (s, I)) = some (.int (zpk (zgo L st n back l)), zMk (s, J)) ∧ zCs I J := by
  have zn := zb_t hn (show n < 2 ^ 31 by omega)
  have cn : (nI n).toNatClampNeg = n := nI_clamp (by omega)
  have main : ∀ (a b : Nat) (x2 : Int32), a < st.P → b < st.P → ∃ J1 J, zf_117 [.ref 1, .int (nI a), .int (nI b)] (zMk (s, I)) = some (.long 0, zMk (s, J1)) ∧ zQ_115 (34, [.ref 1, .int (nI n), .int x2, .int (nI l)], [], zMk (s, J1)) = some (.int (zpk (zcost L st a b (st.so n) n l)), zMk (s, J)) ∧ zCs I J := by
    intro a b x2 ha hb
    obtain ⟨J1, J, e1, e2, i1, i2, i3⟩ := zletrs s ht hP hW ha hb (st.so n) n l
    have c1 : zCs I J := ⟨fun r r7 _ _ _ _ => i2 r r7, fun j _ => ⟨by rw [i2 8 (by decide)], by rw [i2 34 (by decide)]⟩⟩
    obtain ⟨k1, K, e3, c2⟩ := zf38 s (zLaw_Cs hL c1) (zls_up (n := n) (l := l) (so := st.so n) (a := a) (ht b hb).1).1 i3
    refine ⟨J1, K, e1, ?_, zCs_tr c1 c2⟩
    rw [zq_115_34, if_pos zn, cn, i1 6 (by decide), h6, e2, zcV_some, zq_115_42, if_pos k1, e3, zcI_some, zq_115_47]
    rfl
  rw [zqz_115, zq_115_0]
  cases back with
  | false =>
    obtain ⟨J1, J, e1, e2, c⟩ := main (st.sa n) (st.sb n) 0 ha hb
    refine ⟨J, ?_, c⟩
    rw [if_neg (show ¬ (false = true) by decide), if_pos rfl, if_pos rfl, if_pos zn, zq_115_22, if_pos rfl, if_pos zn, cn, h4, h5, e1, zcV_some, e2]
    rfl
  | true =>
    rw [if_pos (show true = true from rfl), if_neg (show ¬ (1 : Int32) = 0 by decide), if_pos zn, cn, h6]
    by_cases h1 : st.so n = 1
    · rw [if_neg (not_not_intro (show nI (st.so n) = 1 by rw [h1]; rfl))]
      refine ⟨I, ?_, zCs_rfl I⟩
      rw [show zgo L st n true l = none from (if_pos rfl).trans (if_pos h1)]
      rfl
    · obtain ⟨J1, J, e1, e2, c⟩ := main (st.sb n) (st.sa n) 1 hb ha
      refine ⟨J, ?_, c⟩
      rw [if_pos (show ¬ nI (st.so n) = 1 from nI_ne (b := 1) h1 (by omega) (by decide)), if_neg (show ¬ (1 : Int32) = 0 by decide), if_pos zn, zq_115_22, if_neg (show ¬ (1 : Int32) = 0 by decide), if_pos zn, cn, h4, h5, e1, zcV_some, e2, show zgo L st n true l = zcost L st (st.sb n) (st.sa n) (st.so n) n l from (if_pos rfl).trans (if_neg h1)]
theorem zalongn (s : zQs) {L : zLw} {st : zSt} {I : Nat → Nat → Int32} (hL : zLaw L s I) (ht : ∀ j, j < st.P → st.ht j ≤ 200 ∧ I 2 j = nI (st.ht j)) (hP : st.P ≤ 20) (hW : I 1 7 = nI st.W) (hS : I 1 11 = nI st.S) {a b so : Nat} (ha : a < st.P) (hb : b < st.P) :
    ∃ J, zf_116 [.ref 1, .int (nI a), .int (nI b), .int (nI so)] (zMk (s, I)) = some (.int (zpk (zcost L st a b so st.S 0)), zMk (s, J)) ∧ zCs I J := by
  obtain ⟨J1, J, e1, e2, i1, i2, i3⟩ := zletrs s ht hP hW ha hb so st.S 0
  have c1 : zCs I J := ⟨fun r r7 _ _ _ _ => i2 r r7, fun j _ => ⟨by rw [i2 8 (by decide)], by rw [i2 34 (by decide)]⟩⟩
  obtain ⟨k1, K, e3, c2⟩ := zf38 s (zLaw_Cs hL c1) (zls_up (n := st.S) (l := 0) (so := so) (a := a) (ht b hb).1).1 i3
  refine ⟨K, ?_, zCs_tr c1 c2⟩
  have e2 : zf_118 [.ref 1, .int (nI so), .int (nI st.S), .int 0] (zMk (s, J1)) = some (.long 0, zMk (s, J)) := e2
  rw [zqz_116, zq_116_0, e1, zcV_some, zq_116_4, i1 1 (by decide), hS, e2, zcV_some, zq_116_10, if_pos k1, e3, zcI_some, zq_116_15]
  rfl
/-- the reference's going -/
theorem zgoes (s : zQs) {L : zLw} {st : zSt} {I : Nat → Nat → Int32} (hw : zwf L) (hR : zLR L (I 58 18) (I 70) (I 71) (I 72) (I 73) (I 74)) (ht : ∀ j, j < st.P → st.ht j ≤ 200 ∧ I 59 j = nI (st.ht j)) (hP : st.P ≤ 20) (hW : I 58 2 = nI st.W) {n l : Nat} (hn : n < 40) (h4 : I 60 n = nI (st.sa n)) (h5 : I 61 n = nI (st.sb n)) (h6 : I 62 n = nI (st.so n)) (ha : st.sa n < st.P) (hb : st.sb n < st.P) (ho : st.so n ≤ 2) (back : Bool) :
    ∃ J, zf_213 [.ref 58, .int (nI n), .int (if back = true then 1 else 0), .int (nI l)] (zMk (s, I)) = some (.int (zpf (zgo L st n back l)), zMk (s, J)) ∧ ∀ r, r ≠ 75 → r ≠ 76 → J r = I r := by
  have zn := zb_t hn (show n < 2 ^ 31 by omega)
  have cn : (nI n).toNatClampNeg = n := nI_clamp (by omega)
  have main : ∀ (a b : Nat) (x2 : Int32), a < st.P → b < st.P → ∃ J, zQ_213 (33, [.ref 58, .int (nI n), .int x2, .int (nI l), .int (nI a), .long 0, .long 0, .long 0, .long 0, .long 0], [.int (nI b)], zMk (s, I)) = some (.int (zpf (zcost L st a b (st.so n) n l)), zMk (s, J)) ∧ ∀ r, r ≠ 75 → r ≠ 76 → J r = I r := by
    intro a b x2 ha hb
    have ya := zb_t (show a < 20 by omega) (show a < 2 ^ 31 by omega)
    have yb := zb_t (show b < 20 by omega) (show b < 2 ^ 31 by omega)
    have ca : (nI a).toNatClampNeg = a := nI_clamp (by omega)
    have cb : (nI b).toNatClampNeg = b := nI_clamp (by omega)
    obtain ⟨a1, a2⟩ := ht a ha
    obtain ⟨b1, b2⟩ := ht b hb
    have fin : ∀ (x6 y0 v : Int32), y0 = nI (st.ht a - st.ht b) → v = nI (st.ht b - st.ht a) → ∃ J, zQ_213 (62, [.ref 58, .int (nI n), .int x2, .int (nI l), .int (nI a), .int (nI b), .int x6, .long 0, .long 0, .long 0], [.int y0, .int 1, .ref 76], zMk (s, zwA I 76 (upd (I 76) 0 v))) = some (.int (zpf (zcost L st a b (st.so n) n l)), zMk (s, J)) ∧ ∀ r, r ≠ 75 → r ≠ 76 → J r = I r := by
      intro x6 y0 v hy hv
      rw [zq_213_62, if_pos (show zb (1 : Int32) 9 = true by decide), if_pos zn, if_pos ya]
      simp only [zwA_zwA]
      have gen : ∀ K : Nat → Nat → Int32, (∀ r, r ≠ 76 → K r = I r) → (∀ i, i < 9 → K 76 i = zls st a b (st.so n) n l i) → ∃ J, zQ_213 (109, [.ref 58, .int (nI n), .int x2, .int (nI l), .int (nI a), .int (nI b), .int x6, .int (-1), .int 0, .long 0], [], zMk (s, K)) = some (.int (zpf (zcost L st a b (st.so n) n l)), zMk (s, J)) ∧ ∀ r, r ≠ 75 → r ≠ 76 → J r = I r := by
        intro K k1 k2
        obtain ⟨J, e, j1⟩ := zlp213 s hw (zls_up (n := n) (l := l) (so := st.so n) (a := a) (ht b hb).1).1 (nI n) x2 (nI l) (nI a) (nI b) x6 L.n 0 none K (.long 0) (Nat.zero_add _) (fun _ h => by cases h)
          (by rw [k1 58 (by decide), k1 70 (by decide), k1 71 (by decide), k1 72 (by decide), k1 73 (by decide), k1 74 (by decide)]; exact hR) k2
        exact ⟨J, e, fun r r5 r6 => (j1 r r5).trans (k1 r r6)⟩
      exact gen _ (fun r hr => zwA_n hr) (by apply i9 <;> simp [zwA_at, upd_at, zls, ca, cn, a2, h6, hW, hy, hv])
    have hd := zsub_i b1 a1
    have h0 : (0 : Int32).toInt = 0 := rfl
    rw [zq_213_33, if_pos yb, if_pos ya, ca, cb, a2, b2]
    rcases Nat.lt_trichotomy (st.ht a) (st.ht b) with h | h | h
    · rw [if_neg (show ¬ nI (st.ht b) - nI (st.ht a) ≤ 0 by rw [Int32.le_iff_toInt_le, hd, h0]; omega), if_pos (show 0 ≤ nI (st.ht b) - nI (st.ht a) by rw [Int32.le_iff_toInt_le, hd, h0]; omega)]
      exact fin _ 0 _ (by rw [show st.ht a - st.ht b = 0 by omega]; rfl) (nI_sub (by omega))
    · rw [if_pos (show nI (st.ht b) - nI (st.ht a) ≤ 0 by rw [Int32.le_iff_toInt_le, hd, h0]; omega), if_pos (show 0 ≤ nI (st.ht b) - nI (st.ht a) by rw [Int32.le_iff_toInt_le, hd, h0]; omega)]
      exact fin _ 0 0 (by rw [show st.ht a - st.ht b = 0 by omega]; rfl) (by rw [show st.ht b - st.ht a = 0 by omega]; rfl)
    · rw [if_pos (show nI (st.ht b) - nI (st.ht a) ≤ 0 by rw [Int32.le_iff_toInt_le, hd, h0]; omega), if_neg (show ¬ 0 ≤ nI (st.ht b) - nI (st.ht a) by rw [Int32.le_iff_toInt_le, hd, h0]; omega)]
      exact fin _ _ 0 (by rw [Int32.neg_sub]; exact nI_sub (by omega)) (by rw [show st.ht b - st.ht a = 0 by omega]; rfl)
  rw [zqz_213, zq_213_0]
  cases back with
  | false =>
    rw [if_neg (show ¬ (false = true) by decide), if_pos rfl, zq_213_10, if_pos rfl, if_pos zn, if_pos rfl, if_pos zn, cn, h4, h5]
    exact main (st.sa n) (st.sb n) 0 ha hb
  | true =>
    rw [if_pos (show true = true from rfl), if_neg (show ¬ (1 : Int32) = 0 by decide), if_pos zn, cn, h6]
    by_cases h1 : st.so n = 1
    · rw [if_neg (not_not_intro (show nI (st.so n) = 1 by rw [h1]; rfl))]
      refine ⟨I, ?_, fun _ _ _ => rfl⟩
      rw [show zgo L st n true l = none from (if_pos rfl).trans (if_pos h1)]
      rfl
    · rw [if_pos (show ¬ nI (st.so n) = 1 from nI_ne (b := 1) h1 (by omega) (by decide)), zq_213_10, if_neg (show ¬ (1 : Int32) = 0 by decide), if_pos zn, if_neg (show ¬ (1 : Int32) = 0 by decide), if_pos zn, cn, h4, h5, show zgo L st n true l = zcost L st (st.sb n) (st.sa n) (st.so n) n l from (if_pos rfl).trans (if_neg h1)]
      exact main (st.sb n) (st.sa n) 1 hb ha
