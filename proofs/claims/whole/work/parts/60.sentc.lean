/-! WHO BRINGS WHAT: THE CLASS -/
/-- what a thing takes by a person -/
def zBr (L : zLw) (st : zSt) (i p : Nat) : Option Int := match zown L st p, zabt L st p i with
  | some o, some r => some ((r : Int) - (o : Int))
  | _, _ => none
theorem ztks_B (L : zLw) (st : zSt) (p i : Nat) (far : Int32) : ztks L st p i far = match zBr L st i p with
    | some b => iI b
    | none => far := by
  unfold ztks zBr
  cases zown L st p with
  | none => rfl
  | some o =>
    cases zabt L st p i with
    | none => rfl
    | some r =>
      show nI r - nI o = iI ((r : Int) - (o : Int))
      rw [iI_nat, iI_nat, iI_sub]
theorem zBr_bd {L : zLw} {st : zSt} (hs : zsmall L st) (hP : st.P ≤ 20) {i p : Nat} (h1 : st.pf p < st.P) (h2 : st.pt p < st.P) (h3 : st.tf i < st.P) (h4 : st.tt i < st.P) {b : Int} (h : zBr L st i p = some b) : -569943 ≤ b ∧ b ≤ 569943 := by
  unfold zBr at h
  cases ho : zown L st p with
  | none => rw [ho] at h; cases h
  | some o =>
    cases hr : zabt L st p i with
    | none => rw [ho, hr] at h; cases h
    | some r =>
      rw [ho, hr] at h
      have lo := zown_le hs hP h1 h2 ho
      have lr := zabt_le hs hP h1 h2 h3 h4 hr
      have h : (r : Int) - (o : Int) = b := Option.some.inj h
      omega
/-- what a thing takes; none of strangers and of things that aren't to be sent -/
def zBx (L : zLw) (st : zSt) (X i p : Nat) : Option Int := if p < st.Q ∧ i < 8 ∧ X.testBit i = true then zBr L st i p else none
theorem zBx_bd {L : zLw} {st : zSt} {I : Nat → Nat → Int32} (h : RepW st I) {X : Nat} (hX : zTl0 st X) : ∀ i p b, zBx L st X i p = some b → -569943 ≤ b ∧ b ≤ 569943 := by
  intro i p b hb
  unfold zBx at hb
  split at hb
  · rename_i hc
    obtain ⟨f1, f2, f3, fj⟩ := h.2.2.2.2.2.1
    obtain ⟨-, -, -, hth⟩ := h.2.2.2.2.2.2.1
    have hf := fj p hc.1
    have ht := hth i hc.2.1 (hX.2 i hc.2.1 hc.2.2)
    exact zBr_bd (zEv_small (L := L) (s := (0, fun _ => none, 0, 0)) h) (zEv_P h) hf.1 hf.2.1 ht.1 ht.2.1 hb
  · cases hb
theorem zBx_in {L : zLw} {st : zSt} {X i p : Nat} (hp : p < st.Q) (hi : i < 8) (hb : X.testBit i = true) : zBx L st X i p = zBr L st i p := if_pos ⟨hp, hi, hb⟩
/-- a row of bringings, a plan -/
def zR27 (L : zLw) (st : zSt) (X : Nat) (I : Nat → Nat → Int32) (i : Nat) : Prop := ∀ p, p < st.Q → I 27 (i * 8 + p) = ztks L st p i (-1000000)
def zR28 (L : zLw) (st : zSt) (X : Nat) (I : Nat → Nat → Int32) (d : Nat) : Prop := ∀ t, t < 2 ^ st.Q → I 28 ((8 - d) * 256 + t) = zVc (zsv (zBx L st X) st.Q X d t)
theorem zq_256 {q : Nat} (h : q ≤ 8) : 2 ^ q ≤ 256 := by
  have := Nat.pow_le_pow_right (show 0 < 2 by decide) h
  exact this
theorem zf25n {L : zLw} {st : zSt} {s : zQs} {I : Nat → Nat → Int32} {X d t : Nat} (hQ : st.Q ≤ 8) (hd : d < 8) (h28 : zR28 L st X I d) (ht : t < 2 ^ st.Q) : zf_25 [.ref 20, .int (nI (7 - d)), .int (nI t), .int 8] (zMk (s, I)) = some (.int (zVc (zsv (zBx L st X) st.Q X d t)), zMk (s, I)) := by
  have hq := zq_256 hQ
  have e : (nI (7 - d) + 1) * 256 + nI t = nI ((8 - d) * 256 + t) := by rw [nI_1, show nI (7 - d + 1) * 256 = nI ((7 - d + 1) * 256) from nI_mul _ 256, nI_add, show 7 - d + 1 = 8 - d by omega]
  rw [zl_25, if_neg (not_not_intro rfl), e, if_pos (zb_t (show (8 - d) * 256 + t < 2304 by omega) (by omega)), nI_clamp (show (8 - d) * 256 + t < 2 ^ 31 by omega), h28 t ht]
theorem zf25p {L : zLw} {st : zSt} {s : zQs} {I : Nat → Nat → Int32} {X d t p : Nat} (hQ : st.Q ≤ 8) (hd : d < 8) (h27 : zR27 L st X I (7 - d)) (h28 : zR28 L st X I d) (ht : t < 2 ^ st.Q) (hp : p < st.Q) (hb : X.testBit (7 - d) = true) (htp : t.testBit p = false) {b : Int} (hB : zBr L st (7 - d) p = some b) :
    ∃ v, zso (zBx L st X (7 - d)) (zsv (zBx L st X) st.Q X d) t p = some v ∧ zf_25 [.ref 20, .int (nI (7 - d)), .int (nI t), .int (nI p)] (zMk (s, I)) = some (.int (zVc v), zMk (s, I)) := by
  have hq := zq_256 hQ
  have h2 : t ||| 2 ^ p < 2 ^ st.Q := Nat.or_lt_two_pow ht (Nat.pow_lt_pow_right (by decide) hp)
  refine ⟨((zsv (zBx L st X) st.Q X d (t ||| 2 ^ p)).1 + 1, (zsv (zBx L st X) st.Q X d (t ||| 2 ^ p)).2 + b), ?_, ?_⟩
  · unfold zso
    rw [if_neg (by rw [htp]; decide), zBx_in hp (by omega) hb, hB]
  · have e1 : nI (7 - d) * 8 + nI p = nI ((7 - d) * 8 + p) := by rw [show nI (7 - d) * 8 = nI ((7 - d) * 8) from nI_mul _ 8, nI_add]
    have e2 : (nI (7 - d) + 1) * 256 + nI (t ||| 2 ^ p) = nI ((8 - d) * 256 + (t ||| 2 ^ p)) := by rw [nI_1, show nI (7 - d + 1) * 256 = nI ((7 - d + 1) * 256) from nI_mul _ 256, nI_add, show 7 - d + 1 = 8 - d by omega]
    rw [zl_25, if_pos (show ¬ nI p = 8 from nI_ne (b := 8) (by omega) (by omega) (by decide)), nI_or t (by omega) p (by omega), e1, e2, if_pos (zb_t (show (7 - d) * 8 + p < 64 by omega) (by omega)), if_pos (zb_t (show (8 - d) * 256 + (t ||| 2 ^ p) < 2304 by omega) (by omega)), nI_clamp (show (7 - d) * 8 + p < 2 ^ 31 by omega), nI_clamp (show (8 - d) * 256 + (t ||| 2 ^ p) < 2 ^ 31 by omega), h27 p hp, h28 _ h2, ztks_B, hB]
    show some (Value.int (iI b - 10000000 + zVc _), _) = some (Value.int (zVc _), _)
    unfold zVc
    rw [show (10000000 : Int32) = iI 10000000 from rfl, iI_sub, iI_add]
    congr 3
    congr 1
    show b - 10000000 + ((zsv (zBx L st X) st.Q X d (t ||| 2 ^ p)).2 - 10000000 * ((zsv (zBx L st X) st.Q X d (t ||| 2 ^ p)).1 : Int)) = (zsv (zBx L st X) st.Q X d (t ||| 2 ^ p)).2 + b - 10000000 * (((zsv (zBx L st X) st.Q X d (t ||| 2 ^ p)).1 + 1 : Nat) : Int)
    omega
/-- how far the search is -/
def zb1 (q : Option (Nat × zkc)) : Nat := match q with
  | none => 8
  | some (p, _) => p
def zb2 (q : Option (Nat × zkc)) : Int32 := match q with
  | none => 100000000
  | some (_, v) => zVc v
theorem nI_m6 {b : Int} (h : -569943 ≤ b ∧ b ≤ 569943) : ¬ iI b = -1000000 := by
  have e : (-1000000 : Int32) = iI (-1000000) := by decide
  rw [e, iI_eq (by omega) (by omega) (by omega) (by omega)]
  omega
theorem zlp24 {L : zLw} {st : zSt} {s : zQs} {I : Nat → Nat → Int32} (hR : RepW st I) {X d t : Nat} (hX : zTl0 st X) (hd : d < 8) (h27 : zR27 L st X I (7 - d)) (h28 : zR28 L st X I d) (ht : t < 2 ^ st.Q) (hb : X.testBit (7 - d) = true) : ∀ m p (x6 : Value), p + m = st.Q →
    zQ_24 (6, [.ref 20, .int (nI (7 - d)), .int (nI t), .int (nI (zb1 (zbs (zso (zBx L st X (7 - d)) (zsv (zBx L st X) st.Q X d) t) p))), .int (zb2 (zbs (zso (zBx L st X (7 - d)) (zsv (zBx L st X) st.Q X d) t) p)), .int (nI p), x6], [], zMk (s, I)) = some (.int (nI (zpick (zso (zBx L st X (7 - d)) (zsv (zBx L st X) st.Q X d) t) st.Q (zsv (zBx L st X) st.Q X d t)).1), zMk (s, I)) := by
  obtain ⟨f1, f2, f3, fj⟩ := hR.2.2.2.2.2.1
  have hq := zq_256 f1
  have hB := zBx_bd (L := L) hR hX
  have hF := zsv_bd (B := zBx L st X) (Q := st.Q) (X := X) f1 hB d
  intro m
  induction m with
  | zero =>
    intro p x6 h
    have h : p = st.Q := by omega
    subst h
    rw [zq_24_6, f2, if_pos (nI_le (Nat.le_refl _) (by omega)), zf25n f1 hd h28 ht, zcI_some, zq_24_54]
    cases hz : zbs (zso (zBx L st X (7 - d)) (zsv (zBx L st X) st.Q X d) t) st.Q with
    | none =>
      rw [zpick_n hz, if_neg (show ¬ zb2 none ≤ zVc (zsv (zBx L st X) st.Q X d t) from zVc_far (d := d) (by omega) (hF t))]
      rfl
    | some r =>
      obtain ⟨q, v⟩ := r
      obtain ⟨z1, z2, z3, z4⟩ := zbs_p _ q v hz
      have hv := zso_bd (hB (7 - d)) hF z2
      rw [zpick_p hz]
      show (if zVc v ≤ zVc (zsv (zBx L st X) st.Q X d t) then some (Value.int (nI q), _) else _) = _
      have hle := zVc_le (d := d + 1) (e := d) (by omega) (by omega) hv (hF t)
      by_cases hc : zbt (zsv (zBx L st X) st.Q X d t) v = true
      · rw [if_pos hc, if_neg (by rw [hle]; exact fun q => q hc)]
        rfl
      · rw [if_neg hc, if_pos (by rw [hle]; exact hc)]
  | succ m ih =>
    intro p x6 h
    have hp : p < st.Q := by omega
    have e1 : nI (7 - d) * 8 + nI p = nI ((7 - d) * 8 + p) := by rw [show nI (7 - d) * 8 = nI ((7 - d) * 8) from nI_mul _ 8, nI_add]
    have same : zso (zBx L st X (7 - d)) (zsv (zBx L st X) st.Q X d) t p = none → zbs (zso (zBx L st X (7 - d)) (zsv (zBx L st X) st.Q X d) t) (p + 1) = zbs (zso (zBx L st X (7 - d)) (zsv (zBx L st X) st.Q X d) t) p := fun e => by rw [zbs_s, e]
    rw [zq_24_6, f2, if_neg (nI_ge hp (by omega)), bit_shr p (by omega) t (by omega)]
    cases htp : t.testBit p with
    | true =>
      have hn : zso (zBx L st X (7 - d)) (zsv (zBx L st X) st.Q X d) t p = none := if_pos htp
      have := ih (p + 1) (.int 0) (by omega)
      rw [same hn] at this
      rw [if_pos rfl, if_pos (show ¬ (1 : Int32) = 0 by decide), if_pos rfl, nI_1]
      exact this
    | false =>
      rw [if_neg (show ¬ (false = true) by decide), if_neg (not_not_intro rfl), e1, if_pos (zb_t (show (7 - d) * 8 + p < 64 by omega) (by omega)), nI_clamp (show (7 - d) * 8 + p < 2 ^ 31 by omega), h27 p hp, ztks_B]
      cases hBr : zBr L st (7 - d) p with
      | none =>
        have hn : zso (zBx L st X (7 - d)) (zsv (zBx L st X) st.Q X d) t p = none := by
          unfold zso
          rw [if_neg (by rw [htp]; decide), zBx_in hp (by omega) hb, hBr]
        have := ih (p + 1) (.int 0) (by omega)
        rw [same hn] at this
        rw [if_pos rfl, if_pos rfl, nI_1]
        exact this
      | some b =>
        have hbb := hB (7 - d) p b (by rw [zBx_in hp (by omega) hb]; exact hBr)
        obtain ⟨v, hv, e25⟩ := zf25p (s := s) f1 hd h27 h28 ht hp hb htp hBr
        have hvb := zso_bd (hB (7 - d)) hF hv
        rw [if_neg (show ¬ iI b = -1000000 from nI_m6 hbb), if_neg (show ¬ (1 : Int32) = 0 by decide), e25, zcI_some, zq_24_37]
        have hstep : zbs (zso (zBx L st X (7 - d)) (zsv (zBx L st X) st.Q X d) t) (p + 1) = match zbs (zso (zBx L st X (7 - d)) (zsv (zBx L st X) st.Q X d) t) p with
            | none => some (p, v)
            | some (i, w) => if zbt v w = true then some (p, v) else some (i, w) := by
          rw [zbs_s, hv]
          cases zbs (zso (zBx L st X (7 - d)) (zsv (zBx L st X) st.Q X d) t) p with
          | none => rfl
          | some r => rfl
        have nx := ih (p + 1) (.int 1) (by omega)
        rw [hstep] at nx
        cases hz : zbs (zso (zBx L st X (7 - d)) (zsv (zBx L st X) st.Q X d) t) p with
        | none =>
          rw [hz] at nx
          rw [if_neg (show ¬ zb2 none ≤ zVc v from zVc_far (d := d + 1) (by omega) hvb), e25, zcI_some, zq_24_44, nI_1]
          exact nx
        | some r =>
          obtain ⟨i, w⟩ := r
          obtain ⟨z1, z2, z3, z4⟩ := zbs_p _ i w hz
          have hwb := zso_bd (hB (7 - d)) hF z2
          rw [hz] at nx
          have hle := zVc_le (d := d + 1) (e := d + 1) (by omega) (by omega) hwb hvb
          by_cases hc : zbt v w = true
          · have nx : zQ_24 (6, [.ref 20, .int (nI (7 - d)), .int (nI t), .int (nI (zb1 (if zbt v w = true then some (p, v) else some (i, w)))), .int (zb2 (if zbt v w = true then some (p, v) else some (i, w))), .int (nI (p + 1)), .int 1], [], zMk (s, I)) = _ := nx
            rw [if_pos hc] at nx
            rw [if_neg (show ¬ zb2 (some (i, w)) ≤ zVc v by show ¬ zVc w ≤ zVc v; rw [hle]; exact fun q => q hc), e25, zcI_some, zq_24_44, nI_1]
            exact nx
          · have nx : zQ_24 (6, [.ref 20, .int (nI (7 - d)), .int (nI t), .int (nI (zb1 (if zbt v w = true then some (p, v) else some (i, w)))), .int (zb2 (if zbt v w = true then some (p, v) else some (i, w))), .int (nI (p + 1)), .int 1], [], zMk (s, I)) = _ := nx
            rw [if_neg hc] at nx
            rw [if_pos (show zb2 (some (i, w)) ≤ zVc v by show zVc w ≤ zVc v; rw [hle]; exact hc), nI_1]
            exact nx
theorem zf24 {L : zLw} {st : zSt} {s : zQs} {I : Nat → Nat → Int32} (hR : RepW st I) {X d t : Nat} (hX : zTl0 st X) (hd : d < 8) (h27 : zR27 L st X I (7 - d)) (h28 : zR28 L st X I d) (ht : t < 2 ^ st.Q) (hb : X.testBit (7 - d) = true) :
    zf_24 [.ref 20, .int (nI (7 - d)), .int (nI t)] (zMk (s, I)) = some (.int (nI (zsp (zBx L st X) st.Q X d t)), zMk (s, I)) := by
  rw [zqz_24, zq_24_0]
  have := zlp24 (s := s) hR hX hd h27 h28 ht hb st.Q 0 (.long 0) (Nat.zero_add _)
  unfold zsp
  rw [if_pos hb]
  exact this
theorem zso_inv {B : Nat → Option Int} {F : Nat → zkc} {t p : Nat} {v : zkc} (h : zso B F t p = some v) : t.testBit p = false ∧ ∃ b, B p = some b := by
  unfold zso at h
  split at h
  · cases h
  · rename_i htp
    cases hB : B p with
    | none => rw [hB] at h; cases h
    | some b =>
      refine ⟨?_, b, rfl⟩
      cases h : t.testBit p with
      | true => exact absurd h htp
      | false => rfl
theorem zsp_v {B : Nat → Nat → Option Int} {Q X d t : Nat} (hb : X.testBit (7 - d) = true) : zsv B Q X (d + 1) t = (zpick (zso (B (7 - d)) (zsv B Q X d) t) Q (zsv B Q X d t)).2 := by rw [zsv_s, if_pos hb]
/-- the plan's value at a pick, asked of the class once more -/
theorem zf25s {L : zLw} {st : zSt} {s : zQs} {I : Nat → Nat → Int32} (hR : RepW st I) {X d t : Nat} (hX : zTl0 st X) (hd : d < 8) (h27 : zR27 L st X I (7 - d)) (h28 : zR28 L st X I d) (ht : t < 2 ^ st.Q) (hb : X.testBit (7 - d) = true) :
    zf_25 [.ref 20, .int (nI (7 - d)), .int (nI t), .int (nI (zsp (zBx L st X) st.Q X d t))] (zMk (s, I)) = some (.int (zVc (zsv (zBx L st X) st.Q X (d + 1) t)), zMk (s, I)) := by
  obtain ⟨f1, f2, f3, fj⟩ := hR.2.2.2.2.2.1
  rw [zsp_v hb]
  unfold zsp
  rw [if_pos hb]
  rcases zpick_is (g := zso (zBx L st X (7 - d)) (zsv (zBx L st X) st.Q X d) t) f1 (nob := zsv (zBx L st X) st.Q X d t) with ⟨h1, h2, -⟩ | ⟨h1, h2, -⟩
  · rw [h1, h2]
    exact zf25n f1 hd h28 ht
  · obtain ⟨htp, b, hB'⟩ := zso_inv h2
    rw [zBx_in h1 (by omega) hb] at hB'
    obtain ⟨v, hv, e⟩ := zf25p (s := s) f1 hd h27 h28 ht h1 hb htp hB'
    rw [h2] at hv
    rw [Option.some.inj hv]
    exact e
