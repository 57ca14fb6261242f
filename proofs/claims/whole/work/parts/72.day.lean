/-! A DAY, AS A CALL -/
def zT47E (L : zLw) (st : zSt) (home : Nat) (I : Nat → Nat → Int32) : Prop := ∀ B e, B < 256 → B &&& st.E = B → e < 8 → I 47 (B * 8 + e) = nI (zC1 (zFd L st home B e))
theorem zlp87 {L : zLw} {st : zSt} {home X : Nat} {s : zQs} {I : Nat → Nat → Int32} (hh : home < st.P) (hE : zEv L st s I) (hF : zFx L st st.E s I) (hT : zT47E L st home I) (hX : X < 256) (hs : X &&& st.E = X) : ∀ d k (x6 : Value), k + d = 8 →
    zQ_87 (12, [.ref 42, .int (nI home), .int (nI X), .int (nI (zld st X)), .int (nI (zC1 (zmf (zcl L st home X) k))), .int (nI k), x6], [], zMk (s, I)) = some (.int (nI (zC1 (zmf (zcl L st home X) 8))), zMk (s, I))
  | 0, k, x6, h => by
    have h : k = 8 := by omega
    subst h
    rw [zq_87_12, if_pos (show (8 : Int32) ≤ nI 8 by decide)]
  | d + 1, k, x6, h => by
    have hk : k < 8 := by omega
    obtain ⟨g1, g2, g3, hee⟩ := hE.1.2.2.2.2.1
    have hsm := zEv_small (L := L) (s := s) hE.1
    have hP := zEv_P hE.1
    have hXE : zEs st st.E := ⟨g1, fun _ _ h => h⟩
    have hea := zEs_ea hE.1 hXE
    have hl := zld_le hE.1 (zEs_sub hXE hX hs)
    have ei : nI X * 8 + nI k = nI (X * 8 + k) := by rw [show nI X * 8 = nI (X * 8) from nI_mul _ 8, nI_add]
    have hzb : zb (nI (X * 8 + k)) 2048 := zb_t (show X * 8 + k < 2048 by omega) (by omega)
    have hc : (nI (X * 8 + k)).toNatClampNeg = X * 8 + k := nI_clamp (by omega)
    have hcl : ∀ j x, j < 8 → zcl L st home X j = some x → x ≤ 100000000 := fun j x hj hx => by
      obtain ⟨p, q, a, b, c⟩ := zsm_some hx
      have hbj : X.testBit j = true := by
        cases w : X.testBit j with
        | true => rfl
        | false => rw [zFd_no w] at a; cases a
      have := zFd_le hsm hP hea hh 256 X j p hX hX hs hj a
      have := zdc_le hsm hP (hea j hj (zset_b hs j hbj)) hh b
      omega
    have ho : ∀ x, zmf (zcl L st home X) k = some x → x ≤ 100000000 := fun x hx => by
      obtain ⟨j, hj, e⟩ := zmf_in k x hx
      exact hcl j x (by omega) e
    rw [zq_87_12, if_neg (show ¬ (8 : Int32) ≤ nI k from nI_ge (b := 8) hk (by decide)), ei, if_pos hzb, hc, hT X k hX hs hk]
    cases hu : zFd L st home X k with
    | none =>
      have nx := zlp87 hh hE hF hT hX hs d (k + 1) (.int (nI (zC1 none))) (by omega)
      have hn : zcl L st home X k = none := by unfold zcl; rw [hu]; rfl
      rw [zmf_s, hn, zmn_n] at nx
      rw [if_pos (show (100000000 : Int32) ≤ nI (zC1 none) by decide), nI_1]
      exact nx
    | some u =>
      have hbk : X.testBit k = true := by
        cases w : X.testBit k with
        | true => rfl
        | false => rw [zFd_no w] at hu; cases hu
      have hu2 := zFd_le hsm hP hea hh 256 X k u hX hX hs hk hu
      obtain ⟨q1, q2, q3, q4, -⟩ := hee k hk (zset_b hs k hbk)
      have e1 := zf121 hE (l := zld st X) (by omega) (hF X hX hs) q1 hh
      have nx := zlp87 hh hE hF hT hX hs d (k + 1) (.int (nI (zC1 (some u)))) (by omega)
      have hn : zcl L st home X k = zsm (some u) (zdc L st (zld st X) (st.ea k) home) := by unfold zcl; rw [hu]
      rw [zmf_s, hn] at nx
      have hz := zC1_mn (o := zmf (zcl L st home X) k) (k := zdc L st (zld st X) (st.ea k) home) (u := u) (by omega) ho (fun x hx => zdc_le hsm hP q1 hh hx)
      rw [if_neg (show ¬ (100000000 : Int32) ≤ nI (zC1 (some u)) from nI_ge (b := 100000000) (show u < 100000000 by omega) (by decide)), if_pos (zb_t hk (by omega)), nI_clamp (show k < 2 ^ 31 by omega), q4, e1, zcI_some, zq_87_38, nI_1, show zC1 (some u) = u from rfl, hz]
      exact nx
theorem zf87 {L : zLw} {st : zSt} {home X : Nat} {s : zQs} {I : Nat → Nat → Int32} (hh : home < st.P) (hE : zEv L st s I) (hF : zFx L st st.E s I) (hT : zT47E L st home I) (hX : X < 256) (h0 : X ≠ 0) (hs : X &&& st.E = X) :
    zf_87 [.ref 42, .int (nI home), .int (nI X)] (zMk (s, I)) = some (.int (nI (zC1 (zrs L st X home 0 home))), zMk (s, I)) := by
  have hXE : zEs st st.E := ⟨hE.1.2.2.2.2.1.1, fun _ _ h => h⟩
  rw [zqz_87, zq_87_0, if_pos (show ¬ nI X = 0 from nI_ne (b := 0) h0 (by omega) (by decide)), zf76 s hE.1 (zEs_sub hXE hX hs), zcI_some, zq_87_7, ← zcl_eq hX h0]
  exact zlp87 hh hE hF hT hX hs 8 0 (.long 0) rfl
/-- what a set is worth -/
def zwo (st : zSt) (A : Nat) : Nat := zsw st.eo A 8
theorem zwo_le {st : zSt} {I : Nat → Nat → Int32} (hR : RepW st I) {A : Nat} (hA : zEs st A) : zwo st A ≤ 7992 := by
  obtain ⟨-, -, -, he⟩ := hR.2.2.2.2.1
  exact zsw_le (B := 999) 8 (fun i hi hb => (he i hi (hA.2 i hi hb)).2.2.1)
theorem zlp75 (s : zQs) {st : zSt} {I : Nat → Nat → Int32} (hR : RepW st I) {A : Nat} (hA : zEs st A) : ∀ m i, i + m = 8 → zQ_75 (4, [.ref 42, .int (nI A), .int (nI (zsw st.eo A i)), .int (nI i)], [], zMk (s, I)) = some (.int (nI (zwo st A)), zMk (s, I))
  | 0, i, h => by
    have h : i = 8 := by omega
    subst h
    rw [zq_75_4, if_pos (show (8 : Int32) ≤ nI 8 by decide)]
    rfl
  | m + 1, i, h => by
    have hi : i < 8 := by omega
    have nx := zlp75 s hR hA m (i + 1) (by omega)
    rw [zsw_s] at nx
    rw [zq_75_4, if_neg (show ¬ (8 : Int32) ≤ nI i from nI_ge (b := 8) hi (by decide)), bit_shr i hi A hA.1, nI_1]
    by_cases hb : A.testBit i = true
    · obtain ⟨-, -, -, he⟩ := hR.2.2.2.2.1
      obtain ⟨e1, e2, e3, e4, e5, e6, -⟩ := he i hi (hA.2 i hi hb)
      rw [if_pos hb] at nx
      rw [if_pos hb, if_neg (show ¬ (1 : Int32) = 0 by decide), if_pos (zb_t hi (by omega)), nI_clamp (show i < 2 ^ 31 by omega), e6, nI_add]
      exact nx
    · rw [if_neg hb] at nx
      rw [if_neg hb, if_pos rfl]
      exact nx
theorem zf75 (s : zQs) {st : zSt} {I : Nat → Nat → Int32} (hR : RepW st I) {A : Nat} (hA : zEs st A) : zf_75 [.ref 42, .int (nI A)] (zMk (s, I)) = some (.int (nI (zwo st A)), zMk (s, I)) := by
  rw [zqz_75, zq_75_0]
  exact zlp75 s hR hA 8 0 rfl
theorem zlp234 (s : zQs) {st : zSt} {I : Nat → Nat → Int32} (hR : RepW st I) {A : Nat} (hA : zEs st A) : ∀ m i, i + m = 8 → zQ_234 (4, [.ref 58, .int (nI A), .int (nI (zsw st.eo A i)), .int (nI i)], [], zMk (s, I)) = some (.int (nI (zwo st A)), zMk (s, I))
  | 0, i, h => by
    have h : i = 8 := by omega
    subst h
    rw [zq_234_4, if_pos (show (8 : Int32) ≤ nI 8 by decide)]
    rfl
  | m + 1, i, h => by
    have hi : i < 8 := by omega
    have nx := zlp234 s hR hA m (i + 1) (by omega)
    rw [zsw_s] at nx
    rw [zq_234_4, if_neg (show ¬ (8 : Int32) ≤ nI i from nI_ge (b := 8) hi (by decide)), bit_shr i hi A hA.1, nI_1]
    by_cases hb : A.testBit i = true
    · obtain ⟨-, -, -, he⟩ := hR.2.2.2.2.1
      obtain ⟨e1, e2, e3, e4, e5, e6, e7, e8, e9⟩ := he i hi (hA.2 i hi hb)
      rw [if_pos hb] at nx
      rw [if_pos hb, if_neg (not_not_intro rfl), if_pos (zb_t hi (by omega)), nI_clamp (show i < 2 ^ 31 by omega), e9, nI_add]
      exact nx
    · rw [if_neg hb] at nx
      rw [if_neg hb, if_pos (show ¬ (0 : Int32) = 1 by decide), show nI (zsw st.eo A i) + 0 = nI (zsw st.eo A i + 0) from nI_add _ 0]
      exact nx
theorem zf234 (s : zQs) {st : zSt} {I : Nat → Nat → Int32} (hR : RepW st I) {A : Nat} (hA : zEs st A) : zf_234 [.ref 58, .int (nI A)] (zMk (s, I)) = some (.int (nI (zwo st A)), zMk (s, I)) := by
  rw [zqz_234, zq_234_0]
  exact zlp234 s hR hA 8 0 rfl
/-- the best set so far, and its cost -/
def zdy1 (L : zLw) (st : zSt) (home lim X : Nat) (q : Nat × Nat) : Nat × Nat :=
  if X &&& st.E = X then (match zrs L st X home 0 home with
    | none => q
    | some y => if y ≤ lim ∧ (zwo st q.1 < zwo st X ∨ (zwo st X = zwo st q.1 ∧ y < q.2)) then (X, y) else q) else q
def zdy (L : zLw) (st : zSt) (home lim : Nat) : Nat → Nat → Nat × Nat → Nat × Nat
  | 0, _, q => q
  | m + 1, X, q => zdy L st home lim m (X + 1) (zdy1 L st home lim X q)
theorem zdy_s (L : zLw) (st : zSt) (home lim m X : Nat) (q : Nat × Nat) : zdy L st home lim (m + 1) X q = zdy L st home lim m (X + 1) (zdy1 L st home lim X q) := rfl
theorem zdy1_big {L : zLw} {st : zSt} {home lim X : Nat} (h : st.E < X) (q : Nat × Nat) : zdy1 L st home lim X q = q := by
  unfold zdy1
  rw [if_neg]
  intro w
  have : X ≤ st.E := by rw [← w]; exact Nat.and_le_right
  omega
theorem zdy_big {L : zLw} {st : zSt} {home lim : Nat} : ∀ m X q, st.E < X → zdy L st home lim m X q = q
  | 0, _, _, _ => rfl
  | m + 1, X, q, h => by rw [zdy_s, zdy1_big h]; exact zdy_big m (X + 1) q (by omega)
theorem zdy_more {L : zLw} {st : zSt} {home lim : Nat} (k : Nat) : ∀ m X q, X + m = st.E + 1 → zdy L st home lim (m + k) X q = zdy L st home lim m X q
  | 0, X, q, h => by rw [Nat.zero_add]; exact zdy_big k X q (by omega)
  | m + 1, X, q, h => by
    rw [show m + 1 + k = m + k + 1 by omega, zdy_s, zdy_s]
    exact zdy_more k m (X + 1) _ (by omega)
def zdyI (L : zLw) (st : zSt) (home lim : Nat) (q : Nat × Nat) : Prop := (q.1 = 0 ∧ q.2 = 0) ∨ (q.1 ≠ 0 ∧ q.1 < 256 ∧ q.1 &&& st.E = q.1 ∧ q.2 ≤ lim ∧ zrs L st q.1 home 0 home = some q.2)
theorem zdyI_1 {L : zLw} {st : zSt} {home lim X : Nat} {q : Nat × Nat} (hX : X < 256) (h0 : X ≠ 0) (h : zdyI L st home lim q) : zdyI L st home lim (zdy1 L st home lim X q) := by
  unfold zdy1
  by_cases hs : X &&& st.E = X
  · rw [if_pos hs]
    cases hz : zrs L st X home 0 home with
    | none => exact h
    | some y =>
      show zdyI L st home lim (if y ≤ lim ∧ (zwo st q.1 < zwo st X ∨ (zwo st X = zwo st q.1 ∧ y < q.2)) then (X, y) else q)
      by_cases hc : y ≤ lim ∧ (zwo st q.1 < zwo st X ∨ (zwo st X = zwo st q.1 ∧ y < q.2))
      · rw [if_pos hc]
        exact Or.inr ⟨h0, hX, hs, hc.1, hz⟩
      · rw [if_neg hc]
        exact h
  · rw [if_neg hs]
    exact h
theorem zdyI_E {L : zLw} {st : zSt} {home lim : Nat} {q : Nat × Nat} (hE : st.E < 256) (hl : lim ≤ 99999) (h : zdyI L st home lim q) : zEs st q.1 ∧ q.2 ≤ 99999 := by
  rcases h with ⟨a, b⟩ | ⟨a, b, c, d, e⟩
  · rw [a, b]
    exact ⟨⟨by decide, fun i _ hb => by rw [Nat.zero_testBit] at hb; cases hb⟩, Nat.zero_le _⟩
  · exact ⟨⟨b, fun i _ hb => zset_b c i hb⟩, by omega⟩
theorem zlp88 {L : zLw} {st : zSt} {home lim : Nat} {s : zQs} {I : Nat → Nat → Int32} (hh : home < st.P) (hl : lim ≤ 99999) (hE : zEv L st s I) (hF : zFx L st st.E s I) (hT : zT47E L st home I) : ∀ m X (q : Nat × Nat) (x7 x8 x9 : Value), X + m = st.E + 1 → 0 < X → zdyI L st home lim q →
    zQ_88 (8, [.ref 42, .int (nI home), .int (nI lim), .int (nI q.1), .int (nI (zwo st q.1)), .int (nI q.2), .int (nI X), x7, x8, x9], [], zMk (s, I)) = some (.int (nI (zdy L st home lim m X q).1), zMk (s, I))
  | 0, X, q, x7, x8, x9, h, h0, hq => by
    obtain ⟨g1, g2, -⟩ := hE.1.2.2.2.2.1
    rw [zq_88_8, g2, if_pos (nI_lt (by omega) (by omega))]
    rfl
  | m + 1, X, q, x7, x8, x9, h, h0, hq => by
    obtain ⟨g1, g2, -⟩ := hE.1.2.2.2.2.1
    have hXE : zEs st st.E := ⟨g1, fun _ _ h => h⟩
    have hX : X < 256 := by omega
    obtain ⟨hqE, hq2⟩ := zdyI_E g1 hl hq
    have hqw := zwo_le hE.1 hqE
    have nx := fun x7 x8 x9 => zlp88 hh hl hE hF hT m (X + 1) (zdy1 L st home lim X q) x7 x8 x9 (by omega) (by omega) (zdyI_1 hX (by omega) hq)
    rw [zq_88_8, g2, if_neg (nI_nlt (by omega) (by omega)), zdy_s]
    by_cases hs : X &&& st.E = X
    · have hw := zwo_le hE.1 (zEs_sub hXE hX hs)
      rw [if_pos (show nI X &&& (nI st.E ^^^ (-1)) = 0 by rw [bit_sub _ g1 X hX]; exact hs), zf87 hh hE hF hT hX (by omega) hs, zcI_some, zq_88_24, zf75 s hE.1 (zEs_sub hXE hX hs), zcI_some, zq_88_28]
      cases hz : zrs L st X home 0 home with
      | none =>
        have e1 : zdy1 L st home lim X q = q := by unfold zdy1; rw [if_pos hs, hz]
        rw [e1] at nx
        have hlt : nI lim < nI (zC1 none) := nI_lt (show lim < 100000000 by omega) (by decide)
        by_cases c1 : zwo st q.1 < zwo st X
        · rw [if_pos (nI_lt c1 (by omega)), zq_88_41, if_pos hlt, nI_1, e1]
          exact nx _ _ _
        · rw [if_neg (nI_nlt (by omega) (by omega))]
          by_cases c2 : zwo st X = zwo st q.1
          · rw [if_neg (not_not_intro (by rw [c2]))]
            by_cases c3 : nI q.2 ≤ nI (zC1 none)
            · rw [if_pos c3, zq_88_41, if_pos hlt, nI_1, e1]
              exact nx _ _ _
            · rw [if_neg c3, zq_88_41, if_pos hlt, nI_1, e1]
              exact nx _ _ _
          · rw [if_pos (nI_ne c2 (by omega) (by omega)), zq_88_41, if_pos hlt, nI_1, e1]
            exact nx _ _ _
      | some y =>
        have hy := zrs_le (zEv_small (L := L) (s := s) hE.1) (zEv_P hE.1) (zEs_ea hE.1 (zEs_sub hXE hX hs)) hh hh hz
        have ez : zC1 (some y) = y := rfl
        have e1 : zdy1 L st home lim X q = if y ≤ lim ∧ (zwo st q.1 < zwo st X ∨ (zwo st X = zwo st q.1 ∧ y < q.2)) then (X, y) else q := by unfold zdy1; rw [if_pos hs, hz]
        rw [ez]
        have fin : ∀ b : Int32, (b = if (zwo st q.1 < zwo st X ∨ (zwo st X = zwo st q.1 ∧ y < q.2)) then 1 else 0) → zQ_88 (41, [.ref 42, .int (nI home), .int (nI lim), .int (nI q.1), .int (nI (zwo st q.1)), .int (nI q.2), .int (nI X), .int (nI y), .int (nI (zwo st X)), x9], [.int b], zMk (s, I)) = some (.int (nI (zdy L st home lim m (X + 1) (zdy1 L st home lim X q)).1), zMk (s, I)) := by
          intro b hb
          rw [zq_88_41, nI_1]
          by_cases c0 : y ≤ lim
          · rw [if_neg (nI_nlt c0 (by omega))]
            by_cases c1 : zwo st q.1 < zwo st X ∨ (zwo st X = zwo st q.1 ∧ y < q.2)
            · rw [if_pos c1] at hb
              rw [e1, if_pos ⟨c0, c1⟩] at nx
              rw [if_neg (by rw [hb]; decide), e1, if_pos ⟨c0, c1⟩]
              exact nx _ _ _
            · rw [if_neg c1] at hb
              rw [e1, if_neg (show ¬ (y ≤ lim ∧ (zwo st q.1 < zwo st X ∨ (zwo st X = zwo st q.1 ∧ y < q.2))) from fun w => c1 w.2)] at nx
              rw [if_pos hb, e1, if_neg (show ¬ (y ≤ lim ∧ (zwo st q.1 < zwo st X ∨ (zwo st X = zwo st q.1 ∧ y < q.2))) from fun w => c1 w.2)]
              exact nx _ _ _
          · rw [if_pos (show nI lim < nI y from nI_lt (by omega) (by omega)), e1, if_neg (show ¬ (y ≤ lim ∧ (zwo st q.1 < zwo st X ∨ (zwo st X = zwo st q.1 ∧ y < q.2))) from fun w => c0 w.1)]
            rw [e1, if_neg (show ¬ (y ≤ lim ∧ (zwo st q.1 < zwo st X ∨ (zwo st X = zwo st q.1 ∧ y < q.2))) from fun w => c0 w.1)] at nx
            exact nx _ _ _
        by_cases c1 : zwo st q.1 < zwo st X
        · rw [if_pos (nI_lt c1 (by omega))]
          exact fin 1 (by rw [if_pos (Or.inl c1)])
        · rw [if_neg (nI_nlt (by omega) (by omega))]
          by_cases c2 : zwo st X = zwo st q.1
          · rw [if_neg (not_not_intro (by rw [c2]))]
            by_cases c3 : q.2 ≤ y
            · rw [if_pos (nI_le c3 (by omega))]
              exact fin 0 (by rw [if_neg (fun w => w.elim (fun w => c1 w) (fun w => by omega))])
            · rw [if_neg (nI_ge (by omega) (by omega))]
              exact fin 1 (by rw [if_pos (Or.inr ⟨c2, by omega⟩)])
          · rw [if_pos (nI_ne c2 (by omega) (by omega))]
            exact fin 0 (by rw [if_neg (fun w => w.elim (fun w => c1 w) (fun w => c2 w.1))])
    · have e1 : zdy1 L st home lim X q = q := if_neg hs
      rw [e1] at nx
      rw [if_neg (show ¬ (nI X &&& (nI st.E ^^^ (-1)) = 0) by rw [bit_sub _ g1 X hX]; exact hs), nI_1, e1]
      exact nx _ _ _
theorem zlp235 {L : zLw} {st : zSt} {home lim : Nat} {s : zQs} (x3 : Int32) (hh : home < st.P) (hl : lim ≤ 99999) : ∀ m X (q : Nat × Nat) (I : Nat → Nat → Int32) (x7 : Value), X + m = 256 → 0 < X → zdyI L st home lim q → zRe L st s I →
    ∃ J x7', zQ_235 (24, [.ref 58, .int (nI home), .int (nI lim), .int x3, .int (nI q.1), .int (nI q.2), .int (nI X), x7], [], zMk (s, I)) = zQ_235 (24, [.ref 58, .int (nI home), .int (nI lim), .int x3, .int (nI (zdy L st home lim m X q).1), .int (nI (zdy L st home lim m X q).2), .int (nI 256), x7'], [], zMk (s, J)) ∧ zScr I J ∧ zRe L st s J ∧ zdyI L st home lim (zdy L st home lim m X q)
  | 0, X, q, I, x7, h, h0, hq, hE => by
    have h : X = 256 := by omega
    subst h
    exact ⟨I, x7, rfl, zScr_rfl I, hE, hq⟩
  | m + 1, X, q, I, x7, h, h0, hq, hE => by
    obtain ⟨g1, g2, g3, hee⟩ := hE.1.2.2.2.2.1
    have hXE : zEs st st.E := ⟨g1, fun _ _ h => h⟩
    have hX : X < 256 := by omega
    obtain ⟨hqE, hq2⟩ := zdyI_E g1 hl hq
    have hqw := zwo_le hE.1 hqE
    have n0 : ¬ nI X < 0 := nI_pos (by omega)
    have n255 : ¬ 255 < nI X := nI_nlt (a := 255) (by omega) (by omega)
    have nx := fun J x7 hJ => zlp235 (L := L) (st := st) (home := home) (lim := lim) (s := s) x3 hh hl m (X + 1) (zdy1 L st home lim X q) J x7 (by omega) (by omega) (zdyI_1 hX (by omega) hq) hJ
    rw [zq_235_24, if_neg (show ¬ (256 : Int32) ≤ nI X from nI_ge (b := 256) hX (by decide)), zqz_232, zq_232_0, zl_179, if_neg n0, if_neg n255, zcI_some, zq_232_4, if_neg (by decide), g3, zdy_s]
    by_cases hs : X &&& st.E = X
    · have hbs : nI X &&& (nI st.E ^^^ (-1)) = 0 := by rw [bit_sub _ g1 X hX]; exact hs
      have hXs := zEs_sub hXE hX hs
      have hw := zwo_le hE.1 hXs
      rw [if_neg (not_not_intro hbs), zcI_some, zq_235_30, if_neg (by decide), zf234 s hE.1 hXs, zcI_some, zq_235_34, zf234 s hE.1 hqE, zcI_some, zq_235_37, nI_1]
      by_cases c0 : zwo st q.1 ≤ zwo st X
      case neg =>
        have e1 : zdy1 L st home lim X q = q := by
          unfold zdy1
          rw [if_pos hs]
          cases zrs L st X home 0 home with
          | none => rfl
          | some y => exact if_neg (fun w => w.2.elim (fun w => by omega) (fun w => by omega))
        rw [e1] at nx ⊢
        rw [if_neg (nI_ge (by omega) (by omega))]
        exact nx I x7 hE
      rw [if_pos (nI_le c0 (by omega))]
      obtain ⟨J1, e2, sc, hR, -⟩ := zf230 hXs hh hE
      have hr0 : zrnd0 L st X home = zrs L st X home 0 home := if_neg (by omega)
      rw [e2, zcI_some, zq_235_43, hr0, nI_1]
      cases hz : zrs L st X home 0 home with
      | none =>
        have e1 : zdy1 L st home lim X q = q := by unfold zdy1; rw [if_pos hs, hz]
        rw [e1] at nx ⊢
        rw [if_pos (show nI lim < nI (zR1 none) from nI_lt (show lim < 1000000000 by omega) (by decide))]
        obtain ⟨J, x7', e, a, b, c⟩ := nx J1 (.int (nI (zR1 none))) hR
        exact ⟨J, x7', e, zScr_tr sc a, b, c⟩
      | some y =>
        have hy := zrs_le (zEv_small (L := L) (s := s) hE.1) (zEv_P hE.1) (zEs_ea hE.1 hXs) hh hh hz
        have ez : zR1 (some y) = y := rfl
        have e1 : zdy1 L st home lim X q = if y ≤ lim ∧ (zwo st q.1 < zwo st X ∨ (zwo st X = zwo st q.1 ∧ y < q.2)) then (X, y) else q := by unfold zdy1; rw [if_pos hs, hz]
        rw [ez, zf234 s hR.1 hXs, zcI_some, zq_235_50, zf234 s hR.1 hqE, zcI_some, zq_235_53, nI_1]
        by_cases c1 : y ≤ lim
        case neg =>
          rw [e1, if_neg (show ¬ (y ≤ lim ∧ (zwo st q.1 < zwo st X ∨ (zwo st X = zwo st q.1 ∧ y < q.2))) from fun w => c1 w.1)] at nx ⊢
          rw [if_pos (show nI lim < nI y from nI_lt (by omega) (by omega))]
          obtain ⟨J, x7', e, a, b, c⟩ := nx J1 (.int (nI y)) hR
          exact ⟨J, x7', e, zScr_tr sc a, b, c⟩
        rw [if_neg (nI_nlt c1 (by omega))]
        by_cases c2 : zwo st X = zwo st q.1
        · rw [if_neg (not_not_intro (by rw [c2]))]
          by_cases c3 : y < q.2
          · rw [e1, if_pos (show (y ≤ lim ∧ (zwo st q.1 < zwo st X ∨ (zwo st X = zwo st q.1 ∧ y < q.2))) from ⟨c1, Or.inr ⟨c2, c3⟩⟩)] at nx ⊢
            rw [if_pos (nI_lt c3 (by omega))]
            obtain ⟨J, x7', e, a, b, c⟩ := nx J1 (.int (nI y)) hR
            exact ⟨J, x7', e, zScr_tr sc a, b, c⟩
          · rw [e1, if_neg (show ¬ (y ≤ lim ∧ (zwo st q.1 < zwo st X ∨ (zwo st X = zwo st q.1 ∧ y < q.2))) from fun w => w.2.elim (fun w => by omega) (fun w => c3 w.2))] at nx ⊢
            rw [if_neg (nI_nlt (by omega) (by omega))]
            obtain ⟨J, x7', e, a, b, c⟩ := nx J1 (.int (nI y)) hR
            exact ⟨J, x7', e, zScr_tr sc a, b, c⟩
        · rw [e1, if_pos (show (y ≤ lim ∧ (zwo st q.1 < zwo st X ∨ (zwo st X = zwo st q.1 ∧ y < q.2))) from ⟨c1, Or.inl (by omega)⟩)] at nx ⊢
          rw [if_pos (nI_ne c2 (by omega) (by omega))]
          obtain ⟨J, x7', e, a, b, c⟩ := nx J1 (.int (nI y)) hR
          exact ⟨J, x7', e, zScr_tr sc a, b, c⟩
    · have e1 : zdy1 L st home lim X q = q := if_neg hs
      rw [e1] at nx ⊢
      rw [if_pos (show ¬ (nI X &&& (nI st.E ^^^ (-1)) = 0) by rw [bit_sub _ g1 X hX]; exact hs), zcI_some, zq_235_30, if_pos rfl, nI_1]
      exact nx I x7 hE
theorem zp_day {L : zLw} {st : zSt} {s : zQs} {I : Nat → Nat → Int32} (hE : zEv L st s I) (x1 x2 x3 : Int32) : zPr L st s I (zf_150 [.ref 0, .int x1, .int x2, .int x3]) (zf_235 [.ref 58, .int x1, .int x2, .int x3]) := by
  have hP := zEv_P hE.1
  have p1 := zEv_p1 hE.1
  have p2 := zEv_p2 hE.1
  obtain ⟨g1, g2, g3, hee⟩ := hE.1.2.2.2.2.1
  have hXE : zEs st st.E := ⟨g1, fun _ _ h => h⟩
  by_cases h1 : zlt x1 st.P
  case neg =>
    refine zPr_same hE (v := -1) ?_ ?_
    · rw [zqz_150, zq_150_0, isP1_f p1 hP h1, zcI_some, zq_150_4, if_pos rfl]
    · rw [zqz_235, zq_235_0, isP2_f p2 hP h1, zcI_some, zq_235_3, if_pos rfl]
  by_cases h2 : zin x2 99999
  case neg =>
    refine zPr_same hE (v := -1) ?_ ?_
    · rw [zqz_150, zq_150_0, isP1_t p1 hP h1, zcI_some, zq_150_4, if_neg (by decide), wi_f (m := 99999) 99999 rfl (by decide) h2, zcI_some, zq_150_8, if_pos rfl]
    · rw [zqz_235, zq_235_0, isP2_t p2 hP h1, zcI_some, zq_235_3, if_neg (by decide), in_f (m := 99999) 99999 rfl (by decide) h2, zcI_some, zq_235_8, if_pos rfl]
  by_cases h3 : zin x3 2
  case neg =>
    refine zPr_same hE (v := -1) ?_ ?_
    · rw [zqz_150, zq_150_0, isP1_t p1 hP h1, zcI_some, zq_150_4, if_neg (by decide), wi_t (m := 99999) 99999 rfl (by decide) h2, zcI_some, zq_150_8, if_neg (by decide), wi_f (m := 2) 2 rfl (by decide) h3, zcI_some, zq_150_12, if_neg (not_not_intro rfl)]
    · rw [zqz_235, zq_235_0, isP2_t p2 hP h1, zcI_some, zq_235_3, if_neg (by decide), in_t (m := 99999) 99999 rfl (by decide) h2, zcI_some, zq_235_8, if_neg (by decide), in_f (m := 2) 2 rfl (by decide) h3, zcI_some, zq_235_13, if_neg (not_not_intro rfl)]
  obtain ⟨s1, J1, e1, hE1, hF1, cv, hs1⟩ := zf77 hXE hE
  have c21 : zf_150 [.ref 0, .int x1, .int x2, .int x3] (zMk (s, I)) = zQ_150 (21, [.ref 0, .int x1, .int x2, .int x3, .long 0], [], zMk (s1, J1)) := by
    rw [zqz_150, zq_150_0, isP1_t p1 hP h1, zcI_some, zq_150_4, if_neg (by decide), wi_t (m := 99999) 99999 rfl (by decide) h2, zcI_some, zq_150_8, if_neg (by decide), wi_t (m := 2) 2 rfl (by decide) h3, zcI_some, zq_150_12, if_pos (by decide), g2, e1, zcV_some]
  have r13 : ∀ s (J : Nat → Nat → Int32), J 58 0 = nI st.P → zf_235 [.ref 58, .int x1, .int x2, .int x3] (zMk (s, J)) = zcV (zf_216 [.ref 58] (zMk (s, J))) (fun M => zQ_235 (18, [.ref 58, .int x1, .int x2, .int x3, .long 0, .long 0, .long 0, .long 0], [], M)) := fun s J h => by
    rw [zqz_235, zq_235_0, isP2_t h hP h1, zcI_some, zq_235_3, if_neg (by decide), in_t (m := 99999) 99999 rfl (by decide) h2, zcI_some, zq_235_8, if_neg (by decide), in_t (m := 2) 2 rfl (by decide) h3, zcI_some, zq_235_13, if_pos (by decide)]
  obtain ⟨a, ha, rfl⟩ := h1
  obtain ⟨lim, hl, rfl⟩ := h2
  obtain ⟨J2, e2, j2, hT⟩ := zf85 ha hE1 hF1
  have sc2 : zScr J1 J2 := zScr_1 (k := 47) rfl j2
  have hE2 := zEv_Scr hE1 sc2
  have hF2 := zFx_Scr hF1 sc2
  have hI0 : zdyI L st a lim (0, 0) := Or.inl ⟨rfl, rfl⟩
  have e3 := zlp88 ha hl hE2 hF2 hT st.E 1 (0, 0) (.long 0) (.long 0) (.long 0) (Nat.add_comm _ _) (by decide) hI0
  have f88 : zf_88 [.ref 42, .int (nI a), .int (nI lim)] (zMk (s1, J2)) = some (.int (nI (zdy L st a lim st.E 1 (0, 0)).1), zMk (s1, J2)) := by
    rw [zqz_88, zq_88_0]
    exact e3
  have hmore : zdy L st a lim 255 1 (0, 0) = zdy L st a lim st.E 1 (0, 0) := by
    have := zdy_more (L := L) (st := st) (home := a) (lim := lim) (255 - st.E) st.E 1 (0, 0) (Nat.add_comm _ _)
    rw [show st.E + (255 - st.E) = 255 by omega] at this
    exact this
  obtain ⟨J3, e4, sc3, hR3, -⟩ := zbegins hE2
  obtain ⟨J4, x7', e5, sc4, hR4, hI4⟩ := zlp235 (s := s1) x3 ha hl 255 1 (0, 0) J3 (.long 0) rfl (by decide) hI0 hR3
  rw [hmore] at e5 hI4
  generalize zdy L st a lim st.E 1 (0, 0) = q at f88 e5 hI4
  obtain ⟨hqE, hq2⟩ := zdyI_E g1 hl hI4
  have c30 : zf_150 [.ref 0, .int (nI a), .int (nI lim), .int x3] (zMk (s, I)) = zQ_150 (30, [.ref 0, .int (nI a), .int (nI lim), .int x3, .long 0], [.int (nI q.1)], zMk (s1, J2)) := by
    rw [c21, zq_150_21, e2, zcV_some, zq_150_25, f88, zcI_some]
  have r24 : zf_235 [.ref 58, .int (nI a), .int (nI lim), .int x3] (zMk (s1, J2)) = zQ_235 (24, [.ref 58, .int (nI a), .int (nI lim), .int x3, .int (nI q.1), .int (nI q.2), .int (nI 256), x7'], [], zMk (s1, J4)) := by
    rw [r13 s1 J2 (zEv_p2 hE2.1), e4, zcV_some, zq_235_18]
    exact e5
  have hEn := zEv_Scr hE2 (zScr_tr sc3 sc4)
  have hXn : zXe I J4 := zXe_tr (zXe_Cv cv) (zXe_Scr (zScr_tr sc2 (zScr_tr sc3 sc4)))
  by_cases m0 : x3 = 0
  · refine zPr_mk (v := nI (zwo st q.1)) (I1 := J2) ?_ ?_ hEn hXn
    · rw [c30, zq_150_30, if_neg (not_not_intro m0), zf75 s1 hE2.1 hqE, zcI_some, zq_150_37]
    · rw [r24, zq_235_24, if_pos (show (256 : Int32) ≤ nI 256 by decide), if_neg (not_not_intro m0), zf234 s1 hEn.1 hqE, zcI_some, zq_235_69]
  by_cases m1 : x3 = 1
  · refine zPr_mk (v := nI q.1) (I1 := J2) ?_ ?_ hEn hXn
    · rw [c30, zq_150_30, if_pos m0, if_neg (not_not_intro m1), zq_150_48]
    · rw [r24, zq_235_24, if_pos (show (256 : Int32) ≤ nI 256 by decide), if_pos m0, if_neg (not_not_intro m1)]
  · refine zPr_mk (v := nI q.2) (I1 := J2) ?_ ?_ hEn hXn
    · rw [c30, zq_150_30, if_pos m0, if_pos m1]
      rcases hI4 with ⟨w1, w2⟩ | ⟨w1, w2, w3, w4, w5⟩
      · rw [w1, w2, zqz_87, zq_87_0, if_neg (not_not_intro (show nI 0 = 0 from rfl)), zcI_some, zq_150_48]
        rfl
      · rw [zf87 ha hE2 hF2 hT w2 w1 w3, w5, zcI_some, zq_150_48]
        rfl
    · rw [r24, zq_235_24, if_pos (show (256 : Int32) ≤ nI 256 by decide), if_pos m0, if_pos m1]
