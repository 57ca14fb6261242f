/-! THE WAY ITSELF -/
theorem nI_m1 {a : Nat} (h : a < 2 ^ 31) : ¬ nI a = -1 := fun e => by rw [nI_nm1 h] at e; exact e
theorem zmin_ex {f : Nat → Prop} : ∀ n, f n → ∃ p, p ≤ n ∧ f p ∧ ∀ q, q < p → ¬ f q := by
  intro n
  induction n using Nat.strongRecOn with
  | ind n ih =>
    intro h
    by_cases hq : ∃ q, q < n ∧ f q
    · obtain ⟨q, h1, h2⟩ := hq
      obtain ⟨p, p1, p2, p3⟩ := ih q h1 h2
      exact ⟨p, by omega, p2, p3⟩
    · exact ⟨n, Nat.le_refl _, h, fun q h1 h2 => hq ⟨q, h1, h2⟩⟩
/-- the first place on from a to b -/
def znx1 (L : zLw) (st : zSt) (l a b p : Nat) : Prop := p ≠ a ∧ zwt 64 1000000000 (zcs L st l st.S) a p + zk64 (zcs L st l st.S) st.P p b = zk64 (zcs L st l st.S) st.P a b
def zNx (L : zLw) (st : zSt) (l a b p : Nat) : Prop := p < st.P ∧ znx1 L st l a b p ∧ ∀ q, q < p → ¬ znx1 L st l a b q
theorem zpath {L : zLw} {st : zSt} (hs : zsmall L st) (hP : st.P ≤ 20) {l b : Nat} (hb : b < st.P) : ∀ S C a, a < st.P → zway (zcs L st l st.S) st.P a b = some (C, S) →
    ∃ row : Nat → Nat, row 0 = a ∧ row S = b ∧ (∀ i, i ≤ S → row i < st.P) ∧ ∀ i, i < S → row i ≠ b ∧ zk64 (zcs L st l st.S) st.P (row i) b < 1000000000 ∧ zNx L st l (row i) b (row (i + 1)) := by
  intro S
  induction S with
  | zero =>
    intro C a ha hw
    obtain ⟨h1, h2, h3, h4⟩ := zway_s (hs l) hP ha hb hw
    have := zk64_0 (c := zcs L st l st.S) hb (show zk64 (zcs L st l st.S) st.P a b = 0 by omega)
    subst this
    exact ⟨fun _ => a, rfl, rfl, fun _ _ => ha, fun i hi => absurd hi (Nat.not_lt_zero i)⟩
  | succ S ih =>
    intro C a ha hw
    obtain ⟨h1, h2, h3, h4⟩ := zway_s (hs l) hP ha hb hw
    have hab : a ≠ b := by
      intro e
      subst e
      have : zk64 (zcs L st l st.S) st.P a a = 0 := zfw_aa _ _ _
      omega
    obtain ⟨p0, q1, q2, q3⟩ := znext_ex (c := zcs L st l st.S) hab hb
    obtain ⟨p, p1, p2, p3⟩ := zmin_ex (f := znx1 L st l a b) p0 ⟨q2, q3⟩
    have hp : p < st.P := by omega
    have e := p2.2
    cases hx : zcs L st l st.S a p with
    | none => rw [zwt_n hx] at e; omega
    | some x =>
      rw [zwt_s hx] at e
      obtain ⟨C2, S2, k1, k2, k3, k4⟩ := zk_of (hs l) hP hp hb (show zk64 (zcs L st l st.S) st.P p b < 1000000000 by omega)
      have hS : S2 = S := by omega
      subst hS
      have hw2 : zway (zcs L st l st.S) st.P p b = some (C2, S2) := by
        unfold zway
        rw [if_pos (show zk64 (zcs L st l st.S) st.P p b < 1000000000 by omega), k3, show (64 * C2 + S2) / 64 = C2 by omega, show (64 * C2 + S2) % 64 = S2 by omega]
      obtain ⟨row, r1, r2, r3, r4⟩ := ih C2 p hp hw2
      refine ⟨fun i => if i = 0 then a else row (i - 1), rfl, ?_, fun i hi => ?_, fun i hi => ?_⟩
      · show row (S2 + 1 - 1) = b
        exact r2
      · show (if i = 0 then a else row (i - 1)) < st.P
        split
        · exact ha
        · exact r3 _ (by omega)
      · show (if i = 0 then a else row (i - 1)) ≠ b ∧ zk64 (zcs L st l st.S) st.P (if i = 0 then a else row (i - 1)) b < 1000000000 ∧ zNx L st l (if i = 0 then a else row (i - 1)) b (if i + 1 = 0 then a else row (i + 1 - 1))
        rw [if_neg (show ¬ i + 1 = 0 by omega), Nat.add_sub_cancel]
        by_cases h0 : i = 0
        · subst h0
          rw [if_pos rfl, r1]
          exact ⟨hab, by omega, hp, p2, p3⟩
        · rw [if_neg h0]
          have := r4 (i - 1) (by omega)
          rw [show i - 1 + 1 = i by omega] at this
          exact this
/-- the class's next place -/
theorem zlp125 {L : zLw} {st : zSt} {s : zQs} {I : Nat → Nat → Int32} (hE : zEv L st s I) {l a b p : Nat} (hl : l ≤ 99) (hf : zFsh L st s I l) (ha : a < st.P) (hb : b < st.P) (hfin : zk64 (zcs L st l st.S) st.P a b < 1000000000) (hp : zNx L st l a b p) : ∀ d q (x6 : Value), q + d = p →
    zQ_125 (8, [.ref 16, .int (nI a), .int (nI b), .int (nI l), .int (nI (zk32 (zcs L st l st.S) st.P a b)), .int (nI q), x6], [], zMk (s, I)) = some (.int (nI p), zMk (s, I)) := by
  have hs := zEv_small (L := L) (s := s) hE.1
  have hP := zEv_P hE.1
  have key : ∀ q, q < st.P → ((nI (zk32 (zcs L st l st.S) st.P a q) &&& 31 = 1) = (zk32 (zcs L st l st.S) st.P a q % 32 = 1)) ∧ ((nI (zk32 (zcs L st l st.S) st.P a q) + nI (zk32 (zcs L st l st.S) st.P q b) = nI (zk32 (zcs L st l st.S) st.P a b)) = (zk32 (zcs L st l st.S) st.P a q + zk32 (zcs L st l st.S) st.P q b = zk32 (zcs L st l st.S) st.P a b)) := by
    intro q hq
    obtain ⟨-, -, k1, -⟩ := zk_cost (L := L) (l := l) hs hP ha hq
    obtain ⟨-, -, k2, -⟩ := zk_cost (L := L) (l := l) hs hP hq hb
    obtain ⟨-, -, k3, -⟩ := zk_cost (L := L) (l := l) hs hP ha hb
    refine ⟨?_, by rw [nI_add]; exact eq_D (by omega) (by omega)⟩
    rw [show nI (zk32 (zcs L st l st.S) st.P a q) &&& 31 = nI (zk32 (zcs L st l st.S) st.P a q % 32) from nI_and31 (by omega)]
    exact eq_D (b := 1) (by omega) (by decide)
  have nx : ∀ q, q < st.P → ((zk32 (zcs L st l st.S) st.P a q % 32 = 1 ∧ zk32 (zcs L st l st.S) st.P a q + zk32 (zcs L st l st.S) st.P q b = zk32 (zcs L st l st.S) st.P a b) ↔ znx1 L st l a b q) := fun q hq => znext (hs l) hP ha hb hq hfin
  intro d
  induction d with
  | zero =>
    intro q x6 h
    have h : q = p := by omega
    subst h
    obtain ⟨hq, h1, -⟩ := hp
    obtain ⟨m1, m2⟩ := (nx q hq).mpr h1
    obtain ⟨k1, k2⟩ := key q hq
    rw [zq_125_8, zEv_p1 hE.1, if_neg (nI_ge hq (by omega)), zf127 hE hl hf ha hq, zcI_some, zq_125_18, if_neg (not_not_intro (by rw [k1]; exact m1)), zf127 hE hl hf hq hb, zcI_some, zq_125_30, if_neg (not_not_intro (by rw [k2]; exact m2))]
  | succ d ih =>
    intro q x6 h
    have hq : q < st.P := by have := hp.1; omega
    have hno : ¬ znx1 L st l a b q := hp.2.2 q (by omega)
    obtain ⟨k1, k2⟩ := key q hq
    rw [zq_125_8, zEv_p1 hE.1, if_neg (nI_ge hq (by omega)), zf127 hE hl hf ha hq, zcI_some, zq_125_18]
    by_cases m1 : zk32 (zcs L st l st.S) st.P a q % 32 = 1
    · have m2 : ¬ zk32 (zcs L st l st.S) st.P a q + zk32 (zcs L st l st.S) st.P q b = zk32 (zcs L st l st.S) st.P a b := fun e => hno ((nx q hq).mp ⟨m1, e⟩)
      rw [if_neg (not_not_intro (by rw [k1]; exact m1)), zf127 hE hl hf hq hb, zcI_some, zq_125_30, if_pos (by rw [k2]; exact m2), nI_1]
      exact ih (q + 1) _ (by omega)
    · rw [if_pos (by rw [k1]; exact m1), nI_1]
      exact ih (q + 1) _ (by omega)
theorem zf125 {L : zLw} {st : zSt} {s : zQs} {I : Nat → Nat → Int32} (hE : zEv L st s I) {l a b p : Nat} (hl : l ≤ 99) (hf : zFsh L st s I l) (ha : a < st.P) (hb : b < st.P) (hfin : zk64 (zcs L st l st.S) st.P a b < 1000000000) (hp : zNx L st l a b p) :
    zf_125 [.ref 16, .int (nI a), .int (nI b), .int (nI l)] (zMk (s, I)) = some (.int (nI p), zMk (s, I)) := by
  rw [zqz_125, zq_125_0, zf127 hE hl hf ha hb, zcI_some, zq_125_5]
  exact zlp125 hE hl hf ha hb hfin hp p 0 (.long 0) (Nat.zero_add _)
/-- the row of a way, told -/
def zrowp (L : zLw) (st : zSt) (l b S : Nat) (row : Nat → Nat) : Prop := row S = b ∧ (∀ i, i ≤ S → row i < st.P) ∧ ∀ i, i < S → row i ≠ b ∧ zk64 (zcs L st l st.S) st.P (row i) b < 1000000000 ∧ zNx L st l (row i) b (row (i + 1))
theorem zlp123 {L : zLw} {st : zSt} {s : zQs} {l b S : Nat} (hl : l ≤ 99) (hb : b < st.P) (hS : S ≤ 19) {row : Nat → Nat} (hr : zrowp L st l b S row) (x1 : Int32) : ∀ d i (I : Nat → Nat → Int32), i + d = S → zEv L st s I → zFsh L st s I l → (∀ j, j < i → I 19 j = nI (row j)) →
    ∃ J, zQ_123 (16, [.ref 16, .int x1, .int (nI b), .int (nI l), .int (nI (row i)), .int (nI i)], [], zMk (s, I)) = some (.int (nI (S + 1)), zMk (s, J)) ∧ zScr I J ∧ J 16 4 = nI (S + 1) ∧ (∀ j, j ≤ S → J 19 j = nI (row j)) ∧ ∀ r, r ≠ 16 → r ≠ 19 → J r = I r := by
  obtain ⟨r1, r2, r3⟩ := hr
  intro d
  induction d with
  | zero =>
    intro i I h hE hf hI
    have h : i = S := by omega
    subst h
    have hP := zEv_P hE.1
    have nm := nI_m1 (a := row i) (by have := r2 i (Nat.le_refl _); omega)
    have fin : zQ_123 (16, [.ref 16, .int x1, .int (nI b), .int (nI l), .int (nI (row i)), .int (nI i)], [], zMk (s, I)) = some (.int (nI (i + 1)), zMk (s, zwA (zwA I 19 (upd (I 19) i (nI (row i)))) 16 (upd (I 16) 4 (nI (i + 1))))) := by
      rw [zq_123_16, if_neg (show ¬ (20 : Int32) ≤ nI i from nI_ge (b := 20) (by omega) (by decide)), if_neg nm, if_pos (zb_t (show i < 20 by omega) (by omega)), nI_clamp (show i < 2 ^ 31 by omega), nI_1, if_neg (not_not_intro (by rw [r1])), zq_123_42, nI_1, zq_123_16]
      by_cases h20 : 20 ≤ i + 1
      · rw [if_pos (show (20 : Int32) ≤ nI (i + 1) from nI_le (a := 20) h20 (by omega)), zwA_s, upd_at, if_pos rfl]
      · rw [if_neg (show ¬ (20 : Int32) ≤ nI (i + 1) from nI_ge (b := 20) (by omega) (by decide)), if_pos rfl, zwA_s, upd_at, if_pos rfl]
    refine ⟨_, fin, zScr_tr (zScr_w (k := 19) rfl _) (zScr_w (k := 16) rfl _), by rw [zwA_s, upd_at, if_pos rfl], fun j hj => ?_, fun r a b => by rw [zwA_n a, zwA_n b]⟩
    rw [zwA_n (by decide), zwA_s, upd_at]
    by_cases hji : j = i
    · subst hji
      rw [if_pos rfl]
    · rw [if_neg hji]
      exact hI j (by omega)
  | succ d ih =>
    intro i I h hE hf hI
    have hi : i < S := by omega
    have hP := zEv_P hE.1
    obtain ⟨n1, n2, n3⟩ := r3 i hi
    have hri := r2 i (by omega)
    have nm := nI_m1 (a := row i) (by omega)
    have sc : zScr I (zwA (zwA I 19 (upd (I 19) i (nI (row i)))) 16 (upd (I 16) 4 (nI (i + 1)))) := zScr_tr (zScr_w (k := 19) rfl _) (zScr_w (k := 16) rfl _)
    obtain ⟨J, e, j1, j2, j3, j4⟩ := ih (i + 1) _ (by omega) (zEv_Scr hE sc) (zFsh_Scr hf sc) (fun j hj => by
      rw [zwA_n (by decide), zwA_s, upd_at]
      by_cases hji : j = i
      · subst hji
        rw [if_pos rfl]
      · rw [if_neg hji]
        exact hI j (by omega))
    refine ⟨J, ?_, zScr_tr sc j1, j2, j3, fun r a b => by rw [j4 r a b, zwA_n a, zwA_n b]⟩
    rw [zq_123_16, if_neg (show ¬ (20 : Int32) ≤ nI i from nI_ge (b := 20) (by omega) (by decide)), if_neg nm, if_pos (zb_t (show i < 20 by omega) (by omega)), nI_clamp (show i < 2 ^ 31 by omega), nI_1, if_pos (nI_ne n1 (by omega) (by omega)), zf125 (zEv_Scr hE sc) hl (zFsh_Scr hf sc) hri hb n2 n3, zcI_some, zq_123_42, nI_1]
    exact e
/-- the class goes the way -/
theorem zwalkc {L : zLw} {st : zSt} {s : zQs} {I : Nat → Nat → Int32} (hE : zEv L st s I) {l a b C S : Nat} (hl : l ≤ 99) (hf : zFsh L st s I l) (ha : a < st.P) (hb : b < st.P) (hw : zway (zcs L st l st.S) st.P a b = some (C, S)) {row : Nat → Nat} (h0 : row 0 = a) (hr : zrowp L st l b S row) :
    ∃ J, zf_123 [.ref 16, .int (nI a), .int (nI b), .int (nI l)] (zMk (s, I)) = some (.int (nI (S + 1)), zMk (s, J)) ∧ zScr I J ∧ J 16 4 = nI (S + 1) ∧ (∀ j, j ≤ S → J 19 j = nI (row j)) ∧ ∀ r, r ≠ 16 → r ≠ 19 → J r = I r := by
  have hs := zEv_small (L := L) (s := s) hE.1
  have hP := zEv_P hE.1
  obtain ⟨h1, h2, h3, h4⟩ := zway_s (hs l) hP ha hb hw
  have sc : zScr I (zwA I 16 (upd (I 16) 4 0)) := zScr_w (k := 16) rfl _
  obtain ⟨J, e, j1, j2, j3, j4⟩ := zlp123 (s := s) hl hb h1 hr (nI a) S 0 (zwA I 16 (upd (I 16) 4 0)) (Nat.zero_add _) (zEv_Scr hE sc) (zFsh_Scr hf sc) (fun j hj => absurd hj (Nat.not_lt_zero j))
  refine ⟨J, ?_, zScr_tr sc j1, j2, j3, fun r a b => by rw [j4 r a b, zwA_n a]⟩
  rw [zqz_123, zq_123_0, zf127 (zEv_Scr hE sc) hl (zFsh_Scr hf sc) ha hb, zcI_some, zq_123_8, if_pos (show nI (zk32 (zcs L st l st.S) st.P a b) < 100000000 from nI_lt (b := 100000000) (by omega) (by decide))]
  rw [h0] at e
  exact e
theorem zwalkn {L : zLw} {st : zSt} {s : zQs} {I : Nat → Nat → Int32} (hE : zEv L st s I) {l a b : Nat} (hl : l ≤ 99) (hf : zFsh L st s I l) (ha : a < st.P) (hb : b < st.P) (hw : zway (zcs L st l st.S) st.P a b = none) :
    zf_123 [.ref 16, .int (nI a), .int (nI b), .int (nI l)] (zMk (s, I)) = some (.int 0, zMk (s, zwA I 16 (upd (I 16) 4 0))) := by
  have hs := zEv_small (L := L) (s := s) hE.1
  have hP := zEv_P hE.1
  obtain ⟨h1, h2⟩ := zway_n (hs l) hP ha hb hw
  obtain ⟨-, -, k1, -⟩ := zk_cost (L := L) (l := l) hs hP ha hb
  have sc : zScr I (zwA I 16 (upd (I 16) 4 0)) := zScr_w (k := 16) rfl _
  rw [zqz_123, zq_123_0, zf127 (zEv_Scr hE sc) hl (zFsh_Scr hf sc) ha hb, zcI_some, zq_123_8, if_neg (show ¬ nI (zk32 (zcs L st l st.S) st.P a b) < 100000000 from nI_nlt (b := 100000000) h2 (by omega))]
/-- the reference's next place -/
theorem zlp221 {L : zLw} {st : zSt} {s : zQs} {I : Nat → Nat → Int32} (hE : zRe L st s I) {l a b p : Nat} (hl : l ≤ 99) (hf : ¬ I 79 l = 0) (ha : a < st.P) (hb : b < st.P) (hfin : zk64 (zcs L st l st.S) st.P a b < 1000000000) (hp : zNx L st l a b p) : ∀ d q, q + d = p →
    zQ_221 (2, [.ref 58, .int (nI a), .int (nI b), .int (nI l), .int (nI q)], [], zMk (s, I)) = some (.int (nI p), zMk (s, I)) := by
  have hs := zEv_small (L := L) (s := s) hE.1
  have hP := zEv_P hE.1
  have hR := hE.2.2 l hl hf
  have go : ∀ q, q < st.P → q ≠ a → zQ_221 (2, [.ref 58, .int (nI a), .int (nI b), .int (nI l), .int (nI q)], [], zMk (s, I)) = if zwt 64 1000000000 (zcs L st l st.S) a q + zk64 (zcs L st l st.S) st.P q b = zk64 (zcs L st l st.S) st.P a b then some (.int (nI q), zMk (s, I)) else zQ_221 (2, [.ref 58, .int (nI a), .int (nI b), .int (nI l), .int (nI (q + 1))], [], zMk (s, I)) := by
    intro q hq hqa
    obtain ⟨-, -, -, k2⟩ := zk_cost (L := L) (l := l) hs hP hq hb
    have k1 := zwt_cap (hs l) (show 64 * 9999 + 1 ≤ 1000000000 by decide) a q
    have hi := zix4_lt hl (show a < 20 by omega) (show q < 20 by omega)
    rw [zq_221_2, if_neg (nI_ne hqa (by omega) (by omega)), zix4_i, if_pos (zb_t hi (by omega)), nI_clamp (show zix4 l a q < 2 ^ 31 by omega), hR.1 a q (by omega) (by omega), zf219a hE hl hf hq hb, zcI_some, zq_221_22, zl180 s I k1 k2, zcI_some, zq_221_23, zf219a hE hl hf ha hb, zcI_some, zq_221_28, nI_1]
    by_cases hc : zwt 64 1000000000 (zcs L st l st.S) a q + zk64 (zcs L st l st.S) st.P q b = zk64 (zcs L st l st.S) st.P a b
    · rw [if_pos hc, if_pos (show zwt 64 1000000000 (zcs L st l st.S) a q < 1000000000 ∧ zk64 (zcs L st l st.S) st.P q b < 1000000000 by omega), if_pos (by rw [hc])]
    · rw [if_neg hc, if_neg (nI_ne ?_ ?_ ?_)]
      · split
        · exact hc
        · omega
      · split <;> omega
      · omega
  intro d
  induction d with
  | zero =>
    intro q h
    have h : q = p := by omega
    subst h
    rw [go q hp.1 hp.2.1.1, if_pos hp.2.1.2]
  | succ d ih =>
    intro q h
    have hq : q < st.P := by have := hp.1; omega
    by_cases hqa : q = a
    · subst hqa
      rw [zq_221_2, if_pos rfl, nI_1]
      exact ih (q + 1) (by omega)
    · rw [go q hq hqa, if_neg (fun e => hp.2.2 q (by omega) ⟨hqa, e⟩)]
      exact ih (q + 1) (by omega)
theorem zf221 {L : zLw} {st : zSt} {s : zQs} {I : Nat → Nat → Int32} (hE : zRe L st s I) {l a b p : Nat} (hl : l ≤ 99) (hf : ¬ I 79 l = 0) (ha : a < st.P) (hb : b < st.P) (hfin : zk64 (zcs L st l st.S) st.P a b < 1000000000) (hp : zNx L st l a b p) :
    zf_221 [.ref 58, .int (nI a), .int (nI b), .int (nI l)] (zMk (s, I)) = some (.int (nI p), zMk (s, I)) := by
  rw [zqz_221, zq_221_0]
  exact zlp221 hE hl hf ha hb hfin hp p 0 (Nat.zero_add _)
theorem zlp222 {L : zLw} {st : zSt} {s : zQs} {l b S : Nat} (hl : l ≤ 99) (hb : b < st.P) (hS : S ≤ 19) {row : Nat → Nat} (hr : zrowp L st l b S row) (x1 : Int32) : ∀ d i (I : Nat → Nat → Int32), i + d = S → zRe L st s I → ¬ I 79 l = 0 → I 58 36 = nI (i + 1) → (∀ j, j ≤ i → I 80 j = nI (row j)) →
    ∃ J, zQ_222 (8, [.ref 58, .int x1, .int (nI b), .int (nI l)], [], zMk (s, I)) = some (.long 0, zMk (s, J)) ∧ zScr I J ∧ zRe L st s J ∧ J 58 36 = nI (S + 1) ∧ (∀ j, j ≤ S → J 80 j = nI (row j)) ∧ (∀ r, r ≠ 58 → r ≠ 80 → J r = I r) ∧ ∀ j, j ≠ 36 → J 58 j = I 58 j := by
  obtain ⟨r1, r2, r3⟩ := hr
  intro d
  induction d with
  | zero =>
    intro i I h hE hf h36 hI
    have h : i = S := by omega
    subst h
    have hP := zEv_P hE.1
    refine ⟨I, ?_, zScr_rfl I, hE, h36, hI, fun _ _ _ => rfl, fun _ _ => rfl⟩
    rw [zq_222_8, h36, nI_pred, if_pos (zb_t (show i < 21 by omega) (by omega)), nI_clamp (show i < 2 ^ 31 by omega), hI i (Nat.le_refl _), r1, if_pos rfl]
  | succ d ih =>
    intro i I h hE hf h36 hI
    have hi : i < S := by omega
    have hP := zEv_P hE.1
    obtain ⟨n1, n2, n3⟩ := r3 i hi
    have hri := r2 i (by omega)
    have sc : zScr I (zwA (zwA I 80 (upd (I 80) (i + 1) (nI (row (i + 1))))) 58 (upd (I 58) 36 (nI (i + 1 + 1)))) := by
      refine zScr_tr (zScr_w (k := 80) rfl (upd (I 80) (i + 1) (nI (row (i + 1))))) ?_
      have := zScr_f (I := zwA I 80 (upd (I 80) (i + 1) (nI (row (i + 1))))) (j := 36) rfl (nI (i + 1 + 1))
      rw [zwA_n (I := I) (k := 80) (a := 58) (by decide)] at this
      exact this
    obtain ⟨J, e, j1, j2, j3, j4, j5, j6⟩ := ih (i + 1) _ (by omega) (zRe_fr hE sc (by rw [zwA_n (by decide), zwA_n (by decide)]) (by rw [zwA_n (by decide), zwA_n (by decide)]) (by rw [zwA_n (by decide), zwA_n (by decide)])) (by rw [zwA_n (by decide), zwA_n (by decide)]; exact hf) (by rw [zwA_s, upd_at, if_pos rfl]) (fun j hj => by
      rw [zwA_n (by decide), zwA_s, upd_at]
      by_cases hji : j = i + 1
      · rw [if_pos hji, hji]
      · rw [if_neg hji]
        exact hI j (by omega))
    refine ⟨J, ?_, zScr_tr sc j1, j2, j3, j4, fun r a b => by rw [j5 r a b, zwA_n a, zwA_n b], fun j hj => by rw [j6 j hj, zwA_s, upd_at, if_neg hj]⟩
    rw [zq_222_8, h36, nI_pred, if_pos (zb_t (show i < 21 by omega) (by omega)), nI_clamp (show i < 2 ^ 31 by omega), hI i (Nat.le_refl _), if_neg (nI_ne n1 (by omega) (by omega)), if_pos (zb_t (show i < 21 by omega) (by omega)), zf221 hE hl hf hri hb n2 n3, zcI_some, zq_222_32, if_pos (zb_t (show i + 1 < 21 by omega) (by omega)), nI_clamp (show i + 1 < 2 ^ 31 by omega), h36, nI_1]
    exact e
theorem zwalkr {L : zLw} {st : zSt} {s : zQs} {I : Nat → Nat → Int32} (hE : zRe L st s I) {l a b C S : Nat} (hl : l ≤ 99) (hf : ¬ I 79 l = 0) (ha : a < st.P) (hb : b < st.P) (hw : zway (zcs L st l st.S) st.P a b = some (C, S)) {row : Nat → Nat} (h0 : row 0 = a) (hr : zrowp L st l b S row) :
    ∃ J, zf_222 [.ref 58, .int (nI a), .int (nI b), .int (nI l)] (zMk (s, I)) = some (.long 0, zMk (s, J)) ∧ zScr I J ∧ zRe L st s J ∧ J 58 36 = nI (S + 1) ∧ (∀ j, j ≤ S → J 80 j = nI (row j)) ∧ (∀ r, r ≠ 58 → r ≠ 80 → J r = I r) ∧ ∀ j, j ≠ 36 → J 58 j = I 58 j := by
  have hs := zEv_small (L := L) (s := s) hE.1
  have hP := zEv_P hE.1
  obtain ⟨h1, -⟩ := zway_s (hs l) hP ha hb hw
  have sc : zScr I (zwA (zwA I 58 (upd (I 58) 36 1)) 80 (upd (I 80) 0 (nI a))) := zScr_tr (zScr_f rfl _) (zScr_w (k := 80) rfl _)
  obtain ⟨J, e, j1, j2, j3, j4, j5, j6⟩ := zlp222 (s := s) hl hb h1 hr (nI a) S 0 _ (Nat.zero_add _) (zRe_fr hE sc (by rw [zwA_n (by decide), zwA_n (by decide)]) (by rw [zwA_n (by decide), zwA_n (by decide)]) (by rw [zwA_n (by decide), zwA_n (by decide)])) (by rw [zwA_n (by decide), zwA_n (by decide)]; exact hf) (by rw [zwA_n (by decide), zwA_s, upd_at, if_pos rfl]; rfl) (fun j hj => by
    have hj : j = 0 := by omega
    subst hj
    rw [zwA_s, upd_at, if_pos rfl, h0])
  refine ⟨J, ?_, zScr_tr sc j1, j2, j3, j4, fun r a b => by rw [j5 r a b, zwA_n b, zwA_n a], fun j hj => by rw [j6 j hj, zwA_n (by decide), zwA_s, upd_at, if_neg hj]⟩
  rw [zqz_222, zq_222_0]
  exact e
theorem zp_way {L : zLw} {st : zSt} {s : zQs} {I : Nat → Nat → Int32} (hE : zEv L st s I) (x1 x2 x3 x4 : Int32) : zPr L st s I (zf_146 [.ref 0, .int x1, .int x2, .int x3, .int x4]) (zf_223 [.ref 58, .int x1, .int x2, .int x3, .int x4]) := by
  have hP := zEv_P hE.1
  have p1 := zEv_p1 hE.1
  have p2 := zEv_p2 hE.1
  have hs := zEv_small (L := L) (s := s) hE.1
  by_cases h1 : zlt x1 st.P
  case neg =>
    refine zPr_same hE (v := -1) ?_ ?_
    · rw [zqz_146, zq_146_0, isP1_f p1 hP h1, zcI_some, zq_146_4, if_pos rfl]
    · rw [zqz_223, zq_223_0, isP2_f p2 hP h1, zcI_some, zq_223_3, if_pos rfl]
  by_cases h2 : zlt x2 st.P
  case neg =>
    refine zPr_same hE (v := -1) ?_ ?_
    · rw [zqz_146, zq_146_0, isP1_t p1 hP h1, zcI_some, zq_146_4, if_neg (by decide), isP1_f p1 hP h2, zcI_some, zq_146_9, if_pos rfl]
    · rw [zqz_223, zq_223_0, isP2_t p2 hP h1, zcI_some, zq_223_3, if_neg (by decide), isP2_f p2 hP h2, zcI_some, zq_223_7, if_pos rfl]
  by_cases h3 : zin x3 99
  case neg =>
    refine zPr_same hE (v := -1) ?_ ?_
    · rw [zqz_146, zq_146_0, isP1_t p1 hP h1, zcI_some, zq_146_4, if_neg (by decide), isP1_t p1 hP h2, zcI_some, zq_146_9, if_neg (by decide), wi_f (m := 99) 99 rfl (by decide) h3, zcI_some, zq_146_13, if_neg (not_not_intro rfl)]
    · rw [zqz_223, zq_223_0, isP2_t p2 hP h1, zcI_some, zq_223_3, if_neg (by decide), isP2_t p2 hP h2, zcI_some, zq_223_7, if_neg (by decide), zl_214]
      by_cases h0 : x3 < 0
      · rw [if_pos h0, zcI_some, zq_223_10, if_pos rfl]
      · rw [if_neg h0, if_pos (show 100 ≤ x3 from Classical.byContradiction fun q => h3 (by obtain ⟨j, hj, e⟩ := (zlt_iff (P := 100) (by decide)).mpr ⟨h0, q⟩; exact ⟨j, by omega, e⟩)), zcI_some, zq_223_10, if_pos rfl]
  have w3 := wi_t (s := s) (I := I) (m := 99) 99 rfl (by decide) h3
  have h1' := h1
  have h2' := h2
  obtain ⟨l, hl, rfl⟩ := h3
  have r3 : ∀ s J, zf_214 [.int (nI l)] (zMk (s, J)) = some (.int 1, zMk (s, J)) := fun s J => by rw [zl_214, if_neg (nI_pos (by omega)), if_neg (show ¬ (100 : Int32) ≤ nI l from nI_ge (b := 100) (by omega) (by decide))]
  by_cases h4 : x4 < (-1) ∨ ¬ x4 ≤ 20
  case pos =>
    have r4 : zf_179 [.int x4, .int (-1), .int 20] (zMk (s, I)) = some (.int 0, zMk (s, I)) := by
      rw [zl_179]
      rcases h4 with h | h
      · rw [if_pos h]
      · by_cases h' : x4 < (-1)
        · rw [if_pos h']
        · rw [if_neg h', if_pos (Int32.not_le.mp h)]
    refine zPr_same hE (v := -1) ?_ ?_
    · rw [zqz_146, zq_146_0, isP1_t p1 hP h1, zcI_some, zq_146_4, if_neg (by decide), isP1_t p1 hP h2, zcI_some, zq_146_9, if_neg (by decide), w3, zcI_some, zq_146_13, if_pos (show ¬ (1 : Int32) = 0 by decide)]
      rcases h4 with h | h
      · rw [if_pos h]
      · by_cases h' : x4 < (-1)
        · rw [if_pos h']
        · rw [if_neg h', if_neg h]
    · rw [zqz_223, zq_223_0, isP2_t p2 hP h1, zcI_some, zq_223_3, if_neg (by decide), isP2_t p2 hP h2, zcI_some, zq_223_7, if_neg (by decide), r3, zcI_some, zq_223_10, if_neg (by decide), r4, zcI_some, zq_223_15, if_neg (not_not_intro rfl)]
  have h4a : ¬ x4 < (-1) := fun q => h4 (Or.inl q)
  have h4b : x4 ≤ 20 := Classical.byContradiction fun q => h4 (Or.inr q)
  have r4 : ∀ s J, zf_179 [.int x4, .int (-1), .int 20] (zMk (s, J)) = some (.int 1, zMk (s, J)) := fun s J => by rw [zl_179, if_neg h4a, if_neg (Int32.not_lt.mpr h4b)]
  obtain ⟨s1, J1, e1, hE1, hF1, -, cv, hs1⟩ := zfresh hE hl
  obtain ⟨a, ha, rfl⟩ := h1
  obtain ⟨b, hb, rfl⟩ := h2
  obtain ⟨J2, e2, g2, hR2, -⟩ := zbegins hE1
  obtain ⟨J3, e3, g3, hR3, l3, -⟩ := zf219 hR2 hl ha hb
  have q2 := zEv_p2 hE1.1
  have cst : zf_146 [.ref 0, .int (nI a), .int (nI b), .int (nI l), .int x4] (zMk (s, I)) = zQ_146 (34, [.ref 0, .int (nI a), .int (nI b), .int (nI l), .int x4, .long 0, .long 0], [.int (nI (zC1 (zdc L st l a b)))], zMk (s1, J1)) := by
    rw [zqz_146, zq_146_0, isP1_t p1 hP h1', zcI_some, zq_146_4, if_neg (by decide), isP1_t p1 hP h2', zcI_some, zq_146_9, if_neg (by decide), w3, zcI_some, zq_146_13, if_pos (show ¬ (1 : Int32) = 0 by decide), if_neg h4a, if_pos h4b, e1, zcV_some, zq_146_28, zf121 hE1 hl hF1 ha hb, zcI_some]
  have rst : zf_223 [.ref 58, .int (nI a), .int (nI b), .int (nI l), .int x4] (zMk (s1, J1)) = zQ_223 (25, [.ref 58, .int (nI a), .int (nI b), .int (nI l), .int x4, .long 0], [.int (nI (zk64 (zcs L st l st.S) st.P a b))], zMk (s1, J3)) := by
    rw [zqz_223, zq_223_0, isP2_t q2 hP h1', zcI_some, zq_223_3, if_neg (by decide), isP2_t q2 hP h2', zcI_some, zq_223_7, if_neg (by decide), r3, zcI_some, zq_223_10, if_neg (by decide), r4, zcI_some, zq_223_15, if_pos (show ¬ (1 : Int32) = 0 by decide), e2, zcV_some, zq_223_20, e3, zcI_some]
  have g23 := zScr_tr g2 (zScr_Rs g3)
  obtain ⟨-, -, -, kb⟩ := zk_cost (L := L) (l := l) hs hP ha hb
  cases hw : zway (zcs L st l st.S) st.P a b with
  | none =>
    obtain ⟨n1, n2⟩ := zway_n (hs l) hP ha hb hw
    have hd : zdc L st l a b = none := by unfold zdc; rw [hw]; rfl
    refine zPr_mk (v := -2) (s1 := s1) (I1 := J1) (I2 := J3) ?_ ?_ (zEv_Scr hE1 g23) (zXe_tr (zXe_Cv cv) (zXe_Scr g23))
    · rw [cst, zq_146_34, hd, if_neg (show ¬ nI (zC1 none) < (100000000 : Int32) by decide)]
    · rw [rst, zq_223_25, if_neg (show ¬ nI (zk64 (zcs L st l st.S) st.P a b) < (1000000000 : Int32) from nI_nlt (b := 1000000000) n1 (by omega))]
  | some q =>
    obtain ⟨C, S⟩ := q
    obtain ⟨m1, m2, m3, m4⟩ := zway_s (hs l) hP ha hb hw
    have hd : zdc L st l a b = some C := by unfold zdc; rw [hw]; rfl
    have c1 : nI (zC1 (some C)) < (100000000 : Int32) := nI_lt (b := 100000000) (show C < 100000000 by omega) (by decide)
    have c2 : nI (zk64 (zcs L st l st.S) st.P a b) < (1000000000 : Int32) := nI_lt (b := 1000000000) (by omega) (by decide)
    have d1 : nI (zk64 (zcs L st l st.S) st.P a b) / 64 = nI C := by rw [show nI (zk64 (zcs L st l st.S) st.P a b) / 64 = nI (zk64 (zcs L st l st.S) st.P a b / 64) from nI_div _ 64 (by omega) (by decide), m3, show (64 * C + S) / 64 = C by omega]
    have d2 : nI (zk64 (zcs L st l st.S) st.P a b) - nI (zk64 (zcs L st l st.S) st.P a b) / 64 * 64 = nI S := by rw [show nI (zk64 (zcs L st l st.S) st.P a b) - nI (zk64 (zcs L st l st.S) st.P a b) / 64 * 64 = nI (zk64 (zcs L st l st.S) st.P a b % 64) from nI_rem _ 64 (by omega) (by decide), m3, show (64 * C + S) % 64 = S by omega]
    by_cases hm : x4 = -1
    · subst hm
      refine zPr_mk (v := nI C) (s1 := s1) (I1 := J1) (I2 := J3) ?_ ?_ (zEv_Scr hE1 g23) (zXe_tr (zXe_Cv cv) (zXe_Scr g23))
      · rw [cst, zq_146_34, hd, if_pos c1, if_neg (not_not_intro rfl)]
        rfl
      · rw [rst, zq_223_25, if_pos c2, if_neg (not_not_intro rfl), d1]
    obtain ⟨row, w0, wr⟩ := zpath hs hP hb S C a ha hw
    obtain ⟨J4, e4, sc4, k4, k5, -⟩ := zwalkc hE1 hl hF1 ha hb hw w0 wr
    have hE4 := zEv_Scr hE1 sc4
    /- the reference behind the class's walk -/
    obtain ⟨J2, e2, g2, hR2, -⟩ := zbegins hE4
    obtain ⟨J3, e3, g3, hR3, l3, -⟩ := zf219 hR2 hl ha hb
    have q2 := zEv_p2 hE4.1
    have g23 := zScr_tr g2 (zScr_Rs g3)
    have rst : zf_223 [.ref 58, .int (nI a), .int (nI b), .int (nI l), .int x4] (zMk (s1, J4)) = zQ_223 (25, [.ref 58, .int (nI a), .int (nI b), .int (nI l), .int x4, .long 0], [.int (nI (zk64 (zcs L st l st.S) st.P a b))], zMk (s1, J3)) := by
      rw [zqz_223, zq_223_0, isP2_t q2 hP h1', zcI_some, zq_223_3, if_neg (by decide), isP2_t q2 hP h2', zcI_some, zq_223_7, if_neg (by decide), r3, zcI_some, zq_223_10, if_neg (by decide), r4, zcI_some, zq_223_15, if_pos (show ¬ (1 : Int32) = 0 by decide), e2, zcV_some, zq_223_20, e3, zcI_some]
    by_cases h20 : x4 = 20
    · subst h20
      refine zPr_mk (v := nI S) (s1 := s1) (I1 := J4) (I2 := J3) ?_ ?_ (zEv_Scr hE4 g23) (zXe_tr (zXe_Cv cv) (zXe_Scr (zScr_tr sc4 g23)))
      · rw [cst, zq_146_34, hd, if_pos c1, if_pos hm, e4, zcI_some, zq_146_51, if_neg (not_not_intro rfl), nI_pred, zq_146_63]
      · rw [rst, zq_223_25, if_pos c2, if_pos hm, if_neg (not_not_intro rfl), d2]
    · have hx4 : ∃ j, j < 20 ∧ x4 = nI j := by
        rcases pk_ix x4 (n := 20) (by decide) with h | h | h
        · exfalso
          have a1 : x4.toInt < 0 := by have := Int32.lt_iff_toInt_lt.mp h; rwa [show (0 : Int32).toInt = 0 from rfl] at this
          have a2 : -1 ≤ x4.toInt := by have := Int32.le_iff_toInt_le.mp (Int32.not_lt.mp h4a); rwa [show ((-1 : Int32)).toInt = -1 by decide] at this
          exact hm (Int32.toInt_inj.mp (by rw [show ((-1 : Int32)).toInt = -1 by decide]; omega))
        · exact absurd (Int32.le_antisymm h4b h) h20
        · exact h
      obtain ⟨j, hj, rfl⟩ := hx4
      obtain ⟨J5, e5, sc5, -, m36, mr, -⟩ := zwalkr hR3 hl l3 ha hb hw w0 wr
      refine zPr_mk (v := if S + 1 ≤ j then -1 else nI (row j)) (s1 := s1) (I1 := J4) (I2 := J5) ?_ ?_ (zEv_Scr hE4 (zScr_tr g23 sc5)) (zXe_tr (zXe_Cv cv) (zXe_Scr (zScr_tr sc4 (zScr_tr g23 sc5))))
      · rw [cst, zq_146_34, hd, if_pos c1, if_pos hm, e4, zcI_some, zq_146_51, if_pos h20, zl_124, if_neg (nI_pos (by omega)), k4]
        by_cases hjs : S + 1 ≤ j
        · rw [if_pos (nI_le hjs (by omega)), if_pos hjs, zcI_some, zq_146_63]
        · rw [if_neg (nI_ge (by omega) (by omega)), if_neg hjs, if_pos (zb_t hj (by omega)), zcI_some, zq_146_63, nI_clamp (show j < 2 ^ 31 by omega), k5 j (by omega)]
      · rw [rst, zq_223_25, if_pos c2, if_pos hm, if_pos h20, e5, zcV_some, zq_223_50, m36]
        by_cases hjs : S + 1 ≤ j
        · rw [if_pos (nI_le hjs (by omega)), if_pos hjs]
        · rw [if_neg (nI_ge (by omega) (by omega)), if_neg hjs, if_pos (zb_t (show j < 21 by omega) (by omega)), nI_clamp (show j < 2 ^ 31 by omega), mr j (by omega)]
