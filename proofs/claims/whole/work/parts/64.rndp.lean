/-! ROUNDS: PLAIN NUMBERS -/
def zsw (w : Nat → Nat) (A : Nat) : Nat → Nat
  | 0 => 0
  | n + 1 => zsw w A n + (if A.testBit n = true then w n else 0)
theorem zsw_s (w : Nat → Nat) (A n : Nat) : zsw w A (n + 1) = zsw w A n + (if A.testBit n = true then w n else 0) := rfl
theorem zsw_le {w : Nat → Nat} {A B : Nat} : ∀ n, (∀ i, i < n → A.testBit i = true → w i ≤ B) → zsw w A n ≤ B * n
  | 0, _ => Nat.zero_le _
  | n + 1, h => by
    have h1 := zsw_le n (fun i hi hb => h i (by omega) hb)
    rw [zsw_s, Nat.mul_succ]
    split
    · rename_i hb
      have := h n (by omega) hb
      omega
    · omega
def zld (st : zSt) (A : Nat) : Nat := zsw st.ew A 8
/-- a set of told errands -/
def zEs (st : zSt) (X : Nat) : Prop := X < 256 ∧ ∀ i, i < 8 → X.testBit i = true → st.E.testBit i = true
theorem zEs_sub {st : zSt} {A X : Nat} (h : zEs st X) (hA : A < 256) (hs : A &&& X = A) : zEs st A := ⟨hA, fun i hi hb => h.2 i hi (zset_b hs i hb)⟩
theorem zld_le {st : zSt} {I : Nat → Nat → Int32} (hR : RepW st I) {A : Nat} (hA : zEs st A) : zld st A ≤ 96 := by
  obtain ⟨-, -, -, he⟩ := hR.2.2.2.2.1
  exact zsw_le (B := 12) 8 (fun i hi hb => (he i hi (hA.2 i hi hb)).2.1)
theorem or_add : ∀ A, A < 256 → ∀ e, e < 8 → A.testBit e = false → A ||| 2 ^ e = A + 2 ^ e ∧ A + 2 ^ e < 256 := by
  have h : ∀ A, A < 256 → ∀ e, e < 8 → (A.testBit e == false && !(decide (A ||| 2 ^ e = A + 2 ^ e) && decide (A + 2 ^ e < 256))) = false := by decide +kernel
  intro A hA e he hb
  have := h A hA e he
  rw [hb] at this
  simpa using this
def zdiff (X A : Nat) : Nat := X &&& (A ^^^ 255)
theorem zdiff_b (X A : Nat) {e : Nat} (he : e < 8) : (zdiff X A).testBit e = (X.testBit e && !A.testBit e) := by
  have h : ∀ e, e < 8 → (255 : Nat).testBit e = true := by decide
  unfold zdiff
  rw [Nat.testBit_and, Nat.testBit_xor, h e he]
  simp
theorem zdiff_lt {X : Nat} (hX : X < 256) (A : Nat) : zdiff X A < 256 := Nat.lt_of_le_of_lt Nat.and_le_left hX
theorem nI_diff {X A : Nat} (hX : X < 256) (hA : A < 256) : nI X &&& (nI A ^^^ (-1)) = nI (zdiff X A) := by
  apply Int32.toBitVec_inj.mp
  apply BitVec.eq_of_getLsbD_eq
  intro i hi
  show (BitVec.ofNat 32 X &&& (BitVec.ofNat 32 A ^^^ (-1 : Int32).toBitVec)).getLsbD i = (BitVec.ofNat 32 (zdiff X A)).getLsbD i
  have hm : ∀ k, k < 32 → ((-1 : Int32).toBitVec).getLsbD k = true := by decide +kernel
  have h255 : ∀ k, k < 32 → (255 : Nat).testBit k = decide (k < 8) := by decide
  rw [BitVec.getLsbD_and, BitVec.getLsbD_xor, BitVec.getLsbD_ofNat, BitVec.getLsbD_ofNat, BitVec.getLsbD_ofNat, hm i hi]
  unfold zdiff
  rw [Nat.testBit_and, Nat.testBit_xor, h255 i hi]
  by_cases h8 : i < 8
  · simp [hi, h8]
  · have : X.testBit i = false := Nat.testBit_lt_two_pow (Nat.lt_of_lt_of_le hX (show 2 ^ 8 ≤ 2 ^ i from Nat.pow_le_pow_right (by decide) (by omega)))
    simp [this]
theorem zam_cg {f g : Nat → Option Nat} : ∀ n, (∀ j, j < n → f j = g j) → zam f n = zam g n
  | 0, _ => rfl
  | n + 1, h => by rw [zam_s, zam_s, h n (by omega), zam_cg n (fun j hj => h j (by omega))]
theorem zam_first {f : Nat → Option Nat} : ∀ n i y, zam f n = some (i, y) → (∀ j, j < i → f j ≠ some y) ∧ ∀ j z, j < n → f j = some z → y ≤ z
  | 0, _, _, h => by cases h
  | n + 1, i, y, h => by
    rw [zam_s] at h
    cases hf : f n with
    | none =>
      rw [hf] at h
      obtain ⟨a, b⟩ := zam_first n i y h
      refine ⟨a, fun j z hj hz => ?_⟩
      by_cases e : j = n
      · rw [e, hf] at hz
        cases hz
      · exact b j z (by omega) hz
    | some x =>
      rw [hf] at h
      cases hz : zam f n with
      | none =>
        rw [hz] at h
        have h := Option.some.inj h
        have e1 := (Prod.mk.inj h).1
        have e2 := (Prod.mk.inj h).2
        subst e1; subst e2
        have hn : ∀ j, j < n → f j = none := by
          have : ∀ m, zam f m = none → ∀ j, j < m → f j = none := by
            intro m
            induction m with
            | zero => exact fun _ j hj => absurd hj (Nat.not_lt_zero j)
            | succ m ih =>
              intro hm j hj
              rw [zam_s] at hm
              cases hfm : f m with
              | none =>
                rw [hfm] at hm
                by_cases e : j = m
                · rw [e, hfm]
                · exact ih hm j (by omega)
              | some u =>
                rw [hfm] at hm
                cases hzm : zam f m with
                | none => rw [hzm] at hm; cases hm
                | some r =>
                  obtain ⟨a, b⟩ := r
                  rw [hzm] at hm
                  have hm : (if u < b then some (m, u) else some (a, b)) = none := hm
                  split at hm <;> cases hm
          exact this n hz
        refine ⟨fun j hj e => ?_, fun j z hj hz => ?_⟩
        · rw [hn j hj] at e
          cases e
        · by_cases e : j = n
          · rw [e, hf] at hz
            rw [Option.some.inj hz]
            exact Nat.le_refl _
          · rw [hn j (by omega)] at hz
            cases hz
      | some p =>
        obtain ⟨k, w⟩ := p
        obtain ⟨a, b⟩ := zam_first n k w hz
        rw [hz] at h
        have h : (if x < w then some (n, x) else some (k, w)) = some (i, y) := h
        by_cases hlt : x < w
        · rw [if_pos hlt] at h
          have h := Option.some.inj h
          have e1 := (Prod.mk.inj h).1
          have e2 := (Prod.mk.inj h).2
          subst e1; subst e2
          refine ⟨fun j hj e => ?_, fun j z hj hz => ?_⟩
          · have := b j x hj e
            omega
          · by_cases e : j = n
            · rw [e, hf] at hz
              rw [Option.some.inj hz]
              exact Nat.le_refl _
            · have := b j z (by omega) hz
              omega
        · rw [if_neg hlt] at h
          have h := Option.some.inj h
          have e1 := (Prod.mk.inj h).1
          have e2 := (Prod.mk.inj h).2
          subst e1; subst e2
          refine ⟨a, fun j z hj hz => ?_⟩
          by_cases e : j = n
          · rw [e, hf] at hz
            have := Option.some.inj hz
            omega
          · exact b j z (by omega) hz
theorem zam_none {f : Nat → Option Nat} : ∀ n, zam f n = none → ∀ j, j < n → f j = none := by
  intro m
  induction m with
  | zero => exact fun _ j hj => absurd hj (Nat.not_lt_zero j)
  | succ m ih =>
    intro hm j hj
    rw [zam_s] at hm
    cases hfm : f m with
    | none =>
      rw [hfm] at hm
      by_cases e : j = m
      · rw [e, hfm]
      · exact ih hm j (by omega)
    | some u =>
      rw [hfm] at hm
      cases hzm : zam f m with
      | none => rw [hzm] at hm; cases hm
      | some r =>
        obtain ⟨a, b⟩ := r
        rw [hzm] at hm
        have hm : (if u < b then some (m, u) else some (a, b)) = none := hm
        split at hm <;> cases hm
/-- what is still to be paid, by the places' errands done -/
def zrd (L : zLw) (st : zSt) (X home : Nat) : Nat → Nat → Nat → Option Nat
  | 0, _, _ => none
  | d + 1, A, here => if A = X then zdc L st (zld st A) here home else
    (zam (fun e => if X.testBit e = true ∧ A.testBit e = false then zsm (zdc L st (zld st A) here (st.ea e)) (zrd L st X home d (A ||| 2 ^ e) (st.ea e)) else none) 8).map (fun p => p.2)
theorem zrd_s (L : zLw) (st : zSt) (X home d A here : Nat) : zrd L st X home (d + 1) A here = if A = X then zdc L st (zld st A) here home else
    (zam (fun e => if X.testBit e = true ∧ A.testBit e = false then zsm (zdc L st (zld st A) here (st.ea e)) (zrd L st X home d (A ||| 2 ^ e) (st.ea e)) else none) 8).map (fun p => p.2) := rfl
theorem zrd_more {L : zLw} {st : zSt} {X home : Nat} (k : Nat) : ∀ d A here, A < 256 → 256 ≤ A + d → zrd L st X home (d + k) A here = zrd L st X home d A here
  | 0, A, here, h1, h2 => absurd h1 (by omega)
  | d + 1, A, here, h1, h2 => by
    rw [show d + 1 + k = d + k + 1 by omega, zrd_s, zrd_s]
    congr 2
    apply zam_cg
    intro e he
    by_cases hc : X.testBit e = true ∧ A.testBit e = false
    · obtain ⟨o1, o2⟩ := or_add A h1 e he hc.2
      have : 0 < 2 ^ e := Nat.two_pow_pos e
      rw [if_pos hc, if_pos hc, zrd_more k d (A ||| 2 ^ e) (st.ea e) (by omega) (by omega)]
    · rw [if_neg hc, if_neg hc]
def zrs (L : zLw) (st : zSt) (X home A here : Nat) : Option Nat := zrd L st X home (256 - A) A here
def zrg (L : zLw) (st : zSt) (X home A here e : Nat) : Option Nat := if X.testBit e = true ∧ A.testBit e = false then zsm (zdc L st (zld st A) here (st.ea e)) (zrs L st X home (A ||| 2 ^ e) (st.ea e)) else none
theorem zrs_eq {L : zLw} {st : zSt} {X home A here : Nat} (h : A < 256) : zrs L st X home A here = if A = X then zdc L st (zld st A) here home else (zam (zrg L st X home A here) 8).map (fun p => p.2) := by
  have e0 : 256 - A = 255 - A + 1 := by omega
  show zrd L st X home (256 - A) A here = _
  rw [e0, zrd_s]
  congr 2
  apply zam_cg
  intro e he
  unfold zrg
  by_cases hc : X.testBit e = true ∧ A.testBit e = false
  · obtain ⟨o1, o2⟩ := or_add A h e he hc.2
    have : 0 < 2 ^ e := Nat.two_pow_pos e
    rw [if_pos hc, if_pos hc]
    congr 1
    show _ = zrd L st X home (256 - (A ||| 2 ^ e)) (A ||| 2 ^ e) (st.ea e)
    have := zrd_more (L := L) (st := st) (X := X) (home := home) (255 - A - (256 - (A ||| 2 ^ e))) (256 - (A ||| 2 ^ e)) (A ||| 2 ^ e) (st.ea e) (by omega) (by omega)
    rw [show 256 - (A ||| 2 ^ e) + (255 - A - (256 - (A ||| 2 ^ e))) = 255 - A by omega] at this
    exact this
  · rw [if_neg hc, if_neg hc]
theorem zrd_le {L : zLw} {st : zSt} (hs : zsmall L st) (hP : st.P ≤ 20) {X home : Nat} (hX : ∀ e, e < 8 → X.testBit e = true → st.ea e < st.P) (hh : home < st.P) : ∀ d A here x, here < st.P → zrd L st X home d A here = some x → x ≤ 189981 * d
  | 0, _, _, _, _, h => by cases h
  | d + 1, A, here, x, hp, h => by
    rw [zrd_s] at h
    split at h
    · have := zdc_le hs hP hp hh h
      omega
    · cases hz : zam (fun e => if X.testBit e = true ∧ A.testBit e = false then zsm (zdc L st (zld st A) here (st.ea e)) (zrd L st X home d (A ||| 2 ^ e) (st.ea e)) else none) 8 with
      | none => rw [hz] at h; cases h
      | some p =>
        obtain ⟨i, y⟩ := p
        rw [hz] at h
        have h : y = x := Option.some.inj h
        subst h
        obtain ⟨z1, z2⟩ := zam_in 8 i y hz
        have z2 : (if X.testBit i = true ∧ A.testBit i = false then zsm (zdc L st (zld st A) here (st.ea i)) (zrd L st X home d (A ||| 2 ^ i) (st.ea i)) else none) = some y := z2
        split at z2
        · rename_i hc
          obtain ⟨u, v, a, b, c⟩ := zsm_some z2
          have hi := hX i z1 hc.1
          have := zdc_le hs hP hp hi a
          have := zrd_le hs hP hX hh d _ _ v hi b
          omega
        · cases z2
theorem zrs_le {L : zLw} {st : zSt} (hs : zsmall L st) (hP : st.P ≤ 20) {X home A here x : Nat} (hX : ∀ e, e < 8 → X.testBit e = true → st.ea e < st.P) (hh : home < st.P) (hp : here < st.P) (h : zrs L st X home A here = some x) : x ≤ 48635136 := by
  have := zrd_le hs hP hX hh _ _ _ _ hp h
  have : 189981 * (256 - A) ≤ 189981 * 256 := Nat.mul_le_mul_left _ (by omega)
  omega
theorem zrg_le {L : zLw} {st : zSt} (hs : zsmall L st) (hP : st.P ≤ 20) {X home A here e x : Nat} (he : e < 8) (hX : ∀ e, e < 8 → X.testBit e = true → st.ea e < st.P) (hh : home < st.P) (hp : here < st.P) (h : zrg L st X home A here e = some x) : x ≤ 48825117 := by
  unfold zrg at h
  split at h
  · rename_i hc
    obtain ⟨u, v, a, b, c⟩ := zsm_some h
    have := zdc_le hs hP hp (hX e he hc.1) a
    have := zrs_le hs hP hX hh (hX e he hc.1) b
    omega
  · cases h
theorem zEs_ea {st : zSt} {I : Nat → Nat → Int32} (hR : RepW st I) {X : Nat} (hX : zEs st X) : ∀ e, e < 8 → X.testBit e = true → st.ea e < st.P := fun e he hb => (hR.2.2.2.2.1.2.2.2 e he (hX.2 e he hb)).1
theorem zC1_s {a b : Option Nat} (ha : ∀ x, a = some x → x ≤ 100000000) (hb : ∀ x, b = some x → x ≤ 100000000) : zcn1 (zsm a b) (zC1 a + zC1 b) := by
  cases a with
  | none =>
    cases b with
    | none => exact ⟨by decide, by decide⟩
    | some y =>
      have := hb y rfl
      exact ⟨Nat.le_add_right _ _, by show 100000000 + y ≤ _; omega⟩
  | some x =>
    have := ha x rfl
    cases b with
    | none => exact ⟨Nat.le_add_left _ _, by show x + 100000000 ≤ _; omega⟩
    | some y => exact rfl
/-! the class -/
theorem zlp76 (s : zQs) {st : zSt} {I : Nat → Nat → Int32} (hR : RepW st I) {A : Nat} (hA : zEs st A) : ∀ m i, i + m = 8 → zQ_76 (4, [.ref 42, .int (nI A), .int (nI (zsw st.ew A i)), .int (nI i)], [], zMk (s, I)) = some (.int (nI (zld st A)), zMk (s, I))
  | 0, i, h => by
    have h : i = 8 := by omega
    subst h
    rw [zq_76_4, if_pos (show (8 : Int32) ≤ nI 8 by decide)]
    rfl
  | m + 1, i, h => by
    have hi : i < 8 := by omega
    have nx := zlp76 s hR hA m (i + 1) (by omega)
    rw [zsw_s] at nx
    rw [zq_76_4, if_neg (show ¬ (8 : Int32) ≤ nI i from nI_ge (b := 8) hi (by decide)), bit_shr i hi A hA.1, nI_1]
    by_cases hb : A.testBit i = true
    · obtain ⟨-, -, -, he⟩ := hR.2.2.2.2.1
      obtain ⟨e1, e2, e3, e4, e5, -⟩ := he i hi (hA.2 i hi hb)
      rw [if_pos hb] at nx
      rw [if_pos hb, if_neg (show ¬ (1 : Int32) = 0 by decide), if_pos (zb_t hi (by omega)), nI_clamp (show i < 2 ^ 31 by omega), e5, nI_add]
      exact nx
    · rw [if_neg hb] at nx
      rw [if_neg hb, if_pos rfl]
      exact nx
theorem zf76 (s : zQs) {st : zSt} {I : Nat → Nat → Int32} (hR : RepW st I) {A : Nat} (hA : zEs st A) : zf_76 [.ref 42, .int (nI A)] (zMk (s, I)) = some (.int (nI (zld st A)), zMk (s, I)) := by
  rw [zqz_76, zq_76_0]
  exact zlp76 s hR hA 8 0 rfl
theorem zlp225 (s : zQs) {st : zSt} {I : Nat → Nat → Int32} (hR : RepW st I) {A : Nat} (hA : zEs st A) : ∀ m i, i + m = 8 → zQ_225 (4, [.ref 58, .int (nI A), .int (nI (zsw st.ew A i)), .int (nI i)], [], zMk (s, I)) = some (.int (nI (zld st A)), zMk (s, I))
  | 0, i, h => by
    have h : i = 8 := by omega
    subst h
    rw [zq_225_4, if_pos (show (8 : Int32) ≤ nI 8 by decide)]
    rfl
  | m + 1, i, h => by
    have hi : i < 8 := by omega
    have nx := zlp225 s hR hA m (i + 1) (by omega)
    rw [zsw_s] at nx
    rw [zq_225_4, if_neg (show ¬ (8 : Int32) ≤ nI i from nI_ge (b := 8) hi (by decide)), bit_shr i hi A hA.1, nI_1]
    by_cases hb : A.testBit i = true
    · obtain ⟨-, -, -, he⟩ := hR.2.2.2.2.1
      obtain ⟨e1, e2, e3, e4, e5, e6, e7, e8, -⟩ := he i hi (hA.2 i hi hb)
      rw [if_pos hb] at nx
      rw [if_pos hb, if_neg (not_not_intro rfl), if_pos (zb_t hi (by omega)), nI_clamp (show i < 2 ^ 31 by omega), e8, nI_add]
      exact nx
    · rw [if_neg hb] at nx
      rw [if_neg hb, if_pos (show ¬ (0 : Int32) = 1 by decide), show nI (zsw st.ew A i) + 0 = nI (zsw st.ew A i + 0) from nI_add _ 0]
      exact nx
theorem zf225 (s : zQs) {st : zSt} {I : Nat → Nat → Int32} (hR : RepW st I) {A : Nat} (hA : zEs st A) : zf_225 [.ref 58, .int (nI A)] (zMk (s, I)) = some (.int (nI (zld st A)), zMk (s, I)) := by
  rw [zqz_225, zq_225_0]
  exact zlp225 s hR hA 8 0 rfl
/-- ways are fresh for all loads of a round -/
def zFx (L : zLw) (st : zSt) (X : Nat) (s : zQs) (I : Nat → Nat → Int32) : Prop := ∀ A, A < 256 → A &&& X = A → zFsh L st s I (zld st A)
theorem zlp77 {L : zLw} {st : zSt} {X : Nat} (hX : zEs st X) : ∀ m k (s : zQs) (I : Nat → Nat → Int32), k + m = X + 1 → zEv L st s I → (∀ A, A < k → A &&& X = A → zFsh L st s I (zld st A)) →
    ∃ s' J, zQ_77 (2, [.ref 42, .int (nI X), .int (nI k)], [], zMk (s, I)) = some (.long 0, zMk (s', J)) ∧ zEv L st s' J ∧ zFx L st X s' J ∧ zCv I J ∧ s'.2.2 = s.2.2
  | 0, k, s, I, h, hE, hf => by
    have h : k = X + 1 := by omega
    subst h
    have hX1 := hX.1
    refine ⟨s, I, ?_, hE, fun A hA hs => ?_, zCv_rfl I, rfl⟩
    · rw [zq_77_2, if_pos (nI_lt (by omega) (by omega))]
    · have : A ≤ X := by rw [← hs]; exact Nat.and_le_right
      exact hf A (by omega) hs
  | m + 1, k, s, I, h, hE, hf => by
    have hk : k ≤ X := by omega
    have hX1 := hX.1
    rw [zq_77_2, if_neg (nI_nlt hk (by omega))]
    by_cases hs : k &&& X = k
    · have hA := zEs_sub hX (by omega) hs
      have hl := zld_le hE.1 hA
      obtain ⟨s1, J1, e1, h1, h2, h3, h4, h5⟩ := zfresh hE (l := zld st k) (by omega)
      obtain ⟨s2, J2, e2, k1, k2, k3, k4⟩ := zlp77 hX m (k + 1) s1 J1 (by omega) h1 (fun A hA' hs' => by
        by_cases e : A = k
        · rw [e]
          exact h2
        · have := zld_le hE.1 (zEs_sub hX (show A < 256 by omega) hs')
          exact h3 _ (by omega) (hf A (by omega) hs'))
      refine ⟨s2, J2, ?_, k1, k2, zCv_tr h4 k3, k4.trans h5⟩
      rw [if_neg (not_not_intro (by rw [bit_sub X hX1 k (by omega)]; exact hs)), zf76 s hE.1 hA, zcI_some, zq_77_16, e1, zcV_some, zq_77_17, nI_1]
      exact e2
    · rw [if_pos (show ¬ (nI k &&& (nI X ^^^ (-1)) = 0) by rw [bit_sub X hX1 k (by omega)]; exact hs), zq_77_17, nI_1]
      exact zlp77 hX m (k + 1) s I (by omega) hE (fun A hA' hs' => by
        by_cases e : A = k
        · rw [e] at hs'
          exact absurd hs' hs
        · exact hf A (by omega) hs')
theorem zf77 {L : zLw} {st : zSt} {X : Nat} (hX : zEs st X) {s : zQs} {I : Nat → Nat → Int32} (hE : zEv L st s I) :
    ∃ s' J, zf_77 [.ref 42, .int (nI X)] (zMk (s, I)) = some (.long 0, zMk (s', J)) ∧ zEv L st s' J ∧ zFx L st X s' J ∧ zCv I J ∧ s'.2.2 = s.2.2 := by
  rw [zqz_77, zq_77_0]
  exact zlp77 hX (X + 1) 0 s I (Nat.zero_add _) hE (fun A hA => absurd hA (Nat.not_lt_zero A))
/-- the class's row of what is still to be paid -/
def zR47 (L : zLw) (st : zSt) (X home : Nat) (I : Nat → Nat → Int32) (A : Nat) : Prop := ∀ l, l < 8 → A.testBit l = true → I 47 (A * 8 + l) = nI (zC1 (zrs L st X home A (st.ea l)))
theorem or_sub {A X e : Nat} (hA : A &&& X = A) (hb : X.testBit e = true) : (A ||| 2 ^ e) &&& X = A ||| 2 ^ e := by
  apply Nat.eq_of_testBit_eq
  intro i
  rw [Nat.testBit_and, Nat.testBit_or, Nat.testBit_two_pow]
  by_cases h : e = i
  · subst h
    simp [hb]
  · have := zset_b hA i
    cases hAi : A.testBit i with
    | true => rw [this hAi]; simp
    | false => simp [h]
theorem zf82 {L : zLw} {st : zSt} {X home : Nat} {s : zQs} {I : Nat → Nat → Int32} (hE : zEv L st s I) (hX : zEs st X) (hF : zFx L st X s I) (hh : home < st.P) {A here e : Nat} (hA : A < 256) (hs : A &&& X = A) (hp : here < st.P) (he : e < 8) (hb : X.testBit e = true) (hAe : A.testBit e = false) (h47 : zR47 L st X home I (A ||| 2 ^ e)) :
    ∃ c, zf_82 [.ref 42, .int (nI here), .int (nI A), .int (nI (zld st A)), .int (nI e)] (zMk (s, I)) = some (.int (nI c), zMk (s, I)) ∧ zcn1 (zrg L st X home A here e) c ∧ c ≤ 200000000 := by
  have hsm := zEv_small (L := L) (s := s) hE.1
  have hP := zEv_P hE.1
  have hea := zEs_ea hE.1 hX
  obtain ⟨-, -, -, hee⟩ := hE.1.2.2.2.2.1
  obtain ⟨e1, e2, e3, e4, -⟩ := hee e he (hX.2 e he hb)
  obtain ⟨o1, o2⟩ := or_add A hA e he hAe
  have hl := zld_le hE.1 (zEs_sub hX hA hs)
  have hbit : (A ||| 2 ^ e).testBit e = true := by
    rw [Nat.testBit_or, Nat.testBit_two_pow]
    simp
  have e5 : nI (A ||| 2 ^ e) * 8 + nI e = nI ((A ||| 2 ^ e) * 8 + e) := by rw [show nI (A ||| 2 ^ e) * 8 = nI ((A ||| 2 ^ e) * 8) from nI_mul _ 8, nI_add]
  have b1 := (zC1_le (fun x hx => zdc_le hsm hP hp e1 (l := zld st A) hx)).1
  have b2 : zC1 (zrs L st X home (A ||| 2 ^ e) (st.ea e)) ≤ 100000000 := by
    cases h : zrs L st X home (A ||| 2 ^ e) (st.ea e) with
    | none => exact Nat.le_refl _
    | some x => have := zrs_le hsm hP hea hh e1 h; show x ≤ _; omega
  refine ⟨zC1 (zdc L st (zld st A) here (st.ea e)) + zC1 (zrs L st X home (A ||| 2 ^ e) (st.ea e)), ?_, ?_, by omega⟩
  · rw [zqz_82, zq_82_0, if_pos (nI_m1 (by omega)), if_pos (zb_t he (by omega)), nI_clamp (show e < 2 ^ 31 by omega), e4, zf121 hE (by omega) (hF A hA hs) hp e1, zcI_some, zq_82_14, nI_or A hA e he, e5, if_pos (zb_t (show (A ||| 2 ^ e) * 8 + e < 2048 by omega) (by omega)), nI_clamp (show (A ||| 2 ^ e) * 8 + e < 2 ^ 31 by omega), h47 e he hbit, nI_add]
  · unfold zrg
    rw [if_pos ⟨hb, hAe⟩]
    exact zC1_s (fun x hx => by have := zdc_le hsm hP hp e1 hx; omega) (fun x hx => by have := zrs_le hsm hP hea hh e1 hx; omega)
theorem zamv_le {f : Nat → Option Nat} {n B : Nat} (hB : B ≤ 100000000) (hf : ∀ j x, j < n → f j = some x → x ≤ B) : zamv 100000000 (zam f n) ≤ 100000000 := by
  cases hz : zam f n with
  | none => exact Nat.le_refl _
  | some q =>
    obtain ⟨i, y⟩ := q
    obtain ⟨z1, z2⟩ := zam_in n i y hz
    have := hf i y z1 z2
    show y ≤ _
    omega
theorem zlp83 {L : zLw} {st : zSt} {X home : Nat} {s : zQs} {I : Nat → Nat → Int32} (hE : zEv L st s I) (hX : zEs st X) (hF : zFx L st X s I) (hh : home < st.P) {A here : Nat} (hA : A < 256) (hs : A &&& X = A) (hp : here < st.P) (h47 : ∀ B, A < B → B < 256 → B &&& X = B → zR47 L st X home I B) : ∀ m e (x8 : Value), e + m = 8 →
    zQ_83 (6, [.ref 42, .int (nI here), .int (nI X), .int (nI A), .int (nI (zld st A)), .int (zam1 (zam (zrg L st X home A here) e)), .int (nI (zamv 100000000 (zam (zrg L st X home A here) e))), .int (nI e), x8], [], zMk (s, I)) = some (.int (zam1 (zam (zrg L st X home A here) 8)), zMk (s, I))
  | 0, e, x8, h => by
    have h : e = 8 := by omega
    subst h
    rw [zq_83_6, if_pos (show (8 : Int32) ≤ nI 8 by decide)]
  | m + 1, e, x8, h => by
    have he : e < 8 := by omega
    have hsm := zEv_small (L := L) (s := s) hE.1
    have hP := zEv_P hE.1
    have hea := zEs_ea hE.1 hX
    rw [zq_83_6, if_neg (show ¬ (8 : Int32) ≤ nI e from nI_ge (b := 8) he (by decide)), nI_diff hX.1 hA, bit_shr e he _ (zdiff_lt hX.1 A), zdiff_b X A he]
    by_cases hc : X.testBit e = true ∧ A.testBit e = false
    · obtain ⟨o1, o2⟩ := or_add A hA e he hc.2
      have : 0 < 2 ^ e := Nat.two_pow_pos e
      obtain ⟨c, e1, c1, c2⟩ := zf82 hE hX hF hh hA hs hp he hc.1 hc.2 (h47 _ (by omega) (by omega) (or_sub hs hc.1))
      obtain ⟨k1, k2⟩ := zam_c (f := zrg L st X home A here) (n := e) (fun j x hj hx => by have := zrg_le hsm hP (show j < 8 by omega) hea hh hp hx; omega) c1
      have hv := zamv_le (f := zrg L st X home A here) (n := e) (B := 48825117) (by decide) (fun j x hj hx => zrg_le hsm hP (show j < 8 by omega) hea hh hp hx)
      rw [hc.1, hc.2, if_pos (show (true && !false) = true from rfl), if_neg (show ¬ (1 : Int32) = 0 by decide), e1, zcI_some, zq_83_25, nI_1]
      by_cases hle : zamv 100000000 (zam (zrg L st X home A here) e) ≤ c
      · rw [if_pos (nI_le hle (by omega)), ← k1 hle]
        exact zlp83 hE hX hF hh hA hs hp h47 m (e + 1) _ (by omega)
      · rw [if_neg (nI_ge (by omega) (by omega))]
        have nx := zlp83 hE hX hF hh hA hs hp h47 m (e + 1) (.int (nI c)) (by omega)
        rw [k2 hle] at nx
        exact nx
    · have hz : zrg L st X home A here e = none := if_neg hc
      have hs2 : zam (zrg L st X home A here) (e + 1) = zam (zrg L st X home A here) e := by rw [zam_s, hz]
      have hf : (X.testBit e && !A.testBit e) = false := by
        cases h1 : X.testBit e with
        | false => rfl
        | true =>
          cases h2 : A.testBit e with
          | true => rfl
          | false => exact absurd ⟨h1, h2⟩ hc
      rw [hf, if_neg (show ¬ (false = true) by decide), if_pos rfl, nI_1, ← hs2]
      exact zlp83 hE hX hF hh hA hs hp h47 m (e + 1) x8 (by omega)
theorem zf83 {L : zLw} {st : zSt} {X home : Nat} {s : zQs} {I : Nat → Nat → Int32} (hE : zEv L st s I) (hX : zEs st X) (hF : zFx L st X s I) (hh : home < st.P) {A here : Nat} (hA : A < 256) (hs : A &&& X = A) (hp : here < st.P) (h47 : ∀ B, A < B → B < 256 → B &&& X = B → zR47 L st X home I B) :
    zf_83 [.ref 42, .int (nI here), .int (nI X), .int (nI A), .int (nI (zld st A))] (zMk (s, I)) = some (.int (zam1 (zam (zrg L st X home A here) 8)), zMk (s, I)) := by
  rw [zqz_83, zq_83_0]
  exact zlp83 hE hX hF hh hA hs hp h47 8 0 (.long 0) rfl
/-- and the way through it -/
theorem zf82b {L : zLw} {st : zSt} {X home : Nat} {s : zQs} {I : Nat → Nat → Int32} (hE : zEv L st s I) (hX : zEs st X) (hF : zFx L st X s I) (hh : home < st.P) {A here : Nat} (hA : A < 256) (hs : A &&& X = A) (hp : here < st.P) (hAX : A ≠ X) (h47 : ∀ B, A < B → B < 256 → B &&& X = B → zR47 L st X home I B) :
    zf_82 [.ref 42, .int (nI here), .int (nI A), .int (nI (zld st A)), .int (zam1 (zam (zrg L st X home A here) 8))] (zMk (s, I)) = some (.int (nI (zC1 (zrs L st X home A here))), zMk (s, I)) := by
  rw [zrs_eq hA, if_neg hAX]
  cases hz : zam (zrg L st X home A here) 8 with
  | none =>
    rw [zqz_82, zq_82_0, if_neg (not_not_intro (show zam1 none = -1 from rfl))]
    rfl
  | some q =>
    obtain ⟨e, y⟩ := q
    obtain ⟨z1, z2⟩ := zam_in 8 e y hz
    have hc : X.testBit e = true ∧ A.testBit e = false := by
      unfold zrg at z2
      split at z2
      · assumption
      · cases z2
    obtain ⟨o1, o2⟩ := or_add A hA e z1 hc.2
    have : 0 < 2 ^ e := Nat.two_pow_pos e
    obtain ⟨c, e1, c1, c2⟩ := zf82 hE hX hF hh hA hs hp z1 hc.1 hc.2 (h47 _ (by omega) (by omega) (or_sub hs hc.1))
    rw [z2] at c1
    have c1 : c = y := c1
    subst c1
    exact e1
