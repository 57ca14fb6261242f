/-! THE LAW'S TEXT, READ BY THE CLASS: NUMBERS, LETTERS, SUMS -/
theorem zyI_33 {x : Nat} (hx : x < 256 ∨ x = 1000) : zyI x = (33 : Int32) ↔ x = 33 := zyI_eq hx (k := 33) (by decide)
theorem zyI_37 {x : Nat} (hx : x < 256 ∨ x = 1000) : zyI x = (37 : Int32) ↔ x = 37 := zyI_eq hx (k := 37) (by decide)
theorem zyI_38 {x : Nat} (hx : x < 256 ∨ x = 1000) : zyI x = (38 : Int32) ↔ x = 38 := zyI_eq hx (k := 38) (by decide)
theorem zyI_40 {x : Nat} (hx : x < 256 ∨ x = 1000) : zyI x = (40 : Int32) ↔ x = 40 := zyI_eq hx (k := 40) (by decide)
theorem zyI_41 {x : Nat} (hx : x < 256 ∨ x = 1000) : zyI x = (41 : Int32) ↔ x = 41 := zyI_eq hx (k := 41) (by decide)
theorem zyI_42 {x : Nat} (hx : x < 256 ∨ x = 1000) : zyI x = (42 : Int32) ↔ x = 42 := zyI_eq hx (k := 42) (by decide)
theorem zyI_43 {x : Nat} (hx : x < 256 ∨ x = 1000) : zyI x = (43 : Int32) ↔ x = 43 := zyI_eq hx (k := 43) (by decide)
theorem zyI_45 {x : Nat} (hx : x < 256 ∨ x = 1000) : zyI x = (45 : Int32) ↔ x = 45 := zyI_eq hx (k := 45) (by decide)
theorem zyI_47 {x : Nat} (hx : x < 256 ∨ x = 1000) : zyI x = (47 : Int32) ↔ x = 47 := zyI_eq hx (k := 47) (by decide)
theorem zyI_59 {x : Nat} (hx : x < 256 ∨ x = 1000) : zyI x = (59 : Int32) ↔ x = 59 := zyI_eq hx (k := 59) (by decide)
theorem zyI_60 {x : Nat} (hx : x < 256 ∨ x = 1000) : zyI x = (60 : Int32) ↔ x = 60 := zyI_eq hx (k := 60) (by decide)
theorem zyI_61 {x : Nat} (hx : x < 256 ∨ x = 1000) : zyI x = (61 : Int32) ↔ x = 61 := zyI_eq hx (k := 61) (by decide)
theorem zyI_62 {x : Nat} (hx : x < 256 ∨ x = 1000) : zyI x = (62 : Int32) ↔ x = 62 := zyI_eq hx (k := 62) (by decide)
theorem zyI_91 {x : Nat} (hx : x < 256 ∨ x = 1000) : zyI x = (91 : Int32) ↔ x = 91 := zyI_eq hx (k := 91) (by decide)
theorem zyI_93 {x : Nat} (hx : x < 256 ∨ x = 1000) : zyI x = (93 : Int32) ↔ x = 93 := zyI_eq hx (k := 93) (by decide)
theorem zyI_99 {x : Nat} (hx : x < 256 ∨ x = 1000) : zyI x = (99 : Int32) ↔ x = 99 := zyI_eq hx (k := 99) (by decide)
theorem zyI_110 {x : Nat} (hx : x < 256 ∨ x = 1000) : zyI x = (110 : Int32) ↔ x = 110 := zyI_eq hx (k := 110) (by decide)
theorem zyI_124 {x : Nat} (hx : x < 256 ∨ x = 1000) : zyI x = (124 : Int32) ↔ x = 124 := zyI_eq hx (k := 124) (by decide)
def zy9 (y : Int32) : Nat → Nat → Int32
  | 0, _ => -1
  | d + 1, i => if ¬ (zSB.getD i 0) = y then zy9 y d (i + 1) else nI i
theorem zy9_v : ∀ c, c < 256 → zy9 (nI c).toInt8.toInt32 9 0 = zyB (zyx c) := by decide +kernel
theorem zlp9 (s : zQs) (I : Nat → Nat → Int32) (x1 x2 y : Int32) : ∀ d i, i + d = 9 → zQ_9 (5, [.ref 1000002, .int x1, .int x2, .int 9, .int y, .int (nI i)], [], zMk (s, I)) = some (.int (zy9 y d i), zMk (s, I))
  | 0, i, h => by
    have h : i = 9 := by omega
    subst h
    rw [zq_9_5, if_pos (by decide)]
    rfl
  | d + 1, i, h => by
    have hi : i < 9 := by omega
    rw [zq_9_5, if_neg (show ¬ (9 : Int32) ≤ nI i from nI_ge (b := 9) hi (by decide)), if_pos (zb_t hi (by omega)), nI_clamp (show i < 2 ^ 31 by omega), nI_1]
    show _ = some (Value.int (if ¬ (zSB.getD i 0) = y then zy9 y d (i + 1) else nI i), _)
    by_cases c : zSB.getD i 0 = y
    · rw [if_neg (not_not_intro c), if_neg (not_not_intro c)]
    · rw [if_pos c, if_pos c]
      exact zlp9 s I x1 x2 y d (i + 1) (by omega)
theorem zf2 (s : zQs) (I : Nat → Nat → Int32) {c : Nat} (hc : c < 256) : zf_2 [.ref 1000001, .int (nI c)] (zMk (s, I)) = some (.int (zyB (zyx c)), zMk (s, I)) := by
  have e5 : zf_5 [.ref 1000001] (zMk (s, I)) = some (.int 9, zMk (s, I)) := by
    rw [zqz_5, zq_5_0, zl_6, if_neg (by decide), zcI_some, zq_5_5]
    rfl
  have e8 : zf_8 [.int (nI c)] (zMk (s, I)) = some (.int 1, zMk (s, I)) := by
    rw [zl_8, if_neg (nI_pos (by omega)), if_neg (show ¬ (255 : Int32) < nI c from nI_nlt (a := 255) (by omega) (by decide))]
  have e9 : zf_9 [.ref 1000002, .int (nI c), .int 0, .int 9] (zMk (s, I)) = some (.int (zyB (zyx c)), zMk (s, I)) := by
    rw [zqz_9, zq_9_0, ← zy9_v c hc]
    exact zlp9 s I (nI c) 0 _ 9 0 rfl
  have i1 : (if (0 : Int32) < 0 then (0 : Int32) else 0) = 0 := by decide
  have i2 : (if (9 : Int32) < 9 then (9 : Int32) else 9) = 9 := by decide
  have e7 : zf_7 [.ref 1000002, .int (nI c), .int 0, .int 9] (zMk (s, I)) = some (.int (zyB (zyx c)), zMk (s, I)) := by
    rw [zqz_7, zq_7_0, e8, zcI_some, zq_7_2, if_pos (by decide), i1, i2, if_pos (by decide), e9, zcI_some, zq_7_24]
  rw [zqz_2, zq_2_0, zqz_3, zq_3_0, zl_4, if_neg (by decide), if_neg (by decide), zcI_some, zq_3_2, if_neg (by decide), e5, zcI_some, zq_3_9, e7, zcI_some, zq_3_10, zcI_some, zq_2_4]
theorem zy_u16 : ∀ c, c < 256 → (((nI c).toUInt32 % 65536).toInt32) = nI c := by decide +kernel
theorem zyx_9 : ∀ c, c < 256 → ∀ v, zyx c = some v → v < 9 := by decide +kernel
theorem zyx_lt {c v : Nat} (hc : c < 256) (h : zyx c = some v) : v < 9 := zyx_9 c hc v h
theorem zyD_lt {s : zQs} {O : Nat} {T : Nat → Nat} {n : Nat} {S : zyS} {I : Nat → Nat → Int32} (h : zyC s O T n S I) : ∃ J, zf_71 [.ref 32, .int (zyI (zyn T n S))] (zMk (s, I)) = some (.long 0, zMk (s, J)) ∧ zyC s O T n (zylt T n S) J ∧ zyW O I J := by
  have odd : ∀ y0 : Int32, ¬ 0 ≤ y0 → ∃ J, zQ_71 (8, [.ref 32, .int (zyI (zyn T n S)), .long 0], [.int y0], zMk (s, I)) = some (.long 0, zMk (s, J)) ∧ zyC s O T n (zyf 1 S) J ∧ zyW O I J := fun y0 hy => by
    obtain ⟨J, e, hC, hW⟩ := zyD_f 1 (by decide) S I h
    have e : zf_60 [.ref 32, .int 1] (zMk (s, I)) = _ := e
    refine ⟨J, ?_, hC, hW⟩
    rw [zq_71_8, if_neg hy, e, zcV_some, zq_71_14]
  rw [zqz_71, zq_71_0]
  rcases zyn_256 h with hc | hc
  · have hI : zyI (zyn T n S) = nI (zyn T n S) := by unfold zyI; rw [if_neg (by omega)]
    rw [hI] at odd ⊢
    rw [if_pos (show (0 : Int32) ≤ nI (zyn T n S) from nI_pos' (by omega)), zy_u16 _ hc, zf2 s I hc, zcI_some]
    unfold zylt
    cases hx : zyx (zyn T n S) with
    | none => exact odd (-1) (by decide)
    | some v =>
      have hv := zyx_lt hc hx
      obtain ⟨hC, hW⟩ := zyC_a h (zyn_lt (T := T) (n := n) rfl (zyx_n hx)).1
      obtain ⟨J, e, hC2, hW2⟩ := zyD_e (s := s) (O := O) (T := T) (n := n) (op := 1) (v := v) (by decide) (by omega) _ _ hC
      have e : zf_35 [.ref s.2.2.2, .int 97, .int (nI v)] (zMk (s, zwA I 32 (upd (I 32) 2 (I 32 2 + 1)))) = _ := e
      refine ⟨J, ?_, hC2, zyW_tr hW hW2⟩
      show zQ_71 (8, [.ref 32, .int (nI (zyn T n S)), .long 0], [.int (nI v)], zMk (s, I)) = _
      rw [zq_71_8, if_pos (show (0 : Int32) ≤ nI v from nI_pos' (by omega)), zyz h, if_pos rfl, e, zcV_some, zq_71_26]
  · have hI : zyI (zyn T n S) = -1 := by unfold zyI; rw [if_pos hc]
    have hx : zyx (zyn T n S) = none := by rw [hc]; rfl
    have hz : zylt T n S = zyf 1 S := by unfold zylt; rw [hx]
    rw [hI] at odd ⊢
    rw [if_neg (by decide), hz]
    exact odd (-1) (by decide)
theorem zyg_I {x : Nat} (hx : x < 256 ∨ x = 1000) (s : zQs) (I : Nat → Nat → Int32) : zf_72 [.int (zyI x)] (zMk (s, I)) = some (.int (if zyg x = true then 1 else 0), zMk (s, I)) := by
  rw [zl_72]
  rcases hx with h | h
  · have hI : zyI x = nI x := by unfold zyI; rw [if_neg (by omega)]
    rw [hI]
    unfold zyg
    by_cases c1 : x < 48
    · rw [if_pos (show nI x < 48 from nI_lt (b := 48) c1 (by decide)), decide_eq_false (by omega)]
      rfl
    · rw [if_neg (show ¬ nI x < 48 from nI_nlt (b := 48) (by omega) (by omega))]
      by_cases c2 : 57 < x
      · rw [if_pos (show (57 : Int32) < nI x from nI_lt (a := 57) c2 (by omega)), decide_eq_false (by omega)]
        rfl
      · rw [if_neg (show ¬ (57 : Int32) < nI x from nI_nlt (a := 57) (by omega) (by decide)), decide_eq_true (by omega)]
        rfl
  · subst h
    rfl
theorem zlp70 {s : zQs} {O : Nat} {T : Nat → Nat} {n : Nat} : ∀ f x S I, f ≤ 5 → x < 10 ^ (5 - f) → zyC s O T n S I →
    ∃ J, zQ_70 (4, [.ref 32, .int (nI x), .int (nI (5 - f))], [], zMk (s, I)) = some (.long 0, zMk (s, J)) ∧ zyC s O T n (zynm T n f x S) J ∧ zyW O I J := by
  have emit : ∀ f x S I, x < 100000 → zyC s O T n S I → ∃ J, (if za (zMk (s, I)) s.2.2.2 2 then (zcV (zf_35 [.ref s.2.2.2, .int 48, .int (nI x)] (zMk (s, I))) fun M => zQ_70 (42, [.ref 32, .int (nI x), .int (nI (5 - f))], [], M)) else none) = some (.long 0, zMk (s, J)) ∧ zyC s O T n (zye 0 x S) J ∧ zyW O I J := fun f x S I hx h => by
    obtain ⟨J, e, hC, hW⟩ := zyD_e (s := s) (O := O) (T := T) (n := n) (op := 0) (v := x) (by decide) hx S I h
    have e : zf_35 [.ref s.2.2.2, .int 48, .int (nI x)] (zMk (s, I)) = _ := e
    refine ⟨J, ?_, hC, hW⟩
    rw [zyz h, if_pos rfl, e, zcV_some, zq_70_42]
  have p5 : ∀ k, k ≤ 5 → 10 ^ k ≤ 100000 := by decide
  have go : ∀ f x S I, f ≤ 5 → x < 10 ^ (5 - f) → zyC s O T n S I → (zyg (zyn T n S) = true → ∃ J, zQ_70 (12, [.ref 32, .int (nI x), .int (nI (5 - f))], [.int 1], zMk (s, I)) = some (.long 0, zMk (s, J)) ∧ zyC s O T n (zynm T n f x S) J ∧ zyW O I J) → ∃ J, zQ_70 (4, [.ref 32, .int (nI x), .int (nI (5 - f))], [], zMk (s, I)) = some (.long 0, zMk (s, J)) ∧ zyC s O T n (zynm T n f x S) J ∧ zyW O I J := by
    intro f x S I hf hx h hd
    have hx5 := p5 (5 - f) (by omega)
    obtain ⟨-, -, hn, hT, h3, hp, h2, -⟩ := id h
    by_cases hg : zyg (zyn T n S) = true
    · obtain ⟨J, e, r⟩ := hd hg
      refine ⟨J, ?_, r⟩
      have hl := (zyg_n hg).1
      rw [zq_70_4, h3, h2, if_neg (nI_ge hl (by omega)), zf59c h, zcI_some, zq_70_11, zyg_I (zyn_256 h), hg, if_pos rfl, zcI_some]
      exact e
    · have hz : zynm T n f x S = zye 0 x S := by
        cases f with
        | zero => rw [zynm_0, if_neg hg]
        | succ f => rw [zynm_s, if_neg hg]
      obtain ⟨J, e, r⟩ := emit f x S I (by omega) h
      rw [hz]
      refine ⟨J, ?_, r⟩
      rw [zq_70_4, h3, h2]
      by_cases hl : S.p < n
      · rw [if_neg (nI_ge hl (by omega)), zf59c h, zcI_some, zq_70_11, zyg_I (zyn_256 h), if_neg hg, zcI_some, zq_70_12, if_pos rfl]
        exact e
      · rw [if_pos (nI_le (by omega) (by omega))]
        exact e
  intro f
  induction f with
  | zero =>
    intro x S I hf hx h
    refine go 0 x S I hf hx h (fun hg => ?_)
    obtain ⟨J, e, hC, hW⟩ := zyD_f 2 (by decide) S I h
    have e : zf_60 [.ref 32, .int 2] (zMk (s, I)) = _ := e
    rw [zynm_0, if_pos hg]
    refine ⟨J, ?_, hC, hW⟩
    rw [zq_70_12, if_neg (by decide), if_neg (not_not_intro (show nI (5 - 0) = 5 by decide)), e, zcV_some, zq_70_19]
  | succ f ih =>
    intro x S I hf hx h
    refine go (f + 1) x S I hf hx h (fun hg => ?_)
    obtain ⟨hl, g1, g2⟩ := zyg_n hg
    have hx5 := p5 (5 - (f + 1)) (by omega)
    have e10 : 10 ^ (5 - f) = 10 * 10 ^ (5 - (f + 1)) := by rw [show 5 - f = (5 - (f + 1)) + 1 by omega, Nat.pow_succ, Nat.mul_comm]
    obtain ⟨hC, hW⟩ := zyC_a h hl
    obtain ⟨J, e, hC2, hW2⟩ := ih (10 * x + zyn T n S - 48) _ _ (by omega) (by omega) hC
    rw [zynm_s, if_pos hg]
    refine ⟨J, ?_, hC2, zyW_tr hW hW2⟩
    have hI : zyI (zyn T n S) = nI (zyn T n S) := by unfold zyI; rw [if_neg (by omega)]
    have e3 : ((10 : Int32) * nI x + nI (zyn T n S)) - 48 = nI (10 * x + zyn T n S - 48) := by
      rw [show (10 : Int32) * nI x = nI (10 * x) from nI_mul 10 x, nI_add]
      exact nI_sub (b := 48) (by omega)
    rw [show 5 - f = 5 - (f + 1) + 1 by omega] at e
    rw [zq_70_12, if_neg (by decide), if_pos (show ¬ nI (5 - (f + 1)) = 5 from nI_ne (b := 5) (by omega) (by omega) (by decide)), zf59c h, zcI_some, zq_70_25, hI, e3, nI_1]
    exact e
theorem zyD_nm {s : zQs} {O : Nat} {T : Nat → Nat} {n : Nat} : zyD s O T n (zf_70 [.ref 32]) (zynm T n 5 0) := fun S I h => by
  obtain ⟨J, e, r⟩ := zlp70 5 0 S I (Nat.le_refl _) (by decide) h
  refine ⟨J, ?_, r⟩
  rw [zqz_70, zq_70_0]
  exact e
theorem zyD_fa {s : zQs} {O : Nat} {T : Nat → Nat} {n o : Nat} {F : zF} {G : Nat → zyS → zyS} (ho : o ≤ 6) (hF : o < 6 → zyD s O T n (F [.ref 32, .int (nI (o + 1))]) (G (o + 1))) : zyD s O T n (zg_69 F [.ref 32, .int (nI o)]) (zyfa T n G o) := by
  intro S I h
  have h4 := h.2.2.2.2.2.2.2.2.1
  have he := h.2.2.2.2.2.2.2.1
  have e0 : zg_69 F [.ref 32, .int (nI o)] (zMk (s, I)) = zQ_69 F (0, [.ref 32, .int (nI o), .long 0], [], zMk (s, I)) := zqz_69 _ _ _
  rw [e0, zq_69_0, h4]
  by_cases c0 : S.e = 0
  · rw [if_pos ((zyF_z he).mpr c0), zf59c h, zcI_some, zq_69_6]
    by_cases c1 : zyn T n S = 91
    · rw [if_neg (not_not_intro ((zyI_91 (zyn_256 h)).mpr c1))]
      by_cases c2 : 6 ≤ o
      · have hz : zyfa T n G o S = zyf 5 S := by unfold zyfa; rw [if_neg (not_not_intro c0), if_pos c1, if_pos c2]
        obtain ⟨J, e, hC, hW⟩ := zyD_f 5 (by decide) S I h
        have e : zf_60 [.ref 32, .int 5] (zMk (s, I)) = _ := e
        rw [hz]
        refine ⟨J, ?_, hC, hW⟩
        rw [if_neg (show ¬ nI o < 6 from nI_nlt (b := 6) c2 (by omega)), e, zcV_some, zq_69_16]
      · have hz : zyfa T n G o S = zyt T n 93 (G (o + 1) (zya S)) := by unfold zyfa; rw [if_neg (not_not_intro c0), if_pos c1, if_neg c2]
        obtain ⟨hC1, hW1⟩ := zyC_a h (zyn_lt c1 (by decide)).1
        obtain ⟨J2, e2, hC2, hW2⟩ := hF (by omega) _ _ hC1
        obtain ⟨J3, e3, hC3, hW3⟩ := zyD_t (s := s) (O := O) (T := T) (n := n) 93 (by decide) _ _ hC2
        have e3 : zf_61 [.ref 32, .int 93] (zMk (s, J2)) = _ := e3
        rw [hz]
        refine ⟨J3, ?_, hC3, zyW_tr hW1 (zyW_tr hW2 hW3)⟩
        rw [if_pos (show nI o < 6 from nI_lt (b := 6) (by omega) (by decide)), nI_1, e2, zcV_some, zq_69_28, e3, zcV_some, zq_69_31, zq_69_41]
    · rw [if_pos (mt (zyI_91 (zyn_256 h)).mp c1), zyg_I (zyn_256 h), zcI_some, zq_69_34]
      by_cases c3 : zyg (zyn T n S) = true
      · have hz : zyfa T n G o S = zynm T n 5 0 S := by unfold zyfa; rw [if_neg (not_not_intro c0), if_neg c1, if_pos c3]
        obtain ⟨J, e, hC, hW⟩ := zyD_nm S I h
        rw [hz]
        refine ⟨J, ?_, hC, hW⟩
        rw [if_pos c3, if_neg (by decide), e, zcV_some, zq_69_37, zq_69_41]
      · have hz : zyfa T n G o S = zylt T n S := by unfold zyfa; rw [if_neg (not_not_intro c0), if_neg c1, if_neg c3]
        obtain ⟨J, e, hC, hW⟩ := zyD_lt h
        rw [hz]
        refine ⟨J, ?_, hC, hW⟩
        rw [if_neg c3, if_pos rfl, e, zcV_some, zq_69_41]
  · have hz : zyfa T n G o S = S := by unfold zyfa; rw [if_pos c0]
    rw [if_neg (fun q => c0 ((zyF_z he).mp q)), hz]
    exact ⟨I, rfl, h, zyW_rfl O I⟩
theorem zyi2_o {c : Nat} (h : zyi2 c = true) : zsg (zyo c) = c ∧ zyo c ≤ 12 ∧ (c = 42 ∨ c = 47 ∨ c = 37) := by
  have h := of_decide_eq_true h
  rcases h with rfl | rfl | rfl
  · exact ⟨rfl, by decide, by omega⟩
  · exact ⟨rfl, by decide, by omega⟩
  · exact ⟨rfl, by decide, by omega⟩
theorem zyi1_o {c : Nat} (h : zyi1 c = true) : zsg (zyo c) = c ∧ zyo c ≤ 12 ∧ (c = 43 ∨ c = 45) := by
  have h := of_decide_eq_true h
  rcases h with rfl | rfl
  · exact ⟨rfl, by decide, by omega⟩
  · exact ⟨rfl, by decide, by omega⟩
theorem zyi3_o {c : Nat} (h : zyi3 c = true) : zsg (zyo c) = c ∧ zyo c ≤ 12 ∧ (c = 60 ∨ c = 62 ∨ c = 61) := by
  have h := of_decide_eq_true h
  rcases h with rfl | rfl | rfl
  · exact ⟨rfl, by decide, by omega⟩
  · exact ⟨rfl, by decide, by omega⟩
  · exact ⟨rfl, by decide, by omega⟩
/-- the common part of both loops -/
theorem zlp68 {s : zQs} {O : Nat} {T : Nat → Nat} {n o : Nat} {F : zF} {Fp : zyS → zyS} (hF : zyD s O T n (F [.ref 32, .int (nI o)]) Fp) (hk : ∀ S, zyk n S (Fp S)) : ∀ f S I (x2 : Value), (S.e = 0 → n ≤ S.p + f) → zyC s O T n S I →
    ∃ J, zQ_68 F (3, [.ref 32, .int (nI o), x2], [], zMk (s, I)) = some (.long 0, zMk (s, J)) ∧ zyC s O T n (zylp T n zyi2 Fp f S) J ∧ zyW O I J := by
  intro f
  have stop : ∀ f S I (x2 : Value), zyC s O T n S I → (zylp T n zyi2 Fp f S = S) → ¬ (S.e = 0 ∧ zyi2 (zyn T n S) = true) → ∃ J, zQ_68 F (3, [.ref 32, .int (nI o), x2], [], zMk (s, I)) = some (.long 0, zMk (s, J)) ∧ zyC s O T n (zylp T n zyi2 Fp f S) J ∧ zyW O I J := by
    intro f S I x2 h hz hc
    have h4 := h.2.2.2.2.2.2.2.2.1
    have he := h.2.2.2.2.2.2.2.1
    obtain ⟨-, -, hn, hT, h3, hp, h2, -⟩ := id h
    rw [hz]
    refine ⟨I, ?_, h, zyW_rfl O I⟩
    rw [zq_68_3, h4]
    by_cases c0 : S.e = 0
    · rw [if_neg (not_not_intro ((zyF_z he).mpr c0)), h3, h2]
      by_cases hl : S.p < n
      · have hi : ¬ zyi2 (zyn T n S) = true := fun q => hc ⟨c0, q⟩
        have n1 : ¬ (zyn T n S = 42 ∨ zyn T n S = 47 ∨ zyn T n S = 37) := fun q => hi (decide_eq_true q)
        rw [if_neg (nI_ge hl (by omega)), zf59c h, zcI_some, zq_68_13, if_neg (mt (zyI_42 (zyn_256 h)).mp (fun q => n1 (Or.inl q))), zf59c h, zcI_some, zq_68_17, if_neg (mt (zyI_47 (zyn_256 h)).mp (fun q => n1 (Or.inr (Or.inl q)))), zf59c h, zcI_some, zq_68_21, if_pos (mt (zyI_37 (zyn_256 h)).mp (fun q => n1 (Or.inr (Or.inr q))))]
      · rw [if_pos (nI_le (by omega) (by omega))]
    · rw [if_pos (fun q => c0 ((zyF_z he).mp q))]
  induction f with
  | zero =>
    intro S I x2 hf h
    refine stop 0 S I x2 h rfl (fun q => ?_)
    have := zyi_n (is := zyi2) rfl q.2
    have := hf q.1
    omega
  | succ f ih =>
    intro S I x2 hf h
    by_cases hc : S.e = 0 ∧ zyi2 (zyn T n S) = true
    · have h4 := h.2.2.2.2.2.2.2.2.1
      have he := h.2.2.2.2.2.2.2.1
      obtain ⟨-, -, hn, hT, h3, hp, h2, -⟩ := id h
      have hl := zyi_n (is := zyi2) rfl hc.2
      obtain ⟨g1, g2, g3⟩ := zyi2_o hc.2
      obtain ⟨hC1, hW1⟩ := zyC_a h hl
      obtain ⟨J2, e2, hC2, hW2⟩ := hF _ _ hC1
      obtain ⟨J3, e3, hC3, hW3⟩ := zyD_e (s := s) (O := O) (T := T) (n := n) (op := zyo (zyn T n S)) (v := 0) g2 (by decide) _ _ hC2
      rw [g1] at e3
      have e3 : zf_35 [.ref s.2.2.2, .int (nI (zyn T n S)), .int 0] (zMk (s, J2)) = _ := e3
      have kp := (zyk_tr (zyk_a hl) (zyk_tr (hk (zya S)) (zyk_e (zyo (zyn T n S)) 0 (Fp (zya S))))).2.1
      have kp2 := (zyk_tr (hk (zya S)) (zyk_e (n := n) (zyo (zyn T n S)) 0 (Fp (zya S)))).2.1
      have kp2 : S.p + 1 ≤ (zye (zyo (zyn T n S)) 0 (Fp (zya S))).p := kp2
      obtain ⟨J4, e4, hC4, hW4⟩ := ih _ J3 (.int (nI (zyn T n S))) (fun _ => by have := hf hc.1; omega) hC3
      rw [zylp_s, if_pos hc]
      refine ⟨J4, ?_, hC4, zyW_tr hW1 (zyW_tr hW2 (zyW_tr hW3 hW4))⟩
      have hI : zyI (zyn T n S) = nI (zyn T n S) := by unfold zyI; rw [if_neg (by omega)]
      have e25 : zQ_68 F (25, [.ref 32, .int (nI o), x2], [.int (zyI (zyn T n S))], zMk (s, I)) = some (.long 0, zMk (s, J4)) := by
        rw [zq_68_25, hI, e2, zcV_some, zq_68_35, zyz hC2, if_pos rfl, e3, zcV_some, zq_68_40]
        exact e4
      rw [zq_68_3, h4, if_neg (not_not_intro ((zyF_z he).mpr hc.1)), h3, h2, if_neg (nI_ge hl (by omega)), zf59c h, zcI_some, zq_68_13]
      by_cases c1 : zyn T n S = 42
      · rw [if_pos ((zyI_42 (zyn_256 h)).mpr c1), zf59c h, zcI_some]
        exact e25
      · rw [if_neg (mt (zyI_42 (zyn_256 h)).mp c1), zf59c h, zcI_some, zq_68_17]
        by_cases c2 : zyn T n S = 47
        · rw [if_pos ((zyI_47 (zyn_256 h)).mpr c2), zf59c h, zcI_some]
          exact e25
        · rw [if_neg (mt (zyI_47 (zyn_256 h)).mp c2), zf59c h, zcI_some, zq_68_21, if_neg (not_not_intro ((zyI_37 (zyn_256 h)).mpr (by omega))), zf59c h, zcI_some]
          exact e25
    · refine stop (f + 1) S I x2 h ?_ hc
      rw [zylp_s, if_neg hc]
theorem zlp67 {s : zQs} {O : Nat} {T : Nat → Nat} {n o : Nat} {F : zF} {Fp : zyS → zyS} (hF : zyD s O T n (F [.ref 32, .int (nI o)]) Fp) (hk : ∀ S, zyk n S (Fp S)) : ∀ f S I (x2 : Value), (S.e = 0 → n ≤ S.p + f) → zyC s O T n S I →
    ∃ J, zQ_67 F (3, [.ref 32, .int (nI o), x2], [], zMk (s, I)) = some (.long 0, zMk (s, J)) ∧ zyC s O T n (zylp T n zyi1 Fp f S) J ∧ zyW O I J := by
  intro f
  have stop : ∀ f S I (x2 : Value), zyC s O T n S I → (zylp T n zyi1 Fp f S = S) → ¬ (S.e = 0 ∧ zyi1 (zyn T n S) = true) → ∃ J, zQ_67 F (3, [.ref 32, .int (nI o), x2], [], zMk (s, I)) = some (.long 0, zMk (s, J)) ∧ zyC s O T n (zylp T n zyi1 Fp f S) J ∧ zyW O I J := by
    intro f S I x2 h hz hc
    have h4 := h.2.2.2.2.2.2.2.2.1
    have he := h.2.2.2.2.2.2.2.1
    obtain ⟨-, -, hn, hT, h3, hp, h2, -⟩ := id h
    rw [hz]
    refine ⟨I, ?_, h, zyW_rfl O I⟩
    rw [zq_67_3, h4]
    by_cases c0 : S.e = 0
    · rw [if_neg (not_not_intro ((zyF_z he).mpr c0)), h3, h2]
      by_cases hl : S.p < n
      · have hi : ¬ zyi1 (zyn T n S) = true := fun q => hc ⟨c0, q⟩
        have n1 : ¬ (zyn T n S = 43 ∨ zyn T n S = 45) := fun q => hi (decide_eq_true q)
        rw [if_neg (nI_ge hl (by omega)), zf59c h, zcI_some, zq_67_13, if_neg (mt (zyI_43 (zyn_256 h)).mp (fun q => n1 (Or.inl q))), zf59c h, zcI_some, zq_67_17, if_pos (mt (zyI_45 (zyn_256 h)).mp (fun q => n1 (Or.inr q)))]
      · rw [if_pos (nI_le (by omega) (by omega))]
    · rw [if_pos (fun q => c0 ((zyF_z he).mp q))]
  induction f with
  | zero =>
    intro S I x2 hf h
    refine stop 0 S I x2 h rfl (fun q => ?_)
    have := zyi_n (is := zyi1) rfl q.2
    have := hf q.1
    omega
  | succ f ih =>
    intro S I x2 hf h
    by_cases hc : S.e = 0 ∧ zyi1 (zyn T n S) = true
    · have h4 := h.2.2.2.2.2.2.2.2.1
      have he := h.2.2.2.2.2.2.2.1
      obtain ⟨-, -, hn, hT, h3, hp, h2, -⟩ := id h
      have hl := zyi_n (is := zyi1) rfl hc.2
      obtain ⟨g1, g2, g3⟩ := zyi1_o hc.2
      obtain ⟨hC1, hW1⟩ := zyC_a h hl
      obtain ⟨J2, e2, hC2, hW2⟩ := hF _ _ hC1
      obtain ⟨J3, e3, hC3, hW3⟩ := zyD_e (s := s) (O := O) (T := T) (n := n) (op := zyo (zyn T n S)) (v := 0) g2 (by decide) _ _ hC2
      rw [g1] at e3
      have e3 : zf_35 [.ref s.2.2.2, .int (nI (zyn T n S)), .int 0] (zMk (s, J2)) = _ := e3
      have kp2 := (zyk_tr (hk (zya S)) (zyk_e (n := n) (zyo (zyn T n S)) 0 (Fp (zya S)))).2.1
      have kp2 : S.p + 1 ≤ (zye (zyo (zyn T n S)) 0 (Fp (zya S))).p := kp2
      obtain ⟨J4, e4, hC4, hW4⟩ := ih _ J3 (.int (nI (zyn T n S))) (fun _ => by have := hf hc.1; omega) hC3
      rw [zylp_s, if_pos hc]
      refine ⟨J4, ?_, hC4, zyW_tr hW1 (zyW_tr hW2 (zyW_tr hW3 hW4))⟩
      have hI : zyI (zyn T n S) = nI (zyn T n S) := by unfold zyI; rw [if_neg (by omega)]
      have e21 : zQ_67 F (21, [.ref 32, .int (nI o), x2], [.int (zyI (zyn T n S))], zMk (s, I)) = some (.long 0, zMk (s, J4)) := by
        rw [zq_67_21, hI, e2, zcV_some, zq_67_31, zyz hC2, if_pos rfl, e3, zcV_some, zq_67_36]
        exact e4
      rw [zq_67_3, h4, if_neg (not_not_intro ((zyF_z he).mpr hc.1)), h3, h2, if_neg (nI_ge hl (by omega)), zf59c h, zcI_some, zq_67_13]
      by_cases c1 : zyn T n S = 43
      · rw [if_pos ((zyI_43 (zyn_256 h)).mpr c1), zf59c h, zcI_some]
        exact e21
      · rw [if_neg (mt (zyI_43 (zyn_256 h)).mp c1), zf59c h, zcI_some, zq_67_17, if_neg (not_not_intro ((zyI_45 (zyn_256 h)).mpr (by omega))), zf59c h, zcI_some]
        exact e21
    · refine stop (f + 1) S I x2 h ?_ hc
      rw [zylp_s, if_neg hc]
theorem zyD_tm {s : zQs} {O : Nat} {T : Nat → Nat} {n o : Nat} {F : zF} {G : Nat → zyS → zyS} (ho : o ≤ 6) (hF : o < 6 → zyD s O T n (F [.ref 32, .int (nI (o + 1))]) (G (o + 1))) (hG : ∀ o S, zyk n S (G o S)) : zyD s O T n (zg_68 F [.ref 32, .int (nI o)]) (zytm T n G o) := by
  intro S I h
  have e0 : zg_68 F [.ref 32, .int (nI o)] (zMk (s, I)) = zQ_68 (zg_69 F) (0, [.ref 32, .int (nI o), .long 0], [], zMk (s, I)) := zqz_68 _ _ _
  have hfa := zyD_fa ho hF
  obtain ⟨J1, e1, hC1, hW1⟩ := hfa S I h
  obtain ⟨J, e, hC, hW⟩ := zlp68 hfa (zyk_fa hG o) n _ J1 (.long 0) (fun _ => by omega) hC1
  refine ⟨J, ?_, hC, zyW_tr hW1 hW⟩
  rw [e0, zq_68_0, e1, zcV_some]
  exact e
theorem zyD_su {s : zQs} {O : Nat} {T : Nat → Nat} {n : Nat} : ∀ d o, o ≤ 6 → 7 ≤ d + o → zyD s O T n (zf_67 d [.ref 32, .int (nI o)]) (zysu T n d o)
  | 0, o, h1, h2 => absurd h2 (by omega)
  | d + 1, o, h1, h2 => by
    intro S I h
    have e0 : zf_67 (d + 1) [.ref 32, .int (nI o)] (zMk (s, I)) = zQ_67 (zg_68 (zf_67 d)) (0, [.ref 32, .int (nI o), .long 0], [], zMk (s, I)) := zqz_67 _ _ _
    have htm := zyD_tm (s := s) (O := O) (T := T) (n := n) (F := zf_67 d) (G := zysu T n d) h1 (fun q => zyD_su d (o + 1) (by omega) (by omega)) (zyk_su d)
    obtain ⟨J1, e1, hC1, hW1⟩ := htm S I h
    obtain ⟨J, e, hC, hW⟩ := zlp67 htm (zyk_tm (zyk_su d) o) n _ J1 (.long 0) (fun _ => by omega) hC1
    refine ⟨J, ?_, hC, zyW_tr hW1 hW⟩
    rw [e0, zq_67_0, e1, zcV_some]
    exact e
