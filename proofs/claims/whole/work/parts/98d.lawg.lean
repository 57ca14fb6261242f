/-! THE LAW'S TEXT, READ BY THE CLASS: CONDITIONS -/
theorem zyI_nI {x : Nat} (h : x < 256) : zyI x = nI x := by unfold zyI; rw [if_neg (by omega)]
theorem zyD_cm {s : zQs} {O : Nat} {T : Nat → Nat} {n o : Nat} (ho : o ≤ 6) : zyD s O T n (zf_66 [.ref 32, .int (nI o)]) (zycm T n o) := by
  intro S I h
  have hsu := zyD_su (s := s) (O := O) (T := T) (n := n) 8 o ho (by omega)
  obtain ⟨J1, e1, hC1, hW1⟩ := hsu S I h
  rw [zqz_66, zq_66_0, e1, zcV_some, zq_66_3, zf59c hC1, zcI_some, zq_66_5]
  have go : ∀ (S2 : zyS) (J2 : Nat → Nat → Int32), zyC s O T n S2 J2 → zyW O I J2 → (S2.e = 0 → S2.p < n ∧ zyi3 (zyn T n (zysu T n 8 o S)) = true) → ∃ J, zQ_66 (18, [.ref 32, .int (nI o), .int (zyI (zyn T n (zysu T n 8 o S)))], [], zMk (s, J2)) = some (.long 0, zMk (s, J)) ∧ zyC s O T n (zycm2 T n o (zyn T n (zysu T n 8 o S)) S2) J ∧ zyW O I J := by
    intro S2 J2 hC2 hW2 hp
    have h4 := hC2.2.2.2.2.2.2.2.2.1
    have he := hC2.2.2.2.2.2.2.2.1
    rw [zq_66_18, h4]
    by_cases c0 : S2.e = 0
    · obtain ⟨hl, hi⟩ := hp c0
      obtain ⟨g1, g2, g3⟩ := zyi3_o hi
      have hz : zycm2 T n o (zyn T n (zysu T n 8 o S)) S2 = zye (zyo (zyn T n (zysu T n 8 o S))) 0 (zysu T n 8 o (zya S2)) := if_pos c0
      obtain ⟨hC3, hW3⟩ := zyC_a hC2 hl
      obtain ⟨J4, e4, hC4, hW4⟩ := hsu _ _ hC3
      obtain ⟨J5, e5, hC5, hW5⟩ := zyD_e (s := s) (O := O) (T := T) (n := n) (op := zyo (zyn T n (zysu T n 8 o S))) (v := 0) g2 (by decide) _ _ hC4
      rw [g1] at e5
      have e5 : zf_35 [.ref s.2.2.2, .int (nI (zyn T n (zysu T n 8 o S))), .int 0] (zMk (s, J4)) = _ := e5
      rw [hz, if_pos ((zyF_z he).mpr c0), e4, zcV_some, zq_66_31, zyz hC4, if_pos rfl, zyI_nI (by omega), e5, zcV_some, zq_66_36]
      exact ⟨J5, rfl, hC5, zyW_tr hW2 (zyW_tr hW3 (zyW_tr hW4 hW5))⟩
    · have hz : zycm2 T n o (zyn T n (zysu T n 8 o S)) S2 = S2 := if_neg c0
      rw [hz, if_neg (mt (zyF_z he).mp c0)]
      exact ⟨J2, rfl, hC2, hW2⟩
  have x := zyn_256 hC1
  unfold zycm
  by_cases hi : zyi3 (zyn T n (zysu T n 8 o S)) = true
  · rw [if_pos hi]
    have r := go _ J1 hC1 hW1 (fun _ => ⟨zyi_n (is := zyi3) rfl hi, hi⟩)
    obtain ⟨-, -, g3⟩ := zyi3_o hi
    by_cases c1 : zyn T n (zysu T n 8 o S) = 60
    · rw [if_pos ((zyI_60 x).mpr c1)]
      exact r
    · rw [if_neg (mt (zyI_60 x).mp c1)]
      by_cases c2 : zyn T n (zysu T n 8 o S) = 62
      · rw [if_pos ((zyI_62 x).mpr c2)]
        exact r
      · rw [if_neg (mt (zyI_62 x).mp c2), if_pos ((zyI_61 x).mpr (by omega))]
        exact r
  · rw [if_neg hi]
    have n1 : ¬ (zyn T n (zysu T n 8 o S) = 60 ∨ zyn T n (zysu T n 8 o S) = 62 ∨ zyn T n (zysu T n 8 o S) = 61) := fun q => hi (decide_eq_true q)
    obtain ⟨J2, e2, hC2, hW2⟩ := zyD_f 1 (by decide) _ _ hC1
    have e2 : zf_60 [.ref 32, .int 1] (zMk (s, J1)) = _ := e2
    have e : (zyf 1 (zysu T n 8 o S)).e ≠ 0 := by
      by_cases he : (zysu T n 8 o S).e = 0
      · rw [zyf_e he]
        show 1000 * 1 + _ ≠ 0
        omega
      · rw [zyf_n he]
        exact he
    rw [if_neg (mt (zyI_60 x).mp (fun q => n1 (Or.inl q))), if_neg (mt (zyI_62 x).mp (fun q => n1 (Or.inr (Or.inl q)))), if_neg (mt (zyI_61 x).mp (fun q => n1 (Or.inr (Or.inr q)))), e2, zcV_some]
    exact go _ J2 hC2 (zyW_tr hW1 hW2) (fun q => absurd q e)
theorem zlp63 {s : zQs} {O : Nat} {T : Nat → Nat} {n o : Nat} {F : zF} {Fp : zyS → zyS} (hF : zyD s O T n (F [.ref 32, .int (nI o)]) Fp) (hk : ∀ S, zyk n S (Fp S)) : ∀ f b S I, (S.e = 0 → n ≤ S.p + f) → (∀ i, b = some i → i < 1000) → zyC s O T n S I →
    ∃ J, zQ_63 F (5, [.ref 32, .int (nI o), .int (zyB b)], [], zMk (s, I)) = some (.long 0, zMk (s, J)) ∧ zyC s O T n (zych T n 12 124 Fp f b S) J ∧ zyW O I J := by
  intro f
  have stop : ∀ f b S I, zyC s O T n S I → (∀ i, b = some i → i < 1000) → (zych T n 12 124 Fp f b S = zyd b S) → ¬ (S.e = 0 ∧ zyn T n S = 124) → ∃ J, zQ_63 F (5, [.ref 32, .int (nI o), .int (zyB b)], [], zMk (s, I)) = some (.long 0, zMk (s, J)) ∧ zyC s O T n (zych T n 12 124 Fp f b S) J ∧ zyW O I J := by
    intro f b S I h hb hz hc
    have h4 := h.2.2.2.2.2.2.2.2.1
    have he := h.2.2.2.2.2.2.2.1
    obtain ⟨-, -, hn, hT, h3, hp, h2, -⟩ := id h
    obtain ⟨J, e, hC, hW⟩ := zyD_d (s := s) (O := O) (T := T) (n := n) b hb S I h
    rw [hz]
    refine ⟨J, ?_, hC, hW⟩
    have fin : (if za (zMk (s, I)) s.2.2.2 2 then (zcV (zf_37 [.ref s.2.2.2, .int (zyB b)] (zMk (s, I))) fun M => zQ_63 F (37, [.ref 32, .int (nI o), .int (zyB b)], [], M)) else none) = some (.long 0, zMk (s, J)) := by
      rw [zyz h, if_pos rfl, e, zcV_some, zq_63_37]
    rw [zq_63_5, h4]
    by_cases c0 : S.e = 0
    · rw [if_neg (not_not_intro ((zyF_z he).mpr c0)), h3, h2]
      by_cases hl : S.p < n
      · have hi : ¬ zyn T n S = 124 := fun q => hc ⟨c0, q⟩
        rw [if_neg (nI_ge hl (by omega)), zf59c h, zcI_some, zq_63_15, if_pos (mt (zyI_124 (zyn_256 h)).mp hi)]
        exact fin
      · rw [if_pos (nI_le (by omega) (by omega))]
        exact fin
    · rw [if_pos (mt (zyF_z he).mp c0)]
      exact fin
  induction f with
  | zero =>
    intro b S I hf hb h
    refine stop 0 b S I h hb rfl (fun q => ?_)
    have := (zyn_lt q.2 (by decide)).1
    have := hf q.1
    omega
  | succ f ih =>
    intro b S I hf hb h
    by_cases hc : S.e = 0 ∧ zyn T n S = 124
    · have h4 := h.2.2.2.2.2.2.2.2.1
      have he := h.2.2.2.2.2.2.2.1
      obtain ⟨-, -, hn, hT, h3, hp, h2, -⟩ := id h
      have hl := (zyn_lt hc.2 (by decide)).1
      obtain ⟨hC1, hW1⟩ := zyC_a h hl
      obtain ⟨J2, e2, hC2, hW2⟩ := zf36c (op := 12) (by decide) b hb hC1
      have e2 : zf_36 [.ref s.2.2.2, .int 124, .int (zyB b)] (zMk (s, zwA I 32 (upd (I 32) 2 (I 32 2 + 1)))) = _ := e2
      have m2 := hC2.2.2.2.2.2.2.2.2.2.1
      obtain ⟨J3, e3, hC3, hW3⟩ := hF _ _ hC2
      have k2 : S.p + 1 ≤ (Fp (zyl 12 b (zya S))).p := by
        have a := (zyk_tr (zyk_d (n := n) b (zya S)) (zyk_e 12 (zyd b (zya S)).m (zyd b (zya S)))).2.1
        have a : S.p + 1 ≤ (zyl 12 b (zya S)).p := a
        have c := (hk (zyl 12 b (zya S))).2.1
        omega
      obtain ⟨J4, e4, hC4, hW4⟩ := ih (some ((zyl 12 b (zya S)).m - 1)) _ J3 (fun _ => by have := hf hc.1; omega) (fun i hi => by have := Option.some.inj hi; omega) hC3
      rw [zych_s, if_pos hc]
      refine ⟨J4, ?_, hC4, zyW_tr hW1 (zyW_tr hW2 (zyW_tr hW3 hW4))⟩
      rw [zq_63_5, h4, if_neg (not_not_intro ((zyF_z he).mpr hc.1)), h3, h2, if_neg (nI_ge hl (by omega)), zf59c h, zcI_some, zq_63_15, if_neg (not_not_intro ((zyI_124 (zyn_256 h)).mpr hc.2)), zyz h, if_pos rfl, e2, zcI_some, zq_63_28, e3, zcV_some, zq_63_32]
      exact e4
    · refine stop (f + 1) b S I h hb ?_ hc
      rw [zych_s, if_neg hc]
theorem zlp64 {s : zQs} {O : Nat} {T : Nat → Nat} {n o : Nat} {F : zF} {Fp : zyS → zyS} (hF : zyD s O T n (F [.ref 32, .int (nI o)]) Fp) (hk : ∀ S, zyk n S (Fp S)) : ∀ f b S I, (S.e = 0 → n ≤ S.p + f) → (∀ i, b = some i → i < 1000) → zyC s O T n S I →
    ∃ J, zQ_64 F (5, [.ref 32, .int (nI o), .int (zyB b)], [], zMk (s, I)) = some (.long 0, zMk (s, J)) ∧ zyC s O T n (zych T n 11 38 Fp f b S) J ∧ zyW O I J := by
  intro f
  have stop : ∀ f b S I, zyC s O T n S I → (∀ i, b = some i → i < 1000) → (zych T n 11 38 Fp f b S = zyd b S) → ¬ (S.e = 0 ∧ zyn T n S = 38) → ∃ J, zQ_64 F (5, [.ref 32, .int (nI o), .int (zyB b)], [], zMk (s, I)) = some (.long 0, zMk (s, J)) ∧ zyC s O T n (zych T n 11 38 Fp f b S) J ∧ zyW O I J := by
    intro f b S I h hb hz hc
    have h4 := h.2.2.2.2.2.2.2.2.1
    have he := h.2.2.2.2.2.2.2.1
    obtain ⟨-, -, hn, hT, h3, hp, h2, -⟩ := id h
    obtain ⟨J, e, hC, hW⟩ := zyD_d (s := s) (O := O) (T := T) (n := n) b hb S I h
    rw [hz]
    refine ⟨J, ?_, hC, hW⟩
    have fin : (if za (zMk (s, I)) s.2.2.2 2 then (zcV (zf_37 [.ref s.2.2.2, .int (zyB b)] (zMk (s, I))) fun M => zQ_64 F (37, [.ref 32, .int (nI o), .int (zyB b)], [], M)) else none) = some (.long 0, zMk (s, J)) := by
      rw [zyz h, if_pos rfl, e, zcV_some, zq_64_37]
    rw [zq_64_5, h4]
    by_cases c0 : S.e = 0
    · rw [if_neg (not_not_intro ((zyF_z he).mpr c0)), h3, h2]
      by_cases hl : S.p < n
      · have hi : ¬ zyn T n S = 38 := fun q => hc ⟨c0, q⟩
        rw [if_neg (nI_ge hl (by omega)), zf59c h, zcI_some, zq_64_15, if_pos (mt (zyI_38 (zyn_256 h)).mp hi)]
        exact fin
      · rw [if_pos (nI_le (by omega) (by omega))]
        exact fin
    · rw [if_pos (mt (zyF_z he).mp c0)]
      exact fin
  induction f with
  | zero =>
    intro b S I hf hb h
    refine stop 0 b S I h hb rfl (fun q => ?_)
    have := (zyn_lt q.2 (by decide)).1
    have := hf q.1
    omega
  | succ f ih =>
    intro b S I hf hb h
    by_cases hc : S.e = 0 ∧ zyn T n S = 38
    · have h4 := h.2.2.2.2.2.2.2.2.1
      have he := h.2.2.2.2.2.2.2.1
      obtain ⟨-, -, hn, hT, h3, hp, h2, -⟩ := id h
      have hl := (zyn_lt hc.2 (by decide)).1
      obtain ⟨hC1, hW1⟩ := zyC_a h hl
      obtain ⟨J2, e2, hC2, hW2⟩ := zf36c (op := 11) (by decide) b hb hC1
      have e2 : zf_36 [.ref s.2.2.2, .int 38, .int (zyB b)] (zMk (s, zwA I 32 (upd (I 32) 2 (I 32 2 + 1)))) = _ := e2
      have m2 := hC2.2.2.2.2.2.2.2.2.2.1
      obtain ⟨J3, e3, hC3, hW3⟩ := hF _ _ hC2
      have k2 : S.p + 1 ≤ (Fp (zyl 11 b (zya S))).p := by
        have a := (zyk_tr (zyk_d (n := n) b (zya S)) (zyk_e 11 (zyd b (zya S)).m (zyd b (zya S)))).2.1
        have a : S.p + 1 ≤ (zyl 11 b (zya S)).p := a
        have c := (hk (zyl 11 b (zya S))).2.1
        omega
      obtain ⟨J4, e4, hC4, hW4⟩ := ih (some ((zyl 11 b (zya S)).m - 1)) _ J3 (fun _ => by have := hf hc.1; omega) (fun i hi => by have := Option.some.inj hi; omega) hC3
      rw [zych_s, if_pos hc]
      refine ⟨J4, ?_, hC4, zyW_tr hW1 (zyW_tr hW2 (zyW_tr hW3 hW4))⟩
      rw [zq_64_5, h4, if_neg (not_not_intro ((zyF_z he).mpr hc.1)), h3, h2, if_neg (nI_ge hl (by omega)), zf59c h, zcI_some, zq_64_15, if_neg (not_not_intro ((zyI_38 (zyn_256 h)).mpr hc.2)), zyz h, if_pos rfl, e2, zcI_some, zq_64_28, e3, zcV_some, zq_64_32]
      exact e4
    · refine stop (f + 1) b S I h hb ?_ hc
      rw [zych_s, if_neg hc]
theorem zyD_pa {s : zQs} {O : Nat} {T : Nat → Nat} {n o : Nat} {F : zF} {PC : Nat → zyS → zyS} (hF : zyD s O T n (F [.ref 32, .int (nI o)]) (PC o)) (hk : ∀ o S, zyk n S (PC o S)) : zyD s O T n (zg_64 F [.ref 32, .int (nI o)]) (zypa T n PC o) := by
  intro S I h
  have e0 : zg_64 F [.ref 32, .int (nI o)] (zMk (s, I)) = zQ_64 F (0, [.ref 32, .int (nI o), .long 0], [], zMk (s, I)) := zqz_64 _ _ _
  obtain ⟨J1, e1, hC1, hW1⟩ := hF S I h
  obtain ⟨J, e, hC, hW⟩ := zlp64 hF (hk o) n none _ J1 (fun _ => by omega) (fun i hi => nomatch hi) hC1
  refine ⟨J, ?_, hC, zyW_tr hW1 hW⟩
  rw [e0, zq_64_0, e1, zcV_some, zq_64_3]
  exact e
theorem zyD_cn {s : zQs} {O : Nat} {T : Nat → Nat} {n o : Nat} {F : zF} {PC : Nat → zyS → zyS} (hF : zyD s O T n (F [.ref 32, .int (nI o)]) (PC o)) (hk : ∀ o S, zyk n S (PC o S)) : zyD s O T n (zg_63 F [.ref 32, .int (nI o)]) (zycn T n PC o) := by
  intro S I h
  have e0 : zg_63 F [.ref 32, .int (nI o)] (zMk (s, I)) = zQ_63 (zg_64 F) (0, [.ref 32, .int (nI o), .long 0], [], zMk (s, I)) := zqz_63 _ _ _
  have hpa := zyD_pa hF hk
  obtain ⟨J1, e1, hC1, hW1⟩ := hpa S I h
  obtain ⟨J, e, hC, hW⟩ := zlp63 hpa (zyk_pa hk o) n none _ J1 (fun _ => by omega) (fun i hi => nomatch hi) hC1
  refine ⟨J, ?_, hC, zyW_tr hW1 hW⟩
  rw [e0, zq_63_0, e1, zcV_some, zq_63_3]
  exact e
theorem zyD_pi {s : zQs} {O : Nat} {T : Nat → Nat} {n : Nat} : ∀ d o, o ≤ 6 → 7 ≤ d + o → zyD s O T n (zf_65 d [.ref 32, .int (nI o)]) (zypi T n d o)
  | 0, o, h1, h2 => absurd h2 (by omega)
  | d + 1, o, h1, h2 => by
    intro S I h
    have h4 := h.2.2.2.2.2.2.2.2.1
    have he := h.2.2.2.2.2.2.2.1
    have e0 : zf_65 (d + 1) [.ref 32, .int (nI o)] (zMk (s, I)) = zQ_65 (zf_65 d) (zg_63 (zf_65 d)) (0, [.ref 32, .int (nI o), .long 0], [], zMk (s, I)) := zqz_65 _ _ _ _
    rw [e0, zq_65_0, h4]
    by_cases c0 : S.e = 0
    · have x := zyn_256 h
      rw [if_pos ((zyF_z he).mpr c0), zf59c h, zcI_some, zq_65_6]
      by_cases c1 : zyn T n S ≠ 33 ∧ zyn T n S ≠ 40
      · have hz : zypi T n (d + 1) o S = zycm T n o S := by rw [zypi_s, if_neg (not_not_intro c0), if_pos c1]
        obtain ⟨J, e, hC, hW⟩ := zyD_cm (s := s) (O := O) (T := T) (n := n) h1 S I h
        rw [hz]
        refine ⟨J, ?_, hC, hW⟩
        rw [if_neg (mt (zyI_33 x).mp c1.1), if_neg (mt (zyI_40 x).mp c1.2), e, zcV_some, zq_65_16]
      · have hl : S.p < n := by
          by_cases h33 : zyn T n S = 33
          · exact (zyn_lt h33 (by decide)).1
          · by_cases h40 : zyn T n S = 40
            · exact (zyn_lt h40 (by decide)).1
            · exact absurd ⟨h33, h40⟩ c1
        have go : ∃ J, zQ_65 (zf_65 d) (zg_63 (zf_65 d)) (17, [.ref 32, .int (nI o), .int (zyI (zyn T n S))], [], zMk (s, I)) = some (.long 0, zMk (s, J)) ∧ zyC s O T n (zypi T n (d + 1) o S) J ∧ zyW O I J := by
          rw [zq_65_17]
          by_cases c2 : 6 ≤ o
          · have hz : zypi T n (d + 1) o S = zyf 5 S := by rw [zypi_s, if_neg (not_not_intro c0), if_neg c1, if_pos c2]
            obtain ⟨J, e, hC, hW⟩ := zyD_f 5 (by decide) S I h
            have e : zf_60 [.ref 32, .int 5] (zMk (s, I)) = _ := e
            rw [hz]
            refine ⟨J, ?_, hC, hW⟩
            rw [if_neg (show ¬ nI o < 6 from nI_nlt (b := 6) c2 (by omega)), e, zcV_some, zq_65_23]
          · obtain ⟨hC1, hW1⟩ := zyC_a h hl
            have hpi := zyD_pi (s := s) (O := O) (T := T) (n := n) d (o + 1) (by omega) (by omega)
            rw [if_pos (show nI o < 6 from nI_lt (b := 6) (by omega) (by decide)), nI_1]
            by_cases c3 : zyn T n S = 33
            · have hz : zypi T n (d + 1) o S = zye 10 0 (zypi T n d (o + 1) (zya S)) := by rw [zypi_s, if_neg (not_not_intro c0), if_neg c1, if_neg c2, if_pos c3]
              obtain ⟨J2, e2, hC2, hW2⟩ := hpi _ _ hC1
              obtain ⟨J3, e3, hC3, hW3⟩ := zyD_e (s := s) (O := O) (T := T) (n := n) (op := 10) (v := 0) (by decide) (by decide) _ _ hC2
              have e3 : zf_35 [.ref s.2.2.2, .int 33, .int 0] (zMk (s, J2)) = _ := e3
              rw [hz]
              refine ⟨J3, ?_, hC3, zyW_tr hW1 (zyW_tr hW2 hW3)⟩
              rw [if_neg (not_not_intro ((zyI_33 x).mpr c3)), e2, zcV_some, zq_65_38, zyz hC2, if_pos rfl, e3, zcV_some, zq_65_43, zq_65_52]
            · have hz : zypi T n (d + 1) o S = zyt T n 41 (zycn T n (zypi T n d) (o + 1) (zya S)) := by rw [zypi_s, if_neg (not_not_intro c0), if_neg c1, if_neg c2, if_neg c3]
              obtain ⟨J2, e2, hC2, hW2⟩ := zyD_cn (o := o + 1) hpi (zyk_pi d) _ _ hC1
              obtain ⟨J3, e3, hC3, hW3⟩ := zyD_t (s := s) (O := O) (T := T) (n := n) 41 (by decide) _ _ hC2
              have e3 : zf_61 [.ref 32, .int 41] (zMk (s, J2)) = _ := e3
              rw [hz]
              refine ⟨J3, ?_, hC3, zyW_tr hW1 (zyW_tr hW2 hW3)⟩
              rw [if_pos (mt (zyI_33 x).mp c3), e2, zcV_some, zq_65_49, e3, zcV_some, zq_65_52]
        by_cases h33 : zyn T n S = 33
        · rw [if_pos ((zyI_33 x).mpr h33)]
          exact go
        · rw [if_neg (mt (zyI_33 x).mp h33)]
          by_cases h40 : zyn T n S = 40
          · rw [if_pos ((zyI_40 x).mpr h40)]
            exact go
          · exact absurd ⟨h33, h40⟩ c1
    · have hz : zypi T n (d + 1) o S = S := by rw [zypi_s, if_pos c0]
      rw [if_neg (mt (zyF_z he).mp c0), hz]
      exact ⟨I, rfl, h, zyW_rfl O I⟩
