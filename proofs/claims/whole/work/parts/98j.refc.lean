/-! THE LAW'S TEXT, READ BY THE REFERENCE: WHAT CONDITIONS DO -/
theorem zye_m (op v : Nat) (S : zyS) : S.m ≤ (zye op v S).m := by
  unfold zye
  split
  · exact Nat.le_succ _
  · exact Nat.le_refl _
theorem zyf_m (k : Nat) (S : zyS) : (zyf k S).m = S.m := by unfold zyf; split <;> rfl
theorem zyt_m (T : Nat → Nat) (n c : Nat) (S : zyS) : (zyt T n c S).m = S.m := by
  unfold zyt zyt1 zyt0
  split <;> split <;> first | rfl | exact zyf_m 1 S
theorem zynm_m {T : Nat → Nat} {n : Nat} : ∀ f x (S : zyS), S.m ≤ (zynm T n f x S).m
  | 0, x, S => by
    rw [zynm_0]
    split
    · rw [zyf_m]; exact Nat.le_refl _
    · exact zye_m _ _ _
  | f + 1, x, S => by
    rw [zynm_s]
    split
    · exact zynm_m f _ (zya S)
    · exact zye_m _ _ _
theorem zylt_m (T : Nat → Nat) (n : Nat) (S : zyS) : S.m ≤ (zylt T n S).m := by
  unfold zylt
  cases zyx (zyn T n S) with
  | none => show S.m ≤ (zyf 1 S).m; rw [zyf_m]; exact Nat.le_refl _
  | some v => exact zye_m 1 v (zya S)
theorem zyfa_m {T : Nat → Nat} {n : Nat} {G : Nat → zyS → zyS} (hG : ∀ o S, S.m ≤ (G o S).m) (o : Nat) (S : zyS) : S.m ≤ (zyfa T n G o S).m := by
  unfold zyfa
  split
  · exact Nat.le_refl _
  · split
    · split
      · rw [zyf_m]; exact Nat.le_refl _
      · rw [zyt_m]; exact hG _ (zya S)
    · split
      · exact zynm_m 5 0 S
      · exact zylt_m T n S
theorem zylp_m {T : Nat → Nat} {n : Nat} {is : Nat → Bool} {F : zyS → zyS} (hF : ∀ S, S.m ≤ (F S).m) : ∀ f S, S.m ≤ (zylp T n is F f S).m
  | 0, S => Nat.le_refl _
  | f + 1, S => by
    rw [zylp_s]
    split
    · have a := hF (zya S)
      have a : S.m ≤ (F (zya S)).m := a
      have b := zye_m (zyo (zyn T n S)) 0 (F (zya S))
      have c := zylp_m (T := T) (n := n) (is := is) hF f (zye (zyo (zyn T n S)) 0 (F (zya S)))
      omega
    · exact Nat.le_refl _
theorem zytm_m {T : Nat → Nat} {n : Nat} {G : Nat → zyS → zyS} (hG : ∀ o S, S.m ≤ (G o S).m) (o : Nat) (S : zyS) : S.m ≤ (zytm T n G o S).m := Nat.le_trans (zyfa_m hG o S) (zylp_m (zyfa_m hG o) n _)
theorem zysu_m {T : Nat → Nat} {n : Nat} : ∀ d o S, S.m ≤ (zysu T n d o S).m
  | 0, _, S => Nat.le_refl _
  | d + 1, o, S => by
    rw [zysu_s]
    exact Nat.le_trans (zytm_m (zysu_m d) o S) (zylp_m (zytm_m (zysu_m d) o) n _)
theorem zycm_m {T : Nat → Nat} {n : Nat} (o : Nat) (S : zyS) : S.m ≤ (zycm T n o S).m := by
  have a := zysu_m (T := T) (n := n) 8 o S
  have aux : ∀ c S2, S2.m = (zysu T n 8 o S).m → S.m ≤ (zycm2 T n o c S2).m := by
    intro c S2 h
    unfold zycm2
    split
    · have c1 := zysu_m (T := T) (n := n) 8 o (zya S2)
      have c1 : S2.m ≤ (zysu T n 8 o (zya S2)).m := c1
      have d := zye_m (zyo c) 0 (zysu T n 8 o (zya S2))
      omega
    · omega
  refine aux _ _ ?_
  split
  · rfl
  · exact zyf_m 1 _
theorem zych_m {T : Nat → Nat} {n op c : Nat} {F : zyS → zyS} (hF : ∀ S, S.m ≤ (F S).m) : ∀ f b S, S.m ≤ (zych T n op c F f b S).m
  | 0, b, S => by rw [zych_0, (zyd_m b S).1]; exact Nat.le_refl _
  | f + 1, b, S => by
    rw [zych_s]
    split
    · have a := (zyd_m b (zya S)).1
      have a : (zyd b (zya S)).m = S.m := a
      have e := zye_m op (zyd b (zya S)).m (zyd b (zya S))
      have g := hF (zye op (zyd b (zya S)).m (zyd b (zya S)))
      have h := zych_m (T := T) (n := n) (op := op) (c := c) hF f (some ((zye op (zyd b (zya S)).m (zyd b (zya S))).m - 1)) (F (zye op (zyd b (zya S)).m (zyd b (zya S))))
      omega
    · rw [(zyd_m b S).1]; exact Nat.le_refl _
theorem zypa_m {T : Nat → Nat} {n : Nat} {PC : Nat → zyS → zyS} (hP : ∀ o S, S.m ≤ (PC o S).m) (o : Nat) (S : zyS) : S.m ≤ (zypa T n PC o S).m := Nat.le_trans (hP o S) (zych_m (hP o) n none _)
theorem zycn_m {T : Nat → Nat} {n : Nat} {PC : Nat → zyS → zyS} (hP : ∀ o S, S.m ≤ (PC o S).m) (o : Nat) (S : zyS) : S.m ≤ (zycn T n PC o S).m := Nat.le_trans (zypa_m hP o S) (zych_m (zypa_m hP o) n none _)
theorem zypi_m {T : Nat → Nat} {n : Nat} : ∀ d o S, S.m ≤ (zypi T n d o S).m
  | 0, _, S => Nat.le_refl _
  | d + 1, o, S => by
    rw [zypi_s]
    split
    · exact Nat.le_refl _
    · split
      · exact zycm_m o S
      · split
        · rw [zyf_m]; exact Nat.le_refl _
        · split
          · exact Nat.le_trans (zypi_m d (o + 1) (zya S)) (zye_m _ _ _)
          · rw [zyt_m]; exact zycn_m (zypi_m d) (o + 1) (zya S)
/-- negations on top are noted -/
def zyns : List Nat → zyS → List Nat × zyS
  | [], S => ([], S)
  | w :: W, S => if w / 1048576 = 10 then zyns W (zye 10 0 S) else (w :: W, S)
theorem zyns_c (w : Nat) (W : List Nat) (S : zyS) : zyns (w :: W) S = if w / 1048576 = 10 then zyns W (zye 10 0 S) else (w :: W, S) := rfl
theorem zyns_e : ∀ (W : List Nat) (S : zyS), (zyns W S).2.e = S.e ∧ (zyns W S).2.p = S.p
  | [], _ => ⟨rfl, rfl⟩
  | w :: W, S => by
    rw [zyns_c]
    split
    · obtain ⟨a, b⟩ := zyns_e W (zye 10 0 S)
      obtain ⟨c, d⟩ := zye_p 10 0 S
      exact ⟨a.trans d, b.trans c⟩
    · exact ⟨rfl, rfl⟩
/-- none of these on top -/
def zynk (W : List Nat) (k : Nat) : Prop := ¬ zytp W = nI k
theorem zynk_c {w k : Nat} {W : List Nat} (hw : w < 16777216) (hk : k < 100) (h : w / 1048576 ≠ k) : zynk (w :: W) k := fun e => by
  have e : nI (w / 1048576) = nI k := e
  exact h ((nI_eq (by omega) (by omega)).mp e)
theorem zynk_0 {k : Nat} (hk : k < 100) : zynk [] k := fun e => absurd e.symm (nI_m1 (by omega))
theorem zyns_no {W : List Nat} (h : zynk W 10) (S : zyS) : zyns W S = (W, S) := by
  cases W with
  | nil => rfl
  | cons w W =>
    rw [zyns_c, if_neg (fun e => h (by show nI (w / 1048576) = nI 10; rw [e]))]
theorem zlp204 {s : zQs} {T : Nat → Nat} {n d : Nat} : ∀ W S I, zyR T n d W S I → ∃ J, zQ_204 (0, [.ref 58], [], zMk (s, I)) = some (.long 0, zMk (s, J)) ∧ zyR T n d (zyns W S).1 (zyns W S).2 J ∧ zyG I J
  | [], S, I, h => by
    refine ⟨I, ?_, h, zyG_rfl I⟩
    rw [zq_204_0, zf197r h, zcI_some, zq_204_2, if_pos (show ¬ zytp [] = 10 from zynk_0 (k := 10) (by decide))]
  | w :: W, S, I, h => by
    have hw := h.2.2.2.2.2.2.2.2.2.2.2.1 w (List.mem_cons_self)
    rw [zyns_c]
    by_cases c : w / 1048576 = 10
    · rw [if_pos c]
      obtain ⟨h1, h2, h3, h4, h5, h6, h7, h8, h9, h10, h11, h12, h13⟩ := id h
      have hpn : zypn (w :: W) = zypn W + 1 := by rw [zypn_c, if_pos (show zyisP w = true from decide_eq_true (Or.inr c))]
      have hop : zyop (w :: W) = zyop W + 1 := by rw [zyop_c, if_pos (show zyisO w = true from decide_eq_true (Or.inl c))]
      have hm : (zye 10 0 S) = (S.e, S.p, S.m + 1, (fun i => if i = S.m then (10, 0) else S.c i), S.l || (decide (10 = 1) && decide (0 = 3))) := zye_lt (by omega)
      have h10' : W.length + 1 ≤ S.p := h10
      have h7' : I 58 15 = nI (W.length + 1) := h7
      rw [hop] at h9
      have e1 : zf_195 [.ref 58, .int 10, .int 0] (zMk (s, I)) = some (.long 0, zMk (s, zwA (zwA I 64 (upd (I 64) S.m (nI 10485760))) 58 (upd (I 58) 14 (nI (S.m + 1))))) := by
        rw [zl_195, h6, if_pos (zb_t (show S.m < 180 by omega) (by omega)), nI_clamp (show S.m < 2 ^ 31 by omega), show (1048576 : Int32) * 10 + 0 = nI 10485760 by decide, nI_1]
      have hR : zyR T n d W (zye 10 0 S) (zwA (zwA I 64 (upd (I 64) S.m (nI 10485760))) 58 (upd (upd (upd (I 58) 14 (nI (S.m + 1))) 15 (nI W.length)) 13 (nI (zyop W)))) := by
        rw [hm]
        refine ⟨h1, ?_, ?_, h4, ?_, ?_, ?_, ?_, ?_, by show W.length ≤ S.p; omega, by show S.m + 1 + zypn W + d ≤ S.p; omega, fun y hy => h12 y (List.mem_cons_of_mem _ hy), fun i hi => ?_⟩
        · rw [zwA_n (by decide), zwA_n (by decide)]; exact h2
        · rw [zwA_s, upd_at, if_neg (by decide), upd_at, if_neg (by decide), upd_at, if_neg (by decide)]; exact h3
        · rw [zwA_s, upd_at, if_neg (by decide), upd_at, if_neg (by decide), upd_at, if_neg (by decide)]; exact h5
        · rw [zwA_s, upd_at, if_neg (by decide), upd_at, if_neg (by decide), upd_at, if_pos rfl]; rfl
        · rw [zwA_s, upd_at, if_neg (by decide), upd_at, if_pos rfl]
        · rw [zwA_n (by decide), zwA_n (by decide)]; exact h8.2
        · rw [zwA_s, upd_at, if_pos rfl]
        · have hi : i < S.m + 1 := hi
          show zwA _ 58 _ 64 i = nI (1048576 * (if i = S.m then (10, 0) else S.c i).1 + zyrv i (if i = S.m then (10, 0) else S.c i)) ∧ (if i = S.m then (10, 0) else S.c i).1 ≤ 12 ∧ (if i = S.m then (10, 0) else S.c i).2 < 100000
          rw [zwA_n (show (64 : Nat) ≠ 58 by decide), zwA_s, upd_at]
          by_cases e : i = S.m
          · rw [if_pos e, if_pos e, ← zyrv_lt (show 10 < 11 by decide)]
            exact ⟨rfl, by show 10 ≤ 12; decide, by show 0 < 100000; decide⟩
          · rw [if_neg e, if_neg e]
            exact h13 i (by omega)
      obtain ⟨J, e, r, g⟩ := zlp204 (s := s) W (zye 10 0 S) _ hR
      refine ⟨J, ?_, r, zyG_tr ⟨fun r a b _ => by rw [zwA_n a, zwA_n b], fun j _ _ x y z _ => by rw [zwA_s, upd_at, if_neg x, upd_at, if_neg z, upd_at, if_neg y]⟩ g⟩
      have e15 : nI (W.length + 1) - 1 = nI W.length := nI_sub (b := 1) (by omega)
      have e13 : nI (zyop W + 1) - 1 = nI (zyop W) := nI_sub (b := 1) (by omega)
      rw [zq_204_0, zf197r h, zcI_some, zq_204_2, if_neg (not_not_intro (show zytp (w :: W) = 10 by show nI (w / 1048576) = 10; rw [c]; rfl)), e1, zcV_some, zq_204_8, zwA_s, upd_at, if_neg (by decide), h7', e15, upd_at, if_neg (by decide), h9, e13, zwA_zwA, zwA_zwA]
      exact e
    · rw [if_neg c]
      refine ⟨I, ?_, h, zyG_rfl I⟩
      rw [zq_204_0, zf197r h, zcI_some, zq_204_2, if_pos (show ¬ zytp (w :: W) = 10 from zynk_c (k := 10) hw (by decide) c)]
/-- a comparison, and what it ends -/
theorem zf207r {s : zQs} {T : Nat → Nat} {n d o : Nat} {W : List Nat} {S : zyS} {I : Nat → Nat → Int32} (he : S.e = 0) (h : zyR T n d W S I) (hop : zyop W = o) (ho : o ≤ 6) (hnt : zynt W 2) :
    ((zycm T n o S).e = 0 → ∃ J, zf_207 [.ref 58] (zMk (s, I)) = some (.int 1, zMk (s, J)) ∧ zyR T n d (zyns W (zycm T n o S)).1 (zyns W (zycm T n o S)).2 J ∧ zyG I J) ∧
    ((zycm T n o S).e ≠ 0 → ∃ J, zf_207 [.ref 58] (zMk (s, I)) = some (.int 0, zMk (s, J)) ∧ zyN (zycm T n o S).e I J) := by
  obtain ⟨c1, c2⟩ := zf203r (s := s) he h hop ho hnt
  have hz : zycm T n o S = zycm2 T n o (zyn T n (zysu T n 8 o S)) (if zyi3 (zyn T n (zysu T n 8 o S)) = true then zysu T n 8 o S else zyf 1 (zysu T n 8 o S)) := rfl
  by_cases q : (zysu T n 8 o S).e = 0
  case neg =>
    obtain ⟨J, e, hN⟩ := c2 q
    have hz2 : (if zyi3 (zyn T n (zysu T n 8 o S)) = true then zysu T n 8 o S else zyf 1 (zysu T n 8 o S)) = zysu T n 8 o S := by
      split
      · rfl
      · exact zyf_n q
    have hz3 : zycm T n o S = zysu T n 8 o S := by
      rw [hz, hz2]
      exact if_neg q
    rw [hz3]
    refine ⟨fun w => absurd w q, fun _ => ⟨J, ?_, hN⟩⟩
    rw [zqz_207, zq_207_0, e, zcI_some, zq_207_2, if_neg (not_not_intro rfl)]
  obtain ⟨J1, e1, r1, g1⟩ := c1 q
  have x := zyR_256 r1
  have st : zf_207 [.ref 58] (zMk (s, I)) = zQ_207 (24, [.ref 58, .long 0], [if zyi3 (zyn T n (zysu T n 8 o S)) = true then .int (nI (zyo (zyn T n (zysu T n 8 o S)))) else .int (-1)], zMk (s, J1)) := by
    rw [zqz_207, zq_207_0, e1, zcI_some, zq_207_2, if_pos (by decide), zf190r r1, zcI_some, zq_207_7]
    by_cases d1 : zyn T n (zysu T n 8 o S) = 60
    · rw [if_neg (not_not_intro ((zyI_60 x).mpr d1)), d1]
      rfl
    · rw [if_pos (mt (zyI_60 x).mp d1), zf190r r1, zcI_some, zq_207_13]
      by_cases d2 : zyn T n (zysu T n 8 o S) = 62
      · rw [if_neg (not_not_intro ((zyI_62 x).mpr d2)), d2]
        rfl
      · rw [if_pos (mt (zyI_62 x).mp d2), zf190r r1, zcI_some, zq_207_19]
        by_cases d3 : zyn T n (zysu T n 8 o S) = 61
        · rw [if_neg (not_not_intro ((zyI_61 x).mpr d3)), d3]
          rfl
        · have h3 : zyi3 (zyn T n (zysu T n 8 o S)) = false := decide_eq_false (by omega)
          rw [if_pos (mt (zyI_61 x).mp d3), h3]
          rfl
  rw [st]
  by_cases hi : zyi3 (zyn T n (zysu T n 8 o S)) = true
  case neg =>
    have hz3 : zycm T n o S = zyf 1 (zysu T n 8 o S) := by
      rw [hz, if_neg hi, zyf_e q]
      exact if_neg (by show ¬ 1000 * 1 + _ = 0; omega)
    obtain ⟨J, e, hN⟩ := zf192r s J1 (k := 1) (by decide) (show (zysu T n 8 o S).p ≤ 160 by have := r1.1; have := r1.2.2.2.1; omega)
    have e : zf_192 [.ref 58, .int 1, .int (nI (zysu T n 8 o S).p)] (zMk (s, J1)) = _ := e
    rw [hz3, zyf_e q, if_neg hi]
    refine ⟨fun w => ?_, fun _ => ⟨J, ?_, hN.1, zyG_tr g1 hN.2⟩⟩
    · have w : 1000 * 1 + (zysu T n 8 o S).p = 0 := w
      omega
    · rw [zq_207_24, if_neg (not_not_intro rfl), r1.2.2.2.2.1, e, zcI_some, zq_207_33, if_pos (Or.inl rfl)]
  have hl := zyi_n (is := zyi3) rfl hi
  obtain ⟨o1, o2, o3⟩ := zyi3_o hi
  have hz3 : zycm T n o S = zye (zyo (zyn T n (zysu T n 8 o S))) 0 (zysu T n 8 o (zya (zysu T n 8 o S))) := by
    rw [hz, if_pos hi]
    exact if_pos q
  have op10 : zyo (zyn T n (zysu T n 8 o S)) < 11 := by rcases o3 with w | w | w <;> rw [w] <;> decide
  obtain ⟨r2, g2⟩ := zyR_pad r1 hl
  obtain ⟨d1, d2⟩ := zf203r (s := s) (show (zya (zysu T n 8 o S)).e = 0 from q) r2 hop ho hnt
  have ep : J1 58 10 = nI (zysu T n 8 o S).p := r1.2.2.2.2.1
  have st2 : zQ_207 (24, [.ref 58, .long 0], [.int (nI (zyo (zyn T n (zysu T n 8 o S))))], zMk (s, J1)) = (zcI (zf_203 [.ref 58] (zMk (s, zwA J1 58 (upd (J1 58) 10 (nI ((zysu T n 8 o S).p + 1)))))) fun v M => zQ_207 (42, [.ref 58, .int (nI (zyo (zyn T n (zysu T n 8 o S))))], [.int v], M)) := by
    rw [zq_207_24, if_pos (nI_m1 (show zyo (zyn T n (zysu T n 8 o S)) < 2 ^ 31 by omega)), ep, nI_1]
  rw [hz3, if_pos hi, st2]
  by_cases q2 : (zysu T n 8 o (zya (zysu T n 8 o S))).e = 0
  · obtain ⟨J3, e3, r3, g3⟩ := d1 q2
    have k11 := r3.2.2.2.2.2.2.2.2.2.2.1
    obtain ⟨J4, e4, r4, g4, -⟩ := zf195r (s := s) (d' := d) (op := zyo (zyn T n (zysu T n 8 o S))) (v := 0) (v0 := 0) r3 (by omega) (by omega) (by decide) (zyrv_lt op10)
    have e4 : zf_195 [.ref 58, .int (nI (zyo (zyn T n (zysu T n 8 o S)))), .int 0] (zMk (s, J3)) = _ := e4
    obtain ⟨J5, e5, r5, g5⟩ := zlp204 (s := s) _ _ _ r4
    refine ⟨fun _ => ⟨J5, ?_, r5, zyG_tr g1 (zyG_tr g2 (zyG_tr g3 (zyG_tr g4 g5)))⟩, fun w => absurd ((zye_p _ _ _).2.trans q2) w⟩
    rw [e3, zcI_some, zq_207_42, if_pos (by decide), e4, zcV_some, zq_207_49, zqz_204, e5, zcV_some, zq_207_51]
  · obtain ⟨J3, e3, hN⟩ := d2 q2
    rw [(zye_p _ _ _).2]
    refine ⟨fun w => absurd w q2, fun _ => ⟨J3, ?_, hN.1, zyG_tr g1 (zyG_tr g2 hN.2)⟩⟩
    rw [e3, zcI_some, zq_207_42, if_neg (not_not_intro rfl)]
/-- a jump is landed -/
theorem zlp205 {s : zQs} {T : Nat → Nat} {n d i op : Nat} {W : List Nat} {S : zyS} {I : Nat → Nat → Int32} (x1 : Int32) (x2 : Value) (hop : op = 11 ∨ op = 12) (h : zyR T n d ((1048576 * op + i) :: W) S I) (hi : i < S.m) :
    ∃ J x2', zQ_205 (10, [.ref 58, .int x1, x2], [], zMk (s, I)) = zQ_205 (0, [.ref 58, .int x1, x2'], [], zMk (s, J)) ∧ zyR T n d W (zyd (some i) S) J ∧ zyG I J := by
  obtain ⟨h1, h2, h3, h4, h5, h6, h7, h8, h9, h10, h11, h12, h13⟩ := h
  have h7' : I 58 15 = nI (W.length + 1) := h7
  have h10' : W.length + 1 ≤ S.p := h10
  have e15 : nI (W.length + 1) - 1 = nI W.length := nI_sub (b := 1) (by omega)
  have i160 : i < 160 := by omega
  have r65 : I 65 W.length = nI (1048576 * op + i) := h8.1
  have dv : nI (1048576 * op + i) / 1048576 = nI op := by rw [show nI (1048576 * op + i) / 1048576 = nI ((1048576 * op + i) / 1048576) from nI_div _ 1048576 (by omega) (by decide)]; congr 1; omega
  have md : nI (1048576 * op + i) - nI op * 1048576 = nI i := by
    rw [show nI op * 1048576 = nI (op * 1048576) from nI_mul op 1048576, nI_sub (by omega)]
    congr 1
    omega
  obtain ⟨k1, k2, k3⟩ := h13 i hi
  have zv : zyrv i (S.c i) < 1048576 := by unfold zyrv; split <;> omega
  have dv2 : (I 64 i) / 1048576 = nI (S.c i).1 := by
    rw [k1, show nI (1048576 * (S.c i).1 + zyrv i (S.c i)) / 1048576 = nI ((1048576 * (S.c i).1 + zyrv i (S.c i)) / 1048576) from nI_div _ 1048576 (by omega) (by decide)]
    congr 1
    omega
  have nv : (1048576 : Int32) * nI (S.c i).1 + nI S.m = nI (1048576 * (S.c i).1 + S.m) := by rw [show (1048576 : Int32) * nI (S.c i).1 = nI (1048576 * (S.c i).1) from nI_mul 1048576 _, nI_add]
  have hz : zyd (some i) S = (S.e, S.p, S.m, (fun j => if j = i then ((S.c i).1, S.m) else S.c j), S.l) := if_pos hi
  have hpn : zypn ((1048576 * op + i) :: W) = zypn W := by
    rw [zypn_c, if_neg (show ¬ zyisP (1048576 * op + i) = true from fun q => by have q := of_decide_eq_true q; omega)]
    rfl
  have hoo : zyop ((1048576 * op + i) :: W) = zyop W := by
    rw [zyop_c, if_neg (show ¬ zyisO (1048576 * op + i) = true from fun q => by have q := of_decide_eq_true q; omega)]
    rfl
  have z180 := zb_t (show i < 180 by omega) (show i < 2 ^ 31 by omega)
  refine ⟨zwA (zwA I 64 (upd (I 64) i (nI (1048576 * (S.c i).1 + S.m)))) 58 (upd (I 58) 15 (nI W.length)), .int (nI i), ?_, ?_, fun r a b _ => by rw [zwA_n a, zwA_n b], fun j _ _ _ _ e _ => by rw [zwA_s, upd_at, if_neg e]⟩
  · rw [zq_205_10, h7', e15, if_pos (zb_t (show W.length < 180 by omega) (by omega)), nI_clamp (show W.length < 2 ^ 31 by omega), r65, dv, md, if_pos z180, if_pos z180, nI_clamp (show i < 2 ^ 31 by omega), dv2, h6, nv]
  · rw [hz]
    refine ⟨h1, ?_, ?_, h4, ?_, ?_, ?_, ?_, ?_, by show W.length ≤ S.p; omega, by show S.m + zypn W + d ≤ S.p; omega, fun y hy => h12 y (List.mem_cons_of_mem _ hy), fun j hj => ?_⟩
    · rw [zwA_n (by decide), zwA_n (by decide)]; exact h2
    · rw [zwA_s, upd_at, if_neg (by decide)]; exact h3
    · rw [zwA_s, upd_at, if_neg (by decide)]; exact h5
    · rw [zwA_s, upd_at, if_neg (by decide)]; exact h6
    · rw [zwA_s, upd_at, if_pos rfl]
    · rw [zwA_n (by decide), zwA_n (by decide)]; exact h8.2
    · rw [zwA_s, upd_at, if_neg (by decide), h9, hoo]
    · have hj : j < S.m := hj
      show zwA _ 58 _ 64 j = nI (1048576 * (if j = i then ((S.c i).1, S.m) else S.c j).1 + zyrv j (if j = i then ((S.c i).1, S.m) else S.c j)) ∧ (if j = i then ((S.c i).1, S.m) else S.c j).1 ≤ 12 ∧ (if j = i then ((S.c i).1, S.m) else S.c j).2 < 100000
      rw [zwA_n (show (64 : Nat) ≠ 58 by decide), zwA_s, upd_at]
      by_cases e : j = i
      · rw [if_pos e, if_pos e]
        refine ⟨?_, k2, by show S.m < 100000; omega⟩
        have hv : zyrv j ((S.c i).1, S.m) = S.m := if_neg (fun q => by have q2 := q.2; have q2 : S.m = j := q2; omega)
        rw [hv]
      · rw [if_neg e, if_neg e]
        exact h13 j hj
/-- a jump, noted to be landed later -/
theorem zf206r {s : zQs} {T : Nat → Nat} {n d op : Nat} {W : List Nat} {S : zyS} {I : Nat → Nat → Int32} (hop : op = 11 ∨ op = 12) (h : zyR T n d W S I) (hl : S.p < n) :
    ∃ J, zf_206 [.ref 58, .int (nI op)] (zMk (s, I)) = some (.long 0, zMk (s, J)) ∧ zyR T n d ((1048576 * op + S.m) :: W) (zye op S.m (zya S)) J ∧ zyG I J := by
  obtain ⟨h1, h2, h3, h4, h5, h6, h7, h8, h9, h10, h11, h12, h13⟩ := id h
  have hm : S.m < 160 := by omega
  have hz : zye op S.m (zya S) = (S.e, S.p + 1, S.m + 1, (fun i => if i = S.m then (op, S.m) else S.c i), S.l || (decide (op = 1) && decide (S.m = 3))) := zye_lt (S := zya S) hm
  have ev : (1048576 : Int32) * nI op + nI S.m = nI (1048576 * op + S.m) := by rw [show (1048576 : Int32) * nI op = nI (1048576 * op) from nI_mul 1048576 op, nI_add]
  have ev0 : (1048576 : Int32) * nI op + 0 = nI (1048576 * op + 0) := by rw [show (1048576 : Int32) * nI op = nI (1048576 * op) from nI_mul 1048576 op]; exact nI_add _ 0
  have e1 : ∀ K : Nat → Nat → Int32, K 58 14 = nI S.m → zf_195 [.ref 58, .int (nI op), .int 0] (zMk (s, K)) = some (.long 0, zMk (s, zwA (zwA K 64 (upd (K 64) S.m (nI (1048576 * op + 0)))) 58 (upd (K 58) 14 (nI (S.m + 1))))) := fun K hK => by
    rw [zl_195, hK, if_pos (zb_t (show S.m < 180 by omega) (by omega)), nI_clamp (show S.m < 2 ^ 31 by omega), ev0, nI_1]
  have hpn : zypn ((1048576 * op + S.m) :: W) = zypn W := by
    rw [zypn_c, if_neg (show ¬ zyisP (1048576 * op + S.m) = true from fun q => by have q := of_decide_eq_true q; omega)]
    rfl
  have hoo : zyop ((1048576 * op + S.m) :: W) = zyop W := by
    rw [zyop_c, if_neg (show ¬ zyisO (1048576 * op + S.m) = true from fun q => by have q := of_decide_eq_true q; omega)]
    rfl
  refine ⟨zwA (zwA (zwA I 65 (upd (I 65) W.length (nI (1048576 * op + S.m)))) 64 (upd (I 64) S.m (nI (1048576 * op + 0)))) 58 (upd (upd (upd (I 58) 15 (nI (W.length + 1))) 14 (nI (S.m + 1))) 10 (nI (S.p + 1))), ?_, ?_, fun r a b c => by rw [zwA_n a, zwA_n b, zwA_n c], fun j a _ _ b c _ => by rw [zwA_s, upd_at, if_neg a, upd_at, if_neg b, upd_at, if_neg c]⟩
  · rw [zqz_206, zq_206_0, h7, if_pos (zb_t (show W.length < 180 by omega) (by omega)), nI_clamp (show W.length < 2 ^ 31 by omega), h6, ev, nI_1, e1 _ (by rw [zwA_s, upd_at, if_neg (by decide)]; exact h6), zcV_some, zq_206_21]
    refine congrArg (fun K => some (Value.long 0, zMk (s, K))) (funext fun r => ?_)
    by_cases e58 : r = 58
    · subst e58
      rw [zwA_s, zwA_s, zwA_s, zwA_s, upd_at, if_neg (by decide), upd_at, if_neg (by decide), h5, nI_1]
    · rw [zwA_n e58, zwA_n e58, zwA_n e58]
      by_cases e64 : r = 64
      · subst e64
        rw [zwA_s, zwA_s, zwA_n (by decide), zwA_n (by decide)]
      · rw [zwA_n e64, zwA_n e64, zwA_n e58]
  · rw [hz]
    refine ⟨h1, ?_, ?_, hl, ?_, ?_, ?_, ⟨?_, ?_⟩, ?_, by show W.length + 1 ≤ S.p + 1; omega, by rw [hpn]; show S.m + 1 + zypn W + d ≤ S.p + 1; omega, fun y hy => ?_, fun i hi => ?_⟩
    · rw [zwA_n (by decide), zwA_n (by decide), zwA_n (by decide)]; exact h2
    · rw [zwA_s, upd_at, if_neg (by decide), upd_at, if_neg (by decide), upd_at, if_neg (by decide)]; exact h3
    · rw [zwA_s, upd_at, if_pos rfl]; rfl
    · rw [zwA_s, upd_at, if_neg (by decide), upd_at, if_pos rfl]; rfl
    · rw [zwA_s, upd_at, if_neg (by decide), upd_at, if_neg (by decide), upd_at, if_pos rfl]; rfl
    · rw [zwA_n (by decide), zwA_n (by decide), zwA_s, upd_at, if_pos rfl]
    · rw [zwA_n (by decide), zwA_n (by decide), zwA_s]
      exact zyst_up W (Nat.le_refl _) h8
    · rw [zwA_s, upd_at, if_neg (by decide), upd_at, if_neg (by decide), upd_at, if_neg (by decide), h9, hoo]
    · rcases List.mem_cons.mp hy with e | e
      · rw [e]; omega
      · exact h12 y e
    · have hi : i < S.m + 1 := hi
      show zwA _ 58 _ 64 i = nI (1048576 * (if i = S.m then (op, S.m) else S.c i).1 + zyrv i (if i = S.m then (op, S.m) else S.c i)) ∧ (if i = S.m then (op, S.m) else S.c i).1 ≤ 12 ∧ (if i = S.m then (op, S.m) else S.c i).2 < 100000
      rw [zwA_n (show (64 : Nat) ≠ 58 by decide), zwA_s, upd_at]
      by_cases e : i = S.m
      · rw [if_pos e, if_pos e]
        refine ⟨?_, by show op ≤ 12; omega, by show S.m < 100000; omega⟩
        have hv : zyrv i (op, S.m) = 0 := if_pos ⟨by show 11 ≤ op; omega, e.symm⟩
        rw [hv]
      · rw [if_neg e, if_neg e]
        exact h13 i (by omega)
