/-! THE LAW'S TEXT, READ BY THE REFERENCE: CONDITIONS SIMULATED -/
def zyent (op : Nat) (b : Option Nat) : List Nat := match b with
  | none => []
  | some i => [1048576 * op + i]
theorem zyd_a (b : Option Nat) (S : zyS) : zyd b (zya S) = zya (zyd b S) := by
  cases b with
  | none => rfl
  | some i =>
    by_cases h : i < S.m
    · have a : zyd (some i) (zya S) = (S.e, S.p + 1, S.m, (fun j => if j = i then ((S.c i).1, S.m) else S.c j), S.l) := if_pos h
      have c : zyd (some i) S = (S.e, S.p, S.m, (fun j => if j = i then ((S.c i).1, S.m) else S.c j), S.l) := if_pos h
      rw [a, c]
      rfl
    · have a : zyd (some i) (zya S) = zya S := if_neg h
      have c : zyd (some i) S = S := if_neg h
      rw [a, c]
theorem zych_e {T : Nat → Nat} {n op c : Nat} {F : zyS → zyS} {f : Nat} {b : Option Nat} {S : zyS} (h : S.e ≠ 0) : zych T n op c F f b S = zyd b S := by
  cases f with
  | zero => rfl
  | succ f => rw [zych_s, if_neg (fun q => h q.1)]
theorem zych_n0 {T : Nat → Nat} {n op c : Nat} {F : zyS → zyS} {f : Nat} {b : Option Nat} {S : zyS} (h : zyn T n S ≠ c) : zych T n op c F f b S = zyd b S := by
  cases f with
  | zero => rfl
  | succ f => rw [zych_s, if_neg (fun q => h q.2)]
theorem zlp205n {s : zQs} {T : Nat → Nat} {n d : Nat} {W : List Nat} {S : zyS} {I : Nat → Nat → Int32} {x1 : Int32} (x2 : Value) (h : zyR T n d W S I) (h11 : zynk W 11) (h12 : x1 = 0 ∨ zynk W 12) : zQ_205 (0, [.ref 58, .int x1, x2], [], zMk (s, I)) = some (.long 0, zMk (s, I)) := by
  rw [zq_205_0, zf197r h, zcI_some, zq_205_2, if_neg (show ¬ zytp W = 11 from h11)]
  by_cases c : x1 = 0
  · rw [if_pos c]
  · rw [if_neg c, zf197r h, zcI_some, zq_205_8, if_pos (show ¬ zytp W = 12 from by
      rcases h12 with q | q
      · exact absurd q c
      · exact q)]
theorem zytp_j (op i : Nat) (hi : i < 1048576) (W : List Nat) : zytp ((1048576 * op + i) :: W) = nI op := by
  show nI ((1048576 * op + i) / 1048576) = nI op
  congr 1
  omega
theorem zf205a {s : zQs} {T : Nat → Nat} {n d : Nat} {W : List Nat} {S : zyS} {I : Nat → Nat → Int32} {b : Option Nat} (h : zyR T n d (zyent 11 b ++ W) S I) (h11 : zynk W 11) (hb : ∀ i, b = some i → i < S.m) :
    ∃ J, zf_205 [.ref 58, .int 0] (zMk (s, I)) = some (.long 0, zMk (s, J)) ∧ zyR T n d W (zyd b S) J ∧ zyG I J := by
  rw [zqz_205]
  cases b with
  | none => exact ⟨I, zlp205n _ h h11 (Or.inl rfl), h, zyG_rfl I⟩
  | some i =>
    have hi := hb i rfl
    have h : zyR T n d ((1048576 * 11 + i) :: W) S I := h
    have i160 : i < 160 := by have := h.1; have := h.2.2.2.1; have := h.2.2.2.2.2.2.2.2.2.2.1; omega
    obtain ⟨J, x2', e, r, g⟩ := zlp205 (s := s) 0 (.long 0) (Or.inl rfl) h hi
    refine ⟨J, ?_, r, g⟩
    rw [zq_205_0, zf197r h, zcI_some, zq_205_2, if_pos (show zytp ((1048576 * 11 + i) :: W) = 11 from zytp_j 11 i (by omega) W), e]
    exact zlp205n _ r h11 (Or.inl rfl)
theorem zf205b {s : zQs} {T : Nat → Nat} {n d : Nat} {W : List Nat} {S : zyS} {I : Nat → Nat → Int32} {b1 b2 : Option Nat} (h : zyR T n d (zyent 11 b1 ++ (zyent 12 b2 ++ W)) S I) (h11 : zynk W 11) (h12 : zynk W 12) (hb1 : ∀ i, b1 = some i → i < S.m) (hb2 : ∀ i, b2 = some i → i < S.m) :
    ∃ J, zf_205 [.ref 58, .int 1] (zMk (s, I)) = some (.long 0, zMk (s, J)) ∧ zyR T n d W (zyd b2 (zyd b1 S)) J ∧ zyG I J := by
  have two : ∀ (x2 : Value) (Q : zyS) (K : Nat → Nat → Int32), zyR T n d (zyent 12 b2 ++ W) Q K → (∀ i, b2 = some i → i < Q.m) → ∃ J, zQ_205 (0, [.ref 58, .int 1, x2], [], zMk (s, K)) = some (.long 0, zMk (s, J)) ∧ zyR T n d W (zyd b2 Q) J ∧ zyG K J := by
    intro x2 Q K h hb
    cases b2 with
    | none => exact ⟨K, zlp205n _ h h11 (Or.inr h12), h, zyG_rfl K⟩
    | some i =>
      have hi := hb i rfl
      have h : zyR T n d ((1048576 * 12 + i) :: W) Q K := h
      have i160 : i < 160 := by have := h.1; have := h.2.2.2.1; have := h.2.2.2.2.2.2.2.2.2.2.1; omega
      obtain ⟨J, x2', e, r, g⟩ := zlp205 (s := s) 1 x2 (Or.inr rfl) h hi
      have et : zytp ((1048576 * 12 + i) :: W) = nI 12 := zytp_j 12 i (by omega) W
      refine ⟨J, ?_, r, g⟩
      rw [zq_205_0, zf197r h, zcI_some, zq_205_2, et, if_neg (show ¬ nI 12 = 11 by decide), if_neg (by decide), zf197r h, zcI_some, zq_205_8, et, if_neg (not_not_intro (show nI 12 = 12 by decide)), e]
      exact zlp205n _ r h11 (Or.inr h12)
  rw [zqz_205]
  cases b1 with
  | none => exact two (.long 0) S I h hb2
  | some i =>
    have hi := hb1 i rfl
    have h : zyR T n d ((1048576 * 11 + i) :: (zyent 12 b2 ++ W)) S I := h
    have i160 : i < 160 := by have := h.1; have := h.2.2.2.1; have := h.2.2.2.2.2.2.2.2.2.2.1; omega
    obtain ⟨J, x2', e, r, g⟩ := zlp205 (s := s) 1 (.long 0) (Or.inl rfl) h hi
    obtain ⟨K, e2, r2, g2⟩ := two x2' _ J r (fun j hj => by rw [(zyd_m (some i) S).1]; exact hb2 j hj)
    refine ⟨K, ?_, r2, zyG_tr g g2⟩
    rw [zq_205_0, zf197r h, zcI_some, zq_205_2, if_pos (show zytp ((1048576 * 11 + i) :: (zyent 12 b2 ++ W)) = 11 from zytp_j 11 i (by omega) _), e]
    exact e2
def zyPc (s : zQs) (T : Nat → Nat) (n o : Nat) (Fp : zyS → zyS) : Prop := ∀ d W S I, S.e = 0 → zyR T n d W S I → zyop W = o → zynt W 2 → W ≠ [] →
  ((Fp S).e = 0 → ∃ J, zQ_208 (22, [.ref 58], [], zMk (s, I)) = zQ_208 (47, [.ref 58], [], zMk (s, J)) ∧ zyR T n d (zyns W (Fp S)).1 (zyns W (Fp S)).2 J ∧ zyG I J) ∧
  ((Fp S).e ≠ 0 → ∃ J, zQ_208 (22, [.ref 58], [], zMk (s, I)) = some (.int 0, zMk (s, J)) ∧ zyN (Fp S).e I J)
def zyPa (s : zQs) (T : Nat → Nat) (n o : Nat) (Fp : zyS → zyS) : Prop := ∀ d W S I, S.e = 0 → zyR T n d W S I → zyop W = o → zynt W 2 → zynk W 10 → zynk W 11 → W ≠ [] →
  ((Fp S).e = 0 → ∃ J b Q, zQ_208 (22, [.ref 58], [], zMk (s, I)) = zQ_208 (47, [.ref 58], [], zMk (s, J)) ∧ zyR T n d (zyent 11 b ++ W) Q J ∧ zyd b Q = Fp S ∧ (∀ i, b = some i → i < Q.m) ∧ zyn T n Q ≠ 38 ∧ zyG I J) ∧
  ((Fp S).e ≠ 0 → ∃ J, zQ_208 (22, [.ref 58], [], zMk (s, I)) = some (.int 0, zMk (s, J)) ∧ zyN (Fp S).e I J)
def zyPn (s : zQs) (T : Nat → Nat) (n o : Nat) (Fp : zyS → zyS) : Prop := ∀ d W S I, S.e = 0 → zyR T n d W S I → zyop W = o → zynt W 2 → zynk W 10 → zynk W 11 → zynk W 12 → W ≠ [] →
  ((Fp S).e = 0 → ∃ J b1 b2 Q, zQ_208 (22, [.ref 58], [], zMk (s, I)) = zQ_208 (47, [.ref 58], [], zMk (s, J)) ∧ zyR T n d (zyent 11 b1 ++ (zyent 12 b2 ++ W)) Q J ∧ zyd b2 (zyd b1 Q) = Fp S ∧ (∀ i, b1 = some i → i < Q.m) ∧ (∀ i, b2 = some i → i < Q.m) ∧ zyn T n Q ≠ 38 ∧ zyn T n Q ≠ 124 ∧ zyG I J) ∧
  ((Fp S).e ≠ 0 → ∃ J, zQ_208 (22, [.ref 58], [], zMk (s, I)) = some (.int 0, zMk (s, J)) ∧ zyN (Fp S).e I J)
theorem zyop_j {op i : Nat} (hop : op = 11 ∨ op = 12) (hi : i < 1048576) (W : List Nat) : zyop ((1048576 * op + i) :: W) = zyop W := by
  rw [zyop_c, if_neg (show ¬ zyisO (1048576 * op + i) = true from fun q => by have q := of_decide_eq_true q; omega)]
  rfl
theorem zynt_j {op i : Nat} (hop : op = 11 ∨ op = 12) (hi : i < 1048576) (W : List Nat) : zynt ((1048576 * op + i) :: W) 2 := zynt_c (by omega) (by omega)
theorem zynk_j {op i k : Nat} (hop : op = 11 ∨ op = 12) (hk : k < 100) (hi : i < 1048576) (h : op ≠ k) (W : List Nat) : zynk ((1048576 * op + i) :: W) k := zynk_c (by omega) hk (by omega)
/-- a part goes on -/
theorem zyPa_l {s : zQs} {T : Nat → Nat} {n o : Nat} {Fp : zyS → zyS} (hF : zyPc s T n o Fp) (hk : ∀ S, zyk n S (Fp S)) (hm : ∀ S, S.m ≤ (Fp S).m) : ∀ f d W b Q I, zyR T n d (zyent 11 b ++ W) Q I → zyop W = o → zynk W 10 → zynk W 11 → Q.e = 0 → (∀ i, b = some i → i < Q.m) → n ≤ Q.p + f →
    ((zych T n 11 38 Fp f b Q).e = 0 → ∃ J b' Q', zQ_208 (47, [.ref 58], [], zMk (s, I)) = zQ_208 (47, [.ref 58], [], zMk (s, J)) ∧ zyR T n d (zyent 11 b' ++ W) Q' J ∧ zyd b' Q' = zych T n 11 38 Fp f b Q ∧ (∀ i, b' = some i → i < Q'.m) ∧ zyn T n Q' ≠ 38 ∧ zyG I J) ∧
    ((zych T n 11 38 Fp f b Q).e ≠ 0 → ∃ J, zQ_208 (47, [.ref 58], [], zMk (s, I)) = some (.int 0, zMk (s, J)) ∧ zyN (zych T n 11 38 Fp f b Q).e I J) := by
  intro f
  have stop : ∀ f d W b Q I, zyR T n d (zyent 11 b ++ W) Q I → Q.e = 0 → (∀ i, b = some i → i < Q.m) → zyn T n Q ≠ 38 → ((zych T n 11 38 Fp f b Q).e = 0 → ∃ J b' Q', zQ_208 (47, [.ref 58], [], zMk (s, I)) = zQ_208 (47, [.ref 58], [], zMk (s, J)) ∧ zyR T n d (zyent 11 b' ++ W) Q' J ∧ zyd b' Q' = zych T n 11 38 Fp f b Q ∧ (∀ i, b' = some i → i < Q'.m) ∧ zyn T n Q' ≠ 38 ∧ zyG I J) ∧
    ((zych T n 11 38 Fp f b Q).e ≠ 0 → ∃ J, zQ_208 (47, [.ref 58], [], zMk (s, I)) = some (.int 0, zMk (s, J)) ∧ zyN (zych T n 11 38 Fp f b Q).e I J) := by
    intro f d W b Q I h he hb hs
    rw [zych_n0 hs]
    exact ⟨fun _ => ⟨I, b, Q, rfl, h, rfl, hb, hs, zyG_rfl I⟩, fun q => absurd ((zyd_m b Q).2.2.trans he) q⟩
  induction f with
  | zero =>
    intro d W b Q I h hop h10 h11 he hb hn
    exact stop 0 d W b Q I h he hb (fun q => by have := (zyn_lt q (by decide)).1; omega)
  | succ f ih =>
    intro d W b Q I h hop h10 h11 he hb hn
    by_cases hc : zyn T n Q = 38
    case neg => exact stop (f + 1) d W b Q I h he hb hc
    have hl := (zyn_lt hc (by decide)).1
    obtain ⟨J1, e1, r1, g1⟩ := zf205a (s := s) h h11 hb
    obtain ⟨m1, m2, m3⟩ := zyd_m b Q
    have hl1 : (zyd b Q).p < n := by rw [m2]; exact hl
    have hsg : zyn T n (zyd b Q) = zyn T n Q := zyn_p m2
    obtain ⟨J2, e2, r2, g2⟩ := zf206r (s := s) (op := 11) (Or.inl rfl) r1 hl1
    have e2 : zf_206 [.ref 58, .int 11] (zMk (s, J1)) = _ := e2
    have m160 : (zyd b Q).m < 160 := by have := r1.1; have := r1.2.2.2.2.2.2.2.2.2.2.1; omega
    have x := zyR_256 h
    have x1 := zyR_256 r1
    have st : zQ_208 (47, [.ref 58], [], zMk (s, I)) = zQ_208 (22, [.ref 58], [], zMk (s, J2)) := by
      have c1 : zyn T n (zyd b Q) = 38 := hsg.trans hc
      rw [zq_208_47, zf190r h, zcI_some, zq_208_49, if_pos (mt (zyI_41 x).mp (by omega)), zf190r h, zcI_some, zq_208_82, if_pos ((zyI_38 x).mpr hc), zf190r h, zcI_some, zq_208_97, if_pos (mt (zyI_124 x).mp (by omega)), e1, zcV_some, zq_208_103, zf190r r1, zcI_some, zq_208_106, if_neg (not_not_intro ((zyI_38 x1).mpr c1)), e2, zcV_some, zq_208_112]
    have hz0 : zyd b (zya Q) = zya (zyd b Q) := zyd_a b Q
    have hS2m : (zye 11 (zyd b Q).m (zya (zyd b Q))).m = (zyd b Q).m + 1 := by rw [zye_lt (S := zya (zyd b Q)) m160]; rfl
    have hz : zych T n 11 38 Fp (f + 1) b Q = zych T n 11 38 Fp f (some (zyd b Q).m) (Fp (zye 11 (zyd b Q).m (zya (zyd b Q)))) := by
      rw [zych_s, if_pos ⟨he, hc⟩, hz0]
      show zych T n 11 38 Fp f (some ((zye 11 (zyd b Q).m (zya (zyd b Q))).m - 1)) (Fp (zye 11 (zyd b Q).m (zya (zyd b Q)))) = _
      rw [hS2m]
      rfl
    have he2 : (zye 11 (zyd b Q).m (zya (zyd b Q))).e = 0 := (zye_p _ _ _).2.trans (m3.trans he)
    have i20 : (zyd b Q).m < 1048576 := by omega
    obtain ⟨c1, c2⟩ := hF d ((1048576 * 11 + (zyd b Q).m) :: W) (zye 11 (zyd b Q).m (zya (zyd b Q))) J2 he2 r2 ((zyop_j (Or.inl rfl) i20 W).trans hop) (zynt_j (Or.inl rfl) i20 W) (fun q => nomatch q)
    rw [hz, st]
    by_cases q : (Fp (zye 11 (zyd b Q).m (zya (zyd b Q)))).e = 0
    · obtain ⟨J3, a1, a2, a3⟩ := c1 q
      rw [zyns_no (zynk_j (Or.inl rfl) (by decide) i20 (by decide) W)] at a2
      have k1 := (hk (zye 11 (zyd b Q).m (zya (zyd b Q)))).2.1
      have k2 := (zye_p 11 (zyd b Q).m (zya (zyd b Q))).1
      have k2 : (zye 11 (zyd b Q).m (zya (zyd b Q))).p = (zyd b Q).p + 1 := k2
      have k3 := hm (zye 11 (zyd b Q).m (zya (zyd b Q)))
      obtain ⟨i1, i2⟩ := ih d W (some (zyd b Q).m) (Fp (zye 11 (zyd b Q).m (zya (zyd b Q)))) J3 a2 hop h10 h11 q (fun i hi => by have := Option.some.inj hi; omega) (by omega)
      have g := zyG_tr g1 (zyG_tr g2 a3)
      refine ⟨fun w => ?_, fun w => ?_⟩
      · obtain ⟨J, b', Q', b1, b2, b3, b4, b5, b6⟩ := i1 w
        exact ⟨J, b', Q', a1.trans b1, b2, b3, b4, b5, zyG_tr g b6⟩
      · obtain ⟨J, b1, b2, b3⟩ := i2 w
        exact ⟨J, a1.trans b1, b2, zyG_tr g b3⟩
    · obtain ⟨J3, a1, a2, a3⟩ := c2 q
      rw [zych_e q, (zyd_m _ _).2.2]
      exact ⟨fun w => absurd w q, fun _ => ⟨J3, a1, a2, zyG_tr g1 (zyG_tr g2 a3)⟩⟩
theorem zyPa_of {s : zQs} {T : Nat → Nat} {n o : Nat} {PC : Nat → zyS → zyS} (hF : zyPc s T n o (PC o)) (hk : ∀ o S, zyk n S (PC o S)) (hm : ∀ o S, S.m ≤ (PC o S).m) : zyPa s T n o (zypa T n PC o) := by
  intro d W S I he h hop hnt h10 h11 hne
  obtain ⟨c1, c2⟩ := hF d W S I he h hop hnt hne
  have hz : zypa T n PC o S = zych T n 11 38 (PC o) n none (PC o S) := rfl
  rw [hz]
  by_cases q : (PC o S).e = 0
  · obtain ⟨J1, a1, a2, a3⟩ := c1 q
    rw [zyns_no h10] at a2
    obtain ⟨i1, i2⟩ := zyPa_l hF (hk o) (hm o) n d W none _ J1 a2 hop h10 h11 q (fun i hi => nomatch hi) (by omega)
    refine ⟨fun w => ?_, fun w => ?_⟩
    · obtain ⟨J, b', Q', b1, b2, b3, b4, b5, b6⟩ := i1 w
      exact ⟨J, b', Q', a1.trans b1, b2, b3, b4, b5, zyG_tr a3 b6⟩
    · obtain ⟨J, b1, b2, b3⟩ := i2 w
      exact ⟨J, a1.trans b1, b2, zyG_tr a3 b3⟩
  · obtain ⟨J1, a1, a2⟩ := c2 q
    rw [zych_e q]
    exact ⟨fun w => absurd w q, fun _ => ⟨J1, a1, a2⟩⟩
/-- a condition goes on -/
theorem zyPn_l {s : zQs} {T : Nat → Nat} {n o : Nat} {Fp : zyS → zyS} (hF : zyPa s T n o Fp) (hk : ∀ S, zyk n S (Fp S)) (hm : ∀ S, S.m ≤ (Fp S).m) : ∀ f d W b1 b Q I, zyR T n d (zyent 11 b1 ++ (zyent 12 b ++ W)) Q I → zyop W = o → zynk W 10 → zynk W 11 → zynk W 12 → Q.e = 0 → (∀ i, b1 = some i → i < Q.m) → (∀ i, b = some i → i < Q.m) → zyn T n Q ≠ 38 → n ≤ Q.p + f →
    ((zych T n 12 124 Fp f b (zyd b1 Q)).e = 0 → ∃ J b1' b' Q', zQ_208 (47, [.ref 58], [], zMk (s, I)) = zQ_208 (47, [.ref 58], [], zMk (s, J)) ∧ zyR T n d (zyent 11 b1' ++ (zyent 12 b' ++ W)) Q' J ∧ zyd b' (zyd b1' Q') = zych T n 12 124 Fp f b (zyd b1 Q) ∧ (∀ i, b1' = some i → i < Q'.m) ∧ (∀ i, b' = some i → i < Q'.m) ∧ zyn T n Q' ≠ 38 ∧ zyn T n Q' ≠ 124 ∧ zyG I J) ∧
    ((zych T n 12 124 Fp f b (zyd b1 Q)).e ≠ 0 → ∃ J, zQ_208 (47, [.ref 58], [], zMk (s, I)) = some (.int 0, zMk (s, J)) ∧ zyN (zych T n 12 124 Fp f b (zyd b1 Q)).e I J) := by
  intro f
  have stop : ∀ f d W b1 b Q I, zyR T n d (zyent 11 b1 ++ (zyent 12 b ++ W)) Q I → Q.e = 0 → (∀ i, b1 = some i → i < Q.m) → (∀ i, b = some i → i < Q.m) → zyn T n Q ≠ 38 → zyn T n Q ≠ 124 → ((zych T n 12 124 Fp f b (zyd b1 Q)).e = 0 → ∃ J b1' b' Q', zQ_208 (47, [.ref 58], [], zMk (s, I)) = zQ_208 (47, [.ref 58], [], zMk (s, J)) ∧ zyR T n d (zyent 11 b1' ++ (zyent 12 b' ++ W)) Q' J ∧ zyd b' (zyd b1' Q') = zych T n 12 124 Fp f b (zyd b1 Q) ∧ (∀ i, b1' = some i → i < Q'.m) ∧ (∀ i, b' = some i → i < Q'.m) ∧ zyn T n Q' ≠ 38 ∧ zyn T n Q' ≠ 124 ∧ zyG I J) ∧
    ((zych T n 12 124 Fp f b (zyd b1 Q)).e ≠ 0 → ∃ J, zQ_208 (47, [.ref 58], [], zMk (s, I)) = some (.int 0, zMk (s, J)) ∧ zyN (zych T n 12 124 Fp f b (zyd b1 Q)).e I J) := by
    intro f d W b1 b Q I h he hb1 hb h38 hs
    rw [zych_n0 (show zyn T n (zyd b1 Q) ≠ 124 by rw [zyn_p (zyd_m b1 Q).2.1]; exact hs)]
    exact ⟨fun _ => ⟨I, b1, b, Q, rfl, h, rfl, hb1, hb, h38, hs, zyG_rfl I⟩, fun q => absurd ((zyd_m b _).2.2.trans ((zyd_m b1 Q).2.2.trans he)) q⟩
  induction f with
  | zero =>
    intro d W b1 b Q I h hop h10 h11 h12 he hb1 hb h38 hn
    exact stop 0 d W b1 b Q I h he hb1 hb h38 (fun q => by have := (zyn_lt q (by decide)).1; omega)
  | succ f ih =>
    intro d W b1 b Q I h hop h10 h11 h12 he hb1 hb h38 hn
    by_cases hc : zyn T n Q = 124
    case neg => exact stop (f + 1) d W b1 b Q I h he hb1 hb h38 hc
    have hl := (zyn_lt hc (by decide)).1
    obtain ⟨J1, e1, r1, g1⟩ := zf205b (s := s) h h11 h12 hb1 hb
    obtain ⟨u1, u2, u3⟩ := zyd_m b1 Q
    obtain ⟨m1, m2, m3⟩ := zyd_m b (zyd b1 Q)
    have hl1 : (zyd b (zyd b1 Q)).p < n := by rw [m2, u2]; exact hl
    have hsg : zyn T n (zyd b (zyd b1 Q)) = zyn T n Q := (zyn_p m2).trans (zyn_p u2)
    obtain ⟨J2, e2, r2, g2⟩ := zf206r (s := s) (op := 12) (Or.inr rfl) r1 hl1
    have e2 : zf_206 [.ref 58, .int 12] (zMk (s, J1)) = _ := e2
    have m160 : (zyd b (zyd b1 Q)).m < 160 := by have := r1.1; have := r1.2.2.2.2.2.2.2.2.2.2.1; omega
    have x := zyR_256 h
    have x1 := zyR_256 r1
    have st : zQ_208 (47, [.ref 58], [], zMk (s, I)) = zQ_208 (22, [.ref 58], [], zMk (s, J2)) := by
      have c1 : ¬ zyn T n (zyd b (zyd b1 Q)) = 38 := by rw [hsg]; exact h38
      rw [zq_208_47, zf190r h, zcI_some, zq_208_49, if_pos (mt (zyI_41 x).mp (by omega)), zf190r h, zcI_some, zq_208_82, if_neg (mt (zyI_38 x).mp h38), zf190r h, zcI_some, zq_208_86, if_pos ((zyI_124 x).mpr hc), zf190r h, zcI_some, zq_208_97, if_neg (not_not_intro ((zyI_124 x).mpr hc)), e1, zcV_some, zq_208_103, zf190r r1, zcI_some, zq_208_106, if_pos (mt (zyI_38 x1).mp c1), e2, zcV_some, zq_208_112]
    have hz0 : zyd b (zya (zyd b1 Q)) = zya (zyd b (zyd b1 Q)) := zyd_a b (zyd b1 Q)
    have hS2m : (zye 12 (zyd b (zyd b1 Q)).m (zya (zyd b (zyd b1 Q)))).m = (zyd b (zyd b1 Q)).m + 1 := by rw [zye_lt (S := zya (zyd b (zyd b1 Q))) m160]; rfl
    have hz : zych T n 12 124 Fp (f + 1) b (zyd b1 Q) = zych T n 12 124 Fp f (some (zyd b (zyd b1 Q)).m) (Fp (zye 12 (zyd b (zyd b1 Q)).m (zya (zyd b (zyd b1 Q))))) := by
      rw [zych_s, if_pos ⟨u3.trans he, (zyn_p u2).trans hc⟩, hz0]
      show zych T n 12 124 Fp f (some ((zye 12 (zyd b (zyd b1 Q)).m (zya (zyd b (zyd b1 Q)))).m - 1)) (Fp (zye 12 (zyd b (zyd b1 Q)).m (zya (zyd b (zyd b1 Q))))) = _
      rw [hS2m]
      rfl
    have he2 : (zye 12 (zyd b (zyd b1 Q)).m (zya (zyd b (zyd b1 Q)))).e = 0 := (zye_p _ _ _).2.trans (m3.trans (u3.trans he))
    have i20 : (zyd b (zyd b1 Q)).m < 1048576 := by omega
    obtain ⟨c1, c2⟩ := hF d ((1048576 * 12 + (zyd b (zyd b1 Q)).m) :: W) (zye 12 (zyd b (zyd b1 Q)).m (zya (zyd b (zyd b1 Q)))) J2 he2 r2 ((zyop_j (Or.inr rfl) i20 W).trans hop) (zynt_j (Or.inr rfl) i20 W) (zynk_j (Or.inr rfl) (by decide) i20 (by decide) W) (zynk_j (Or.inr rfl) (by decide) i20 (by decide) W) (fun q => nomatch q)
    rw [hz, st]
    by_cases q : (Fp (zye 12 (zyd b (zyd b1 Q)).m (zya (zyd b (zyd b1 Q))))).e = 0
    · obtain ⟨J3, b1', Q3, a1, a2, a3, a4, a5, a6⟩ := c1 q
      obtain ⟨v1, v2, v3⟩ := zyd_m b1' Q3
      rw [a3] at v1 v2 v3
      have k1 := (hk (zye 12 (zyd b (zyd b1 Q)).m (zya (zyd b (zyd b1 Q))))).2.1
      have k2 := (zye_p 12 (zyd b (zyd b1 Q)).m (zya (zyd b (zyd b1 Q)))).1
      have k2 : (zye 12 (zyd b (zyd b1 Q)).m (zya (zyd b (zyd b1 Q)))).p = (zyd b (zyd b1 Q)).p + 1 := k2
      have k3 := hm (zye 12 (zyd b (zyd b1 Q)).m (zya (zyd b (zyd b1 Q))))
      obtain ⟨i1, i2⟩ := ih d W b1' (some (zyd b (zyd b1 Q)).m) Q3 J3 a2 hop h10 h11 h12 (by rw [← v3]; exact q) a4 (fun i hi => by have := Option.some.inj hi; omega) a5 (by omega)
      rw [a3] at i1 i2
      have g := zyG_tr g1 (zyG_tr g2 a6)
      refine ⟨fun w => ?_, fun w => ?_⟩
      · obtain ⟨J, b1'', b', Q', w1, w2, w3, w4, w5, w6, w7, w8⟩ := i1 w
        exact ⟨J, b1'', b', Q', a1.trans w1, w2, w3, w4, w5, w6, w7, zyG_tr g w8⟩
      · obtain ⟨J, w1, w2, w3⟩ := i2 w
        exact ⟨J, a1.trans w1, w2, zyG_tr g w3⟩
    · obtain ⟨J3, a1, a2, a3⟩ := c2 q
      rw [zych_e q, (zyd_m _ _).2.2]
      exact ⟨fun w => absurd w q, fun _ => ⟨J3, a1, a2, zyG_tr g1 (zyG_tr g2 a3)⟩⟩
theorem zyPn_of {s : zQs} {T : Nat → Nat} {n o : Nat} {PC : Nat → zyS → zyS} (hF : zyPc s T n o (PC o)) (hk : ∀ o S, zyk n S (PC o S)) (hm : ∀ o S, S.m ≤ (PC o S).m) : zyPn s T n o (zycn T n PC o) := by
  intro d W S I he h hop hnt h10 h11 h12 hne
  have hpa := zyPa_of hF hk hm
  obtain ⟨c1, c2⟩ := hpa d W S I he h hop hnt h10 h11 hne
  have hz : zycn T n PC o S = zych T n 12 124 (zypa T n PC o) n none (zypa T n PC o S) := rfl
  rw [hz]
  by_cases q : (zypa T n PC o S).e = 0
  · obtain ⟨J1, b, Q, a1, a2, a3, a4, a5, a6⟩ := c1 q
    obtain ⟨v1, v2, v3⟩ := zyd_m b Q
    rw [a3] at v1 v2 v3
    obtain ⟨i1, i2⟩ := zyPn_l hpa (zyk_pa hk o) (zypa_m hm o) n d W b none Q J1 a2 hop h10 h11 h12 (by rw [← v3]; exact q) a4 (fun i hi => nomatch hi) a5 (by omega)
    rw [a3] at i1 i2
    refine ⟨fun w => ?_, fun w => ?_⟩
    · obtain ⟨J, b1'', b', Q', w1, w2, w3, w4, w5, w6, w7, w8⟩ := i1 w
      exact ⟨J, b1'', b', Q', a1.trans w1, w2, w3, w4, w5, w6, w7, zyG_tr a6 w8⟩
    · obtain ⟨J, w1, w2, w3⟩ := i2 w
      exact ⟨J, a1.trans w1, w2, zyG_tr a6 w3⟩
  · obtain ⟨J1, a1, a2⟩ := c2 q
    rw [zych_e q]
    exact ⟨fun w => absurd w q, fun _ => ⟨J1, a1, a2⟩⟩
/-- what is behind a condition in brackets: the bracket, or the fault -/
theorem zyEnd {s : zQs} {T : Nat → Nat} {n d : Nat} {W : List Nat} {b1 b2 : Option Nat} {Q S' : zyS} {I : Nat → Nat → Int32} (h : zyR T n d (zyent 11 b1 ++ (zyent 12 b2 ++ (13631488 :: W))) Q I) (hS : zyd b2 (zyd b1 Q) = S') (hb1 : ∀ i, b1 = some i → i < Q.m) (hb2 : ∀ i, b2 = some i → i < Q.m) (h38 : zyn T n Q ≠ 38) (h124 : zyn T n Q ≠ 124) (he : S'.e = 0) :
    (zyn T n S' = 41 → ∃ J, zQ_208 (47, [.ref 58], [], zMk (s, I)) = (if ¬ nI W.length = 0 then (zcV (zf_204 [.ref 58] (zMk (s, J))) fun M => zQ_208 (79, [.ref 58], [], M)) else some (.int 1, zMk (s, J))) ∧ zyR T n d W (zya S') J ∧ zyG I J) ∧
    (zyn T n S' ≠ 41 → ∃ J, zQ_208 (47, [.ref 58], [], zMk (s, I)) = some (.int 0, zMk (s, J)) ∧ zyN (1000 * 1 + S'.p) I J) := by
  obtain ⟨u1, u2, u3⟩ := zyd_m b1 Q
  obtain ⟨m1, m2, m3⟩ := zyd_m b2 (zyd b1 Q)
  rw [hS] at m1 m2 m3
  have hsg : zyn T n S' = zyn T n Q := (zyn_p m2).trans (zyn_p u2)
  have x := zyR_256 h
  have w13 : (13631488 : Nat) < 16777216 := by decide
  refine ⟨fun h41 => ?_, fun h41 => ?_⟩
  · have h41 : zyn T n Q = 41 := hsg.symm.trans h41
    have hl : S'.p < n := by rw [m2, u2]; exact (zyn_lt h41 (by decide)).1
    obtain ⟨J1, e1, r1, g1⟩ := zf205b (s := s) h (zynk_c (k := 11) w13 (by decide) (by decide)) (zynk_c (k := 12) w13 (by decide) (by decide)) hb1 hb2
    rw [hS] at r1
    obtain ⟨k1, k2, k3, k4, k5, k6, k7, k8, k9, k10, k11, k12, k13⟩ := id r1
    have k7 : J1 58 15 = nI (W.length + 1) := k7
    have k10 : W.length + 1 ≤ S'.p := k10
    have hop : zyop (13631488 :: W) = zyop W + 1 := by rw [zyop_c, if_pos (show zyisO 13631488 = true by decide)]
    have hpn : zypn (13631488 :: W) = zypn W := by
      rw [zypn_c, if_neg (show ¬ zyisP 13631488 = true by decide)]
      rfl
    rw [hop] at k9
    rw [hpn] at k11
    have e15 : nI (W.length + 1) - 1 = nI W.length := nI_sub (b := 1) (by omega)
    have e13 : nI (zyop W + 1) - 1 = nI (zyop W) := nI_sub (b := 1) (by omega)
    refine ⟨zwA J1 58 (upd (upd (upd (J1 58) 15 (nI W.length)) 13 (nI (zyop W))) 10 (nI (S'.p + 1))), ?_, ?_, zyG_tr g1 ⟨fun r a _ _ => zwA_n a, fun j a _ b _ c _ => by rw [zwA_s, upd_at, if_neg a, upd_at, if_neg b, upd_at, if_neg c]⟩⟩
    · rw [zq_208_47, zf190r h, zcI_some, zq_208_49, if_neg (not_not_intro ((zyI_41 x).mpr h41)), e1, zcV_some, zq_208_54, k7, e15, k9, e13, k5, nI_1, zwA_zwA, zwA_zwA]
    · refine zyR_pop (w := 13631488) (W := W) r1 (Nat.le_succ _) hl rfl rfl (by show _ + _ + d ≤ S'.p + 1; omega) (zwA_n (by decide)) (zwA_n (by decide)) (zwA_n (by decide)) ?_ ?_ ?_ ?_ ?_
      · rw [zwA_s, upd_at, if_pos rfl]; rfl
      · rw [zwA_s, upd_at, if_neg (by decide), upd_at, if_neg (by decide), upd_at, if_neg (by decide)]
      · rw [zwA_s, upd_at, if_neg (by decide), upd_at, if_pos rfl]
      · rw [zwA_s, upd_at, if_neg (by decide), upd_at, if_neg (by decide), upd_at, if_neg (by decide)]
      · rw [zwA_s, upd_at, if_neg (by decide), upd_at, if_neg (by decide), upd_at, if_pos rfl]
  · have h41 : ¬ zyn T n Q = 41 := fun q => h41 (hsg.trans q)
    obtain ⟨J3, e3, hN⟩ := zf192r s I (k := 1) (by decide) (show Q.p ≤ 160 by have := h.1; have := h.2.2.2.1; omega)
    have e3 : zf_192 [.ref 58, .int 1, .int (nI Q.p)] (zMk (s, I)) = _ := e3
    refine ⟨J3, ?_, by rw [m2, u2]; exact hN⟩
    rw [zq_208_47, zf190r h, zcI_some, zq_208_49, if_pos (mt (zyI_41 x).mp h41), zf190r h, zcI_some, zq_208_82, if_neg (mt (zyI_38 x).mp h38), zf190r h, zcI_some, zq_208_86, if_neg (mt (zyI_124 x).mp h124), h.2.2.2.2.1, e3, zcI_some, zq_208_93, if_pos (Or.inl rfl)]
theorem zyPc_pi {s : zQs} {T : Nat → Nat} {n : Nat} : ∀ d o, o ≤ 6 → 7 ≤ d + o → zyPc s T n o (zypi T n d o)
  | 0, o, h1, h2 => absurd h2 (by omega)
  | d + 1, o, h1, h2 => by
    intro dd W S I he h hop hnt hne
    have x := zyR_256 h
    by_cases c1 : zyn T n S ≠ 33 ∧ zyn T n S ≠ 40
    · have hz : zypi T n (d + 1) o S = zycm T n o S := by rw [zypi_s, if_neg (not_not_intro he), if_pos c1]
      have st : zQ_208 (22, [.ref 58], [], zMk (s, I)) = (zcI (zf_207 [.ref 58] (zMk (s, I))) fun v M => zQ_208 (44, [.ref 58], [.int v], M)) := by
        rw [zq_208_22, zf190r h, zcI_some, zq_208_24, if_neg (mt (zyI_33 x).mp c1.1), zf190r h, zcI_some, zq_208_28, if_pos (mt (zyI_40 x).mp c1.2)]
      obtain ⟨i1, i2⟩ := zf207r (s := s) he h hop h1 hnt
      rw [hz, st]
      refine ⟨fun q => ?_, fun q => ?_⟩
      · obtain ⟨J, e, r, g⟩ := i1 q
        refine ⟨J, ?_, r, g⟩
        rw [e, zcI_some, zq_208_44, if_pos (by decide)]
      · obtain ⟨J, e, r⟩ := i2 q
        refine ⟨J, ?_, r⟩
        rw [e, zcI_some, zq_208_44, if_neg (not_not_intro rfl)]
    have hk : zyn T n S = 33 ∨ zyn T n S = 40 := by
      by_cases h33 : zyn T n S = 33
      · exact Or.inl h33
      · by_cases h40 : zyn T n S = 40
        · exact Or.inr h40
        · exact absurd ⟨h33, h40⟩ c1
    have hl : S.p < n := (zyn_lt (T := T) (n := n) (S := S) rfl (by omega)).1
    -- which is opened
    have st : zQ_208 (22, [.ref 58], [], zMk (s, I)) = (zcI (zf_196 [.ref 58, .int (nI (if zyn T n S = 33 then 10 else 13))] (zMk (s, I))) fun v M => zQ_208 (39, [.ref 58], [.int v], M)) := by
      rw [zq_208_22, zf190r h, zcI_some, zq_208_24]
      rcases hk with q | q
      · rw [if_pos ((zyI_33 x).mpr q), zf190r h, zcI_some, zq_208_33, if_neg (not_not_intro ((zyI_33 x).mpr q)), if_pos q]
        rfl
      · have q3 : ¬ zyn T n S = 33 := by omega
        rw [if_neg (mt (zyI_33 x).mp q3), zf190r h, zcI_some, zq_208_28, if_neg (not_not_intro ((zyI_40 x).mpr q)), zf190r h, zcI_some, zq_208_33, if_pos (mt (zyI_33 x).mp q3), if_neg q3]
        rfl
    obtain ⟨o1, o2⟩ := zf196r (s := s) h hl (k := if zyn T n S = 33 then 10 else 13) (by split <;> omega) (by omega)
    rw [st]
    by_cases h6 : 6 ≤ o
    · have hz : zypi T n (d + 1) o S = zyf 5 S := by rw [zypi_s, if_neg (not_not_intro he), if_neg c1, if_pos h6]
      obtain ⟨J, e, r⟩ := o2 (by omega)
      rw [hz, zyf_e he]
      refine ⟨fun q => ?_, fun _ => ⟨J, ?_, r⟩⟩
      · have q : 1000 * 5 + S.p = 0 := q
        omega
      · rw [e, zcI_some, zq_208_39, if_neg (not_not_intro rfl)]
    obtain ⟨J1, e1, r1, g1⟩ := o1 (by omega)
    rw [e1, zcI_some, zq_208_39, if_pos (by decide)]
    have hpi := zyPc_pi (s := s) (T := T) (n := n) d (o + 1) (by omega) (by omega)
    by_cases q33 : zyn T n S = 33
    · have hz : zypi T n (d + 1) o S = zye 10 0 (zypi T n d (o + 1) (zya S)) := by rw [zypi_s, if_neg (not_not_intro he), if_neg c1, if_neg h6, if_pos q33]
      rw [if_pos q33] at r1
      have r1 : zyR T n dd (10485760 :: W) (zya S) J1 := r1
      obtain ⟨i1, i2⟩ := hpi dd (10485760 :: W) (zya S) J1 he r1 (by rw [zyop_c, if_pos (show zyisO 10485760 = true by decide), hop]) (zynt_c (by decide) (by decide)) (fun q => nomatch q)
      rw [hz, (zye_p _ _ _).2]
      refine ⟨fun q => ?_, fun q => ?_⟩
      · obtain ⟨J, e, r, g⟩ := i1 q
        rw [zyns_c, if_pos (show 10485760 / 1048576 = 10 by decide)] at r
        exact ⟨J, e, r, zyG_tr g1 g⟩
      · obtain ⟨J, e, r1, r2⟩ := i2 q
        exact ⟨J, e, r1, zyG_tr g1 r2⟩
    · have hz : zypi T n (d + 1) o S = zyt T n 41 (zycn T n (zypi T n d) (o + 1) (zya S)) := by rw [zypi_s, if_neg (not_not_intro he), if_neg c1, if_neg h6, if_neg q33]
      rw [if_neg q33] at r1
      have r1 : zyR T n dd (13631488 :: W) (zya S) J1 := r1
      have w13 : (13631488 : Nat) < 16777216 := by decide
      obtain ⟨i1, i2⟩ := zyPn_of hpi (zyk_pi d) (zypi_m d) dd (13631488 :: W) (zya S) J1 he r1 (by rw [zyop_c, if_pos (show zyisO 13631488 = true by decide), hop]) (zynt_c (by decide) (by decide)) (zynk_c (k := 10) w13 (by decide) (by decide)) (zynk_c (k := 11) w13 (by decide) (by decide)) (zynk_c (k := 12) w13 (by decide) (by decide)) (fun q => nomatch q)
      rw [hz]
      by_cases q : (zycn T n (zypi T n d) (o + 1) (zya S)).e = 0
      case neg =>
        obtain ⟨J, e, r2, r3⟩ := i2 q
        rw [zyt_no q]
        exact ⟨fun w => absurd w q, fun _ => ⟨J, e, r2, zyG_tr g1 r3⟩⟩
      obtain ⟨J2, b1, b2, Q, a1, a2, a3, a4, a5, a6, a7, a8⟩ := i1 q
      obtain ⟨j1, j2⟩ := zyEnd (s := s) a2 a3 a4 a5 a6 a7 q
      rw [a1]
      by_cases q41 : zyn T n (zycn T n (zypi T n d) (o + 1) (zya S)) = 41
      · obtain ⟨J3, b1', b2', b3'⟩ := j1 q41
        rw [zyt_fit q q41]
        obtain ⟨J4, e4, r4, g4⟩ := zlp204 (s := s) W _ J3 b2'
        have hW : W.length < 160 := by have := b2'.1; have := b2'.2.2.2.1; have := r1.2.2.2.2.2.2.2.2.2.1; have t : W.length + 1 ≤ S.p + 1 := this; omega
        have hW0 : W.length ≠ 0 := fun q => hne (List.length_eq_zero_iff.mp q)
        refine ⟨fun _ => ⟨J4, ?_, r4, zyG_tr g1 (zyG_tr a8 (zyG_tr b3' g4))⟩, fun w => absurd q w⟩
        rw [b1', if_pos (show ¬ nI W.length = 0 from nI_ne (b := 0) hW0 (by omega) (by decide)), zqz_204, e4, zcV_some, zq_208_79]
      · obtain ⟨J3, b1', b2', b3'⟩ := j2 q41
        rw [zyt_odd (by decide) q q41, zyf_e q]
        refine ⟨fun w => ?_, fun _ => ⟨J3, b1', b2', zyG_tr g1 (zyG_tr a8 b3')⟩⟩
        have w : 1000 * 1 + _ = 0 := w
        omega
/-- a condition in brackets, whole -/
theorem zf208r {s : zQs} {T : Nat → Nat} {n d : Nat} {S : zyS} {I : Nat → Nat → Int32} (he : S.e = 0) (h : zyR T n d [] S I) :
    ((zyt T n 41 (zycn T n (zypi T n 8) 1 (zyt T n 40 S))).e = 0 → ∃ J, zf_208 [.ref 58] (zMk (s, I)) = some (.int 1, zMk (s, J)) ∧ zyR T n d [] (zyt T n 41 (zycn T n (zypi T n 8) 1 (zyt T n 40 S))) J ∧ zyG I J) ∧
    ((zyt T n 41 (zycn T n (zypi T n 8) 1 (zyt T n 40 S))).e ≠ 0 → ∃ J, zf_208 [.ref 58] (zMk (s, I)) = some (.int 0, zMk (s, J)) ∧ zyN (zyt T n 41 (zycn T n (zypi T n 8) 1 (zyt T n 40 S))).e I J) := by
  have x := zyR_256 h
  by_cases c : zyn T n S = 40
  case neg =>
    obtain ⟨J3, e3, hN⟩ := zf192r s I (k := 1) (by decide) (show S.p ≤ 160 by have := h.1; have := h.2.2.2.1; omega)
    have e3 : zf_192 [.ref 58, .int 1, .int (nI S.p)] (zMk (s, I)) = _ := e3
    have n0 : (zyf 1 S).e ≠ 0 := by
      rw [zyf_e he]
      show 1000 * 1 + S.p ≠ 0
      omega
    have n1 := (zyk_cn (T := T) (n := n) (PC := zypi T n 8) (zyk_pi 8) 1 (zyf 1 S)).1 n0
    have n2 : (zyt T n 41 (zycn T n (zypi T n 8) 1 (zyf 1 S))).e = 1000 * 1 + S.p := by
      rw [zyt_no (by rw [n1]; exact n0), n1, zyf_e he]
      rfl
    rw [zyt_odd (by decide) he c, n2]
    refine ⟨fun w => by omega, fun _ => ⟨J3, ?_, hN⟩⟩
    rw [zqz_208, zq_208_0, zf190r h, zcI_some, zq_208_2, if_neg (mt (zyI_40 x).mp c), h.2.2.2.2.1, e3, zcI_some, zq_208_9, if_pos (Or.inl rfl)]
  have hl := (zyn_lt c (by decide)).1
  obtain ⟨h1, h2, h3, h4, h5, h6, h7, h8, h9, h10, h11, h12, h13⟩ := id h
  have hR0 : zyR T n d [] S (zwA (zwA I 58 (upd (I 58) 13 0)) 58 (upd (upd (I 58) 13 0) 15 0)) := by
    rw [zwA_zwA]
    refine ⟨h1, ?_, ?_, h4, ?_, ?_, ?_, trivial, ?_, h10, h11, h12, ?_⟩
    · rw [zwA_n (by decide)]; exact h2
    · rw [zwA_s, upd_at, if_neg (by decide), upd_at, if_neg (by decide)]; exact h3
    · rw [zwA_s, upd_at, if_neg (by decide), upd_at, if_neg (by decide)]; exact h5
    · rw [zwA_s, upd_at, if_neg (by decide), upd_at, if_neg (by decide)]; exact h6
    · rw [zwA_s, upd_at, if_pos rfl]; rfl
    · rw [zwA_s, upd_at, if_neg (by decide), upd_at, if_pos rfl]; rfl
    · rw [zwA_n (by decide)]; exact h13
  have g0 : zyG I (zwA (zwA I 58 (upd (I 58) 13 0)) 58 (upd (upd (I 58) 13 0) 15 0)) := by
    rw [zwA_zwA]
    exact ⟨fun r a _ _ => zwA_n a, fun j _ _ b _ c _ => by rw [zwA_s, upd_at, if_neg c, upd_at, if_neg b]⟩
  obtain ⟨o1, -⟩ := zf196r (s := s) hR0 hl (k := 13) (by omega) (by decide)
  obtain ⟨J1, e1, r1, g1⟩ := o1 (by decide)
  have e1 : zf_196 [.ref 58, .int 13] (zMk (s, zwA (zwA I 58 (upd (I 58) 13 0)) 58 (upd (upd (I 58) 13 0) 15 0))) = _ := e1
  have r1 : zyR T n d (13631488 :: []) (zya S) J1 := r1
  have w13 : (13631488 : Nat) < 16777216 := by decide
  have st : zf_208 [.ref 58] (zMk (s, I)) = zQ_208 (22, [.ref 58], [], zMk (s, J1)) := by
    rw [zqz_208, zq_208_0, zf190r h, zcI_some, zq_208_2, if_pos ((zyI_40 x).mpr c), e1, zcI_some, zq_208_19, if_pos (by decide)]
  obtain ⟨i1, i2⟩ := zyPn_of (zyPc_pi (s := s) (T := T) (n := n) 8 1 (by decide) (by decide)) (zyk_pi 8) (zypi_m 8) d (13631488 :: []) (zya S) J1 he r1 (by decide) (zynt_c (by decide) (by decide)) (zynk_c (k := 10) w13 (by decide) (by decide)) (zynk_c (k := 11) w13 (by decide) (by decide)) (zynk_c (k := 12) w13 (by decide) (by decide)) (fun q => nomatch q)
  rw [zyt_fit he c, st]
  have gg := zyG_tr g0 g1
  by_cases q : (zycn T n (zypi T n 8) 1 (zya S)).e = 0
  case neg =>
    obtain ⟨J, e, r2, r3⟩ := i2 q
    rw [zyt_no q]
    exact ⟨fun w => absurd w q, fun _ => ⟨J, e, r2, zyG_tr gg r3⟩⟩
  obtain ⟨J2, b1, b2, Q, a1, a2, a3, a4, a5, a6, a7, a8⟩ := i1 q
  obtain ⟨j1, j2⟩ := zyEnd (s := s) a2 a3 a4 a5 a6 a7 q
  rw [a1]
  by_cases q41 : zyn T n (zycn T n (zypi T n 8) 1 (zya S)) = 41
  · obtain ⟨J3, b1', b2', b3'⟩ := j1 q41
    rw [zyt_fit q q41]
    refine ⟨fun _ => ⟨J3, ?_, b2', zyG_tr gg (zyG_tr a8 b3')⟩, fun w => absurd q w⟩
    rw [b1', if_neg (not_not_intro (show nI ([] : List Nat).length = 0 from rfl))]
  · obtain ⟨J3, b1', b2', b3'⟩ := j2 q41
    rw [zyt_odd (by decide) q q41, zyf_e q]
    refine ⟨fun w => ?_, fun _ => ⟨J3, b1', b2', zyG_tr gg (zyG_tr a8 b3')⟩⟩
    have w : 1000 * 1 + _ = 0 := w
    omega
