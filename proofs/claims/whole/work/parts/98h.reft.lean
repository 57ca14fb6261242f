/-! THE LAW'S TEXT, READ BY THE REFERENCE: SUMS, WHOLE -/
theorem zyrv_lt {i op v : Nat} (h : op < 11) : v = zyrv i (op, v) := (if_neg (fun q => Nat.not_le.mpr h q.1)).symm
theorem zyR_pad {T : Nat → Nat} {n d : Nat} {W : List Nat} {Q : zyS} {I : Nat → Nat → Int32} (h : zyR T n d W Q I) (hl : Q.p < n) : zyR T n (d + 1) W (zya Q) (zwA I 58 (upd (I 58) 10 (nI (Q.p + 1)))) ∧ zyG I (zwA I 58 (upd (I 58) 10 (nI (Q.p + 1)))) := by
  obtain ⟨h1, h2, h3, h4, h5, h6, h7, h8, h9, h10, h11, h12, h13⟩ := h
  refine ⟨⟨h1, ?_, ?_, hl, ?_, ?_, ?_, ?_, ?_, by show W.length ≤ Q.p + 1; omega, by show Q.m + zypn W + (d + 1) ≤ Q.p + 1; omega, h12, ?_⟩, fun r a _ _ => zwA_n a, fun j a _ _ _ _ _ => by rw [zwA_s, upd_at, if_neg a]⟩
  · rw [zwA_n (by decide)]; exact h2
  · rw [zwA_s, upd_at, if_neg (by decide)]; exact h3
  · rw [zwA_s, upd_at, if_pos rfl]; rfl
  · rw [zwA_s, upd_at, if_neg (by decide)]; exact h6
  · rw [zwA_s, upd_at, if_neg (by decide)]; exact h7
  · rw [zwA_n (by decide)]; exact h8
  · rw [zwA_s, upd_at, if_neg (by decide)]; exact h9
  · rw [zwA_n (by decide)]; exact h13
/-- noted, and one place on -/
theorem zyR_note1 {T : Nat → Nat} {n d : Nat} {W : List Nat} {Q : zyS} {I : Nat → Nat → Int32} (h : zyR T n d W Q I) (hl : Q.p < n) {op v v0 : Nat} (hop : op ≤ 12) (hv : v < 100000) (hv0 : v0 = zyrv Q.m (op, v)) (s : zQs) :
    ∃ J, zf_195 [.ref 58, .int (nI op), .int (nI v0)] (zMk (s, I)) = some (.long 0, zMk (s, J)) ∧ J 58 10 = nI Q.p ∧ zyR T n d W (zye op v (zya Q)) (zwA J 58 (upd (J 58) 10 (J 58 10 + 1))) ∧ zyG I (zwA J 58 (upd (J 58) 10 (J 58 10 + 1))) := by
  obtain ⟨h1, h2, h3, h4, h5, h6, h7, h8, h9, h10, h11, h12, h13⟩ := h
  have hm : Q.m < 160 := by omega
  have hv1 : v0 ≤ v := by rw [hv0]; unfold zyrv; split <;> simp
  have ev : (1048576 : Int32) * nI op + nI v0 = nI (1048576 * op + v0) := by rw [show (1048576 : Int32) * nI op = nI (1048576 * op) from nI_mul 1048576 op, nI_add]
  have hz : zye op v (zya Q) = (Q.e, Q.p + 1, Q.m + 1, (fun i => if i = Q.m then (op, v) else Q.c i), Q.l || (decide (op = 1) && decide (v = 3))) := zye_lt (S := zya Q) hm
  have e1 : zf_195 [.ref 58, .int (nI op), .int (nI v0)] (zMk (s, I)) = some (.long 0, zMk (s, zwA (zwA I 64 (upd (I 64) Q.m (nI (1048576 * op + v0)))) 58 (upd (I 58) 14 (nI (Q.m + 1))))) := by
    rw [zl_195, h6, if_pos (zb_t (show Q.m < 180 by omega) (by omega)), nI_clamp (show Q.m < 2 ^ 31 by omega), ev, nI_1]
  have e10 : zwA (zwA I 64 (upd (I 64) Q.m (nI (1048576 * op + v0)))) 58 (upd (I 58) 14 (nI (Q.m + 1))) 58 10 = nI Q.p := by rw [zwA_s, upd_at, if_neg (by decide)]; exact h5
  refine ⟨_, e1, e10, ?_, ?_⟩
  · rw [hz, e10, nI_1, zwA_s]
    refine ⟨h1, ?_, ?_, hl, ?_, ?_, ?_, ?_, ?_, by show W.length ≤ Q.p + 1; omega, by show Q.m + 1 + zypn W + d ≤ Q.p + 1; omega, h12, fun i hi => ?_⟩
    · rw [zwA_n (by decide), zwA_n (by decide), zwA_n (by decide)]; exact h2
    · rw [zwA_s, upd_at, if_neg (by decide), upd_at, if_neg (by decide)]; exact h3
    · rw [zwA_s, upd_at, if_pos rfl]; rfl
    · rw [zwA_s, upd_at, if_neg (by decide), upd_at, if_pos rfl]; rfl
    · rw [zwA_s, upd_at, if_neg (by decide), upd_at, if_neg (by decide)]; exact h7
    · rw [zwA_n (by decide), zwA_n (by decide), zwA_n (by decide)]; exact h8
    · rw [zwA_s, upd_at, if_neg (by decide), upd_at, if_neg (by decide)]; exact h9
    · have hi : i < Q.m + 1 := hi
      show zwA _ 58 _ 64 i = nI (1048576 * (if i = Q.m then (op, v) else Q.c i).1 + zyrv i (if i = Q.m then (op, v) else Q.c i)) ∧ (if i = Q.m then (op, v) else Q.c i).1 ≤ 12 ∧ (if i = Q.m then (op, v) else Q.c i).2 < 100000
      rw [zwA_n (show (64 : Nat) ≠ 58 by decide), zwA_n (show (64 : Nat) ≠ 58 by decide), zwA_s, upd_at]
      by_cases e : i = Q.m
      · rw [if_pos e, if_pos e, hv0, e]
        exact ⟨rfl, hop, hv⟩
      · rw [if_neg e, if_neg e]
        exact h13 i (by omega)
  · rw [zwA_s]
    exact ⟨fun r a b _ => by rw [zwA_n a, zwA_n a, zwA_n b], fun j a _ _ e _ _ => by rw [zwA_s, upd_at, if_neg a, upd_at, if_neg e]⟩
/-- behind a factor -/
noncomputable def zyY (b : Nat) (x2 : Value) (r : Option (Value × zM)) : Option (Value × zM) := match r with
  | some (.int v, M) => if ¬ v = 0 then zQ_203 (8, [.ref 58, .int (nI b), x2], [], M) else some (.int 0, M)
  | _ => none
theorem zyY_1 (b : Nat) (x2 : Value) (M : zM) : zyY b x2 (some (.int 1, M)) = zQ_203 (8, [.ref 58, .int (nI b), x2], [], M) := by
  show (if ¬ (1 : Int32) = 0 then zQ_203 (8, [.ref 58, .int (nI b), x2], [], M) else some (.int 0, M)) = _
  rw [if_pos (show ¬ (1 : Int32) = 0 by decide)]
theorem zyY_0 (b : Nat) (x2 : Value) (M : zM) : zyY b x2 (some (.int 0, M)) = some (.int 0, M) := by
  show (if ¬ (0 : Int32) = 0 then zQ_203 (8, [.ref 58, .int (nI b), x2], [], M) else some (.int 0, M)) = _
  rw [if_neg (not_not_intro rfl)]
/-- an atom, at pc 12 -/
theorem zf201a {s : zQs} {T : Nat → Nat} {n d : Nat} {W : List Nat} {S : zyS} {I : Nat → Nat → Int32} (h : zyR T n d W S I) (he : S.e = 0) (x1 : Value) :
    ((if zyg (zyn T n S) = true then zynm T n 5 0 S else zylt T n S).e = 0 → ∃ J, zQ_201 (12, [.ref 58, x1], [.int (if zyg (zyn T n S) = true then 1 else 0)], zMk (s, I)) = some (.int 1, zMk (s, J)) ∧ zyR T n d W (if zyg (zyn T n S) = true then zynm T n 5 0 S else zylt T n S) J ∧ zyG I J) ∧
    ((if zyg (zyn T n S) = true then zynm T n 5 0 S else zylt T n S).e ≠ 0 → ∃ J, zQ_201 (12, [.ref 58, x1], [.int (if zyg (zyn T n S) = true then 1 else 0)], zMk (s, I)) = some (.int 0, zMk (s, J)) ∧ zyN (if zyg (zyn T n S) = true then zynm T n 5 0 S else zylt T n S).e I J) := by
  by_cases hg : zyg (zyn T n S) = true
  · rw [if_pos hg, if_pos hg]
    obtain ⟨i1, i2⟩ := zlp194 (s := s) (T := T) (n := n) (d := d) (W := W) S.p 5 0 S (zwA I 58 (upd (I 58) 17 0)) (by decide) (by decide) (by
      obtain ⟨h1, h2, h3, h4, h5, h6, h7, h8, h9, h10, h11, h12, h13⟩ := h
      refine ⟨h1, ?_, ?_, h4, ?_, ?_, ?_, ?_, ?_, h10, h11, h12, ?_⟩
      · rw [zwA_n (by decide)]; exact h2
      · rw [zwA_s, upd_at, if_neg (by decide)]; exact h3
      · rw [zwA_s, upd_at, if_neg (by decide)]; exact h5
      · rw [zwA_s, upd_at, if_neg (by decide)]; exact h6
      · rw [zwA_s, upd_at, if_neg (by decide)]; exact h7
      · rw [zwA_n (by decide)]; exact h8
      · rw [zwA_s, upd_at, if_neg (by decide)]; exact h9
      · rw [zwA_n (by decide)]; exact h13) rfl (by rw [zwA_s, upd_at, if_pos rfl]; rfl) he
    have g0 : zyG I (zwA I 58 (upd (I 58) 17 0)) := ⟨fun r a _ _ => zwA_n a, fun j _ _ _ _ _ f => by rw [zwA_s, upd_at, if_neg f]⟩
    have st : zf_194 [.ref 58] (zMk (s, I)) = zQ_194 (6, [.ref 58, .int (nI S.p)], [], zMk (s, zwA I 58 (upd (I 58) 17 0))) := by rw [zqz_194, zq_194_0, h.2.2.2.2.1]
    refine ⟨fun q => ?_, fun q => ?_⟩
    · obtain ⟨J, x', Q', a1, a2, a3, a4, a5, a6, a7, a8, a9, a10⟩ := i1 q
      have a9 := a9 hg
      have hp0 := h.2.2.2.2.2.2.2.2.2.2.1
      obtain ⟨J2, e2, r2, g2, -⟩ := zf195r (s := s) (d' := d) (op := 0) (v := x') (v0 := x') a2 (by rw [a7]; omega) (by decide) a5 (zyrv_lt (by decide))
      have e2 : zf_195 [.ref 58, .int 0, .int (nI x')] (zMk (s, J)) = _ := e2
      rw [a4]
      refine ⟨J2, ?_, r2, zyG_tr g0 (zyG_tr a10 g2)⟩
      rw [zq_201_12, if_neg (by decide), st, a1, zcI_some, zq_201_15, if_pos (by decide), a3, e2, zcV_some, zq_201_23]
    · obtain ⟨J, a1, a2, a3⟩ := i2 q
      refine ⟨J, ?_, a2, zyG_tr g0 a3⟩
      rw [zq_201_12, if_neg (by decide), st, a1, zcI_some, zq_201_15, if_neg (not_not_intro rfl)]
  · rw [if_neg hg, if_neg hg]
    have st : zQ_201 (12, [.ref 58, x1], [.int 0], zMk (s, I)) = zQ_201 (28, [.ref 58, x1], [.int (zyB (zyx (zyn T n S)))], zMk (s, I)) := by
      rw [zq_201_12, if_pos rfl, zf190r h, zcI_some, zq_201_27, zy198 s I (zyR_256 h), zcI_some]
    rw [st]
    unfold zylt
    cases hx : zyx (zyn T n S) with
    | none =>
      obtain ⟨J, e, hN⟩ := zf192r s I (k := 1) (by decide) (show S.p ≤ 160 by have := h.1; have := h.2.2.2.1; omega)
      have e : zf_192 [.ref 58, .int 1, .int (nI S.p)] (zMk (s, I)) = _ := e
      show ((zyf 1 S).e = 0 → _) ∧ ((zyf 1 S).e ≠ 0 → _)
      rw [zyf_e he]
      refine ⟨fun q => ?_, fun _ => ⟨J, ?_, hN⟩⟩
      · have q : 1000 * 1 + S.p = 0 := q
        omega
      · rw [zq_201_28, if_neg (show ¬ ¬ zyB none = -1 from not_not_intro rfl), h.2.2.2.2.1, e, zcI_some, zq_201_37, if_pos (Or.inl rfl)]
    | some v =>
      have hl := (zyn_lt (T := T) (n := n) (S := S) rfl (zyx_n hx)).1
      have hv : v < 9 := by
        rcases zyR_256 h with q | q
        · exact zyx_lt q hx
        · rw [q] at hx; cases hx
      obtain ⟨J, e, j10, r, g⟩ := zyR_note1 h hl (op := 1) (v := v) (v0 := v) (by decide) (by omega) (zyrv_lt (by decide)) s
      have e : zf_195 [.ref 58, .int 1, .int (nI v)] (zMk (s, I)) = _ := e
      refine ⟨fun _ => ⟨_, ?_, r, g⟩, fun q => absurd ((zye_p 1 v (zya S)).2.trans he) q⟩
      show zQ_201 (28, [.ref 58, x1], [.int (nI v)], zMk (s, I)) = _
      rw [zq_201_28, if_pos (nI_m1 (show v < 2 ^ 31 by omega)), e, zcV_some, zq_201_42]
/-- what the reading of a factor answers is 0 or 1 -/
theorem zf201t {s : zQs} {T : Nat → Nat} {n d : Nat} : ∀ k W S I, n ≤ S.p + k → zyR T n d W S I → S.e = 0 → zyop W ≤ 6 → ∃ v J, zQ_201 (0, [.ref 58, .long 0], [], zMk (s, I)) = some (.int v, zMk (s, J)) ∧ (v = 0 ∨ v = 1) := by
  have atom : ∀ W S I, zyR T n d W S I → S.e = 0 → ¬ zyn T n S = 91 → ∃ v J, zQ_201 (0, [.ref 58, .long 0], [], zMk (s, I)) = some (.int v, zMk (s, J)) ∧ (v = 0 ∨ v = 1) := by
    intro W S I h he hc
    have st : zQ_201 (0, [.ref 58, .long 0], [], zMk (s, I)) = zQ_201 (12, [.ref 58, .long 0], [.int (if zyg (zyn T n S) = true then 1 else 0)], zMk (s, I)) := by
      rw [zq_201_0, zf190r h, zcI_some, zq_201_2, if_pos (mt (zyI_91 (zyR_256 h)).mp hc), zf191r h, zcI_some]
    obtain ⟨i1, i2⟩ := zf201a (s := s) h he (.long 0)
    rw [st]
    by_cases q : (if zyg (zyn T n S) = true then zynm T n 5 0 S else zylt T n S).e = 0
    · obtain ⟨J, e, -⟩ := i1 q
      exact ⟨1, J, e, Or.inr rfl⟩
    · obtain ⟨J, e, -⟩ := i2 q
      exact ⟨0, J, e, Or.inl rfl⟩
  intro k
  induction k with
  | zero =>
    intro W S I hk h he ho
    exact atom W S I h he (fun q => by have := (zyn_lt q (by decide)).1; omega)
  | succ k ih =>
    intro W S I hk h he ho
    by_cases hc : zyn T n S = 91
    · have hl := (zyn_lt hc (by decide)).1
      obtain ⟨o1, o2⟩ := zf196r (s := s) h hl (k := 14) (by omega) ho
      have st : zQ_201 (0, [.ref 58, .long 0], [], zMk (s, I)) = zcI (zf_196 [.ref 58, .int 14] (zMk (s, I))) fun v M => zQ_201 (7, [.ref 58, .long 0], [.int v], M) := by
        rw [zq_201_0, zf190r h, zcI_some, zq_201_2, if_neg (not_not_intro ((zyI_91 (zyR_256 h)).mpr hc))]
      rw [st]
      by_cases hlt : zyop W < 6
      · obtain ⟨J, e, r, g⟩ := o1 hlt
        have e : zf_196 [.ref 58, .int 14] (zMk (s, I)) = _ := e
        obtain ⟨v, J2, e2, hv⟩ := ih (1048576 * 14 :: W) (zya S) J (by show n ≤ S.p + 1 + k; omega) r he (by rw [zyop_c, if_pos (show zyisO (1048576 * 14) = true by decide)]; omega)
        refine ⟨v, J2, ?_, hv⟩
        rw [e, zcI_some, zq_201_7, if_pos (by decide)]
        exact e2
      · obtain ⟨J, e, -⟩ := o2 (by omega)
        have e : zf_196 [.ref 58, .int 14] (zMk (s, I)) = _ := e
        refine ⟨0, J, ?_, Or.inl rfl⟩
        rw [e, zcI_some, zq_201_7, if_neg (not_not_intro rfl)]
    · exact atom W S I h he hc
theorem zf201e {s : zQs} {T : Nat → Nat} {n d : Nat} {W : List Nat} {S : zyS} {I : Nat → Nat → Int32} (h : zyR T n d W S I) (he : S.e = 0) (ho : zyop W ≤ 6) : ∃ v J, zf_201 [.ref 58] (zMk (s, I)) = some (.int v, zMk (s, J)) ∧ (v = 0 ∨ v = 1) := by
  rw [zqz_201]
  exact zf201t n W S I (by omega) h he ho
def zyRes (s : zQs) (T : Nat → Nat) (n d : Nat) (b : Nat) (W : List Nat) (lo : Nat) (S' : zyS) (I : Nat → Nat → Int32) (r : Option (Value × zM)) : Prop :=
  (S'.e = 0 → ∃ J x2 P Q, r = zQ_203 (8, [.ref 58, .int (nI b), x2], [], zMk (s, J)) ∧ zyR T n d (List.map zyen P ++ W) Q J ∧ zyis P lo ∧ zycs P Q = S' ∧ zyG I J) ∧
  (S'.e ≠ 0 → ∃ J, r = some (.int 0, zMk (s, J)) ∧ zyN S'.e I J)
theorem zyRes_G {s : zQs} {T : Nat → Nat} {n d b : Nat} {W : List Nat} {lo : Nat} {S' : zyS} {I K : Nat → Nat → Int32} {r r' : Option (Value × zM)} (g : zyG I K) (h : zyRes s T n d b W lo S' K r) (hr : r' = r) : zyRes s T n d b W lo S' I r' := by
  subst hr
  refine ⟨fun q => ?_, fun q => ?_⟩
  · obtain ⟨J, x2, P, Q, a1, a2, a3, a4, a5⟩ := h.1 q
    exact ⟨J, x2, P, Q, a1, a2, a3, a4, zyG_tr g a5⟩
  · obtain ⟨J, a1, a2, a3⟩ := h.2 q
    exact ⟨J, a1, a2, zyG_tr g a3⟩
def zyCl (s : zQs) (T : Nat → Nat) (n : Nat) (Wb : List Nat) (lo o : Nat) (Fp : zyS → zyS) : Prop := ∀ d U S I x2, S.e = 0 → zyR T n d (U ++ Wb) S I → zyop (U ++ Wb) = o → zynt (U ++ Wb) lo → zyRes s T n d Wb.length (U ++ Wb) lo (Fp S) I (zyY Wb.length x2 (zf_201 [.ref 58] (zMk (s, I))))
theorem zf199r {s : zQs} {I : Nat → Nat → Int32} {c : Nat} (hc : c < 256 ∨ c = 1000) : zf_199 [.int (zyI c)] (zMk (s, I)) = some (.int (if (zyi1 c || zyi2 c) = true then nI (zyo c) else -1), zMk (s, I)) := by
  rw [zl_199]
  by_cases c1 : c = 43
  · subst c1; rfl
  · rw [if_pos (mt (zyI_43 hc).mp c1)]
    by_cases c2 : c = 45
    · subst c2; rfl
    · rw [if_pos (mt (zyI_45 hc).mp c2)]
      by_cases c3 : c = 42
      · subst c3; rfl
      · rw [if_pos (mt (zyI_42 hc).mp c3)]
        by_cases c4 : c = 47
        · subst c4; rfl
        · rw [if_pos (mt (zyI_47 hc).mp c4)]
          by_cases c5 : c = 37
          · subst c5; rfl
          · rw [if_pos (mt (zyI_37 hc).mp c5)]
            have h1 : zyi1 c = false := decide_eq_false (by omega)
            have h2 : zyi2 c = false := decide_eq_false (by omega)
            rw [h1, h2]
            rfl
/-- a sign of a sum waits, then a factor -/
theorem zyHpush {s : zQs} {T : Nat → Nat} {n d b : Nat} {W : List Nat} {S : zyS} {I : Nat → Nat → Int32} (h : zyR T n d W S I) (he : S.e = 0) (hl : S.p < n) (ho : zyop W ≤ 6) {x : Nat} (x2 : 2 ≤ x) (x6 : x ≤ 6) :
    ∃ J, zQ_203 (23, [.ref 58, .int (nI b), .int (nI x)], [], zMk (s, I)) = zyY b (.int (nI x)) (zf_201 [.ref 58] (zMk (s, J))) ∧ zyR T n d (zyen x :: W) (zya S) J ∧ zyG I J := by
  obtain ⟨h1, h2, h3, h4, h5, h6, h7, h8, h9, h10, h11, h12, h13⟩ := id h
  have hR : zyR T n d (zyen x :: W) (zya S) (zwA (zwA (zwA I 65 (upd (I 65) W.length (nI (1048576 * x)))) 58 (upd (I 58) 15 (nI (W.length + 1)))) 58 (upd (upd (I 58) 15 (nI (W.length + 1))) 10 (nI (S.p + 1)))) := by
    refine zyR_push h (by unfold zyen; omega) rfl hl rfl rfl (by rw [zypn_c, zyisP_en x2 x6, if_pos rfl]; omega) (by rw [zwA_n (by decide), zwA_n (by decide), zwA_n (by decide)]) (by rw [zwA_n (by decide), zwA_n (by decide), zwA_n (by decide)]) (by rw [zwA_n (by decide), zwA_n (by decide), zwA_s]; rfl) (by rw [zwA_s, upd_at, if_pos rfl]) (by rw [zwA_s, upd_at, if_neg (by decide), upd_at, if_neg (by decide)]) ?_ (by rw [zwA_s, upd_at, if_neg (by decide), upd_at, if_neg (by decide)]) (by rw [zwA_s, upd_at, if_neg (by decide), upd_at, if_pos rfl])
    rw [zwA_s, upd_at, if_neg (by decide), upd_at, if_neg (by decide), h9, zyop_c, zyisO_en x2 x6]
    rfl
  have ho' : zyop (zyen x :: W) ≤ 6 := by rw [zyop_c, zyisO_en x2 x6]; exact ho
  obtain ⟨v, J, e, hv⟩ := zf201e (s := s) hR he ho'
  refine ⟨_, ?_, hR, ⟨fun r a _ c => by rw [zwA_n a, zwA_n a, zwA_n c], fun j a _ _ _ e _ => by rw [zwA_s, upd_at, if_neg a, upd_at, if_neg e]⟩⟩
  rw [zq_203_23, h7, if_pos (zb_t (show W.length < 180 by omega) (by omega)), nI_clamp (show W.length < 2 ^ 31 by omega), show (1048576 : Int32) * nI x = nI (1048576 * x) from nI_mul 1048576 x, nI_1, h5, nI_1, e, zcI_some, zq_203_45]
  rcases hv with rfl | rfl
  · rw [zyY_0, if_neg (not_not_intro rfl)]
  · rw [zyY_1, if_pos (by decide)]
theorem zyo_r : (∀ c, zyi2 c = true → 4 ≤ zyo c ∧ zyo c ≤ 6) ∧ (∀ c, zyi1 c = true → 2 ≤ zyo c ∧ zyo c ≤ 3) := by
  refine ⟨fun c h => ?_, fun c h => ?_⟩
  · have h := of_decide_eq_true h
    rcases h with rfl | rfl | rfl <;> decide
  · have h := of_decide_eq_true h
    rcases h with rfl | rfl <;> decide
theorem zyH_mul {s : zQs} {T : Nat → Nat} {n d b : Nat} {W P : List Nat} {Q : zyS} {I : Nat → Nat → Int32} {x2 : Value} (h : zyR T n d (P.map zyen ++ W) Q I) (he : Q.e = 0) (hP : zyis P 4) (hW : zynt W 4) (ho : zyop W ≤ 6) (hc : zyi2 (zyn T n Q) = true) :
    ∃ J, zQ_203 (8, [.ref 58, .int (nI b), x2], [], zMk (s, I)) = zyY b (.int (nI (zyo (zyn T n Q)))) (zf_201 [.ref 58] (zMk (s, J))) ∧ zyR T n d (zyen (zyo (zyn T n Q)) :: W) (zya (zycs P Q)) J ∧ zyG I J := by
  have hl := zyi_n (is := zyi2) rfl hc
  obtain ⟨o4, o6⟩ := zyo_r.1 _ hc
  obtain ⟨J1, e1, r1, g1⟩ := zlp200m (s := s) hW P Q I hP h
  have e1 : zf_200 [.ref 58, .int 0] (zMk (s, I)) = _ := (zqz_200 0 _).trans e1
  obtain ⟨p1, p2⟩ := zycs_p P Q
  obtain ⟨J, e, r, g⟩ := zyHpush (s := s) (b := b) r1 (by rw [p2]; exact he) (by rw [p1]; exact hl) ho (show 2 ≤ zyo (zyn T n Q) by omega) o6
  refine ⟨J, ?_, r, zyG_tr g1 g⟩
  rw [zq_203_8, zf190r h, zcI_some, zq_203_10, zf199r (zyR_256 h), hc, Bool.or_true, if_pos rfl, zcI_some, zq_203_11, if_neg (nI_m1 (show zyo (zyn T n Q) < 2 ^ 31 by omega)), if_pos (show (4 : Int32) ≤ nI (zyo (zyn T n Q)) from nI_le (a := 4) o4 (by omega)), e1, zcV_some]
  exact e
theorem zyH_add {s : zQs} {T : Nat → Nat} {n d b : Nat} {W P : List Nat} {Q : zyS} {I : Nat → Nat → Int32} {x2 : Value} (h : zyR T n d (P.map zyen ++ W) Q I) (he : Q.e = 0) (hP : zyis P 2) (hW : zynt W 2) (ho : zyop W ≤ 6) (hc : zyi1 (zyn T n Q) = true) :
    ∃ J, zQ_203 (8, [.ref 58, .int (nI b), x2], [], zMk (s, I)) = zyY b (.int (nI (zyo (zyn T n Q)))) (zf_201 [.ref 58] (zMk (s, J))) ∧ zyR T n d (zyen (zyo (zyn T n Q)) :: W) (zya (zycs P Q)) J ∧ zyG I J := by
  have hl := zyi_n (is := zyi1) rfl hc
  obtain ⟨o2, o3⟩ := zyo_r.2 _ hc
  obtain ⟨J1, e1, r1, g1⟩ := zlp200 (s := s) hW P Q I hP h
  have e1 : zf_200 [.ref 58, .int 1] (zMk (s, I)) = _ := (zqz_200 1 _).trans e1
  obtain ⟨p1, p2⟩ := zycs_p P Q
  obtain ⟨J, e, r, g⟩ := zyHpush (s := s) (b := b) r1 (by rw [p2]; exact he) (by rw [p1]; exact hl) ho o2 (show zyo (zyn T n Q) ≤ 6 by omega)
  refine ⟨J, ?_, r, zyG_tr g1 g⟩
  rw [zq_203_8, zf190r h, zcI_some, zq_203_10, zf199r (zyR_256 h), hc, Bool.true_or, if_pos rfl, zcI_some, zq_203_11, if_neg (nI_m1 (show zyo (zyn T n Q) < 2 ^ 31 by omega)), if_neg (show ¬ (4 : Int32) ≤ nI (zyo (zyn T n Q)) from nI_ge (b := 4) (by omega) (by decide)), e1, zcV_some]
  exact e
/-- no sign of a sum: at pc 50 -/
theorem zyH_end {s : zQs} {T : Nat → Nat} {n d b : Nat} {W : List Nat} {Q : zyS} {I : Nat → Nat → Int32} {x2 : Value} (h : zyR T n d W Q I) (h1 : zyi1 (zyn T n Q) = false) (h2 : zyi2 (zyn T n Q) = false) :
    zQ_203 (8, [.ref 58, .int (nI b), x2], [], zMk (s, I)) = zQ_203 (50, [.ref 58, .int (nI b), .int (-1)], [.int (zyI (zyn T n Q))], zMk (s, I)) := by
  rw [zq_203_8, zf190r h, zcI_some, zq_203_10, zf199r (zyR_256 h), h1, h2, if_neg (by decide), zcI_some, zq_203_11, if_pos rfl, zf190r h, zcI_some]
theorem zylp_e {T : Nat → Nat} {n : Nat} {is : Nat → Bool} {F : zyS → zyS} : ∀ f (S : zyS), S.e ≠ 0 → zylp T n is F f S = S
  | 0, _, _ => rfl
  | f + 1, S, h => by rw [zylp_s, if_neg (fun q => h q.1)]
/-- where a row of signs ends, there is none -/
theorem zylp_end {T : Nat → Nat} {n : Nat} {is : Nat → Bool} (hi : is 1000 = false) {F : zyS → zyS} (hF : ∀ S, zyk n S (F S)) : ∀ f (S : zyS), n ≤ S.p + f → (zylp T n is F f S).e = 0 → is (zyn T n (zylp T n is F f S)) = false
  | 0, S, hn, he => by
    show is (zyn T n S) = false
    unfold zyn
    rw [if_neg (by omega)]
    exact hi
  | f + 1, S, hn, he => by
    rw [zylp_s] at he ⊢
    by_cases c : S.e = 0 ∧ is (zyn T n S) = true
    · rw [if_pos c] at he ⊢
      have k1 := (hF (zya S)).2.1
      have k1 : S.p + 1 ≤ (F (zya S)).p := k1
      have k2 := (zye_p (zyo (zyn T n S)) 0 (F (zya S))).1
      exact zylp_end hi hF f _ (by omega) he
    · rw [if_neg c] at he ⊢
      cases hx : is (zyn T n S) with
      | false => rfl
      | true => exact absurd ⟨he, hx⟩ c
theorem zylp_end2 {T : Nat → Nat} {n : Nat} {is is2 : Nat → Bool} {F : zyS → zyS} (hF : ∀ S, (F S).e = 0 → is2 (zyn T n (F S)) = false) : ∀ f (S : zyS), (S.e = 0 → is2 (zyn T n S) = false) → (zylp T n is F f S).e = 0 → is2 (zyn T n (zylp T n is F f S)) = false
  | 0, S, h, he => h he
  | f + 1, S, h, he => by
    rw [zylp_s] at he ⊢
    by_cases c : S.e = 0 ∧ is (zyn T n S) = true
    · rw [if_pos c] at he ⊢
      refine zylp_end2 hF f _ (fun q => ?_) he
      obtain ⟨k1, k2⟩ := zye_p (zyo (zyn T n S)) 0 (F (zya S))
      rw [k2] at q
      rw [zyn_p k1]
      exact hF _ q
    · rw [if_neg c] at he ⊢
      exact h he
theorem zytm_end {T : Nat → Nat} {n : Nat} {G : Nat → zyS → zyS} (hG : ∀ o S, zyk n S (G o S)) (o : Nat) (S : zyS) (he : (zytm T n G o S).e = 0) : zyi2 (zyn T n (zytm T n G o S)) = false :=
  zylp_end rfl (zyk_fa hG o) n _ (by omega) he
theorem zysu_end {T : Nat → Nat} {n : Nat} : ∀ d o (S : zyS), 1 ≤ d → (zysu T n d o S).e = 0 → zyi1 (zyn T n (zysu T n d o S)) = false ∧ zyi2 (zyn T n (zysu T n d o S)) = false
  | 0, _, _, h, _ => absurd h (by decide)
  | d + 1, o, S, _, he => by
    rw [zysu_s] at he ⊢
    exact ⟨zylp_end rfl (zyk_tm (zyk_su d) o) n _ (by omega) he, zylp_end2 (fun S => zytm_end (zyk_su d) o S) n _ (fun q => zytm_end (zyk_su d) o S q) he⟩
