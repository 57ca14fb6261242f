/-! THE LAW'S TEXT, READ BY THE REFERENCE: SUMS SIMULATED -/
theorem zylp_n0 {T : Nat → Nat} {n : Nat} {is : Nat → Bool} {F : zyS → zyS} {f : Nat} {S : zyS} (h : ¬ (S.e = 0 ∧ is (zyn T n S) = true)) : zylp T n is F f S = S := by
  cases f with
  | zero => rfl
  | succ f => rw [zylp_s, if_neg h]
theorem zyCl_tl {s : zQs} {T : Nat → Nat} {n : Nat} {Wb : List Nat} {o : Nat} {Fp : zyS → zyS} (ho : o ≤ 6) (hF : zyCl s T n Wb 7 o Fp) (hk : ∀ S, zyk n S (Fp S)) : ∀ f d U P Q I x2, zyR T n d (P.map zyen ++ (U ++ Wb)) Q I → zyis P 4 → zyop (U ++ Wb) = o → zynt (U ++ Wb) 4 → Q.e = 0 → n ≤ Q.p + f →
    zyRes s T n d Wb.length (U ++ Wb) 4 (zylp T n zyi2 Fp f (zycs P Q)) I (zQ_203 (8, [.ref 58, .int (nI Wb.length), x2], [], zMk (s, I))) := by
  intro f
  have stop : ∀ f d U P Q I x2, zyR T n d (P.map zyen ++ (U ++ Wb)) Q I → zyis P 4 → zylp T n zyi2 Fp f (zycs P Q) = zycs P Q → Q.e = 0 → zyRes s T n d Wb.length (U ++ Wb) 4 (zylp T n zyi2 Fp f (zycs P Q)) I (zQ_203 (8, [.ref 58, .int (nI Wb.length), x2], [], zMk (s, I))) := by
    intro f d U P Q I x2 h hP hz he
    rw [hz]
    exact ⟨fun _ => ⟨I, x2, P, Q, rfl, h, hP, rfl, zyG_rfl I⟩, fun q => absurd ((zycs_p P Q).2.trans he) q⟩
  induction f with
  | zero =>
    intro d U P Q I x2 h hP hop hnt he hn
    exact stop 0 d U P Q I x2 h hP rfl he
  | succ f ih =>
    intro d U P Q I x2 h hP hop hnt he hn
    obtain ⟨p1, p2⟩ := zycs_p P Q
    have hsg : zyn T n (zycs P Q) = zyn T n Q := zyn_p p1
    by_cases hc : zyi2 (zyn T n Q) = true
    · have hl := zyi_n (is := zyi2) rfl hc
      obtain ⟨o4, o6⟩ := zyo_r.1 _ hc
      obtain ⟨J, e, r, g⟩ := zyH_mul (s := s) (b := Wb.length) (x2 := x2) h he hP hnt (by omega) hc
      have he2 : (zya (zycs P Q)).e = 0 := p2.trans he
      have hz : zylp T n zyi2 Fp (f + 1) (zycs P Q) = zylp T n zyi2 Fp f (zye (zyo (zyn T n Q)) 0 (Fp (zya (zycs P Q)))) := by
        rw [zylp_s, hsg, if_pos ⟨p2.trans he, hc⟩]
      have hx7 : zynt ((zyen (zyo (zyn T n Q)) :: U) ++ Wb) 7 := fun k h1 h2 => by omega
      have hop2 : zyop ((zyen (zyo (zyn T n Q)) :: U) ++ Wb) = o := by
        show zyop (zyen (zyo (zyn T n Q)) :: (U ++ Wb)) = o
        rw [zyop_c, zyisO_en (by omega) o6, hop]
        rfl
      obtain ⟨c1, c2⟩ := hF d (zyen (zyo (zyn T n Q)) :: U) (zya (zycs P Q)) J (.int (nI (zyo (zyn T n Q)))) he2 r hop2 hx7
      rw [hz]
      refine zyRes_G g ?_ e
      by_cases q : (Fp (zya (zycs P Q))).e = 0
      · obtain ⟨J2, x2', P2, Q2, a1, a2, a3, a4, a5⟩ := c1 q
        have hP2 : P2 = [] := by
          cases P2 with
          | nil => rfl
          | cons x P2 => have := (zyis_c a3).1; omega
        subst hP2
        have a4 : Q2 = Fp (zya (zycs P Q)) := a4
        have a2 : zyR T n d ([zyo (zyn T n Q)].map zyen ++ (U ++ Wb)) Q2 J2 := a2
        have hk1 := (hk (zya (zycs P Q))).2.1
        have hk1 : (zycs P Q).p + 1 ≤ (Fp (zya (zycs P Q))).p := hk1
        have nx := ih d U [zyo (zyn T n Q)] Q2 J2 x2' a2 (fun y hy => by
          rcases List.mem_cons.mp hy with rfl | hy
          · exact ⟨o4, o6⟩
          · cases hy) hop hnt (by rw [a4]; exact q) (by rw [a4]; omega)
        have nx : zyRes s T n d Wb.length (U ++ Wb) 4 (zylp T n zyi2 Fp f (zye (zyo (zyn T n Q)) 0 Q2)) J2 (zQ_203 (8, [.ref 58, .int (nI Wb.length), x2'], [], zMk (s, J2))) := nx
        rw [a4] at nx
        exact zyRes_G a5 nx a1
      · obtain ⟨J2, a1, a2⟩ := c2 q
        have q2 : (zye (zyo (zyn T n Q)) 0 (Fp (zya (zycs P Q)))).e ≠ 0 := by rw [(zye_p _ _ _).2]; exact q
        rw [zylp_e f _ q2]
        refine ⟨fun w => absurd w q2, fun _ => ⟨J2, a1, ?_⟩⟩
        rw [(zye_p _ _ _).2]
        exact a2
    · refine stop (f + 1) d U P Q I x2 h hP (zylp_n0 (fun w => hc (by rw [← hsg]; exact w.2))) he
theorem zyCl_sl {s : zQs} {T : Nat → Nat} {n : Nat} {Wb : List Nat} {o : Nat} {Fp : zyS → zyS} (ho : o ≤ 6) (hF : zyCl s T n Wb 4 o Fp) (hk : ∀ S, zyk n S (Fp S)) : ∀ f d U P Q I x2, zyR T n d (P.map zyen ++ (U ++ Wb)) Q I → zyis P 2 → zyop (U ++ Wb) = o → zynt (U ++ Wb) 2 → Q.e = 0 → n ≤ Q.p + f →
    zyRes s T n d Wb.length (U ++ Wb) 2 (zylp T n zyi1 Fp f (zycs P Q)) I (zQ_203 (8, [.ref 58, .int (nI Wb.length), x2], [], zMk (s, I))) := by
  intro f
  have stop : ∀ f d U P Q I x2, zyR T n d (P.map zyen ++ (U ++ Wb)) Q I → zyis P 2 → zylp T n zyi1 Fp f (zycs P Q) = zycs P Q → Q.e = 0 → zyRes s T n d Wb.length (U ++ Wb) 2 (zylp T n zyi1 Fp f (zycs P Q)) I (zQ_203 (8, [.ref 58, .int (nI Wb.length), x2], [], zMk (s, I))) := by
    intro f d U P Q I x2 h hP hz he
    rw [hz]
    exact ⟨fun _ => ⟨I, x2, P, Q, rfl, h, hP, rfl, zyG_rfl I⟩, fun q => absurd ((zycs_p P Q).2.trans he) q⟩
  induction f with
  | zero =>
    intro d U P Q I x2 h hP hop hnt he hn
    exact stop 0 d U P Q I x2 h hP rfl he
  | succ f ih =>
    intro d U P Q I x2 h hP hop hnt he hn
    obtain ⟨p1, p2⟩ := zycs_p P Q
    have hsg : zyn T n (zycs P Q) = zyn T n Q := zyn_p p1
    by_cases hc : zyi1 (zyn T n Q) = true
    · have hl := zyi_n (is := zyi1) rfl hc
      obtain ⟨o2, o3⟩ := zyo_r.2 _ hc
      obtain ⟨J, e, r, g⟩ := zyH_add (s := s) (b := Wb.length) (x2 := x2) h he hP hnt (by omega) hc
      have he2 : (zya (zycs P Q)).e = 0 := p2.trans he
      have hz : zylp T n zyi1 Fp (f + 1) (zycs P Q) = zylp T n zyi1 Fp f (zye (zyo (zyn T n Q)) 0 (Fp (zya (zycs P Q)))) := by
        rw [zylp_s, hsg, if_pos ⟨p2.trans he, hc⟩]
      have hx4 : zynt ((zyen (zyo (zyn T n Q)) :: U) ++ Wb) 4 := zynt_c (W := U ++ Wb) (by unfold zyen; omega) (by rw [zyen_d]; omega)
      have hop2 : zyop ((zyen (zyo (zyn T n Q)) :: U) ++ Wb) = o := by
        show zyop (zyen (zyo (zyn T n Q)) :: (U ++ Wb)) = o
        rw [zyop_c, zyisO_en o2 (by omega), hop]
        rfl
      obtain ⟨c1, c2⟩ := hF d (zyen (zyo (zyn T n Q)) :: U) (zya (zycs P Q)) J (.int (nI (zyo (zyn T n Q)))) he2 r hop2 hx4
      rw [hz]
      refine zyRes_G g ?_ e
      by_cases q : (Fp (zya (zycs P Q))).e = 0
      · obtain ⟨J2, x2', P2, Q2, a1, a2, a3, a4, a5⟩ := c1 q
        obtain ⟨r1, r2⟩ := zycs_p P2 Q2
        rw [a4] at r1 r2
        have a2 : zyR T n d (P2.map zyen ++ ([zyo (zyn T n Q)].map zyen ++ (U ++ Wb))) Q2 J2 := a2
        rw [← List.append_assoc, ← List.map_append] at a2
        have hk1 := (hk (zya (zycs P Q))).2.1
        have hk1 : (zycs P Q).p + 1 ≤ (Fp (zya (zycs P Q))).p := hk1
        have nx := ih d U (P2 ++ [zyo (zyn T n Q)]) Q2 J2 x2' a2 (fun y hy => by
          rcases List.mem_append.mp hy with hy | hy
          · have := a3 y hy; omega
          · rcases List.mem_cons.mp hy with rfl | hy
            · omega
            · cases hy) hop hnt (by rw [← r2]; exact q) (by rw [← r1]; omega)
        rw [zycs_app, a4] at nx
        exact zyRes_G a5 nx a1
      · obtain ⟨J2, a1, a2⟩ := c2 q
        have q2 : (zye (zyo (zyn T n Q)) 0 (Fp (zya (zycs P Q)))).e ≠ 0 := by rw [(zye_p _ _ _).2]; exact q
        rw [zylp_e f _ q2]
        refine ⟨fun w => absurd w q2, fun _ => ⟨J2, a1, ?_⟩⟩
        rw [(zye_p _ _ _).2]
        exact a2
    · refine stop (f + 1) d U P Q I x2 h hP (zylp_n0 (fun w => hc (by rw [← hsg]; exact w.2))) he
theorem zyCl_tm {s : zQs} {T : Nat → Nat} {n : Nat} {Wb : List Nat} {o : Nat} {Fp : zyS → zyS} (ho : o ≤ 6) (hF : zyCl s T n Wb 7 o Fp) (hk : ∀ S, zyk n S (Fp S)) : zyCl s T n Wb 4 o (fun S => zylp T n zyi2 Fp n (Fp S)) := by
  intro d U S I x2 he h hop hnt
  obtain ⟨c1, c2⟩ := hF d U S I x2 he h hop (fun k h1 h2 => by omega)
  show zyRes s T n d Wb.length (U ++ Wb) 4 (zylp T n zyi2 Fp n (Fp S)) I _
  by_cases q : (Fp S).e = 0
  · obtain ⟨J2, x2', P2, Q2, a1, a2, a3, a4, a5⟩ := c1 q
    have hP2 : P2 = [] := by
      cases P2 with
      | nil => rfl
      | cons x P2 => have := (zyis_c a3).1; omega
    subst hP2
    have a4 : Q2 = Fp S := a4
    subst a4
    exact zyRes_G a5 (zyCl_tl ho hF hk n d U [] (Fp S) J2 x2' a2 (fun y hy => by cases hy) hop hnt q (by omega)) a1
  · obtain ⟨J2, a1, a2⟩ := c2 q
    rw [zylp_e n _ q]
    exact ⟨fun w => absurd w q, fun _ => ⟨J2, a1, a2⟩⟩
theorem zyCl_sm {s : zQs} {T : Nat → Nat} {n : Nat} {Wb : List Nat} {o : Nat} {Fp : zyS → zyS} (ho : o ≤ 6) (hF : zyCl s T n Wb 4 o Fp) (hk : ∀ S, zyk n S (Fp S)) : zyCl s T n Wb 2 o (fun S => zylp T n zyi1 Fp n (Fp S)) := by
  intro d U S I x2 he h hop hnt
  obtain ⟨c1, c2⟩ := hF d U S I x2 he h hop (zynt_le hnt (by decide))
  show zyRes s T n d Wb.length (U ++ Wb) 2 (zylp T n zyi1 Fp n (Fp S)) I _
  by_cases q : (Fp S).e = 0
  · obtain ⟨J2, x2', P2, Q2, a1, a2, a3, a4, a5⟩ := c1 q
    obtain ⟨r1, r2⟩ := zycs_p P2 Q2
    have nx := zyCl_sl ho hF hk n d U P2 Q2 J2 x2' a2 (fun y hy => by have := a3 y hy; omega) hop hnt (by rw [← r2, a4]; exact q) (by omega)
    rw [a4] at nx
    exact zyRes_G a5 nx a1
  · obtain ⟨J2, a1, a2⟩ := c2 q
    rw [zylp_e n _ q]
    exact ⟨fun w => absurd w q, fun _ => ⟨J2, a1, a2⟩⟩
/-- is it open: of what waits above -/
theorem zf202r {s : zQs} {T : Nat → Nat} {n d : Nat} {U V : List Nat} {Q : zyS} {I : Nat → Nat → Int32} (h : zyR T n d (U ++ V) Q I) : zf_202 [.ref 58, .int (nI V.length)] (zMk (s, I)) = some (.int (if zyhas U = true then 1 else 0), zMk (s, I)) := by
  obtain ⟨h1, h2, h3, h4, h5, h6, h7, h8, h9, h10, h11, h12, h13⟩ := h
  rw [zqz_202, zq_202_0]
  exact zlp202 U V (by omega) h8 h12 h7
theorem zyhas_P {P : List Nat} (hP : zyis P 2) : zyhas (P.map zyen) = false := by
  induction P with
  | nil => rfl
  | cons x P ih =>
    obtain ⟨a, b⟩ := zyis_c hP
    show (decide (zyen x / 1048576 = 14) || zyhas (P.map zyen)) = false
    rw [ih b, zyen_d, decide_eq_false (by omega)]
    rfl
theorem zyhas_in {U V : List Nat} : zyhas (U ++ zyen 14 :: V) = true := by
  unfold zyhas
  rw [List.any_append]
  show (_ || (decide (zyen 14 / 1048576 = 14) || _)) = true
  rw [zyen_d, decide_eq_true rfl, Bool.true_or, Bool.or_true]
theorem zyCl_fa {s : zQs} {T : Nat → Nat} {n : Nat} {Wb : List Nat} {o : Nat} {G : Nat → zyS → zyS} (ho : o ≤ 6) (hG : o < 6 → zyCl s T n Wb 2 (o + 1) (G (o + 1))) (hend : ∀ S, o < 6 → (G (o + 1) S).e = 0 → zyi1 (zyn T n (G (o + 1) S)) = false ∧ zyi2 (zyn T n (G (o + 1) S)) = false) : zyCl s T n Wb 7 o (zyfa T n G o) := by
  intro d U S I x2 he h hop _
  by_cases hc : zyn T n S = 91
  case neg =>
    have hz : zyfa T n G o S = (if zyg (zyn T n S) = true then zynm T n 5 0 S else zylt T n S) := by
      unfold zyfa
      rw [if_neg (not_not_intro he), if_neg hc]
    have st : zf_201 [.ref 58] (zMk (s, I)) = zQ_201 (12, [.ref 58, .long 0], [.int (if zyg (zyn T n S) = true then 1 else 0)], zMk (s, I)) := by
      rw [zqz_201, zq_201_0, zf190r h, zcI_some, zq_201_2, if_pos (mt (zyI_91 (zyR_256 h)).mp hc), zf191r h, zcI_some]
    obtain ⟨i1, i2⟩ := zf201a (s := s) h he (.long 0)
    rw [hz, st]
    refine ⟨fun q => ?_, fun q => ?_⟩
    · obtain ⟨J, e, r, g⟩ := i1 q
      refine ⟨J, x2, [], _, ?_, r, (fun y hy => by cases hy), rfl, g⟩
      rw [e, zyY_1]
    · obtain ⟨J, e, r⟩ := i2 q
      refine ⟨J, ?_, r⟩
      rw [e, zyY_0]
  have hl := (zyn_lt hc (by decide)).1
  obtain ⟨o1, o2⟩ := zf196r (s := s) h hl (k := 14) (by omega) (by omega)
  have st : zf_201 [.ref 58] (zMk (s, I)) = zcI (zf_196 [.ref 58, .int 14] (zMk (s, I))) fun v M => zQ_201 (7, [.ref 58, .long 0], [.int v], M) := by
    rw [zqz_201, zq_201_0, zf190r h, zcI_some, zq_201_2, if_neg (not_not_intro ((zyI_91 (zyR_256 h)).mpr hc))]
  by_cases h6 : 6 ≤ o
  · have hz : zyfa T n G o S = zyf 5 S := by
      unfold zyfa
      rw [if_neg (not_not_intro he), if_pos hc, if_pos h6]
    obtain ⟨J, e, r⟩ := o2 (by omega)
    have e : zf_196 [.ref 58, .int 14] (zMk (s, I)) = _ := e
    rw [hz, zyf_e he, st]
    refine ⟨fun q => ?_, fun _ => ⟨J, ?_, r⟩⟩
    · have q : 1000 * 5 + S.p = 0 := q
      omega
    · rw [e, zcI_some, zq_201_7, if_neg (not_not_intro rfl), zyY_0]
  have hz : zyfa T n G o S = zyt T n 93 (G (o + 1) (zya S)) := by
    unfold zyfa
    rw [if_neg (not_not_intro he), if_pos hc, if_neg h6]
  obtain ⟨J1, e1, r1, g1⟩ := o1 (by omega)
  have e1 : zf_196 [.ref 58, .int 14] (zMk (s, I)) = _ := e1
  have r1 : zyR T n d ((zyen 14 :: U) ++ Wb) (zya S) J1 := r1
  have st1 : zf_201 [.ref 58] (zMk (s, I)) = zf_201 [.ref 58] (zMk (s, J1)) := by
    rw [st, e1, zcI_some, zq_201_7, if_pos (by decide), zqz_201]
  have hop1 : zyop ((zyen 14 :: U) ++ Wb) = o + 1 := by
    show zyop (zyen 14 :: (U ++ Wb)) = o + 1
    rw [zyop_c, hop, if_pos (show zyisO (zyen 14) = true by decide)]
  have hnt1 : zynt ((zyen 14 :: U) ++ Wb) 2 := zynt_c (W := U ++ Wb) (by decide) (by rw [zyen_d]; omega)
  obtain ⟨c1, c2⟩ := hG (by omega) d (zyen 14 :: U) (zya S) J1 x2 he r1 hop1 hnt1
  rw [hz, st1]
  refine zyRes_G g1 ?_ rfl
  by_cases q : (G (o + 1) (zya S)).e = 0
  case neg =>
    obtain ⟨J2, a1, a2⟩ := c2 q
    rw [zyt_no q]
    exact ⟨fun w => absurd w q, fun _ => ⟨J2, a1, a2⟩⟩
  obtain ⟨J2, x2', P, Q, a1, a2, a3, a4, a5⟩ := c1 q
  refine zyRes_G a5 ?_ a1
  obtain ⟨p1, p2⟩ := zycs_p P Q
  rw [a4] at p1 p2
  have hsg : zyn T n (G (o + 1) (zya S)) = zyn T n Q := zyn_p p1
  obtain ⟨n1, n2⟩ := hend (zya S) (by omega) q
  rw [hsg] at n1 n2
  have a2' : zyR T n d ((P.map zyen ++ zyen 14 :: U) ++ Wb) Q J2 := by
    rw [List.append_assoc]
    exact a2
  have e202 := zf202r (s := s) a2'
  rw [zyhas_in, if_pos rfl] at e202
  rw [zyH_end a2 n1 n2, zq_203_50]
  have x := zyR_256 a2
  by_cases h93 : zyn T n Q = 93
  · rw [if_neg (not_not_intro ((zyI_93 x).mpr h93)), e202, zcI_some, zq_203_55, if_neg (by decide)]
    obtain ⟨J3, e3, r3, g3⟩ := zlp200 (s := s) hnt1 P Q J2 a3 a2
    have e3 : zf_200 [.ref 58, .int 1] (zMk (s, J2)) = _ := (zqz_200 1 _).trans e3
    rw [a4] at r3
    have hl3 : (G (o + 1) (zya S)).p < n := by rw [p1]; exact (zyn_lt h93 (by decide)).1
    obtain ⟨k1, k2, k3, k4, k5, k6, k7, k8, k9, k10, k11, k12, k13⟩ := id r3
    have k7 : J3 58 15 = nI ((U ++ Wb).length + 1) := k7
    have k10 : (U ++ Wb).length + 1 ≤ (G (o + 1) (zya S)).p := k10
    rw [hop1] at k9
    have hz2 : zyt T n 93 (G (o + 1) (zya S)) = zya (G (o + 1) (zya S)) := zyt_fit q (by rw [hsg]; exact h93)
    rw [hz2]
    have e15 : nI ((U ++ Wb).length + 1) - 1 = nI (U ++ Wb).length := nI_sub (b := 1) (by omega)
    have e13 : nI (o + 1) - 1 = nI o := nI_sub (b := 1) (by omega)
    have hpn : zypn ((zyen 14 :: U) ++ Wb) = zypn (U ++ Wb) := by
      show zypn (zyen 14 :: (U ++ Wb)) = _
      rw [zypn_c, if_neg (show ¬ zyisP (zyen 14) = true by decide)]
      rfl
    rw [hpn] at k11
    refine ⟨fun _ => ⟨zwA J3 58 (upd (upd (upd (J3 58) 15 (nI (U ++ Wb).length)) 13 (nI o)) 10 (nI ((G (o + 1) (zya S)).p + 1))), .int (-1), [], zya (G (o + 1) (zya S)), ?_, ?_, (fun y hy => by cases hy), rfl, ?_⟩, fun w => absurd q w⟩
    · rw [e3, zcV_some, zq_203_59, k7, e15, k9, e13, k5, nI_1, zwA_zwA, zwA_zwA]
    · refine zyR_pop (w := zyen 14) (W := U ++ Wb) r3 (Nat.le_succ _) hl3 rfl rfl (by show _ + _ + d ≤ (G (o + 1) (zya S)).p + 1; omega) (zwA_n (by decide)) (zwA_n (by decide)) (zwA_n (by decide)) ?_ ?_ ?_ ?_ ?_
      · rw [zwA_s, upd_at, if_pos rfl]; rfl
      · rw [zwA_s, upd_at, if_neg (by decide), upd_at, if_neg (by decide), upd_at, if_neg (by decide)]
      · rw [zwA_s, upd_at, if_neg (by decide), upd_at, if_pos rfl, hop]
      · rw [zwA_s, upd_at, if_neg (by decide), upd_at, if_neg (by decide), upd_at, if_neg (by decide)]
      · rw [zwA_s, upd_at, if_neg (by decide), upd_at, if_neg (by decide), upd_at, if_pos rfl]
    · exact zyG_tr g3 ⟨fun r a _ _ => zwA_n a, fun j a _ b _ c _ => by rw [zwA_s, upd_at, if_neg a, upd_at, if_neg b, upd_at, if_neg c]⟩
  · have hz2 : zyt T n 93 (G (o + 1) (zya S)) = zyf 1 (G (o + 1) (zya S)) := zyt_odd (by decide) q (by rw [hsg]; exact h93)
    obtain ⟨J3, e3, hN⟩ := zf192r s J2 (k := 1) (by decide) (show Q.p ≤ 160 by have := a2.1; have := a2.2.2.2.1; omega)
    have e3 : zf_192 [.ref 58, .int 1, .int (nI Q.p)] (zMk (s, J2)) = _ := e3
    rw [if_pos (mt (zyI_93 x).mp h93), e202, zcI_some, zq_203_81, if_neg (by decide), a2.2.2.2.2.1, e3, zcI_some, zq_203_87, if_pos (Or.inl rfl), hz2, zyf_e q, p1]
    refine ⟨fun w => ?_, fun _ => ⟨J3, rfl, hN⟩⟩
    have w : 1000 * 1 + Q.p = 0 := w
    omega
theorem zyCl_su {s : zQs} {T : Nat → Nat} {n : Nat} {Wb : List Nat} : ∀ d o, o ≤ 6 → 7 ≤ d + o → zyCl s T n Wb 2 o (zysu T n d o)
  | 0, o, h1, h2 => absurd h2 (by omega)
  | d + 1, o, h1, h2 => by
    have hfa := zyCl_fa (s := s) (T := T) (n := n) (Wb := Wb) (G := zysu T n d) h1 (fun q => zyCl_su d (o + 1) (by omega) (by omega)) (fun S q w => zysu_end d (o + 1) S (by omega) w)
    have htm := zyCl_tm h1 hfa (zyk_fa (zyk_su d) o)
    exact zyCl_sm h1 htm (zyk_tm (zyk_su d) o)
/-- a sum, whole -/
theorem zf203r {s : zQs} {T : Nat → Nat} {n d o : Nat} {W : List Nat} {S : zyS} {I : Nat → Nat → Int32} (he : S.e = 0) (h : zyR T n d W S I) (hop : zyop W = o) (ho : o ≤ 6) (hnt : zynt W 2) :
    ((zysu T n 8 o S).e = 0 → ∃ J, zf_203 [.ref 58] (zMk (s, I)) = some (.int 1, zMk (s, J)) ∧ zyR T n d W (zysu T n 8 o S) J ∧ zyG I J) ∧
    ((zysu T n 8 o S).e ≠ 0 → ∃ J, zf_203 [.ref 58] (zMk (s, I)) = some (.int 0, zMk (s, J)) ∧ zyN (zysu T n 8 o S).e I J) := by
  obtain ⟨v, K, e201, hv⟩ := zf201e (s := s) h he (by omega)
  have st : zf_203 [.ref 58] (zMk (s, I)) = zyY W.length (.long 0) (zf_201 [.ref 58] (zMk (s, I))) := by
    rw [zqz_203, zq_203_0, h.2.2.2.2.2.2.1, e201, zcI_some, zq_203_5]
    rcases hv with rfl | rfl
    · rw [zyY_0, if_neg (not_not_intro rfl)]
    · rw [zyY_1, if_pos (by decide)]
  obtain ⟨c1, c2⟩ := zyCl_su (s := s) (T := T) (n := n) (Wb := W) 8 o ho (by omega) d [] S I (.long 0) he h hop hnt
  rw [st]
  refine ⟨fun q => ?_, fun q => c2 q⟩
  obtain ⟨J, x2, P, Q, a1, a2, a3, a4, a5⟩ := c1 q
  obtain ⟨p1, p2⟩ := zycs_p P Q
  rw [a4] at p1 p2
  have hsg : zyn T n (zysu T n 8 o S) = zyn T n Q := zyn_p p1
  obtain ⟨n1, n2⟩ := zysu_end 8 o S (by decide) q
  rw [hsg] at n1 n2
  have a2 : zyR T n d (P.map zyen ++ W) Q J := a2
  have e202 := zf202r (s := s) a2
  rw [zyhas_P a3, if_neg (by decide)] at e202
  obtain ⟨J3, e3, r3, g3⟩ := zlp200 (s := s) hnt P Q J a3 a2
  have e3 : zf_200 [.ref 58, .int 1] (zMk (s, J)) = _ := (zqz_200 1 _).trans e3
  rw [a4] at r3
  refine ⟨J3, ?_, r3, zyG_tr a5 g3⟩
  have x := zyR_256 a2
  rw [a1, zyH_end a2 n1 n2, zq_203_50]
  have fin : zQ_203 (81, [.ref 58, .int (nI W.length), .int (-1)], [.int 0], zMk (s, J)) = some (.int 1, zMk (s, J3)) := by
    rw [zq_203_81, if_pos rfl, e3, zcV_some, zq_203_91]
  by_cases h93 : zyn T n Q = 93
  · rw [if_neg (not_not_intro ((zyI_93 x).mpr h93)), e202, zcI_some, zq_203_55, if_pos rfl, e202, zcI_some]
    exact fin
  · rw [if_pos (mt (zyI_93 x).mp h93), e202, zcI_some]
    exact fin
