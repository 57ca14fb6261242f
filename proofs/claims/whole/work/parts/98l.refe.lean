/-! THE LAW'S TEXT, READ BY THE REFERENCE: CLAUSES -/
def zyR0 (T : Nat → Nat) (n : Nat) (S : zyS) (I : Nat → Nat → Int32) : Prop :=
  n ≤ 160 ∧ (∀ i, i < n → T i < 256 ∧ I 63 i = zby (T i)) ∧ I 58 11 = nI n ∧ S.p ≤ n ∧ I 58 10 = nI S.p ∧ I 58 14 = nI S.m ∧ S.m ≤ S.p ∧
  ∀ i, i < S.m → I 64 i = nI (1048576 * (S.c i).1 + zyrv i (S.c i)) ∧ (S.c i).1 ≤ 12 ∧ (S.c i).2 < 100000
theorem zyR0_of {T : Nat → Nat} {n d : Nat} {W : List Nat} {S : zyS} {I : Nat → Nat → Int32} (h : zyR T n d W S I) : zyR0 T n S I := by
  obtain ⟨h1, h2, h3, h4, h5, h6, h7, h8, h9, h10, h11, h12, h13⟩ := h
  exact ⟨h1, h2, h3, h4, h5, h6, by omega, h13⟩
theorem zf190q {s : zQs} {T : Nat → Nat} {n : Nat} {S : zyS} {I : Nat → Nat → Int32} (h : zyR0 T n S I) : zf_190 [.ref 58] (zMk (s, I)) = some (.int (zyI (zyn T n S)), zMk (s, I)) := by
  obtain ⟨h1, h2, h3, h4, h5, -⟩ := h
  rw [zl_190, h3, h5]
  unfold zyn
  by_cases hl : S.p < n
  · obtain ⟨t1, t2⟩ := h2 _ hl
    rw [if_neg (nI_ge hl (by omega)), if_pos (zb_t (show S.p < 200 by omega) (by omega)), nI_clamp (show S.p < 2 ^ 31 by omega), t2, (zby_255 _ t1).1, if_pos hl, zyI_nI t1]
  · rw [if_pos (nI_le (by omega) (by omega)), if_neg hl]
    rfl
theorem zyR0_256 {T : Nat → Nat} {n : Nat} {S : zyS} {I : Nat → Nat → Int32} (h : zyR0 T n S I) : zyn T n S < 256 ∨ zyn T n S = 1000 := by
  unfold zyn
  by_cases hp : S.p < n
  · rw [if_pos hp]; exact Or.inl (h.2.1 _ hp).1
  · rw [if_neg hp]; exact Or.inr rfl
def zyMR (Z : zyZ) (I : Nat → Nat → Int32) : Prop := Z.n ≤ 12 ∧ I 58 16 = nI Z.n ∧ ∀ q, q < Z.n → I 66 q = (if Z.k q = true then 110 else 99) ∧ I 67 q = nI (Z.q q).1 ∧ I 68 q = nI (Z.q q).2.1 ∧ I 69 q = nI (Z.q q).2.2
/-- what the clauses' reader may write -/
def zyGR (I J : Nat → Nat → Int32) : Prop := (∀ r, r ≠ 58 → (r < 64 ∨ 69 < r) → J r = I r) ∧ ∀ j, (j < 10 ∨ 17 < j) → J 58 j = I 58 j
theorem zyGR_tr {I J K : Nat → Nat → Int32} (h : zyGR I J) (g : zyGR J K) : zyGR I K := ⟨fun r a b => (g.1 r a b).trans (h.1 r a b), fun j a => (g.2 j a).trans (h.2 j a)⟩
theorem zyGR_G {I J : Nat → Nat → Int32} (h : zyG I J) : zyGR I J := ⟨fun r a b => h.1 r a (by omega) (by omega), fun j a => h.2 j (by omega) (by omega) (by omega) (by omega) (by omega) (by omega)⟩
theorem zyw_e {T : Nat → Nat} {n c : Nat} {S : zyS} (h : (zyu T n c S).e ≠ 0) : (zyw T n c S).e = (zyu T n c S).e := by
  unfold zyw zyv
  rw [zyt_no h]
  have k := (zyk_cn (T := T) (n := n) (PC := zypi T n 8) (zyk_pi 8) 1 (zyu T n c S)).1 h
  rw [zyt_no (by rw [k]; exact h), k]
/-- the brackets and what is in them, in a clause -/
theorem zlp209h {s : zQs} {T : Nat → Nat} {n : Nat} {Z : zyZ} {c : Nat} {S1 : zyS} {I1 : Nat → Nat → Int32} (x1 : Int32) (hn : Z.n < 12) (hu : (zyu T n c S1).e = 0) (h : zyR T n 0 [] (zyu T n c S1) I1) (h16 : I1 58 16 = nI Z.n) :
    ((zyw T n c S1).e = 0 → ∃ J, (zcI (zf_208 [.ref 58] (zMk (s, zwA I1 68 (upd (I1 68) Z.n (nI (zyu T n c S1).m))))) fun v M => zQ_209 (67, [.ref 58, .int x1], [.int v], M)) = some (.int 1, zMk (s, J)) ∧ zyR0 T n (zyw T n c S1) J ∧ J 58 16 = nI (Z.n + 1) ∧ J 66 = I1 66 ∧ J 67 = I1 67 ∧ J 68 = upd (I1 68) Z.n (nI (zyu T n c S1).m) ∧ J 69 = upd (I1 69) Z.n (nI (zyw T n c S1).m) ∧ zyGR I1 J) ∧
    ((zyw T n c S1).e ≠ 0 → ∃ J, (zcI (zf_208 [.ref 58] (zMk (s, zwA I1 68 (upd (I1 68) Z.n (nI (zyu T n c S1).m))))) fun v M => zQ_209 (67, [.ref 58, .int x1], [.int v], M)) = some (.int 0, zMk (s, J)) ∧ J 58 12 = zyF (zyw T n c S1).e ∧ zyGR I1 J) := by
  have g0 : zyGR I1 (zwA I1 68 (upd (I1 68) Z.n (nI (zyu T n c S1).m))) := ⟨fun r _ b => zwA_n (by omega), fun j _ => by rw [zwA_n (by decide)]⟩
  have h' : zyR T n 0 [] (zyu T n c S1) (zwA I1 68 (upd (I1 68) Z.n (nI (zyu T n c S1).m))) := by
    unfold zyR
    rw [zwA_n (by decide), zwA_n (by decide), zwA_n (by decide), zwA_n (by decide)]
    exact h
  obtain ⟨i1, i2⟩ := zf208r (s := s) hu h'
  have hz : zyt T n 41 (zycn T n (zypi T n 8) 1 (zyt T n 40 (zyu T n c S1))) = zyw T n c S1 := rfl
  rw [hz] at i1 i2
  refine ⟨fun q => ?_, fun q => ?_⟩
  · obtain ⟨J, e, r, g⟩ := i1 q
    have r0 := zyR0_of r
    have j16 : J 58 16 = nI Z.n := by rw [g.2 16 (by decide) (by decide) (by decide) (by decide) (by decide) (by decide), zwA_n (by decide)]; exact h16
    have z12 := zb_t (show Z.n < 12 by omega) (show Z.n < 2 ^ 31 by omega)
    refine ⟨zwA (zwA J 69 (upd (J 69) Z.n (nI (zyw T n c S1).m))) 58 (upd (J 58) 16 (nI (Z.n + 1))), ?_, ?_, ?_, ?_, ?_, ?_, ?_, zyGR_tr g0 (zyGR_tr (zyGR_G g) ⟨fun r a b => by rw [zwA_n a, zwA_n (by omega)], fun j a => by rw [zwA_s, upd_at, if_neg (by omega)]⟩)⟩
    · rw [e, zcI_some, zq_209_67, if_pos (by decide), j16, if_pos z12, nI_clamp (show Z.n < 2 ^ 31 by omega), r0.2.2.2.2.2.1, nI_1]
    · obtain ⟨a1, a2, a3, a4, a5, a6, a7, a8⟩ := r0
      refine ⟨a1, ?_, ?_, a4, ?_, ?_, a7, ?_⟩
      · rw [zwA_n (by decide), zwA_n (by decide)]; exact a2
      · rw [zwA_s, upd_at, if_neg (by decide)]; exact a3
      · rw [zwA_s, upd_at, if_neg (by decide)]; exact a5
      · rw [zwA_s, upd_at, if_neg (by decide)]; exact a6
      · rw [zwA_n (by decide), zwA_n (by decide)]; exact a8
    · rw [zwA_s, upd_at, if_pos rfl]
    · rw [zwA_n (by decide), zwA_n (by decide), g.1 66 (by decide) (by decide) (by decide), zwA_n (by decide)]
    · rw [zwA_n (by decide), zwA_n (by decide), g.1 67 (by decide) (by decide) (by decide), zwA_n (by decide)]
    · rw [zwA_n (by decide), zwA_n (by decide), g.1 68 (by decide) (by decide) (by decide), zwA_s]
    · rw [zwA_n (by decide), zwA_s, g.1 69 (by decide) (by decide) (by decide), zwA_n (by decide)]
  · obtain ⟨J, e, r, g⟩ := i2 q
    refine ⟨J, ?_, r, zyGR_tr g0 (zyGR_G g)⟩
    rw [e, zcI_some, zq_209_67, if_neg (not_not_intro rfl)]
/-- one clause -/
theorem zf209r {s : zQs} {T : Nat → Nat} {n : Nat} {Z : zyZ} {I : Nat → Nat → Int32} (he : Z.s.e = 0) (h : zyR0 T n Z.s I) (hM : zyMR Z I) :
    ((zycl T n Z).s.e = 0 → ∃ J, zf_209 [.ref 58] (zMk (s, I)) = some (.int 1, zMk (s, J)) ∧ zyR0 T n (zycl T n Z).s J ∧ zyMR (zycl T n Z) J ∧ zyGR I J) ∧
    ((zycl T n Z).s.e ≠ 0 → ∃ J, zf_209 [.ref 58] (zMk (s, I)) = some (.int 0, zMk (s, J)) ∧ J 58 12 = zyF (zycl T n Z).s.e ∧ zyGR I J) := by
  have x := zyR0_256 h
  obtain ⟨m1, m2, m3⟩ := id hM
  obtain ⟨a1, a2, a3, a4, a5, a6, a7, a8⟩ := id h
  by_cases hk : zyn T n Z.s = 110 ∨ zyn T n Z.s = 99
  case neg =>
    have hb : zyb T n Z = zyf 1 Z.s := if_pos ⟨fun q => hk (Or.inl q), fun q => hk (Or.inr q)⟩
    have n0 : (zyf 1 Z.s).e ≠ 0 := by
      rw [zyf_e he]
      show 1000 * 1 + _ ≠ 0
      omega
    have hz : (zycl T n Z).s = zyf 1 Z.s := by
      unfold zycl
      rw [if_neg (not_not_intro he), hb, if_pos n0]
      rfl
    obtain ⟨J3, e3, hN⟩ := zf192r s I (k := 1) (by decide) (show Z.s.p ≤ 160 by omega)
    have e3 : zf_192 [.ref 58, .int 1, .int (nI Z.s.p)] (zMk (s, I)) = _ := e3
    rw [hz]
    refine ⟨fun w => absurd w n0, fun _ => ⟨J3, ?_, ?_, zyGR_G hN.2⟩⟩
    · rw [zqz_209, zq_209_0, zf190q h, zcI_some, zq_209_2, if_neg (mt (zyI_110 x).mp (fun q => hk (Or.inl q))), if_neg (mt (zyI_99 x).mp (fun q => hk (Or.inr q))), a5, e3, zcI_some, zq_209_14, if_pos (Or.inl rfl)]
    · rw [zyf_e he]
      exact hN.1
  have hl : Z.s.p < n := (zyn_lt (T := T) (n := n) (S := Z.s) rfl (by omega)).1
  have st15 : zf_209 [.ref 58] (zMk (s, I)) = zQ_209 (15, [.ref 58, .int (zyI (zyn T n Z.s))], [], zMk (s, I)) := by
    rw [zqz_209, zq_209_0, zf190q h, zcI_some, zq_209_2]
    rcases hk with q | q
    · rw [if_pos ((zyI_110 x).mpr q)]
    · rw [if_neg (mt (zyI_110 x).mp (by omega)), if_pos ((zyI_99 x).mpr q)]
  by_cases hf : 12 ≤ Z.n
  · have hb : zyb T n Z = zyf 4 Z.s := by
      unfold zyb
      rw [if_neg (fun q => by rcases hk with a | a; exact q.1 a; exact q.2 a), if_pos hf]
    have n0 : (zyf 4 Z.s).e ≠ 0 := by
      rw [zyf_e he]
      show 1000 * 4 + _ ≠ 0
      omega
    have hz : (zycl T n Z).s = zyf 4 Z.s := by
      unfold zycl
      rw [if_neg (not_not_intro he), hb, if_pos n0]
      rfl
    obtain ⟨J3, e3, hN⟩ := zf192r s I (k := 4) (by decide) (show Z.s.p ≤ 160 by omega)
    have e3 : zf_192 [.ref 58, .int 4, .int (nI Z.s.p)] (zMk (s, I)) = _ := e3
    rw [hz]
    refine ⟨fun w => absurd w n0, fun _ => ⟨J3, ?_, ?_, zyGR_G hN.2⟩⟩
    · rw [st15, zq_209_15, m2, if_neg (not_not_intro (show nI Z.n = 12 by rw [show Z.n = 12 by omega]; rfl)), a5, e3, zcI_some, zq_209_24, if_pos (Or.inl rfl)]
    · rw [zyf_e he]
      exact hN.1
  have hb : zyb T n Z = Z.s := by
    unfold zyb
    rw [if_neg (fun q => by rcases hk with a | a; exact q.1 a; exact q.2 a), if_neg hf]
  have hz : zycl T n Z = (zyw T n (zyn T n Z.s) (zya Z.s), (fun j => if j = Z.n then decide (zyn T n Z.s = 110) else Z.k j), (fun j => if j = Z.n then (Z.s.m, (zyv T n (zyn T n Z.s) (zya Z.s)).m, (zyw T n (zyn T n Z.s) (zya Z.s)).m) else Z.q j), Z.n + 1) := by
    unfold zycl
    rw [if_neg (not_not_intro he), if_neg (by rw [hb]; exact not_not_intro he)]
  have z12 := zb_t (show Z.n < 12 by omega) (show Z.n < 2 ^ 31 by omega)
  have c12 : (nI Z.n).toNatClampNeg = Z.n := nI_clamp (by omega)
  -- sort and beginning noted
  have hI1 : ∃ I1 : Nat → Nat → Int32, I1 = zwA (zwA (zwA (zwA (zwA I 66 (upd (I 66) Z.n (zyI (zyn T n Z.s)))) 58 (upd (I 58) 10 (nI (Z.s.p + 1)))) 67 (upd (I 67) Z.n (nI Z.s.m))) 58 (upd (upd (I 58) 10 (nI (Z.s.p + 1))) 13 0)) 58 (upd (upd (upd (I 58) 10 (nI (Z.s.p + 1))) 13 0) 15 0) := ⟨_, rfl⟩
  obtain ⟨I1, hI1⟩ := hI1
  have k58 : I1 58 = upd (upd (upd (I 58) 10 (nI (Z.s.p + 1))) 13 0) 15 0 := by rw [hI1, zwA_s]
  have k66 : I1 66 = upd (I 66) Z.n (zyI (zyn T n Z.s)) := by rw [hI1, zwA_n (by decide), zwA_n (by decide), zwA_n (by decide), zwA_n (by decide), zwA_s]
  have k67 : I1 67 = upd (I 67) Z.n (nI Z.s.m) := by rw [hI1, zwA_n (by decide), zwA_n (by decide), zwA_s]
  have kr : ∀ r, r ≠ 58 → r ≠ 66 → r ≠ 67 → I1 r = I r := fun r u v w => by rw [hI1, zwA_n u, zwA_n u, zwA_n w, zwA_n u, zwA_n v]
  have g1 : zyGR I I1 := ⟨fun r u v => kr r u (by omega) (by omega), fun j u => by rw [k58, upd_at, if_neg (by omega), upd_at, if_neg (by omega), upd_at, if_neg (by omega)]⟩
  have i16 : I1 58 16 = nI Z.n := by rw [k58, upd_at, if_neg (by decide), upd_at, if_neg (by decide), upd_at, if_neg (by decide)]; exact m2
  have hR1 : zyR T n 0 [] (zya Z.s) I1 := by
    refine ⟨a1, ?_, ?_, hl, ?_, ?_, ?_, trivial, ?_, Nat.zero_le _, by show Z.s.m + 0 + 0 ≤ Z.s.p + 1; omega, (fun w hw => by cases hw), ?_⟩
    · rw [kr 63 (by decide) (by decide) (by decide)]; exact a2
    · rw [k58, upd_at, if_neg (by decide), upd_at, if_neg (by decide), upd_at, if_neg (by decide)]; exact a3
    · rw [k58, upd_at, if_neg (by decide), upd_at, if_neg (by decide), upd_at, if_pos rfl]; rfl
    · rw [k58, upd_at, if_neg (by decide), upd_at, if_neg (by decide), upd_at, if_neg (by decide)]; exact a6
    · rw [k58, upd_at, if_pos rfl]; rfl
    · rw [k58, upd_at, if_neg (by decide), upd_at, if_pos rfl]; rfl
    · rw [kr 64 (by decide) (by decide) (by decide)]; exact a8
  have e10 : I 58 10 + 1 = nI (Z.s.p + 1) := by rw [a5, nI_1]
  -- the rest, from where the price is read
  have rest : ∀ I2 : Nat → Nat → Int32, (zyu T n (zyn T n Z.s) (zya Z.s)).e = 0 → zyR T n 0 [] (zyu T n (zyn T n Z.s) (zya Z.s)) I2 → I2 58 16 = nI Z.n → I2 66 = I1 66 → I2 67 = I1 67 → I2 68 = I1 68 → I2 69 = I1 69 → zyGR I I2 → zf_209 [.ref 58] (zMk (s, I)) = (zcI (zf_208 [.ref 58] (zMk (s, zwA I2 68 (upd (I2 68) Z.n (nI (zyu T n (zyn T n Z.s) (zya Z.s)).m))))) fun v M => zQ_209 (67, [.ref 58, .int (zyI (zyn T n Z.s))], [.int v], M)) →
      ((zycl T n Z).s.e = 0 → ∃ J, zf_209 [.ref 58] (zMk (s, I)) = some (.int 1, zMk (s, J)) ∧ zyR0 T n (zycl T n Z).s J ∧ zyMR (zycl T n Z) J ∧ zyGR I J) ∧
      ((zycl T n Z).s.e ≠ 0 → ∃ J, zf_209 [.ref 58] (zMk (s, I)) = some (.int 0, zMk (s, J)) ∧ J 58 12 = zyF (zycl T n Z).s.e ∧ zyGR I J) := by
    intro I2 hu hR hi16 e66 e67 e68 e69 g hst
    obtain ⟨i1, i2⟩ := zlp209h (s := s) (Z := Z) (zyI (zyn T n Z.s)) (by omega) hu hR hi16
    rw [hst, hz]
    refine ⟨fun q => ?_, fun q => ?_⟩
    · obtain ⟨J, e, r, j16, j66, j67, j68, j69, gj⟩ := i1 q
      refine ⟨J, e, r, ⟨by show Z.n + 1 ≤ 12; omega, j16, fun i hi => ?_⟩, zyGR_tr g gj⟩
      have hi : i < Z.n + 1 := hi
      have hv : (zyv T n (zyn T n Z.s) (zya Z.s)).m = (zyu T n (zyn T n Z.s) (zya Z.s)).m := zyt_m T n 40 _
      show _ = (if (if i = Z.n then decide (zyn T n Z.s = 110) else Z.k i) = true then (110 : Int32) else 99) ∧ _ = nI (if i = Z.n then (Z.s.m, (zyv T n (zyn T n Z.s) (zya Z.s)).m, (zyw T n (zyn T n Z.s) (zya Z.s)).m) else Z.q i).1 ∧ _ = nI (if i = Z.n then (Z.s.m, (zyv T n (zyn T n Z.s) (zya Z.s)).m, (zyw T n (zyn T n Z.s) (zya Z.s)).m) else Z.q i).2.1 ∧ _ = nI (if i = Z.n then (Z.s.m, (zyv T n (zyn T n Z.s) (zya Z.s)).m, (zyw T n (zyn T n Z.s) (zya Z.s)).m) else Z.q i).2.2
      rw [hv, j66, j67, j68, j69, e66, e67, e68, e69, k66, k67, kr 68 (by decide) (by decide) (by decide), kr 69 (by decide) (by decide) (by decide), upd_at, upd_at, upd_at, upd_at]
      by_cases e : i = Z.n
      · rw [if_pos e, if_pos e, if_pos e, if_pos e, if_pos e, if_pos e]
        refine ⟨?_, rfl, rfl, rfl⟩
        rcases hk with a | a
        · rw [a]; rfl
        · rw [a]; rfl
      · rw [if_neg e, if_neg e, if_neg e, if_neg e, if_neg e, if_neg e]
        exact m3 i (by omega)
    · obtain ⟨J, e, r, gj⟩ := i2 q
      exact ⟨J, e, r, zyGR_tr g gj⟩
  by_cases q99 : zyn T n Z.s = 99
  · have hu : zyu T n (zyn T n Z.s) (zya Z.s) = zysu T n 8 0 (zya Z.s) := if_pos q99
    have st : zf_209 [.ref 58] (zMk (s, I)) = (zcI (zf_203 [.ref 58] (zMk (s, I1))) fun v M => zQ_209 (55, [.ref 58, .int (zyI (zyn T n Z.s))], [.int v], M)) := by
      rw [st15, zq_209_15, m2, if_pos (show ¬ nI Z.n = 12 from nI_ne (b := 12) (by omega) (by omega) (by decide)), if_pos z12, if_pos z12, c12, if_neg (not_not_intro ((zyI_99 x).mpr q99)), e10, a6, hI1]
    obtain ⟨c1, c2⟩ := zf203r (s := s) (o := 0) (show (zya Z.s).e = 0 from he) hR1 rfl (by decide) (zynt_0 2)
    by_cases q : (zysu T n 8 0 (zya Z.s)).e = 0
    · obtain ⟨I2, e2, r2, g2⟩ := c1 q
      refine rest I2 (by rw [hu]; exact q) (by rw [hu]; exact r2) (by rw [g2.2 16 (by decide) (by decide) (by decide) (by decide) (by decide) (by decide)]; exact i16) (g2.1 66 (by decide) (by decide) (by decide)) (g2.1 67 (by decide) (by decide) (by decide)) (g2.1 68 (by decide) (by decide) (by decide)) (g2.1 69 (by decide) (by decide) (by decide)) (zyGR_tr g1 (zyGR_G g2)) ?_
      rw [st, e2, zcI_some, zq_209_55, if_pos (by decide), g2.2 16 (by decide) (by decide) (by decide) (by decide) (by decide) (by decide), i16, if_pos z12, c12, r2.2.2.2.2.2.1, hu]
    · obtain ⟨I2, e2, r2, g2⟩ := c2 q
      have hw : (zycl T n Z).s.e = (zysu T n 8 0 (zya Z.s)).e := by
        rw [hz]
        show (zyw T n (zyn T n Z.s) (zya Z.s)).e = _
        rw [zyw_e (by rw [hu]; exact q), hu]
      rw [hw]
      refine ⟨fun w => absurd w q, fun _ => ⟨I2, ?_, r2, zyGR_tr g1 (zyGR_G g2)⟩⟩
      rw [st, e2, zcI_some, zq_209_55, if_neg (not_not_intro rfl)]
  · have hu : zyu T n (zyn T n Z.s) (zya Z.s) = zya Z.s := if_neg q99
    refine rest I1 (by rw [hu]; exact he) (by rw [hu]; exact hR1) i16 rfl rfl rfl rfl g1 ?_
    rw [st15, zq_209_15, m2, if_pos (show ¬ nI Z.n = 12 from nI_ne (b := 12) (by omega) (by omega) (by decide)), if_pos z12, if_pos z12, c12, if_pos (mt (zyI_99 x).mp q99), if_pos z12, e10, a6, hu, hI1]
    rfl
/-- all clauses, at pc 26 -/
theorem zlp210 {s : zQs} {T : Nat → Nat} {n : Nat} (x1 : Int32) (x3 : Value) : ∀ f Z I, Z.n + f = 13 → Z.s.e = 0 → zyR0 T n Z.s I → zyMR Z I →
    ((zyls T n f Z).s.e = 0 → ∃ J, zQ_210 (26, [.ref 58, .int x1, .int 1, x3], [], zMk (s, I)) = zQ_210 (45, [.ref 58, .int x1, .int 1, x3], [], zMk (s, J)) ∧ zyR0 T n (zyls T n f Z).s J ∧ zyMR (zyls T n f Z) J ∧ zyGR I J) ∧
    ((zyls T n f Z).s.e ≠ 0 → ∃ J, zQ_210 (26, [.ref 58, .int x1, .int 1, x3], [], zMk (s, I)) = zQ_210 (45, [.ref 58, .int x1, .int 0, x3], [], zMk (s, J)) ∧ J 58 12 = zyF (zyls T n f Z).s.e ∧ zyGR I J) := by
  intro f
  induction f with
  | zero =>
    intro Z I hf he h hM
    have := hM.1
    omega
  | succ f ih =>
    intro Z I hf he h hM
    have x := zyR0_256 h
    obtain ⟨a1, a2, a3, a4, a5, a6, a7, a8⟩ := id h
    by_cases hl : Z.s.p < n
    case neg =>
      rw [zyls_s, if_neg (show ¬ (Z.s.e = 0 ∧ Z.s.p < n) from fun q => hl q.2)]
      refine ⟨fun _ => ⟨I, ?_, h, hM, fun _ _ _ => rfl, fun _ _ => rfl⟩, fun w => absurd he w⟩
      rw [zq_210_26, if_neg (by decide), a3, a5, if_pos (nI_le (by omega) (by omega))]
    rw [zyls_s, if_pos (show Z.s.e = 0 ∧ Z.s.p < n from ⟨he, hl⟩)]
    have st : zQ_210 (26, [.ref 58, .int x1, .int 1, x3], [], zMk (s, I)) = (zcI (zf_193 [.ref 58, .int 59] (zMk (s, I))) fun v M => zQ_210 (36, [.ref 58, .int x1, .int 1, x3], [.int v], M)) := by
      rw [zq_210_26, if_neg (by decide), a3, a5, if_neg (nI_ge hl (by omega))]
    rw [st]
    by_cases q59 : zyn T n Z.s = 59
    case neg =>
      have hz : zyt T n 59 Z.s = zyf 1 Z.s := zyt_odd (by decide) he q59
      have n0 : (zyf 1 Z.s).e ≠ 0 := by
        rw [zyf_e he]
        show 1000 * 1 + _ ≠ 0
        omega
      have hz2 : zycl T n (zyt T n 59 Z.s, Z.2) = (zyf 1 Z.s, Z.2) := by
        rw [hz]
        exact if_pos n0
      have hz3 : zyls T n f (zyf 1 Z.s, Z.2) = (zyf 1 Z.s, Z.2) := by
        cases f with
        | zero => rfl
        | succ f => rw [zyls_s, if_neg (show ¬ ((zyZ.s (zyf 1 Z.s, Z.2)).e = 0 ∧ (zyZ.s (zyf 1 Z.s, Z.2)).p < n) from fun q => n0 q.1)]
      obtain ⟨J3, e3, hN⟩ := zf192r s I (k := 1) (by decide) (show Z.s.p ≤ 160 by omega)
      have e3 : zf_192 [.ref 58, .int 1, .int (nI Z.s.p)] (zMk (s, I)) = _ := e3
      rw [hz2, hz3]
      refine ⟨fun w => absurd w n0, fun _ => ⟨J3, ?_, ?_, zyGR_G hN.2⟩⟩
      · rw [zqz_193, zq_193_0, zf190q h, zcI_some, zq_193_2, if_neg (mt (zyI_59 x).mp q59), a5, e3, zcI_some, zq_193_9, if_pos (Or.inl rfl), zcI_some, zq_210_36, if_pos rfl]
        rw [zq_210_26, if_pos rfl]
      · show J3 58 12 = zyF (zyf 1 Z.s).e
        rw [zyf_e he]
        exact hN.1
    have hz : zyt T n 59 Z.s = zya Z.s := zyt_fit he q59
    rw [hz]
    have e193 : zf_193 [.ref 58, .int 59] (zMk (s, I)) = some (.int 1, zMk (s, zwA I 58 (upd (I 58) 10 (nI (Z.s.p + 1))))) := by
      rw [zqz_193, zq_193_0, zf190q h, zcI_some, zq_193_2, if_pos ((zyI_59 x).mpr q59), a5, nI_1]
    have g0 : zyGR I (zwA I 58 (upd (I 58) 10 (nI (Z.s.p + 1)))) := ⟨fun r a _ => zwA_n a, fun j a => by rw [zwA_s, upd_at, if_neg (by omega)]⟩
    have h' : zyR0 T n (zyZ.s (zya Z.s, Z.2)) (zwA I 58 (upd (I 58) 10 (nI (Z.s.p + 1)))) := by
      refine ⟨a1, ?_, ?_, hl, ?_, ?_, by show Z.s.m ≤ Z.s.p + 1; omega, ?_⟩
      · rw [zwA_n (by decide)]; exact a2
      · rw [zwA_s, upd_at, if_neg (by decide)]; exact a3
      · rw [zwA_s, upd_at, if_pos rfl]; rfl
      · rw [zwA_s, upd_at, if_neg (by decide)]; exact a6
      · rw [zwA_n (by decide)]; exact a8
    have hM' : zyMR ((zya Z.s, Z.2) : zyZ) (zwA I 58 (upd (I 58) 10 (nI (Z.s.p + 1)))) := by
      obtain ⟨m1, m2, m3⟩ := hM
      refine ⟨m1, by rw [zwA_s, upd_at, if_neg (by decide)]; exact m2, ?_⟩
      rw [zwA_n (by decide), zwA_n (by decide), zwA_n (by decide), zwA_n (by decide)]
      exact m3
    obtain ⟨i1, i2⟩ := zf209r (s := s) (Z := (zya Z.s, Z.2)) he h' hM'
    rw [e193, zcI_some, zq_210_36, if_neg (by decide)]
    by_cases q : (zycl T n (zya Z.s, Z.2)).s.e = 0
    · obtain ⟨J2, e2, r2, rM, g2⟩ := i1 q
      have hn1 : (zycl T n (zya Z.s, Z.2)).n = Z.n + 1 := by
        have a : (zyZ.s (zya Z.s, Z.2)).e = 0 := he
        unfold zycl at q ⊢
        rw [if_neg (not_not_intro a)] at q ⊢
        by_cases w : (zyb T n (zya Z.s, Z.2)).e ≠ 0
        · rw [if_pos w] at q
          exact absurd q w
        · rw [if_neg w]
          rfl
      obtain ⟨j1, j2⟩ := ih _ J2 (by omega) q r2 rM
      rw [e2, zcI_some, zq_210_39, if_neg (by decide)]
      have g := zyGR_tr g0 g2
      refine ⟨fun w => ?_, fun w => ?_⟩
      · obtain ⟨J, b1, b2, b3, b4⟩ := j1 w
        exact ⟨J, b1, b2, b3, zyGR_tr g b4⟩
      · obtain ⟨J, b1, b2, b3⟩ := j2 w
        exact ⟨J, b1, b2, zyGR_tr g b3⟩
    · obtain ⟨J2, e2, r2, g2⟩ := i2 q
      have hz3 : zyls T n f (zycl T n (zya Z.s, Z.2)) = zycl T n (zya Z.s, Z.2) := by
        cases f with
        | zero => rfl
        | succ f => rw [zyls_s, if_neg (show ¬ ((zycl T n (zya Z.s, Z.2)).s.e = 0 ∧ (zycl T n (zya Z.s, Z.2)).s.p < n) from fun w => q w.1)]
      rw [hz3, e2, zcI_some, zq_210_39, if_pos rfl]
      refine ⟨fun w => absurd w q, fun _ => ⟨J2, ?_, r2, zyGR_tr g0 g2⟩⟩
      rw [zq_210_26, if_pos rfl]
