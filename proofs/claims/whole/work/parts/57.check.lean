/-! CHECK -/
theorem zby_255 : ∀ b, b < 256 → zby b &&& 255 = nI b ∧ nI b &&& 255 = nI b := by decide +kernel
/-- a number of the tape -/
def znm (tb : Nat → Nat) (i : Nat) : Nat → Int32
  | 0 => 0
  | k + 1 => (znm tb i k <<< ((8 : Int32) &&& 31)) ||| nI (tb (4 * i + k))
theorem zlp94 (s : zQs) {I : Nat → Nat → Int32} {T i : Nat} {tb : Nat → Nat} (hT : T ≤ 200) (eT : I 30 1 = nI T) (hb : ∀ j, j < T → tb j < 256 ∧ I 31 j = nI (tb j)) (hi : 4 * i + 4 ≤ T) : ∀ d k, k + d = 4 →
    zQ_94 (4, [.ref 30, .int (nI i), .int (znm tb i k), .int (nI k)], [], zMk (s, I)) = some (.int (znm tb i 4), zMk (s, I))
  | 0, k, h => by
    have h : k = 4 := by omega
    subst h
    rw [zq_94_4, if_pos (show (4 : Int32) ≤ nI 4 by decide)]
  | d + 1, k, h => by
    have hk : k < 4 := by omega
    obtain ⟨b1, b2⟩ := hb (4 * i + k) (by omega)
    have e : (4 : Int32) * nI i + nI k = nI (4 * i + k) := by rw [show (4 : Int32) * nI i = nI (4 * i) from nI_mul 4 i, nI_add]
    rw [zq_94_4, if_neg (show ¬ (4 : Int32) ≤ nI k from nI_ge (b := 4) hk (by decide)), e, zl_93, if_neg (nI_pos (by omega)), eT, if_neg (nI_ge (by omega) (by omega)), if_pos (zb_t (show 4 * i + k < 200 by omega) (by omega)), nI_clamp (show 4 * i + k < 2 ^ 31 by omega), b2, zcI_some, zq_94_17, (zby_255 _ b1).2, nI_1]
    exact zlp94 s hT eT hb hi d (k + 1) (by omega)
theorem zf94 (s : zQs) {I : Nat → Nat → Int32} {T i : Nat} {tb : Nat → Nat} (hT : T ≤ 200) (eT : I 30 1 = nI T) (hb : ∀ j, j < T → tb j < 256 ∧ I 31 j = nI (tb j)) (hi : 4 * i + 4 ≤ T) : zf_94 [.ref 30, .int (nI i)] (zMk (s, I)) = some (.int (znm tb i 4), zMk (s, I)) := by
  rw [zqz_94, zq_94_0]
  exact zlp94 s hT eT hb hi 4 0 rfl
theorem zlp272 (s : zQs) {I : Nat → Nat → Int32} {T i : Nat} {tb : Nat → Nat} (hT : T ≤ 200) (hb : ∀ j, j < T → tb j < 256 ∧ I 63 j = zby (tb j)) (hi : 4 * i + 4 ≤ T) : ∀ d k, k + d = 4 →
    zQ_272 (6, [.ref 58, .int (nI i), .int (znm tb i k), .int (nI (4 * i + k))], [], zMk (s, I)) = some (.int (znm tb i 4), zMk (s, I))
  | 0, k, h => by
    have h : k = 4 := by omega
    subst h
    have e : (4 : Int32) * nI i + 4 = nI (4 * i + 4) := by rw [show (4 : Int32) * nI i = nI (4 * i) from nI_mul 4 i]; exact nI_add _ 4
    rw [zq_272_6, e, if_pos (nI_le (Nat.le_refl _) (by omega))]
  | d + 1, k, h => by
    have hk : k < 4 := by omega
    obtain ⟨b1, b2⟩ := hb (4 * i + k) (by omega)
    have e : (4 : Int32) * nI i + 4 = nI (4 * i + 4) := by rw [show (4 : Int32) * nI i = nI (4 * i) from nI_mul 4 i]; exact nI_add _ 4
    rw [zq_272_6, e, if_neg (nI_ge (by omega) (by omega)), if_pos (zb_t (show 4 * i + k < 200 by omega) (by omega)), nI_clamp (show 4 * i + k < 2 ^ 31 by omega), b2, (zby_255 _ b1).1, nI_1]
    exact zlp272 s hT hb hi d (k + 1) (by omega)
theorem zf272 (s : zQs) {I : Nat → Nat → Int32} {T i : Nat} {tb : Nat → Nat} (hT : T ≤ 200) (hb : ∀ j, j < T → tb j < 256 ∧ I 63 j = zby (tb j)) (hi : 4 * i + 4 ≤ T) : zf_272 [.ref 58, .int (nI i)] (zMk (s, I)) = some (.int (znm tb i 4), zMk (s, I)) := by
  have e : (4 : Int32) * nI i = nI (4 * i) := nI_mul 4 i
  rw [zqz_272, zq_272_0, e]
  exact zlp272 s hT hb hi 4 0 rfl
/-- a cost as an answer -/
def zans (o : Option Nat) : Int32 := match o with
  | none => -2
  | some x => nI x
/-- the first wrong number from i on -/
def zwr (L : zLw) (st : zSt) (a n : Nat) : Nat → Nat → Int32
  | 0, i => if i = n then -1 else nI i
  | d + 1, i => if i = n then nI i else if znm st.tb i 4 = zans (zdc L st 0 a i) then zwr L st a n d (i + 1) else nI i
theorem zans_c {o : Option Nat} (h : ∀ x, o = some x → x ≤ 189981) (s : zQs) (I : Nat → Nat → Int32) : zf_173 [.int (nI (zC1 o))] (zMk (s, I)) = some (.int (zans o), zMk (s, I)) := by
  rw [zl_173]
  cases o with
  | none => rw [if_neg (show ¬ nI (zC1 none) < (100000000 : Int32) by decide)]; rfl
  | some x =>
    have := h x rfl
    rw [if_pos (show nI (zC1 (some x)) < (100000000 : Int32) from nI_lt (b := 100000000) (show x < 100000000 by omega) (by decide))]
    rfl
theorem zlp175 {L : zLw} {st : zSt} {s : zQs} {I : Nat → Nat → Int32} (hx : zXx st I) (hE : zEv L st s I) (hf : zFsh L st s I 0) {a n : Nat} (ha : a < st.P) (hn : 4 * n ≤ st.T) : ∀ d i, i + d = st.P → i ≤ n →
    zQ_175 (2, [.ref 0, .int (nI a), .int (nI n), .int (nI i)], [], zMk (s, I)) = some (.int (zwr L st a n d i), zMk (s, I)) := by
  have hP := zEv_P hE.1
  have p1 := zEv_p1 hE.1
  have hs := zEv_small (L := L) (s := s) hE.1
  obtain ⟨hT, eT1, eT2, hb⟩ := hx.2
  intro d
  induction d with
  | zero =>
    intro i h hin
    have h : i = st.P := by omega
    subst h
    rw [zq_175_2, p1]
    show _ = some (Value.int (if st.P = n then -1 else nI st.P), _)
    by_cases hc : st.P = n
    · rw [if_pos hc, if_pos (nI_le (by omega) (by omega)), if_pos (nI_le (by omega) (by omega))]
    · rw [if_neg hc, if_neg (nI_ge (by omega) (by omega)), if_pos (nI_le (Nat.le_refl _) (by omega))]
  | succ d ih =>
    intro i h hin
    have hi : i < st.P := by omega
    rw [zq_175_2, p1]
    show _ = some (Value.int (if i = n then nI i else if znm st.tb i 4 = zans (zdc L st 0 a i) then zwr L st a n d (i + 1) else nI i), _)
    by_cases hc : i = n
    · subst hc
      rw [if_pos rfl, if_pos (nI_le (Nat.le_refl _) (by omega)), if_neg (nI_ge hi (by omega))]
    · have e1 : zf_121 [.ref 16, .int (nI a), .int (nI i), .int 0] (zMk (s, I)) = _ := zf121 hE (l := 0) (by decide) hf ha hi
      rw [if_neg hc, if_neg (nI_ge (by omega) (by omega)), if_neg (nI_ge hi (by omega)), zf94 s hT eT1 (fun j hj => ⟨(hb j hj).1, (hb j hj).2.1⟩) (by omega), zcI_some, zq_175_14, e1, zcI_some, zq_175_20, zans_c (fun x hx => zdc_le hs hP ha hi hx), zcI_some, zq_175_21, nI_1]
      by_cases hv : znm st.tb i 4 = zans (zdc L st 0 a i)
      · rw [if_pos hv, if_pos hv]
        exact ih (i + 1) (by omega) (by omega)
      · rw [if_neg hv, if_neg hv]
/-- of the tape, what the reference still has of it -/
theorem zlp273 {L : zLw} {st st0 : zSt} {s : zQs} {a n : Nat} (ha : a < st.P) (hT : st0.T ≤ 200) (hn : 4 * n ≤ st0.T) (hb : ∀ j, j < st0.T → st0.tb j < 256) (hc : ∀ l a b, zdc L st l a b = zdc L st0 l a b) : ∀ d i (I : Nat → Nat → Int32) (x4 : Value), zRe L st s I → (∀ j, j < st0.T → I 63 j = zby (st0.tb j)) → i + d = st.P → i ≤ n →
    ∃ J, zQ_273 (21, [.ref 58, .int (nI a), .int (nI n), .int (nI i), x4], [], zMk (s, I)) = some (.int (zwr L st0 a n d i), zMk (s, J)) ∧ zScr I J := by
  intro d
  induction d with
  | zero =>
    intro i I x4 hE hI h hin
    have hP := zEv_P hE.1
    have p2 := zEv_p2 hE.1
    have h : i = st.P := by omega
    subst h
    refine ⟨I, ?_, zScr_rfl I⟩
    rw [zq_273_21, p2]
    show _ = some (Value.int (if st.P = n then -1 else nI st.P), _)
    rw [if_pos (nI_le (Nat.le_refl _) (by omega))]
    by_cases hc : st.P = n
    · rw [if_pos hc, if_pos (nI_le (by omega) (by omega))]
    · rw [if_neg hc, if_neg (nI_ge (by omega) (by omega))]
  | succ d ih =>
    intro i I x4 hE hI h hin
    have hP := zEv_P hE.1
    have p2 := zEv_p2 hE.1
    have hs := zEv_small (L := L) (s := s) hE.1
    have hi : i < st.P := by omega
    obtain ⟨J1, e1, j1, j2⟩ := zf220 hE (l := 0) (by decide) ha hi
    have e1 : zf_220 [.ref 58, .int (nI a), .int (nI i), .int 0] (zMk (s, I)) = some (.int (nI (zR1 (zdc L st 0 a i))), zMk (s, J1)) := e1
    have hJ1 : ∀ j, j < st0.T → J1 63 j = zby (st0.tb j) := fun j hj => by rw [j1 63 (by decide) (by decide) (by decide) (by decide) (by decide)]; exact hI j hj
    rw [zq_273_21, p2, if_neg (nI_ge hi (by omega)), e1, zcI_some, zq_273_30]
    show ∃ J, _ = some (Value.int (if i = n then nI i else if znm st0.tb i 4 = zans (zdc L st0 0 a i) then zwr L st0 a n d (i + 1) else nI i), _) ∧ _
    by_cases hcn : i = n
    · subst hcn
      rw [if_pos rfl, if_pos rfl]
      exact ⟨J1, rfl, zScr_Rs j1⟩
    · rw [if_neg hcn, if_neg (nI_ne hcn (by omega) (by omega)), zf272 s hT (fun j hj => ⟨hb j hj, hJ1 j hj⟩) (by omega), zcI_some, zq_273_37, nI_1, ← hc]
      have nx : ∀ x4, ∃ J, zQ_273 (21, [.ref 58, .int (nI a), .int (nI n), .int (nI (i + 1)), x4], [], zMk (s, J1)) = some (.int (zwr L st0 a n d (i + 1)), zMk (s, J)) ∧ zScr I J := by
        intro x4
        obtain ⟨J, e, j3⟩ := ih (i + 1) J1 x4 j2 hJ1 (by omega) (by omega)
        exact ⟨J, e, zScr_tr (zScr_Rs j1) j3⟩
      cases hd : zdc L st 0 a i with
      | none =>
        rw [if_neg (show ¬ nI (zR1 none) < (1000000000 : Int32) by decide)]
        by_cases hv : znm st0.tb i 4 = -2
        · rw [if_pos hv, if_pos (show znm st0.tb i 4 = zans none from hv)]
          exact nx _
        · rw [if_neg hv, if_neg (show ¬ znm st0.tb i 4 = zans none from hv)]
          exact ⟨J1, rfl, zScr_Rs j1⟩
      | some x =>
        have hx := zdc_le hs hP ha hi hd
        rw [if_pos (show nI (zR1 (some x)) < (1000000000 : Int32) from nI_lt (b := 1000000000) (show x < 1000000000 by omega) (by decide))]
        by_cases hv : znm st0.tb i 4 = nI x
        · rw [if_pos (show znm st0.tb i 4 = nI (zR1 (some x)) from hv), if_pos (show znm st0.tb i 4 = zans (some x) from hv)]
          exact nx _
        · rw [if_neg (show ¬ znm st0.tb i 4 = nI (zR1 (some x)) from hv), if_neg (show ¬ znm st0.tb i 4 = zans (some x) from hv)]
          exact ⟨J1, rfl, zScr_Rs j1⟩
/-- the tape is empty -/
theorem zEv_T0 {L : zLw} {st : zSt} {s : zQs} {I : Nat → Nat → Int32} (hE : zEv L st s I) : zEv L (st.T' 0) s (zwA (zwA I 30 (upd (I 30) 1 0)) 58 (upd (I 58) 9 0)) := by
  obtain ⟨⟨hv, ht, hk, hw, he, hf, hg, -, hfa, -⟩, hL, hy⟩ := hE
  refine ⟨⟨?_, ?_, ?_, ?_, ?_, ?_, ?_, ?_, ?_, ?_⟩, ?_, ?_⟩
  · simp [zwA_at, upd_at]; exact hv
  · simp [zwA_at, upd_at]; exact ht
  · simp [zwA_at, upd_at]; exact hk
  · simp [zwA_at, upd_at]; exact hw
  · simp [zwA_at, upd_at]; exact he
  · simp [zwA_at, upd_at]; exact hf
  · simp [zwA_at, upd_at]; exact hg
  · trivial
  · simp [zwA_at, upd_at]; exact hfa
  · trivial
  · refine zLaw_keep hL ⟨fun k hk => ?_, by simp [zwA_at, upd_at]⟩
    have hk : (8 ≤ k ∧ k ≤ 14) ∨ (17 ≤ k ∧ k ≤ 18) ∨ (34 ≤ k ∧ k ≤ 40) ∨ (70 ≤ k ∧ k ≤ 74) ∨ 103 ≤ k := hk
    rw [zwA_n (by omega), zwA_n (by omega)]
  · have : zkeep I (zwA (zwA I 30 (upd (I 30) 1 0)) 58 (upd (I 58) 9 0)) := ⟨fun k hk => by
      have hk : (8 ≤ k ∧ k ≤ 14) ∨ (17 ≤ k ∧ k ≤ 18) ∨ (34 ≤ k ∧ k ≤ 40) ∨ (70 ≤ k ∧ k ≤ 74) ∨ 103 ≤ k := hk
      rw [zwA_n (by omega), zwA_n (by omega)], by simp [zwA_at, upd_at]⟩
    exact zWy_keep hy this (Or.inr ⟨rfl, rfl, rfl, rfl, rfl, rfl, rfl, rfl⟩)
theorem zp_check {L : zLw} {st : zSt} {s : zQs} {I : Nat → Nat → Int32} (hE : zEv L st s I) (hx : zXx st I) (x1 x2 : Int32) : zPr L st s I (zf_169 [.ref 0, .int x1, .int x2]) (zf_273 [.ref 58, .int x1, .int x2]) := by
  have hP := zEv_P hE.1
  have p1 := zEv_p1 hE.1
  have p2 := zEv_p2 hE.1
  obtain ⟨hT, eT1, eT2, hb⟩ := hx.2
  have d1 : nI st.T / 4 = nI (st.T / 4) := nI_div st.T 4 (by omega) (by decide)
  by_cases h1 : zlt x1 st.P
  case neg =>
    refine zPr_same hE (v := -2) ?_ ?_
    · rw [zqz_169, zq_169_0, isP1_f p1 hP h1, zcI_some, zq_169_4, if_pos rfl]
    · rw [zqz_273, zq_273_0, isP2_f p2 hP h1, zcI_some, zq_273_3, if_pos rfl]
  have hz90 : zf_90 [.ref 30] (zMk (s, I)) = some (.int (I 30 1), zMk (s, I)) := zl_90 s I
  by_cases h2 : zin x2 (st.T / 4)
  case neg =>
    refine zPr_same hE (v := -2) ?_ ?_
    · rw [zqz_169, zq_169_0, isP1_t p1 hP h1, zcI_some, zq_169_4, if_neg (by decide)]
      by_cases h0 : x2 < 0
      · rw [if_pos h0]
      · rw [if_neg h0, hz90, zcI_some, zq_169_11, eT1, d1, if_neg (fun q => h2 ((zin_iff (by omega)).mpr ⟨h0, Int32.not_lt.mpr q⟩))]
    · rw [zqz_273, zq_273_0, isP2_t p2 hP h1, zcI_some, zq_273_3, if_neg (by decide)]
      by_cases h0 : x2 < 0
      · rw [if_pos h0]
      · rw [if_neg h0, eT2, d1, if_neg (fun q => h2 ((zin_iff (by omega)).mpr ⟨h0, Int32.not_lt.mpr q⟩))]
  obtain ⟨s1, J1, e1, hE1, hF1, cv, hs1⟩ := zfresh0 hE
  have h1' := h1
  obtain ⟨a, ha, rfl⟩ := h1
  obtain ⟨n, hn, rfl⟩ := h2
  have cl := zlp175 (zXx_e hx (zXe_Cv cv)) hE1 hF1 (n := n) ha (by omega) st.P 0 (Nat.zero_add _) (Nat.zero_le _)
  have hE2 := zEv_T0 hE1
  obtain ⟨J2, e2, g2, hR2, hr2⟩ := zbegins hE2
  obtain ⟨hT1, eT3, eT4, hb1⟩ := (zXx_e hx (zXe_Cv cv)).2
  have hc : ∀ l a b, zdc L (st.T' 0) l a b = zdc L st l a b := by
    intro l a b
    unfold zdc
    rw [show (st.T' 0).S = st.S from rfl, show (st.T' 0).P = st.P from rfl, zcs_town (L := L) (st := st) (st' := st.T' 0) (l := l) rfl rfl rfl rfl rfl]
  obtain ⟨J3, e3, g3⟩ := zlp273 (L := L) (st := st.T' 0) (st0 := st) (s := s1) (a := a) (n := n) ha hT (by omega) (fun j hj => (hb j hj).1) hc st.P 0 J2 (.long 0) hR2 (fun j hj => by
    rw [hr2 63 (by decide), zwA_n (by decide), zwA_n (by decide)]
    exact (hb1 j hj).2.2) (Nat.zero_add _) (Nat.zero_le _)
  refine ⟨zwr L st a n st.P 0, s1, zwA J1 30 (upd (J1 30) 1 0), s1, J3, L, st.T' 0, ?_, ?_, zEv_Scr hE2 (zScr_tr g2 g3), fun q => ?_, Nat.le_succ _⟩
  rotate_left 2
  · have h1 := zXx_e q (zXe_Cv cv)
    have h2 := zXe_Scr (zScr_tr g2 g3)
    refine ⟨⟨h1.1.1, h2.1.trans ?_, h2.2.1.trans ?_⟩, ?_⟩
    · rw [zwA_n (by decide), zwA_n (by decide)]; exact h1.1.2.1
    · rw [zwA_s, upd_at, if_neg (by decide)]; exact h1.1.2.2
    · exact ⟨Nat.zero_le _, h2.2.2.1.trans (by rw [zwA_n (by decide), zwA_s, upd_at, if_pos rfl]; rfl), h2.2.2.2.1.trans (by rw [zwA_s, upd_at, if_pos rfl]; rfl), fun j hj => absurd hj (Nat.not_lt_zero j)⟩
  · have f175 : zf_175 [.ref 0, .int (nI a), .int (nI n)] (zMk (s1, J1)) = some (.int (zwr L st a n st.P 0), zMk (s1, J1)) := by
      rw [zqz_175, zq_175_0]
      exact cl
    rw [zqz_169, zq_169_0, isP1_t p1 hP h1', zcI_some, zq_169_4, if_neg (by decide), if_neg (nI_pos (by omega)), hz90, zcI_some, zq_169_11, eT1, d1, if_pos (nI_le hn (by omega)), e1, zcV_some, zq_169_20, f175, zcI_some, zq_169_24, zl_95, zcV_some, zq_169_28]
  · have q2 : (zwA J1 30 (upd (J1 30) 1 0)) 58 0 = nI st.P := by rw [zwA_n (by decide)]; exact zEv_p2 hE1.1
    have eT5 : (zwA J1 30 (upd (J1 30) 1 0)) 58 9 = nI st.T := by rw [zwA_n (by decide)]; exact eT4
    have e58 : (zwA J1 30 (upd (J1 30) 1 0)) 58 = J1 58 := zwA_n (by decide)
    rw [zqz_273, zq_273_0, isP2_t q2 hP h1', zcI_some, zq_273_3, if_neg (by decide), if_neg (nI_pos (by omega)), eT5, d1, if_pos (nI_le hn (by omega)), e58, e2, zcV_some, zq_273_19]
    exact e3
