/-! SHOPS THAT CHOOSE THEMSELVES: BOTH -/
theorem zp_them {L : zLw} {st : zSt} {s : zQs} {I : Nat → Nat → Int32} (hE : zEv L st s I) (x1 x2 x3 : Int32) : zPr L st s I (zf_159 [.ref 0, .int x1, .int x2, .int x3]) (zf_258 [.ref 58, .int x1, .int x2, .int x3]) := by
  have hP := zEv_P hE.1
  by_cases h2 : x2 < 2
  · refine zPr_same hE (v := -1) ?_ ?_
    · rw [zqz_159, zq_159_0, if_pos h2]
    · rw [zqz_258, zq_258_0, zl_179, if_pos h2, zcI_some, zq_258_4, if_pos rfl]
  by_cases h3 : 3 < x2
  · refine zPr_same hE (v := -1) ?_ ?_
    · rw [zqz_159, zq_159_0, if_neg h2, if_pos h3]
    · rw [zqz_258, zq_258_0, zl_179, if_neg h2, if_pos h3, zcI_some, zq_258_4, if_pos rfl]
  obtain ⟨n, n1, n3, rfl⟩ := zin1 (n := 3) (by decide) (fun q => h2 (Int32.lt_trans q (by decide))) h3
  have n2 : 2 ≤ n := by
    by_cases q : 2 ≤ n
    · exact q
    · exact absurd (show nI n < (2 : Int32) from nI_lt (a := n) (b := 2) (by omega) (by decide)) h2
  have hn : 2 ≤ n ∧ n ≤ 3 := ⟨n2, n3⟩
  have em : nI n - 1 = nI (n - 1) := nI_sub (a := n) (b := 1) (by omega)
  by_cases h0 : x1 < 0
  · refine zPr_same hE (v := -1) ?_ ?_
    · rw [zqz_159, zq_159_0, if_neg h2, if_neg h3, zf47_neg hn h0, zcI_some, zq_159_11, if_neg (not_not_intro rfl)]
    · rw [zqz_258, zq_258_0, zl_179, if_neg h2, if_neg h3, zcI_some, zq_258_4, if_neg (by decide), zl_179, zl_179, if_pos h0, if_pos h0, zcI_some]
      split <;> rw [zq_258_14, if_pos rfl]
  have hmax : ¬ nI (2 ^ 31 - 1) < x1 := by
    have a := Int32.toInt_lt x1
    intro q
    have q := Int32.lt_iff_toInt_lt.mp q
    rw [nI_toInt (by decide)] at q
    omega
  obtain ⟨v, hv, rfl⟩ := (zin_iff (P := 2 ^ 31 - 1) (by decide)).mpr ⟨h0, hmax⟩
  have hv : v < 2 ^ 31 := by omega
  obtain ⟨J0, e47, a1, -, a3⟩ := zlp47 (n := n) (s := s) hP n3 (nI v) n 0 v I (Nat.zero_add _) hv (zEv_p1 hE.1)
  have f47 : zf_47 [.ref 50, .int (nI v), .int (nI n)] (zMk (s, I)) = some (.int (zbnn (zog st.P n v)), zMk (s, J0)) := by
    rw [zqz_47, zq_47_0]
    exact e47
  have sc0 : zScr I J0 := zScr_1 (k := 52) rfl a1
  have hE0 := zEv_Scr hE sc0
  have c11 : zf_159 [.ref 0, .int (nI v), .int (nI n), .int x3] (zMk (s, I)) = zQ_159 (11, [.ref 0, .int (nI v), .int (nI n), .int x3, .long 0, .long 0, .long 0], [.int (zbnn (zog st.P n v))], zMk (s, J0)) := by
    rw [zqz_159, zq_159_0, if_neg h2, if_neg h3, f47, zcI_some]
  by_cases hm : zin x3 (n - 1) ∨ zin (x3 - 10) (n - 1) ∨ x3 = 20
  case neg =>
    refine zPr_mk (v := -1) (I1 := J0) (I2 := J0) ?_ (zr258n hn hv (Or.inl hm)) hE0 (zXe_Scr sc0)
    rw [c11, zq_159_11]
    cases zog st.P n v with
    | false => rw [if_neg (not_not_intro (show zbnn false = 0 from rfl))]
    | true => rw [if_pos (show ¬ zbnn true = 0 by decide), em, wi_f (n - 1) rfl (by omega) (fun q => hm (Or.inl q)), zcI_some, zq_159_19, em, wi_f (n - 1) rfl (by omega) (fun q => hm (Or.inr (Or.inl q))), zcI_some, zq_159_27, if_neg (not_not_intro rfl), if_neg (not_not_intro rfl), if_neg (fun q => hm (Or.inr (Or.inr q)))]
  by_cases hlt : v < 20 ^ n
  case neg =>
    have hf := zog_big (P := st.P) n v (by omega)
    refine zPr_mk (v := -1) (I1 := J0) (I2 := J0) ?_ (zr258n hn hv (Or.inr hlt)) hE0 (zXe_Scr sc0)
    rw [c11, zq_159_11, hf, if_neg (not_not_intro (show zbnn false = 0 from rfl))]
  cases hg : zog st.P n v with
  | false =>
    have scf : zScr J0 (zwA J0 58 (upd (J0 58) 57 (nI n))) := zScr_f rfl _
    obtain ⟨K1, k0, k1, -, -, k4⟩ := zlp258o (L := L) (st := st) (s := s) n3 (nI v) x3 (.long 0) (.long 0) n 0 v _ (Nat.zero_add _) hv hlt (zEv_Scr hE0 scf)
    refine zPr_mk (v := -1) (I1 := J0) (I2 := K1) ?_ ?_ k0 (zXe_Scr (zScr_tr sc0 (zScr_tr scf (zScr_1 (k := 96) rfl k1))))
    · rw [c11, zq_159_11, hg, if_neg (not_not_intro (show zbnn false = 0 from rfl))]
    · rw [zr258 (st := st) hn hv hm hlt]
      exact k4 hg
  | true =>
    obtain ⟨s1, J1, e42, hE1, hM1, xe1, h52⟩ := zf42 hE0
    have hS1 : zSr st (fun i => zdg i v) n (J1 52) := fun i hi => ⟨zog_dg n v hg i hi, by rw [h52 52 (Or.inl rfl)]; have := a3 hg i hi; rw [Nat.zero_add] at this; exact this⟩
    obtain ⟨J2, e48, b1, b2⟩ := zlp48 (L := L) (st := st) (s := s1) n3 20 0 J1 (fun i => zdg i v) (.long 0) (.long 0) rfl hE1 hM1 hS1
    have f48 : zf_48 [.ref 50, .int (nI n)] (zMk (s1, J1)) = some (.int (nI (zrn L st n 20 0 (fun i => zdg i v)).1), zMk (s1, J2)) := by
      rw [zqz_48, zq_48_0]
      exact e48
    have sc2 : zScr J1 J2 := zScr_1 (k := 52) rfl b1
    have hE2 := zEv_Scr hE1 sc2
    have scf : zScr J2 (zwA J2 58 (upd (J2 58) 57 (nI n))) := zScr_f rfl _
    obtain ⟨K1, k0, k1, -, k3, -⟩ := zlp258o (L := L) (st := st) (s := s1) n3 (nI v) x3 (.long 0) (.long 0) n 0 v _ (Nat.zero_add _) hv hlt (zEv_Scr hE2 scf)
    obtain ⟨⟨y4, k3⟩, k5⟩ := k3 hg
    obtain ⟨K2, e2, g2, hR2, r2⟩ := zbegins k0
    have h57 : K2 58 57 = nI n := by rw [r2 58 (by decide), k1 58 (by decide), zwA_s, upd_at, if_pos rfl]
    obtain ⟨K3, x7', e3, g3, hR3, hS3, hc⟩ := zlp258 (L := L) (st := st) (s := s1) n3 (nI v) x3 y4 20 0 K2 (fun i => zdg i v) (.long 0) rfl hR2 (fun i hi => ⟨zog_dg n v hg i hi, by rw [r2 96 (by decide)]; have := k5 i hi; rw [Nat.zero_add] at this; exact this⟩) h57
    have hmode : ∃ w1 w2 : Int32, ((∃ j, j < n ∧ x3 = nI j ∧ w1 = 1) ∨ (∃ j, j < n ∧ x3 = nI (10 + j) ∧ w1 = 0) ∨ (x3 = 20 ∧ w1 = 0)) ∧ zf_159 [.ref 0, .int (nI v), .int (nI n), .int x3] (zMk (s, I)) = zQ_159 (44, [.ref 0, .int (nI v), .int (nI n), .int x3, .int w1, .int w2, .long 0], [.int (nI (zrn L st n 20 0 (fun i => zdg i v)).1)], zMk (s1, J2)) := by
      have hb : ∃ w2, zf_171 [.int (x3 - 10), .int (nI (n - 1))] (zMk (s, J0)) = some (.int w2, zMk (s, J0)) ∧ (zin (x3 - 10) (n - 1) → w2 = 1) := by
        by_cases b : zin (x3 - 10) (n - 1)
        · exact ⟨1, wi_t (n - 1) rfl (by omega) b, fun _ => rfl⟩
        · exact ⟨0, wi_f (n - 1) rfl (by omega) b, fun q => absurd q b⟩
      obtain ⟨w2, ew2, hw2⟩ := hb
      by_cases a : zin x3 (n - 1)
      · refine ⟨1, w2, Or.inl ?_, ?_⟩
        · obtain ⟨j, hj, e⟩ := a
          exact ⟨j, by omega, e, rfl⟩
        · rw [c11, zq_159_11, hg, if_pos (show ¬ zbnn true = 0 by decide), em, wi_t (n - 1) rfl (by omega) a, zcI_some, zq_159_19, em, ew2, zcI_some, zq_159_27, if_pos (show ¬ (1 : Int32) = 0 by decide), e42, zcV_some, zq_159_40, f48, zcI_some]
      · refine ⟨0, w2, Or.inr ?_, ?_⟩
        · rcases hm with q | q | q
          · exact absurd q a
          · obtain ⟨k, hk, e⟩ := (zsub10 (by omega)).mp q
            exact Or.inl ⟨k, by omega, e, rfl⟩
          · exact Or.inr ⟨q, rfl⟩
        · rw [c11, zq_159_11, hg, if_pos (show ¬ zbnn true = 0 by decide), em, wi_f (n - 1) rfl (by omega) a, zcI_some, zq_159_19, em, ew2, zcI_some, zq_159_27, if_neg (not_not_intro rfl)]
          by_cases b : zin (x3 - 10) (n - 1)
          · rw [hw2 b, if_pos (show ¬ (1 : Int32) = 0 by decide), e42, zcV_some, zq_159_40, f48, zcI_some]
          · have c : x3 = 20 := (hm.resolve_left a).resolve_left b
            by_cases w0 : w2 = 0
            · rw [if_neg (not_not_intro w0), if_pos c, e42, zcV_some, zq_159_40, f48, zcI_some]
            · rw [if_pos w0, e42, zcV_some, zq_159_40, f48, zcI_some]
    obtain ⟨w1, w2, hw, ec⟩ := hmode
    obtain ⟨r, K4, d1, d2, d3⟩ := zthem_end (L := L) (st := st) (s := s1) (J := J2) (K := K3) (c := (zrn L st n 20 0 (fun i => zdg i v)).1) (x1 := nI v) (x3 := x3) (x4 := y4) (x5 := .long 0) (x7 := x7') n3 hc hE2 (zMt_n hM1 (b1 51 (by decide))) b2 hR3 hS3 (by rw [zR6_58 g3]; exact h57) w1 w2 hw
    have scA := zScr_tr scf (zScr_tr (zScr_1 (k := 96) rfl k1) (zScr_tr g2 (zScr_tr (zScr_R6 g3) (zScr_Rs d3))))
    refine zPr_mk (v := r) (s1 := s1) (I1 := J2) (I2 := K4) (ec.trans d1) ?_ (zEv_Scr hE2 scA) (zXe_tr (zXe_Scr sc0) (zXe_tr xe1 (zXe_Scr (zScr_tr sc2 scA))))
    rw [zr258 (st := st) hn hv hm hlt]
    refine k3.trans ?_
    rw [zq_258_41, if_pos (nI_le (Nat.le_refl _) (by omega)), e2, zcV_some, zq_258_68]
    exact e3.trans d2
