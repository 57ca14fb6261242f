theorem zun_get {fa fb : Nat → Nat} {fs : Nat → Int32} {q v n : Nat} (h : (zfar fa fb fs n).2.2[q]? = some v) : ∀ d, (zfar fa fb fs (n + d)).2.2[q]? = some v
  | 0 => h
  | d + 1 => by
    have ih := zun_get h d
    rw [← Nat.add_assoc, zfar_3]
    split
    · rw [List.getElem?_append_left (List.getElem?_eq_some_iff.mp ih).1]; exact ih
    · exact ih
theorem zflag_01 (fa fb : Nat → Nat) (fs : Nat → Int32) (m : Nat) : zflag fa fb fs m = 1 ∨ zflag fa fb fs m = 0 := by
  unfold zflag
  split
  · exact Or.inl rfl
  · exact Or.inr rfl
theorem zcntA {s : zQs} {J : Nat → Nat → Int32} {F : Nat} {fa fb : Nat → Nat} {fs : Nat → Int32} (hF : F ≤ 30) (e5 : J 58 59 = nI F) (hf : ∀ m, m < F → J 102 m = zflag fa fb fs m) : ∀ d k, k + d = F → zQ_267 (11, [.ref 58, .int (-1), .int (nI (zfar fa fb fs k).2.2.length), .int (nI k)], [], zMk (s, J)) = some (.int (nI (zfar fa fb fs F).2.2.length), zMk (s, J))
  | 0, k, hk => by
    have hk : k = F := by omega
    subst hk
    rw [zq_267_11, e5, if_pos (nI_le (Nat.le_refl _) (by omega)), if_neg (not_not_intro rfl)]
  | d + 1, k, hk => by
    have hk' : k < F := by omega
    have ih := zcntA (s := s) hF e5 hf d (k + 1) (by omega)
    have hl : (zfar fa fb fs k).2.2.length ≤ k := zfar_len k
    rw [zq_267_11, e5, if_neg (nI_ge hk' (by omega)), zb_t (show k < 30 by omega) (by omega), if_pos rfl, nI_clamp (show k < 2 ^ 31 by omega), hf k hk']
    rcases zflag_01 fa fb fs k with h | h
    · have e1 : (zfar fa fb fs (k + 1)).2.2.length = (zfar fa fb fs k).2.2.length + 1 := by rw [zfar_3, if_pos h, List.length_append]; rfl
      have z1 : ¬ nI (zfar fa fb fs k).2.2.length = -1 := fun e => absurd (show nI (zfar fa fb fs k).2.2.length < 0 by rw [e]; decide) (nI_pos (by omega))
      rw [h, if_pos (by decide), if_pos z1, nI_1, nI_1, ← e1]
      exact ih
    · have e1 : (zfar fa fb fs (k + 1)).2.2.length = (zfar fa fb fs k).2.2.length := by rw [zfar_3, if_neg (by rw [h]; decide)]
      rw [h, if_neg (by decide), nI_1, ← e1]
      exact ih
def zor (o : Option Nat) : Int32 := match o with
  | some v => nI v
  | none => -1
theorem zcntB {s : zQs} {J : Nat → Nat → Int32} {F q : Nat} {fa fb : Nat → Nat} {fs : Nat → Int32} (hF : F ≤ 30) (hq : q < 2 ^ 31) (e5 : J 58 59 = nI F) (hf : ∀ m, m < F → J 102 m = zflag fa fb fs m) : ∀ d k, k + d = F → (zfar fa fb fs k).2.2.length ≤ q → zQ_267 (11, [.ref 58, .int (nI q), .int (nI (zfar fa fb fs k).2.2.length), .int (nI k)], [], zMk (s, J)) = some (.int (zor (zfar fa fb fs F).2.2[q]?), zMk (s, J))
  | 0, k, hk, hlq => by
    have hk : k = F := by omega
    subst hk
    have z1 : ¬ nI q = -1 := fun e => absurd (show nI q < 0 by rw [e]; decide) (nI_pos hq)
    rw [zq_267_11, e5, if_pos (nI_le (Nat.le_refl _) (by omega)), if_pos z1, List.getElem?_eq_none hlq]
    rfl
  | d + 1, k, hk, hlq => by
    have hk' : k < F := by omega
    have hl : (zfar fa fb fs k).2.2.length ≤ k := zfar_len k
    rw [zq_267_11, e5, if_neg (nI_ge hk' (by omega)), zb_t (show k < 30 by omega) (by omega), if_pos rfl, nI_clamp (show k < 2 ^ 31 by omega), hf k hk']
    rcases zflag_01 fa fb fs k with h | h
    · have e0 : (zfar fa fb fs (k + 1)).2.2 = (zfar fa fb fs k).2.2 ++ [k] := by rw [zfar_3, if_pos h]
      have e1 : (zfar fa fb fs (k + 1)).2.2.length = (zfar fa fb fs k).2.2.length + 1 := by rw [e0, List.length_append]; rfl
      rw [h, if_pos (by decide)]
      by_cases hc : (zfar fa fb fs k).2.2.length = q
      · rw [if_neg (not_not_intro (by rw [hc]))]
        have g : (zfar fa fb fs (k + 1)).2.2[q]? = some k := by rw [e0, ← hc]; exact List.getElem?_concat_length
        have g2 := zun_get g d
        rw [show k + 1 + d = F by omega] at g2
        rw [g2]
        rfl
      · rw [if_pos (nI_ne hc (by omega) hq), nI_1, nI_1, ← e1]
        exact zcntB hF hq e5 hf d (k + 1) (by omega) (by omega)
    · have e1 : (zfar fa fb fs (k + 1)).2.2.length = (zfar fa fb fs k).2.2.length := by rw [zfar_3, if_neg (by rw [h]; decide)]
      rw [h, if_neg (by decide), nI_1, ← e1]
      exact zcntB hF hq e5 hf d (k + 1) (by omega) (by omega)
theorem zp_false {s : zQs} {I : Nat → Nat → Int32} {st : zSt} (h : Rep st I) (x1 : Int32) : zPair s I st (zf_164 [.ref 0, .int x1]) (zf_267 [.ref 58, .int x1]) := by
  obtain ⟨⟨hv, ev⟩, ht, hk, hw, he, hf, hg, hta, hfa, hX⟩ := id h
  obtain ⟨t1, t2, t3, p, q, a, b, w, v, tp, ts⟩ := id ht
  obtain ⟨hF, eF1, eF2, hff, eU, h5, h7⟩ := id hfa
  have hb : ∀ k, k < st.F → st.fa k < 20 ∧ st.fb k < 20 := fun k hk => ⟨Nat.lt_of_lt_of_le (hff k hk).1 t1, Nat.lt_of_lt_of_le (hff k hk).2.1 t1⟩
  obtain ⟨J, e, j1, j2, j3⟩ := zlays0 (s := s) (I := I) (fs := st.fs) hF hb eF2 (fun k hk => (hff k hk).2.2)
  have hR : Rep st J := Rep_fr h (fun k _ => by rw [j1 58 (by decide) (by decide) (by decide)]) (j1 1 (by decide) (by decide) (by decide)) (by rw [j1 0 (by decide) (by decide) (by decide)]) (j1 20 (by decide) (by decide) (by decide)) (j1 30 (by decide) (by decide) (by decide)) (j1 42 (by decide) (by decide) (by decide)) (j1 54 (by decide) (by decide) (by decide)) (fun k hk => j1 k (by omega) (by omega) (by omega))
  have hK : zkeep I J := ⟨fun k hk => by
    have hk : (8 ≤ k ∧ k ≤ 14) ∨ (17 ≤ k ∧ k ≤ 18) ∨ (34 ≤ k ∧ k ≤ 40) ∨ (70 ≤ k ∧ k ≤ 74) ∨ 103 ≤ k := hk
    exact j1 k (by omega) (by omega) (by omega), by rw [j1 58 (by decide) (by decide) (by decide)]⟩
  have e5 : J 58 59 = nI st.F := by rw [j1 58 (by decide) (by decide) (by decide)]; exact eF2
  have hl : (zfar st.fa st.fb st.fs st.F).2.2.length ≤ st.F := zfar_len _
  by_cases hm : x1 = -1
  · subst hm
    refine zPair_mk (v := nI (zfar st.fa st.fb st.fs st.F).2.2.length) (I1 := I) st (zvers_rfl st) ?_ ?_ hR hK
    · rw [zqz_164, zq_164_0, if_neg (not_not_intro rfl), eU, zq_164_11]
    · rw [zqz_267, zq_267_0, if_pos (by decide), e, zcV_some, zq_267_7]
      exact zcntA hF e5 j3 st.F 0 (by omega)
  · by_cases h0 : x1 < 0
    · refine zPair_same h (v := -1) ?_ ?_
      · rw [zqz_164, zq_164_0, if_pos hm, zl_14, if_pos h0, zcI_some, zq_164_11]
      · have z : ¬ (-1 : Int32) ≤ x1 := fun w => hm (by
          have h0' := Int32.lt_iff_toInt_lt.mp h0
          have w' := Int32.le_iff_toInt_le.mp w
          rw [show (0 : Int32).toInt = 0 from rfl] at h0'
          rw [show (-1 : Int32).toInt = -1 from rfl] at w'
          exact Int32.toInt_inj.mp (by rw [show (-1 : Int32).toInt = -1 from rfl]; omega))
        rw [zqz_267, zq_267_0, if_neg z]
    · obtain ⟨j, hj, rfl⟩ := nI_of h0
      have z : (-1 : Int32) ≤ nI j := by
        rw [Int32.le_iff_toInt_le, nI_toInt hj, show (-1 : Int32).toInt = -1 from rfl]; omega
      refine zPair_mk (v := zor (zfar st.fa st.fb st.fs st.F).2.2[j]?) (I1 := I) st (zvers_rfl st) ?_ ?_ hR hK
      · rw [zqz_164, zq_164_0, if_pos hm, zl_14, if_neg h0, eU]
        by_cases hc : (zfar st.fa st.fb st.fs st.F).2.2.length ≤ j
        · rw [if_pos (nI_le hc hj), zcI_some, zq_164_11, List.getElem?_eq_none hc]; rfl
        · have hc' : j < (zfar st.fa st.fb st.fs st.F).2.2.length := by omega
          rw [if_neg (nI_ge hc' (by omega)), zb_t (show j < 30 by omega) hj, if_pos rfl, zcI_some, zq_164_11, nI_clamp hj, h7 j _ (List.getElem?_eq_getElem hc'), List.getElem?_eq_getElem hc']; rfl
      · rw [zqz_267, zq_267_0, if_pos z, e, zcV_some, zq_267_7]
        exact zcntB hF hj e5 j3 st.F 0 (by omega) (Nat.zero_le _)
