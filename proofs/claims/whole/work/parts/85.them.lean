/-! SHOPS THAT CHOOSE THEMSELVES, AS A CALL -/
theorem zsub10 {x : Int32} {m : Nat} (hm : m ≤ 2) : zin (x - 10) m ↔ ∃ k, k ≤ m ∧ x = nI (10 + k) := by
  constructor
  · rintro ⟨k, hk, e⟩
    refine ⟨k, hk, ?_⟩
    have : x = x - 10 + 10 := (Int32.sub_add_cancel x 10).symm
    rw [this, e, Nat.add_comm]
    exact nI_add k 10
  · rintro ⟨k, hk, rfl⟩
    refine ⟨k, hk, ?_⟩
    have := nI_sub (a := 10 + k) (b := 10) (by omega)
    rw [show 10 + k - 10 = k by omega] at this
    exact this
theorem zf47_neg {s : zQs} {I : Nat → Nat → Int32} {x1 : Int32} {n : Nat} (hn : 2 ≤ n ∧ n ≤ 3) (h : x1 < 0) : zf_47 [.ref 50, .int x1, .int (nI n)] (zMk (s, I)) = some (.int 0, zMk (s, I)) := by
  rw [zqz_47, zq_47_0, zq_47_4, if_neg (show ¬ nI n ≤ (0 : Int32) from nI_ge (a := 0) (by omega) (by omega)), if_neg (by decide), if_pos h]
/-- the end of the class, and of the reference -/
theorem zthem_end {L : zLw} {st : zSt} {s : zQs} {J K : Nat → Nat → Int32} {S : Nat → Nat} {n c : Nat} {x1 x3 x4 : Int32} {x5 x7 : Value} (hn : n ≤ 3) (hc : c ≤ 20) (hE : zEv L st s J) (hM : zMt L st J) (hS : zSr st S n (J 52)) (hR : zRe L st s K) (hK : zSr st S n (K 96)) (h57 : K 58 57 = nI n) (w1 w2 : Int32) (h1 : (∃ j, j < n ∧ x3 = nI j ∧ w1 = 1) ∨ (∃ j, j < n ∧ x3 = nI (10 + j) ∧ w1 = 0) ∨ (x3 = 20 ∧ w1 = 0)) :
    ∃ v K2, zQ_159 (44, [.ref 0, .int x1, .int (nI n), .int x3, .int w1, .int w2, x5], [.int (nI c)], zMk (s, J)) = some (.int v, zMk (s, J)) ∧ zQ_258 (105, [.ref 58, .int x1, .int (nI n), .int x3, .int x4, .int (nI c), .int (if c = 20 then 1 else 0), x7], [], zMk (s, K)) = some (.int v, zMk (s, K2)) ∧ zRs K K2 := by
  rcases h1 with ⟨j, hj, rfl, rfl⟩ | ⟨j, hj, rfl, rfl⟩ | ⟨rfl, rfl⟩
  · refine ⟨nI (S j), K, ?_, ?_, zRs_rfl K⟩
    · rw [zq_159_44, if_pos (show ¬ nI j = 20 from nI_ne (b := 20) (by omega) (by omega) (by decide)), if_neg (show ¬ (1 : Int32) = 0 by decide), zl_43, if_neg (nI_pos (by omega)), if_neg (show ¬ (3 : Int32) ≤ nI j from nI_ge (b := 3) (by omega) (by decide)), if_pos (zb_t (show j < 3 by omega) (by omega)), nI_clamp (show j < 2 ^ 31 by omega), zcI_some, zq_159_61, zq_159_69, (hS j hj).2]
    · rw [zq_258_105, if_neg (show ¬ (3 : Int32) ≤ nI j from nI_ge (b := 3) (by omega) (by decide)), if_pos (zb_t (show j < 3 by omega) (by omega)), nI_clamp (show j < 2 ^ 31 by omega), (hK j hj).2]
  · have e10 : nI (10 + j) - 10 = nI j := by
      have := nI_sub (a := 10 + j) (b := 10) (by omega)
      rw [show 10 + j - 10 = j by omega] at this
      exact this
    obtain ⟨K2, e, a, -⟩ := zf256 hn (nI j) hR hK h57
    refine ⟨nI (zco L st S n (nI j) st.Q), K2, ?_, ?_, a⟩
    · rw [zq_159_44, if_pos (show ¬ nI (10 + j) = 20 from nI_ne (b := 20) (by omega) (by omega) (by decide)), if_pos rfl, e10, zf50 hE.1 hM (nI j) hS hn, zcI_some, zq_159_69]
    · rw [zq_258_105, if_pos (show (3 : Int32) ≤ nI (10 + j) from nI_le (a := 3) (by omega) (by omega)), if_neg (show ¬ (20 : Int32) ≤ nI (10 + j) from nI_ge (b := 20) (by omega) (by decide)), e10, e, zcI_some, zq_258_121]
  · by_cases h20 : c = 20
    · subst h20
      refine ⟨-2, K, ?_, ?_, zRs_rfl K⟩
      · rw [zq_159_44, if_neg (not_not_intro rfl), if_neg (not_not_intro (show nI 20 = 20 from rfl))]
      · rw [zq_258_105, if_pos (by decide), if_pos (by decide), if_pos rfl, if_neg (by decide)]
    · refine ⟨nI c, K, ?_, ?_, zRs_rfl K⟩
      · rw [zq_159_44, if_neg (not_not_intro rfl), if_pos (show ¬ nI c = 20 from nI_ne (b := 20) h20 (by omega) (by decide))]
      · rw [zq_258_105, if_pos (by decide), if_pos (by decide), if_neg h20, if_pos rfl]
