/-! SHOPS THAT CHOOSE THEMSELVES: REFUSED; THE CALL -/
theorem zr258n {s : zQs} {K : Nat → Nat → Int32} {x3 : Int32} {n v : Nat} (hn : 2 ≤ n ∧ n ≤ 3) (hv : v < 2 ^ 31) (hm : ¬ (zin x3 (n - 1) ∨ zin (x3 - 10) (n - 1) ∨ x3 = 20) ∨ ¬ v < 20 ^ n) : zf_258 [.ref 58, .int (nI v), .int (nI n), .int x3] (zMk (s, K)) = some (.int (-1), zMk (s, K)) := by
  have h2 : ¬ nI n < (2 : Int32) := nI_nlt (a := n) (b := 2) hn.1 (by omega)
  have h3 : ¬ (3 : Int32) < nI n := nI_nlt (a := 3) (b := n) hn.2 (by decide)
  have em : nI n - 1 = nI (n - 1) := nI_sub (a := n) (b := 1) (by omega)
  by_cases hlt : v < 20 ^ n
  · have hm := hm.resolve_right (not_not_intro hlt)
    have e14 : zf_258 [.ref 58, .int (nI v), .int (nI n), .int x3] (zMk (s, K)) = zQ_258 (14, [.ref 58, .int (nI v), .int (nI n), .int x3, .long 0, .long 0, .long 0, .long 0], [.int 1], zMk (s, K)) := by
      rw [zqz_258, zq_258_0, zl_179, if_neg h2, if_neg h3, zcI_some, zq_258_4, if_neg (by decide)]
      by_cases q : n = 2
      · subst q
        rw [if_neg (not_not_intro (show nI 2 = 2 from rfl)), zl_179, if_neg (nI_pos hv), if_neg (show ¬ (399 : Int32) < nI v from nI_nlt (a := 399) (b := v) (by omega) (by decide)), zcI_some]
      · have q : n = 3 := by omega
        subst q
        rw [if_pos (show ¬ nI 3 = 2 by decide), zl_179, if_neg (nI_pos hv), if_neg (show ¬ (7999 : Int32) < nI v from nI_nlt (a := 7999) (b := v) (by omega) (by decide)), zcI_some]
    rw [e14, zq_258_14, if_neg (by decide), em, in_f (n - 1) rfl (by omega) (fun a => hm (Or.inl a)), zcI_some, zq_258_21, if_neg (not_not_intro rfl), show (9 : Int32) + nI n = nI (9 + n) from nI_add 9 n, zl_179]
    have c : ¬ x3 = 20 := fun a => hm (Or.inr (Or.inr a))
    by_cases b1 : x3 < 10
    · rw [if_pos b1, zcI_some, zq_258_28, if_neg (not_not_intro rfl), if_neg c]
    · rw [if_neg b1]
      by_cases b2 : nI (9 + n) < x3
      · rw [if_pos b2, zcI_some, zq_258_28, if_neg (not_not_intro rfl), if_neg c]
      · exfalso
        have b0 : ¬ x3 < 0 := fun q => b1 (Int32.lt_trans q (by decide))
        obtain ⟨k, hk, rfl⟩ := (zin_iff (P := 9 + n) (by omega)).mpr ⟨b0, b2⟩
        have k10 : 10 ≤ k := by
          by_cases q : 10 ≤ k
          · exact q
          · exact absurd (show nI k < (10 : Int32) from nI_lt (b := 10) (by omega) (by decide)) b1
        exact hm (Or.inr (Or.inl ((zsub10 (by omega)).mpr ⟨k - 10, by omega, by rw [show 10 + (k - 10) = k by omega]⟩)))
  · rw [zqz_258, zq_258_0, zl_179, if_neg h2, if_neg h3, zcI_some, zq_258_4, if_neg (by decide)]
    by_cases q : n = 2
    · subst q
      rw [if_neg (not_not_intro (show nI 2 = 2 from rfl)), zl_179, if_neg (nI_pos hv), if_pos (show (399 : Int32) < nI v from nI_lt (a := 399) (b := v) (by omega) hv), zcI_some, zq_258_14, if_pos rfl]
    · have q : n = 3 := by omega
      subst q
      rw [if_pos (show ¬ nI 3 = 2 by decide), zl_179, if_neg (nI_pos hv), if_pos (show (7999 : Int32) < nI v from nI_lt (a := 7999) (b := v) (by omega) hv), zcI_some, zq_258_14, if_pos rfl]
