/-! SHOPS THAT CHOOSE THEMSELVES: THE CALL -/
theorem zr258 {st : zSt} {s : zQs} {K : Nat → Nat → Int32} {x3 : Int32} {n v : Nat} (hn : 2 ≤ n ∧ n ≤ 3) (hv : v < 2 ^ 31) (hm : zin x3 (n - 1) ∨ zin (x3 - 10) (n - 1) ∨ x3 = 20) (hlt : v < 20 ^ n) : zf_258 [.ref 58, .int (nI v), .int (nI n), .int x3] (zMk (s, K)) = zQ_258 (41, [.ref 58, .int (nI v), .int (nI n), .int x3, .int (nI v), .int 0, .long 0, .long 0], [], zMk (s, zwA K 58 (upd (K 58) 57 (nI n)))) := by
  have h2 : ¬ nI n < (2 : Int32) := nI_nlt (a := n) (b := 2) hn.1 (by omega)
  have h3 : ¬ (3 : Int32) < nI n := nI_nlt (a := 3) (b := n) hn.2 (by decide)
  have em : nI n - 1 = nI (n - 1) := nI_sub (a := n) (b := 1) (by omega)
  have e14 : zf_258 [.ref 58, .int (nI v), .int (nI n), .int x3] (zMk (s, K)) = zQ_258 (14, [.ref 58, .int (nI v), .int (nI n), .int x3, .long 0, .long 0, .long 0, .long 0], [.int 1], zMk (s, K)) := by
    rw [zqz_258, zq_258_0, zl_179, if_neg h2, if_neg h3, zcI_some, zq_258_4, if_neg (by decide)]
    by_cases q : n = 2
    · subst q
      rw [if_neg (not_not_intro (show nI 2 = 2 from rfl)), zl_179, if_neg (nI_pos hv), if_neg (show ¬ (399 : Int32) < nI v from nI_nlt (a := 399) (b := v) (by omega) (by decide)), zcI_some]
    · have q : n = 3 := by omega
      subst q
      rw [if_pos (show ¬ nI 3 = 2 by decide), zl_179, if_neg (nI_pos hv), if_neg (show ¬ (7999 : Int32) < nI v from nI_nlt (a := 7999) (b := v) (by omega) (by decide)), zcI_some]
  rw [e14, zq_258_14, if_neg (by decide), em]
  by_cases a : zin x3 (n - 1)
  · rw [in_t (n - 1) rfl (by omega) a, zcI_some, zq_258_21, if_pos (show ¬ (1 : Int32) = 0 by decide)]
  · rw [in_f (n - 1) rfl (by omega) a, zcI_some, zq_258_21, if_neg (not_not_intro rfl), show (9 : Int32) + nI n = nI (9 + n) from nI_add 9 n, zl_179]
    by_cases b : zin (x3 - 10) (n - 1)
    · obtain ⟨k, hk, rfl⟩ := (zsub10 (by omega)).mp b
      rw [if_neg (show ¬ nI (10 + k) < (10 : Int32) from nI_nlt (a := 10 + k) (b := 10) (by omega) (by omega)), if_neg (nI_nlt (a := 9 + n) (b := 10 + k) (by omega) (by omega)), zcI_some, zq_258_28, if_pos (show ¬ (1 : Int32) = 0 by decide)]
    · have c : x3 = 20 := (hm.resolve_left a).resolve_left b
      subst c
      rw [if_neg (by decide), if_pos (show nI (9 + n) < (20 : Int32) from nI_lt (b := 20) (by omega) (by decide)), zcI_some, zq_258_28, if_neg (not_not_intro rfl), if_pos rfl]
