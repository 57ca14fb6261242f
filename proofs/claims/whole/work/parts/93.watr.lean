/-! WATER: THE REFERENCE -/
theorem zlp247i {L : zLw} {st : zSt} {s : zQs} {b : Nat → Nat} {w q len : Nat} {r : Nat → Nat} (hw : w < 20) (hq : q < 8) (hl : len ≤ 20) (hb : ∀ p, p < 20 → b p < 256) (hr : ∀ j, j < len → r j < 20) : ∀ d i (I : Nat → Nat → Int32), i + d = len → I 58 36 = nI len → (∀ j, j < len → I 80 j = nI (r j)) →
    (∀ p, p < 20 → I 95 p = nI (b p ||| (if zbr w r i p = true then 2 ^ q else 0))) →
    ∃ J x3', zQ_247 (47, [.ref 58, .int (nI w), .int (nI q), .int (nI (if zfil w r i = true then 1 else 0)), .int (nI i)], [], zMk (s, I)) = zQ_247 (14, [.ref 58, .int (nI w), .int (nI (q + 1)), x3', .int (nI len)], [], zMk (s, J)) ∧ (∀ k, k ≠ 95 → J k = I k) ∧ ∀ p, p < 20 → J 95 p = nI (b p ||| (if zbr w r len p = true then 2 ^ q else 0))
  | 0, i, I, h, h36, h80, h95 => by
    have h : i = len := by omega
    subst h
    refine ⟨I, .int (nI (if zfil w r i = true then 1 else 0)), ?_, fun _ _ => rfl, h95⟩
    rw [zq_247_47, h36, if_pos (nI_le (Nat.le_refl _) (by omega)), nI_1]
  | d + 1, i, I, h, h36, h80, h95 => by
    have hi : i < len := by omega
    have hri := hr i hi
    have nx := zlp247i (L := L) (st := st) (s := s) hw hq hl hb hr d (i + 1)
    have z21 := zb_t (show i < 21 by omega) (show i < 2 ^ 31 by omega)
    have ci : (nI i).toNatClampNeg = i := nI_clamp (by omega)
    have cr : (nI (r i)).toNatClampNeg = r i := nI_clamp (by omega)
    have zr := zb_t hri (show r i < 2 ^ 31 by omega)
    have e62 : zQ_247 (47, [.ref 58, .int (nI w), .int (nI q), .int (nI (if zfil w r i = true then 1 else 0)), .int (nI i)], [], zMk (s, I)) = zQ_247 (62, [.ref 58, .int (nI w), .int (nI q), .int (nI (if zfil w r i = true then 1 else 0)), .int (nI i)], [.int (nI (if zfil w r (i + 1) = true then 1 else 0))], zMk (s, I)) := by
      rw [zq_247_47, h36, if_neg (nI_ge hi (by omega)), zfil_s]
      cases zfil w r i with
      | true => rfl
      | false =>
        rw [if_neg (show ¬ ¬ nI (if false = true then 1 else 0) = 0 from not_not_intro rfl), if_pos z21, ci, h80 i hi]
        by_cases c : r i = w
        · rw [if_neg (not_not_intro (by rw [c])), decide_eq_true c]
          rfl
        · rw [if_pos (nI_ne c (by omega) (by omega)), decide_eq_false c]
          rfl
    rw [e62, zq_247_62, nI_1]
    by_cases hf : zfil w r (i + 1) = true
    · have up := zrow_up hq hb h95 hri hf
      obtain ⟨J, x3', e, j1, j2⟩ := nx (zwA I 95 (upd (I 95) (r i) (I 95 (r i) ||| ((1 : Int32) <<< (nI q &&& 31))))) (by omega) (by rw [zwA_n (by decide)]; exact h36) (fun j hj => by rw [zwA_n (by decide)]; exact h80 j hj) (by rw [zwA_s]; exact up)
      refine ⟨J, x3', ?_, fun k hk => (j1 k hk).trans (zwA_n hk), j2⟩
      rw [hf, if_pos rfl] at e
      rw [hf, if_pos rfl, if_neg (show ¬ nI 1 = 0 by decide), if_pos z21, if_pos z21, ci, h80 i hi, if_pos zr, if_pos zr, cr]
      exact e
    · have hf : zfil w r (i + 1) = false := by cases hx : zfil w r (i + 1) with
        | false => rfl
        | true => exact absurd hx hf
      obtain ⟨J, x3', e, j1, j2⟩ := nx I (by omega) h36 h80 (zrow_no h95 hf)
      refine ⟨J, x3', ?_, j1, j2⟩
      rw [hf, if_neg (show ¬ false = true by decide)] at e
      rw [hf, if_neg (show ¬ false = true by decide), if_pos (show nI 0 = 0 by decide)]
      exact e
theorem zlp247 {L : zLw} {st : zSt} {s : zQs} {F : Nat → Nat → Nat} (hF : zrws L st F) {w : Nat} (hw : w < 20) : ∀ d q (I : Nat → Nat → Int32) (x3 x4 : Value), q + d = st.Q → zRe L st s I → (∀ p, p < 20 → I 95 p = nI (zsts (fun q => zRR L st F w q p) q)) →
    ∃ J, zQ_247 (14, [.ref 58, .int (nI w), .int (nI q), x3, x4], [], zMk (s, I)) = some (.long 0, zMk (s, J)) ∧ zScr I J ∧ zRe L st s J ∧ ∀ p, p < 20 → J 95 p = nI (zsts (fun q => zRR L st F w q p) st.Q)
  | 0, q, I, x3, x4, h, hE, h95 => by
    have h : q = st.Q := by omega
    subst h
    obtain ⟨hQ, -, q2, -⟩ := hE.1.2.2.2.2.2.1
    refine ⟨I, ?_, zScr_rfl I, hE, h95⟩
    rw [zq_247_14, q2, if_pos (nI_le (Nat.le_refl _) (by omega))]
  | d + 1, q, I, x3, x4, h, hE, h95 => by
    have hP := zEv_P hE.1
    have hq : q < st.Q := by omega
    obtain ⟨hQ, -, q2, hfo⟩ := hE.1.2.2.2.2.2.1
    obtain ⟨f1, f2, f3, -, -, -, f4, f5, -⟩ := hfo q hq
    have zq8 := zb_t (show q < 8 by omega) (show q < 2 ^ 31 by omega)
    have cq : (nI q).toNatClampNeg = q := nI_clamp (by omega)
    obtain ⟨J1, e1, k1, k2, l0, -⟩ := zf219 hE (l := 0) (by decide) f1 f2
    have e1 : zf_219 [.ref 58, .int (nI (st.pf q)), .int (nI (st.pt q)), .int 0] (zMk (s, I)) = _ := e1
    have s85 : J1 85 = I 85 := k1 85 (by decide) (by decide) (by decide) (by decide) (by decide)
    have s86 : J1 86 = I 86 := k1 86 (by decide) (by decide) (by decide) (by decide) (by decide)
    have s95 : J1 95 = I 95 := k1 95 (by decide) (by decide) (by decide) (by decide) (by decide)
    have s58 : J1 58 = I 58 := k1 58 (by decide) (by decide) (by decide) (by decide) (by decide)
    have ste : zQ_247 (14, [.ref 58, .int (nI w), .int (nI q), x3, x4], [], zMk (s, I)) = zQ_247 (29, [.ref 58, .int (nI w), .int (nI q), x3, x4], [.int (nI (zk64 (zcs L st 0 st.S) st.P (st.pf q) (st.pt q)))], zMk (s, J1)) := by
      rw [zq_247_14, q2, if_neg (nI_ge hq (by omega)), if_pos zq8, if_pos zq8, cq, f4, f5, e1, zcI_some]
    rw [ste, zq_247_29]
    cases hz : zway (zcs L st 0 st.S) st.P (st.pf q) (st.pt q) with
    | none =>
      obtain ⟨w1, -⟩ := zway_n (zEv_small (L := L) (s := s) hE.1 0) hP f1 f2 hz
      obtain ⟨-, -, -, w2⟩ := zk_cost (L := L) (l := 0) (zEv_small (L := L) (s := s) hE.1) hP f1 f2
      obtain ⟨J, e, a, b, c⟩ := zlp247 hF hw d (q + 1) J1 x3 x4 (by omega) k2 (fun p hp => by
        rw [s95, h95 p hp]
        exact congrArg nI ((Nat.or_zero _).symm.trans (zsts_up (R := fun q p => zRR L st F w q p) (c := false) (by unfold zRR zlen; rw [hz]; rfl))))
      refine ⟨J, ?_, zScr_tr (zScr_Rs k1) a, b, c⟩
      rw [if_neg (show ¬ nI (zk64 (zcs L st 0 st.S) st.P (st.pf q) (st.pt q)) < 1000000000 from nI_nlt (b := 1000000000) w1 (by omega)), nI_1]
      exact e
    | some cs =>
      obtain ⟨C, S⟩ := cs
      obtain ⟨g0, g1⟩ := hF q hq C S hz
      obtain ⟨hS, hC, h64, -⟩ := zway_s (zEv_small (L := L) (s := s) hE.1 0) hP f1 f2 hz
      obtain ⟨J2, e2, a1, a2, a3, a4, a5, -⟩ := zwalkr k2 (l := 0) (by decide) l0 f1 f2 hz g0 g1
      have e2 : zf_222 [.ref 58, .int (nI (st.pf q)), .int (nI (st.pt q)), .int 0] (zMk (s, J1)) = _ := e2
      obtain ⟨J3, x3', e3, b1, b2⟩ := zlp247i (L := L) (st := st) (s := s) (b := fun p => zsts (fun q => zRR L st F w q p) q) (r := F q) hw (show q < 8 by omega) (show S + 1 ≤ 20 by omega) (fun p _ => zsts_256 _ (by omega)) (fun j hj => Nat.lt_of_lt_of_le (g1.2.1 j (by omega)) hP) (S + 1) 0 J2 (Nat.zero_add _) a3 (fun j hj => a4 j (by omega)) (fun p hp => by
        rw [a5 95 (by decide) (by decide), s95, h95 p hp]
        show _ = nI (_ ||| 0)
        rw [Nat.or_zero])
      have e3 : zQ_247 (47, [.ref 58, .int (nI w), .int (nI q), .int 0, .int 0], [], zMk (s, J2)) = _ := e3
      have sc3 : zScr J2 J3 := zScr_1 (k := 95) rfl b1
      obtain ⟨J, e, a, b, c⟩ := zlp247 hF hw d (q + 1) J3 x3' (.int (nI (S + 1))) (by omega) (zRe_fr a2 sc3 (b1 77 (by decide)) (b1 78 (by decide)) (b1 79 (by decide))) (fun p hp => by
        rw [b2 p hp]
        exact congrArg nI (zsts_up (R := fun q p => zRR L st F w q p) (by unfold zRR zlen; rw [hz])))
      refine ⟨J, ?_, zScr_tr (zScr_tr (zScr_Rs k1) (zScr_tr a1 sc3)) a, b, c⟩
      rw [if_pos (show nI (zk64 (zcs L st 0 st.S) st.P (st.pf q) (st.pt q)) < 1000000000 from nI_lt (b := 1000000000) (by omega) (by decide)), if_pos zq8, if_pos zq8, cq, s85, s86, f4, f5, e2, zcV_some, zq_247_43, e3]
      exact e
theorem zlp247z {s : zQs} {w : Nat} (x3 x4 : Value) : ∀ d p (I : Nat → Nat → Int32), p + d = 20 → (∀ j, j < p → I 95 j = 0) →
    ∃ J, zQ_247 (2, [.ref 58, .int (nI w), .int (nI p), x3, x4], [], zMk (s, I)) = zQ_247 (14, [.ref 58, .int (nI w), .int 0, x3, x4], [], zMk (s, J)) ∧ (∀ k, k ≠ 95 → J k = I k) ∧ ∀ j, j < 20 → J 95 j = 0
  | 0, p, I, h, h95 => by
    have h : p = 20 := by omega
    subst h
    refine ⟨I, ?_, fun _ _ => rfl, h95⟩
    rw [zq_247_2, if_pos (by decide)]
  | d + 1, p, I, h, h95 => by
    obtain ⟨J, e, a, b⟩ := zlp247z (s := s) (w := w) x3 x4 d (p + 1) (zwA I 95 (upd (I 95) p 0)) (by omega) (fun j hj => by
      rw [zwA_s, upd_at]
      split
      · rfl
      · exact h95 j (by omega))
    refine ⟨J, ?_, fun k hk => (a k hk).trans (zwA_n hk), b⟩
    rw [zq_247_2, if_neg (show ¬ (20 : Int32) ≤ nI p from nI_ge (b := 20) (by omega) (by decide)), if_pos (zb_t (show p < 20 by omega) (by omega)), nI_clamp (show p < 2 ^ 31 by omega), nI_1]
    exact e
theorem zf247 {L : zLw} {st : zSt} {s : zQs} {I : Nat → Nat → Int32} {F : Nat → Nat → Nat} (hF : zrws L st F) {w : Nat} (hw : w < 20) (hE : zRe L st s I) :
    ∃ J, zf_247 [.ref 58, .int (nI w)] (zMk (s, I)) = some (.long 0, zMk (s, J)) ∧ zScr I J ∧ zRe L st s J ∧ ∀ p, p < 20 → J 95 p = nI (zsts (fun q => zRR L st F w q p) st.Q) := by
  obtain ⟨J1, e1, a1, a2⟩ := zlp247z (s := s) (w := w) (.long 0) (.long 0) 20 0 I (Nat.zero_add _) (fun j hj => absurd hj (Nat.not_lt_zero j))
  have sc : zScr I J1 := zScr_1 (k := 95) rfl a1
  obtain ⟨J, e, b1, b2, b3⟩ := zlp247 hF hw st.Q 0 J1 (.long 0) (.long 0) (Nat.zero_add _) (zRe_fr hE sc (a1 77 (by decide)) (a1 78 (by decide)) (a1 79 (by decide))) (fun p hp => a2 p hp)
  refine ⟨J, ?_, zScr_tr sc b1, b2, b3⟩
  rw [zqz_247, zq_247_0]
  have e1 : zQ_247 (2, [.ref 58, .int (nI w), .int 0, .long 0, .long 0], [], zMk (s, I)) = _ := e1
  rw [e1]
  exact e
