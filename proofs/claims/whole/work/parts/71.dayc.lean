/-! A DAY: THE CLASS'S TABLE -/
theorem zlp1 (s : zQs) (v : Int32) : ∀ m k (I : Nat → Nat → Int32), k + m = 2048 → ∃ J, zQ_1 (5, [.ref 47, .int v, .int (nI k), .int 2048], [], zMk (s, I)) = some (.long 0, zMk (s, J)) ∧ (∀ r, r ≠ 47 → J r = I r) ∧ (∀ j, j < k → J 47 j = I 47 j) ∧ ∀ j, k ≤ j → j < 2048 → J 47 j = v
  | 0, k, I, h => by
    have h : k = 2048 := by omega
    subst h
    refine ⟨I, ?_, fun _ _ => rfl, fun _ _ => rfl, fun j a b => absurd a (by omega)⟩
    rw [zq_1_5, if_pos (show (2048 : Int32) ≤ nI 2048 by decide)]
  | m + 1, k, I, h => by
    obtain ⟨J, e, a1, a2, a3⟩ := zlp1 s v m (k + 1) (zwA I 47 (upd (I 47) k v)) (by omega)
    refine ⟨J, ?_, fun r hr => (a1 r hr).trans (zwA_n hr), fun j hj => (a2 j (by omega)).trans (by rw [zwA_s, upd_at, if_neg (by omega)]), fun j h1 h2 => ?_⟩
    · rw [zq_1_5, if_neg (show ¬ (2048 : Int32) ≤ nI k from nI_ge (b := 2048) (by omega) (by decide)), if_pos (zb_t (show k < 2048 by omega) (by omega)), nI_clamp (show k < 2 ^ 31 by omega), nI_1]
      exact e
    · by_cases hj : j = k
      · subst hj
        rw [a2 j (by omega), zwA_s, upd_at, if_pos rfl]
      · exact a3 j (by omega) h2
def zT47 (T : Nat → Nat → Option Nat) (I : Nat → Nat → Int32) : Prop := ∀ B e, B < 256 → e < 8 → I 47 (B * 8 + e) = nI (zC1 (T B e))
theorem zT47_cg {T U : Nat → Nat → Option Nat} {I : Nat → Nat → Int32} (h : zT47 T I) (g : ∀ B e, B < 256 → e < 8 → U B e = T B e) : zT47 U I := fun B e hB he => by rw [g B e hB he]; exact h B e hB he
theorem zT47_up {T U : Nat → Nat → Option Nat} {I : Nat → Nat → Int32} {A k : Nat} {v : Int32} (h : zT47 T I) (hA : A < 256) (hk : k < 8) (hv : v = nI (zC1 (U A k))) (g : ∀ B e, B < 256 → e < 8 → ¬ (B = A ∧ e = k) → U B e = T B e) : zT47 U (zwA I 47 (upd (I 47) (A * 8 + k) v)) := fun B e hB he => by
  rw [zwA_s, upd_at]
  by_cases hc : B = A ∧ e = k
  · obtain ⟨rfl, rfl⟩ := hc
    rw [if_pos rfl, hv]
  · rw [if_neg (fun q => hc (by omega)), g B e hB he hc]
    exact h B e hB he
def zgd (L : zLw) (st : zSt) (home A B e : Nat) : Option Nat := if B &&& st.E = B ∧ B.testBit e = true ∧ (B = 2 ^ e ∨ B - 2 ^ e < A) then zFd L st home B e else none
def zgp (L : zLw) (st : zSt) (home A n m B e : Nat) : Option Nat := if B &&& st.E = B ∧ B.testBit e = true ∧ B ≠ 2 ^ e ∧ B - 2 ^ e = A then zmf (zst1 L st A e (zFd L st home A)) (if e < m then n + 1 else n) else zgd L st home A B e
def zgs (L : zLw) (st : zSt) (home k B e : Nat) : Option Nat := if B = 2 ^ e ∧ e < k ∧ st.E.testBit e = true then zFd L st home (2 ^ e) e else none
theorem pow_in {E e : Nat} : ((2 ^ e) &&& E = 2 ^ e) ↔ E.testBit e = true := by
  constructor
  · intro h
    exact zset_b h e (by rw [Nat.testBit_two_pow]; simp)
  · intro h
    have := or_sub (A := 0) (X := E) (e := e) (Nat.zero_and E) h
    rw [Nat.zero_or] at this
    exact this
theorem pow_bit (e : Nat) : (2 ^ e).testBit e = true := by rw [Nat.testBit_two_pow]; simp
theorem zgs_8 {L : zLw} {st : zSt} {home B e : Nat} (hB : B < 256) (he : e < 8) : zgd L st home 1 B e = zgs L st home 8 B e := by
  unfold zgd zgs
  by_cases h : B = 2 ^ e
  · subst h
    by_cases hE : st.E.testBit e = true
    · rw [if_pos ⟨pow_in.mpr hE, pow_bit e, Or.inl rfl⟩, if_pos ⟨rfl, he, hE⟩]
    · rw [if_neg (fun q => hE (pow_in.mp q.1)), if_neg (fun q => hE q.2.2)]
  · rw [if_neg (show ¬ (B = 2 ^ e ∧ e < 8 ∧ st.E.testBit e = true) from fun q => h q.1), if_neg (show ¬ (B &&& st.E = B ∧ B.testBit e = true ∧ (B = 2 ^ e ∨ B - 2 ^ e < 1)) from fun q => by
      rcases q.2.2 with q3 | q3
      · exact h q3
      · obtain ⟨s1, s2, s3⟩ := sub_bit B hB e he q.2.1
        omega)]
theorem zlp85a {L : zLw} {st : zSt} {home : Nat} {s : zQs} (hh : home < st.P) : ∀ m k (I : Nat → Nat → Int32), k + m = 8 → zEv L st s I → zFx L st st.E s I → zT47 (zgs L st home k) I →
    ∃ J, zQ_85 (6, [.ref 42, .int (nI home), .int (nI k)], [], zMk (s, I)) = zQ_85 (39, [.ref 42, .int (nI home), .int (nI 1)], [], zMk (s, J)) ∧ (∀ r, r ≠ 47 → J r = I r) ∧ zT47 (zgs L st home 8) J
  | 0, k, I, h, hE, hF, hT => by
    have h : k = 8 := by omega
    subst h
    refine ⟨I, ?_, fun _ _ => rfl, hT⟩
    rw [zq_85_6, if_pos (show (8 : Int32) ≤ nI 8 by decide)]
    rfl
  | m + 1, k, I, h, hE, hF, hT => by
    have hk : k < 8 := by omega
    obtain ⟨g1, g2, g3, hee⟩ := hE.1.2.2.2.2.1
    rw [zq_85_6, if_neg (show ¬ (8 : Int32) ≤ nI k from nI_ge (b := 8) hk (by decide)), g2, bit_shr k hk _ g1]
    by_cases hb : st.E.testBit k = true
    · obtain ⟨q1, q2, q3, q4, -⟩ := hee k hk hb
      have f0 : zFsh L st s I 0 := hF 0 (by decide) (Nat.zero_and _)
      have e1 : zf_121 [.ref 16, .int (nI home), .int (nI (st.ea k)), .int 0] (zMk (s, I)) = _ := zf121 hE (l := 0) (by decide) f0 hh q1
      have ei : ((1 : Int32) <<< (nI k &&& 31)) * 8 + nI k = nI (2 ^ k * 8 + k) := by rw [bit_one k hk, show nI (2 ^ k) * 8 = nI (2 ^ k * 8) from nI_mul _ 8, nI_add]
      have := pow_256 k hk
      have sc : zScr I (zwA I 47 (upd (I 47) (2 ^ k * 8 + k) (nI (zC1 (zdc L st 0 home (st.ea k)))))) := zScr_w rfl _
      obtain ⟨J, e, j1, j2⟩ := zlp85a hh m (k + 1) _ (by omega) (zEv_Scr hE sc) (zFx_Scr hF sc) (zT47_up (U := zgs L st home (k + 1)) hT (pow_256 k hk) hk (by
        unfold zgs
        rw [if_pos ⟨rfl, Nat.lt_succ_self k, hb⟩, zFd_1 hk]) (fun B e hB he hn => by
        unfold zgs
        by_cases hc : B = 2 ^ e ∧ e < k ∧ st.E.testBit e = true
        · rw [if_pos hc, if_pos ⟨hc.1, by omega, hc.2.2⟩]
        · rw [if_neg hc, if_neg]
          rintro ⟨w1, w2, w3⟩
          by_cases ek : e = k
          · subst ek
            exact hn ⟨w1, rfl⟩
          · exact hc ⟨w1, by omega, w3⟩))
      refine ⟨J, ?_, fun r hr => (j1 r hr).trans (zwA_n hr), j2⟩
      rw [if_pos hb, if_neg (show ¬ (1 : Int32) = 0 by decide), if_pos (zb_t hk (by omega)), nI_clamp (show k < 2 ^ 31 by omega), q4, e1, zcI_some, ei, zq_85_34, if_pos (zb_t (show 2 ^ k * 8 + k < 2048 by omega) (by omega)), nI_clamp (show 2 ^ k * 8 + k < 2 ^ 31 by omega), nI_1]
      exact e
    · obtain ⟨J, e, j1, j2⟩ := zlp85a hh m (k + 1) I (by omega) hE hF (zT47_cg hT (fun B e hB he => by
        unfold zgs
        by_cases hc : B = 2 ^ e ∧ e < k ∧ st.E.testBit e = true
        · rw [if_pos hc, if_pos ⟨hc.1, by omega, hc.2.2⟩]
        · rw [if_neg hc, if_neg]
          rintro ⟨q1, q2, q3⟩
          by_cases ek : e = k
          · subst ek
            exact hb q3
          · exact hc ⟨q1, by omega, q3⟩))
      refine ⟨J, ?_, j1, j2⟩
      rw [if_neg hb, if_pos rfl, nI_1]
      exact e
theorem zC1_mn {o k : Option Nat} {u : Nat} (hu : u ≤ 50000000) (ho : ∀ x, o = some x → x ≤ 100000000) (hk : ∀ x, k = some x → x ≤ 189981) : (if nI u + nI (zC1 k) < nI (zC1 o) then nI u + nI (zC1 k) else nI (zC1 o)) = nI (zC1 (zmn o (zsm (some u) k))) := by
  have ho' : zC1 o ≤ 100000000 := by
    cases o with
    | none => exact Nat.le_refl _
    | some x => exact ho x rfl
  rw [nI_add]
  cases k with
  | none =>
    have e1 : zsm (some u) none = none := rfl
    rw [e1, zmn_n, if_neg (nI_nlt (show zC1 o ≤ u + zC1 none from Nat.le_trans ho' (Nat.le_add_left _ _)) (show u + zC1 none < 2 ^ 31 by show u + 100000000 < _; omega))]
  | some y =>
    have hy := hk y rfl
    have e2 : zC1 (some y) = y := rfl
    rw [e2]
    cases o with
    | none =>
      rw [if_pos (nI_lt (show u + y < zC1 none by show _ < 100000000; omega) (show zC1 none < 2 ^ 31 by decide))]
      rfl
    | some x =>
      have hx := ho x rfl
      have e3 : zC1 (some x) = x := rfl
      rw [e3]
      show _ = nI (min x (u + y))
      by_cases hc : u + y < x
      · rw [if_pos (nI_lt hc (by omega)), Nat.min_eq_right (by omega)]
      · rw [if_neg (nI_nlt (show x ≤ u + y by omega) (by omega)), Nat.min_eq_left (by omega)]
theorem zgp_A {L : zLw} {st : zSt} {home A n m : Nat} (hA : A < 256) (h0 : 0 < A) (hs : A &&& st.E = A) {e : Nat} (he : e < 8) : zgp L st home A n m A e = zFd L st home A e := by
  have : 0 < 2 ^ e := Nat.two_pow_pos e
  unfold zgp zgd
  rw [if_neg (fun q => by have := q.2.2.2; omega)]
  by_cases hb : A.testBit e = true
  · rw [if_pos ⟨hs, hb, Or.inr (by omega)⟩]
  · rw [if_neg (fun q => hb q.2.1), zFd_no (by simpa using hb)]
/-- one row of the table from one place on -/
theorem zlp86m {L : zLw} {st : zSt} {home A n u : Nat} {s : zQs} (hh : home < st.P) (hA : A < 256) (h0 : 0 < A) (hs : A &&& st.E = A) (hn : n < 8) (hu : zFd L st home A n = some u) : ∀ d m (I : Nat → Nat → Int32) (x6 : Value), m + d = 8 → zEv L st s I → zFx L st st.E s I → zT47 (zgp L st home A n m) I →
    ∃ J x5' x6', zQ_86 (24, [.ref 42, .int (nI A), .int (nI (zld st A)), .int (nI n), .int (nI u), .int (nI m), x6], [], zMk (s, I)) = zQ_86 (6, [.ref 42, .int (nI A), .int (nI (zld st A)), .int (nI (n + 1)), .int (nI u), x5', x6'], [], zMk (s, J)) ∧ (∀ r, r ≠ 47 → J r = I r) ∧ zT47 (zgp L st home A (n + 1) 0) J
  | 0, m, I, x6, h, hE, hF, hT => by
    have h : m = 8 := by omega
    subst h
    refine ⟨I, .int (nI 8), x6, ?_, fun _ _ => rfl, zT47_cg hT (fun B e hB he => ?_)⟩
    · rw [zq_86_24, if_pos (show (8 : Int32) ≤ nI 8 by decide), nI_1]
    · unfold zgp
      rw [if_pos he, if_neg (Nat.not_lt_zero e)]
  | d + 1, m, I, x6, h, hE, hF, hT => by
    have hm : m < 8 := by omega
    obtain ⟨g1, g2, g3, hee⟩ := hE.1.2.2.2.2.1
    have hsm := zEv_small (L := L) (s := s) hE.1
    have hP := zEv_P hE.1
    have hX : zEs st st.E := ⟨g1, fun _ _ h => h⟩
    have hea := zEs_ea hE.1 hX
    have hAn : A.testBit n = true := by
      cases q : A.testBit n with
      | true => rfl
      | false => rw [zFd_no q] at hu; cases hu
    have hu2 := zFd_le hsm hP hea hh 256 A n u hA hA hs hn hu
    rw [zq_86_24, if_neg (show ¬ (8 : Int32) ≤ nI m from nI_ge (b := 8) hm (by decide)), g2, nI_diff g1 hA, bit_shr m hm _ (zdiff_lt g1 A), zdiff_b _ A hm]
    by_cases hc : st.E.testBit m = true ∧ A.testBit m = false
    · obtain ⟨o1, o2⟩ := or_add A hA m hm hc.2
      obtain ⟨q1, q2, q3, q4, -⟩ := hee n hn (zset_b hs n hAn)
      obtain ⟨r1, r2, r3, r4, -⟩ := hee m hm hc.1
      have hp2 : 0 < 2 ^ m := Nat.two_pow_pos m
      have hl := zld_le hE.1 (zEs_sub hX hA hs)
      have hbit : (A ||| 2 ^ m).testBit m = true := by rw [Nat.testBit_or, Nat.testBit_two_pow]; simp
      have hne : A ||| 2 ^ m ≠ 2 ^ m := by omega
      have hcond : (A ||| 2 ^ m) &&& st.E = A ||| 2 ^ m ∧ (A ||| 2 ^ m).testBit m = true ∧ A ||| 2 ^ m ≠ 2 ^ m ∧ (A ||| 2 ^ m) - 2 ^ m = A := ⟨or_sub hs hc.1, hbit, hne, by omega⟩
      have hold : zgp L st home A n m (A ||| 2 ^ m) m = zmf (zst1 L st A m (zFd L st home A)) n := by
        unfold zgp
        rw [if_pos hcond, if_neg (Nat.lt_irrefl m)]
      have hnew : zgp L st home A n (m + 1) (A ||| 2 ^ m) m = zmn (zmf (zst1 L st A m (zFd L st home A)) n) (zsm (some u) (zdc L st (zld st A) (st.ea n) (st.ea m))) := by
        unfold zgp
        rw [if_pos hcond, if_pos (Nat.lt_succ_self m), zmf_s]
        unfold zst1
        rw [hu]
      have ho : ∀ x, zmf (zst1 L st A m (zFd L st home A)) n = some x → x ≤ 100000000 := fun x hx => by
        obtain ⟨j, hj, e⟩ := zmf_in n x hx
        obtain ⟨p, q, a, b, c⟩ := zsm_some e
        have hbj : A.testBit j = true := by
          cases w : A.testBit j with
          | true => rfl
          | false => rw [zFd_no w] at a; cases a
        have := zFd_le hsm hP hea hh 256 A j p hA hA hs (by omega) a
        have := zdc_le hsm hP (hea j (by omega) (zset_b hs j hbj)) r1 b
        omega
      have ei : (nI A ||| ((1 : Int32) <<< (nI m &&& 31))) * 8 + nI m = nI ((A ||| 2 ^ m) * 8 + m) := by rw [nI_or A hA m hm, show nI (A ||| 2 ^ m) * 8 = nI ((A ||| 2 ^ m) * 8) from nI_mul _ 8, nI_add]
      have e1 := zf121 hE (l := zld st A) (by omega) (hF A hA hs) q1 r1
      have sc := zScr_w (I := I) (k := 47) rfl (upd (I 47) ((A ||| 2 ^ m) * 8 + m) (nI (zC1 (zgp L st home A n (m + 1) (A ||| 2 ^ m) m))))
      obtain ⟨J, x5', x6', e, j1, j2⟩ := zlp86m hh hA h0 hs hn hu d (m + 1) _ (.int (nI ((A ||| 2 ^ m) * 8 + m))) (by omega) (zEv_Scr hE sc) (zFx_Scr hF sc) (zT47_up (U := zgp L st home A n (m + 1)) hT (show A ||| 2 ^ m < 256 by omega) hm rfl (fun B e hB he hnn => by
        unfold zgp
        by_cases hq : B &&& st.E = B ∧ B.testBit e = true ∧ B ≠ 2 ^ e ∧ B - 2 ^ e = A
        · rw [if_pos hq, if_pos hq]
          have hem : e ≠ m := fun w => by
            subst w
            obtain ⟨s1, s2, s3⟩ := sub_bit B hB e he hq.2.1
            exact hnn ⟨by omega, rfl⟩
          by_cases hlt : e < m
          · rw [if_pos hlt, if_pos (by omega)]
          · rw [if_neg hlt, if_neg (by omega)]
        · rw [if_neg hq, if_neg hq]))
      refine ⟨J, x5', x6', ?_, fun r hr => (j1 r hr).trans (zwA_n hr), j2⟩
      rw [hc.1, hc.2, if_pos (show (true && !false) = true from rfl), if_neg (show ¬ (1 : Int32) = 0 by decide), ei, if_pos (zb_t (show (A ||| 2 ^ m) * 8 + m < 2048 by omega) (by omega)), if_pos (zb_t hn (by omega)), if_pos (zb_t hm (by omega)), nI_clamp (show n < 2 ^ 31 by omega), nI_clamp (show m < 2 ^ 31 by omega), nI_clamp (show (A ||| 2 ^ m) * 8 + m < 2 ^ 31 by omega), q4, r4, e1, zcI_some, hT _ _ (show A ||| 2 ^ m < 256 by omega) hm, hold, zq_86_68, if_pos (zb_t (show (A ||| 2 ^ m) * 8 + m < 2048 by omega) (by omega)), zC1_mn (by omega) ho (fun x hx => zdc_le hsm hP q1 r1 hx), nI_clamp (show (A ||| 2 ^ m) * 8 + m < 2 ^ 31 by omega), nI_1, ← hnew]
      exact e
    · have hf : (st.E.testBit m && !A.testBit m) = false := by
        cases h1 : st.E.testBit m with
        | false => rfl
        | true =>
          cases h2 : A.testBit m with
          | true => rfl
          | false => exact absurd ⟨h1, h2⟩ hc
      obtain ⟨J, x5', x6', e, j1, j2⟩ := zlp86m hh hA h0 hs hn hu d (m + 1) I x6 (by omega) hE hF (zT47_cg hT (fun B e hB he => by
        unfold zgp
        by_cases hq : B &&& st.E = B ∧ B.testBit e = true ∧ B ≠ 2 ^ e ∧ B - 2 ^ e = A
        · rw [if_pos hq, if_pos hq]
          have hem : e ≠ m := fun w => by
            subst w
            obtain ⟨s1, s2, s3⟩ := sub_bit B hB e he hq.2.1
            rw [hq.2.2.2] at s1
            exact hc ⟨zset_b hq.1 e hq.2.1, s1⟩
          by_cases hlt : e < m
          · rw [if_pos hlt, if_pos (by omega)]
          · rw [if_neg hlt, if_neg (by omega)]
        · rw [if_neg hq, if_neg hq]))
      refine ⟨J, x5', x6', ?_, j1, j2⟩
      rw [hf, if_neg (show ¬ (false = true) by decide), if_pos rfl, nI_1]
      exact e
theorem zlp86 {L : zLw} {st : zSt} {home A : Nat} {s : zQs} (hh : home < st.P) (hA : A < 256) (h0 : 0 < A) (hs : A &&& st.E = A) : ∀ d n (I : Nat → Nat → Int32) (x4 x5 x6 : Value), n + d = 8 → zEv L st s I → zFx L st st.E s I → zT47 (zgp L st home A n 0) I →
    ∃ J, zQ_86 (6, [.ref 42, .int (nI A), .int (nI (zld st A)), .int (nI n), x4, x5, x6], [], zMk (s, I)) = some (.long 0, zMk (s, J)) ∧ (∀ r, r ≠ 47 → J r = I r) ∧ zT47 (zgd L st home (A + 1)) J
  | 0, n, I, x4, x5, x6, h, hE, hF, hT => by
    have h : n = 8 := by omega
    subst h
    refine ⟨I, ?_, fun _ _ => rfl, zT47_cg hT (fun B e hB he => ?_)⟩
    · rw [zq_86_6, if_pos (show (8 : Int32) ≤ nI 8 by decide)]
    · unfold zgp zgd
      by_cases hq : B &&& st.E = B ∧ B.testBit e = true ∧ B ≠ 2 ^ e ∧ B - 2 ^ e = A
      · rw [if_pos hq, if_neg (Nat.not_lt_zero e), if_pos ⟨hq.1, hq.2.1, Or.inr (by omega)⟩, zFd_s hq.2.1 hq.2.2.1, hq.2.2.2]
      · rw [if_neg hq]
        by_cases hr : B &&& st.E = B ∧ B.testBit e = true ∧ (B = 2 ^ e ∨ B - 2 ^ e < A)
        · rw [if_pos hr, if_pos ⟨hr.1, hr.2.1, hr.2.2.imp id (fun w => by omega)⟩]
        · rw [if_neg hr, if_neg]
          rintro ⟨w1, w2, w3⟩
          by_cases w4 : B = 2 ^ e
          · exact hr ⟨w1, w2, Or.inl w4⟩
          · have w5 := w3.resolve_left w4
            by_cases w6 : B - 2 ^ e = A
            · exact hq ⟨w1, w2, w4, w6⟩
            · exact hr ⟨w1, w2, Or.inr (by omega)⟩
  | d + 1, n, I, x4, x5, x6, h, hE, hF, hT => by
    have hn : n < 8 := by omega
    have g1 := hE.1.2.2.2.2.1.1
    have hsm := zEv_small (L := L) (s := s) hE.1
    have hP := zEv_P hE.1
    have hX : zEs st st.E := ⟨g1, fun _ _ h => h⟩
    have hea := zEs_ea hE.1 hX
    have ei : nI A * 8 + nI n = nI (A * 8 + n) := by rw [show nI A * 8 = nI (A * 8) from nI_mul _ 8, nI_add]
    have hcell := hT A n hA hn
    rw [zgp_A hA h0 hs hn] at hcell
    rw [zq_86_6, if_neg (show ¬ (8 : Int32) ≤ nI n from nI_ge (b := 8) hn (by decide)), ei, if_pos (zb_t (show A * 8 + n < 2048 by omega) (by omega)), nI_clamp (show A * 8 + n < 2 ^ 31 by omega), hcell]
    cases hu : zFd L st home A n with
    | none =>
      obtain ⟨J, e, j1, j2⟩ := zlp86 hh hA h0 hs d (n + 1) I (.int (nI (zC1 none))) x5 x6 (by omega) hE hF (zT47_cg hT (fun B e hB he => by
        unfold zgp
        by_cases hq : B &&& st.E = B ∧ B.testBit e = true ∧ B ≠ 2 ^ e ∧ B - 2 ^ e = A
        · rw [if_pos hq, if_pos hq, if_neg (Nat.not_lt_zero e), if_neg (Nat.not_lt_zero e), zmf_s]
          have : zst1 L st A e (zFd L st home A) n = none := by unfold zst1; rw [hu]; rfl
          rw [this, zmn_n]
        · rw [if_neg hq, if_neg hq]))
      refine ⟨J, ?_, j1, j2⟩
      rw [if_neg (show ¬ nI (zC1 none) < (100000000 : Int32) by decide), nI_1]
      exact e
    | some u =>
      have hu2 := zFd_le hsm hP hea hh 256 A n u hA hA hs hn hu
      obtain ⟨J1, x5', x6', e1, a1, a2⟩ := zlp86m hh hA h0 hs hn hu 8 0 I x6 rfl hE hF hT
      have sc : zScr I J1 := zScr_1 (k := 47) rfl a1
      obtain ⟨J, e, j1, j2⟩ := zlp86 hh hA h0 hs d (n + 1) J1 (.int (nI u)) x5' x6' (by omega) (zEv_Scr hE sc) (zFx_Scr hF sc) a2
      refine ⟨J, ?_, fun r hr => (j1 r hr).trans (a1 r hr), j2⟩
      rw [if_pos (show nI (zC1 (some u)) < (100000000 : Int32) from nI_lt (b := 100000000) (show u < 100000000 by omega) (by decide))]
      exact e1.trans e
theorem zlp85b {L : zLw} {st : zSt} {home : Nat} {s : zQs} (hh : home < st.P) : ∀ d A (I : Nat → Nat → Int32), A + d = 256 → 0 < A → zEv L st s I → zFx L st st.E s I → zT47 (zgd L st home A) I →
    ∃ J, zQ_85 (39, [.ref 42, .int (nI home), .int (nI A)], [], zMk (s, I)) = some (.long 0, zMk (s, J)) ∧ (∀ r, r ≠ 47 → J r = I r) ∧ ∀ B e, B < 256 → B &&& st.E = B → e < 8 → J 47 (B * 8 + e) = nI (zC1 (zFd L st home B e))
  | d, A, I, h, h0, hE, hF, hT => by
    obtain ⟨g1, g2, g3, hee⟩ := hE.1.2.2.2.2.1
    have hX : zEs st st.E := ⟨g1, fun _ _ h => h⟩
    by_cases hEA : st.E ≤ A
    · refine ⟨I, ?_, fun _ _ => rfl, fun B e hB hs he => ?_⟩
      · rw [zq_85_39, g2, if_pos (nI_le hEA (by omega))]
      · rw [hT B e hB he]
        congr 2
        have hBE : B ≤ st.E := by rw [← hs]; exact Nat.and_le_right
        unfold zgd
        by_cases hb : B.testBit e = true
        · obtain ⟨s1, s2, s3⟩ := sub_bit B hB e he hb
          have : 0 < 2 ^ e := Nat.two_pow_pos e
          rw [if_pos ⟨hs, hb, Or.inr (by omega)⟩]
        · rw [if_neg (fun q => hb q.2.1), zFd_no (by simpa using hb)]
    · cases d with
      | zero => exact absurd h (by omega)
      | succ d =>
        rw [zq_85_39, g2, if_neg (nI_ge (by omega) (by omega))]
        by_cases hs : A &&& st.E = A
        · obtain ⟨J1, e1, a1, a2⟩ := zlp86 hh (show A < 256 by omega) h0 hs 8 0 I (.long 0) (.long 0) (.long 0) rfl hE hF (zT47_cg hT (fun B e hB he => by
            unfold zgp
            by_cases hq : B &&& st.E = B ∧ B.testBit e = true ∧ B ≠ 2 ^ e ∧ B - 2 ^ e = A
            · rw [if_pos hq, if_neg (Nat.not_lt_zero e)]
              unfold zgd
              rw [if_neg]
              · rfl
              · rintro ⟨-, -, w | w⟩
                · exact hq.2.2.1 w
                · omega
            · rw [if_neg hq]))
          have sc : zScr I J1 := zScr_1 (k := 47) rfl a1
          have f86 : zf_86 [.ref 42, .int (nI A)] (zMk (s, I)) = some (.long 0, zMk (s, J1)) := by
            rw [zqz_86, zq_86_0, zf76 s hE.1 (zEs_sub hX (by omega) hs), zcI_some, zq_86_3]
            exact e1
          obtain ⟨J, e, j1, j2⟩ := zlp85b hh d (A + 1) J1 (by omega) (by omega) (zEv_Scr hE sc) (zFx_Scr hF sc) a2
          refine ⟨J, ?_, fun r hr => (j1 r hr).trans (a1 r hr), j2⟩
          rw [if_neg (not_not_intro (by rw [bit_sub _ g1 A (by omega)]; exact hs)), f86, zcV_some, zq_85_53, nI_1]
          exact e
        · obtain ⟨J, e, j1, j2⟩ := zlp85b hh d (A + 1) I (by omega) (by omega) hE hF (zT47_cg hT (fun B e hB he => by
            unfold zgd
            by_cases hr : B &&& st.E = B ∧ B.testBit e = true ∧ (B = 2 ^ e ∨ B - 2 ^ e < A)
            · rw [if_pos hr, if_pos ⟨hr.1, hr.2.1, hr.2.2.imp id (fun w => by omega)⟩]
            · rw [if_neg hr, if_neg]
              rintro ⟨w1, w2, w3⟩
              by_cases w4 : B = 2 ^ e
              · exact hr ⟨w1, w2, Or.inl w4⟩
              · have w5 := w3.resolve_left w4
                by_cases w6 : B - 2 ^ e = A
                · rw [← w6] at hs
                  exact hs (sub_in hB he w2 w1).1
                · exact hr ⟨w1, w2, Or.inr (by omega)⟩))
          refine ⟨J, ?_, j1, j2⟩
          rw [if_pos (show ¬ (nI A &&& (nI st.E ^^^ (-1)) = 0) by rw [bit_sub _ g1 A (by omega)]; exact hs), zq_85_53, nI_1]
          exact e
/-- all sets' costs, from home on -/
theorem zf85 {L : zLw} {st : zSt} {home : Nat} {s : zQs} {I : Nat → Nat → Int32} (hh : home < st.P) (hE : zEv L st s I) (hF : zFx L st st.E s I) :
    ∃ J, zf_85 [.ref 42, .int (nI home)] (zMk (s, I)) = some (.long 0, zMk (s, J)) ∧ (∀ r, r ≠ 47 → J r = I r) ∧ ∀ B e, B < 256 → B &&& st.E = B → e < 8 → J 47 (B * 8 + e) = nI (zC1 (zFd L st home B e)) := by
  obtain ⟨J1, e1, a1, -, a3⟩ := zlp1 s 100000000 2048 0 I rfl
  have f1 : zf_1 [.ref 47, .int 100000000] (zMk (s, I)) = some (.long 0, zMk (s, J1)) := by
    rw [zqz_1, zq_1_0]
    exact e1
  have sc1 : zScr I J1 := zScr_1 (k := 47) rfl a1
  obtain ⟨J2, e2, b1, b2⟩ := zlp85a hh 8 0 J1 rfl (zEv_Scr hE sc1) (zFx_Scr hF sc1) (fun B e hB he => by
    rw [a3 _ (Nat.zero_le _) (by omega)]
    unfold zgs
    rw [if_neg (fun q => Nat.not_lt_zero _ q.2.1)]
    rfl)
  have sc2 : zScr J1 J2 := zScr_1 (k := 47) rfl b1
  obtain ⟨J3, e3, c1, c2⟩ := zlp85b hh 255 1 J2 rfl (by decide) (zEv_Scr hE (zScr_tr sc1 sc2)) (zFx_Scr hF (zScr_tr sc1 sc2)) (zT47_cg b2 (fun B e hB he => zgs_8 hB he))
  refine ⟨J3, ?_, fun r hr => (c1 r hr).trans ((b1 r hr).trans (a1 r hr)), c2⟩
  rw [zqz_85, zq_85_0, f1, zcV_some, zq_85_4]
  exact e2.trans e3
