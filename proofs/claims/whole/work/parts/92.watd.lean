/-! WATER: THE CLASS LOOKS THROUGH THE PEOPLE -/
theorem zsubc {w c m : Nat} (hw : w ≤ 1000000) (hc : c ≤ 1000000) (hm : m ≤ 1000000) : (nI w - nI c ≤ nI m ↔ w ≤ m + c) ∧ (nI w - nI c < nI m ↔ w < m + c) ∧ (nI w - nI c = nI m ↔ w = m + c) := by
  have e : (nI w - nI c).toInt = (w : Int) - (c : Int) := by
    rw [Int32.toInt_sub, nI_toInt (show w < 2 ^ 31 by omega), nI_toInt (show c < 2 ^ 31 by omega), Int.bmod_eq_of_le (by omega) (by omega)]
  have em : (nI m).toInt = (m : Int) := nI_toInt (by omega)
  refine ⟨?_, ?_, ?_⟩
  · rw [Int32.le_iff_toInt_le, e, em]
    omega
  · rw [Int32.lt_iff_toInt_lt, e, em]
    omega
  · rw [← Int32.toInt_inj, e, em]
    omega
/-- what was found among the first so many -/
def zCi (R : Nat → Nat → Bool) (wn pc : Nat → Nat) (P Q k m d : Nat) : Prop := ∃ k0, (0 < m → k0 < k ∧ zsgm wn (zDk R wn Q k0) P = m + zsgm pc (fun i => k0.testBit i) Q) ∧ d = (if 0 < m then zsts (zDk R wn Q k0) P else 0) ∧ (∀ k', k' < k → zsgm wn (zDk R wn Q k') P ≤ m + zsgm pc (fun i => k'.testBit i) Q) ∧ (0 < m → ∀ k', k' < k0 → zsgm wn (zDk R wn Q k') P < m + zsgm pc (fun i => k'.testBit i) Q)
theorem zCi_0 (R : Nat → Nat → Bool) (wn pc : Nat → Nat) (P Q : Nat) : zCi R wn pc P Q 0 0 0 := ⟨0, fun h => absurd h (Nat.lt_irrefl 0), rfl, fun k' h => absurd h (Nat.not_lt_zero k'), fun h => absurd h (Nat.lt_irrefl 0)⟩
theorem zCi_no {R : Nat → Nat → Bool} {wn pc : Nat → Nat} {P Q k m d : Nat} (h : zCi R wn pc P Q k m d) (g : zsgm wn (zDk R wn Q k) P ≤ m + zsgm pc (fun i => k.testBit i) Q) : zCi R wn pc P Q (k + 1) m d := by
  obtain ⟨k0, a, b, c, e⟩ := h
  refine ⟨k0, fun hm => ⟨by have := (a hm).1; omega, (a hm).2⟩, b, fun k' hk => ?_, e⟩
  by_cases hh : k' = k
  · rw [hh]; exact g
  · exact c k' (by omega)
theorem zCi_up {R : Nat → Nat → Bool} {wn pc : Nat → Nat} {P Q k m d : Nat} (h : zCi R wn pc P Q k m d) (g : m + zsgm pc (fun i => k.testBit i) Q < zsgm wn (zDk R wn Q k) P) : zCi R wn pc P Q (k + 1) (zsgm wn (zDk R wn Q k) P - zsgm pc (fun i => k.testBit i) Q) (zsts (zDk R wn Q k) P) := by
  obtain ⟨k0, a, b, c, e⟩ := h
  refine ⟨k, fun hm => ⟨by omega, by omega⟩, by rw [if_pos (by omega)], fun k' hk => ?_, fun _ k' hk => ?_⟩
  · by_cases hh : k' = k
    · rw [hh]; omega
    · have := c k' (by omega); omega
  · have := c k' hk; omega
theorem zwn_cap {wn : Nat → Nat} {r3 r93 : Nat → Int32} (h : cWant wn r3 r93) {P : Nat} (hP : P ≤ 20) (S : Nat → Bool) : zsgm wn S P ≤ 1980 := by
  have := zsgm_cap (f := wn) (S := S) (m := 99) P (fun i hi => (h i (by omega)).1)
  omega
theorem zpc_cap {st : zSt} {I : Nat → Nat → Int32} (h : RepW st I) (S : Nat → Bool) : zsgm st.pc S st.Q ≤ 792 := by
  obtain ⟨hQ, -, -, hfo⟩ := h.2.2.2.2.2.1
  have := zsgm_cap (f := st.pc) (S := S) (m := 99) st.Q (fun i hi => (hfo i hi).2.2.1)
  omega
theorem zlp134 {L : zLw} {st : zSt} {s : zQs} {R : Nat → Nat → Bool} (x1 : Int32) : ∀ d k (I : Nat → Nat → Int32) (m dd : Nat) (x3 x4 : Value), k + d = 2 ^ st.Q → zEv L st s I → (∀ p, p < 20 → I 49 p = nI (zsts (fun q => R q p) st.Q)) → I 48 4 = nI m → I 48 5 = nI dd → m ≤ 2000 → zCi R st.wn st.pc st.P st.Q k m dd →
    ∃ J m' d', zQ_134 (15, [.ref 48, .int x1, .int (nI k), x3, x4], [], zMk (s, I)) = some (.long 0, zMk (s, J)) ∧ (∀ r, r ≠ 48 → J r = I r) ∧ J 48 4 = nI m' ∧ J 48 5 = nI d' ∧ m' ≤ 2000 ∧ zCi R st.wn st.pc st.P st.Q (2 ^ st.Q) m' d'
  | 0, k, I, m, dd, x3, x4, h, hE, h49, h4, h5, hm, hC => by
    have h : k = 2 ^ st.Q := by omega
    subst h
    obtain ⟨hQ, q1, -, -⟩ := hE.1.2.2.2.2.2.1
    have h256 : 2 ^ st.Q ≤ 2 ^ 8 := Nat.pow_le_pow_right (by decide) hQ
    refine ⟨I, m, dd, ?_, fun _ _ => rfl, h4, h5, hm, hC⟩
    rw [zq_134_15, q1, bit_sh20 _ (by omega), if_pos (nI_le (Nat.le_refl _) (by omega))]
  | d + 1, k, I, m, dd, x3, x4, h, hE, h49, h4, h5, hm, hC => by
    have hP := zEv_P hE.1
    obtain ⟨hQ, q1, -, -⟩ := hE.1.2.2.2.2.2.1
    have h256 : 2 ^ st.Q ≤ 2 ^ 8 := Nat.pow_le_pow_right (by decide) hQ
    have hw := hE.1.2.2.2.1
    have hk : k < 256 := by omega
    have e136 : zf_136 [.ref 48, .int (nI k)] (zMk (s, I)) = some (.int (nI (zsts (zDk R st.wn st.Q k) st.P)), zMk (s, I)) := by
      rw [zqz_136, zq_136_0]
      exact zlp136 hP hQ (zEv_p1 hE.1) hw h49 hk st.P 0 (Nat.zero_add _)
    have hX : zsts (zDk R st.wn st.Q k) st.P < 2 ^ 31 := Nat.lt_of_lt_of_le (zsts_lt _ _) (Nat.pow_le_pow_right (by decide) (by omega))
    have e137 : zf_137 [.ref 48, .int (nI (zsts (zDk R st.wn st.Q k) st.P))] (zMk (s, I)) = some (.int (nI (zsgm st.wn (zDk R st.wn st.Q k) st.P)), zMk (s, I)) := by
      rw [zqz_137, zq_137_0]
      have e := zlp137 (s := s) hP (zEv_p1 hE.1) hw hX st.P 0 (Nat.zero_add _)
      rw [show zsgm st.wn (fun i => (zsts (zDk R st.wn st.Q k) st.P).testBit i) st.P = zsgm st.wn (zDk R st.wn st.Q k) st.P from zsgm_cg st.P (fun i hi => zsts_t hi)] at e
      exact e
    have e138 : zf_138 [.ref 48, .int (nI k)] (zMk (s, I)) = some (.int (nI (zsgm st.pc (fun i => k.testBit i) st.Q)), zMk (s, I)) := by
      rw [zqz_138, zq_138_0]
      exact zlp138 hE.1.2.2.2.2.2.1 hk st.Q 0 (Nat.zero_add _)
    have wc := zwn_cap hw hP (zDk R st.wn st.Q k)
    have pcc := zpc_cap hE.1 (fun i => k.testBit i)
    obtain ⟨t1, -, -⟩ := zsubc (w := zsgm st.wn (zDk R st.wn st.Q k) st.P) (c := zsgm st.pc (fun i => k.testBit i) st.Q) (m := m) (by omega) (by omega) (by omega)
    rw [zq_134_15, q1, bit_sh20 _ (by omega), if_neg (nI_ge (show k < 2 ^ st.Q by omega) (by omega)), e136, zcI_some, zq_134_25, e137, zcI_some, zq_134_29, e138, zcI_some, zq_134_32, h4, nI_1]
    by_cases c : zsgm st.wn (zDk R st.wn st.Q k) st.P ≤ m + zsgm st.pc (fun i => k.testBit i) st.Q
    · rw [if_pos (t1.mpr c)]
      exact zlp134 x1 d (k + 1) I m dd _ _ (by omega) hE h49 h4 h5 hm (zCi_no hC c)
    · rw [if_neg (fun q => c (t1.mp q)), nI_sub (by omega)]
      obtain ⟨J, m', d', e, a, b1, b2, b3, b4⟩ := zlp134 (L := L) (R := R) x1 d (k + 1) (zwA (zwA I 48 (upd (I 48) 4 (nI (zsgm st.wn (zDk R st.wn st.Q k) st.P - zsgm st.pc (fun i => k.testBit i) st.Q)))) 48 (upd (upd (I 48) 4 (nI (zsgm st.wn (zDk R st.wn st.Q k) st.P - zsgm st.pc (fun i => k.testBit i) st.Q))) 5 (nI (zsts (zDk R st.wn st.Q k) st.P)))) (zsgm st.wn (zDk R st.wn st.Q k) st.P - zsgm st.pc (fun i => k.testBit i) st.Q) (zsts (zDk R st.wn st.Q k) st.P) (.int (nI (zsts (zDk R st.wn st.Q k) st.P))) (.int (nI (zsgm st.wn (zDk R st.wn st.Q k) st.P - zsgm st.pc (fun i => k.testBit i) st.Q))) (by omega) (zEv_Scr hE (zScr_tr (zScr_w (k := 48) rfl _) (zScr_w (k := 48) rfl _))) (fun p hp => by rw [zwA_n (by decide), zwA_n (by decide)]; exact h49 p hp) (by rw [zwA_s, upd_at, if_neg (by decide), upd_at, if_pos rfl]) (by rw [zwA_s, upd_at, if_pos rfl]) (by omega) (zCi_up hC (by omega))
      exact ⟨J, m', d', e, fun r hr => by rw [a r hr, zwA_n hr, zwA_n hr], b1, b2, b3, b4⟩
theorem zf134 {L : zLw} {st : zSt} {s : zQs} {I : Nat → Nat → Int32} (hE : zEv L st s I) {w : Nat} (hw : w < 20) :
    ∃ F s' J m d, zrws L st F ∧ zf_134 [.ref 48, .int (nI w)] (zMk (s, I)) = some (.long 0, zMk (s', J)) ∧ zEv L st s' J ∧ zXe I J ∧ J 48 4 = nI m ∧ J 48 5 = nI d ∧ m ≤ 2000 ∧ zCi (zRR L st F w) st.wn st.pc st.P st.Q (2 ^ st.Q) m d := by
  have hP := zEv_P hE.1
  obtain ⟨F, hF⟩ := zrws_ex (L := L) (st := st) (zEv_small (s := s) hE.1) hP (fun q hq => ⟨(hE.1.2.2.2.2.2.1.2.2.2 q hq).1, (hE.1.2.2.2.2.2.1.2.2.2 q hq).2.1⟩)
  obtain ⟨s1, J1, e1, hE1, hF1, cv, -⟩ := zfresh0 hE
  obtain ⟨J2, e2, sc2, same, h49⟩ := zf135 hF hw hE1 hF1
  have hE2 := zEv_Scr hE1 sc2
  obtain ⟨J, m, d, e, a, b1, b2, b3, b4⟩ := zlp134 (R := zRR L st F w) (nI w) (2 ^ st.Q) 0 (zwA (zwA J2 48 (upd (J2 48) 4 0)) 48 (upd (upd (J2 48) 4 0) 5 0)) 0 0 (.long 0) (.long 0) (Nat.zero_add _) (zEv_Scr hE2 (zScr_tr (zScr_w (k := 48) rfl _) (zScr_w (k := 48) rfl _))) (fun p hp => by rw [zwA_n (by decide), zwA_n (by decide)]; exact h49 p hp) (by rw [zwA_s, upd_at, if_neg (by decide), upd_at, if_pos rfl]; rfl) (by rw [zwA_s, upd_at, if_pos rfl]; rfl) (by decide) (zCi_0 _ _ _ _ _)
  have sc3 : zScr J2 J := zScr_1 (k := 48) rfl (fun r hr => by rw [a r hr, zwA_n hr, zwA_n hr])
  refine ⟨F, s1, J, m, d, hF, ?_, zEv_Scr hE2 sc3, zXe_tr (zXe_Cv cv) (zXe_Scr (zScr_tr sc2 sc3)), b1, b2, b3, b4⟩
  rw [zqz_134, zq_134_0, e1, zcV_some, zq_134_4, e2, zcV_some, zq_134_7]
  exact e
