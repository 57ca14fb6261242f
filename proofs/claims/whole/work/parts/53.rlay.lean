/-! THE REFERENCE LAYS ITS WAYS -/
theorem zl180 (s : zQs) (I : Nat → Nat → Int32) {x y : Nat} (hx : x ≤ 1000000000) (hy : y ≤ 1000000000) : zf_180 [.int (nI x), .int (nI y)] (zMk (s, I)) = some (.int (nI (if x < 1000000000 ∧ y < 1000000000 then x + y else 1000000000)), zMk (s, I)) := by
  rw [zl_180]
  by_cases h1 : x < 1000000000
  · rw [if_neg (show ¬ (1000000000 : Int32) ≤ nI x from nI_ge (b := 1000000000) h1 (by decide))]
    by_cases h2 : y < 1000000000
    · rw [if_pos (show nI y < 1000000000 from nI_lt (b := 1000000000) h2 (by decide)), if_pos ⟨h1, h2⟩, nI_add]
    · rw [if_neg (show ¬ nI y < 1000000000 from nI_nlt (b := 1000000000) (by omega) (by omega)), if_neg (fun q => h2 q.2)]
      rfl
  · rw [if_pos (show (1000000000 : Int32) ≤ nI x from nI_le (a := 1000000000) (by omega) (by omega)), if_neg (fun q => h1 q.1)]
    rfl
theorem zl181 (s : zQs) (I : Nat → Nat → Int32) {x y : Nat} (hx : x < 2 ^ 31) (hy : y < 2 ^ 31) : zf_181 [.int (nI x), .int (nI y)] (zMk (s, I)) = some (.int (nI (min x y)), zMk (s, I)) := by
  rw [zl_181]
  by_cases h : y ≤ x
  · rw [if_pos (nI_le h hx), Nat.min_eq_right h]
  · rw [if_neg (nI_ge (by omega) hy), Nat.min_eq_left (by omega)]
def zix4 (l a b : Nat) : Nat := 400 * l + 20 * a + b
theorem zix4_i {l a b : Nat} : ((400 : Int32) * nI l + (20 : Int32) * nI a) + nI b = nI (zix4 l a b) := by
  rw [show (400 : Int32) * nI l = nI (400 * l) from nI_mul 400 l, show (20 : Int32) * nI a = nI (20 * a) from nI_mul 20 a, nI_add, nI_add]
  rfl
theorem zix4_j {l a b : Nat} : (nI (400 * l) + (20 : Int32) * nI a) + nI b = nI (zix4 l a b) := by
  rw [show (20 : Int32) * nI a = nI (20 * a) from nI_mul 20 a, nI_add, nI_add]
  rfl
theorem zix4_e {l a b c d : Nat} (hb : b < 20) (hd : d < 20) : (zix4 l a b = zix4 l c d) = (c = a ∧ d = b) := propext ⟨fun h => by unfold zix4 at h; omega, fun h => by rw [h.1, h.2]⟩
theorem zix4_lt {l a b : Nat} (hl : l ≤ 99) (ha : a < 20) (hb : b < 20) : zix4 l a b < 40000 := by unfold zix4; omega
theorem zlp218a (s : zQs) {l : Nat} (hl : l ≤ 99) (x1 : Int32) (x4 x5 : Value) : ∀ d k (I : Nat → Nat → Int32), k + d = 400 →
    ∃ J, zQ_218 (11, [.ref 58, .int x1, .int (nI (400 * l)), .int (nI k), x4, x5], [], zMk (s, I)) = zQ_218 (25, [.ref 58, .int x1, .int (nI (400 * l)), .int (nI 0), x4, x5], [], zMk (s, J)) ∧ (∀ r, r ≠ 78 → J r = I r) ∧ ∀ i, J 78 i = if 400 * l + k ≤ i ∧ i < 400 * l + 400 then nI 1000000000 else I 78 i
  | 0, k, I, h => by
    have h : k = 400 := by omega
    subst h
    refine ⟨I, ?_, fun _ _ => rfl, fun i => by rw [if_neg (by omega)]⟩
    rw [zq_218_11, if_pos (show (400 : Int32) ≤ nI 400 by decide)]
    rfl
  | d + 1, k, I, h => by
    have hk : k < 400 := by omega
    obtain ⟨J, e, j1, j2⟩ := zlp218a s hl x1 x4 x5 d (k + 1) (zwA I 78 (upd (I 78) (400 * l + k) 1000000000)) (by omega)
    refine ⟨J, ?_, fun r hr => (j1 r hr).trans (zwA_n hr), fun i => ?_⟩
    · rw [zq_218_11, if_neg (show ¬ (400 : Int32) ≤ nI k from nI_ge (b := 400) hk (by decide)), nI_add, if_pos (zb_t (show 400 * l + k < 40000 by omega) (by omega)), nI_clamp (show 400 * l + k < 2 ^ 31 by omega), nI_1]
      exact e
    · rw [j2 i, zwA_s, upd_at]
      by_cases h1 : i = 400 * l + k
      · subst h1
        rw [if_neg (by omega), if_pos rfl, if_pos (by omega)]
        rfl
      · rw [if_neg h1]
        by_cases h2 : 400 * l + k ≤ i ∧ i < 400 * l + 400
        · rw [if_pos h2, if_pos (by omega)]
        · rw [if_neg h2, if_neg (by omega)]
theorem zf217 (s : zQs) {I : Nat → Nat → Int32} {l a b v : Nat} (hl : l ≤ 99) (ha : a < 20) (hb : b < 20) (hv : I 78 (zix4 l a b) = nI v) (hf : v ≤ 1000000000) {o : Option Nat} (ho : ∀ x, o = some x → x ≤ 9999) :
    ∃ J, zf_217 [.ref 58, .int (nI l), .int (nI a), .int (nI b), .int (zpf o)] (zMk (s, I)) = some (.long 0, zMk (s, J)) ∧ (∀ r, r ≠ 78 → J r = I r) ∧ ∀ k, J 78 k = if k = zix4 l a b then nI (min v (zvl 64 1000000000 o)) else I 78 k := by
  have hi := zix4_lt hl ha hb
  cases o with
  | none =>
    refine ⟨I, ?_, fun _ _ => rfl, fun k => ?_⟩
    · rw [zqz_217, zq_217_0, if_pos (show (1000000000 : Int32) ≤ zpf none by decide)]
    · rw [show zvl 64 1000000000 none = 1000000000 from rfl, Nat.min_eq_left hf]
      split
      · rename_i h; rw [h, hv]
      · rfl
  | some p =>
    have hp := ho p rfl
    have e1 : ((64 : Int32) * zpf (some p)) + 1 = nI (64 * p + 1) := by rw [show (64 : Int32) * zpf (some p) = nI (64 * p) from nI_mul 64 p, nI_1]
    have e : zf_217 [.ref 58, .int (nI l), .int (nI a), .int (nI b), .int (zpf (some p))] (zMk (s, I)) = some (.long 0, zMk (s, zwA I 78 (upd (I 78) (zix4 l a b) (nI (min v (64 * p + 1)))))) := by
      rw [zqz_217, zq_217_0, if_neg (show ¬ (1000000000 : Int32) ≤ zpf (some p) from nI_ge (b := 1000000000) (by omega) (by decide)), zix4_i, if_pos (zb_t hi (by omega)), nI_clamp (show zix4 l a b < 2 ^ 31 by omega), hv, e1, zl181 s I (by omega) (by omega), zcI_some, zq_217_26, if_pos (zb_t hi (by omega)), nI_clamp (show zix4 l a b < 2 ^ 31 by omega)]
    exact ⟨_, e, fun r hr => zwA_n hr, fun k => by rw [zwA_s, upd_at]; rfl⟩
/-- what the reference writes when it lays ways -/
def zRs (I J : Nat → Nat → Int32) : Prop := ∀ r, r ≠ 75 → r ≠ 76 → r ≠ 77 → r ≠ 78 → r ≠ 79 → J r = I r
theorem zRs_rfl (I : Nat → Nat → Int32) : zRs I I := fun _ _ _ _ _ _ => rfl
theorem zRs_tr {I J K : Nat → Nat → Int32} (h : zRs I J) (g : zRs J K) : zRs I K := fun r a b c d e => (g r a b c d e).trans (h r a b c d e)
theorem Rep_Rs {st : zSt} {I J : Nat → Nat → Int32} (h : RepW st I) (g : zRs I J) : RepW st J :=
  RepW_fr h (fun j _ => by rw [g 58 (by decide) (by decide) (by decide) (by decide) (by decide)]) (g 1 (by decide) (by decide) (by decide) (by decide) (by decide)) (by rw [g 0 (by decide) (by decide) (by decide) (by decide) (by decide)]) (g 20 (by decide) (by decide) (by decide) (by decide) (by decide)) (g 30 (by decide) (by decide) (by decide) (by decide) (by decide)) (g 42 (by decide) (by decide) (by decide) (by decide) (by decide)) (g 54 (by decide) (by decide) (by decide) (by decide) (by decide)) (fun k hk => g k (by omega) (by omega) (by omega) (by omega) (by omega))
/-- what the reference knows of town and law -/
def zTwr (L : zLw) (st : zSt) (I : Nat → Nat → Int32) : Prop := zwf L ∧ zLR L (I 58 18) (I 70) (I 71) (I 72) (I 73) (I 74) ∧ st.P ≤ 20 ∧ st.S ≤ 40 ∧ (∀ j, j < st.P → st.ht j ≤ 200 ∧ I 59 j = nI (st.ht j)) ∧ I 58 2 = nI st.W ∧ I 58 1 = nI st.S ∧ I 58 0 = nI st.P ∧
    (∀ j, j < st.S → st.sa j < st.P ∧ st.sb j < st.P ∧ st.sa j ≠ st.sb j ∧ st.so j ≤ 2 ∧ I 60 j = nI (st.sa j) ∧ I 61 j = nI (st.sb j) ∧ I 62 j = nI (st.so j))
theorem zTwr_Rs {L : zLw} {st : zSt} {I J : Nat → Nat → Int32} (h : zTwr L st I) (g : zRs I J) : zTwr L st J := by
  have k : ∀ r, r < 75 → J r = I r := fun r hr => g r (by omega) (by omega) (by omega) (by omega) (by omega)
  unfold zTwr
  rw [k 58 (by decide), k 70 (by decide), k 71 (by decide), k 72 (by decide), k 73 (by decide), k 74 (by decide), k 59 (by decide), k 60 (by decide), k 61 (by decide), k 62 (by decide)]
  exact h
theorem zTwr_of {L : zLw} {st : zSt} {s : zQs} {I : Nat → Nat → Int32} (h : RepW st I) (hL : zLaw L s I) : zTwr L st I := by
  obtain ⟨-, ⟨t1, t2, t3, p, q, a, b, w, v, tp, ts⟩, -⟩ := h
  exact ⟨hL.1, hL.2.1, t1, t2, fun j hj => ⟨(tp j hj).1, (tp j hj).2.2⟩, v, b, q, fun j hj => by
    obtain ⟨b1, b2, b3, b4, b5, b6, b7, b8, b9, b10, b11⟩ := ts j hj
    exact ⟨b1, b2, b3, b4, b9, b10, b11⟩⟩
theorem zTwr_cs {L : zLw} {st : zSt} {I : Nat → Nat → Int32} (h : zTwr L st I) (l : Nat) {n : Nat} (hn : n ≤ st.S) : ∀ a b x, zcs L st l n a b = some x → x ≤ 9999 :=
  zcs_le (fun j hj => (h.2.2.2.2.1 j hj).1) l n (fun j hj => ⟨(h.2.2.2.2.2.2.2.2 j (by omega)).1, (h.2.2.2.2.2.2.2.2 j (by omega)).2.1⟩)
theorem zvl_cap {m far : Nat} (hf : m * 9999 + 1 ≤ far) {o : Option Nat} (ho : ∀ x, o = some x → x ≤ 9999) : zvl m far o ≤ far := by
  cases o with
  | none => exact Nat.le_refl _
  | some x => exact Nat.le_trans (Nat.succ_le_succ (Nat.mul_le_mul_left m (ho x rfl))) hf
theorem zlp218b (s : zQs) {L : zLw} {st : zSt} {l : Nat} (hl : l ≤ 99) : ∀ d n (I : Nat → Nat → Int32) (x4 x5 : Value), n + d = st.S → zTwr L st I →
    (∀ a b, a < 20 → b < 20 → I 78 (zix4 l a b) = nI (zwt 64 1000000000 (zcs L st l n) a b)) →
    ∃ J, zQ_218 (25, [.ref 58, .int (nI l), .int (nI (400 * l)), .int (nI n), x4, x5], [], zMk (s, I)) = zQ_218 (65, [.ref 58, .int (nI l), .int (nI (400 * l)), .int (nI 0), x4, x5], [], zMk (s, J)) ∧ (∀ r, r ≠ 75 → r ≠ 76 → r ≠ 78 → J r = I r) ∧ (∀ i, (i < 400 * l ∨ 400 * l + 400 ≤ i) → J 78 i = I 78 i) ∧
      ∀ a b, a < 20 → b < 20 → J 78 (zix4 l a b) = nI (zwt 64 1000000000 (zcs L st l st.S) a b)
  | 0, n, I, x4, x5, h, hw, hI => by
    have h : n = st.S := by omega
    subst h
    refine ⟨I, ?_, fun _ _ _ _ => rfl, fun _ _ => rfl, hI⟩
    have hS := hw.2.2.2.1
    rw [zq_218_25, hw.2.2.2.2.2.2.1, if_pos (nI_le (Nat.le_refl _) (by omega))]
    rfl
  | d + 1, n, I, x4, x5, h, hw, hI => by
    have hn : n < st.S := by omega
    obtain ⟨w1, w2, hP, hS, ht, hW, hS1, hP1, hs⟩ := id hw
    obtain ⟨sa, sb, sn, so, i4, i5, i6⟩ := hs n hn
    have zn := zb_t (show n < 40 by omega) (show n < 2 ^ 31 by omega)
    have cn : (nI n).toNatClampNeg = n := nI_clamp (by omega)
    have hle := zTwr_cs hw l (n := n) (by omega)
    have g1 := zgo_le (L := L) (fun j hj => (ht j hj).1) sa sb false l
    have g2 := zgo_le (L := L) (fun j hj => (ht j hj).1) sa sb true l
    obtain ⟨J1, e1, c1⟩ := zgoes s (st := st) (l := l) w1 w2 ht hP hW (show n < 40 by omega) i4 i5 i6 sa sb so false
    have v1 : J1 78 (zix4 l (st.sa n) (st.sb n)) = nI (zwt 64 1000000000 (zcs L st l n) (st.sa n) (st.sb n)) := by
      rw [c1 78 (by decide) (by decide)]
      exact hI _ _ (by omega) (by omega)
    obtain ⟨J2, e2, j1, j2⟩ := zf217 s (I := J1) hl (show st.sa n < 20 by omega) (show st.sb n < 20 by omega) v1 (zwt_cap hle (by decide) _ _) g1
    have c2 : zRs I J2 := fun r a b _ c _ => (j1 r c).trans (c1 r a b)
    obtain ⟨q1, q2, -, -, ht2, hW2, -, -, hs2⟩ := zTwr_Rs hw c2
    obtain ⟨-, -, -, -, p4, p5, p6⟩ := hs2 n hn
    obtain ⟨J3, e3, c3⟩ := zgoes s (st := st) (l := l) q1 q2 ht2 hP hW2 (show n < 40 by omega) p4 p5 p6 sa sb so true
    have v3 : J3 78 (zix4 l (st.sb n) (st.sa n)) = nI (zwt 64 1000000000 (zcs L st l n) (st.sb n) (st.sa n)) := by
      rw [c3 78 (by decide) (by decide), j2, if_neg (by unfold zix4; omega), c1 78 (by decide) (by decide)]
      exact hI _ _ (by omega) (by omega)
    obtain ⟨J4, e4, j3, j4⟩ := zf217 s (I := J3) hl (show st.sb n < 20 by omega) (show st.sa n < 20 by omega) v3 (zwt_cap hle (by decide) _ _) g2
    have c4' : ∀ r, r ≠ 75 → r ≠ 76 → r ≠ 78 → J4 r = I r := fun r a b c => (j3 r c).trans ((c3 r a b).trans ((j1 r c).trans (c1 r a b)))
    have c4 : zRs I J4 := fun r a b _ c _ => c4' r a b c
    have hI4 : ∀ a b, a < 20 → b < 20 → J4 78 (zix4 l a b) = nI (zwt 64 1000000000 (zcs L st l (n + 1)) a b) := by
      intro a b ha hb
      rw [j4, c3 78 (by decide) (by decide), j2, c1 78 (by decide) (by decide), hI a b ha hb]
      simp only [zix4_e hb (show st.sa n < 20 by omega), zix4_e hb (show st.sb n < 20 by omega)]
      rw [zwt_vl, zwt_vl, zwt_vl, zwt_vl]
      show _ = nI (zvl 64 1000000000 (zmn (zmn (zcs L st l n a b) (if st.sa n = a ∧ st.sb n = b then zgo L st n false l else none)) (if st.sb n = a ∧ st.sa n = b then zgo L st n true l else none)))
      rw [zvl_mn (by decide) (zmn_le (hle a b) (zif_le g1)) (zif_le g2), zvl_mn (by decide) (hle a b) (zif_le g1)]
      have hf : zvl 64 1000000000 (zcs L st l n a b) ≤ 1000000000 := zvl_cap (by decide) (hle a b)
      by_cases h1 : st.sb n = a ∧ st.sa n = b
      · have h2 : ¬ (st.sa n = a ∧ st.sb n = b) := fun q => sn (q.1.trans h1.1.symm)
        rw [if_pos h1, if_pos h1, if_neg h2, h1.1, h1.2]
        show _ = nI (min (min _ 1000000000) _)
        rw [Nat.min_eq_left hf]
      · rw [if_neg h1, if_neg h1]
        by_cases h2 : st.sa n = a ∧ st.sb n = b
        · rw [if_pos h2, if_pos h2, h2.1, h2.2]
          show _ = nI (min _ 1000000000)
          rw [Nat.min_eq_left (Nat.le_trans (Nat.min_le_left _ _) hf)]
        · rw [if_neg h2, if_neg h2]
          show _ = nI (min (min _ 1000000000) 1000000000)
          rw [Nat.min_eq_left hf, Nat.min_eq_left hf]
    have out4 : ∀ i, (i < 400 * l ∨ 400 * l + 400 ≤ i) → J4 78 i = I 78 i := fun i hi => by
      rw [j4, if_neg (by unfold zix4; omega), c3 78 (by decide) (by decide), j2, if_neg (by unfold zix4; omega), c1 78 (by decide) (by decide)]
    obtain ⟨J, e, k1, k2, k3⟩ := zlp218b s hl d (n + 1) J4 x4 x5 (by omega) (zTwr_Rs hw c4) hI4
    refine ⟨J, ?_, fun r a b c => (k1 r a b c).trans (c4' r a b c), fun i hi => (k2 i hi).trans (out4 i hi), k3⟩
    have e1 : zf_213 [.ref 58, .int (nI n), .int 0, .int (nI l)] (zMk (s, I)) = some (.int (zpf (zgo L st n false l)), zMk (s, J1)) := e1
    have e3 : zf_213 [.ref 58, .int (nI n), .int 1, .int (nI l)] (zMk (s, J2)) = some (.int (zpf (zgo L st n true l)), zMk (s, J3)) := e3
    rw [zq_218_25, hS1, if_neg (nI_ge hn (by omega)), if_pos zn, if_pos zn, e1, zcI_some, cn, i4, i5, zq_218_44, e2, zcV_some, zq_218_45, if_pos zn, if_pos zn, e3, zcI_some, cn, p4, p5, zq_218_60, e4, zcV_some, zq_218_61, nI_1]
    exact e
theorem zlp218c (s : zQs) {l : Nat} (hl : l ≤ 99) (x1 : Int32) (x4 x5 : Value) : ∀ d k (I : Nat → Nat → Int32), k + d = 400 →
    ∃ J, zQ_218 (65, [.ref 58, .int x1, .int (nI (400 * l)), .int (nI k), x4, x5], [], zMk (s, I)) = zQ_218 (93, [.ref 58, .int x1, .int (nI (400 * l)), .int (nI 0), x4, x5], [], zMk (s, J)) ∧ (∀ r, r ≠ 77 → J r = I r) ∧ (∀ i, (i < 400 * l + k ∨ 400 * l + 400 ≤ i) → J 77 i = I 77 i) ∧
      ∀ j, k ≤ j → j < 400 → J 77 (400 * l + j) = if j / 20 = j % 20 then nI 0 else I 78 (400 * l + j)
  | 0, k, I, h => by
    have h : k = 400 := by omega
    subst h
    refine ⟨I, ?_, fun _ _ => rfl, fun _ _ => rfl, fun j h1 h2 => absurd h1 (by omega)⟩
    rw [zq_218_65, if_pos (show (400 : Int32) ≤ nI 400 by decide)]
    rfl
  | d + 1, k, I, h => by
    have hk : k < 400 := by omega
    have zk := zb_t (show 400 * l + k < 40000 by omega) (show 400 * l + k < 2 ^ 31 by omega)
    have ck : (nI (400 * l + k)).toNatClampNeg = 400 * l + k := nI_clamp (by omega)
    have e1 : nI k / 20 = nI (k / 20) := nI_div k 20 (by omega) (by decide)
    have e2 : nI k - nI (k / 20) * 20 = nI (k % 20) := by rw [← e1]; exact nI_rem k 20 (by omega) (by decide)
    have fin : ∀ v : Int32, v = (if k / 20 = k % 20 then nI 0 else I 78 (400 * l + k)) → ∃ J, zQ_218 (65, [.ref 58, .int x1, .int (nI (400 * l)), .int (nI (k + 1)), x4, x5], [], zMk (s, zwA I 77 (upd (I 77) (400 * l + k) v))) = zQ_218 (93, [.ref 58, .int x1, .int (nI (400 * l)), .int (nI 0), x4, x5], [], zMk (s, J)) ∧ (∀ r, r ≠ 77 → J r = I r) ∧ (∀ i, (i < 400 * l + k ∨ 400 * l + 400 ≤ i) → J 77 i = I 77 i) ∧
      ∀ j, k ≤ j → j < 400 → J 77 (400 * l + j) = if j / 20 = j % 20 then nI 0 else I 78 (400 * l + j) := by
      intro v hv
      obtain ⟨J, e, j1, j2, j3⟩ := zlp218c s hl x1 x4 x5 d (k + 1) (zwA I 77 (upd (I 77) (400 * l + k) v)) (by omega)
      refine ⟨J, e, fun r hr => (j1 r hr).trans (zwA_n hr), fun i hi => ?_, fun j h1 h2 => ?_⟩
      · rw [j2 i (by omega), zwA_s, upd_at, if_neg (by omega)]
      · by_cases hjk : j = k
        · subst hjk
          rw [j2 _ (by omega), zwA_s, upd_at, if_pos rfl]
          exact hv
        · rw [j3 j (by omega) h2, zwA_n (by decide)]
    rw [zq_218_65, if_neg (show ¬ (400 : Int32) ≤ nI k from nI_ge (b := 400) hk (by decide)), e1, e2, nI_add, ck, nI_1]
    by_cases hd : k / 20 = k % 20
    · rw [if_neg (not_not_intro (by rw [hd])), if_pos zk]
      exact fin 0 (by rw [if_pos hd]; rfl)
    · rw [if_pos (nI_ne hd (by omega) (by omega)), if_pos zk, if_pos zk]
      exact fin _ (by rw [if_neg hd])
theorem zmin_sum {F x y : Nat} (h : F ≤ 1000000000) : min F (if x < 1000000000 ∧ y < 1000000000 then x + y else 1000000000) = min F (x + y) := by
  split
  · rfl
  · omega
theorem zlp218f (s : zQs) {w : Nat → Nat → Nat} {P l m a : Nat} (hl : l ≤ 99) (hP : P ≤ 20) (hm : m < P) (ha : a < P) (hw : ∀ a b, w a b ≤ 1000000000) (x1 : Int32) : ∀ d b (I : Nat → Nat → Int32), b + d = P → I 58 0 = nI P →
    (∀ u v, u < P → v < P → I 77 (zix4 l u v) = nI (if u < a ∨ (u = a ∧ v < b) then zfw w (m + 1) u v else zfw w m u v)) →
    ∃ J, zQ_218 (105, [.ref 58, .int x1, .int (nI (400 * l)), .int (nI m), .int (nI a), .int (nI b)], [], zMk (s, I)) = zQ_218 (99, [.ref 58, .int x1, .int (nI (400 * l)), .int (nI m), .int (nI (a + 1)), .int (nI P)], [], zMk (s, J)) ∧ (∀ r, r ≠ 77 → J r = I r) ∧ (∀ i, (i < 400 * l ∨ 400 * l + 400 ≤ i) → J 77 i = I 77 i) ∧
      ∀ u v, u < P → v < P → J 77 (zix4 l u v) = nI (if u < a + 1 then zfw w (m + 1) u v else zfw w m u v)
  | 0, b, I, h, h0, hI => by
    have h : b = P := by omega
    subst h
    refine ⟨I, ?_, fun _ _ => rfl, fun _ _ => rfl, fun u v hu hv => ?_⟩
    · rw [zq_218_105, h0, if_pos (nI_le (Nat.le_refl _) (by omega)), nI_1]
    · rw [hI u v hu hv]
      by_cases h1 : u < a + 1
      · rw [if_pos h1, if_pos (by omega)]
      · rw [if_neg h1, if_neg (by omega)]
  | d + 1, b, I, h, h0, hI => by
    have hb : b < P := by omega
    have i1 := zix4_lt hl (show a < 20 by omega) (show b < 20 by omega)
    have i2 := zix4_lt hl (show a < 20 by omega) (show m < 20 by omega)
    have i3 := zix4_lt hl (show m < 20 by omega) (show b < 20 by omega)
    have v2 : I 77 (zix4 l a m) = nI (zfw w m a m) := by
      rw [hI a m ha hm]
      split
      · rw [zfw_jk]
      · rfl
    have v3 : I 77 (zix4 l m b) = nI (zfw w m m b) := by
      rw [hI m b hm hb]
      split
      · rw [zfw_kk]
      · rfl
    have v1 : I 77 (zix4 l a b) = nI (zfw w m a b) := by rw [hI a b ha hb, if_neg (by omega)]
    have b1 := zfw_cap hw m a b
    have b2 := zfw_cap hw m a m
    have b3 := zfw_cap hw m m b
    have bs : (if zfw w m a m < 1000000000 ∧ zfw w m m b < 1000000000 then zfw w m a m + zfw w m m b else 1000000000) < 2 ^ 31 := by split <;> omega
    obtain ⟨J, e, j1, j2, j3⟩ := zlp218f s hl hP hm ha hw x1 d (b + 1) (zwA I 77 (upd (I 77) (zix4 l a b) (nI (zfw w (m + 1) a b)))) (by omega) (by rw [zwA_n (by decide)]; exact h0) (fun u v hu hv => by
      rw [zwA_s, upd_at]
      simp only [zix4_e (show v < 20 by omega) (show b < 20 by omega)]
      by_cases h1 : a = u ∧ b = v
      · rw [if_pos h1]
        obtain ⟨rfl, rfl⟩ := h1
        rw [if_pos (by omega)]
      · rw [if_neg h1, hI u v hu hv]
        by_cases h2 : u < a ∨ (u = a ∧ v < b)
        · rw [if_pos h2, if_pos (by omega)]
        · rw [if_neg h2, if_neg (by omega)])
    refine ⟨J, ?_, fun r hr => (j1 r hr).trans (zwA_n hr), fun i hi => by rw [j2 i hi, zwA_s, upd_at, if_neg (by unfold zix4; omega)], j3⟩
    rw [zq_218_105, h0, if_neg (nI_ge hb (by omega)), zix4_j, zix4_j, zix4_j, if_pos (zb_t i1 (by omega)), if_pos (zb_t i2 (by omega)), if_pos (zb_t i3 (by omega)), nI_clamp (show zix4 l a m < 2 ^ 31 by omega), nI_clamp (show zix4 l m b < 2 ^ 31 by omega), nI_clamp (show zix4 l a b < 2 ^ 31 by omega), v1, v2, v3, zl180 s I b2 b3, zcI_some, zq_218_149, zl181 s I (by omega) bs, zcI_some, zq_218_150, if_pos (zb_t i1 (by omega)), nI_clamp (show zix4 l a b < 2 ^ 31 by omega), zmin_sum b1, nI_1]
    exact e
theorem zlp218e (s : zQs) {w : Nat → Nat → Nat} {P l m : Nat} (hl : l ≤ 99) (hP : P ≤ 20) (hm : m < P) (hw : ∀ a b, w a b ≤ 1000000000) (x1 : Int32) : ∀ d a (I : Nat → Nat → Int32) (x5 : Value), a + d = P → I 58 0 = nI P →
    (∀ u v, u < P → v < P → I 77 (zix4 l u v) = nI (if u < a then zfw w (m + 1) u v else zfw w m u v)) →
    ∃ J x5', zQ_218 (99, [.ref 58, .int x1, .int (nI (400 * l)), .int (nI m), .int (nI a), x5], [], zMk (s, I)) = zQ_218 (93, [.ref 58, .int x1, .int (nI (400 * l)), .int (nI (m + 1)), .int (nI P), x5'], [], zMk (s, J)) ∧ (∀ r, r ≠ 77 → J r = I r) ∧ (∀ i, (i < 400 * l ∨ 400 * l + 400 ≤ i) → J 77 i = I 77 i) ∧
      ∀ u v, u < P → v < P → J 77 (zix4 l u v) = nI (zfw w (m + 1) u v)
  | 0, a, I, x5, h, h0, hI => by
    have h : a = P := by omega
    subst h
    refine ⟨I, x5, ?_, fun _ _ => rfl, fun _ _ => rfl, fun u v hu hv => by rw [hI u v hu hv, if_pos hu]⟩
    rw [zq_218_99, h0, if_pos (nI_le (Nat.le_refl _) (by omega)), nI_1]
  | d + 1, a, I, x5, h, h0, hI => by
    have ha : a < P := by omega
    obtain ⟨J1, e1, k1, k2, k3⟩ := zlp218f s hl hP hm ha hw x1 P 0 I (Nat.zero_add _) h0 (fun u v hu hv => by
      rw [hI u v hu hv]
      by_cases h2 : u < a
      · rw [if_pos h2, if_pos (by omega)]
      · rw [if_neg h2, if_neg (by omega)])
    obtain ⟨J, y, e, j1, j2, j3⟩ := zlp218e s hl hP hm hw x1 d (a + 1) J1 (.int (nI P)) (by omega) (by rw [k1 58 (by decide)]; exact h0) k3
    refine ⟨J, y, ?_, fun r hr => (j1 r hr).trans (k1 r hr), fun i hi => (j2 i hi).trans (k2 i hi), j3⟩
    rw [zq_218_99, h0, if_neg (nI_ge ha (by omega))]
    exact e1.trans e
theorem zlp218d (s : zQs) {w : Nat → Nat → Nat} {P l : Nat} (hl : l ≤ 99) (hP : P ≤ 20) (hw : ∀ a b, w a b ≤ 1000000000) (x1 : Int32) : ∀ d m (I : Nat → Nat → Int32) (x4 x5 : Value), m + d = P → I 58 0 = nI P →
    (∀ u v, u < P → v < P → I 77 (zix4 l u v) = nI (zfw w m u v)) →
    ∃ J, zQ_218 (93, [.ref 58, .int x1, .int (nI (400 * l)), .int (nI m), x4, x5], [], zMk (s, I)) = some (.long 0, zMk (s, J)) ∧ (∀ r, r ≠ 77 → J r = I r) ∧ (∀ i, (i < 400 * l ∨ 400 * l + 400 ≤ i) → J 77 i = I 77 i) ∧
      ∀ u v, u < P → v < P → J 77 (zix4 l u v) = nI (zfw w P u v)
  | 0, m, I, x4, x5, h, h0, hI => by
    have h : m = P := by omega
    subst h
    refine ⟨I, ?_, fun _ _ => rfl, fun _ _ => rfl, hI⟩
    rw [zq_218_93, h0, if_pos (nI_le (Nat.le_refl _) (by omega))]
  | d + 1, m, I, x4, x5, h, h0, hI => by
    have hm : m < P := by omega
    obtain ⟨J1, y, e1, k1, k2, k3⟩ := zlp218e s hl hP hm hw x1 P 0 I x5 (Nat.zero_add _) h0 (fun u v hu hv => by rw [if_neg (Nat.not_lt_zero u)]; exact hI u v hu hv)
    obtain ⟨J, e, j1, j2, j3⟩ := zlp218d s hl hP hw x1 d (m + 1) J1 (.int (nI P)) y (by omega) (by rw [k1 58 (by decide)]; exact h0) k3
    refine ⟨J, ?_, fun r hr => (j1 r hr).trans (k1 r hr), fun i hi => (j2 i hi).trans (k2 i hi), j3⟩
    rw [zq_218_93, h0, if_neg (nI_ge hm (by omega))]
    exact e1.trans e
/-- the reference's ways under this load are laid -/
def zRld (L : zLw) (st : zSt) (I : Nat → Nat → Int32) (l : Nat) : Prop := (∀ a b, a < 20 → b < 20 → I 78 (zix4 l a b) = nI (zwt 64 1000000000 (zcs L st l st.S) a b)) ∧ ∀ a b, a < st.P → b < st.P → I 77 (zix4 l a b) = nI (zk64 (zcs L st l st.S) st.P a b)
def zRy (L : zLw) (st : zSt) (I : Nat → Nat → Int32) : Prop := ∀ l, l ≤ 99 → ¬ I 79 l = 0 → zRld L st I l
theorem zf218 (s : zQs) {L : zLw} {st : zSt} {l : Nat} (hl : l ≤ 99) {I : Nat → Nat → Int32} (hw : zTwr L st I) (hy : zRy L st I) :
    ∃ J, zf_218 [.ref 58, .int (nI l)] (zMk (s, I)) = some (.long 0, zMk (s, J)) ∧ zRs I J ∧ zRy L st J ∧ ¬ J 79 l = 0 ∧ ∀ k, ¬ I 79 k = 0 → ¬ J 79 k = 0 := by
  have zl := zb_t (show l < 100 by omega) (show l < 2 ^ 31 by omega)
  have cl : (nI l).toNatClampNeg = l := nI_clamp (by omega)
  have e0 : (400 : Int32) * nI l = nI (400 * l) := nI_mul 400 l
  obtain ⟨J1, e1, a1, a2⟩ := zlp218a s hl (nI l) (.long 0) (.long 0) 400 0 (zwA I 79 (upd (I 79) l 1)) rfl
  have c1 : zRs I J1 := fun r _ _ _ h8 h9 => (a1 r h8).trans (zwA_n h9)
  obtain ⟨J2, e2, b1, b2, b3⟩ := zlp218b s (L := L) (st := st) hl st.S 0 J1 (.long 0) (.long 0) (Nat.zero_add _) (zTwr_Rs hw c1) (fun a b ha hb => by rw [a2, if_pos (by unfold zix4; omega)]; rfl)
  have c2 : zRs I J2 := fun r h5 h6 h7 h8 h9 => (b1 r h5 h6 h8).trans (c1 r h5 h6 h7 h8 h9)
  obtain ⟨J3, e3, d1, d2, d3⟩ := zlp218c s hl (nI l) (.long 0) (.long 0) 400 0 J2 rfl
  have c3 : zRs I J3 := fun r h5 h6 h7 h8 h9 => (d1 r h7).trans (c2 r h5 h6 h7 h8 h9)
  have hw3 := zTwr_Rs hw c3
  have hle := zTwr_cs hw l (Nat.le_refl _)
  obtain ⟨J, e4, f1, f2, f3⟩ := zlp218d s (w := zwt 64 1000000000 (zcs L st l st.S)) hl hw.2.2.1 (zwt_cap hle (by decide)) (nI l) st.P 0 J3 (.long 0) (.long 0) (Nat.zero_add _) hw3.2.2.2.2.2.2.2.1 (fun a b ha hb => by
    have hP := hw.2.2.1
    have h3 := d3 (20 * a + b) (Nat.zero_le _) (by omega)
    rw [show 400 * l + (20 * a + b) = zix4 l a b by unfold zix4; omega, show (20 * a + b) / 20 = a by omega, show (20 * a + b) % 20 = b by omega] at h3
    rw [h3, b3 a b (by omega) (by omega)]
    show _ = nI (if a = b then 0 else zwt 64 1000000000 (zcs L st l st.S) a b)
    split <;> rfl)
  have j79 : ∀ k, J 79 k = if k = l then 1 else I 79 k := fun k => by rw [f1 79 (by decide), d1 79 (by decide), b1 79 (by decide) (by decide) (by decide), a1 79 (by decide), zwA_s, upd_at]
  have here : zRld L st J l := ⟨fun a b ha hb => by rw [f1 78 (by decide), d1 78 (by decide)]; exact b3 a b ha hb, f3⟩
  refine ⟨J, ?_, fun r h5 h6 h7 h8 h9 => (f1 r h7).trans (c3 r h5 h6 h7 h8 h9), fun k hk h => ?_, by rw [j79, if_pos rfl]; decide, fun k hk => by rw [j79]; split <;> first | decide | exact hk⟩
  · rw [zqz_218, zq_218_0, if_pos zl, cl, e0]
    exact e1.trans (e2.trans (e3.trans e4))
  · by_cases hkl : k = l
    · subst hkl
      exact here
    · rw [j79, if_neg hkl] at h
      have hk2 := hy k hk h
      refine ⟨fun a b ha hb => ?_, fun a b ha hb => ?_⟩
      · rw [f1 78 (by decide), d1 78 (by decide), b2 _ (by unfold zix4; omega), a2, if_neg (by unfold zix4; omega), zwA_n (by decide)]
        exact hk2.1 a b ha hb
      · have hP := hw.2.2.1
        rw [f2 _ (by unfold zix4; omega), d2 _ (by unfold zix4; omega), b1 77 (by decide) (by decide) (by decide), a1 77 (by decide), zwA_n (by decide)]
        exact hk2.2 a b ha hb
