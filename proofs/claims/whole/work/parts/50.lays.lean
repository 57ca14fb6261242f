/-! TABLES OF WAYS -/
def zmn (a b : Option Nat) : Option Nat := match a, b with
  | none, b => b
  | some x, none => some x
  | some x, some y => some (min x y)
def zvl (m far : Nat) (o : Option Nat) : Nat := match o with
  | some x => m * x + 1
  | none => far
theorem zwt_vl (m far : Nat) (c : Nat → Nat → Option Nat) (a b : Nat) : zwt m far c a b = zvl m far (c a b) := rfl
theorem zvl_mn {m far : Nat} (hf : m * 9999 + 1 ≤ far) {a b : Option Nat} (ha : ∀ x, a = some x → x ≤ 9999) (hb : ∀ x, b = some x → x ≤ 9999) : zvl m far (zmn a b) = min (zvl m far a) (zvl m far b) := by
  have hle : ∀ x, x ≤ 9999 → m * x + 1 ≤ far := fun x hx => Nat.le_trans (Nat.succ_le_succ (Nat.mul_le_mul_left m hx)) hf
  cases a with
  | none =>
    cases b with
    | none => exact (Nat.min_self _).symm
    | some y => exact (Nat.min_eq_right (hle y (hb y rfl))).symm
  | some x =>
    cases b with
    | none => exact (Nat.min_eq_left (hle x (ha x rfl))).symm
    | some y =>
      show m * (min x y) + 1 = min (m * x + 1) (m * y + 1)
      by_cases h : x ≤ y
      · have : m * x ≤ m * y := Nat.mul_le_mul_left m h
        rw [Nat.min_eq_left h]
        omega
      · have : m * y ≤ m * x := Nat.mul_le_mul_left m (by omega)
        rw [Nat.min_eq_right (by omega)]
        omega
theorem zmn_le {a b : Option Nat} (ha : ∀ x, a = some x → x ≤ 9999) (hb : ∀ x, b = some x → x ≤ 9999) : ∀ x, zmn a b = some x → x ≤ 9999 := by
  intro x hx
  cases a with
  | none => exact hb x hx
  | some y =>
    cases b with
    | none => exact ha x hx
    | some z =>
      have := ha y rfl
      have h : min y z = x := Option.some.inj hx
      omega
/-- least costs of one stair, by the first n stairs -/
def zcs (L : zLw) (st : zSt) (l : Nat) : Nat → Nat → Nat → Option Nat
  | 0, _, _ => none
  | n + 1, a, b => zmn (zmn (zcs L st l n a b) (if st.sa n = a ∧ st.sb n = b then zgo L st n false l else none)) (if st.sb n = a ∧ st.sa n = b then zgo L st n true l else none)
theorem zgo_le {L : zLw} {st : zSt} (ht : ∀ j, j < st.P → st.ht j ≤ 200) {n : Nat} (ha : st.sa n < st.P) (hb : st.sb n < st.P) (back : Bool) (l : Nat) : ∀ x, zgo L st n back l = some x → x ≤ 9999 := by
  intro x hx
  unfold zgo at hx
  split at hx
  · split at hx
    · cases hx
    · exact zprice_le (zls_up (ht _ ha)).2 hx
  · exact zprice_le (zls_up (ht _ hb)).2 hx
theorem zif_le {c : Prop} [Decidable c] {o : Option Nat} (h : ∀ x, o = some x → x ≤ 9999) : ∀ x, (if c then o else none) = some x → x ≤ 9999 := by
  intro x hx
  split at hx
  · exact h x hx
  · cases hx
theorem zcs_le {L : zLw} {st : zSt} (ht : ∀ j, j < st.P → st.ht j ≤ 200) (l : Nat) : ∀ n, (∀ j, j < n → st.sa j < st.P ∧ st.sb j < st.P) → ∀ a b x, zcs L st l n a b = some x → x ≤ 9999
  | 0, _, _, _, _, h => by cases h
  | n + 1, hs, a, b, x, h => by
    have h1 := hs n (by omega)
    exact zmn_le (zmn_le (zcs_le ht l n (fun j hj => hs j (by omega)) a b) (zif_le (zgo_le ht h1.1 h1.2 false l))) (zif_le (zgo_le ht h1.1 h1.2 true l)) x h
theorem zcs_aa {L : zLw} {st : zSt} (l : Nat) : ∀ n, (∀ j, j < n → st.sa j ≠ st.sb j) → ∀ a, zcs L st l n a a = none
  | 0, _, _ => rfl
  | n + 1, hs, a => by
    have h1 := hs n (by omega)
    have h2 := zcs_aa (L := L) l n (fun j hj => hs j (by omega)) a
    show zmn (zmn (zcs L st l n a a) (if st.sa n = a ∧ st.sb n = a then zgo L st n false l else none)) (if st.sb n = a ∧ st.sa n = a then zgo L st n true l else none) = none
    rw [h2, if_neg (fun q => h1 (q.1.trans q.2.symm)), if_neg (fun q => h1 (q.2.trans q.1.symm))]
    rfl
/-- a table's cell -/
def zok (s : zQs) (t : Nat) : Prop := 103 ≤ t ∧ t < 103 + s.1 ∧ s.1 ≤ 100
theorem zok_a {s : zQs} {t : Nat} (h : zok s t) (I : Nat → Nat → Int32) : za (zMk (s, I)) t 100 = true := by
  obtain ⟨h1, h2, h3⟩ := h
  show decide (zsT s.1 t = 100) = true
  unfold zsT
  rw [if_neg (by omega), if_pos h2]
  rfl
theorem zok_l {s : zQs} {t : Nat} (h : zok s t) (I : Nat → Nat → Int32) : zl (zMk (s, I)) t = 400 := by
  obtain ⟨h1, h2, h3⟩ := h
  show zsL s.1 t = 400
  unfold zsL
  rw [if_neg (by omega), if_pos h2]
theorem zok_n {s : zQs} {t : Nat} (h : zok s t) : ¬ t = 1000000 := by
  obtain ⟨h1, h2, h3⟩ := h
  omega
theorem zlp128a (s : zQs) {t : Nat} (hT : zok s t) (x2 : Int32) (x4 x5 : Value) : ∀ d i (I : Nat → Nat → Int32), i + d = 400 →
    ∃ J, zQ_128 (2, [.ref 16, .ref t, .int x2, .int (nI i), x4, x5], [], zMk (s, I)) = zQ_128 (19, [.ref 16, .ref t, .int x2, .int 0, x4, x5], [], zMk (s, J)) ∧ (∀ r, r ≠ t → J r = I r) ∧ ∀ k, k < 400 → J t k = if k < i then I t k else if k % 21 = 0 then 0 else 100000000
  | 0, i, I, h => by
    have h : i = 400 := by omega
    subst h
    refine ⟨I, ?_, fun _ _ => rfl, fun k hk => ?_⟩
    · rw [zq_128_2, if_pos (show (400 : Int32) ≤ nI 400 by decide)]
    · rw [if_pos hk]
  | d + 1, i, I, h => by
    have hi : i < 400 := by omega
    have hz : zb (nI i) (zl (zMk (s, I)) t) = true := by rw [zok_l hT]; exact zb_t hi (by omega)
    have hr : nI i - nI i / 21 * 21 = nI (i % 21) := nI_rem i 21 (by omega) (by decide)
    rw [zq_128_2, if_neg (show ¬ (400 : Int32) ≤ nI i from nI_ge (b := 400) hi (by decide)), hr, nI_clamp (show i < 2 ^ 31 by omega), nI_1, zok_a hT, hz, if_pos rfl]
    have fin : ∀ v : Int32, (v = if i % 21 = 0 then 0 else 100000000) → ∃ J, zQ_128 (2, [.ref 16, .ref t, .int x2, .int (nI (i + 1)), x4, x5], [], zMk (s, zwA I t (upd (I t) i v))) = zQ_128 (19, [.ref 16, .ref t, .int x2, .int 0, x4, x5], [], zMk (s, J)) ∧ (∀ r, r ≠ t → J r = I r) ∧ ∀ k, k < 400 → J t k = if k < i then I t k else if k % 21 = 0 then 0 else 100000000 := by
      intro v hv
      obtain ⟨J, e, j1, j2⟩ := zlp128a s hT x2 x4 x5 d (i + 1) (zwA I t (upd (I t) i v)) (by omega)
      refine ⟨J, e, fun r hr => (j1 r hr).trans (zwA_n hr), fun k hk => ?_⟩
      rw [j2 k hk, zwA_s, upd_at]
      by_cases hki : k = i
      · subst hki
        rw [if_pos (Nat.lt_succ_self k), if_pos rfl, if_neg (Nat.lt_irrefl k)]
        exact hv
      · by_cases hlt : k < i
        · rw [if_pos (show k < i + 1 by omega), if_neg hki, if_pos hlt]
        · rw [if_neg (show ¬ k < i + 1 by omega), if_neg hlt]
    by_cases h0 : i % 21 = 0
    · rw [h0, if_neg (not_not_intro (show nI 0 = 0 from rfl)), if_pos rfl]
      exact fin 0 (by rw [if_pos h0])
    · rw [if_pos (show ¬ nI (i % 21) = 0 from nI_ne (b := 0) h0 (by omega) (by decide)), if_pos rfl]
      exact fin 100000000 (by rw [if_neg h0])
theorem zlower (s : zQs) {t : Nat} (hT : zok s t) {I : Nat → Nat → Int32} {i v : Nat} (hi : i < 400) (hv : I t i = nI v) (hf : v ≤ 100000000) {o : Option Nat} (ho : ∀ x, o = some x → x ≤ 9999) :
    ∃ J, zf_129 [.ref t, .int (nI i), .int (zpk o)] (zMk (s, I)) = some (.long 0, zMk (s, J)) ∧ (∀ r, r ≠ t → J r = I r) ∧ ∀ k, J t k = if k = i then nI (min v (zvl 32 100000000 o)) else I t k := by
  have hz : zb (nI i) (zl (zMk (s, I)) t) = true := by rw [zok_l hT]; exact zb_t hi (by omega)
  cases o with
  | none =>
    refine ⟨I, ?_, fun _ _ => rfl, fun k => ?_⟩
    · rw [zl_129, if_pos (show zpk none < 0 by decide)]
    · rw [show zvl 32 100000000 none = 100000000 from rfl, Nat.min_eq_left hf]
      split
      · rename_i h; rw [h, hv]
      · rfl
  | some p =>
    have hp := ho p rfl
    have e := zl_129 s I (nI i) (zpk (some p)) t
    rw [if_neg (show ¬ zpk (some p) < 0 from nI_pos (by omega)), if_neg (zok_n hT), zok_a hT, hz, if_pos rfl, if_pos rfl, if_pos rfl, if_pos rfl] at e
    refine ⟨_, e, fun r hr => zwA_n hr, fun k => ?_⟩
    · rw [zwA_s, upd_at, nI_clamp (show i < 2 ^ 31 by omega), hv, show (zpk (some p) <<< ((5 : Int32) &&& 31)) + 1 = nI (32 * p + 1) by rw [show zpk (some p) <<< ((5 : Int32) &&& 31) = nI (32 * p) from nI_shl5 (by omega), nI_1]]
      split
      · show _ = nI (min v (32 * p + 1))
        by_cases hlt : 32 * p + 1 < v
        · rw [if_pos (nI_lt hlt (by omega)), Nat.min_eq_right (by omega)]
        · rw [if_neg (nI_nlt (by omega) (by omega)), Nat.min_eq_left (by omega)]
      · rfl
theorem zix {a b c d : Nat} (hb : b < 20) (hd : d < 20) : (a * 20 + b = c * 20 + d) = (c = a ∧ d = b) := propext ⟨fun h => by omega, fun h => by rw [h.1, h.2]⟩
/-- the table behind so many stairs -/
def ztb (L : zLw) (st : zSt) (l n a b : Nat) : Nat := if a = b then 0 else zwt 32 100000000 (zcs L st l n) a b
theorem ztb_le {L : zLw} {st : zSt} {l n : Nat} (h : ∀ a b x, zcs L st l n a b = some x → x ≤ 9999) (a b : Nat) : ztb L st l n a b ≤ 100000000 := by
  unfold ztb
  split
  · omega
  · rw [zwt_vl]
    cases hx : zcs L st l n a b with
    | none => exact Nat.le_refl _
    | some x =>
      have := h a b x hx
      show 32 * x + 1 ≤ 100000000
      omega
/-- what the class writes when it lays a table -/
def zCt (t : Nat) (I J : Nat → Nat → Int32) : Prop := (∀ r, r ≠ t → r ≠ 7 → r ≠ 8 → r ≠ 34 → r ≠ 15 → r ≠ 41 → J r = I r) ∧ ∀ j, j ≠ 10 → J 8 j = I 8 j ∧ J 34 j = I 34 j
theorem zCt_rfl (t : Nat) (I : Nat → Nat → Int32) : zCt t I I := ⟨fun _ _ _ _ _ _ _ => rfl, fun _ _ => ⟨rfl, rfl⟩⟩
theorem zCt_tr {t : Nat} {I J K : Nat → Nat → Int32} (h : zCt t I J) (g : zCt t J K) : zCt t I K :=
  ⟨fun r t a b c d e => (g.1 r t a b c d e).trans (h.1 r t a b c d e), fun j hj => ⟨(g.2 j hj).1.trans (h.2 j hj).1, (g.2 j hj).2.trans (h.2 j hj).2⟩⟩
theorem zCt_s {t : Nat} {I J : Nat → Nat → Int32} (h : zCs I J) : zCt t I J := ⟨fun r _ a b c d e => h.1 r a b c d e, h.2⟩
theorem zCt_t {t : Nat} (ht : 103 ≤ t) {I J : Nat → Nat → Int32} (h : ∀ r, r ≠ t → J r = I r) : zCt t I J := ⟨fun r hr _ _ _ _ _ => h r hr, fun j _ => ⟨by rw [h 8 (by omega)], by rw [h 34 (by omega)]⟩⟩
theorem zCt_k {t : Nat} (ht : 103 ≤ t) {I J : Nat → Nat → Int32} (h : zCt t I J) (r : Nat) (hr : r < 103) (a : r ≠ 7) (b : r ≠ 8) (c : r ≠ 34) (d : r ≠ 15) (e : r ≠ 41) : J r = I r := h.1 r (by omega) a b c d e
theorem zLaw_Ct {t : Nat} (ht : 103 ≤ t) {L : zLw} {s : zQs} {I J : Nat → Nat → Int32} (h : zLaw L s I) (g : zCt t I J) : zLaw L s J := by
  have k := zCt_k ht g
  obtain ⟨h1, h2, h3⟩ := h
  obtain ⟨g1, g2⟩ := g
  refine ⟨h1, ?_, ?_⟩
  · rw [k 58 (by decide) (by decide) (by decide) (by decide) (by decide) (by decide), k 70 (by decide) (by decide) (by decide) (by decide) (by decide) (by decide), k 71 (by decide) (by decide) (by decide) (by decide) (by decide) (by decide), k 72 (by decide) (by decide) (by decide) (by decide) (by decide) (by decide), k 73 (by decide) (by decide) (by decide) (by decide) (by decide) (by decide), k 74 (by decide) (by decide) (by decide) (by decide) (by decide) (by decide)]
    exact h2
  · rcases h3 with ⟨a, b, c⟩ | ⟨a, b, c⟩
    · refine Or.inl ⟨a, b, ?_⟩
      rw [(g2 7 (by decide)).1, (g2 8 (by decide)).1, k 9 (by decide) (by decide) (by decide) (by decide) (by decide) (by decide), k 10 (by decide) (by decide) (by decide) (by decide) (by decide) (by decide), k 11 (by decide) (by decide) (by decide) (by decide) (by decide) (by decide), k 12 (by decide) (by decide) (by decide) (by decide) (by decide) (by decide), k 13 (by decide) (by decide) (by decide) (by decide) (by decide) (by decide), k 14 (by decide) (by decide) (by decide) (by decide) (by decide) (by decide)]
      exact c
    · refine Or.inr ⟨a, b, ?_⟩
      rw [(g2 7 (by decide)).2, (g2 8 (by decide)).2, k 35 (by decide) (by decide) (by decide) (by decide) (by decide) (by decide), k 36 (by decide) (by decide) (by decide) (by decide) (by decide) (by decide), k 37 (by decide) (by decide) (by decide) (by decide) (by decide) (by decide), k 38 (by decide) (by decide) (by decide) (by decide) (by decide) (by decide), k 39 (by decide) (by decide) (by decide) (by decide) (by decide) (by decide), k 40 (by decide) (by decide) (by decide) (by decide) (by decide) (by decide)]
      exact c
/-- what the class knows of the town when it lays a table -/
def zTwn (st : zSt) (I : Nat → Nat → Int32) : Prop := st.P ≤ 20 ∧ st.S ≤ 40 ∧ (∀ j, j < st.P → st.ht j ≤ 200 ∧ I 2 j = nI (st.ht j)) ∧ I 1 7 = nI st.W ∧ I 1 11 = nI st.S ∧ I 1 10 = nI st.P ∧
    (∀ j, j < st.S → st.sa j < st.P ∧ st.sb j < st.P ∧ st.sa j ≠ st.sb j ∧ st.so j ≤ 2 ∧ I 4 j = nI (st.sa j) ∧ I 5 j = nI (st.sb j) ∧ I 6 j = nI (st.so j))
theorem zTwn_Ct {t : Nat} (ht : 103 ≤ t) {st : zSt} {I J : Nat → Nat → Int32} (h : zTwn st I) (g : zCt t I J) : zTwn st J := by
  have k := zCt_k ht g
  obtain ⟨a, b, c, d, e, f, i⟩ := h
  refine ⟨a, b, fun j hj => ?_, ?_, ?_, ?_, fun j hj => ?_⟩
  · rw [k 2 (by decide) (by decide) (by decide) (by decide) (by decide) (by decide)]
    exact c j hj
  · rw [k 1 (by decide) (by decide) (by decide) (by decide) (by decide) (by decide)]
    exact d
  · rw [k 1 (by decide) (by decide) (by decide) (by decide) (by decide) (by decide)]
    exact e
  · rw [k 1 (by decide) (by decide) (by decide) (by decide) (by decide) (by decide)]
    exact f
  · rw [k 4 (by decide) (by decide) (by decide) (by decide) (by decide) (by decide), k 5 (by decide) (by decide) (by decide) (by decide) (by decide) (by decide), k 6 (by decide) (by decide) (by decide) (by decide) (by decide) (by decide)]
    exact i j hj
theorem zTwn_ht {st : zSt} {I : Nat → Nat → Int32} (h : zTwn st I) : ∀ j, j < st.P → st.ht j ≤ 200 := fun j hj => (h.2.2.1 j hj).1
theorem zTwn_cs {st : zSt} {I : Nat → Nat → Int32} (h : zTwn st I) (L : zLw) (l : Nat) {n : Nat} (hn : n ≤ st.S) : ∀ a b x, zcs L st l n a b = some x → x ≤ 9999 :=
  zcs_le (zTwn_ht h) l n (fun j hj => ⟨(h.2.2.2.2.2.2 j (by omega)).1, (h.2.2.2.2.2.2 j (by omega)).2.1⟩)
theorem zlp128b (s : zQs) {t : Nat} (hT : zok s t) {L : zLw} {st : zSt} {l : Nat} : ∀ d n (I : Nat → Nat → Int32) (x4 x5 : Value), n + d = st.S → zLaw L s I → zTwn st I →
    (∀ a b, a < 20 → b < 20 → I t (a * 20 + b) = nI (ztb L st l n a b)) →
    ∃ J, zQ_128 (19, [.ref 16, .ref t, .int (nI l), .int (nI n), x4, x5], [], zMk (s, I)) = some (.long 0, zMk (s, J)) ∧ zCt t I J ∧ ∀ a b, a < 20 → b < 20 → J t (a * 20 + b) = nI (ztb L st l st.S a b)
  | 0, n, I, x4, x5, h, hL, hw, hI => by
    have h : n = st.S := by omega
    subst h
    refine ⟨I, ?_, zCt_rfl t I, hI⟩
    have hS := hw.2.1
    rw [zq_128_19, hw.2.2.2.2.1, if_pos (nI_le (Nat.le_refl _) (by omega))]
  | d + 1, n, I, x4, x5, h, hL, hw, hI => by
    have hn : n < st.S := by omega
    obtain ⟨hP, hS, ht, hW, hS1, hP1, hs⟩ := id hw
    obtain ⟨sa, sb, sn, so, i4, i5, i6⟩ := hs n hn
    have zn := zb_t (show n < 40 by omega) (show n < 2 ^ 31 by omega)
    have cn : (nI n).toNatClampNeg = n := nI_clamp (by omega)
    have hle := zTwn_cs hw L l (n := n) (by omega)
    have h103 : 103 ≤ t := hT.1
    have t7 : t ≠ 7 ∧ t ≠ 8 ∧ t ≠ 34 ∧ t ≠ 15 ∧ t ≠ 41 := by omega
    obtain ⟨J1, e1, c1⟩ := zalong s (st := st) (l := l) hL ht hP hW (show n < 40 by omega) i4 i5 i6 sa sb so false
    have tt1 : J1 t = I t := c1.1 t t7.1 t7.2.1 t7.2.2.1 t7.2.2.2.1 t7.2.2.2.2
    have v1 : J1 t (st.sa n * 20 + st.sb n) = nI (ztb L st l n (st.sa n) (st.sb n)) := by
      rw [tt1]
      exact hI _ _ (by omega) (by omega)
    have g1 := zgo_le (L := L) (fun j hj => (ht j hj).1) sa sb false l
    have g2 := zgo_le (L := L) (fun j hj => (ht j hj).1) sa sb true l
    obtain ⟨J2, e2, j1, j2⟩ := zlower s hT (I := J1) (show st.sa n * 20 + st.sb n < 400 by omega) v1 (ztb_le hle _ _) g1
    have c2 : zCt t I J2 := zCt_tr (zCt_s c1) (zCt_t h103 j1)
    have hL2 := zLaw_Ct h103 hL c2
    have hw2 := zTwn_Ct h103 hw c2
    obtain ⟨-, -, ht2, hW2, -, -, hs2⟩ := hw2
    obtain ⟨-, -, -, -, p4, p5, p6⟩ := hs2 n hn
    obtain ⟨J3, e3, c3⟩ := zalong s (st := st) (l := l) hL2 ht2 hP hW2 (show n < 40 by omega) p4 p5 p6 sa sb so true
    have tt3 : J3 t = J2 t := c3.1 t t7.1 t7.2.1 t7.2.2.1 t7.2.2.2.1 t7.2.2.2.2
    have v3 : J3 t (st.sb n * 20 + st.sa n) = nI (ztb L st l n (st.sb n) (st.sa n)) := by
      rw [tt3, j2, if_neg (by omega), tt1]
      exact hI _ _ (by omega) (by omega)
    obtain ⟨J4, e4, j3, j4⟩ := zlower s hT (I := J3) (show st.sb n * 20 + st.sa n < 400 by omega) v3 (ztb_le hle _ _) g2
    have c4 : zCt t I J4 := zCt_tr c2 (zCt_tr (zCt_s c3) (zCt_t h103 j3))
    have hI4 : ∀ a b, a < 20 → b < 20 → J4 t (a * 20 + b) = nI (ztb L st l (n + 1) a b) := by
      intro a b ha hb
      rw [j4, tt3, j2, tt1, hI a b ha hb]
      simp only [zix hb (show st.sa n < 20 by omega), zix hb (show st.sb n < 20 by omega)]
      unfold ztb
      by_cases hab : a = b
      · subst hab
        rw [if_pos rfl, if_pos rfl, if_neg (fun q => sn (q.2.trans q.1.symm)), if_neg (fun q => sn (q.1.trans q.2.symm))]
      · rw [if_neg hab, if_neg hab, if_neg (Ne.symm sn), if_neg sn, zwt_vl, zwt_vl, zwt_vl, zwt_vl]
        show _ = nI (zvl 32 100000000 (zmn (zmn (zcs L st l n a b) (if st.sa n = a ∧ st.sb n = b then zgo L st n false l else none)) (if st.sb n = a ∧ st.sa n = b then zgo L st n true l else none)))
        rw [zvl_mn (by decide) (zmn_le (hle a b) (zif_le g1)) (zif_le g2), zvl_mn (by decide) (hle a b) (zif_le g1)]
        have hf : zvl 32 100000000 (zcs L st l n a b) ≤ 100000000 := by
          have := ztb_le hle a b
          unfold ztb at this
          rw [if_neg hab, zwt_vl] at this
          exact this
        by_cases h1 : st.sb n = a ∧ st.sa n = b
        · have h2 : ¬ (st.sa n = a ∧ st.sb n = b) := fun q => sn (q.1.trans h1.1.symm)
          rw [if_pos h1, if_pos h1, if_neg h2, h1.1, h1.2]
          show _ = nI (min (min _ 100000000) _)
          rw [Nat.min_eq_left hf]
        · rw [if_neg h1, if_neg h1]
          by_cases h2 : st.sa n = a ∧ st.sb n = b
          · rw [if_pos h2, if_pos h2, h2.1, h2.2]
            show _ = nI (min _ 100000000)
            rw [Nat.min_eq_left (Nat.le_trans (Nat.min_le_left _ _) hf)]
          · rw [if_neg h2, if_neg h2]
            show _ = nI (min (min _ 100000000) 100000000)
            rw [Nat.min_eq_left hf, Nat.min_eq_left hf]
    obtain ⟨J, e, cJ, jt⟩ := zlp128b s hT d (n + 1) J4 (.int (nI (st.sa n))) (.int (nI (st.sb n))) (by omega) (zLaw_Ct h103 hL c4) (zTwn_Ct h103 hw c4) hI4
    refine ⟨J, ?_, zCt_tr c4 cJ, jt⟩
    have e1 : zf_115 [.ref 1, .int (nI n), .int 0, .int (nI l)] (zMk (s, I)) = some (.int (zpk (zgo L st n false l)), zMk (s, J1)) := e1
    have e3 : zf_115 [.ref 1, .int (nI n), .int 1, .int (nI l)] (zMk (s, J2)) = some (.int (zpk (zgo L st n true l)), zMk (s, J3)) := e3
    have m1 : nI (st.sa n) * 20 + nI (st.sb n) = nI (st.sa n * 20 + st.sb n) := by rw [show nI (st.sa n) * 20 = nI (st.sa n * 20) from nI_mul _ 20, nI_add]
    have m2 : nI (st.sb n) * 20 + nI (st.sa n) = nI (st.sb n * 20 + st.sa n) := by rw [show nI (st.sb n) * 20 = nI (st.sb n * 20) from nI_mul _ 20, nI_add]
    rw [zq_128_19, hS1, if_neg (nI_ge hn (by omega)), zl_102, if_pos zn, zcI_some, zq_128_28, zl_103, if_pos zn, zcI_some, zq_128_33, cn, i4, i5, e1, zcI_some, m1, zq_128_46, e2, zcV_some, zq_128_47, e3, zcI_some, m2, zq_128_59, e4, zcV_some, zq_128_60, nI_1]
    exact e
