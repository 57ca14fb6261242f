/-! THE LAW'S TEXT, READ: THE LAW THAT COMES OF IT -/
theorem zyTg_jump {C : zCd} {a b : Nat} {T0 T1 : List Bool} (h : zyTg C a b T0 T1) : ∀ i, a ≤ i → i < b → 11 ≤ (C i).1 → i < (C i).2 := by
  obtain ⟨ty, -, -, h3⟩ := h
  intro i h1 h2 h11
  obtain ⟨-, t⟩ := h3 i h1 h2
  rcases t with t | t | t | t | ⟨-, T, -, -, v, -⟩
  · have := t.1; omega
  · have := t.1; omega
  · have := t.2.1; omega
  · have := t.1; omega
  · exact v
def zyWf (n : Nat) (Z : zyZ) : Prop := Z.s.m ≤ Z.s.p ∧ Z.s.p ≤ n ∧ (∀ i, i < Z.s.m → Z.s.c i = (1, 3) → Z.s.l = true) ∧ (∀ i, i < Z.s.m → 11 ≤ (Z.s.c i).1 → i < (Z.s.c i).2) ∧ ∀ q, q < Z.n → (Z.q q).1 ≤ (Z.q q).2.1 ∧ (Z.q q).2.1 ≤ (Z.q q).2.2 ∧ (Z.q q).2.2 ≤ Z.s.m ∧ zyTg Z.s.c (Z.q q).2.1 (Z.q q).2.2 [] [true] ∧ (Z.k q = false → zyTg Z.s.c (Z.q q).1 (Z.q q).2.1 [] [false])
theorem zyWf_cl {T : Nat → Nat} {n : Nat} (hT : ∀ S, zyn T n S < 256 ∨ zyn T n S = 1000) (hn : n ≤ 160) {Z : zyZ} (hW : zyWf n Z) (he : Z.s.e = 0) (h : (zycl T n Z).s.e = 0) : zyWf n (zycl T n Z) ∧ (zycl T n Z).n = Z.n + 1 := by
  have hb0 : (zyb T n Z).e = 0 := by
    by_cases w : (zyb T n Z).e = 0
    · exact w
    · have hz : (zycl T n Z).s = zyb T n Z := by
        unfold zycl
        rw [if_neg (not_not_intro he), if_pos w]
        rfl
      rw [hz] at h
      exact absurd h w
  obtain ⟨-, hk, h12⟩ := zyb_e he hb0
  have hz : zycl T n Z = (zyw T n (zyn T n Z.s) (zya Z.s), (fun j => if j = Z.n then decide (zyn T n Z.s = 110) else Z.k j), (fun j => if j = Z.n then (Z.s.m, (zyv T n (zyn T n Z.s) (zya Z.s)).m, (zyw T n (zyn T n Z.s) (zya Z.s)).m) else Z.q j), Z.n + 1) := by
    unfold zycl
    rw [if_neg (not_not_intro he), if_neg (not_not_intro hb0)]
  rw [hz] at h ⊢
  have h : (zyw T n (zyn T n Z.s) (zya Z.s)).e = 0 := h
  obtain ⟨w1, w2, w3, w4, w5⟩ := hW
  have hl : Z.s.p < n := (zyn_lt (T := T) (n := n) (S := Z.s) rfl (by omega)).1
  -- backwards
  obtain ⟨q1, q2, q3⟩ := zyt_ok (T := T) (n := n) (c := 41) (S := zycn T n (zypi T n 8) 1 (zyv T n (zyn T n Z.s) (zya Z.s))) (by decide) h
  have hv0 : (zyv T n (zyn T n Z.s) (zya Z.s)).e = 0 := by
    by_cases w : (zyv T n (zyn T n Z.s) (zya Z.s)).e = 0
    · exact w
    · have k := (zyk_cn (T := T) (n := n) (PC := zypi T n 8) (zyk_pi 8) 1 (zyv T n (zyn T n Z.s) (zya Z.s))).1 w
      rw [k] at q1
      exact absurd q1 w
  obtain ⟨r1, r2, r3⟩ := zyt_ok (T := T) (n := n) (c := 40) (S := zyu T n (zyn T n Z.s) (zya Z.s)) (by decide) hv0
  have r3 : zyv T n (zyn T n Z.s) (zya Z.s) = zya (zyu T n (zyn T n Z.s) (zya Z.s)) := r3
  have q3 : zyw T n (zyn T n Z.s) (zya Z.s) = zya (zycn T n (zypi T n 8) 1 (zyv T n (zyn T n Z.s) (zya Z.s))) := q3
  have hlu : (zyu T n (zyn T n Z.s) (zya Z.s)).p < n := (zyn_lt r2 (by decide)).1
  -- the price
  have pr : zyK (zya Z.s) (zyu T n (zyn T n Z.s) (zya Z.s)) ∧ (zyn T n Z.s = 99 → zyTg (zyu T n (zyn T n Z.s) (zya Z.s)).c Z.s.m (zyu T n (zyn T n Z.s) (zya Z.s)).m [] [false]) ∧ (zyn T n Z.s ≠ 99 → (zyu T n (zyn T n Z.s) (zya Z.s)).m = Z.s.m) := by
    by_cases q : zyn T n Z.s = 99
    · have hu : zyu T n (zyn T n Z.s) (zya Z.s) = zysu T n 8 0 (zya Z.s) := if_pos q
      rw [hu] at r1 ⊢
      obtain ⟨k1, k2⟩ := zyT_su hT 8 0 (by decide) (by decide) (zya Z.s) [] (Nat.zero_le _) he (by show Z.s.m ≤ Z.s.p + 1; omega) hl hn r1
      exact ⟨k1, fun _ => k2, fun w => absurd q w⟩
    · have hu : zyu T n (zyn T n Z.s) (zya Z.s) = zya Z.s := if_neg q
      rw [hu]
      exact ⟨zyK_rfl _, fun w => absurd w q, fun _ => rfl⟩
  obtain ⟨k1, k2, k3⟩ := pr
  have p1 := k1.1
  have p1 : Z.s.m ≤ (zyu T n (zyn T n Z.s) (zya Z.s)).m := p1
  have p2 := k1.2.1
  have p2 : (zyu T n (zyn T n Z.s) (zya Z.s)).m + (Z.s.p + 1) ≤ Z.s.m + (zyu T n (zyn T n Z.s) (zya Z.s)).p := p2
  have vm : (zyv T n (zyn T n Z.s) (zya Z.s)).m = (zyu T n (zyn T n Z.s) (zya Z.s)).m := by rw [r3]; rfl
  have vp : (zyv T n (zyn T n Z.s) (zya Z.s)).p = (zyu T n (zyn T n Z.s) (zya Z.s)).p + 1 := by rw [r3]; rfl
  have vc : (zyv T n (zyn T n Z.s) (zya Z.s)).c = (zyu T n (zyn T n Z.s) (zya Z.s)).c := by rw [r3]; rfl
  obtain ⟨j1, j2⟩ := zyT_cn (T := T) (o := 1) (zyT_pi hT 8 1 (by decide) (by decide)) (zyk_pi 8) (zyv T n (zyn T n Z.s) (zya Z.s)) hv0 (by omega) (by omega) hn q1
  have wm : (zyw T n (zyn T n Z.s) (zya Z.s)).m = (zycn T n (zypi T n 8) 1 (zyv T n (zyn T n Z.s) (zya Z.s))).m := by rw [q3]; rfl
  have wc : (zyw T n (zyn T n Z.s) (zya Z.s)).c = (zycn T n (zypi T n 8) 1 (zyv T n (zyn T n Z.s) (zya Z.s))).c := by rw [q3]; rfl
  have kw : zyK Z.s (zyw T n (zyn T n Z.s) (zya Z.s)) := by
    rw [q3]
    refine zyK_tr (zyK_a _) (zyK_tr k1 (zyK_tr ?_ (zyK_tr j1 (zyK_a _))))
    rw [r3]
    exact zyK_a _
  have n1 := j1.1
  have hlw : (zycn T n (zypi T n 8) 1 (zyv T n (zyn T n Z.s) (zya Z.s))).p < n := (zyn_lt q2 (by decide)).1
  have wp : (zyw T n (zyn T n Z.s) (zya Z.s)).p = (zycn T n (zypi T n 8) 1 (zyv T n (zyn T n Z.s) (zya Z.s))).p + 1 := by rw [q3]; rfl
  -- the steps of the price behind it
  have tg1 : zyn T n Z.s = 99 → zyTg (zyw T n (zyn T n Z.s) (zya Z.s)).c Z.s.m (zyu T n (zyn T n Z.s) (zya Z.s)).m [] [false] := fun q => zyTg_cg (k2 q) (fun i _ hi => by rw [wc, j1.2.2.1 i (by omega), vc])
  have tg2 : zyTg (zyw T n (zyn T n Z.s) (zya Z.s)).c (zyu T n (zyn T n Z.s) (zya Z.s)).m (zyw T n (zyn T n Z.s) (zya Z.s)).m [] [true] := by
    rw [wc, wm, ← vm]
    exact j2
  refine ⟨⟨?_, ?_, ?_, ?_, ?_⟩, rfl⟩
  · show (zyw T n (zyn T n Z.s) (zya Z.s)).m ≤ (zyw T n (zyn T n Z.s) (zya Z.s)).p
    have := kw.2.1
    omega
  · show (zyw T n (zyn T n Z.s) (zya Z.s)).p ≤ n
    omega
  · intro i hi q
    have hi : i < (zyw T n (zyn T n Z.s) (zya Z.s)).m := hi
    have q : (zyw T n (zyn T n Z.s) (zya Z.s)).c i = (1, 3) := q
    show (zyw T n (zyn T n Z.s) (zya Z.s)).l = true
    by_cases c : i < Z.s.m
    · rw [kw.2.2.1 i c] at q
      exact kw.2.2.2.1 (w3 i c q)
    · exact kw.2.2.2.2 i (by omega) hi q
  · intro i hi q
    have hi : i < (zyw T n (zyn T n Z.s) (zya Z.s)).m := hi
    have q : 11 ≤ ((zyw T n (zyn T n Z.s) (zya Z.s)).c i).1 := q
    show i < ((zyw T n (zyn T n Z.s) (zya Z.s)).c i).2
    by_cases c : i < Z.s.m
    · rw [kw.2.2.1 i c] at q ⊢
      exact w4 i c q
    · by_cases c2 : i < (zyu T n (zyn T n Z.s) (zya Z.s)).m
      · by_cases q99 : zyn T n Z.s = 99
        · exact zyTg_jump (tg1 q99) i (by omega) c2 q
        · have := k3 q99
          omega
      · exact zyTg_jump tg2 i (by omega) hi q
  · intro i hi
    have hi : i < Z.n + 1 := hi
    show (if i = Z.n then (Z.s.m, (zyv T n (zyn T n Z.s) (zya Z.s)).m, (zyw T n (zyn T n Z.s) (zya Z.s)).m) else Z.q i).1 ≤ (if i = Z.n then (Z.s.m, (zyv T n (zyn T n Z.s) (zya Z.s)).m, (zyw T n (zyn T n Z.s) (zya Z.s)).m) else Z.q i).2.1 ∧ (if i = Z.n then (Z.s.m, (zyv T n (zyn T n Z.s) (zya Z.s)).m, (zyw T n (zyn T n Z.s) (zya Z.s)).m) else Z.q i).2.1 ≤ (if i = Z.n then (Z.s.m, (zyv T n (zyn T n Z.s) (zya Z.s)).m, (zyw T n (zyn T n Z.s) (zya Z.s)).m) else Z.q i).2.2 ∧ (if i = Z.n then (Z.s.m, (zyv T n (zyn T n Z.s) (zya Z.s)).m, (zyw T n (zyn T n Z.s) (zya Z.s)).m) else Z.q i).2.2 ≤ (zyw T n (zyn T n Z.s) (zya Z.s)).m ∧ zyTg (zyw T n (zyn T n Z.s) (zya Z.s)).c (if i = Z.n then (Z.s.m, (zyv T n (zyn T n Z.s) (zya Z.s)).m, (zyw T n (zyn T n Z.s) (zya Z.s)).m) else Z.q i).2.1 (if i = Z.n then (Z.s.m, (zyv T n (zyn T n Z.s) (zya Z.s)).m, (zyw T n (zyn T n Z.s) (zya Z.s)).m) else Z.q i).2.2 [] [true] ∧ ((if i = Z.n then decide (zyn T n Z.s = 110) else Z.k i) = false → zyTg (zyw T n (zyn T n Z.s) (zya Z.s)).c (if i = Z.n then (Z.s.m, (zyv T n (zyn T n Z.s) (zya Z.s)).m, (zyw T n (zyn T n Z.s) (zya Z.s)).m) else Z.q i).1 (if i = Z.n then (Z.s.m, (zyv T n (zyn T n Z.s) (zya Z.s)).m, (zyw T n (zyn T n Z.s) (zya Z.s)).m) else Z.q i).2.1 [] [false])
    by_cases e : i = Z.n
    · rw [if_pos e, if_pos e]
      show Z.s.m ≤ (zyv T n (zyn T n Z.s) (zya Z.s)).m ∧ (zyv T n (zyn T n Z.s) (zya Z.s)).m ≤ (zyw T n (zyn T n Z.s) (zya Z.s)).m ∧ (zyw T n (zyn T n Z.s) (zya Z.s)).m ≤ (zyw T n (zyn T n Z.s) (zya Z.s)).m ∧ zyTg _ (zyv T n (zyn T n Z.s) (zya Z.s)).m (zyw T n (zyn T n Z.s) (zya Z.s)).m [] [true] ∧ (decide (zyn T n Z.s = 110) = false → zyTg _ Z.s.m (zyv T n (zyn T n Z.s) (zya Z.s)).m [] [false])
      rw [vm]
      refine ⟨p1, by omega, Nat.le_refl _, tg2, fun q => tg1 ?_⟩
      have q := of_decide_eq_false q
      omega
    · rw [if_neg e, if_neg e]
      obtain ⟨b1, b2, b3, b4, b5⟩ := w5 i (by omega)
      have km := kw.1
      exact ⟨b1, b2, by omega, zyTg_cg b4 (fun j _ hj => kw.2.2.1 j (by omega)), fun q => zyTg_cg (b5 q) (fun j _ hj => kw.2.2.1 j (by omega))⟩
theorem zyWf_ls {T : Nat → Nat} {n : Nat} (hT : ∀ S, zyn T n S < 256 ∨ zyn T n S = 1000) (hn : n ≤ 160) : ∀ f Z, zyWf n Z → Z.s.e = 0 → (zyls T n f Z).s.e = 0 → zyWf n (zyls T n f Z) ∧ Z.n ≤ (zyls T n f Z).n
  | 0, Z, hW, _, _ => ⟨hW, Nat.le_refl _⟩
  | f + 1, Z, hW, he, h => by
    rw [zyls_s] at h ⊢
    by_cases c : Z.s.e = 0 ∧ Z.s.p < n
    · rw [if_pos c] at h ⊢
      have hc : (zycl T n (zyt T n 59 Z.s, Z.2)).s.e = 0 := by
        by_cases w : (zycl T n (zyt T n 59 Z.s, Z.2)).s.e = 0
        · exact w
        · have hz3 : zyls T n f (zycl T n (zyt T n 59 Z.s, Z.2)) = zycl T n (zyt T n 59 Z.s, Z.2) := by
            cases f with
            | zero => rfl
            | succ f => rw [zyls_s, if_neg (show ¬ ((zycl T n (zyt T n 59 Z.s, Z.2)).s.e = 0 ∧ (zycl T n (zyt T n 59 Z.s, Z.2)).s.p < n) from fun q => w q.1)]
          rw [hz3] at h
          exact h
      have h0 : (zyt T n 59 Z.s).e = 0 := by
        by_cases w : (zyt T n 59 Z.s).e = 0
        · exact w
        · have hz : zycl T n (zyt T n 59 Z.s, Z.2) = (zyt T n 59 Z.s, Z.2) := if_pos w
          rw [hz] at hc
          exact absurd hc w
      obtain ⟨-, q59, hz⟩ := zyt_ok (by decide) h0
      rw [hz] at h hc ⊢
      obtain ⟨w1, w2, w3, w4, w5⟩ := hW
      have hW' : zyWf n (zya Z.s, Z.2) := ⟨by show Z.s.m ≤ Z.s.p + 1; omega, c.2, w3, w4, w5⟩
      obtain ⟨d1, d2⟩ := zyWf_cl hT hn hW' he hc
      obtain ⟨e1, e2⟩ := zyWf_ls hT hn f _ d1 hc h
      have d2 : (zycl T n (zya Z.s, Z.2)).n = Z.n + 1 := d2
      exact ⟨e1, by omega⟩
    · rw [if_neg c] at h ⊢
      exact ⟨hW, Nat.le_refl _⟩
theorem zylw_e {T : Nat → Nat} {n : Nat} (h : (zylw T n).s.e = 0) : (zycl T n zyZ0).s.e = 0 := by
  by_cases w : (zycl T n zyZ0).s.e = 0
  · exact w
  · have hz : zylw T n = zycl T n zyZ0 := by
      unfold zylw
      rw [zyls_s, if_neg (show ¬ ((zycl T n zyZ0).s.e = 0 ∧ (zycl T n zyZ0).s.p < n) from fun q => w q.1)]
    rw [hz] at h
    exact h
theorem zyWf_lw {T : Nat → Nat} {n : Nat} (hT : ∀ S, zyn T n S < 256 ∨ zyn T n S = 1000) (hn : n ≤ 160) (h : (zylw T n).s.e = 0) : zyWf n (zylw T n) ∧ 1 ≤ (zylw T n).n := by
  have h0 := zylw_e h
  have hW0 : zyWf n zyZ0 := ⟨Nat.zero_le _, Nat.zero_le _, fun i hi => absurd hi (Nat.not_lt_zero i), fun i hi => absurd hi (Nat.not_lt_zero i), fun q hq => absurd hq (Nat.not_lt_zero q)⟩
  obtain ⟨d1, d2⟩ := zyWf_cl hT hn hW0 rfl h0
  obtain ⟨e1, e2⟩ := zyWf_ls hT hn 12 _ d1 h0 h
  have d2 : (zycl T n zyZ0).n = 0 + 1 := d2
  refine ⟨e1, ?_⟩
  have e2 : (zycl T n zyZ0).n ≤ (zylw T n).n := e2
  omega
def zyL (Z : zyZ) : zLw := (Z.s.c, Z.s.m, Z.k, Z.q, Z.n, Z.s.l)
theorem zyL_wf {n : Nat} {Z : zyZ} (hn : n ≤ 160) (h12 : Z.n ≤ 12) (h : zyWf n Z) : zwf (zyL Z) := by
  obtain ⟨w1, w2, w3, w4, w5⟩ := h
  refine ⟨h12, by show Z.s.m ≤ 160; omega, fun hl i hi q => ?_, fun q hq => ?_⟩
  · have hi : i < Z.s.m := hi
    have hl : Z.s.l = false := hl
    have q : (Z.s.c i).1 = 1 ∧ (Z.s.c i).2 = 3 := q
    have := w3 i hi (Prod.ext q.1 q.2)
    rw [hl] at this
    cases this
  · obtain ⟨b1, b2, b3, b4, b5⟩ := w5 q hq
    refine ⟨b1, b2, b3, ?_, fun hk => ?_⟩
    · obtain ⟨ty, t1, t2, t3⟩ := b4
      exact ⟨ty, t3, t1, t2⟩
    · obtain ⟨ty, t1, t2, t3⟩ := b5 hk
      exact ⟨ty, t3, t1, t2⟩
theorem zyL_C {s : zQs} {O : Nat} {T : Nat → Nat} {n : Nat} {Z : zyZ} {I : Nat → Nat → Int32} (h : zyC s O T n Z.s I) (hM : zyM O Z I) : zLC (zyL Z) (I O 7) (I O 8) (I (O + 1)) (I (O + 2)) (I (O + 3)) (I (O + 4)) (I (O + 5)) (I (O + 6)) :=
  ⟨hM.2.1, h.2.2.2.2.2.2.2.2.2.2.2.1, h.2.2.2.2.2.2.2.2.2.2.2.2, hM.2.2⟩
theorem zlp210a {s : zQs} {m : Nat} (hm : m ≤ 160) (x1 x2 : Int32) : ∀ d i (I : Nat → Nat → Int32), i + d = m → I 58 14 = nI m → (∀ j, j < i → I 70 j = I 64 j) →
    ∃ J, zQ_210 (59, [.ref 58, .int x1, .int x2, .int (nI i)], [], zMk (s, I)) = zQ_210 (75, [.ref 58, .int x1, .int x2, .int 0], [], zMk (s, J)) ∧ (∀ r, r ≠ 70 → J r = I r) ∧ ∀ j, j < m → J 70 j = I 64 j
  | 0, i, I, h, h14, h70 => by
    have h : i = m := by omega
    subst h
    refine ⟨I, ?_, fun _ _ => rfl, h70⟩
    rw [zq_210_59, h14, if_pos (nI_le (Nat.le_refl _) (by omega))]
  | d + 1, i, I, h, h14, h70 => by
    have hi : i < m := by omega
    obtain ⟨J, e, a, b⟩ := zlp210a (s := s) hm x1 x2 d (i + 1) (zwA I 70 (upd (I 70) i (I 64 i))) (by omega) (by rw [zwA_n (by decide)]; exact h14) (fun j hj => by
      rw [zwA_s, upd_at, zwA_n (show (64 : Nat) ≠ 70 by decide)]
      by_cases q : j = i
      · rw [if_pos q, q]
      · rw [if_neg q]; exact h70 j (by omega))
    refine ⟨J, ?_, fun r hr => (a r hr).trans (zwA_n hr), fun j hj => by rw [b j hj, zwA_n (by decide)]⟩
    have z := zb_t (show i < 180 by omega) (show i < 2 ^ 31 by omega)
    rw [zq_210_59, h14, if_neg (nI_ge hi (by omega)), if_pos z, if_pos z, nI_clamp (show i < 2 ^ 31 by omega), nI_1]
    exact e
theorem zlp210b {s : zQs} {c : Nat} (hc : c ≤ 12) (x1 x2 : Int32) : ∀ d i (I : Nat → Nat → Int32), i + d = c → I 58 16 = nI c → (∀ j, j < i → I 71 j = I 66 j ∧ I 72 j = I 67 j ∧ I 73 j = I 68 j ∧ I 74 j = I 69 j) →
    ∃ J, zQ_210 (75, [.ref 58, .int x1, .int x2, .int (nI i)], [], zMk (s, I)) = some (.int (nI c), zMk (s, J)) ∧ (∀ r, (r < 71 ∨ 74 < r) → J r = I r) ∧ ∀ j, j < c → J 71 j = I 66 j ∧ J 72 j = I 67 j ∧ J 73 j = I 68 j ∧ J 74 j = I 69 j
  | 0, i, I, h, h16, h7 => by
    have h : i = c := by omega
    subst h
    refine ⟨I, ?_, fun _ _ => rfl, h7⟩
    rw [zq_210_75, h16, if_pos (nI_le (Nat.le_refl _) (by omega))]
  | d + 1, i, I, h, h16, h7 => by
    have hi : i < c := by omega
    have ci : (nI i).toNatClampNeg = i := nI_clamp (by omega)
    have z := zb_t (show i < 12 by omega) (show i < 2 ^ 31 by omega)
    obtain ⟨J, e, a, b⟩ := zlp210b (s := s) hc x1 x2 d (i + 1) (zwA (zwA (zwA (zwA I 71 (upd (I 71) i (I 66 i))) 72 (upd (I 72) i (I 67 i))) 73 (upd (I 73) i (I 68 i))) 74 (upd (I 74) i (I 69 i))) (by omega) (by rw [zwA_n (by decide), zwA_n (by decide), zwA_n (by decide), zwA_n (by decide)]; exact h16) (fun j hj => by
      rw [zwA_n (show (71 : Nat) ≠ 74 by decide), zwA_n (show (71 : Nat) ≠ 73 by decide), zwA_n (show (71 : Nat) ≠ 72 by decide), zwA_s, zwA_n (show (72 : Nat) ≠ 74 by decide), zwA_n (show (72 : Nat) ≠ 73 by decide), zwA_s, zwA_n (show (73 : Nat) ≠ 74 by decide), zwA_s, zwA_s, zwA_n (show (66 : Nat) ≠ 74 by decide), zwA_n (show (66 : Nat) ≠ 73 by decide), zwA_n (show (66 : Nat) ≠ 72 by decide), zwA_n (show (66 : Nat) ≠ 71 by decide), zwA_n (show (67 : Nat) ≠ 74 by decide), zwA_n (show (67 : Nat) ≠ 73 by decide), zwA_n (show (67 : Nat) ≠ 72 by decide), zwA_n (show (67 : Nat) ≠ 71 by decide), zwA_n (show (68 : Nat) ≠ 74 by decide), zwA_n (show (68 : Nat) ≠ 73 by decide), zwA_n (show (68 : Nat) ≠ 72 by decide), zwA_n (show (68 : Nat) ≠ 71 by decide), zwA_n (show (69 : Nat) ≠ 74 by decide), zwA_n (show (69 : Nat) ≠ 73 by decide), zwA_n (show (69 : Nat) ≠ 72 by decide), zwA_n (show (69 : Nat) ≠ 71 by decide), upd_at, upd_at, upd_at, upd_at]
      by_cases q : j = i
      · rw [if_pos q, if_pos q, if_pos q, if_pos q, q]
        exact ⟨rfl, rfl, rfl, rfl⟩
      · rw [if_neg q, if_neg q, if_neg q, if_neg q]
        exact h7 j (by omega))
    refine ⟨J, ?_, fun r hr => by rw [a r hr, zwA_n (by omega), zwA_n (by omega), zwA_n (by omega), zwA_n (by omega)], fun j hj => ?_⟩
    · rw [zq_210_75, h16, if_neg (nI_ge hi (by omega)), if_pos z, if_pos z, if_pos z, if_pos z, if_pos z, if_pos z, if_pos z, if_pos z, ci, nI_1]
      exact e
    · have r := b j hj
      rw [zwA_n (show (66 : Nat) ≠ 74 by decide), zwA_n (show (66 : Nat) ≠ 73 by decide), zwA_n (show (66 : Nat) ≠ 72 by decide), zwA_n (show (66 : Nat) ≠ 71 by decide), zwA_n (show (67 : Nat) ≠ 74 by decide), zwA_n (show (67 : Nat) ≠ 73 by decide), zwA_n (show (67 : Nat) ≠ 72 by decide), zwA_n (show (67 : Nat) ≠ 71 by decide), zwA_n (show (68 : Nat) ≠ 74 by decide), zwA_n (show (68 : Nat) ≠ 73 by decide), zwA_n (show (68 : Nat) ≠ 72 by decide), zwA_n (show (68 : Nat) ≠ 71 by decide), zwA_n (show (69 : Nat) ≠ 74 by decide), zwA_n (show (69 : Nat) ≠ 73 by decide), zwA_n (show (69 : Nat) ≠ 72 by decide), zwA_n (show (69 : Nat) ≠ 71 by decide)] at r
      exact r
/-- the reference's law -/
theorem zf210r {s : zQs} {T : Nat → Nat} {n tp : Nat} {I : Nat → Nat → Int32} (h1 : 1 ≤ n) (hn : n ≤ 160) (htp : n ≤ tp) (htp2 : tp ≤ 200) (h63 : ∀ i, i < n → T i < 256 ∧ I 63 i = zby (T i)) (h9 : I 58 9 = nI tp) :
    ∃ J, zf_210 [.ref 58, .int (nI n)] (zMk (s, I)) = some (.int (if (zylw T n).s.e = 0 then nI (zylw T n).n else zyF (zylw T n).s.e), zMk (s, J)) ∧ (∀ r, r ≠ 58 → (r < 64 ∨ 74 < r) → J r = I r) ∧ (∀ j, (j < 9 ∨ 18 < j) → J 58 j = I 58 j) ∧ J 58 9 = 0 ∧
      ((zylw T n).s.e = 0 → zLR (zyL (zylw T n)) (J 58 18) (J 70) (J 71) (J 72) (J 73) (J 74)) ∧ ((zylw T n).s.e ≠ 0 → (∀ r, 70 ≤ r → r ≤ 74 → J r = I r) ∧ J 58 18 = I 58 18) := by
  have e179 : ∀ K : Nat → Nat → Int32, zf_179 [.int (nI n), .int 1, .int 160] (zMk (s, K)) = some (.int 1, zMk (s, K)) := fun K => by
    rw [zl_179, if_neg (show ¬ nI n < 1 from nI_nlt (b := 1) h1 (by omega)), if_neg (show ¬ (160 : Int32) < nI n from nI_nlt (a := 160) hn (by decide))]
  obtain ⟨K, hK⟩ : ∃ K : Nat → Nat → Int32, K = zwA (zwA (zwA (zwA I 58 (upd (I 58) 10 0)) 58 (upd (upd (I 58) 10 0) 11 (nI n))) 58 (upd (upd (upd (I 58) 10 0) 11 (nI n)) 14 0)) 58 (upd (upd (upd (upd (I 58) 10 0) 11 (nI n)) 14 0) 16 0) := ⟨_, rfl⟩
  have k58 : K 58 = upd (upd (upd (upd (I 58) 10 0) 11 (nI n)) 14 0) 16 0 := by rw [hK, zwA_s]
  have kr : ∀ r, r ≠ 58 → K r = I r := fun r a => by rw [hK, zwA_n a, zwA_n a, zwA_n a, zwA_n a]
  have gK : zyGR I K := ⟨fun r a _ => kr r a, fun j a => by rw [k58, upd_at, if_neg (by omega), upd_at, if_neg (by omega), upd_at, if_neg (by omega), upd_at, if_neg (by omega)]⟩
  have hR : zyR0 T n zyZ0.s K := by
    refine ⟨hn, by rw [kr 63 (by decide)]; exact h63, ?_, Nat.zero_le _, ?_, ?_, Nat.zero_le _, fun i hi => absurd hi (Nat.not_lt_zero i)⟩
    · rw [k58, upd_at, if_neg (by decide), upd_at, if_neg (by decide), upd_at, if_pos rfl]
    · rw [k58, upd_at, if_neg (by decide), upd_at, if_neg (by decide), upd_at, if_neg (by decide), upd_at, if_pos rfl]; rfl
    · rw [k58, upd_at, if_neg (by decide), upd_at, if_pos rfl]; rfl
  have hM : zyMR zyZ0 K := ⟨by decide, by rw [k58, upd_at, if_pos rfl]; rfl, fun q hq => absurd hq (Nat.not_lt_zero q)⟩
  have st : zf_210 [.ref 58, .int (nI n)] (zMk (s, I)) = (zcI (zf_209 [.ref 58] (zMk (s, K))) fun v M => zQ_210 (25, [.ref 58, .int (nI n), .long 0, .long 0], [.int v], M)) := by
    rw [zqz_210, zq_210_0, e179, zcI_some, zq_210_4, if_neg (by decide), h9, if_pos (nI_le htp (by omega)), hK]
  obtain ⟨i1, i2⟩ := zf209r (s := s) (Z := zyZ0) rfl hR hM
  -- where it fails
  have bad : ∀ J0 : Nat → Nat → Int32, (zylw T n).s.e ≠ 0 → J0 58 12 = zyF (zylw T n).s.e → zyGR I J0 → zf_210 [.ref 58, .int (nI n)] (zMk (s, I)) = zQ_210 (45, [.ref 58, .int (nI n), .int 0, .long 0], [], zMk (s, J0)) → ∃ J, zf_210 [.ref 58, .int (nI n)] (zMk (s, I)) = some (.int (if (zylw T n).s.e = 0 then nI (zylw T n).n else zyF (zylw T n).s.e), zMk (s, J)) ∧ (∀ r, r ≠ 58 → (r < 64 ∨ 74 < r) → J r = I r) ∧ (∀ j, (j < 9 ∨ 18 < j) → J 58 j = I 58 j) ∧ J 58 9 = 0 ∧
      ((zylw T n).s.e = 0 → zLR (zyL (zylw T n)) (J 58 18) (J 70) (J 71) (J 72) (J 73) (J 74)) ∧ ((zylw T n).s.e ≠ 0 → (∀ r, 70 ≤ r → r ≤ 74 → J r = I r) ∧ J 58 18 = I 58 18) := by
    intro J0 he h12 g hst
    refine ⟨zwA J0 58 (upd (J0 58) 9 0), ?_, fun r a b => by rw [zwA_n a, g.1 r a (by omega)], fun j a => by rw [zwA_s, upd_at, if_neg (by omega), g.2 j (by omega)], by rw [zwA_s, upd_at, if_pos rfl], fun q => absurd q he, fun _ => ⟨fun r a b => by rw [zwA_n (by omega), g.1 r (by omega) (by omega)], by rw [zwA_s, upd_at, if_neg (by decide), g.2 18 (by decide)]⟩⟩
    rw [hst, zq_210_45, if_neg (not_not_intro rfl), h12, if_neg he]
  by_cases q0 : (zycl T n zyZ0).s.e = 0
  case neg =>
    obtain ⟨J0, e0, r0, g0⟩ := i2 q0
    have hz : zylw T n = zycl T n zyZ0 := by
      unfold zylw
      rw [zyls_s, if_neg (show ¬ ((zycl T n zyZ0).s.e = 0 ∧ (zycl T n zyZ0).s.p < n) from fun q => q0 q.1)]
    refine bad J0 (by rw [hz]; exact q0) (by rw [hz]; exact r0) (zyGR_tr gK g0) ?_
    rw [st, e0, zcI_some, zq_210_25, zq_210_26, if_pos rfl]
  obtain ⟨J0, e0, r0, m0, g0⟩ := i1 q0
  have hn1 : (zycl T n zyZ0).n = 1 := by
    have hb0 : (zyb T n zyZ0).e = 0 := by
      by_cases w : (zyb T n zyZ0).e = 0
      · exact w
      · have hz : (zycl T n zyZ0).s = zyb T n zyZ0 := by
          unfold zycl
          rw [if_neg (not_not_intro (show zyZ0.s.e = 0 from rfl)), if_pos w]
          rfl
        rw [hz] at q0
        exact absurd q0 w
    unfold zycl
    rw [if_neg (not_not_intro (show zyZ0.s.e = 0 from rfl)), if_neg (not_not_intro hb0)]
    rfl
  obtain ⟨j1, j2⟩ := zlp210 (s := s) (T := T) (n := n) (nI n) (.long 0) 12 (zycl T n zyZ0) J0 (by omega) q0 r0 m0
  have hzl : zyls T n 12 (zycl T n zyZ0) = zylw T n := rfl
  rw [hzl] at j1 j2
  have st2 : zf_210 [.ref 58, .int (nI n)] (zMk (s, I)) = zQ_210 (26, [.ref 58, .int (nI n), .int 1, .long 0], [], zMk (s, J0)) := by rw [st, e0, zcI_some, zq_210_25]
  by_cases q : (zylw T n).s.e = 0
  case neg =>
    obtain ⟨J1, e1, r1, g1⟩ := j2 q
    exact bad J1 q r1 (zyGR_tr gK (zyGR_tr g0 g1)) (st2.trans e1)
  obtain ⟨J1, e1, r1, m1, g1⟩ := j1 q
  have g := zyGR_tr gK (zyGR_tr g0 g1)
  obtain ⟨a1, a2, a3, a4, a5, a6, a7, a8⟩ := r1
  obtain ⟨b1, b2, b3⟩ := m1
  have hT : ∀ S, zyn T n S < 256 ∨ zyn T n S = 1000 := fun S => by
    unfold zyn
    by_cases hp : S.p < n
    · rw [if_pos hp]; exact Or.inl (h63 _ hp).1
    · rw [if_neg hp]; exact Or.inr rfl
  obtain ⟨wf, -⟩ := zyWf_lw hT hn q
  obtain ⟨K1, hK1⟩ : ∃ K1 : Nat → Nat → Int32, K1 = zwA (zwA J1 58 (upd (J1 58) 9 0)) 58 (upd (upd (J1 58) 9 0) 18 (nI (zylw T n).n)) := ⟨_, rfl⟩
  have kk58 : K1 58 = upd (upd (J1 58) 9 0) 18 (nI (zylw T n).n) := by rw [hK1, zwA_s]
  have kkr : ∀ r, r ≠ 58 → K1 r = J1 r := fun r a => by rw [hK1, zwA_n a, zwA_n a]
  obtain ⟨J2, e2, c2, d2⟩ := zlp210a (s := s) (m := (zylw T n).s.m) (by omega) (nI n) 1 (zylw T n).s.m 0 K1 (Nat.zero_add _) (by rw [kk58, upd_at, if_neg (by decide), upd_at, if_neg (by decide)]; exact a6) (fun j hj => absurd hj (Nat.not_lt_zero j))
  have e2 : zQ_210 (59, [.ref 58, .int (nI n), .int 1, .int 0], [], zMk (s, K1)) = _ := e2
  obtain ⟨J3, e3, c3, d3⟩ := zlp210b (s := s) (c := (zylw T n).n) b1 (nI n) 1 (zylw T n).n 0 J2 (Nat.zero_add _) (by rw [c2 58 (by decide), kk58, upd_at, if_neg (by decide), upd_at, if_neg (by decide)]; exact b2) (fun j hj => absurd hj (Nat.not_lt_zero j))
  have e3 : zQ_210 (75, [.ref 58, .int (nI n), .int 1, .int 0], [], zMk (s, J2)) = _ := e3
  have j58 : J3 58 = upd (upd (J1 58) 9 0) 18 (nI (zylw T n).n) := by rw [c3 58 (by omega), c2 58 (by decide), kk58]
  refine ⟨J3, ?_, fun r a b => by rw [c3 r (by omega), c2 r (by omega), kkr r a, g.1 r a (by omega)], fun j a => by rw [j58, upd_at, if_neg (by omega), upd_at, if_neg (by omega), g.2 j (by omega)], by rw [j58, upd_at, if_neg (by decide), upd_at, if_pos rfl], fun _ => ⟨by rw [j58, upd_at, if_pos rfl]; rfl, fun i hi => ?_, fun i hi => ?_⟩, fun w => absurd q w⟩
  · rw [st2, e1, zq_210_45, if_pos (by decide), b2, if_pos q]
    rw [← hK1, e2, e3]
  · have hi : i < (zylw T n).s.m := hi
    obtain ⟨u1, u2, u3⟩ := a8 i hi
    have hv : zyrv i ((zylw T n).s.c i) = ((zylw T n).s.c i).2 := if_neg (fun w => by have := wf.2.2.2.1 i hi w.1; omega)
    rw [hv] at u1
    exact ⟨by rw [c3 70 (by omega), d2 i hi, kkr 64 (by decide)]; exact u1, u3⟩
  · have hi : i < (zylw T n).n := hi
    obtain ⟨u1, u2, u3, u4⟩ := d3 i hi
    obtain ⟨v1, v2, v3, v4⟩ := b3 i hi
    rw [u1, u2, u3, u4, c2 66 (by decide), c2 67 (by decide), c2 68 (by decide), c2 69 (by decide), kkr 66 (by decide), kkr 67 (by decide), kkr 68 (by decide), kkr 69 (by decide)]
    exact ⟨v1, v2, v3, v4⟩
