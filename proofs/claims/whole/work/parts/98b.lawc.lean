/-! THE LAW'S TEXT, READ BY THE CLASS -/
def zyI (c : Nat) : Int32 := if c = 1000 then -1 else nI c
theorem zyI_eq {x k : Nat} (hx : x < 256 ∨ x = 1000) (hk : k < 256) : zyI x = nI k ↔ x = k := by
  unfold zyI
  by_cases h : x = 1000
  · rw [if_pos h]
    refine ⟨fun e => absurd e.symm (nI_m1 (by omega)), fun e => by omega⟩
  · rw [if_neg h]
    exact nI_eq (by omega) (by omega)
def zyF (e : Nat) : Int32 := 0 - nI e
theorem zyF_0 : ∀ k, k ∈ [1, 2, 4, 5] → ∀ p, p < 161 → ((-1000 : Int32) * nI k) - nI p = zyF (1000 * k + p) := by decide +kernel
theorem zyF_z {e : Nat} (h : e < 100000) : zyF e = 0 ↔ e = 0 := by
  have hz : (zyF e).toInt = - (e : Int) := by
    unfold zyF
    rw [Int32.toInt_sub, nI_toInt (show e < 2 ^ 31 by omega), show (0 : Int32).toInt = 0 from rfl, Int.bmod_eq_of_le (by omega) (by omega)]
    omega
  rw [← Int32.toInt_inj, hz, show (0 : Int32).toInt = 0 from rfl]
  omega
def zyC (s : zQs) (O : Nat) (T : Nat → Nat) (n : Nat) (S : zyS) (I : Nat → Nat → Int32) : Prop :=
  s.2.2.2 = O ∧ (O = 8 ∨ O = 34) ∧ n ≤ 160 ∧ (∀ i, i < n → T i < 256 ∧ I 33 i = nI (T i)) ∧ I 32 3 = nI n ∧ S.p ≤ n ∧ I 32 2 = nI S.p ∧ S.e < 100000 ∧ I 32 4 = zyF S.e ∧ S.m ≤ 160 ∧ I O 2 = nI S.m ∧ I O 8 = (if S.l = true then 1 else 0) ∧
  ∀ i, i < S.m → I (O + 1) i = nI (zsg (S.c i).1) ∧ I (O + 2) i = nI (S.c i).2 ∧ (S.c i).2 < 100000
def zyW (O : Nat) (I J : Nat → Nat → Int32) : Prop := (∀ r, r ≠ 32 → r ≠ O → r ≠ O + 1 → r ≠ O + 2 → J r = I r) ∧ (∀ j, j ≠ 2 → j ≠ 8 → J O j = I O j) ∧ ∀ j, j ≠ 2 → j ≠ 4 → J 32 j = I 32 j
theorem zyW_rfl (O : Nat) (I : Nat → Nat → Int32) : zyW O I I := ⟨fun _ _ _ _ _ => rfl, fun _ _ _ => rfl, fun _ _ _ => rfl⟩
theorem zyW_tr {O : Nat} {I J K : Nat → Nat → Int32} (h : zyW O I J) (g : zyW O J K) : zyW O I K :=
  ⟨fun r a b c d => (g.1 r a b c d).trans (h.1 r a b c d), fun j a b => (g.2.1 j a b).trans (h.2.1 j a b), fun j a b => (g.2.2 j a b).trans (h.2.2 j a b)⟩
def zyD (s : zQs) (O : Nat) (T : Nat → Nat) (n : Nat) (f : zM → Option (Value × zM)) (g : zyS → zyS) : Prop := ∀ S I, zyC s O T n S I → ∃ J, f (zMk (s, I)) = some (.long 0, zMk (s, J)) ∧ zyC s O T n (g S) J ∧ zyW O I J
theorem zyz {s : zQs} {O : Nat} {T : Nat → Nat} {n : Nat} {S : zyS} {I : Nat → Nat → Int32} (h : zyC s O T n S I) (J : Nat → Nat → Int32) : za (zMk (s, J)) s.2.2.2 2 = true := by
  obtain ⟨hs, hO, -⟩ := h
  rw [hs]
  rcases hO with rfl | rfl <;> rfl
theorem zyn_256 {s : zQs} {O : Nat} {T : Nat → Nat} {n : Nat} {S : zyS} {I : Nat → Nat → Int32} (h : zyC s O T n S I) : zyn T n S < 256 ∨ zyn T n S = 1000 := by
  obtain ⟨-, -, -, hT, -⟩ := h
  unfold zyn
  by_cases hp : S.p < n
  · rw [if_pos hp]; exact Or.inl (hT _ hp).1
  · rw [if_neg hp]; exact Or.inr rfl
theorem zf59c {s : zQs} {O : Nat} {T : Nat → Nat} {n : Nat} {S : zyS} {I : Nat → Nat → Int32} (h : zyC s O T n S I) : zf_59 [.ref 32] (zMk (s, I)) = some (.int (zyI (zyn T n S)), zMk (s, I)) := by
  obtain ⟨-, -, hn, hT, h3, hp, h2, -⟩ := h
  rw [zl_59, h2, h3, if_neg (nI_pos (by omega))]
  unfold zyn
  by_cases hl : S.p < n
  · rw [if_neg (nI_ge hl (by omega)), if_pos (zb_t (show S.p < 160 by omega) (by omega)), nI_clamp (show S.p < 2 ^ 31 by omega), (hT _ hl).2, if_pos hl]
    unfold zyI
    rw [if_neg (by have := (hT _ hl).1; omega)]
  · rw [if_pos (nI_le (by omega) (by omega)), if_neg hl]
    rfl
theorem zyD_f {s : zQs} {O : Nat} {T : Nat → Nat} {n : Nat} (k : Nat) (hk : k ∈ [1, 2, 4, 5]) : zyD s O T n (zf_60 [.ref 32, .int (nI k)]) (zyf k) := by
  intro S I h
  obtain ⟨hs, hO, hn, hT, h3, hp, h2, he, h4, hm, ho2, ho8, hc⟩ := id h
  have hk5 : k ≤ 5 := by simp at hk; omega
  rw [zl_60, h4, h2]
  by_cases c : S.e = 0
  · rw [if_neg (not_not_intro ((zyF_z he).mpr c)), zyF_0 k hk _ (by omega), zyf_e c]
    refine ⟨_, rfl, ⟨hs, hO, hn, ?_, ?_, hp, ?_, ?_, ?_, hm, ?_, ?_, ?_⟩, ?_, ?_, ?_⟩
    · rw [zwA_n (by decide)]; exact hT
    · rw [zwA_s, upd_at, if_neg (by decide)]; exact h3
    · rw [zwA_s, upd_at, if_neg (by decide)]; exact h2
    · show 1000 * k + S.p < 100000; omega
    · rw [zwA_s, upd_at, if_pos rfl]; rfl
    · rw [zwA_n (by omega)]; exact ho2
    · rw [zwA_n (by omega)]; exact ho8
    · rw [zwA_n (by omega), zwA_n (by omega)]; exact hc
    · intro r a _ _ _; exact zwA_n a
    · intro j _ _; rw [zwA_n (by omega)]
    · intro j a b; rw [zwA_s, upd_at, if_neg b]
  · rw [if_pos (fun q => c ((zyF_z he).mp q)), zyf_n c]
    exact ⟨I, rfl, h, zyW_rfl O I⟩
theorem zyC_a {s : zQs} {O : Nat} {T : Nat → Nat} {n : Nat} {S : zyS} {I : Nat → Nat → Int32} (h : zyC s O T n S I) (hl : S.p < n) : zyC s O T n (zya S) (zwA I 32 (upd (I 32) 2 (I 32 2 + 1))) ∧ zyW O I (zwA I 32 (upd (I 32) 2 (I 32 2 + 1))) := by
  obtain ⟨hs, hO, hn, hT, h3, hp, h2, he, h4, hm, ho2, ho8, hc⟩ := h
  refine ⟨⟨hs, hO, hn, ?_, ?_, hl, ?_, he, ?_, hm, ?_, ?_, ?_⟩, ?_, ?_, ?_⟩
  · rw [zwA_n (by decide)]; exact hT
  · rw [zwA_s, upd_at, if_neg (by decide)]; exact h3
  · rw [zwA_s, upd_at, if_pos rfl, h2, nI_1]; rfl
  · rw [zwA_s, upd_at, if_neg (by decide)]; exact h4
  · rw [zwA_n (by omega)]; exact ho2
  · rw [zwA_n (by omega)]; exact ho8
  · rw [zwA_n (by omega), zwA_n (by omega)]; exact hc
  · intro r a _ _ _; exact zwA_n a
  · intro j _ _; rw [zwA_n (by omega)]
  · intro j a b; rw [zwA_s, upd_at, if_neg a]
theorem zyD_t {s : zQs} {O : Nat} {T : Nat → Nat} {n : Nat} (c : Nat) (hc : c < 256) : zyD s O T n (zf_61 [.ref 32, .int (nI c)]) (zyt T n c) := by
  intro S I h
  have h4 := h.2.2.2.2.2.2.2.2.1
  have he := h.2.2.2.2.2.2.2.1
  rw [zqz_61, zq_61_0, h4]
  by_cases c0 : S.e = 0
  · rw [if_neg (not_not_intro ((zyF_z he).mpr c0)), zf59c h, zcI_some, zq_61_5]
    by_cases c1 : zyn T n S = c
    · obtain ⟨hC, hW⟩ := zyC_a h (zyn_lt c1 (by omega)).1
      rw [if_pos ((zyI_eq (zyn_256 h) hc).mpr c1), zq_61_10, h4, if_neg (not_not_intro ((zyF_z he).mpr c0)), zyt_fit c0 c1]
      exact ⟨_, rfl, hC, hW⟩
    · obtain ⟨J, e, hC, hW⟩ := zyD_f 1 (by decide) S I h
      have e : zf_60 [.ref 32, .int 1] (zMk (s, I)) = _ := e
      rw [if_neg (fun q => c1 ((zyI_eq (zyn_256 h) hc).mp q)), e, zcV_some, zq_61_10, zyt_odd (by omega) c0 c1]
      have j4 := hC.2.2.2.2.2.2.2.2.1
      have je := hC.2.2.2.2.2.2.2.1
      refine ⟨J, ?_, hC, hW⟩
      rw [j4, if_pos (fun q => ?_)]
      have q := (zyF_z je).mp q
      rw [zyf_e c0] at q
      have q : 1000 * 1 + S.p = 0 := q
      omega
  · have nz : ¬ zyF S.e = 0 := fun q => c0 ((zyF_z he).mp q)
    rw [if_pos nz, zq_61_10, h4, if_pos nz, zyt_no c0]
    exact ⟨I, rfl, h, zyW_rfl O I⟩
theorem zsg_97 : ∀ op, op ≤ 12 → (zsg op = 97 ↔ op = 1) ∧ zsg op < 256 := by decide
theorem zyD_e_8 {s : zQs} {T : Nat → Nat} {n op v : Nat} (hop : op ≤ 12) (hv : v < 100000) {S : zyS} {I : Nat → Nat → Int32} (h : zyC s 8 T n S I) : ∃ J, zf_35 [.ref 8, .int (nI (zsg op)), .int (nI v)] (zMk (s, I)) = some (.long 0, zMk (s, J)) ∧ zyC s 8 T n (zye op v S) J ∧ zyW 8 I J := by
  obtain ⟨hs, hO, hn, hT, h3, hp, h2, he, h4, hm, ho2, ho8, hc⟩ := id h
  rw [zl_35_8, ho2]
  by_cases hl : S.m < 160
  · have z160 := zb_t hl (show S.m < 2 ^ 31 by omega)
    obtain ⟨g1, g2⟩ := zsg_97 op hop
    rw [zye_lt hl, if_pos (show nI S.m < 160 from nI_lt (b := 160) hl (by decide)), if_pos z160, if_pos z160, nI_clamp (show S.m < 2 ^ 31 by omega), nI_1]
    have core : ∀ K : Nat → Int32, (K 2 = nI (S.m + 1)) → (K 8 = if (S.l || (decide (op = 1) && decide (v = 3))) = true then 1 else 0) → (∀ j, j ≠ 2 → j ≠ 8 → K j = I 8 j) →
        zyC s 8 T n (S.e, S.p, S.m + 1, (fun i => if i = S.m then (op, v) else S.c i), S.l || (decide (op = 1) && decide (v = 3))) (zwA (zwA (zwA I 9 (upd (I 9) S.m (nI (zsg op)))) 10 (upd (I 10) S.m (nI v))) 8 K) ∧ zyW 8 I (zwA (zwA (zwA I 9 (upd (I 9) S.m (nI (zsg op)))) 10 (upd (I 10) S.m (nI v))) 8 K) := by
      intro K k2 k8 kj
      refine ⟨⟨hs, hO, hn, ?_, ?_, hp, ?_, he, ?_, hl, ?_, ?_, ?_⟩, ?_, ?_, ?_⟩
      · rw [zwA_n (by decide), zwA_n (by decide), zwA_n (by decide)]; exact hT
      · rw [zwA_n (by decide), zwA_n (by decide), zwA_n (by decide)]; exact h3
      · rw [zwA_n (by decide), zwA_n (by decide), zwA_n (by decide)]; exact h2
      · rw [zwA_n (by decide), zwA_n (by decide), zwA_n (by decide)]; exact h4
      · rw [zwA_s]; exact k2
      · rw [zwA_s]; exact k8
      · intro i hi
        have hi : i < S.m + 1 := hi
        show zwA _ 8 K 9 i = nI (zsg (if i = S.m then (op, v) else S.c i).1) ∧ zwA _ 8 K 10 i = nI (if i = S.m then (op, v) else S.c i).2 ∧ (if i = S.m then (op, v) else S.c i).2 < 100000
        rw [zwA_n (show 9 ≠ 8 by decide), zwA_n (show 9 ≠ 10 by decide), zwA_s, zwA_n (show 10 ≠ 8 by decide), zwA_s, upd_at, upd_at]
        by_cases e : i = S.m
        · rw [if_pos e, if_pos e, if_pos e]
          exact ⟨rfl, rfl, hv⟩
        · rw [if_neg e, if_neg e, if_neg e]
          exact hc i (by omega)
      · intro r a b c d; rw [zwA_n b, zwA_n d, zwA_n c]
      · intro j a b; rw [zwA_s]; exact kj j a b
      · intro j _ _; rw [zwA_n (by decide), zwA_n (by decide), zwA_n (by decide)]
    have k2 : upd (I 8) 2 (nI (S.m + 1)) 2 = nI (S.m + 1) := by rw [upd_at, if_pos rfl]
    have kj : ∀ j, j ≠ 2 → j ≠ 8 → upd (I 8) 2 (nI (S.m + 1)) j = I 8 j := fun j a _ => by rw [upd_at, if_neg a]
    by_cases o1 : op = 1
    · rw [if_neg (not_not_intro (show nI (zsg op) = 97 by rw [o1]; rfl))]
      by_cases v3 : v = 3
      · rw [if_neg (not_not_intro (show nI v = 3 by rw [v3]; rfl)), zwA_zwA]
        obtain ⟨a, b⟩ := core (upd (upd (I 8) 2 (nI (S.m + 1))) 8 1) (by rw [upd_at, if_neg (by decide)]; exact k2) (by rw [upd_at, if_pos rfl, o1, v3, if_pos (by simp)]) (fun j a b => by rw [upd_at, if_neg b]; exact kj j a b)
        exact ⟨_, rfl, a, b⟩
      · rw [if_pos (show ¬ nI v = 3 from nI_ne (b := 3) v3 (by omega) (by decide))]
        obtain ⟨a, b⟩ := core (upd (I 8) 2 (nI (S.m + 1))) k2 (by rw [upd_at, if_neg (by decide), decide_eq_false v3, Bool.and_false, Bool.or_false]; exact ho8) kj
        exact ⟨_, rfl, a, b⟩
    · rw [if_pos (show ¬ nI (zsg op) = 97 from nI_ne (b := 97) (fun q => o1 (g1.mp q)) (by omega) (by decide))]
      obtain ⟨a, b⟩ := core (upd (I 8) 2 (nI (S.m + 1))) k2 (by rw [upd_at, if_neg (by decide), decide_eq_false o1, Bool.false_and, Bool.or_false]; exact ho8) kj
      exact ⟨_, rfl, a, b⟩
  · have e : zye op v S = S := if_neg hl
    rw [e, if_neg (show ¬ nI S.m < 160 from nI_nlt (b := 160) (by omega) (by omega))]
    exact ⟨I, rfl, h, zyW_rfl 8 I⟩
theorem zyD_d_8 {s : zQs} {T : Nat → Nat} {n : Nat} (b : Option Nat) (hb : ∀ i, b = some i → i < 1000) {S : zyS} {I : Nat → Nat → Int32} (h : zyC s 8 T n S I) : ∃ J, zf_37 [.ref 8, .int (match b with | none => -1 | some i => nI i)] (zMk (s, I)) = some (.long 0, zMk (s, J)) ∧ zyC s 8 T n (zyd b S) J ∧ zyW 8 I J := by
  cases b with
  | none =>
    rw [zl_37_8]
    exact ⟨I, if_pos (by decide), h, zyW_rfl 8 I⟩
  | some i =>
    have hi := hb i rfl
    obtain ⟨hs, hO, hn, hT, h3, hp, h2, he, h4, hm, ho2, ho8, hc⟩ := id h
    show ∃ J, zf_37 [.ref 8, .int (nI i)] (zMk (s, I)) = some (.long 0, zMk (s, J)) ∧ zyC s 8 T n (if i < S.m then (S.e, S.p, S.m, (fun j => if j = i then ((S.c i).1, S.m) else S.c j), S.l) else S) J ∧ zyW 8 I J
    rw [zl_37_8, if_neg (nI_pos (by omega)), ho2]
    by_cases hl : i < S.m
    · rw [if_neg (nI_ge hl (by omega)), if_pos (zb_t (show i < 160 by omega) (by omega)), if_pos hl, nI_clamp (show i < 2 ^ 31 by omega)]
      refine ⟨_, rfl, ⟨hs, hO, hn, ?_, ?_, hp, ?_, he, ?_, hm, ?_, ?_, ?_⟩, ?_, ?_, ?_⟩
      · rw [zwA_n (by decide)]; exact hT
      · rw [zwA_n (by decide)]; exact h3
      · rw [zwA_n (by decide)]; exact h2
      · rw [zwA_n (by decide)]; exact h4
      · rw [zwA_n (by decide)]; exact ho2
      · rw [zwA_n (by decide)]; exact ho8
      · intro j hj
        have hj : j < S.m := hj
        show zwA I 10 _ 9 j = nI (zsg (if j = i then ((S.c i).1, S.m) else S.c j).1) ∧ zwA I 10 _ 10 j = nI (if j = i then ((S.c i).1, S.m) else S.c j).2 ∧ (if j = i then ((S.c i).1, S.m) else S.c j).2 < 100000
        rw [zwA_n (show 9 ≠ 10 by decide), zwA_s, upd_at]
        by_cases e : j = i
        · rw [if_pos e, if_pos e, e]
          exact ⟨(hc i hl).1, rfl, by show S.m < 100000; omega⟩
        · rw [if_neg e, if_neg e]
          exact hc j hj
      · intro r a b c d; rw [zwA_n d]
      · intro j _ _; rw [zwA_n (by decide)]
      · intro j _ _; rw [zwA_n (by decide)]
    · rw [if_pos (nI_le (by omega) (by omega)), if_neg hl]
      exact ⟨I, rfl, h, zyW_rfl 8 I⟩
theorem zyD_e_34 {s : zQs} {T : Nat → Nat} {n op v : Nat} (hop : op ≤ 12) (hv : v < 100000) {S : zyS} {I : Nat → Nat → Int32} (h : zyC s 34 T n S I) : ∃ J, zf_35 [.ref 34, .int (nI (zsg op)), .int (nI v)] (zMk (s, I)) = some (.long 0, zMk (s, J)) ∧ zyC s 34 T n (zye op v S) J ∧ zyW 34 I J := by
  obtain ⟨hs, hO, hn, hT, h3, hp, h2, he, h4, hm, ho2, ho8, hc⟩ := id h
  rw [zl_35_34, ho2]
  by_cases hl : S.m < 160
  · have z160 := zb_t hl (show S.m < 2 ^ 31 by omega)
    obtain ⟨g1, g2⟩ := zsg_97 op hop
    rw [zye_lt hl, if_pos (show nI S.m < 160 from nI_lt (b := 160) hl (by decide)), if_pos z160, if_pos z160, nI_clamp (show S.m < 2 ^ 31 by omega), nI_1]
    have core : ∀ K : Nat → Int32, (K 2 = nI (S.m + 1)) → (K 8 = if (S.l || (decide (op = 1) && decide (v = 3))) = true then 1 else 0) → (∀ j, j ≠ 2 → j ≠ 8 → K j = I 34 j) →
        zyC s 34 T n (S.e, S.p, S.m + 1, (fun i => if i = S.m then (op, v) else S.c i), S.l || (decide (op = 1) && decide (v = 3))) (zwA (zwA (zwA I 35 (upd (I 35) S.m (nI (zsg op)))) 36 (upd (I 36) S.m (nI v))) 34 K) ∧ zyW 34 I (zwA (zwA (zwA I 35 (upd (I 35) S.m (nI (zsg op)))) 36 (upd (I 36) S.m (nI v))) 34 K) := by
      intro K k2 k8 kj
      refine ⟨⟨hs, hO, hn, ?_, ?_, hp, ?_, he, ?_, hl, ?_, ?_, ?_⟩, ?_, ?_, ?_⟩
      · rw [zwA_n (by decide), zwA_n (by decide), zwA_n (by decide)]; exact hT
      · rw [zwA_n (by decide), zwA_n (by decide), zwA_n (by decide)]; exact h3
      · rw [zwA_n (by decide), zwA_n (by decide), zwA_n (by decide)]; exact h2
      · rw [zwA_n (by decide), zwA_n (by decide), zwA_n (by decide)]; exact h4
      · rw [zwA_s]; exact k2
      · rw [zwA_s]; exact k8
      · intro i hi
        have hi : i < S.m + 1 := hi
        show zwA _ 34 K 35 i = nI (zsg (if i = S.m then (op, v) else S.c i).1) ∧ zwA _ 34 K 36 i = nI (if i = S.m then (op, v) else S.c i).2 ∧ (if i = S.m then (op, v) else S.c i).2 < 100000
        rw [zwA_n (show 35 ≠ 34 by decide), zwA_n (show 35 ≠ 36 by decide), zwA_s, zwA_n (show 36 ≠ 34 by decide), zwA_s, upd_at, upd_at]
        by_cases e : i = S.m
        · rw [if_pos e, if_pos e, if_pos e]
          exact ⟨rfl, rfl, hv⟩
        · rw [if_neg e, if_neg e, if_neg e]
          exact hc i (by omega)
      · intro r a b c d; rw [zwA_n b, zwA_n d, zwA_n c]
      · intro j a b; rw [zwA_s]; exact kj j a b
      · intro j _ _; rw [zwA_n (by decide), zwA_n (by decide), zwA_n (by decide)]
    have k2 : upd (I 34) 2 (nI (S.m + 1)) 2 = nI (S.m + 1) := by rw [upd_at, if_pos rfl]
    have kj : ∀ j, j ≠ 2 → j ≠ 8 → upd (I 34) 2 (nI (S.m + 1)) j = I 34 j := fun j a _ => by rw [upd_at, if_neg a]
    by_cases o1 : op = 1
    · rw [if_neg (not_not_intro (show nI (zsg op) = 97 by rw [o1]; rfl))]
      by_cases v3 : v = 3
      · rw [if_neg (not_not_intro (show nI v = 3 by rw [v3]; rfl)), zwA_zwA]
        obtain ⟨a, b⟩ := core (upd (upd (I 34) 2 (nI (S.m + 1))) 8 1) (by rw [upd_at, if_neg (by decide)]; exact k2) (by rw [upd_at, if_pos rfl, o1, v3, if_pos (by simp)]) (fun j a b => by rw [upd_at, if_neg b]; exact kj j a b)
        exact ⟨_, rfl, a, b⟩
      · rw [if_pos (show ¬ nI v = 3 from nI_ne (b := 3) v3 (by omega) (by decide))]
        obtain ⟨a, b⟩ := core (upd (I 34) 2 (nI (S.m + 1))) k2 (by rw [upd_at, if_neg (by decide), decide_eq_false v3, Bool.and_false, Bool.or_false]; exact ho8) kj
        exact ⟨_, rfl, a, b⟩
    · rw [if_pos (show ¬ nI (zsg op) = 97 from nI_ne (b := 97) (fun q => o1 (g1.mp q)) (by omega) (by decide))]
      obtain ⟨a, b⟩ := core (upd (I 34) 2 (nI (S.m + 1))) k2 (by rw [upd_at, if_neg (by decide), decide_eq_false o1, Bool.false_and, Bool.or_false]; exact ho8) kj
      exact ⟨_, rfl, a, b⟩
  · have e : zye op v S = S := if_neg hl
    rw [e, if_neg (show ¬ nI S.m < 160 from nI_nlt (b := 160) (by omega) (by omega))]
    exact ⟨I, rfl, h, zyW_rfl 34 I⟩
theorem zyD_d_34 {s : zQs} {T : Nat → Nat} {n : Nat} (b : Option Nat) (hb : ∀ i, b = some i → i < 1000) {S : zyS} {I : Nat → Nat → Int32} (h : zyC s 34 T n S I) : ∃ J, zf_37 [.ref 34, .int (match b with | none => -1 | some i => nI i)] (zMk (s, I)) = some (.long 0, zMk (s, J)) ∧ zyC s 34 T n (zyd b S) J ∧ zyW 34 I J := by
  cases b with
  | none =>
    rw [zl_37_34]
    exact ⟨I, if_pos (by decide), h, zyW_rfl 34 I⟩
  | some i =>
    have hi := hb i rfl
    obtain ⟨hs, hO, hn, hT, h3, hp, h2, he, h4, hm, ho2, ho8, hc⟩ := id h
    show ∃ J, zf_37 [.ref 34, .int (nI i)] (zMk (s, I)) = some (.long 0, zMk (s, J)) ∧ zyC s 34 T n (if i < S.m then (S.e, S.p, S.m, (fun j => if j = i then ((S.c i).1, S.m) else S.c j), S.l) else S) J ∧ zyW 34 I J
    rw [zl_37_34, if_neg (nI_pos (by omega)), ho2]
    by_cases hl : i < S.m
    · rw [if_neg (nI_ge hl (by omega)), if_pos (zb_t (show i < 160 by omega) (by omega)), if_pos hl, nI_clamp (show i < 2 ^ 31 by omega)]
      refine ⟨_, rfl, ⟨hs, hO, hn, ?_, ?_, hp, ?_, he, ?_, hm, ?_, ?_, ?_⟩, ?_, ?_, ?_⟩
      · rw [zwA_n (by decide)]; exact hT
      · rw [zwA_n (by decide)]; exact h3
      · rw [zwA_n (by decide)]; exact h2
      · rw [zwA_n (by decide)]; exact h4
      · rw [zwA_n (by decide)]; exact ho2
      · rw [zwA_n (by decide)]; exact ho8
      · intro j hj
        have hj : j < S.m := hj
        show zwA I 36 _ 35 j = nI (zsg (if j = i then ((S.c i).1, S.m) else S.c j).1) ∧ zwA I 36 _ 36 j = nI (if j = i then ((S.c i).1, S.m) else S.c j).2 ∧ (if j = i then ((S.c i).1, S.m) else S.c j).2 < 100000
        rw [zwA_n (show 35 ≠ 36 by decide), zwA_s, upd_at]
        by_cases e : j = i
        · rw [if_pos e, if_pos e, e]
          exact ⟨(hc i hl).1, rfl, by show S.m < 100000; omega⟩
        · rw [if_neg e, if_neg e]
          exact hc j hj
      · intro r a b c d; rw [zwA_n d]
      · intro j _ _; rw [zwA_n (by decide)]
      · intro j _ _; rw [zwA_n (by decide)]
    · rw [if_pos (nI_le (by omega) (by omega)), if_neg hl]
      exact ⟨I, rfl, h, zyW_rfl 34 I⟩
def zyB (b : Option Nat) : Int32 := match b with
  | none => -1
  | some i => nI i
theorem zyD_e {s : zQs} {O : Nat} {T : Nat → Nat} {n op v : Nat} (hop : op ≤ 12) (hv : v < 100000) : zyD s O T n (zf_35 [.ref s.2.2.2, .int (nI (zsg op)), .int (nI v)]) (zye op v) := by
  intro S I h
  obtain ⟨hs, hO, -⟩ := id h
  rw [hs]
  rcases hO with rfl | rfl
  · exact zyD_e_8 hop hv h
  · exact zyD_e_34 hop hv h
theorem zyD_d {s : zQs} {O : Nat} {T : Nat → Nat} {n : Nat} (b : Option Nat) (hb : ∀ i, b = some i → i < 1000) : zyD s O T n (zf_37 [.ref s.2.2.2, .int (zyB b)]) (zyd b) := by
  intro S I h
  obtain ⟨hs, hO, -⟩ := id h
  rw [hs]
  rcases hO with rfl | rfl
  · exact zyD_d_8 b hb h
  · exact zyD_d_34 b hb h
/-- a link -/
def zyl (op : Nat) (b : Option Nat) (S : zyS) : zyS := zye op (zyd b S).m (zyd b S)
theorem zyd_m (b : Option Nat) (S : zyS) : (zyd b S).m = S.m ∧ (zyd b S).p = S.p ∧ (zyd b S).e = S.e := by
  cases b with
  | none => exact ⟨rfl, rfl, rfl⟩
  | some i =>
    show (if i < S.m then _ else _ : zyS).m = _ ∧ (if i < S.m then _ else _ : zyS).p = _ ∧ (if i < S.m then _ else _ : zyS).e = _
    split <;> exact ⟨rfl, rfl, rfl⟩
theorem zyl_m {op : Nat} {b : Option Nat} {S : zyS} (h : S.m ≤ 160) : 1 ≤ (zyl op b S).m ∧ (zyl op b S).m ≤ 160 := by
  unfold zyl
  have e := (zyd_m b S).1
  unfold zye
  split
  · show 1 ≤ (zyd b S).m + 1 ∧ (zyd b S).m + 1 ≤ 160
    omega
  · omega
theorem zf36c {s : zQs} {O : Nat} {T : Nat → Nat} {n op : Nat} (hop : op ≤ 12) (b : Option Nat) (hb : ∀ i, b = some i → i < 1000) {S : zyS} {I : Nat → Nat → Int32} (h : zyC s O T n S I) : ∃ J, zf_36 [.ref s.2.2.2, .int (nI (zsg op)), .int (zyB b)] (zMk (s, I)) = some (.int (zyB (some ((zyl op b S).m - 1))), zMk (s, J)) ∧ zyC s O T n (zyl op b S) J ∧ zyW O I J := by
  obtain ⟨J1, e1, c1, w1⟩ := zyD_d (s := s) (O := O) (T := T) (n := n) b hb S I h
  have m1 := c1.2.2.2.2.2.2.2.2.2.1
  obtain ⟨J2, e2, c2, w2⟩ := zyD_e (s := s) (O := O) (T := T) (n := n) hop (show (zyd b S).m < 100000 by omega) (zyd b S) J1 c1
  have h1 := zyl_m (op := op) (b := b) h.2.2.2.2.2.2.2.2.2.1
  have c2 : zyC s O T n (zyl op b S) J2 := c2
  refine ⟨J2, ?_, c2, zyW_tr w1 w2⟩
  have o1 := c1.2.2.2.2.2.2.2.2.2.2.1
  have o2 := c2.2.2.2.2.2.2.2.2.2.2.1
  obtain ⟨hs, hO, -⟩ := id h
  rw [hs] at e1 e2 ⊢
  have fin : nI (zyl op b S).m - 1 = zyB (some ((zyl op b S).m - 1)) := nI_sub (b := 1) h1.1
  rcases hO with rfl | rfl
  · rw [zqz_36_8, zq_36_8_0, e1, zcV_some, zq_36_8_3, o1, e2, zcV_some, zq_36_8_8, o2, fin]
  · rw [zqz_36_34, zq_36_34_0, e1, zcV_some, zq_36_34_3, o1, e2, zcV_some, zq_36_34_8, o2, fin]
