/-! THE LAW'S TEXT, READ: THE STEPS ARE SOUND -/
def zyTg (C : zCd) (a b : Nat) (T0 T1 : List Bool) : Prop := ∃ ty : Nat → List Bool, ty a = T0 ∧ ty b = T1 ∧ ∀ i, a ≤ i → i < b → ztyp C ty b i
theorem zyTg_cg {C C' : zCd} {a b : Nat} {T0 T1 : List Bool} (h : zyTg C a b T0 T1) (hc : ∀ i, a ≤ i → i < b → C' i = C i) : zyTg C' a b T0 T1 := by
  obtain ⟨ty, h1, h2, h3⟩ := h
  refine ⟨ty, h1, h2, fun i hi hb => ?_⟩
  have := h3 i hi hb
  unfold ztyp at this ⊢
  rw [hc i hi hb]
  exact this
theorem zyTg_cat {C : zCd} {a b c : Nat} {T0 T1 T2 : List Bool} (hab : a ≤ b) (hbc : b ≤ c) (h : zyTg C a b T0 T1) (g : zyTg C b c T1 T2) : zyTg C a c T0 T2 := by
  obtain ⟨ty, h1, h2, h3⟩ := h
  obtain ⟨tz, g1, g2, g3⟩ := g
  have hb : ∀ i, i ≤ b → (if i < b then ty i else tz i) = ty i := fun i hi => by
    by_cases q : i < b
    · exact if_pos q
    · have : i = b := by omega
      subst this
      rw [if_neg q, g1, h2]
  have hc : ∀ i, b ≤ i → (if i < b then ty i else tz i) = tz i := fun i hi => if_neg (by omega)
  refine ⟨fun i => if i < b then ty i else tz i, (hb a hab).trans h1, (hc c hbc).trans g2, fun i hi hic => ?_⟩
  show ztyp C (fun i => if i < b then ty i else tz i) c i
  by_cases q : i < b
  · obtain ⟨t1, t2⟩ := h3 i hi q
    have e0 : (if i < b then ty i else tz i) = ty i := hb i (by omega)
    have e1 : (if i + 1 < b then ty (i + 1) else tz (i + 1)) = ty (i + 1) := hb (i + 1) (by omega)
    refine ⟨by show (if i < b then ty i else tz i).length < 60; rw [e0]; exact t1, ?_⟩
    show (_ ∧ (if i + 1 < b then ty (i + 1) else tz (i + 1)) = _ :: (if i < b then ty i else tz i)) ∨ (_ ∧ _ ∧ (if i + 1 < b then ty (i + 1) else tz (i + 1)) = _ :: (if i < b then ty i else tz i)) ∨ (_ ∧ _ ∧ ∃ x y T, (if i < b then ty i else tz i) = x :: y :: T ∧ (if i + 1 < b then ty (i + 1) else tz (i + 1)) = _ :: T) ∨ (_ ∧ ∃ T, (if i < b then ty i else tz i) = true :: T ∧ (if i + 1 < b then ty (i + 1) else tz (i + 1)) = true :: T) ∨ (_ ∧ ∃ T, (if i < b then ty i else tz i) = true :: T ∧ (if i + 1 < b then ty (i + 1) else tz (i + 1)) = T ∧ i < (C i).2 ∧ (C i).2 ≤ c ∧ (if (C i).2 < b then ty (C i).2 else tz (C i).2) = true :: T)
    rw [e0, e1]
    rcases t2 with t | t | t | t | ⟨u, T, t, t', v1, v2, v3⟩
    · exact Or.inl t
    · exact Or.inr (Or.inl t)
    · exact Or.inr (Or.inr (Or.inl t))
    · exact Or.inr (Or.inr (Or.inr (Or.inl t)))
    · exact Or.inr (Or.inr (Or.inr (Or.inr ⟨u, T, t, t', v1, by omega, (hb _ v2).trans v3⟩)))
  · obtain ⟨t1, t2⟩ := g3 i (by omega) hic
    have e0 : (if i < b then ty i else tz i) = tz i := hc i (by omega)
    have e1 : (if i + 1 < b then ty (i + 1) else tz (i + 1)) = tz (i + 1) := hc (i + 1) (by omega)
    refine ⟨by show (if i < b then ty i else tz i).length < 60; rw [e0]; exact t1, ?_⟩
    show (_ ∧ (if i + 1 < b then ty (i + 1) else tz (i + 1)) = _ :: (if i < b then ty i else tz i)) ∨ (_ ∧ _ ∧ (if i + 1 < b then ty (i + 1) else tz (i + 1)) = _ :: (if i < b then ty i else tz i)) ∨ (_ ∧ _ ∧ ∃ x y T, (if i < b then ty i else tz i) = x :: y :: T ∧ (if i + 1 < b then ty (i + 1) else tz (i + 1)) = _ :: T) ∨ (_ ∧ ∃ T, (if i < b then ty i else tz i) = true :: T ∧ (if i + 1 < b then ty (i + 1) else tz (i + 1)) = true :: T) ∨ (_ ∧ ∃ T, (if i < b then ty i else tz i) = true :: T ∧ (if i + 1 < b then ty (i + 1) else tz (i + 1)) = T ∧ i < (C i).2 ∧ (C i).2 ≤ c ∧ (if (C i).2 < b then ty (C i).2 else tz (C i).2) = true :: T)
    rw [e0, e1]
    rcases t2 with t | t | t | t | ⟨u, T, t, t', v1, v2, v3⟩
    · exact Or.inl t
    · exact Or.inr (Or.inl t)
    · exact Or.inr (Or.inr (Or.inl t))
    · exact Or.inr (Or.inr (Or.inr (Or.inl t)))
    · exact Or.inr (Or.inr (Or.inr (Or.inr ⟨u, T, t, t', v1, v2, (hc _ (by omega)).trans v3⟩)))
/-- a step that is no jump -/
def zy1 (op v : Nat) (T0 T1 : List Bool) : Prop := (op = 0 ∧ T1 = false :: T0) ∨ (op = 1 ∧ v < 9 ∧ T1 = false :: T0) ∨ (2 ≤ op ∧ op ≤ 9 ∧ ∃ x y T, T0 = x :: y :: T ∧ T1 = decide (7 ≤ op) :: T) ∨ (op = 10 ∧ ∃ T, T0 = true :: T ∧ T1 = true :: T)
theorem zyTg_one {C : zCd} {a op v : Nat} {T0 T1 : List Bool} (hc : C a = (op, v)) (hl : T0.length < 60) (h : zy1 op v T0 T1) : zyTg C a (a + 1) T0 T1 := by
  refine ⟨fun i => if i = a then T0 else T1, if_pos rfl, if_neg (by omega), fun i h1 h2 => ?_⟩
  have : i = a := by omega
  subst this
  have e0 : (if i = i then T0 else T1) = T0 := if_pos rfl
  have e1 : (if i + 1 = i then T0 else T1) = T1 := if_neg (by omega)
  refine ⟨by show (if i = i then T0 else T1).length < 60; rw [e0]; exact hl, ?_⟩
  show (_ ∧ (if i + 1 = i then T0 else T1) = _ :: (if i = i then T0 else T1)) ∨ (_ ∧ _ ∧ (if i + 1 = i then T0 else T1) = _ :: (if i = i then T0 else T1)) ∨ (_ ∧ _ ∧ ∃ x y T, (if i = i then T0 else T1) = x :: y :: T ∧ (if i + 1 = i then T0 else T1) = _ :: T) ∨ (_ ∧ ∃ T, (if i = i then T0 else T1) = true :: T ∧ (if i + 1 = i then T0 else T1) = true :: T) ∨ _
  rw [e0, e1, hc]
  rcases h with h | h | h | h
  · exact Or.inl h
  · exact Or.inr (Or.inl h)
  · exact Or.inr (Or.inr (Or.inl h))
  · exact Or.inr (Or.inr (Or.inr (Or.inl h)))
theorem zyTg_land {C C' : zCd} {a i m : Nat} (hai : a ≤ i) (him : i < m) (h : zyTg C a i [] [true]) (hop : (C i).1 = 11 ∨ (C i).1 = 12) (g : zyTg C (i + 1) m [] [true]) (hc : ∀ j, C' j = if j = i then ((C i).1, m) else C j) : zyTg C' a m [] [true] := by
  obtain ⟨ty, h1, h2, h3⟩ := h
  obtain ⟨tz, g1, g2, g3⟩ := g
  have hb : ∀ j, j ≤ i → (if j ≤ i then ty j else tz j) = ty j := fun j hj => if_pos hj
  have hd : ∀ j, i < j → (if j ≤ i then ty j else tz j) = tz j := fun j hj => if_neg (by omega)
  refine ⟨fun j => if j ≤ i then ty j else tz j, (hb a hai).trans h1, (hd m him).trans g2, fun j h1j h2j => ?_⟩
  have sh : ∀ (X Y : List Bool), (if j ≤ i then ty j else tz j) = X → (if j + 1 ≤ i then ty (j + 1) else tz (j + 1)) = Y → X.length < 60 → (((C' j).1 = 0 ∧ Y = false :: X) ∨ ((C' j).1 = 1 ∧ (C' j).2 < 9 ∧ Y = false :: X) ∨ (2 ≤ (C' j).1 ∧ (C' j).1 ≤ 9 ∧ ∃ x y T, X = x :: y :: T ∧ Y = decide (7 ≤ (C' j).1) :: T) ∨ ((C' j).1 = 10 ∧ ∃ T, X = true :: T ∧ Y = true :: T) ∨ (((C' j).1 = 11 ∨ (C' j).1 = 12) ∧ ∃ T, X = true :: T ∧ Y = T ∧ j < (C' j).2 ∧ (C' j).2 ≤ m ∧ (if (C' j).2 ≤ i then ty (C' j).2 else tz (C' j).2) = true :: T)) → ztyp C' (fun j => if j ≤ i then ty j else tz j) m j := by
    intro X Y e0 e1 hl h
    refine ⟨by show (if j ≤ i then ty j else tz j).length < 60; rw [e0]; exact hl, ?_⟩
    show (_ ∧ (if j + 1 ≤ i then ty (j + 1) else tz (j + 1)) = _ :: (if j ≤ i then ty j else tz j)) ∨ (_ ∧ _ ∧ (if j + 1 ≤ i then ty (j + 1) else tz (j + 1)) = _ :: (if j ≤ i then ty j else tz j)) ∨ (_ ∧ _ ∧ ∃ x y T, (if j ≤ i then ty j else tz j) = x :: y :: T ∧ (if j + 1 ≤ i then ty (j + 1) else tz (j + 1)) = _ :: T) ∨ (_ ∧ ∃ T, (if j ≤ i then ty j else tz j) = true :: T ∧ (if j + 1 ≤ i then ty (j + 1) else tz (j + 1)) = true :: T) ∨ (_ ∧ ∃ T, (if j ≤ i then ty j else tz j) = true :: T ∧ (if j + 1 ≤ i then ty (j + 1) else tz (j + 1)) = T ∧ j < (C' j).2 ∧ (C' j).2 ≤ m ∧ (if (C' j).2 ≤ i then ty (C' j).2 else tz (C' j).2) = true :: T)
    rw [e0, e1]
    exact h
  by_cases q : j < i
  · obtain ⟨t1, t2⟩ := h3 j h1j q
    have ec : C' j = C j := by rw [hc j, if_neg (by omega)]
    refine sh _ _ (hb j (by omega)) (hb (j + 1) (by omega)) t1 ?_
    rw [ec]
    rcases t2 with t | t | t | t | ⟨u, T, t, t', v1, v2, v3⟩
    · exact Or.inl t
    · exact Or.inr (Or.inl t)
    · exact Or.inr (Or.inr (Or.inl t))
    · exact Or.inr (Or.inr (Or.inr (Or.inl t)))
    · exact Or.inr (Or.inr (Or.inr (Or.inr ⟨u, T, t, t', v1, by omega, (hb _ v2).trans v3⟩)))
  · by_cases e : j = i
    · subst e
      have ec : C' j = ((C j).1, m) := by rw [hc j, if_pos rfl]
      refine sh [true] [] ((hb j (Nat.le_refl _)).trans h2) ((hd (j + 1) (by omega)).trans g1) (by decide) ?_
      rw [ec]
      exact Or.inr (Or.inr (Or.inr (Or.inr ⟨hop, [], rfl, rfl, him, Nat.le_refl _, (hd m him).trans g2⟩)))
    · obtain ⟨t1, t2⟩ := g3 j (by omega) h2j
      have ec : C' j = C j := by rw [hc j, if_neg e]
      refine sh _ _ (hd j (by omega)) (hd (j + 1) (by omega)) t1 ?_
      rw [ec]
      rcases t2 with t | t | t | t | ⟨u, T, t, t', v1, v2, v3⟩
      · exact Or.inl t
      · exact Or.inr (Or.inl t)
      · exact Or.inr (Or.inr (Or.inl t))
      · exact Or.inr (Or.inr (Or.inr (Or.inl t)))
      · exact Or.inr (Or.inr (Or.inr (Or.inr ⟨u, T, t, t', v1, v2, (hd _ (by omega)).trans v3⟩)))
/-- what is read keeps what was there -/
def zyK (S S' : zyS) : Prop := S.m ≤ S'.m ∧ S'.m + S.p ≤ S.m + S'.p ∧ (∀ i, i < S.m → S'.c i = S.c i) ∧ (S.l = true → S'.l = true) ∧ ∀ i, S.m ≤ i → i < S'.m → S'.c i = (1, 3) → S'.l = true
theorem zyK_rfl (S : zyS) : zyK S S := ⟨Nat.le_refl _, Nat.le_refl _, fun _ _ => rfl, fun h => h, fun i h1 h2 => absurd h2 (by omega)⟩
theorem zyK_tr {S S' S'' : zyS} (h : zyK S S') (g : zyK S' S'') : zyK S S'' := by
  obtain ⟨h1, h2, h3, h4, h5⟩ := h
  obtain ⟨g1, g2, g3, g4, g5⟩ := g
  refine ⟨by omega, by omega, fun i hi => (g3 i (by omega)).trans (h3 i hi), fun q => g4 (h4 q), fun i hi hi2 q => ?_⟩
  by_cases hc : i < S'.m
  · rw [g3 i hc] at q
    exact g4 (h5 i hi hc q)
  · exact g5 i (by omega) hi2 q
theorem zyK_a (S : zyS) : zyK S (zya S) := ⟨Nat.le_refl _, by show S.m + S.p ≤ S.m + (S.p + 1); omega, fun _ _ => rfl, fun h => h, fun i h1 h2 => absurd h2 (by show ¬ i < S.m; omega)⟩
theorem zyK_e {S S1 : zyS} {op v : Nat} (h : zyK (zya S) S1) (hm : S1.m < 160) : zyK S (zye op v S1) := by
  obtain ⟨h1, h2, h3, h4, h5⟩ := h
  have h1 : S.m ≤ S1.m := h1
  have h2 : S1.m + (S.p + 1) ≤ S.m + S1.p := h2
  rw [zye_lt hm]
  refine ⟨by show S.m ≤ S1.m + 1; omega, by show S1.m + 1 + S.p ≤ S.m + S1.p; omega, fun i hi => ?_, fun q => ?_, fun i hi hi2 q => ?_⟩
  · show (if i = S1.m then (op, v) else S1.c i) = S.c i
    rw [if_neg (by omega)]
    exact h3 i hi
  · show (S1.l || _) = true
    rw [h4 q, Bool.true_or]
  · have hi2 : i < S1.m + 1 := hi2
    have q : (if i = S1.m then (op, v) else S1.c i) = (1, 3) := q
    show (S1.l || (decide (op = 1) && decide (v = 3))) = true
    by_cases e : i = S1.m
    · rw [if_pos e] at q
      have q1 : op = 1 := congrArg Prod.fst q
      have q2 : v = 3 := congrArg Prod.snd q
      rw [q1, q2]
      simp
    · rw [if_neg e] at q
      rw [h5 i hi (by omega) q, Bool.true_or]
/-- a step more -/
theorem zyTg_e {S1 : zyS} {a op v : Nat} {T0 T1 T2 : List Bool} (ha : a ≤ S1.m) (hm : S1.m < 160) (h : zyTg S1.c a S1.m T0 T1) (hl : T1.length < 60) (h1 : zy1 op v T1 T2) : zyTg (zye op v S1).c a (zye op v S1).m T0 T2 := by
  rw [zye_lt hm]
  show zyTg (fun i => if i = S1.m then (op, v) else S1.c i) a (S1.m + 1) T0 T2
  refine zyTg_cat ha (Nat.le_succ _) (zyTg_cg h (fun i _ hi => if_neg (by omega))) ?_
  exact zyTg_one (op := op) (v := v) (if_pos rfl) hl h1
theorem zyTg_0 (C : zCd) (a : Nat) (T : List Bool) : zyTg C a a T T := ⟨fun _ => T, rfl, rfl, fun i h1 h2 => absurd h2 (by omega)⟩
def zySm (n L : Nat) (F : zyS → zyS) : Prop := ∀ S T0, T0.length ≤ L → S.e = 0 → S.m ≤ S.p → S.p ≤ n → n ≤ 160 → (F S).e = 0 → zyK S (F S) ∧ zyTg (F S).c S.m (F S).m T0 (false :: T0)
def zyPt (n : Nat) (F : zyS → zyS) : Prop := ∀ S, S.e = 0 → S.m ≤ S.p → S.p ≤ n → n ≤ 160 → (F S).e = 0 → zyK S (F S) ∧ zyTg (F S).c S.m (F S).m [] [true]
theorem zynm_x {T : Nat → Nat} {n : Nat} : ∀ f x (S : zyS), S.p ≤ n → (zynm T n f x S).e = 0 → S.e = 0 → ∃ x' Q, zynm T n f x S = zye 0 x' Q ∧ Q.m = S.m ∧ Q.c = S.c ∧ Q.l = S.l ∧ Q.e = 0 ∧ S.p ≤ Q.p ∧ Q.p ≤ n ∧ (zyg (zyn T n S) = true → S.p < Q.p)
  | 0, x, S, hp, h, he => by
    rw [zynm_0] at h ⊢
    by_cases c : zyg (zyn T n S) = true
    · rw [if_pos c, zyf_e he] at h
      have h : 1000 * 2 + S.p = 0 := h
      omega
    · rw [if_neg c]
      exact ⟨x, S, rfl, rfl, rfl, rfl, he, Nat.le_refl _, hp, fun q => absurd q c⟩
  | f + 1, x, S, hp, h, he => by
    rw [zynm_s] at h ⊢
    by_cases c : zyg (zyn T n S) = true
    · rw [if_pos c] at h ⊢
      obtain ⟨x', Q, a1, a2, a3, a4, a5, a6, a7, -⟩ := zynm_x f _ (zya S) (zyg_n c).1 h he
      have a6 : S.p + 1 ≤ Q.p := a6
      exact ⟨x', Q, a1, a2, a3, a4, a5, by omega, a7, fun _ => by omega⟩
    · rw [if_neg c]
      exact ⟨x, S, rfl, rfl, rfl, rfl, he, Nat.le_refl _, hp, fun q => absurd q c⟩
theorem zyT_fa {T : Nat → Nat} {n o : Nat} {G : Nat → zyS → zyS} (hT : ∀ S, zyn T n S < 256 ∨ zyn T n S = 1000) (hG : o < 6 → zySm n (22 + 3 * o) (G (o + 1))) (hk : ∀ o S, zyk n S (G o S)) (ho : o ≤ 6) : zySm n (21 + 3 * o) (zyfa T n G o) := by
  intro S T0 hL he hm hp hn h
  unfold zyfa at h ⊢
  rw [if_neg (not_not_intro he)] at h ⊢
  by_cases c1 : zyn T n S = 91
  · rw [if_pos c1] at h ⊢
    by_cases c2 : 6 ≤ o
    · rw [if_pos c2, zyf_e he] at h
      have h : 1000 * 5 + S.p = 0 := h
      omega
    · rw [if_neg c2] at h ⊢
      have hl := (zyn_lt c1 (by decide)).1
      have q : (G (o + 1) (zya S)).e = 0 := by
        by_cases q : (G (o + 1) (zya S)).e = 0
        · exact q
        · rw [zyt_no q] at h; exact h
      have q93 : zyn T n (G (o + 1) (zya S)) = 93 := by
        by_cases q2 : zyn T n (G (o + 1) (zya S)) = 93
        · exact q2
        · rw [zyt_odd (by decide) q q2, zyf_e q] at h
          have h : 1000 * 1 + _ = 0 := h
          omega
      rw [zyt_fit q q93]
      obtain ⟨k1, k2⟩ := hG (by omega) (zya S) T0 (by omega) he (by show S.m ≤ S.p + 1; omega) hl hn q
      exact ⟨zyK_tr (zyK_a S) (zyK_tr k1 (zyK_a _)), k2⟩
  · rw [if_neg c1] at h ⊢
    by_cases c2 : zyg (zyn T n S) = true
    · rw [if_pos c2] at h ⊢
      obtain ⟨x', Q, a1, a2, a3, a4, a5, a6, a7, a8⟩ := zynm_x 5 0 S hp h he
      have a8 := a8 c2
      rw [a1]
      have hK : zyK (zya S) Q := by
        refine ⟨by rw [a2]; exact Nat.le_refl _, by rw [a2]; show S.m + (S.p + 1) ≤ S.m + Q.p; omega, fun i _ => by rw [a3]; rfl, fun w => by rw [a4]; exact w, fun i u v => absurd v (by rw [a2]; have u : S.m ≤ i := u; omega)⟩
      have e := zyTg_e (S1 := Q) (a := S.m) (op := 0) (v := x') (by omega) (by omega) (T0 := T0) (T1 := T0) (by rw [a2]; exact zyTg_0 _ _ _) (by omega) (Or.inl ⟨rfl, rfl⟩)
      exact ⟨zyK_e hK (by omega), e⟩
    · rw [if_neg c2] at h ⊢
      unfold zylt at h ⊢
      cases hx : zyx (zyn T n S) with
      | none =>
        rw [hx] at h
        have h : (zyf 1 S).e = 0 := h
        rw [zyf_e he] at h
        have h : 1000 * 1 + S.p = 0 := h
        omega
      | some v =>
        have hl := (zyn_lt (T := T) (n := n) (S := S) rfl (zyx_n hx)).1
        have hv : v < 9 := by
          rcases hT S with q | q
          · exact zyx_lt q hx
          · rw [q] at hx; cases hx
        have e := zyTg_e (S1 := zya S) (a := S.m) (op := 1) (v := v) (Nat.le_refl _) (by show S.m < 160; omega) (T0 := T0) (T1 := T0) (zyTg_0 _ _ _) (by omega) (Or.inr (Or.inl ⟨rfl, hv, rfl⟩))
        exact ⟨zyK_e (zyK_rfl _) (by show S.m < 160; omega), e⟩
theorem zyT_lp {T : Nat → Nat} {n L : Nat} {is : Nat → Bool} (h1000 : is 1000 = false) (hop : ∀ c, is c = true → 2 ≤ zyo c ∧ zyo c ≤ 6) {F : zyS → zyS} (hF : zySm n (L + 1) F) (hk : ∀ S, zyk n S (F S)) (hL60 : L ≤ 50) : ∀ f S0 S T0, T0.length ≤ L → S.e = 0 → S0.m ≤ S0.p → S.p ≤ n → n ≤ 160 → zyK S0 S → zyTg S.c S0.m S.m T0 (false :: T0) → (zylp T n is F f S).e = 0 → zyK S0 (zylp T n is F f S) ∧ zyTg (zylp T n is F f S).c S0.m (zylp T n is F f S).m T0 (false :: T0)
  | 0, S0, S, T0, hL, he, hm0, hp, hn, hK, hT, h => ⟨hK, hT⟩
  | f + 1, S0, S, T0, hL, he, hm0, hp, hn, hK, hT, h => by
    rw [zylp_s] at h ⊢
    by_cases c : S.e = 0 ∧ is (zyn T n S) = true
    · rw [if_pos c] at h ⊢
      obtain ⟨o2, o6⟩ := hop _ c.2
      have hl := zyi_n h1000 c.2
      have q : (F (zya S)).e = 0 := by
        by_cases q : (F (zya S)).e = 0
        · exact q
        · have q2 : (zye (zyo (zyn T n S)) 0 (F (zya S))).e ≠ 0 := by rw [(zye_p _ _ _).2]; exact q
          rw [zylp_e f _ q2] at h
          exact absurd h q2
      have hKm := hK.2.1
      have hm : S.m ≤ S.p := by omega
      obtain ⟨k1, k2⟩ := hF (zya S) (false :: T0) (by show T0.length + 1 ≤ L + 1; omega) he (by show S.m ≤ S.p + 1; omega) hl hn q
      have kp := (hk (zya S)).2.2.1 hl
      have kq := k1.2.1
      have kq : (F (zya S)).m + (S.p + 1) ≤ S.m + (F (zya S)).p := kq
      have m160 : (F (zya S)).m < 160 := by omega
      have k3 := zyK_e (op := zyo (zyn T n S)) (v := 0) k1 m160
      have km := k1.1
      have km : S.m ≤ (F (zya S)).m := km
      have hm1 := hK.1
      have cat : zyTg (F (zya S)).c S0.m (F (zya S)).m T0 (false :: false :: T0) := zyTg_cat hm1 km (zyTg_cg hT (fun i _ hi => k1.2.2.1 i hi)) k2
      have e := zyTg_e (op := zyo (zyn T n S)) (v := 0) (T2 := false :: T0) (show S0.m ≤ (F (zya S)).m by omega) m160 cat (by show T0.length + 1 + 1 < 60; omega) (Or.inr (Or.inr (Or.inl ⟨o2, by omega, false, false, T0, rfl, by rw [decide_eq_false (show ¬ 7 ≤ zyo (zyn T n S) by omega)]⟩)))
      exact zyT_lp h1000 hop hF hk hL60 f S0 _ T0 hL ((zye_p _ _ _).2.trans q) hm0 (by rw [(zye_p _ _ _).1]; exact kp) hn (zyK_tr hK k3) e h
    · rw [if_neg c]
      exact ⟨hK, hT⟩
theorem zyT_tm {T : Nat → Nat} {n o : Nat} {G : Nat → zyS → zyS} (hT : ∀ S, zyn T n S < 256 ∨ zyn T n S = 1000) (hG : o < 6 → zySm n (22 + 3 * o) (G (o + 1))) (hk : ∀ o S, zyk n S (G o S)) (ho : o ≤ 6) : zySm n (20 + 3 * o) (zytm T n G o) := by
  intro S T0 hL he hm hp hn h
  have hfa := zyT_fa hT hG hk ho
  have hz : zytm T n G o S = zylp T n zyi2 (zyfa T n G o) n (zyfa T n G o S) := rfl
  rw [hz] at h ⊢
  have q : (zyfa T n G o S).e = 0 := by
    by_cases q : (zyfa T n G o S).e = 0
    · exact q
    · rw [zylp_e n _ q] at h; exact h
  obtain ⟨k1, k2⟩ := hfa S T0 (by omega) he hm hp hn q
  exact zyT_lp (L := 20 + 3 * o) rfl (fun c hc => by have := zyo_r.1 c hc; omega) (by rw [show 20 + 3 * o + 1 = 21 + 3 * o by omega]; exact hfa) (zyk_fa hk o) (by omega) n S _ T0 hL q hm ((zyk_fa hk o S).2.2.1 hp) hn k1 k2 h
theorem zyT_su {T : Nat → Nat} {n : Nat} (hT : ∀ S, zyn T n S < 256 ∨ zyn T n S = 1000) : ∀ d o, o ≤ 6 → 7 ≤ d + o → zySm n (19 + 3 * o) (zysu T n d o)
  | 0, o, h1, h2 => absurd h2 (by omega)
  | d + 1, o, h1, h2 => by
    intro S T0 hL he hm hp hn h
    have htm := zyT_tm (o := o) (G := zysu T n d) hT (fun q => by have := zyT_su hT d (o + 1) (by omega) (by omega); rw [show 22 + 3 * o = 19 + 3 * (o + 1) by omega]; exact this) (zyk_su d) h1
    rw [zysu_s] at h ⊢
    have q : (zytm T n (zysu T n d) o S).e = 0 := by
      by_cases q : (zytm T n (zysu T n d) o S).e = 0
      · exact q
      · rw [zylp_e n _ q] at h; exact h
    obtain ⟨k1, k2⟩ := htm S T0 (by omega) he hm hp hn q
    exact zyT_lp (L := 19 + 3 * o) rfl (fun c hc => by have := zyo_r.2 c hc; omega) (by rw [show 19 + 3 * o + 1 = 20 + 3 * o by omega]; exact htm) (zyk_tm (zyk_su d) o) (by omega) n S _ T0 hL q hm ((zyk_tm (zyk_su d) o S).2.2.1 hp) hn k1 k2 h
theorem zyT_cm {T : Nat → Nat} {n o : Nat} (hT : ∀ S, zyn T n S < 256 ∨ zyn T n S = 1000) (ho : o ≤ 6) : zyPt n (zycm T n o) := by
  intro S he hm hp hn h
  have hsu := zyT_su hT 8 o ho (by omega)
  have hz : zycm T n o S = zycm2 T n o (zyn T n (zysu T n 8 o S)) (if zyi3 (zyn T n (zysu T n 8 o S)) = true then zysu T n 8 o S else zyf 1 (zysu T n 8 o S)) := rfl
  rw [hz] at h ⊢
  by_cases q : (zysu T n 8 o S).e = 0
  case neg =>
    have hz2 : (if zyi3 (zyn T n (zysu T n 8 o S)) = true then zysu T n 8 o S else zyf 1 (zysu T n 8 o S)) = zysu T n 8 o S := by
      split
      · rfl
      · exact zyf_n q
    rw [hz2] at h
    have hz3 : zycm2 T n o (zyn T n (zysu T n 8 o S)) (zysu T n 8 o S) = zysu T n 8 o S := if_neg q
    rw [hz3] at h
    exact absurd h q
  by_cases hi : zyi3 (zyn T n (zysu T n 8 o S)) = true
  case neg =>
    rw [if_neg hi] at h
    have n0 : (zyf 1 (zysu T n 8 o S)).e ≠ 0 := by
      rw [zyf_e q]
      show 1000 * 1 + _ ≠ 0
      omega
    have hz3 : zycm2 T n o (zyn T n (zysu T n 8 o S)) (zyf 1 (zysu T n 8 o S)) = zyf 1 (zysu T n 8 o S) := if_neg n0
    rw [hz3] at h
    exact absurd h n0
  rw [if_pos hi] at h ⊢
  have hz3 : zycm2 T n o (zyn T n (zysu T n 8 o S)) (zysu T n 8 o S) = zye (zyo (zyn T n (zysu T n 8 o S))) 0 (zysu T n 8 o (zya (zysu T n 8 o S))) := if_pos q
  rw [hz3] at h ⊢
  obtain ⟨-, o12, o3⟩ := zyi3_o hi
  have op79 : 7 ≤ zyo (zyn T n (zysu T n 8 o S)) ∧ zyo (zyn T n (zysu T n 8 o S)) ≤ 9 := by rcases o3 with w | w | w <;> rw [w] <;> decide
  have hl := zyi_n (is := zyi3) rfl hi
  obtain ⟨k1, k2⟩ := hsu S [] (Nat.zero_le _) he hm hp hn q
  have q2 : (zysu T n 8 o (zya (zysu T n 8 o S))).e = 0 := by rw [(zye_p _ _ _).2] at h; exact h
  have a1 := k1.2.1
  obtain ⟨j1, j2⟩ := hsu (zya (zysu T n 8 o S)) [false] (by show 1 ≤ 19 + 3 * o; omega) q (by show (zysu T n 8 o S).m ≤ (zysu T n 8 o S).p + 1; omega) hl hn q2
  have a2 := j1.2.1
  have a2 : (zysu T n 8 o (zya (zysu T n 8 o S))).m + ((zysu T n 8 o S).p + 1) ≤ (zysu T n 8 o S).m + (zysu T n 8 o (zya (zysu T n 8 o S))).p := a2
  have a3 := (zyk_su (T := T) (n := n) 8 o (zya (zysu T n 8 o S))).2.2.1 hl
  have a4 := k1.1
  have a5 := j1.1
  have a5 : (zysu T n 8 o S).m ≤ (zysu T n 8 o (zya (zysu T n 8 o S))).m := a5
  have m160 : (zysu T n 8 o (zya (zysu T n 8 o S))).m < 160 := by omega
  have cat : zyTg (zysu T n 8 o (zya (zysu T n 8 o S))).c S.m (zysu T n 8 o (zya (zysu T n 8 o S))).m [] [false, false] := zyTg_cat a4 a5 (zyTg_cg k2 (fun i _ hi => j1.2.2.1 i hi)) j2
  have e := zyTg_e (op := zyo (zyn T n (zysu T n 8 o S))) (v := 0) (T2 := [true]) (show S.m ≤ (zysu T n 8 o (zya (zysu T n 8 o S))).m by omega) m160 cat (by decide) (Or.inr (Or.inr (Or.inl ⟨by omega, op79.2, false, false, [], rfl, by rw [decide_eq_true op79.1]⟩)))
  exact ⟨zyK_tr k1 (zyK_e j1 m160), e⟩
/-- a row of parts, with a jump that is still to be landed -/
def zyIv (S0 S : zyS) (op : Nat) (b : Option Nat) : Prop := match b with
  | none => zyTg S.c S0.m S.m [] [true]
  | some i => S0.m ≤ i ∧ i < S.m ∧ zyTg S.c S0.m i [] [true] ∧ (S.c i).1 = op ∧ zyTg S.c (i + 1) S.m [] [true]
theorem zyIv_d {S0 S : zyS} {op : Nat} {b : Option Nat} (hop : op = 11 ∨ op = 12) (hK : zyK S0 S) (h : zyIv S0 S op b) : zyK S0 (zyd b S) ∧ zyTg (zyd b S).c S0.m (zyd b S).m [] [true] := by
  cases b with
  | none => exact ⟨hK, h⟩
  | some i =>
    obtain ⟨h1, h2, h3, h4, h5⟩ := h
    have hz : zyd (some i) S = (S.e, S.p, S.m, (fun j => if j = i then ((S.c i).1, S.m) else S.c j), S.l) := if_pos h2
    rw [hz]
    obtain ⟨k1, k2, k3, k4, k5⟩ := hK
    refine ⟨⟨k1, k2, fun j hj => ?_, k4, fun j hj hj2 q => ?_⟩, ?_⟩
    · show (if j = i then ((S.c i).1, S.m) else S.c j) = S0.c j
      rw [if_neg (by omega)]
      exact k3 j hj
    · have q : (if j = i then ((S.c i).1, S.m) else S.c j) = (1, 3) := q
      by_cases e : j = i
      · rw [if_pos e] at q
        have q1 : (S.c i).1 = 1 := congrArg Prod.fst q
        omega
      · rw [if_neg e] at q
        exact k5 j hj hj2 q
    · exact zyTg_land (C := S.c) h1 h2 h3 (by rw [h4]; exact hop) h5 (fun j => rfl)
theorem zyT_ch {T : Nat → Nat} {n op c : Nat} (hop : op = 11 ∨ op = 12) (hc : c ≠ 1000) {F : zyS → zyS} (hF : zyPt n F) (hk : ∀ S, zyk n S (F S)) : ∀ f b S0 S, S.e = 0 → S0.m ≤ S0.p → S.p ≤ n → n ≤ 160 → zyK S0 S → zyIv S0 S op b → (zych T n op c F f b S).e = 0 → zyK S0 (zych T n op c F f b S) ∧ zyTg (zych T n op c F f b S).c S0.m (zych T n op c F f b S).m [] [true]
  | 0, b, S0, S, he, hm0, hp, hn, hK, hI, h => zyIv_d hop hK hI
  | f + 1, b, S0, S, he, hm0, hp, hn, hK, hI, h => by
    by_cases q : S.e = 0 ∧ zyn T n S = c
    case neg =>
      have hz : zych T n op c F (f + 1) b S = zyd b S := by rw [zych_s, if_neg q]
      rw [hz]
      exact zyIv_d hop hK hI
    have hl := (zyn_lt q.2 hc).1
    obtain ⟨d1, d2⟩ := zyIv_d hop hK hI
    obtain ⟨m1, m2, m3⟩ := zyd_m b S
    have hKm := hK.2.1
    have m160 : (zya (zyd b S)).m < 160 := by show (zyd b S).m < 160; omega
    have hz0 : zyd b (zya S) = zya (zyd b S) := zyd_a b S
    have hS2m : (zye op (zyd b S).m (zya (zyd b S))).m = (zyd b S).m + 1 := by rw [zye_lt m160]; rfl
    have hz : zych T n op c F (f + 1) b S = zych T n op c F f (some (zyd b S).m) (F (zye op (zyd b S).m (zya (zyd b S)))) := by
      rw [zych_s, if_pos q, hz0]
      show zych T n op c F f (some ((zye op (zyd b S).m (zya (zyd b S))).m - 1)) (F (zye op (zyd b S).m (zya (zyd b S)))) = _
      rw [hS2m]
      rfl
    rw [hz] at h ⊢
    have he2 : (zye op (zyd b S).m (zya (zyd b S))).e = 0 := (zye_p _ _ _).2.trans (m3.trans he)
    have q2 : (F (zye op (zyd b S).m (zya (zyd b S)))).e = 0 := by
      by_cases w : (F (zye op (zyd b S).m (zya (zyd b S)))).e = 0
      · exact w
      · rw [zych_e w, (zyd_m _ _).2.2] at h; exact h
    have k1 : zyK (zyd b S) (zye op (zyd b S).m (zya (zyd b S))) := zyK_e (zyK_rfl _) m160
    have kp := (zye_p op (zyd b S).m (zya (zyd b S))).1
    have kp : (zye op (zyd b S).m (zya (zyd b S))).p = (zyd b S).p + 1 := kp
    obtain ⟨j1, j2⟩ := hF _ he2 (by omega) (by omega) hn q2
    have kk := (hk (zye op (zyd b S).m (zya (zyd b S)))).2.2.1 (by omega)
    have cc : ∀ i, (zye op (zyd b S).m (zya (zyd b S))).c i = if i = (zyd b S).m then (op, (zyd b S).m) else (zyd b S).c i := fun i => by rw [zye_lt m160]; rfl
    have jm := j1.1
    refine zyT_ch hop hc hF hk f _ S0 _ q2 hm0 kk hn (zyK_tr d1 (zyK_tr k1 j1)) ?_ h
    refine ⟨d1.1, by omega, ?_, ?_, ?_⟩
    · refine zyTg_cg d2 (fun i _ hi => ?_)
      rw [j1.2.2.1 i (by omega), cc i, if_neg (by omega)]
    · rw [j1.2.2.1 _ (by omega), cc, if_pos rfl]
    · rw [← hS2m]
      exact j2
theorem zyT_pa {T : Nat → Nat} {n o : Nat} {PC : Nat → zyS → zyS} (hP : zyPt n (PC o)) (hk : ∀ o S, zyk n S (PC o S)) : zyPt n (zypa T n PC o) := by
  intro S he hm hp hn h
  have hz : zypa T n PC o S = zych T n 11 38 (PC o) n none (PC o S) := rfl
  rw [hz] at h ⊢
  have q : (PC o S).e = 0 := by
    by_cases q : (PC o S).e = 0
    · exact q
    · rw [zych_e q, (zyd_m _ _).2.2] at h; exact h
  obtain ⟨k1, k2⟩ := hP S he hm hp hn q
  exact zyT_ch (Or.inl rfl) (by decide) hP (hk o) n none S _ q hm ((hk o S).2.2.1 hp) hn k1 k2 h
theorem zyT_cn {T : Nat → Nat} {n o : Nat} {PC : Nat → zyS → zyS} (hP : zyPt n (PC o)) (hk : ∀ o S, zyk n S (PC o S)) : zyPt n (zycn T n PC o) := by
  intro S he hm hp hn h
  have hz : zycn T n PC o S = zych T n 12 124 (zypa T n PC o) n none (zypa T n PC o S) := rfl
  have hpa := zyT_pa (T := T) hP hk
  rw [hz] at h ⊢
  have q : (zypa T n PC o S).e = 0 := by
    by_cases q : (zypa T n PC o S).e = 0
    · exact q
    · rw [zych_e q, (zyd_m _ _).2.2] at h; exact h
  obtain ⟨k1, k2⟩ := hpa S he hm hp hn q
  exact zyT_ch (Or.inr rfl) (by decide) hpa (zyk_pa hk o) n none S _ q hm ((zyk_pa hk o S).2.2.1 hp) hn k1 k2 h
theorem zyt_ok {T : Nat → Nat} {n c : Nat} {S : zyS} (hc : c ≠ 1000) (h : (zyt T n c S).e = 0) : S.e = 0 ∧ zyn T n S = c ∧ zyt T n c S = zya S := by
  by_cases q : S.e = 0
  · by_cases q2 : zyn T n S = c
    · exact ⟨q, q2, zyt_fit q q2⟩
    · rw [zyt_odd hc q q2, zyf_e q] at h
      have h : 1000 * 1 + _ = 0 := h
      omega
  · rw [zyt_no q] at h
    exact absurd h q
theorem zyT_pi {T : Nat → Nat} {n : Nat} (hT : ∀ S, zyn T n S < 256 ∨ zyn T n S = 1000) : ∀ d o, o ≤ 6 → 7 ≤ d + o → zyPt n (zypi T n d o)
  | 0, o, h1, h2 => absurd h2 (by omega)
  | d + 1, o, h1, h2 => by
    intro S he hm hp hn h
    rw [zypi_s, if_neg (not_not_intro he)] at h ⊢
    by_cases c1 : zyn T n S ≠ 33 ∧ zyn T n S ≠ 40
    · rw [if_pos c1] at h ⊢
      exact zyT_cm hT h1 S he hm hp hn h
    · rw [if_neg c1] at h ⊢
      have hl : S.p < n := by
        by_cases h33 : zyn T n S = 33
        · exact (zyn_lt h33 (by decide)).1
        · by_cases h40 : zyn T n S = 40
          · exact (zyn_lt h40 (by decide)).1
          · exact absurd ⟨h33, h40⟩ c1
      by_cases c2 : 6 ≤ o
      · rw [if_pos c2, zyf_e he] at h
        have h : 1000 * 5 + S.p = 0 := h
        omega
      · rw [if_neg c2] at h ⊢
        have hpi := zyT_pi hT d (o + 1) (by omega) (by omega)
        by_cases c3 : zyn T n S = 33
        · rw [if_pos c3] at h ⊢
          have q : (zypi T n d (o + 1) (zya S)).e = 0 := by rw [(zye_p _ _ _).2] at h; exact h
          obtain ⟨k1, k2⟩ := hpi (zya S) he (by show S.m ≤ S.p + 1; omega) hl hn q
          have a1 := k1.2.1
          have a1 : (zypi T n d (o + 1) (zya S)).m + (S.p + 1) ≤ S.m + (zypi T n d (o + 1) (zya S)).p := a1
          have a3 := (zyk_pi (T := T) (n := n) d (o + 1) (zya S)).2.2.1 hl
          have a4 := k1.1
          have m160 : (zypi T n d (o + 1) (zya S)).m < 160 := by omega
          exact ⟨zyK_e k1 m160, zyTg_e (op := 10) (v := 0) (a := S.m) a4 m160 k2 (by decide) (Or.inr (Or.inr (Or.inr ⟨rfl, [], rfl, rfl⟩)))⟩
        · rw [if_neg c3] at h ⊢
          obtain ⟨q, q41, hz⟩ := zyt_ok (by decide) h
          rw [hz]
          obtain ⟨k1, k2⟩ := zyT_cn (T := T) (o := o + 1) hpi (zyk_pi d) (zya S) he (by show S.m ≤ S.p + 1; omega) hl hn q
          exact ⟨zyK_tr (zyK_a S) (zyK_tr k1 (zyK_a _)), k2⟩
