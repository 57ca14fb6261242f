/-! THE LAW'S TEXT, READ BY THE REFERENCE: SUMS -/
def zyen (x : Nat) : Nat := 1048576 * x
/-- what waits is noted -/
def zycs : List Nat → zyS → zyS
  | [], Q => Q
  | x :: P, Q => zycs P (zye x 0 Q)
theorem zycs_app : ∀ (P P' : List Nat) (Q : zyS), zycs (P ++ P') Q = zycs P' (zycs P Q)
  | [], _, _ => rfl
  | x :: P, P', Q => zycs_app P P' (zye x 0 Q)
theorem zye_p (op v : Nat) (Q : zyS) : (zye op v Q).p = Q.p ∧ (zye op v Q).e = Q.e := by
  unfold zye
  split <;> exact ⟨rfl, rfl⟩
theorem zycs_p : ∀ (P : List Nat) (Q : zyS), (zycs P Q).p = Q.p ∧ (zycs P Q).e = Q.e
  | [], _ => ⟨rfl, rfl⟩
  | x :: P, Q => by
    obtain ⟨a, b⟩ := zycs_p P (zye x 0 Q)
    obtain ⟨c, d⟩ := zye_p x 0 Q
    exact ⟨a.trans c, b.trans d⟩
theorem zyn_p {T : Nat → Nat} {n : Nat} {S Q : zyS} (h : S.p = Q.p) : zyn T n S = zyn T n Q := by unfold zyn; rw [h]
/-- what may wait of a sum -/
def zyis (P : List Nat) (a : Nat) : Prop := ∀ x, x ∈ P → a ≤ x ∧ x ≤ 6
theorem zyis_c {x a : Nat} {P : List Nat} (h : zyis (x :: P) a) : (a ≤ x ∧ x ≤ 6) ∧ zyis P a := ⟨h x (List.mem_cons_self), fun y hy => h y (List.mem_cons_of_mem _ hy)⟩
/-- the top of what waits is none of these -/
def zynt (W : List Nat) (a : Nat) : Prop := ∀ k, a ≤ k → k ≤ 6 → ¬ zytp W = nI k
theorem zynt_0 (a : Nat) : zynt [] a := fun k _ _ e => absurd e.symm (nI_m1 (by omega))
theorem zyen_d (x : Nat) : zyen x / 1048576 = x := by unfold zyen; omega
theorem zynt_c {w a : Nat} {W : List Nat} (hw : w < 16777216) (h : ¬ (a ≤ w / 1048576 ∧ w / 1048576 ≤ 6)) : zynt (w :: W) a := fun k h1 h2 e => by
  have e : nI (w / 1048576) = nI k := e
  have := (nI_eq (by omega) (by omega)).mp e
  omega
theorem zynt_le {W : List Nat} {a a' : Nat} (h : zynt W a) (ha : a ≤ a') : zynt W a' := fun k h1 h2 => h k (by omega) h2
theorem zyisP_en {x : Nat} (h : 2 ≤ x) (h6 : x ≤ 6) : zyisP (zyen x) = true := decide_eq_true (by rw [zyen_d]; omega)
theorem zyisO_en {x : Nat} (h : 2 ≤ x) (h6 : x ≤ 6) : zyisO (zyen x) = false := decide_eq_false (by rw [zyen_d]; omega)
/-- the top goes -/
theorem zyR_pop {T : Nat → Nat} {n d d' : Nat} {w : Nat} {W : List Nat} {Q Q' : zyS} {I J : Nat → Nat → Int32} (h : zyR T n d (w :: W) Q I) (hp : Q.p ≤ Q'.p) (hl : Q'.p ≤ n) (hm : Q'.m = Q.m) (hc : Q'.c = Q.c) (hd : Q.m + zypn W + d' ≤ Q'.p)
    (e63 : J 63 = I 63) (e64 : J 64 = I 64) (e65 : J 65 = I 65) (e10 : J 58 10 = nI Q'.p) (e11 : J 58 11 = I 58 11) (e13 : J 58 13 = nI (zyop W)) (e14 : J 58 14 = I 58 14) (e15 : J 58 15 = nI W.length) : zyR T n d' W Q' J := by
  obtain ⟨h1, h2, h3, h4, h5, h6, h7, h8, h9, h10, h11, h12, h13⟩ := h
  have h10 : W.length + 1 ≤ Q.p := h10
  exact ⟨h1, by rw [e63]; exact h2, by rw [e11]; exact h3, hl, e10, by rw [e14, hm]; exact h6, e15, by rw [e65]; exact h8.2, e13, by omega, by rw [hm]; exact hd, fun x hx => h12 x (List.mem_cons_of_mem _ hx), by rw [e64, hm, hc]; exact h13⟩
/-- one is noted and goes -/
theorem zlp200a {s : zQs} {T : Nat → Nat} {n d x : Nat} {W : List Nat} {Q : zyS} {I : Nat → Nat → Int32} (x1 : Int32) (hx2 : 2 ≤ x) (hx6 : x ≤ 6) (h : zyR T n d (zyen x :: W) Q I) :
    ∃ J, zQ_200 (21, [.ref 58, .int x1], [.int (nI x), .ref 58], zMk (s, I)) = zQ_200 (0, [.ref 58, .int x1], [], zMk (s, J)) ∧ zyR T n d W (zye x 0 Q) J ∧ zyG I J := by
  obtain ⟨h1, h2, h3, h4, h5, h6, h7, h8, h9, h10, h11, h12, h13⟩ := id h
  have hpn : zypn (zyen x :: W) = zypn W + 1 := by rw [zypn_c, zyisP_en hx2 hx6, if_pos rfl]
  have hop : zyop (zyen x :: W) = zyop W := by rw [zyop_c, zyisO_en hx2 hx6]; rfl
  have hm : (zye x 0 Q) = (Q.e, Q.p, Q.m + 1, (fun i => if i = Q.m then (x, 0) else Q.c i), Q.l || (decide (x = 1) && decide (0 = 3))) := zye_lt (by omega)
  have h10' : W.length + 1 ≤ Q.p := h10
  have h7' : I 58 15 = nI (W.length + 1) := h7
  have e1 : zf_195 [.ref 58, .int (nI x), .int 0] (zMk (s, I)) = some (.long 0, zMk (s, zwA (zwA I 64 (upd (I 64) Q.m (nI (1048576 * x + 0)))) 58 (upd (I 58) 14 (nI (Q.m + 1))))) := by
    rw [zl_195, h6, if_pos (zb_t (show Q.m < 180 by omega) (by omega)), nI_clamp (show Q.m < 2 ^ 31 by omega), show (1048576 : Int32) * nI x = nI (1048576 * x) from nI_mul 1048576 x, show nI (1048576 * x) + 0 = nI (1048576 * x + 0) from nI_add _ 0, nI_1]
  refine ⟨zwA (zwA (zwA I 64 (upd (I 64) Q.m (nI (1048576 * x + 0)))) 58 (upd (I 58) 14 (nI (Q.m + 1)))) 58 (upd (upd (I 58) 14 (nI (Q.m + 1))) 15 (nI W.length)), ?_, ?_, ⟨fun r a b _ => by rw [zwA_n a, zwA_n a, zwA_n b], fun j _ _ _ e e' _ => by rw [zwA_s, upd_at, if_neg e', upd_at, if_neg e]⟩⟩
  · rw [zq_200_21, e1, zcV_some, zq_200_23, zwA_s]
    have e15 : upd (I 58) 14 (nI (Q.m + 1)) 15 - 1 = nI W.length := by
      rw [upd_at, if_neg (by decide), h7']
      exact nI_sub (b := 1) (by omega)
    rw [e15]
  · rw [hm]
    refine ⟨h1, ?_, ?_, h4, ?_, ?_, ?_, ?_, ?_, by show W.length ≤ Q.p; omega, by show Q.m + 1 + zypn W + d ≤ Q.p; omega, fun y hy => h12 y (List.mem_cons_of_mem _ hy), fun i hi => ?_⟩
    · rw [zwA_n (by decide), zwA_n (by decide), zwA_n (by decide)]; exact h2
    · rw [zwA_s, upd_at, if_neg (by decide), upd_at, if_neg (by decide)]; exact h3
    · rw [zwA_s, upd_at, if_neg (by decide), upd_at, if_neg (by decide)]; exact h5
    · rw [zwA_s, upd_at, if_neg (by decide), upd_at, if_pos rfl]; rfl
    · rw [zwA_s, upd_at, if_pos rfl]
    · rw [zwA_n (by decide), zwA_n (by decide), zwA_n (by decide)]; exact h8.2
    · rw [zwA_s, upd_at, if_neg (by decide), upd_at, if_neg (by decide), h9, hop]
    · have hi : i < Q.m + 1 := hi
      show zwA _ 58 _ 64 i = nI (1048576 * (if i = Q.m then (x, 0) else Q.c i).1 + zyrv i (if i = Q.m then (x, 0) else Q.c i)) ∧ (if i = Q.m then (x, 0) else Q.c i).1 ≤ 12 ∧ (if i = Q.m then (x, 0) else Q.c i).2 < 100000
      rw [zwA_n (show (64 : Nat) ≠ 58 by decide), zwA_n (show (64 : Nat) ≠ 58 by decide), zwA_s, upd_at]
      by_cases e : i = Q.m
      · rw [if_pos e, if_pos e]
        exact ⟨by unfold zyrv; rw [if_neg (by show ¬ (11 ≤ x ∧ _); omega)], by show x ≤ 12; omega, by show (0 : Nat) < 100000; decide⟩
      · rw [if_neg e, if_neg e]
        exact h13 i (by omega)
theorem zytp_en {x : Nat} (W : List Nat) : zytp (zyen x :: W) = nI x := by
  show nI (zyen x / 1048576) = nI x
  rw [zyen_d]
/-- all that waits of a sum is noted -/
theorem zlp200 {s : zQs} {T : Nat → Nat} {n d : Nat} {W : List Nat} (hW : zynt W 2) : ∀ P Q I, zyis P 2 → zyR T n d (P.map zyen ++ W) Q I →
    ∃ J, zQ_200 (0, [.ref 58, .int 1], [], zMk (s, I)) = some (.long 0, zMk (s, J)) ∧ zyR T n d W (zycs P Q) J ∧ zyG I J
  | [], Q, I, _, h => by
    have h : zyR T n d W Q I := h
    have ht := zf197r (s := s) h
    have fin : zQ_200 (12, [.ref 58, .int 1], [.int (zytp W)], zMk (s, I)) = some (.long 0, zMk (s, I)) := by
      rw [zq_200_12, if_neg (show ¬ zytp W = 2 from hW 2 (by decide) (by decide)), ht, zcI_some, zq_200_16, if_pos (show ¬ zytp W = 3 from hW 3 (by decide) (by decide))]
    refine ⟨I, ?_, h, zyG_rfl I⟩
    rw [zq_200_0, ht, zcI_some, zq_200_2]
    by_cases c : zytp W < 4
    · rw [if_pos c, if_neg (by decide), ht, zcI_some]
      exact fin
    · rw [if_neg c, ht, zcI_some, zq_200_6]
      have c6 : ¬ zytp W ≤ 6 := by
        cases W with
        | nil => exact absurd (show zytp [] < (4 : Int32) by decide) c
        | cons w W =>
          have hw := h.2.2.2.2.2.2.2.2.2.2.2.1 w (List.mem_cons_self)
          have c : ¬ nI (w / 1048576) < 4 := c
          have a : ¬ w / 1048576 < 4 := fun q => c (nI_lt (b := 4) q (by decide))
          have b : ∀ k, 2 ≤ k → k ≤ 6 → w / 1048576 ≠ k := fun k k1 k2 q => hW k k1 k2 (by show nI (w / 1048576) = nI k; rw [q])
          have b4 := b 4 (by decide) (by decide)
          have b5 := b 5 (by decide) (by decide)
          have b6 := b 6 (by decide) (by decide)
          show ¬ nI (w / 1048576) ≤ 6
          exact nI_ge (a := 6) (by omega) (by omega)
      rw [if_neg c6, if_neg (by decide), ht, zcI_some]
      exact fin
  | x :: P, Q, I, hP, h => by
    obtain ⟨⟨x2, x6⟩, hP2⟩ := zyis_c hP
    have h : zyR T n d (zyen x :: (P.map zyen ++ W)) Q I := h
    have ht := zf197r (s := s) h
    rw [zytp_en] at ht
    obtain ⟨J1, e1, r1, g1⟩ := zlp200a (s := s) 1 x2 x6 h
    obtain ⟨J, e, r, g⟩ := zlp200 hW P (zye x 0 Q) J1 hP2 r1
    refine ⟨J, ?_, r, zyG_tr g1 g⟩
    rw [zq_200_0, ht, zcI_some, zq_200_2]
    by_cases c : x < 4
    · rw [if_pos (show nI x < 4 from nI_lt (b := 4) c (by decide)), if_neg (by decide), ht, zcI_some, zq_200_12]
      by_cases c2 : x = 2
      · rw [if_pos (show nI x = 2 by rw [c2]; rfl), ht, zcI_some, e1]
        exact e
      · rw [if_neg (show ¬ nI x = 2 from nI_ne (b := 2) c2 (by omega) (by decide)), ht, zcI_some, zq_200_16, if_neg (not_not_intro (show nI x = 3 by rw [show x = 3 by omega]; rfl)), ht, zcI_some, e1]
        exact e
    · rw [if_neg (show ¬ nI x < 4 from nI_nlt (b := 4) (by omega) (by omega)), ht, zcI_some, zq_200_6, if_pos (show nI x ≤ 6 from nI_le (b := 6) x6 (by decide)), ht, zcI_some, e1]
      exact e
/-- products and what is like them are noted -/
theorem zlp200m {s : zQs} {T : Nat → Nat} {n d : Nat} {W : List Nat} (hW : zynt W 4) : ∀ P Q I, zyis P 4 → zyR T n d (P.map zyen ++ W) Q I →
    ∃ J, zQ_200 (0, [.ref 58, .int 0], [], zMk (s, I)) = some (.long 0, zMk (s, J)) ∧ zyR T n d W (zycs P Q) J ∧ zyG I J
  | [], Q, I, _, h => by
    have h : zyR T n d W Q I := h
    have ht := zf197r (s := s) h
    refine ⟨I, ?_, h, zyG_rfl I⟩
    rw [zq_200_0, ht, zcI_some, zq_200_2]
    by_cases c : zytp W < 4
    · rw [if_pos c, if_pos rfl]
    · rw [if_neg c, ht, zcI_some, zq_200_6]
      have c6 : ¬ zytp W ≤ 6 := by
        cases W with
        | nil => exact absurd (show zytp [] < (4 : Int32) by decide) c
        | cons w W =>
          have hw := h.2.2.2.2.2.2.2.2.2.2.2.1 w (List.mem_cons_self)
          have c : ¬ nI (w / 1048576) < 4 := c
          have a : ¬ w / 1048576 < 4 := fun q => c (nI_lt (b := 4) q (by decide))
          have b : ∀ k, 4 ≤ k → k ≤ 6 → w / 1048576 ≠ k := fun k k1 k2 q => hW k k1 k2 (by show nI (w / 1048576) = nI k; rw [q])
          have b4 := b 4 (by decide) (by decide)
          have b5 := b 5 (by decide) (by decide)
          have b6 := b 6 (by decide) (by decide)
          show ¬ nI (w / 1048576) ≤ 6
          exact nI_ge (a := 6) (by omega) (by omega)
      rw [if_neg c6, if_pos rfl]
  | x :: P, Q, I, hP, h => by
    obtain ⟨⟨x4, x6⟩, hP2⟩ := zyis_c hP
    have h : zyR T n d (zyen x :: (P.map zyen ++ W)) Q I := h
    have ht := zf197r (s := s) h
    rw [zytp_en] at ht
    obtain ⟨J1, e1, r1, g1⟩ := zlp200a (s := s) 0 (show 2 ≤ x by omega) x6 h
    obtain ⟨J, e, r, g⟩ := zlp200m hW P (zye x 0 Q) J1 hP2 r1
    refine ⟨J, ?_, r, zyG_tr g1 g⟩
    rw [zq_200_0, ht, zcI_some, zq_200_2, if_neg (show ¬ nI x < 4 from nI_nlt (b := 4) x4 (by omega)), ht, zcI_some, zq_200_6, if_pos (show nI x ≤ 6 from nI_le (b := 6) x6 (by decide)), ht, zcI_some, e1]
    exact e
/-- is a bracket of the sum's own open -/
theorem zyst_at {f : Nat → Int32} : ∀ (U : List Nat) (w : Nat) (V : List Nat), zyst f (U ++ w :: V) → f V.length = nI w
  | [], _, _, h => h.1
  | _ :: U, w, V, h => zyst_at U w V h.2
def zyhas (U : List Nat) : Bool := U.any (fun w => decide (w / 1048576 = 14))
theorem zylast : ∀ U : List Nat, U ≠ [] → ∃ U' w, U = U' ++ [w]
  | [], h => absurd rfl h
  | [x], _ => ⟨[], x, rfl⟩
  | x :: y :: U, _ => by
    obtain ⟨U', w, e⟩ := zylast (y :: U) (fun q => nomatch q)
    exact ⟨x :: U', w, by rw [e]; rfl⟩
theorem zlp202 {s : zQs} {I : Nat → Nat → Int32} {x1 : Int32} : ∀ (U : List Nat) (V : List Nat), (U ++ V).length ≤ 160 → zyst (I 65) (U ++ V) → (∀ w, w ∈ U ++ V → w < 16777216) → I 58 15 = nI (U ++ V).length →
    zQ_202 (2, [.ref 58, .int x1, .int (nI V.length)], [], zMk (s, I)) = some (.int (if zyhas U = true then 1 else 0), zMk (s, I)) := by
  intro U
  -- from the bottom up
  induction hU : U.length generalizing U with
  | zero =>
    intro V hl hst hw h15
    have : U = [] := List.length_eq_zero_iff.mp hU
    subst this
    have h15 : I 58 15 = nI V.length := h15
    have hl : V.length ≤ 160 := hl
    rw [zq_202_2, h15, if_pos (nI_le (Nat.le_refl _) (by omega))]
    rfl
  | succ k ih =>
    intro V hl hst hw h15
    -- the last of U
    have hne : U ≠ [] := fun e => by rw [e] at hU; cases hU
    obtain ⟨U', w, rfl⟩ := zylast U hne
    have hk : U'.length = k := by
      rw [List.length_append] at hU
      have hU : U'.length + 1 = k + 1 := hU
      omega
    have eap : U' ++ [w] ++ V = U' ++ (w :: V) := by rw [List.append_assoc]; rfl
    rw [eap] at hl hst hw h15
    have hlen : (U' ++ w :: V).length = U'.length + (V.length + 1) := by rw [List.length_append]; rfl
    have hww : w < 16777216 := hw w (List.mem_append.mpr (Or.inr (List.mem_cons_self)))
    have nx := ih U' hk (w :: V) hl hst hw h15
    have nx : zQ_202 (2, [.ref 58, .int x1, .int (nI (V.length + 1))], [], zMk (s, I)) = _ := nx
    have hany : zyhas (U' ++ [w]) = (zyhas U' || decide (w / 1048576 = 14)) := by
      unfold zyhas
      rw [List.any_append]
      show (_ || (_ || false)) = _
      rw [Bool.or_false]
    rw [zq_202_2, h15, if_neg (nI_ge (show V.length < (U' ++ w :: V).length by omega) (by omega)), if_pos (zb_t (show V.length < 180 by omega) (by omega)), nI_clamp (show V.length < 2 ^ 31 by omega), zyst_at U' w V hst, show nI w / 1048576 = nI (w / 1048576) from nI_div w 1048576 (by omega) (by decide), hany]
    by_cases c : w / 1048576 = 14
    · rw [if_neg (not_not_intro (show nI (w / 1048576) = 14 by rw [c]; rfl)), decide_eq_true c, Bool.or_true]
      rfl
    · rw [if_pos (show ¬ nI (w / 1048576) = 14 from nI_ne (b := 14) c (by omega) (by decide)), decide_eq_false c, Bool.or_false, nI_1]
      exact nx
