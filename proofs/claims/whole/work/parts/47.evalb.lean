/-! THE LAW, RECKONED BY THE REFERENCE -/
theorem ztab2 {γ : Type} {op : Nat} (h2 : 2 ≤ op) (h9 : op ≤ 9) (f : Int → Option γ) : ztab (nI op) 36 2 8 #[2, 6, 10, 14, 18, 22, 29] f = f (if op = 2 then 2 else if op = 3 then 6 else if op = 4 then 10 else if op = 5 then 14 else if op = 6 then 18 else if op = 7 then 22 else if op = 8 then 29 else 36) := by
  have hc : op = 2 ∨ op = 3 ∨ op = 4 ∨ op = 5 ∨ op = 6 ∨ op = 7 ∨ op = 8 ∨ op = 9 := by omega
  rcases hc with rfl | rfl | rfl | rfl | rfl | rfl | rfl | rfl
  · unfold ztab; rw [show (nI 2).toInt = 2 by decide +kernel, if_neg (by decide)]; rfl
  · unfold ztab; rw [show (nI 3).toInt = 3 by decide +kernel, if_neg (by decide)]; rfl
  · unfold ztab; rw [show (nI 4).toInt = 4 by decide +kernel, if_neg (by decide)]; rfl
  · unfold ztab; rw [show (nI 5).toInt = 5 by decide +kernel, if_neg (by decide)]; rfl
  · unfold ztab; rw [show (nI 6).toInt = 6 by decide +kernel, if_neg (by decide)]; rfl
  · unfold ztab; rw [show (nI 7).toInt = 7 by decide +kernel, if_neg (by decide)]; rfl
  · unfold ztab; rw [show (nI 8).toInt = 8 by decide +kernel, if_neg (by decide)]; rfl
  · unfold ztab; rw [show (nI 9).toInt = 9 by decide +kernel, if_pos (by decide)]; rfl
theorem zj211 (s : zQs) (I : Nat → Nat → Int32) {op : Nat} (h2 : 2 ≤ op) (h9 : op ≤ 9) (x y : Int32) (hz : ¬ ((op = 5 ∨ op = 6) ∧ y = 0)) : zf_211 [.int (nI op), .int x, .int y] (zMk (s, I)) = some (.int (zop op x y), zMk (s, I)) := by
  rw [zqz_211, zq_211_0, zq_211_1, ztab2 h2 h9]
  have hc : op = 2 ∨ op = 3 ∨ op = 4 ∨ op = 5 ∨ op = 6 ∨ op = 7 ∨ op = 8 ∨ op = 9 := by omega
  rcases hc with rfl | rfl | rfl | rfl | rfl | rfl | rfl | rfl
  · exact zq_211_2 s I _ x y
  · exact zq_211_6 s I _ x y
  · exact zq_211_10 s I _ x y
  · exact (zq_211_14 s I _ x y).trans (if_neg fun h => hz ⟨Or.inl rfl, h⟩)
  · exact (zq_211_18 s I _ x y).trans (if_neg fun h => hz ⟨Or.inr rfl, h⟩)
  · refine (zq_211_22 s I _ x y).trans ?_
    by_cases h : y ≤ x
    · rw [if_pos h]; show _ = some (Value.int (if y ≤ x then 0 else 1), _); rw [if_pos h]
    · rw [if_neg h]; show _ = some (Value.int (if y ≤ x then 0 else 1), _); rw [if_neg h]
  · refine (zq_211_29 s I _ x y).trans ?_
    by_cases h : x ≤ y
    · rw [if_pos h]; show _ = some (Value.int (if x ≤ y then 0 else 1), _); rw [if_pos h]
    · rw [if_neg h]; show _ = some (Value.int (if x ≤ y then 0 else 1), _); rw [if_neg h]
  · refine (zq_211_36 s I _ x y).trans ?_
    by_cases h : ¬ x = y
    · rw [if_pos h]; show _ = some (Value.int (if ¬ x = y then 0 else 1), _); rw [if_pos h]
    · rw [if_neg h]; show _ = some (Value.int (if ¬ x = y then 0 else 1), _); rw [if_neg h]
theorem zcode {x : Int32} {op v : Nat} (h : x = nI (1048576 * op + v)) (ho : op ≤ 12) (hv : v < 100000) : x / 1048576 = nI op ∧ x - x / 1048576 * 1048576 = nI v := by
  subst h
  have e1 : nI (1048576 * op + v) / nI 1048576 = nI ((1048576 * op + v) / 1048576) := nI_div _ _ (by omega) (by decide)
  have e2 : nI (1048576 * op + v) - nI (1048576 * op + v) / nI 1048576 * nI 1048576 = nI ((1048576 * op + v) % 1048576) := nI_rem _ _ (by omega) (by decide)
  rw [show (1048576 * op + v) / 1048576 = op by omega] at e1
  rw [show (1048576 * op + v) % 1048576 = v by omega] at e2
  exact ⟨e1, e2⟩
theorem nI_inj {a b : Nat} (ha : a < 100) (hb : b < 100) (h : a ≠ b) : ¬ nI a = nI b := nI_ne h (by omega) (by omega)
theorem zlp212 (s : zQs) (x1 : Int32) {C : zCd} {ty : Nat → List Bool} {fr to : Nat} {fx : Nat → Int32} (hto : to ≤ 160) (hty : ∀ i, fr ≤ i → i < to → ztyp C ty to i) (hl : (ty to).length = 1) :
    ∀ d pc st (I : Nat → Nat → Int32) (x6 x7 : Value), fr ≤ pc → pc ≤ to → to ≤ pc + d → zcf (ty pc) st → zstk (I 75) st → (∀ i, i < to → I 70 i = nI (1048576 * (C i).1 + (C i).2) ∧ (C i).2 < 100000) → (∀ i, i < 9 → I 76 i = fx i) →
    ∃ J, zQ_212 (10, [.ref 58, .int x1, .int (nI to), .int (nI st.length), .int (nI 0), .int (nI pc), x6, x7], [], zMk (s, I)) = some (.int (zev C fx to d pc st), zMk (s, J)) ∧ (∀ r, r ≠ 75 → J r = I r) := by
  intro d
  induction d with
  | zero =>
    intro pc st I x6 x7 hf hp hd hc hs hC hx
    have e : pc = to := by omega
    subst e
    refine ⟨I, ?_, fun _ _ => rfl⟩
    have h1 := zcf_len _ _ hc
    match st, hs, h1 with
    | [x], hs, _ =>
      rw [zq_212_10, if_pos (nI_le (Nat.le_refl _) (by omega)), show I 75 0 = x from hs.1]
      rfl
    | [], _, h1 => rw [hl] at h1; cases h1
    | _ :: _ :: _, _, h1 => rw [hl] at h1; cases h1
  | succ d ih =>
    intro pc st I x6 x7 hf hp hd hc hs hC hx
    by_cases hlt : to ≤ pc
    · have e : pc = to := by omega
      subst e
      refine ⟨I, ?_, fun _ _ => rfl⟩
      have h1 := zcf_len _ _ hc
      rw [zev_end (Nat.le_refl _)]
      match st, hs, h1 with
      | [x], hs, _ =>
        rw [zq_212_10, if_pos (nI_le (Nat.le_refl _) (by omega)), show I 75 0 = x from hs.1]
        rfl
      | [], _, h1 => rw [hl] at h1; cases h1
      | _ :: _ :: _, _, h1 => rw [hl] at h1; cases h1
    · have hlt : pc < to := by omega
      obtain ⟨k1, k3⟩ := hC pc hlt
      obtain ⟨t1, t2⟩ := hty pc hf hlt
      have hop : (C pc).1 ≤ 12 := by
        rcases t2 with ⟨o, _⟩ | ⟨o, _⟩ | ⟨_, o, _⟩ | ⟨o, _⟩ | ⟨o | o, _⟩ <;> omega
      obtain ⟨c1, c2⟩ := zcode k1 hop k3
      have h1 := zcf_len _ _ hc
      have hb : zb (nI pc) 180 = true := zb_t (by omega) (by omega)
      rw [zev_s, if_neg (show ¬ to ≤ pc by omega), zq_212_10, if_neg (nI_ge hlt (by omega)), if_pos hb, if_pos hb, nI_clamp (show pc < 2 ^ 31 by omega), c2, c1]
      rcases t2 with ⟨o, t⟩ | ⟨o, o9, t⟩ | ⟨o2, o9, x, y, T, t, t'⟩ | ⟨o, T, t, t'⟩ | ⟨o, T, t, t', v1, v2, v3⟩
      · rw [o, if_pos (show nI 0 = 0 from rfl), zq_212_36, if_neg (not_not_intro (show nI 0 = 0 from rfl)), if_pos (zb_t (show st.length < 180 by omega) (by omega)), nI_clamp (show st.length < 2 ^ 31 by omega), nI_1, nI_1, if_pos rfl]
        obtain ⟨J, e, j1⟩ := ih (pc + 1) (nI (C pc).2 :: st) (zwA I 75 (upd (I 75) st.length (nI (C pc).2))) (.int (nI 0)) (.int (nI (C pc).2)) (by omega) (by omega) (by omega) (by rw [t]; exact ⟨fun h => (by cases h), hc⟩) (by rw [zwA_s]; exact ⟨by rw [upd_at, if_pos rfl], zstk_up st (Nat.le_refl _) hs⟩) (fun i hi => by rw [zwA_n (by decide)]; exact hC i hi) (fun i hi => by rw [zwA_n (by decide)]; exact hx i hi)
        exact ⟨J, e, fun r a => (j1 r a).trans (zwA_n a)⟩
      · rw [o, if_neg (show ¬ nI 1 = 0 by decide), if_neg (not_not_intro (show nI 1 = 1 from rfl)), zq_212_36, if_pos (show ¬ nI 1 = 0 by decide), if_pos (zb_t o9 (by omega)), if_pos (zb_t (show st.length < 180 by omega) (by omega)), nI_clamp (show st.length < 2 ^ 31 by omega), nI_clamp (show (C pc).2 < 2 ^ 31 by omega), hx _ o9, nI_1, nI_1, if_neg (show ¬ (1 : Nat) = 0 by decide), if_pos (show (1 : Nat) = 1 from rfl)]
        obtain ⟨J, e, j1⟩ := ih (pc + 1) (fx (C pc).2 :: st) (zwA I 75 (upd (I 75) st.length (fx (C pc).2))) (.int (nI 1)) (.int (nI (C pc).2)) (by omega) (by omega) (by omega) (by rw [t]; exact ⟨fun h => (by cases h), hc⟩) (by rw [zwA_s]; exact ⟨by rw [upd_at, if_pos rfl], zstk_up st (Nat.le_refl _) hs⟩) (fun i hi => by rw [zwA_n (by decide)]; exact hC i hi) (fun i hi => by rw [zwA_n (by decide)]; exact hx i hi)
        exact ⟨J, e, fun r a => (j1 r a).trans (zwA_n a)⟩
      · rw [t] at hc
        obtain ⟨b, S1, rfl, -, hc1⟩ := zcf_cons hc
        obtain ⟨a, S, rfl, -, hc2⟩ := zcf_cons hc1
        have hS : S.length + 2 < 60 := by
          rw [show (b :: a :: S).length = S.length + 2 from rfl] at h1
          omega
        have q1 : nI (b :: a :: S).length = nI (S.length + 2) := rfl
        have q2 : nI (S.length + 2) - 1 = nI (S.length + 1) := nI_pred _
        have q3 : nI (S.length + 1) - 1 = nI S.length := nI_pred _
        have hs1 : I 75 (S.length + 1) = b := hs.1
        have hs2 : I 75 S.length = a := hs.2.1
        have z1 := zb_t (show S.length + 1 < 180 by omega) (show S.length + 1 < 2 ^ 31 by omega)
        have z0 := zb_t (show S.length < 180 by omega) (show S.length < 2 ^ 31 by omega)
        have hgo : ∀ (x6 x7 : Int32), ¬ (((C pc).1 = 5 ∨ (C pc).1 = 6) ∧ b = 0) → x6 = nI (C pc).1 → ∃ J, zQ_212 (117, [.ref 58, .int x1, .int (nI to), .int (nI (S.length + 1)), .int (nI 0), .int (nI (pc + 1)), .int x6, .int x7], [], zMk (s, I)) = some (.int (zev C fx to d (pc + 1) (zop (C pc).1 a b :: S)), zMk (s, J)) ∧ (∀ r, r ≠ 75 → J r = I r) := by
          intro x6 x7 hz e6
          subst e6
          rw [zq_212_117, q3, if_pos z0, if_pos z1, nI_clamp (show S.length < 2 ^ 31 by omega), nI_clamp (show S.length + 1 < 2 ^ 31 by omega), hs1, hs2, zj211 s I o2 o9 a b hz, zcI_some, zq_212_134, if_pos z0, nI_clamp (show S.length < 2 ^ 31 by omega)]
          obtain ⟨J, e, j1⟩ := ih (pc + 1) (zop (C pc).1 a b :: S) (zwA I 75 (upd (I 75) S.length (zop (C pc).1 a b))) (.int (nI (C pc).1)) (.int x7) (by omega) (by omega) (by omega) (by rw [t']; exact ⟨fun h => zop_b (of_decide_eq_true h) o9, hc2⟩) (by rw [zwA_s]; exact ⟨by rw [upd_at, if_pos rfl], zstk_up S (Nat.le_refl _) hs.2.2⟩) (fun i hi => by rw [zwA_n (by decide)]; exact hC i hi) (fun i hi => by rw [zwA_n (by decide)]; exact hx i hi)
          exact ⟨J, e, fun r a => (j1 r a).trans (zwA_n a)⟩
        rw [q1, q2, if_neg (show ¬ nI (C pc).1 = 0 from nI_inj (b := 0) (by omega) (by omega) (by omega)), if_pos (show ¬ nI (C pc).1 = 1 from nI_inj (b := 1) (by omega) (by omega) (by omega)), if_pos (show ¬ nI (C pc).1 = 10 from nI_inj (b := 10) (by omega) (by omega) (by omega)), if_neg (show ¬ nI (C pc).1 = 11 from nI_inj (b := 11) (by omega) (by omega) (by omega)), if_pos (show ¬ nI (C pc).1 = 12 from nI_inj (b := 12) (by omega) (by omega) (by omega)),
          if_neg (show ¬ (C pc).1 = 0 by omega), if_neg (show ¬ (C pc).1 = 1 by omega), if_neg (show ¬ (C pc).1 = 10 by omega), if_neg (show ¬ 11 ≤ (C pc).1 by omega), nI_1]
        by_cases h5 : (C pc).1 = 5
        · rw [if_pos (show nI (C pc).1 = 5 by rw [h5]; rfl), if_pos z1, nI_clamp (show S.length + 1 < 2 ^ 31 by omega), hs1]
          by_cases hz : b = 0
          · rw [if_neg (not_not_intro hz), if_pos (show ((C pc).1 = 5 ∨ (C pc).1 = 6) ∧ zhd (b :: a :: S) = 0 from ⟨Or.inl h5, hz⟩)]
            exact ⟨I, rfl, fun _ _ => rfl⟩
          · rw [if_pos hz, if_neg (show ¬ (((C pc).1 = 5 ∨ (C pc).1 = 6) ∧ zhd (b :: a :: S) = 0) from fun h => hz h.2)]
            exact hgo _ _ (fun h => hz h.2) rfl
        · rw [if_neg (show ¬ nI (C pc).1 = 5 from nI_inj (b := 5) (by omega) (by omega) h5)]
          by_cases h6 : (C pc).1 = 6
          · rw [if_neg (not_not_intro (show nI (C pc).1 = 6 by rw [h6]; rfl)), if_pos z1, nI_clamp (show S.length + 1 < 2 ^ 31 by omega), hs1]
            by_cases hz : b = 0
            · rw [if_neg (not_not_intro hz), if_pos (show ((C pc).1 = 5 ∨ (C pc).1 = 6) ∧ zhd (b :: a :: S) = 0 from ⟨Or.inr h6, hz⟩)]
              exact ⟨I, rfl, fun _ _ => rfl⟩
            · rw [if_pos hz, if_neg (show ¬ (((C pc).1 = 5 ∨ (C pc).1 = 6) ∧ zhd (b :: a :: S) = 0) from fun h => hz h.2)]
              exact hgo _ _ (fun h => hz h.2) rfl
          · rw [if_pos (show ¬ nI (C pc).1 = 6 from nI_inj (b := 6) (by omega) (by omega) h6), if_neg (show ¬ (((C pc).1 = 5 ∨ (C pc).1 = 6) ∧ zhd (b :: a :: S) = 0) from fun h => h.1.elim h5 h6)]
            exact hgo _ _ (fun h => h.1.elim h5 h6) rfl
      · rw [t] at hc
        obtain ⟨b, S, rfl, hb1, hc1⟩ := zcf_cons hc
        have hS : S.length + 1 < 60 := by
          rw [show (b :: S).length = S.length + 1 from rfl] at h1
          omega
        have q1 : nI (b :: S).length = nI (S.length + 1) := rfl
        have q3 : nI (S.length + 1) - 1 = nI S.length := nI_pred _
        have hs1 : I 75 S.length = b := hs.1
        have z0 := zb_t (show S.length < 180 by omega) (show S.length < 2 ^ 31 by omega)
        rw [o, if_neg (show ¬ nI 10 = 0 by decide), if_pos (show ¬ nI 10 = 1 by decide), if_neg (not_not_intro (show nI 10 = 10 from rfl)), q1, q3, if_pos z0, if_pos z0, nI_clamp (show S.length < 2 ^ 31 by omega), hs1, nI_1, if_neg (show ¬ (10 : Nat) = 0 by decide), if_neg (show ¬ (10 : Nat) = 1 by decide), if_pos (show (10 : Nat) = 10 from rfl)]
        have step : ∀ (w : Int32), w = 0 ∨ w = 1 → ∃ J, zQ_212 (10, [.ref 58, .int x1, .int (nI to), .int (nI (S.length + 1)), .int (nI 0), .int (nI (pc + 1)), .int (nI 10), .int (nI (C pc).2)], [], zMk (s, zwA I 75 (upd (I 75) S.length w))) = some (.int (zev C fx to d (pc + 1) (w :: S)), zMk (s, J)) ∧ (∀ r, r ≠ 75 → J r = I r) := by
          intro w hw
          obtain ⟨J, e, j1⟩ := ih (pc + 1) (w :: S) (zwA I 75 (upd (I 75) S.length w)) (.int (nI 10)) (.int (nI (C pc).2)) (by omega) (by omega) (by omega) (by rw [t']; exact ⟨fun _ => hw, hc1⟩) (by rw [zwA_s]; exact ⟨by rw [upd_at, if_pos rfl], zstk_up S (Nat.le_refl _) hs.2⟩) (fun i hi => by rw [zwA_n (by decide)]; exact hC i hi) (fun i hi => by rw [zwA_n (by decide)]; exact hx i hi)
          exact ⟨J, e, fun r a => (j1 r a).trans (zwA_n a)⟩
        rcases hb1 rfl with rfl | rfl
        · rw [if_pos (show zhd ((0 : Int32) :: S) = 0 from rfl), show (1 : Int32) - 0 = 1 by decide]
          exact step 1 (Or.inr rfl)
        · rw [if_neg (show ¬ zhd ((1 : Int32) :: S) = 0 from (by decide : ¬ (1 : Int32) = 0)), show (1 : Int32) - 1 = 0 by decide]
          exact step 0 (Or.inl rfl)
      · rw [t] at hc
        obtain ⟨b, S, rfl, hb1, hc1⟩ := zcf_cons hc
        have hS : S.length + 1 < 60 := by
          rw [show (b :: S).length = S.length + 1 from rfl] at h1
          omega
        have q1 : nI (b :: S).length = nI (S.length + 1) := rfl
        have q3 : nI (S.length + 1) - 1 = nI S.length := nI_pred _
        have hs1 : I 75 S.length = b := hs.1
        have z0 := zb_t (show S.length < 180 by omega) (show S.length < 2 ^ 31 by omega)
        have jump : ∀ (z7 z8 : Value), ∃ J, zQ_212 (10, [.ref 58, .int x1, .int (nI to), .int (nI (S.length + 1)), .int (nI 0), .int (nI (0 + (C pc).2)), z7, z8], [], zMk (s, I)) = some (.int (zev C fx to d (C pc).2 (b :: S)), zMk (s, J)) ∧ (∀ r, r ≠ 75 → J r = I r) := by
          intro z7 z8
          rw [Nat.zero_add]
          exact ih (C pc).2 (b :: S) I z7 z8 (by omega) v2 (by omega) (by rw [v3]; exact ⟨hb1, hc1⟩) hs hC hx
        have next : ∀ (z7 z8 : Value), ∃ J, zQ_212 (10, [.ref 58, .int x1, .int (nI to), .int (nI S.length), .int (nI 0), .int (nI (pc + 1)), z7, z8], [], zMk (s, I)) = some (.int (zev C fx to d (pc + 1) S), zMk (s, J)) ∧ (∀ r, r ≠ 75 → J r = I r) :=
          fun z7 z8 => ih (pc + 1) S I z7 z8 (by omega) (by omega) (by omega) (by rw [t']; exact hc1) hs.2 hC hx
        rw [q1, q3, nI_clamp (show S.length < 2 ^ 31 by omega), hs1, nI_1, if_neg (show ¬ nI (C pc).1 = 0 from nI_inj (b := 0) (by omega) (by omega) (by omega)), if_pos (show ¬ nI (C pc).1 = 1 from nI_inj (b := 1) (by omega) (by omega) (by omega)), if_pos (show ¬ nI (C pc).1 = 10 from nI_inj (b := 10) (by omega) (by omega) (by omega)),
          if_neg (show ¬ (C pc).1 = 0 by omega), if_neg (show ¬ (C pc).1 = 1 by omega), if_neg (show ¬ (C pc).1 = 10 by omega), if_pos (show 11 ≤ (C pc).1 by omega)]
        rcases o with o | o
        · rw [o, if_pos (show nI 11 = 11 from rfl), if_pos z0, if_pos (show ¬ nI 11 = 12 by decide), zq_212_89, q3, nI_add]
          rcases hb1 rfl with rfl | rfl
          · rw [if_neg (not_not_intro rfl), if_pos (show (zhd ((0 : Int32) :: S) = 0 ↔ (11 : Nat) = 11) from ⟨fun _ => rfl, fun _ => rfl⟩)]
            exact jump _ _
          · rw [if_pos (show ¬ (1 : Int32) = 0 by decide), if_neg (show ¬ (zhd ((1 : Int32) :: S) = 0 ↔ (11 : Nat) = 11) from fun h => absurd (h.mpr rfl) (by decide : ¬ (1 : Int32) = 0))]
            exact next _ _
        · rw [o, if_neg (show ¬ nI 12 = 11 by decide), if_neg (not_not_intro (show nI 12 = 12 from rfl)), if_pos z0, if_neg (not_not_intro (show nI 12 = 12 from rfl)), zq_212_89, q3, nI_add]
          rcases hb1 rfl with rfl | rfl
          · rw [if_pos (show ¬ (0 : Int32) = 1 by decide), if_neg (show ¬ (zhd ((0 : Int32) :: S) = 0 ↔ (12 : Nat) = 11) from fun h => absurd (h.mp rfl) (by decide))]
            exact next _ _
          · rw [if_neg (not_not_intro rfl), if_pos (show (zhd ((1 : Int32) :: S) = 0 ↔ (12 : Nat) = 11) from ⟨fun h => absurd h (by decide : ¬ (1 : Int32) = 0), fun h => absurd h (by decide)⟩)]
            exact jump _ _
theorem zf212 (s : zQs) {C : zCd} {ty : Nat → List Bool} {fr to : Nat} {fx : Nat → Int32} (hto : to ≤ 160) (hft : fr ≤ to) (hty : ∀ i, fr ≤ i → i < to → ztyp C ty to i) (h0 : ty fr = []) (hl : (ty to).length = 1) {I : Nat → Nat → Int32} (hC : ∀ i, i < to → I 70 i = nI (1048576 * (C i).1 + (C i).2) ∧ (C i).2 < 100000) (hx : ∀ i, i < 9 → I 76 i = fx i) :
    ∃ J, zf_212 [.ref 58, .int (nI fr), .int (nI to)] (zMk (s, I)) = some (.int (zev C fx to (to - fr) fr []), zMk (s, J)) ∧ (∀ r, r ≠ 75 → J r = I r) := by
  obtain ⟨J, e, j1⟩ := zlp212 s (nI fr) (fx := fx) hto hty hl (to - fr) fr [] I (.long 0) (.long 0) (Nat.le_refl _) hft (by omega) (by rw [h0]; exact trivial) trivial hC hx
  refine ⟨J, ?_, j1⟩
  have e1 : (180 : Int32) * (nI fr / 180) = nI 0 := by
    have : nI fr / nI 180 = nI (fr / 180) := nI_div _ _ (by omega) (by decide)
    rw [show (180 : Int32) = nI 180 from rfl, this, show fr / 180 = 0 by omega]
    decide
  rw [zqz_212, zq_212_0, e1]
  exact e
