/-! THE LAW, RECKONED -/
abbrev zCd : Type := Nat → Nat × Nat
def zsg (op : Nat) : Nat := match op with
  | 0 => 48
  | 1 => 97
  | 2 => 43
  | 3 => 45
  | 4 => 42
  | 5 => 47
  | 6 => 37
  | 7 => 60
  | 8 => 62
  | 9 => 61
  | 10 => 33
  | 11 => 38
  | _ => 124
theorem zsg_0 : zsg 0 = 48 := rfl
theorem zsg_1 : zsg 1 = 97 := rfl
theorem zsg_10 : zsg 10 = 33 := rfl
theorem zsg_11 : zsg 11 = 38 := rfl
theorem zsg_12 : zsg 12 = 124 := rfl
def zop (op : Nat) (x y : Int32) : Int32 := match op with
  | 2 => x + y
  | 3 => x - y
  | 4 => x * y
  | 5 => x / y
  | 6 => x - x / y * y
  | 7 => if y ≤ x then 0 else 1
  | 8 => if x ≤ y then 0 else 1
  | _ => if ¬ x = y then 0 else 1
def zhd (st : List Int32) : Int32 := st.headD 0
def zev (C : zCd) (fx : Nat → Int32) (to : Nat) : Nat → Nat → List Int32 → Int32
  | 0, _, st => zhd st
  | d + 1, pc, st => if to ≤ pc then zhd st else
    if (C pc).1 = 0 then zev C fx to d (pc + 1) (nI (C pc).2 :: st) else
    if (C pc).1 = 1 then zev C fx to d (pc + 1) (fx (C pc).2 :: st) else
    if (C pc).1 = 10 then zev C fx to d (pc + 1) ((if zhd st = 0 then 1 else 0) :: st.tail) else
    if 11 ≤ (C pc).1 then (if (zhd st = 0 ↔ (C pc).1 = 11) then zev C fx to d (C pc).2 st else zev C fx to d (pc + 1) st.tail) else
    if ((C pc).1 = 5 ∨ (C pc).1 = 6) ∧ zhd st = 0 then 0 else zev C fx to d (pc + 1) (zop (C pc).1 (zhd st.tail) (zhd st) :: st.tail.tail)
theorem zev_s (C : zCd) (fx : Nat → Int32) (to d pc : Nat) (st : List Int32) : zev C fx to (d + 1) pc st = if to ≤ pc then zhd st else
    if (C pc).1 = 0 then zev C fx to d (pc + 1) (nI (C pc).2 :: st) else
    if (C pc).1 = 1 then zev C fx to d (pc + 1) (fx (C pc).2 :: st) else
    if (C pc).1 = 10 then zev C fx to d (pc + 1) ((if zhd st = 0 then 1 else 0) :: st.tail) else
    if 11 ≤ (C pc).1 then (if (zhd st = 0 ↔ (C pc).1 = 11) then zev C fx to d (C pc).2 st else zev C fx to d (pc + 1) st.tail) else
    if ((C pc).1 = 5 ∨ (C pc).1 = 6) ∧ zhd st = 0 then 0 else zev C fx to d (pc + 1) (zop (C pc).1 (zhd st.tail) (zhd st) :: st.tail.tail) := rfl
theorem zev_end {C : zCd} {fx : Nat → Int32} {to d pc : Nat} {st : List Int32} (h : to ≤ pc) : zev C fx to d pc st = zhd st := by
  cases d with
  | zero => rfl
  | succ d => rw [zev_s, if_pos h]
/-- the machine's row of a stack, top first -/
def zstk (f : Nat → Int32) : List Int32 → Prop
  | [] => True
  | x :: S => f S.length = x ∧ zstk f S
theorem zstk_up {f : Nat → Int32} {k : Nat} {x : Int32} : ∀ S : List Int32, S.length ≤ k → zstk f S → zstk (upd f k x) S
  | [], _, _ => trivial
  | y :: S, h, q => by
    have h : S.length + 1 ≤ k := h
    refine ⟨?_, zstk_up S (by omega) q.2⟩
    rw [upd_at, if_neg (by omega)]
    exact q.1
/-- a stack of these sorts: true is 0 or 1 -/
def zcf : List Bool → List Int32 → Prop
  | [], [] => True
  | b :: T, x :: S => (b = true → x = 0 ∨ x = 1) ∧ zcf T S
  | _, _ => False
theorem zcf_len : ∀ (T : List Bool) (S : List Int32), zcf T S → S.length = T.length
  | [], [], _ => rfl
  | [], _ :: _, h => absurd h id
  | _ :: _, [], h => absurd h id
  | _ :: T, _ :: S, h => congrArg (· + 1) (zcf_len T S h.2)
theorem zcf_cons {b : Bool} {T : List Bool} : ∀ {S : List Int32}, zcf (b :: T) S → ∃ x S', S = x :: S' ∧ (b = true → x = 0 ∨ x = 1) ∧ zcf T S'
  | [], h => absurd h id
  | x :: S, h => ⟨x, S, rfl, h.1, h.2⟩
def ztyp (C : zCd) (ty : Nat → List Bool) (to pc : Nat) : Prop :=
  (ty pc).length < 60 ∧
  (((C pc).1 = 0 ∧ ty (pc + 1) = false :: ty pc) ∨
   ((C pc).1 = 1 ∧ (C pc).2 < 9 ∧ ty (pc + 1) = false :: ty pc) ∨
   (2 ≤ (C pc).1 ∧ (C pc).1 ≤ 9 ∧ ∃ x y T, ty pc = x :: y :: T ∧ ty (pc + 1) = decide (7 ≤ (C pc).1) :: T) ∨
   ((C pc).1 = 10 ∧ ∃ T, ty pc = true :: T ∧ ty (pc + 1) = true :: T) ∨
   (((C pc).1 = 11 ∨ (C pc).1 = 12) ∧ ∃ T, ty pc = true :: T ∧ ty (pc + 1) = T ∧ pc < (C pc).2 ∧ (C pc).2 ≤ to ∧ ty (C pc).2 = true :: T))
theorem zop_b {op : Nat} {x y : Int32} (h : 7 ≤ op) (h9 : op ≤ 9) : zop op x y = 0 ∨ zop op x y = 1 := by
  have hc : op = 7 ∨ op = 8 ∨ op = 9 := by omega
  rcases hc with rfl | rfl | rfl
  · show (if y ≤ x then (0 : Int32) else 1) = 0 ∨ (if y ≤ x then (0 : Int32) else 1) = 1
    split <;> simp
  · show (if x ≤ y then (0 : Int32) else 1) = 0 ∨ (if x ≤ y then (0 : Int32) else 1) = 1
    split <;> simp
  · show (if ¬ x = y then (0 : Int32) else 1) = 0 ∨ (if ¬ x = y then (0 : Int32) else 1) = 1
    split <;> simp
theorem zj_no {op : Nat} {y : Int32} (h5 : op ≠ 5) (h6 : op ≠ 6) : ¬ ((op = 5 ∨ op = 6) ∧ y = 0) := fun h => h.1.elim h5 h6
theorem zc_num {op : Nat} (h2 : 2 ≤ op) (h9 : op ≤ 9) : nI (zsg op) ≠ 48 ∧ nI (zsg op) ≠ 97 ∧ nI (zsg op) ≠ 38 ∧ nI (zsg op) ≠ 124 ∧ nI (zsg op) ≠ 33 := by
  have hc : op = 2 ∨ op = 3 ∨ op = 4 ∨ op = 5 ∨ op = 6 ∨ op = 7 ∨ op = 8 ∨ op = 9 := by omega
  rcases hc with rfl | rfl | rfl | rfl | rfl | rfl | rfl | rfl <;> decide
theorem zj40_8 (s : zQs) (I : Nat → Nat → Int32) {op : Nat} (h2 : 2 ≤ op) (h9 : op ≤ 9) (x y : Int32) : zf_40 [.ref 8, .int (nI (zsg op)), .int x, .int y] (zMk (s, I)) = if (op = 5 ∨ op = 6) ∧ y = 0 then some (.int 0, zMk (s, zwA I 8 (upd (I 8) 10 1))) else some (.int (zop op x y), zMk (s, I)) := by
  have hc : op = 2 ∨ op = 3 ∨ op = 4 ∨ op = 5 ∨ op = 6 ∨ op = 7 ∨ op = 8 ∨ op = 9 := by omega
  rcases hc with rfl | rfl | rfl | rfl | rfl | rfl | rfl | rfl
  · rw [if_neg (zj_no (op := 2) (y := y) (by decide) (by decide)), zqz_40_8, zq_40_8_0, if_neg (by decide), if_pos (by decide), zq_40_8_14, show (Op.lookupswitch.offset (#[(37, 35), (42, 23), (43, 15), (45, 19), (47, 27), (60, 43), (62, 50)] : Array (Int × Int)).toList 57 (nI (zsg 2)).toInt).toNat = 15 by decide +kernel, zq_40_8_15]; rfl
  · rw [if_neg (zj_no (op := 3) (y := y) (by decide) (by decide)), zqz_40_8, zq_40_8_0, if_neg (by decide), if_pos (by decide), zq_40_8_14, show (Op.lookupswitch.offset (#[(37, 35), (42, 23), (43, 15), (45, 19), (47, 27), (60, 43), (62, 50)] : Array (Int × Int)).toList 57 (nI (zsg 3)).toInt).toNat = 19 by decide +kernel, zq_40_8_19]; rfl
  · rw [if_neg (zj_no (op := 4) (y := y) (by decide) (by decide)), zqz_40_8, zq_40_8_0, if_neg (by decide), if_pos (by decide), zq_40_8_14, show (Op.lookupswitch.offset (#[(37, 35), (42, 23), (43, 15), (45, 19), (47, 27), (60, 43), (62, 50)] : Array (Int × Int)).toList 57 (nI (zsg 4)).toInt).toNat = 23 by decide +kernel, zq_40_8_23]; rfl
  · rw [zqz_40_8, zq_40_8_0, if_pos (by decide)]
    by_cases hy : y = 0
    · rw [if_neg (not_not_intro hy), if_pos (show ((5 : Nat) = 5 ∨ (5 : Nat) = 6) ∧ y = 0 from ⟨Or.inl rfl, hy⟩)]
    · rw [if_pos hy, if_neg (show ¬ (((5 : Nat) = 5 ∨ (5 : Nat) = 6) ∧ y = 0) from fun h => hy h.2), zq_40_8_14, show (Op.lookupswitch.offset (#[(37, 35), (42, 23), (43, 15), (45, 19), (47, 27), (60, 43), (62, 50)] : Array (Int × Int)).toList 57 (nI (zsg 5)).toInt).toNat = 27 by decide +kernel, zq_40_8_27, if_pos hy, if_neg hy]; rfl
  · rw [zqz_40_8, zq_40_8_0, if_neg (by decide), if_neg (by decide)]
    by_cases hy : y = 0
    · rw [if_neg (not_not_intro hy), if_pos (show ((6 : Nat) = 5 ∨ (6 : Nat) = 6) ∧ y = 0 from ⟨Or.inr rfl, hy⟩)]
    · rw [if_pos hy, if_neg (show ¬ (((6 : Nat) = 5 ∨ (6 : Nat) = 6) ∧ y = 0) from fun h => hy h.2), zq_40_8_14, show (Op.lookupswitch.offset (#[(37, 35), (42, 23), (43, 15), (45, 19), (47, 27), (60, 43), (62, 50)] : Array (Int × Int)).toList 57 (nI (zsg 6)).toInt).toNat = 35 by decide +kernel, zq_40_8_35, if_pos hy, if_neg hy]; rfl
  · rw [if_neg (zj_no (op := 7) (y := y) (by decide) (by decide)), zqz_40_8, zq_40_8_0, if_neg (by decide), if_pos (by decide), zq_40_8_14, show (Op.lookupswitch.offset (#[(37, 35), (42, 23), (43, 15), (45, 19), (47, 27), (60, 43), (62, 50)] : Array (Int × Int)).toList 57 (nI (zsg 7)).toInt).toNat = 43 by decide +kernel, zq_40_8_43]
    by_cases h : y ≤ x
    · rw [if_pos h]; show _ = some (Value.int (if y ≤ x then 0 else 1), _); rw [if_pos h]
    · rw [if_neg h]; show _ = some (Value.int (if y ≤ x then 0 else 1), _); rw [if_neg h]
  · rw [if_neg (zj_no (op := 8) (y := y) (by decide) (by decide)), zqz_40_8, zq_40_8_0, if_neg (by decide), if_pos (by decide), zq_40_8_14, show (Op.lookupswitch.offset (#[(37, 35), (42, 23), (43, 15), (45, 19), (47, 27), (60, 43), (62, 50)] : Array (Int × Int)).toList 57 (nI (zsg 8)).toInt).toNat = 50 by decide +kernel, zq_40_8_50]
    by_cases h : x ≤ y
    · rw [if_pos h]; show _ = some (Value.int (if x ≤ y then 0 else 1), _); rw [if_pos h]
    · rw [if_neg h]; show _ = some (Value.int (if x ≤ y then 0 else 1), _); rw [if_neg h]
  · rw [if_neg (zj_no (op := 9) (y := y) (by decide) (by decide)), zqz_40_8, zq_40_8_0, if_neg (by decide), if_pos (by decide), zq_40_8_14, show (Op.lookupswitch.offset (#[(37, 35), (42, 23), (43, 15), (45, 19), (47, 27), (60, 43), (62, 50)] : Array (Int × Int)).toList 57 (nI (zsg 9)).toInt).toNat = 57 by decide +kernel, zq_40_8_57]
    by_cases h : ¬ x = y
    · rw [if_pos h]; show _ = some (Value.int (if ¬ x = y then 0 else 1), _); rw [if_pos h]
    · rw [if_neg h]; show _ = some (Value.int (if ¬ x = y then 0 else 1), _); rw [if_neg h]
theorem zlp39s_8 (s : zQs) (I : Nat → Nat → Int32) (x1 : Int32) {to h v : Nat} (ht : to ≤ 160) (hv : v ≤ to) (x7 x8 : Value) : ∀ k i, i + k = v → zQ_39 (9, [.ref 8, .int x1, .int (nI to), .ref 7, .int (nI h), .int (nI v), .int (nI i), x7, x8], [], zMk (s, I)) = zQ_39 (9, [.ref 8, .int x1, .int (nI to), .ref 7, .int (nI h), .int (nI v), .int (nI v), x7, x8], [], zMk (s, I))
  | 0, i, e => by
    have e : i = v := by omega
    subst e
    rfl
  | k + 1, i, e => by
    rw [zq_39_8_9, if_neg (nI_ge (show i < to by omega) (by omega)), if_neg (nI_ge (show i < v by omega) (by omega)), nI_1]
    exact zlp39s_8 s I x1 ht hv x7 x8 k (i + 1) (by omega)
theorem zlp39_8 (s : zQs) (x1 : Int32) {C : zCd} {ty : Nat → List Bool} {fr to : Nat} {fx : Nat → Int32} (hto : to ≤ 160) (hty : ∀ i, fr ≤ i → i < to → ztyp C ty to i) (hl : (ty to).length = 1) :
    ∀ d pc n st (I : Nat → Nat → Int32) (x7 x8 : Value), fr ≤ pc → pc ≤ to → to ≤ pc + d → n ≤ pc → zcf (ty pc) st → zstk (I 15) st → I 8 10 = 0 → (∀ i, i < to → I 9 i = nI (zsg (C i).1) ∧ I 10 i = nI (C i).2 ∧ (C i).2 < 100000) → (∀ i, i < 9 → I 7 i = fx i) →
    ∃ J, zQ_39 (9, [.ref 8, .int x1, .int (nI to), .ref 7, .int (nI st.length), .int (nI n), .int (nI pc), x7, x8], [], zMk (s, I)) = some (.int (zev C fx to d pc st), zMk (s, J)) ∧ (∀ r, r ≠ 8 → r ≠ 15 → J r = I r) ∧ ∀ j, j ≠ 10 → J 8 j = I 8 j := by
  intro d
  induction d with
  | zero =>
    intro pc n st I x7 x8 hf hp hd hn hc hs h0 hC hx
    have e : pc = to := by omega
    subst e
    refine ⟨I, ?_, fun _ _ _ => rfl, fun _ _ => rfl⟩
    have h1 := zcf_len _ _ hc
    match st, hs, h1 with
    | [x], hs, _ =>
      rw [zq_39_8_9, if_pos (nI_le (Nat.le_refl _) (by omega)), if_neg (not_not_intro (show nI [x].length = 1 from rfl)), show I 15 0 = x from hs.1]
      rfl
    | [], _, h1 => rw [hl] at h1; cases h1
    | _ :: _ :: _, _, h1 => rw [hl] at h1; cases h1
  | succ d ih =>
    intro pc n st I x7 x8 hf hp hd hn hc hs h0 hC hx
    by_cases hlt : to ≤ pc
    · have e : pc = to := by omega
      subst e
      refine ⟨I, ?_, fun _ _ _ => rfl, fun _ _ => rfl⟩
      have h1 := zcf_len _ _ hc
      rw [zev_end (Nat.le_refl _)]
      match st, hs, h1 with
      | [x], hs, _ =>
        rw [zq_39_8_9, if_pos (nI_le (Nat.le_refl _) (by omega)), if_neg (not_not_intro (show nI [x].length = 1 from rfl)), show I 15 0 = x from hs.1]
        rfl
      | [], _, h1 => rw [hl] at h1; cases h1
      | _ :: _ :: _, _, h1 => rw [hl] at h1; cases h1
    · have hlt : pc < to := by omega
      obtain ⟨k1, k2, k3⟩ := hC pc hlt
      obtain ⟨t1, t2⟩ := hty pc hf hlt
      have h1 := zcf_len _ _ hc
      have hb : zb (nI pc) 160 = true := zb_t (by omega) (by omega)
      rw [zev_s, if_neg (show ¬ to ≤ pc by omega)]
      rcases t2 with ⟨o, t⟩ | ⟨o, o9, t⟩ | ⟨o2, o9, x, y, T, t, t'⟩ | ⟨o, T, t, t'⟩ | ⟨o, T, t, t', v1, v2, v3⟩
      · rw [zq_39_8_9, if_neg (nI_ge hlt (by omega)), if_pos (nI_le hn (by omega)), if_pos hb, nI_clamp (show pc < 2 ^ 31 by omega), k1, o, if_pos (show nI (zsg 0) = 48 from rfl), zq_39_8_27, if_pos (show nI st.length < 64 from nI_lt (b := 64) (by omega) (by decide)), if_neg (not_not_intro (show nI (zsg 0) = 48 from rfl)), if_pos hb, if_pos (zb_t (show st.length < 64 by omega) (by omega)), nI_clamp (show pc < 2 ^ 31 by omega), nI_clamp (show st.length < 2 ^ 31 by omega), k2, if_pos rfl, nI_1, nI_1]
        obtain ⟨J, e, j1, j2⟩ := ih (pc + 1) n (nI (C pc).2 :: st) (zwA I 15 (upd (I 15) st.length (nI (C pc).2))) (.int (nI (zsg 0))) x8 (by omega) (by omega) (by omega) (by omega) (by rw [t]; exact ⟨fun h => (by cases h), hc⟩) (by rw [zwA_s]; exact ⟨by rw [upd_at, if_pos rfl], zstk_up st (Nat.le_refl _) hs⟩) (by rw [zwA_n (by decide)]; exact h0) (fun i hi => by rw [zwA_n (by decide), zwA_n (by decide)]; exact hC i hi) (fun i hi => by rw [zwA_n (by decide)]; exact hx i hi)
        exact ⟨J, e, fun r a b => (j1 r a b).trans (zwA_n b), fun j hj => (j2 j hj).trans (by rw [zwA_n (by decide)])⟩
      · rw [zq_39_8_9, if_neg (nI_ge hlt (by omega)), if_pos (nI_le hn (by omega)), if_pos hb, nI_clamp (show pc < 2 ^ 31 by omega), k1, o, if_neg (show ¬ nI (zsg 1) = 48 by decide), if_neg (not_not_intro (show nI (zsg 1) = 97 from rfl)), zq_39_8_27, if_pos (show nI st.length < 64 from nI_lt (b := 64) (by omega) (by decide)), if_pos (show ¬ nI (zsg 1) = 48 by decide), if_pos hb, if_pos (show zb (I 10 (nI pc).toNatClampNeg) 9 = true by rw [nI_clamp (show pc < 2 ^ 31 by omega), k2]; exact zb_t o9 (by omega)), if_pos (zb_t (show st.length < 64 by omega) (by omega)), nI_clamp (show pc < 2 ^ 31 by omega), nI_clamp (show st.length < 2 ^ 31 by omega), k2, nI_clamp (show (C pc).2 < 2 ^ 31 by omega), hx _ o9, if_neg (by decide), if_pos rfl, nI_1, nI_1]
        obtain ⟨J, e, j1, j2⟩ := ih (pc + 1) n (fx (C pc).2 :: st) (zwA I 15 (upd (I 15) st.length (fx (C pc).2))) (.int (nI (zsg 1))) x8 (by omega) (by omega) (by omega) (by omega) (by rw [t]; exact ⟨fun h => (by cases h), hc⟩) (by rw [zwA_s]; exact ⟨by rw [upd_at, if_pos rfl], zstk_up st (Nat.le_refl _) hs⟩) (by rw [zwA_n (by decide)]; exact h0) (fun i hi => by rw [zwA_n (by decide), zwA_n (by decide)]; exact hC i hi) (fun i hi => by rw [zwA_n (by decide)]; exact hx i hi)
        exact ⟨J, e, fun r a b => (j1 r a b).trans (zwA_n b), fun j hj => (j2 j hj).trans (by rw [zwA_n (by decide)])⟩
      · rw [t] at hc
        obtain ⟨b, S1, rfl, -, hc1⟩ := zcf_cons hc
        obtain ⟨a, S, rfl, -, hc2⟩ := zcf_cons hc1
        obtain ⟨n1, n2, n3, n4, n5⟩ := zc_num o2 o9
        have hS : S.length + 2 < 60 := by
          rw [show (b :: a :: S).length = S.length + 2 from rfl] at h1
          omega
        have q1 : nI (b :: a :: S).length = nI (S.length + 2) := rfl
        have q2 : nI (S.length + 2) + (-1) = nI (S.length + 1) := nI_suc _
        have q3 : nI (S.length + 1) - 1 = nI S.length := nI_pred _
        have hs1 : I 15 (S.length + 1) = b := hs.1
        have hs2 : I 15 S.length = a := hs.2.1
        rw [zq_39_8_9, if_neg (nI_ge hlt (by omega)), if_pos (nI_le hn (by omega)), if_pos hb, nI_clamp (show pc < 2 ^ 31 by omega), k1, if_neg n1, if_pos n2, if_neg n3, if_neg n4, if_pos n5, q1, if_pos (show (2 : Int32) ≤ nI (S.length + 2) from nI_le (a := 2) (by omega) (by omega)), q2, q3, if_pos (zb_t (show S.length < 64 by omega) (by omega)), if_pos (zb_t (show S.length + 1 < 64 by omega) (by omega)), nI_clamp (show S.length < 2 ^ 31 by omega), nI_clamp (show S.length + 1 < 2 ^ 31 by omega), hs1, hs2, zj40_8 s I o2 o9,
          if_neg (show ¬ (C pc).1 = 0 by omega), if_neg (show ¬ (C pc).1 = 1 by omega), if_neg (show ¬ (C pc).1 = 10 by omega), if_neg (show ¬ 11 ≤ (C pc).1 by omega)]
        by_cases hz : ((C pc).1 = 5 ∨ (C pc).1 = 6) ∧ b = 0
        · rw [if_pos hz, if_pos (show ((C pc).1 = 5 ∨ (C pc).1 = 6) ∧ zhd (b :: a :: S) = 0 from hz), zcI_some, zq_39_8_134, if_pos (zb_t (show S.length < 64 by omega) (by omega)), if_neg (by rw [zwA_s, upd_at, if_pos rfl]; decide)]
          refine ⟨_, rfl, fun r ha hb2 => ?_, fun j hj => ?_⟩
          · rw [zwA_n hb2, zwA_n ha]
          · rw [zwA_n (by decide), zwA_s, upd_at, if_neg hj]
        · rw [if_neg hz, if_neg (show ¬ (((C pc).1 = 5 ∨ (C pc).1 = 6) ∧ zhd (b :: a :: S) = 0) from hz), zcI_some, zq_39_8_134, if_pos (zb_t (show S.length < 64 by omega) (by omega)), if_pos h0, nI_clamp (show S.length < 2 ^ 31 by omega), nI_1]
          obtain ⟨J, e, j1, j2⟩ := ih (pc + 1) n (zop (C pc).1 a b :: S) (zwA I 15 (upd (I 15) S.length (zop (C pc).1 a b))) (.int (nI (zsg (C pc).1))) x8 (by omega) (by omega) (by omega) (by omega) (by rw [t']; exact ⟨fun h => zop_b (of_decide_eq_true h) o9, hc2⟩) (by rw [zwA_s]; exact ⟨by rw [upd_at, if_pos rfl], zstk_up S (Nat.le_refl _) hs.2.2⟩) (by rw [zwA_n (by decide)]; exact h0) (fun i hi => by rw [zwA_n (by decide), zwA_n (by decide)]; exact hC i hi) (fun i hi => by rw [zwA_n (by decide)]; exact hx i hi)
          exact ⟨J, e, fun r a b => (j1 r a b).trans (zwA_n b), fun j hj => (j2 j hj).trans (by rw [zwA_n (by decide)])⟩
      · rw [t] at hc
        obtain ⟨b, S, rfl, hb1, hc1⟩ := zcf_cons hc
        have hS : S.length + 1 < 60 := by
          rw [show (b :: S).length = S.length + 1 from rfl] at h1
          omega
        have q1 : nI (b :: S).length = nI (S.length + 1) := rfl
        have q3 : nI (S.length + 1) - 1 = nI S.length := nI_pred _
        have hs1 : I 15 S.length = b := hs.1
        rw [zq_39_8_9, if_neg (nI_ge hlt (by omega)), if_pos (nI_le hn (by omega)), if_pos hb, nI_clamp (show pc < 2 ^ 31 by omega), k1, o, if_neg (show ¬ nI (zsg 10) = 48 by decide), if_pos (show ¬ nI (zsg 10) = 97 by decide), if_neg (show ¬ nI (zsg 10) = 38 by decide), if_neg (show ¬ nI (zsg 10) = 124 by decide), if_neg (not_not_intro (show nI (zsg 10) = 33 from rfl)), q1, zq_39_8_63, if_pos (show (1 : Int32) ≤ nI (S.length + 1) from nI_le (a := 1) (by omega) (by omega)), q3, if_pos (zb_t (show S.length < 64 by omega) (by omega)), nI_clamp (show S.length < 2 ^ 31 by omega), hs1, if_neg (show ¬ (10 : Nat) = 0 by decide), if_neg (show ¬ (10 : Nat) = 1 by decide), if_pos (show (10 : Nat) = 10 from rfl)]
        have step : ∀ (w : Int32) (z8 : Value), w = 0 ∨ w = 1 → ∃ J, zQ_39 (9, [.ref 8, .int x1, .int (nI to), .ref 7, .int (nI (S.length + 1)), .int (nI n), .int (nI (pc + 1)), .int (nI (zsg 10)), z8], [], zMk (s, zwA I 15 (upd (I 15) S.length w))) = some (.int (zev C fx to d (pc + 1) (w :: S)), zMk (s, J)) ∧ (∀ r, r ≠ 8 → r ≠ 15 → J r = I r) ∧ ∀ j, j ≠ 10 → J 8 j = I 8 j := by
          intro w z8 hw
          obtain ⟨J, e, j1, j2⟩ := ih (pc + 1) n (w :: S) (zwA I 15 (upd (I 15) S.length w)) (.int (nI (zsg 10))) z8 (by omega) (by omega) (by omega) (by omega) (by rw [t']; exact ⟨fun _ => hw, hc1⟩) (by rw [zwA_s]; exact ⟨by rw [upd_at, if_pos rfl], zstk_up S (Nat.le_refl _) hs.2⟩) (by rw [zwA_n (by decide)]; exact h0) (fun i hi => by rw [zwA_n (by decide), zwA_n (by decide)]; exact hC i hi) (fun i hi => by rw [zwA_n (by decide)]; exact hx i hi)
          exact ⟨J, e, fun r a b => (j1 r a b).trans (zwA_n b), fun j hj => (j2 j hj).trans (by rw [zwA_n (by decide)])⟩
        rcases hb1 rfl with rfl | rfl
        · rw [if_pos rfl, zq_39_8_78, if_neg (not_not_intro (show nI (zsg 10) = 33 from rfl)), if_pos rfl, q3, if_pos (zb_t (show S.length < 64 by omega) (by omega)), nI_clamp (show S.length < 2 ^ 31 by omega), nI_1, if_pos (show zhd ((0 : Int32) :: S) = 0 from rfl)]
          exact step 1 _ (Or.inr rfl)
        · rw [if_neg (by decide), zq_39_8_78, if_neg (not_not_intro (show nI (zsg 10) = 33 from rfl)), if_neg (by decide), q3, if_pos (zb_t (show S.length < 64 by omega) (by omega)), nI_clamp (show S.length < 2 ^ 31 by omega), nI_1, if_neg (show ¬ zhd ((1 : Int32) :: S) = 0 from (by decide : ¬ (1 : Int32) = 0))]
          exact step 0 _ (Or.inl rfl)
      · rw [t] at hc
        obtain ⟨b, S, rfl, hb1, hc1⟩ := zcf_cons hc
        have hS : S.length + 1 < 60 := by
          rw [show (b :: S).length = S.length + 1 from rfl] at h1
          omega
        have q1 : nI (b :: S).length = nI (S.length + 1) := rfl
        have q2 : nI (S.length + 1) + (-1) = nI S.length := nI_suc _
        have q3 : nI (S.length + 1) - 1 = nI S.length := nI_pred _
        have hs1 : I 15 S.length = b := hs.1
        have hops : zQ_39 (9, [.ref 8, .int x1, .int (nI to), .ref 7, .int (nI (b :: S).length), .int (nI n), .int (nI pc), x7, x8], [], zMk (s, I)) = zQ_39 (63, [.ref 8, .int x1, .int (nI to), .ref 7, .int (nI (S.length + 1)), .int (nI n), .int (nI pc), .int (nI (zsg (C pc).1)), x8], [], zMk (s, I)) := by
          rw [zq_39_8_9, if_neg (nI_ge hlt (by omega)), if_pos (nI_le hn (by omega)), if_pos hb, nI_clamp (show pc < 2 ^ 31 by omega), k1]
          rcases o with o | o
          · rw [o, if_neg (show ¬ nI (zsg 11) = 48 by decide), if_pos (show ¬ nI (zsg 11) = 97 by decide), if_pos (show nI (zsg 11) = 38 from rfl)]; rfl
          · rw [o, if_neg (show ¬ nI (zsg 12) = 48 by decide), if_pos (show ¬ nI (zsg 12) = 97 by decide), if_neg (show ¬ nI (zsg 12) = 38 by decide), if_pos (show nI (zsg 12) = 124 from rfl)]; rfl
        rw [hops, zq_39_8_63, if_pos (show (1 : Int32) ≤ nI (S.length + 1) from nI_le (a := 1) (by omega) (by omega)), q3, if_pos (zb_t (show S.length < 64 by omega) (by omega)), nI_clamp (show S.length < 2 ^ 31 by omega), hs1, if_neg (show ¬ (C pc).1 = 0 by omega), if_neg (show ¬ (C pc).1 = 1 by omega), if_neg (show ¬ (C pc).1 = 10 by omega), if_pos (show 11 ≤ (C pc).1 by omega)]
        have jump : ∀ (z7 z8 : Value), ∃ J, zQ_39 (9, [.ref 8, .int x1, .int (nI to), .ref 7, .int (nI (S.length + 1)), .int (nI (C pc).2), .int (nI (pc + 1)), z7, z8], [], zMk (s, I)) = some (.int (zev C fx to d (C pc).2 (b :: S)), zMk (s, J)) ∧ (∀ r, r ≠ 8 → r ≠ 15 → J r = I r) ∧ ∀ j, j ≠ 10 → J 8 j = I 8 j := by
          intro z7 z8
          rw [zlp39s_8 s I x1 hto v2 z7 z8 ((C pc).2 - (pc + 1)) (pc + 1) (by omega)]
          exact ih (C pc).2 (C pc).2 (b :: S) I z7 z8 (by omega) v2 (by omega) (Nat.le_refl _) (by rw [v3]; exact ⟨hb1, hc1⟩) hs h0 hC hx
        have next : ∀ (z7 z8 : Value), ∃ J, zQ_39 (9, [.ref 8, .int x1, .int (nI to), .ref 7, .int (nI S.length), .int (nI n), .int (nI (pc + 1)), z7, z8], [], zMk (s, I)) = some (.int (zev C fx to d (pc + 1) S), zMk (s, J)) ∧ (∀ r, r ≠ 8 → r ≠ 15 → J r = I r) ∧ ∀ j, j ≠ 10 → J 8 j = I 8 j :=
          fun z7 z8 => ih (pc + 1) n S I z7 z8 (by omega) (by omega) (by omega) (by omega) (by rw [t']; exact hc1) hs.2 h0 hC hx
        rcases hb1 rfl with rfl | rfl
        · rw [if_pos rfl, zq_39_8_78]
          rcases o with o | o
          · rw [o, if_pos (show ¬ nI (zsg 11) = 33 by decide), if_pos (show ¬ nI (zsg 11) = 124 by decide), zq_39_8_101, if_neg (not_not_intro rfl), if_pos hb, nI_clamp (show pc < 2 ^ 31 by omega), k2, nI_1, if_pos (show (zhd ((0 : Int32) :: S) = 0 ↔ (11 : Nat) = 11) from ⟨fun _ => rfl, fun _ => rfl⟩)]
            exact jump _ _
          · rw [o, if_pos (show ¬ nI (zsg 12) = 33 by decide), if_neg (not_not_intro (show nI (zsg 12) = 124 from rfl)), zq_39_8_101, if_pos (by decide), q2, nI_1, if_neg (show ¬ (zhd ((0 : Int32) :: S) = 0 ↔ (12 : Nat) = 11) from fun h => absurd (h.mp rfl) (by decide))]
            exact next _ _
        · rw [if_neg (by decide), zq_39_8_78]
          rcases o with o | o
          · rw [o, if_pos (show ¬ nI (zsg 11) = 33 by decide), if_pos (show ¬ nI (zsg 11) = 124 by decide), zq_39_8_101, if_pos (by decide), q2, nI_1, if_neg (show ¬ (zhd ((1 : Int32) :: S) = 0 ↔ (11 : Nat) = 11) from fun h => absurd (h.mpr rfl) (by decide : ¬ (1 : Int32) = 0))]
            exact next _ _
          · rw [o, if_pos (show ¬ nI (zsg 12) = 33 by decide), if_neg (not_not_intro (show nI (zsg 12) = 124 from rfl)), zq_39_8_101, if_neg (not_not_intro rfl), if_pos hb, nI_clamp (show pc < 2 ^ 31 by omega), k2, nI_1, if_pos (show (zhd ((1 : Int32) :: S) = 0 ↔ (12 : Nat) = 11) from ⟨fun h => absurd h (by decide : ¬ (1 : Int32) = 0), fun h => absurd h (by decide)⟩)]
            exact jump _ _
/-- what a class's steps come to -/
theorem zf39_8 (s : zQs) {C : zCd} {ty : Nat → List Bool} {fr to : Nat} {fx : Nat → Int32} (hto : to ≤ 160) (hft : fr ≤ to) (hty : ∀ i, fr ≤ i → i < to → ztyp C ty to i) (h0 : ty fr = []) (hl : (ty to).length = 1) {I : Nat → Nat → Int32} (hC : ∀ i, i < to → I 9 i = nI (zsg (C i).1) ∧ I 10 i = nI (C i).2 ∧ (C i).2 < 100000) (hx : ∀ i, i < 9 → I 7 i = fx i) :
    ∃ J, zf_39 [.ref 8, .int (nI fr), .int (nI to), .ref 7] (zMk (s, I)) = some (.int (zev C fx to (to - fr) fr []), zMk (s, J)) ∧ (∀ r, r ≠ 8 → r ≠ 15 → J r = I r) ∧ ∀ j, j ≠ 10 → J 8 j = I 8 j := by
  obtain ⟨J, e, j1, j2⟩ := zlp39_8 s (nI fr) (fx := fx) hto hty hl (to - fr) fr fr [] (zwA I 8 (upd (I 8) 10 0)) (.long 0) (.long 0) (Nat.le_refl _) hft (by omega) (Nat.le_refl _) (by rw [h0]; exact trivial) trivial (by rw [zwA_s, upd_at, if_pos rfl]) (fun i hi => by rw [zwA_n (by decide), zwA_n (by decide)]; exact hC i hi) (fun i hi => by rw [zwA_n (by decide)]; exact hx i hi)
  refine ⟨J, ?_, fun r a b => (j1 r a b).trans (zwA_n a), fun j hj => (j2 j hj).trans (by rw [zwA_s, upd_at, if_neg hj])⟩
  rw [zqz_39_8, zq_39_8_0]
  exact e
theorem zj40_34 (s : zQs) (I : Nat → Nat → Int32) {op : Nat} (h2 : 2 ≤ op) (h9 : op ≤ 9) (x y : Int32) : zf_40 [.ref 34, .int (nI (zsg op)), .int x, .int y] (zMk (s, I)) = if (op = 5 ∨ op = 6) ∧ y = 0 then some (.int 0, zMk (s, zwA I 34 (upd (I 34) 10 1))) else some (.int (zop op x y), zMk (s, I)) := by
  have hc : op = 2 ∨ op = 3 ∨ op = 4 ∨ op = 5 ∨ op = 6 ∨ op = 7 ∨ op = 8 ∨ op = 9 := by omega
  rcases hc with rfl | rfl | rfl | rfl | rfl | rfl | rfl | rfl
  · rw [if_neg (zj_no (op := 2) (y := y) (by decide) (by decide)), zqz_40_34, zq_40_34_0, if_neg (by decide), if_pos (by decide), zq_40_34_14, show (Op.lookupswitch.offset (#[(37, 35), (42, 23), (43, 15), (45, 19), (47, 27), (60, 43), (62, 50)] : Array (Int × Int)).toList 57 (nI (zsg 2)).toInt).toNat = 15 by decide +kernel, zq_40_34_15]; rfl
  · rw [if_neg (zj_no (op := 3) (y := y) (by decide) (by decide)), zqz_40_34, zq_40_34_0, if_neg (by decide), if_pos (by decide), zq_40_34_14, show (Op.lookupswitch.offset (#[(37, 35), (42, 23), (43, 15), (45, 19), (47, 27), (60, 43), (62, 50)] : Array (Int × Int)).toList 57 (nI (zsg 3)).toInt).toNat = 19 by decide +kernel, zq_40_34_19]; rfl
  · rw [if_neg (zj_no (op := 4) (y := y) (by decide) (by decide)), zqz_40_34, zq_40_34_0, if_neg (by decide), if_pos (by decide), zq_40_34_14, show (Op.lookupswitch.offset (#[(37, 35), (42, 23), (43, 15), (45, 19), (47, 27), (60, 43), (62, 50)] : Array (Int × Int)).toList 57 (nI (zsg 4)).toInt).toNat = 23 by decide +kernel, zq_40_34_23]; rfl
  · rw [zqz_40_34, zq_40_34_0, if_pos (by decide)]
    by_cases hy : y = 0
    · rw [if_neg (not_not_intro hy), if_pos (show ((5 : Nat) = 5 ∨ (5 : Nat) = 6) ∧ y = 0 from ⟨Or.inl rfl, hy⟩)]
    · rw [if_pos hy, if_neg (show ¬ (((5 : Nat) = 5 ∨ (5 : Nat) = 6) ∧ y = 0) from fun h => hy h.2), zq_40_34_14, show (Op.lookupswitch.offset (#[(37, 35), (42, 23), (43, 15), (45, 19), (47, 27), (60, 43), (62, 50)] : Array (Int × Int)).toList 57 (nI (zsg 5)).toInt).toNat = 27 by decide +kernel, zq_40_34_27, if_pos hy, if_neg hy]; rfl
  · rw [zqz_40_34, zq_40_34_0, if_neg (by decide), if_neg (by decide)]
    by_cases hy : y = 0
    · rw [if_neg (not_not_intro hy), if_pos (show ((6 : Nat) = 5 ∨ (6 : Nat) = 6) ∧ y = 0 from ⟨Or.inr rfl, hy⟩)]
    · rw [if_pos hy, if_neg (show ¬ (((6 : Nat) = 5 ∨ (6 : Nat) = 6) ∧ y = 0) from fun h => hy h.2), zq_40_34_14, show (Op.lookupswitch.offset (#[(37, 35), (42, 23), (43, 15), (45, 19), (47, 27), (60, 43), (62, 50)] : Array (Int × Int)).toList 57 (nI (zsg 6)).toInt).toNat = 35 by decide +kernel, zq_40_34_35, if_pos hy, if_neg hy]; rfl
  · rw [if_neg (zj_no (op := 7) (y := y) (by decide) (by decide)), zqz_40_34, zq_40_34_0, if_neg (by decide), if_pos (by decide), zq_40_34_14, show (Op.lookupswitch.offset (#[(37, 35), (42, 23), (43, 15), (45, 19), (47, 27), (60, 43), (62, 50)] : Array (Int × Int)).toList 57 (nI (zsg 7)).toInt).toNat = 43 by decide +kernel, zq_40_34_43]
    by_cases h : y ≤ x
    · rw [if_pos h]; show _ = some (Value.int (if y ≤ x then 0 else 1), _); rw [if_pos h]
    · rw [if_neg h]; show _ = some (Value.int (if y ≤ x then 0 else 1), _); rw [if_neg h]
  · rw [if_neg (zj_no (op := 8) (y := y) (by decide) (by decide)), zqz_40_34, zq_40_34_0, if_neg (by decide), if_pos (by decide), zq_40_34_14, show (Op.lookupswitch.offset (#[(37, 35), (42, 23), (43, 15), (45, 19), (47, 27), (60, 43), (62, 50)] : Array (Int × Int)).toList 57 (nI (zsg 8)).toInt).toNat = 50 by decide +kernel, zq_40_34_50]
    by_cases h : x ≤ y
    · rw [if_pos h]; show _ = some (Value.int (if x ≤ y then 0 else 1), _); rw [if_pos h]
    · rw [if_neg h]; show _ = some (Value.int (if x ≤ y then 0 else 1), _); rw [if_neg h]
  · rw [if_neg (zj_no (op := 9) (y := y) (by decide) (by decide)), zqz_40_34, zq_40_34_0, if_neg (by decide), if_pos (by decide), zq_40_34_14, show (Op.lookupswitch.offset (#[(37, 35), (42, 23), (43, 15), (45, 19), (47, 27), (60, 43), (62, 50)] : Array (Int × Int)).toList 57 (nI (zsg 9)).toInt).toNat = 57 by decide +kernel, zq_40_34_57]
    by_cases h : ¬ x = y
    · rw [if_pos h]; show _ = some (Value.int (if ¬ x = y then 0 else 1), _); rw [if_pos h]
    · rw [if_neg h]; show _ = some (Value.int (if ¬ x = y then 0 else 1), _); rw [if_neg h]
theorem zlp39s_34 (s : zQs) (I : Nat → Nat → Int32) (x1 : Int32) {to h v : Nat} (ht : to ≤ 160) (hv : v ≤ to) (x7 x8 : Value) : ∀ k i, i + k = v → zQ_39 (9, [.ref 34, .int x1, .int (nI to), .ref 7, .int (nI h), .int (nI v), .int (nI i), x7, x8], [], zMk (s, I)) = zQ_39 (9, [.ref 34, .int x1, .int (nI to), .ref 7, .int (nI h), .int (nI v), .int (nI v), x7, x8], [], zMk (s, I))
  | 0, i, e => by
    have e : i = v := by omega
    subst e
    rfl
  | k + 1, i, e => by
    rw [zq_39_34_9, if_neg (nI_ge (show i < to by omega) (by omega)), if_neg (nI_ge (show i < v by omega) (by omega)), nI_1]
    exact zlp39s_34 s I x1 ht hv x7 x8 k (i + 1) (by omega)
theorem zlp39_34 (s : zQs) (x1 : Int32) {C : zCd} {ty : Nat → List Bool} {fr to : Nat} {fx : Nat → Int32} (hto : to ≤ 160) (hty : ∀ i, fr ≤ i → i < to → ztyp C ty to i) (hl : (ty to).length = 1) :
    ∀ d pc n st (I : Nat → Nat → Int32) (x7 x8 : Value), fr ≤ pc → pc ≤ to → to ≤ pc + d → n ≤ pc → zcf (ty pc) st → zstk (I 41) st → I 34 10 = 0 → (∀ i, i < to → I 35 i = nI (zsg (C i).1) ∧ I 36 i = nI (C i).2 ∧ (C i).2 < 100000) → (∀ i, i < 9 → I 7 i = fx i) →
    ∃ J, zQ_39 (9, [.ref 34, .int x1, .int (nI to), .ref 7, .int (nI st.length), .int (nI n), .int (nI pc), x7, x8], [], zMk (s, I)) = some (.int (zev C fx to d pc st), zMk (s, J)) ∧ (∀ r, r ≠ 34 → r ≠ 41 → J r = I r) ∧ ∀ j, j ≠ 10 → J 34 j = I 34 j := by
  intro d
  induction d with
  | zero =>
    intro pc n st I x7 x8 hf hp hd hn hc hs h0 hC hx
    have e : pc = to := by omega
    subst e
    refine ⟨I, ?_, fun _ _ _ => rfl, fun _ _ => rfl⟩
    have h1 := zcf_len _ _ hc
    match st, hs, h1 with
    | [x], hs, _ =>
      rw [zq_39_34_9, if_pos (nI_le (Nat.le_refl _) (by omega)), if_neg (not_not_intro (show nI [x].length = 1 from rfl)), show I 41 0 = x from hs.1]
      rfl
    | [], _, h1 => rw [hl] at h1; cases h1
    | _ :: _ :: _, _, h1 => rw [hl] at h1; cases h1
  | succ d ih =>
    intro pc n st I x7 x8 hf hp hd hn hc hs h0 hC hx
    by_cases hlt : to ≤ pc
    · have e : pc = to := by omega
      subst e
      refine ⟨I, ?_, fun _ _ _ => rfl, fun _ _ => rfl⟩
      have h1 := zcf_len _ _ hc
      rw [zev_end (Nat.le_refl _)]
      match st, hs, h1 with
      | [x], hs, _ =>
        rw [zq_39_34_9, if_pos (nI_le (Nat.le_refl _) (by omega)), if_neg (not_not_intro (show nI [x].length = 1 from rfl)), show I 41 0 = x from hs.1]
        rfl
      | [], _, h1 => rw [hl] at h1; cases h1
      | _ :: _ :: _, _, h1 => rw [hl] at h1; cases h1
    · have hlt : pc < to := by omega
      obtain ⟨k1, k2, k3⟩ := hC pc hlt
      obtain ⟨t1, t2⟩ := hty pc hf hlt
      have h1 := zcf_len _ _ hc
      have hb : zb (nI pc) 160 = true := zb_t (by omega) (by omega)
      rw [zev_s, if_neg (show ¬ to ≤ pc by omega)]
      rcases t2 with ⟨o, t⟩ | ⟨o, o9, t⟩ | ⟨o2, o9, x, y, T, t, t'⟩ | ⟨o, T, t, t'⟩ | ⟨o, T, t, t', v1, v2, v3⟩
      · rw [zq_39_34_9, if_neg (nI_ge hlt (by omega)), if_pos (nI_le hn (by omega)), if_pos hb, nI_clamp (show pc < 2 ^ 31 by omega), k1, o, if_pos (show nI (zsg 0) = 48 from rfl), zq_39_34_27, if_pos (show nI st.length < 64 from nI_lt (b := 64) (by omega) (by decide)), if_neg (not_not_intro (show nI (zsg 0) = 48 from rfl)), if_pos hb, if_pos (zb_t (show st.length < 64 by omega) (by omega)), nI_clamp (show pc < 2 ^ 31 by omega), nI_clamp (show st.length < 2 ^ 31 by omega), k2, if_pos rfl, nI_1, nI_1]
        obtain ⟨J, e, j1, j2⟩ := ih (pc + 1) n (nI (C pc).2 :: st) (zwA I 41 (upd (I 41) st.length (nI (C pc).2))) (.int (nI (zsg 0))) x8 (by omega) (by omega) (by omega) (by omega) (by rw [t]; exact ⟨fun h => (by cases h), hc⟩) (by rw [zwA_s]; exact ⟨by rw [upd_at, if_pos rfl], zstk_up st (Nat.le_refl _) hs⟩) (by rw [zwA_n (by decide)]; exact h0) (fun i hi => by rw [zwA_n (by decide), zwA_n (by decide)]; exact hC i hi) (fun i hi => by rw [zwA_n (by decide)]; exact hx i hi)
        exact ⟨J, e, fun r a b => (j1 r a b).trans (zwA_n b), fun j hj => (j2 j hj).trans (by rw [zwA_n (by decide)])⟩
      · rw [zq_39_34_9, if_neg (nI_ge hlt (by omega)), if_pos (nI_le hn (by omega)), if_pos hb, nI_clamp (show pc < 2 ^ 31 by omega), k1, o, if_neg (show ¬ nI (zsg 1) = 48 by decide), if_neg (not_not_intro (show nI (zsg 1) = 97 from rfl)), zq_39_34_27, if_pos (show nI st.length < 64 from nI_lt (b := 64) (by omega) (by decide)), if_pos (show ¬ nI (zsg 1) = 48 by decide), if_pos hb, if_pos (show zb (I 36 (nI pc).toNatClampNeg) 9 = true by rw [nI_clamp (show pc < 2 ^ 31 by omega), k2]; exact zb_t o9 (by omega)), if_pos (zb_t (show st.length < 64 by omega) (by omega)), nI_clamp (show pc < 2 ^ 31 by omega), nI_clamp (show st.length < 2 ^ 31 by omega), k2, nI_clamp (show (C pc).2 < 2 ^ 31 by omega), hx _ o9, if_neg (by decide), if_pos rfl, nI_1, nI_1]
        obtain ⟨J, e, j1, j2⟩ := ih (pc + 1) n (fx (C pc).2 :: st) (zwA I 41 (upd (I 41) st.length (fx (C pc).2))) (.int (nI (zsg 1))) x8 (by omega) (by omega) (by omega) (by omega) (by rw [t]; exact ⟨fun h => (by cases h), hc⟩) (by rw [zwA_s]; exact ⟨by rw [upd_at, if_pos rfl], zstk_up st (Nat.le_refl _) hs⟩) (by rw [zwA_n (by decide)]; exact h0) (fun i hi => by rw [zwA_n (by decide), zwA_n (by decide)]; exact hC i hi) (fun i hi => by rw [zwA_n (by decide)]; exact hx i hi)
        exact ⟨J, e, fun r a b => (j1 r a b).trans (zwA_n b), fun j hj => (j2 j hj).trans (by rw [zwA_n (by decide)])⟩
      · rw [t] at hc
        obtain ⟨b, S1, rfl, -, hc1⟩ := zcf_cons hc
        obtain ⟨a, S, rfl, -, hc2⟩ := zcf_cons hc1
        obtain ⟨n1, n2, n3, n4, n5⟩ := zc_num o2 o9
        have hS : S.length + 2 < 60 := by
          rw [show (b :: a :: S).length = S.length + 2 from rfl] at h1
          omega
        have q1 : nI (b :: a :: S).length = nI (S.length + 2) := rfl
        have q2 : nI (S.length + 2) + (-1) = nI (S.length + 1) := nI_suc _
        have q3 : nI (S.length + 1) - 1 = nI S.length := nI_pred _
        have hs1 : I 41 (S.length + 1) = b := hs.1
        have hs2 : I 41 S.length = a := hs.2.1
        rw [zq_39_34_9, if_neg (nI_ge hlt (by omega)), if_pos (nI_le hn (by omega)), if_pos hb, nI_clamp (show pc < 2 ^ 31 by omega), k1, if_neg n1, if_pos n2, if_neg n3, if_neg n4, if_pos n5, q1, if_pos (show (2 : Int32) ≤ nI (S.length + 2) from nI_le (a := 2) (by omega) (by omega)), q2, q3, if_pos (zb_t (show S.length < 64 by omega) (by omega)), if_pos (zb_t (show S.length + 1 < 64 by omega) (by omega)), nI_clamp (show S.length < 2 ^ 31 by omega), nI_clamp (show S.length + 1 < 2 ^ 31 by omega), hs1, hs2, zj40_34 s I o2 o9,
          if_neg (show ¬ (C pc).1 = 0 by omega), if_neg (show ¬ (C pc).1 = 1 by omega), if_neg (show ¬ (C pc).1 = 10 by omega), if_neg (show ¬ 11 ≤ (C pc).1 by omega)]
        by_cases hz : ((C pc).1 = 5 ∨ (C pc).1 = 6) ∧ b = 0
        · rw [if_pos hz, if_pos (show ((C pc).1 = 5 ∨ (C pc).1 = 6) ∧ zhd (b :: a :: S) = 0 from hz), zcI_some, zq_39_34_134, if_pos (zb_t (show S.length < 64 by omega) (by omega)), if_neg (by rw [zwA_s, upd_at, if_pos rfl]; decide)]
          refine ⟨_, rfl, fun r ha hb2 => ?_, fun j hj => ?_⟩
          · rw [zwA_n hb2, zwA_n ha]
          · rw [zwA_n (by decide), zwA_s, upd_at, if_neg hj]
        · rw [if_neg hz, if_neg (show ¬ (((C pc).1 = 5 ∨ (C pc).1 = 6) ∧ zhd (b :: a :: S) = 0) from hz), zcI_some, zq_39_34_134, if_pos (zb_t (show S.length < 64 by omega) (by omega)), if_pos h0, nI_clamp (show S.length < 2 ^ 31 by omega), nI_1]
          obtain ⟨J, e, j1, j2⟩ := ih (pc + 1) n (zop (C pc).1 a b :: S) (zwA I 41 (upd (I 41) S.length (zop (C pc).1 a b))) (.int (nI (zsg (C pc).1))) x8 (by omega) (by omega) (by omega) (by omega) (by rw [t']; exact ⟨fun h => zop_b (of_decide_eq_true h) o9, hc2⟩) (by rw [zwA_s]; exact ⟨by rw [upd_at, if_pos rfl], zstk_up S (Nat.le_refl _) hs.2.2⟩) (by rw [zwA_n (by decide)]; exact h0) (fun i hi => by rw [zwA_n (by decide), zwA_n (by decide)]; exact hC i hi) (fun i hi => by rw [zwA_n (by decide)]; exact hx i hi)
          exact ⟨J, e, fun r a b => (j1 r a b).trans (zwA_n b), fun j hj => (j2 j hj).trans (by rw [zwA_n (by decide)])⟩
      · rw [t] at hc
        obtain ⟨b, S, rfl, hb1, hc1⟩ := zcf_cons hc
        have hS : S.length + 1 < 60 := by
          rw [show (b :: S).length = S.length + 1 from rfl] at h1
          omega
        have q1 : nI (b :: S).length = nI (S.length + 1) := rfl
        have q3 : nI (S.length + 1) - 1 = nI S.length := nI_pred _
        have hs1 : I 41 S.length = b := hs.1
        rw [zq_39_34_9, if_neg (nI_ge hlt (by omega)), if_pos (nI_le hn (by omega)), if_pos hb, nI_clamp (show pc < 2 ^ 31 by omega), k1, o, if_neg (show ¬ nI (zsg 10) = 48 by decide), if_pos (show ¬ nI (zsg 10) = 97 by decide), if_neg (show ¬ nI (zsg 10) = 38 by decide), if_neg (show ¬ nI (zsg 10) = 124 by decide), if_neg (not_not_intro (show nI (zsg 10) = 33 from rfl)), q1, zq_39_34_63, if_pos (show (1 : Int32) ≤ nI (S.length + 1) from nI_le (a := 1) (by omega) (by omega)), q3, if_pos (zb_t (show S.length < 64 by omega) (by omega)), nI_clamp (show S.length < 2 ^ 31 by omega), hs1, if_neg (show ¬ (10 : Nat) = 0 by decide), if_neg (show ¬ (10 : Nat) = 1 by decide), if_pos (show (10 : Nat) = 10 from rfl)]
        have step : ∀ (w : Int32) (z8 : Value), w = 0 ∨ w = 1 → ∃ J, zQ_39 (9, [.ref 34, .int x1, .int (nI to), .ref 7, .int (nI (S.length + 1)), .int (nI n), .int (nI (pc + 1)), .int (nI (zsg 10)), z8], [], zMk (s, zwA I 41 (upd (I 41) S.length w))) = some (.int (zev C fx to d (pc + 1) (w :: S)), zMk (s, J)) ∧ (∀ r, r ≠ 34 → r ≠ 41 → J r = I r) ∧ ∀ j, j ≠ 10 → J 34 j = I 34 j := by
          intro w z8 hw
          obtain ⟨J, e, j1, j2⟩ := ih (pc + 1) n (w :: S) (zwA I 41 (upd (I 41) S.length w)) (.int (nI (zsg 10))) z8 (by omega) (by omega) (by omega) (by omega) (by rw [t']; exact ⟨fun _ => hw, hc1⟩) (by rw [zwA_s]; exact ⟨by rw [upd_at, if_pos rfl], zstk_up S (Nat.le_refl _) hs.2⟩) (by rw [zwA_n (by decide)]; exact h0) (fun i hi => by rw [zwA_n (by decide), zwA_n (by decide)]; exact hC i hi) (fun i hi => by rw [zwA_n (by decide)]; exact hx i hi)
          exact ⟨J, e, fun r a b => (j1 r a b).trans (zwA_n b), fun j hj => (j2 j hj).trans (by rw [zwA_n (by decide)])⟩
        rcases hb1 rfl with rfl | rfl
        · rw [if_pos rfl, zq_39_34_78, if_neg (not_not_intro (show nI (zsg 10) = 33 from rfl)), if_pos rfl, q3, if_pos (zb_t (show S.length < 64 by omega) (by omega)), nI_clamp (show S.length < 2 ^ 31 by omega), nI_1, if_pos (show zhd ((0 : Int32) :: S) = 0 from rfl)]
          exact step 1 _ (Or.inr rfl)
        · rw [if_neg (by decide), zq_39_34_78, if_neg (not_not_intro (show nI (zsg 10) = 33 from rfl)), if_neg (by decide), q3, if_pos (zb_t (show S.length < 64 by omega) (by omega)), nI_clamp (show S.length < 2 ^ 31 by omega), nI_1, if_neg (show ¬ zhd ((1 : Int32) :: S) = 0 from (by decide : ¬ (1 : Int32) = 0))]
          exact step 0 _ (Or.inl rfl)
      · rw [t] at hc
        obtain ⟨b, S, rfl, hb1, hc1⟩ := zcf_cons hc
        have hS : S.length + 1 < 60 := by
          rw [show (b :: S).length = S.length + 1 from rfl] at h1
          omega
        have q1 : nI (b :: S).length = nI (S.length + 1) := rfl
        have q2 : nI (S.length + 1) + (-1) = nI S.length := nI_suc _
        have q3 : nI (S.length + 1) - 1 = nI S.length := nI_pred _
        have hs1 : I 41 S.length = b := hs.1
        have hops : zQ_39 (9, [.ref 34, .int x1, .int (nI to), .ref 7, .int (nI (b :: S).length), .int (nI n), .int (nI pc), x7, x8], [], zMk (s, I)) = zQ_39 (63, [.ref 34, .int x1, .int (nI to), .ref 7, .int (nI (S.length + 1)), .int (nI n), .int (nI pc), .int (nI (zsg (C pc).1)), x8], [], zMk (s, I)) := by
          rw [zq_39_34_9, if_neg (nI_ge hlt (by omega)), if_pos (nI_le hn (by omega)), if_pos hb, nI_clamp (show pc < 2 ^ 31 by omega), k1]
          rcases o with o | o
          · rw [o, if_neg (show ¬ nI (zsg 11) = 48 by decide), if_pos (show ¬ nI (zsg 11) = 97 by decide), if_pos (show nI (zsg 11) = 38 from rfl)]; rfl
          · rw [o, if_neg (show ¬ nI (zsg 12) = 48 by decide), if_pos (show ¬ nI (zsg 12) = 97 by decide), if_neg (show ¬ nI (zsg 12) = 38 by decide), if_pos (show nI (zsg 12) = 124 from rfl)]; rfl
        rw [hops, zq_39_34_63, if_pos (show (1 : Int32) ≤ nI (S.length + 1) from nI_le (a := 1) (by omega) (by omega)), q3, if_pos (zb_t (show S.length < 64 by omega) (by omega)), nI_clamp (show S.length < 2 ^ 31 by omega), hs1, if_neg (show ¬ (C pc).1 = 0 by omega), if_neg (show ¬ (C pc).1 = 1 by omega), if_neg (show ¬ (C pc).1 = 10 by omega), if_pos (show 11 ≤ (C pc).1 by omega)]
        have jump : ∀ (z7 z8 : Value), ∃ J, zQ_39 (9, [.ref 34, .int x1, .int (nI to), .ref 7, .int (nI (S.length + 1)), .int (nI (C pc).2), .int (nI (pc + 1)), z7, z8], [], zMk (s, I)) = some (.int (zev C fx to d (C pc).2 (b :: S)), zMk (s, J)) ∧ (∀ r, r ≠ 34 → r ≠ 41 → J r = I r) ∧ ∀ j, j ≠ 10 → J 34 j = I 34 j := by
          intro z7 z8
          rw [zlp39s_34 s I x1 hto v2 z7 z8 ((C pc).2 - (pc + 1)) (pc + 1) (by omega)]
          exact ih (C pc).2 (C pc).2 (b :: S) I z7 z8 (by omega) v2 (by omega) (Nat.le_refl _) (by rw [v3]; exact ⟨hb1, hc1⟩) hs h0 hC hx
        have next : ∀ (z7 z8 : Value), ∃ J, zQ_39 (9, [.ref 34, .int x1, .int (nI to), .ref 7, .int (nI S.length), .int (nI n), .int (nI (pc + 1)), z7, z8], [], zMk (s, I)) = some (.int (zev C fx to d (pc + 1) S), zMk (s, J)) ∧ (∀ r, r ≠ 34 → r ≠ 41 → J r = I r) ∧ ∀ j, j ≠ 10 → J 34 j = I 34 j :=
          fun z7 z8 => ih (pc + 1) n S I z7 z8 (by omega) (by omega) (by omega) (by omega) (by rw [t']; exact hc1) hs.2 h0 hC hx
        rcases hb1 rfl with rfl | rfl
        · rw [if_pos rfl, zq_39_34_78]
          rcases o with o | o
          · rw [o, if_pos (show ¬ nI (zsg 11) = 33 by decide), if_pos (show ¬ nI (zsg 11) = 124 by decide), zq_39_34_101, if_neg (not_not_intro rfl), if_pos hb, nI_clamp (show pc < 2 ^ 31 by omega), k2, nI_1, if_pos (show (zhd ((0 : Int32) :: S) = 0 ↔ (11 : Nat) = 11) from ⟨fun _ => rfl, fun _ => rfl⟩)]
            exact jump _ _
          · rw [o, if_pos (show ¬ nI (zsg 12) = 33 by decide), if_neg (not_not_intro (show nI (zsg 12) = 124 from rfl)), zq_39_34_101, if_pos (by decide), q2, nI_1, if_neg (show ¬ (zhd ((0 : Int32) :: S) = 0 ↔ (12 : Nat) = 11) from fun h => absurd (h.mp rfl) (by decide))]
            exact next _ _
        · rw [if_neg (by decide), zq_39_34_78]
          rcases o with o | o
          · rw [o, if_pos (show ¬ nI (zsg 11) = 33 by decide), if_pos (show ¬ nI (zsg 11) = 124 by decide), zq_39_34_101, if_pos (by decide), q2, nI_1, if_neg (show ¬ (zhd ((1 : Int32) :: S) = 0 ↔ (11 : Nat) = 11) from fun h => absurd (h.mpr rfl) (by decide : ¬ (1 : Int32) = 0))]
            exact next _ _
          · rw [o, if_pos (show ¬ nI (zsg 12) = 33 by decide), if_neg (not_not_intro (show nI (zsg 12) = 124 from rfl)), zq_39_34_101, if_neg (not_not_intro rfl), if_pos hb, nI_clamp (show pc < 2 ^ 31 by omega), k2, nI_1, if_pos (show (zhd ((1 : Int32) :: S) = 0 ↔ (12 : Nat) = 11) from ⟨fun h => absurd h (by decide : ¬ (1 : Int32) = 0), fun h => absurd h (by decide)⟩)]
            exact jump _ _
/-- what a class's steps come to -/
theorem zf39_34 (s : zQs) {C : zCd} {ty : Nat → List Bool} {fr to : Nat} {fx : Nat → Int32} (hto : to ≤ 160) (hft : fr ≤ to) (hty : ∀ i, fr ≤ i → i < to → ztyp C ty to i) (h0 : ty fr = []) (hl : (ty to).length = 1) {I : Nat → Nat → Int32} (hC : ∀ i, i < to → I 35 i = nI (zsg (C i).1) ∧ I 36 i = nI (C i).2 ∧ (C i).2 < 100000) (hx : ∀ i, i < 9 → I 7 i = fx i) :
    ∃ J, zf_39 [.ref 34, .int (nI fr), .int (nI to), .ref 7] (zMk (s, I)) = some (.int (zev C fx to (to - fr) fr []), zMk (s, J)) ∧ (∀ r, r ≠ 34 → r ≠ 41 → J r = I r) ∧ ∀ j, j ≠ 10 → J 34 j = I 34 j := by
  obtain ⟨J, e, j1, j2⟩ := zlp39_34 s (nI fr) (fx := fx) hto hty hl (to - fr) fr fr [] (zwA I 34 (upd (I 34) 10 0)) (.long 0) (.long 0) (Nat.le_refl _) hft (by omega) (Nat.le_refl _) (by rw [h0]; exact trivial) trivial (by rw [zwA_s, upd_at, if_pos rfl]) (fun i hi => by rw [zwA_n (by decide), zwA_n (by decide)]; exact hC i hi) (fun i hi => by rw [zwA_n (by decide)]; exact hx i hi)
  refine ⟨J, ?_, fun r a b => (j1 r a b).trans (zwA_n a), fun j hj => (j2 j hj).trans (by rw [zwA_s, upd_at, if_neg hj])⟩
  rw [zqz_39_34, zq_39_34_0]
  exact e
