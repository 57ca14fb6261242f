/-! THE SHAPE OF THE HEAP BEHIND THE CONSTRUCTORS: cells 0..57 are the class's, 58..102 the reference's, the rest tables of ways -/
/-- how many tables, the table of each load, the law that holds, the draft; and the numbers -/
abbrev zQs : Type := Nat × (Nat → Option Nat) × Nat × Nat
abbrev zQ : Type := zQs × (Nat → Nat → Int32)
def zTl : List Nat := [11, 8, 100, 100, 100, 100, 100, 100, 2, 100, 100, 100, 100, 100, 100, 100, 9, 103, 100, 100, 1, 100, 100, 100, 100, 100, 100, 100, 100, 100, 7, 100, 5, 100, 2, 100, 100, 100, 100, 100, 100, 100, 6, 100, 100, 100, 100, 100, 10, 100, 3, 100, 100, 4, 0, 100, 100, 100, 12, 100, 100, 100, 100, 102, 100, 100, 100, 100, 100, 100, 100, 100, 100, 100, 100, 100, 100, 100, 100, 101, 100, 100, 100, 100, 100, 100, 100, 100, 100, 100, 100, 100, 100, 100, 100, 100, 100, 100, 100, 100, 100, 100, 101]
def zLl : List Nat := [11, 13, 20, 20, 40, 40, 40, 9, 11, 160, 160, 12, 12, 12, 12, 64, 5, 100, 100, 20, 12, 8, 8, 8, 8, 8, 8, 64, 2304, 8, 2, 200, 5, 160, 11, 160, 160, 12, 12, 12, 12, 64, 7, 8, 8, 8, 8, 2048, 6, 20, 5, 160, 3, 6, 5, 20, 20, 30, 69, 20, 40, 40, 40, 200, 180, 180, 12, 12, 12, 12, 180, 12, 12, 12, 12, 180, 9, 40000, 40000, 100, 21, 8, 8, 8, 2304, 8, 8, 8, 8, 8, 8, 64, 2304, 20, 20, 20, 3, 30, 30, 30, 20, 20, 30]
def zRl : List (List (Option Nat)) := [[some 30, some 32, some 1, some 16, some 42, some 20, some 48, some 50, some 53, some 54, none], [some 2, some 3, some 4, some 5, some 6, some 7, some 8, none, none, none, none, none, none], [], [], [], [], [], [], [some 9, some 10, none, some 11, some 12, some 13, some 14, none, none, some 15, none], [], [], [], [], [], [], [], [some 1, some 17, some 18, some 19, none], [], [], [], [some 16, some 21, some 22, some 23, some 24, some 25, some 26, some 27, some 28, some 29, none, none], [], [], [], [], [], [], [], [], [], [some 31, none], [], [some 33, some 34, none, none, none], [], [some 35, some 36, none, some 37, some 38, some 39, some 40, none, none, some 41, none], [], [], [], [], [], [], [], [some 16, some 43, some 44, some 45, some 46, some 47, none], [], [], [], [], [], [some 1, some 16, some 20, some 49, none, none], [], [some 1, some 16, some 20, some 51, some 52], [], [], [some 1, some 16, some 20, none, none, none], [some 55, some 56, some 57, none, none], [], [], [], [none, none, none, none, some 59, some 60, some 61, some 62, some 63, none, none, none, none, none, none, none, none, none, none, some 64, some 65, some 66, some 67, some 68, some 69, some 70, some 71, some 72, some 73, some 74, some 75, some 76, some 77, some 78, some 79, some 80, none, none, some 81, some 82, some 83, some 84, none, none, some 85, some 86, some 87, some 88, some 89, some 90, some 91, some 92, some 93, some 94, some 95, none, none, none, some 96, none, some 97, some 98, some 99, some 100, some 101, some 102, none, none, none], [], [], [], [], [], [], [], [], [], [], [], [], [], [], [], [], [], [], [], [], [], [], [], [], [], [], [], [], [], [], [], [], [], [], [], [], [], [], [], [], [], [], [], []]
def zsT (c k : Nat) : Nat := if k < 103 then zTl.getD k 999 else if k < 103 + c then 100 else 999
def zsL (c k : Nat) : Nat := if k < 103 then zLl.getD k 0 else if k < 103 + c then 400 else 0
def zsR (s : zQs) (k j : Nat) : Option Nat := if k = 17 then s.2.1 j else if k = 1 then (if j = 6 then some s.2.2.1 else (zRl.getD 1 []).getD j none) else if k = 32 then (if j = 1 then some s.2.2.2 else (zRl.getD 32 []).getD j none) else (zRl.getD k []).getD j none
def zMk (q : zQ) : zM := ((103 + q.1.1, 92791 + 400 * q.1.1, zsT q.1.1, zsL q.1.1, zsR q.1), q.2)
theorem zMk_draft (s : zQs) (I : Nat → Nat → Int32) (v : Nat) : zputR (zMk (s, I)) 32 1 (some v) = zMk ((s.1, s.2.1, s.2.2.1, v), I) := by
  unfold zputR zMk
  congr 1
  congr 1
  congr 1
  congr 1
  congr 1
  funext a j
  by_cases h : a = 32
  · subst h
    by_cases hj : j = 1
    · subst hj; rfl
    · simp [zsR, va_up, hj]
  · by_cases h1 : a = 1
    · subst h1; simp [zsR]
    · by_cases h17 : a = 17
      · subst h17; simp [zsR]
      · simp [zsR, h, h1, h17]
theorem zMk_law (s : zQs) (I : Nat → Nat → Int32) (v : Nat) : zputR (zMk (s, I)) 1 6 (some v) = zMk ((s.1, s.2.1, v, s.2.2.2), I) := by
  unfold zputR zMk
  congr 1
  congr 1
  congr 1
  congr 1
  congr 1
  funext a j
  by_cases h : a = 1
  · subst h
    by_cases hj : j = 6
    · subst hj; rfl
    · simp [zsR, va_up, hj]
  · by_cases h1 : a = 32
    · subst h1; simp [zsR]
    · by_cases h17 : a = 17
      · subst h17; simp [zsR]
      · simp [zsR, h, h1, h17]
theorem zMk_tab (s : zQs) (I : Nat → Nat → Int32) (k v : Nat) : zputR (zMk (s, I)) 17 k (some v) = zMk ((s.1, va_up s.2.1 k (some v), s.2.2), I) := by
  unfold zputR zMk
  congr 1
  congr 1
  congr 1
  congr 1
  congr 1
  funext a j
  by_cases h : a = 17
  · subst h; simp [zsR, va_up]
  · by_cases h1 : a = 32
    · subst h1; simp [zsR]
    · by_cases h17 : a = 1
      · subst h17; simp [zsR]
      · simp [zsR, h, h1, h17]
theorem zMk_new (s : zQs) (I : Nat → Nat → Int32) : znew (zMk (s, I)) 100 400 = zMk ((s.1 + 1, s.2), zwA I (103 + s.1) (fun _ => 0)) := by
  have e1 : va_up (zsT s.1) (103 + s.1) 100 = zsT (s.1 + 1) := by
    funext k
    unfold va_up zsT
    by_cases h : k = 103 + s.1
    · subst h
      rw [if_pos rfl, if_neg (by omega), if_pos (by omega)]
    · rw [if_neg h]
      by_cases h1 : k < 103
      · rw [if_pos h1, if_pos h1]
      · rw [if_neg h1, if_neg h1]
        by_cases h2 : k < 103 + s.1
        · rw [if_pos h2, if_pos (by omega)]
        · rw [if_neg h2, if_neg (by omega)]
  have e2 : va_up (zsL s.1) (103 + s.1) 400 = zsL (s.1 + 1) := by
    funext k
    unfold va_up zsL
    by_cases h : k = 103 + s.1
    · subst h
      rw [if_pos rfl, if_neg (by omega), if_pos (by omega)]
    · rw [if_neg h]
      by_cases h1 : k < 103
      · rw [if_pos h1, if_pos h1]
      · rw [if_neg h1, if_neg h1]
        by_cases h2 : k < 103 + s.1
        · rw [if_pos h2, if_pos (by omega)]
        · rw [if_neg h2, if_neg (by omega)]
  have e3 : (fun a => if a = 103 + s.1 then (fun _ => none) else zsR s a) = zsR (s.1 + 1, s.2) := by
    funext a j
    by_cases h : a = 103 + s.1
    · subst h
      rw [if_pos rfl]
      have g : zRl.getD (103 + s.1) [] = [] := by
        rw [List.getD_eq_getElem?_getD, List.getElem?_eq_none (by show zRl.length ≤ _; rw [show zRl.length = 103 from rfl]; omega)]
        rfl
      unfold zsR
      rw [if_neg (by omega), if_neg (by omega), if_neg (by omega), g]
      rfl
    · rw [if_neg h]
      rfl
  show ((103 + s.1 + 1, 92791 + 400 * s.1 + 400, va_up (zsT s.1) (103 + s.1) 100, va_up (zsL s.1) (103 + s.1) 400, (fun a => if a = 103 + s.1 then (fun _ => none) else zsR s a)), zwA I (103 + s.1) (fun _ => 0)) = _
  rw [e1, e2, e3, show 92791 + 400 * s.1 + 400 = 92791 + 400 * (s.1 + 1) by omega]
  rfl
/-- a table of ways is an array of 400 -/
theorem zMk_za (s : zQs) (I : Nat → Nat → Int32) {q : Nat} (h : 103 ≤ q) (h2 : q < 103 + s.1) : za (zMk (s, I)) q 100 = true ∧ zl (zMk (s, I)) q = 400 := by
  have e1 : zt (zMk (s, I)) q = 100 := by
    show zsT s.1 q = 100
    unfold zsT
    rw [if_neg (by omega), if_pos h2]
  refine ⟨by unfold za; rw [e1]; rfl, ?_⟩
  show zsL s.1 q = 400
  unfold zsL
  rw [if_neg (by omega), if_pos h2]
theorem zA_0 (q : zQ) : za (zMk q) 0 11 = true := rfl
theorem zRf_0_0 (q : zQ) : zR (zMk q) 0 0 = some 30 := rfl
theorem zRf_0_1 (q : zQ) : zR (zMk q) 0 1 = some 32 := rfl
theorem zRf_0_2 (q : zQ) : zR (zMk q) 0 2 = some 1 := rfl
theorem zRf_0_3 (q : zQ) : zR (zMk q) 0 3 = some 16 := rfl
theorem zRf_0_4 (q : zQ) : zR (zMk q) 0 4 = some 42 := rfl
theorem zRf_0_5 (q : zQ) : zR (zMk q) 0 5 = some 20 := rfl
theorem zRf_0_6 (q : zQ) : zR (zMk q) 0 6 = some 48 := rfl
theorem zRf_0_7 (q : zQ) : zR (zMk q) 0 7 = some 50 := rfl
theorem zRf_0_8 (q : zQ) : zR (zMk q) 0 8 = some 53 := rfl
theorem zRf_0_9 (q : zQ) : zR (zMk q) 0 9 = some 54 := rfl
theorem zA_1 (q : zQ) : za (zMk q) 1 8 = true := rfl
theorem zRf_1_0 (q : zQ) : zR (zMk q) 1 0 = some 2 := rfl
theorem zRf_1_1 (q : zQ) : zR (zMk q) 1 1 = some 3 := rfl
theorem zRf_1_2 (q : zQ) : zR (zMk q) 1 2 = some 4 := rfl
theorem zRf_1_3 (q : zQ) : zR (zMk q) 1 3 = some 5 := rfl
theorem zRf_1_4 (q : zQ) : zR (zMk q) 1 4 = some 6 := rfl
theorem zRf_1_5 (q : zQ) : zR (zMk q) 1 5 = some 7 := rfl
theorem zRf_1_6 (q : zQ) : zR (zMk q) 1 6 = some q.1.2.2.1 := rfl
theorem zA_2 (q : zQ) : za (zMk q) 2 100 = true := rfl
theorem zLn_2 (q : zQ) : zl (zMk q) 2 = 20 := rfl
theorem zA_3 (q : zQ) : za (zMk q) 3 100 = true := rfl
theorem zLn_3 (q : zQ) : zl (zMk q) 3 = 20 := rfl
theorem zA_4 (q : zQ) : za (zMk q) 4 100 = true := rfl
theorem zLn_4 (q : zQ) : zl (zMk q) 4 = 40 := rfl
theorem zA_5 (q : zQ) : za (zMk q) 5 100 = true := rfl
theorem zLn_5 (q : zQ) : zl (zMk q) 5 = 40 := rfl
theorem zA_6 (q : zQ) : za (zMk q) 6 100 = true := rfl
theorem zLn_6 (q : zQ) : zl (zMk q) 6 = 40 := rfl
theorem zA_7 (q : zQ) : za (zMk q) 7 100 = true := rfl
theorem zLn_7 (q : zQ) : zl (zMk q) 7 = 9 := rfl
theorem zA_8 (q : zQ) : za (zMk q) 8 2 = true := rfl
theorem zRf_8_0 (q : zQ) : zR (zMk q) 8 0 = some 9 := rfl
theorem zRf_8_1 (q : zQ) : zR (zMk q) 8 1 = some 10 := rfl
theorem zRf_8_3 (q : zQ) : zR (zMk q) 8 3 = some 11 := rfl
theorem zRf_8_4 (q : zQ) : zR (zMk q) 8 4 = some 12 := rfl
theorem zRf_8_5 (q : zQ) : zR (zMk q) 8 5 = some 13 := rfl
theorem zRf_8_6 (q : zQ) : zR (zMk q) 8 6 = some 14 := rfl
theorem zRf_8_9 (q : zQ) : zR (zMk q) 8 9 = some 15 := rfl
theorem zA_9 (q : zQ) : za (zMk q) 9 100 = true := rfl
theorem zLn_9 (q : zQ) : zl (zMk q) 9 = 160 := rfl
theorem zA_10 (q : zQ) : za (zMk q) 10 100 = true := rfl
theorem zLn_10 (q : zQ) : zl (zMk q) 10 = 160 := rfl
theorem zA_11 (q : zQ) : za (zMk q) 11 100 = true := rfl
theorem zLn_11 (q : zQ) : zl (zMk q) 11 = 12 := rfl
theorem zA_12 (q : zQ) : za (zMk q) 12 100 = true := rfl
theorem zLn_12 (q : zQ) : zl (zMk q) 12 = 12 := rfl
theorem zA_13 (q : zQ) : za (zMk q) 13 100 = true := rfl
theorem zLn_13 (q : zQ) : zl (zMk q) 13 = 12 := rfl
theorem zA_14 (q : zQ) : za (zMk q) 14 100 = true := rfl
theorem zLn_14 (q : zQ) : zl (zMk q) 14 = 12 := rfl
theorem zA_15 (q : zQ) : za (zMk q) 15 100 = true := rfl
theorem zLn_15 (q : zQ) : zl (zMk q) 15 = 64 := rfl
theorem zA_16 (q : zQ) : za (zMk q) 16 9 = true := rfl
theorem zRf_16_0 (q : zQ) : zR (zMk q) 16 0 = some 1 := rfl
theorem zRf_16_1 (q : zQ) : zR (zMk q) 16 1 = some 17 := rfl
theorem zRf_16_2 (q : zQ) : zR (zMk q) 16 2 = some 18 := rfl
theorem zRf_16_3 (q : zQ) : zR (zMk q) 16 3 = some 19 := rfl
theorem zA_17 (q : zQ) : za (zMk q) 17 103 = true := rfl
theorem zLn_17 (q : zQ) : zl (zMk q) 17 = 100 := rfl
theorem zA_18 (q : zQ) : za (zMk q) 18 100 = true := rfl
theorem zLn_18 (q : zQ) : zl (zMk q) 18 = 100 := rfl
theorem zA_19 (q : zQ) : za (zMk q) 19 100 = true := rfl
theorem zLn_19 (q : zQ) : zl (zMk q) 19 = 20 := rfl
theorem zA_20 (q : zQ) : za (zMk q) 20 1 = true := rfl
theorem zRf_20_0 (q : zQ) : zR (zMk q) 20 0 = some 16 := rfl
theorem zRf_20_1 (q : zQ) : zR (zMk q) 20 1 = some 21 := rfl
theorem zRf_20_2 (q : zQ) : zR (zMk q) 20 2 = some 22 := rfl
theorem zRf_20_3 (q : zQ) : zR (zMk q) 20 3 = some 23 := rfl
theorem zRf_20_4 (q : zQ) : zR (zMk q) 20 4 = some 24 := rfl
theorem zRf_20_5 (q : zQ) : zR (zMk q) 20 5 = some 25 := rfl
theorem zRf_20_6 (q : zQ) : zR (zMk q) 20 6 = some 26 := rfl
theorem zRf_20_7 (q : zQ) : zR (zMk q) 20 7 = some 27 := rfl
theorem zRf_20_8 (q : zQ) : zR (zMk q) 20 8 = some 28 := rfl
theorem zRf_20_9 (q : zQ) : zR (zMk q) 20 9 = some 29 := rfl
theorem zA_21 (q : zQ) : za (zMk q) 21 100 = true := rfl
theorem zLn_21 (q : zQ) : zl (zMk q) 21 = 8 := rfl
theorem zA_22 (q : zQ) : za (zMk q) 22 100 = true := rfl
theorem zLn_22 (q : zQ) : zl (zMk q) 22 = 8 := rfl
theorem zA_23 (q : zQ) : za (zMk q) 23 100 = true := rfl
theorem zLn_23 (q : zQ) : zl (zMk q) 23 = 8 := rfl
theorem zA_24 (q : zQ) : za (zMk q) 24 100 = true := rfl
theorem zLn_24 (q : zQ) : zl (zMk q) 24 = 8 := rfl
theorem zA_25 (q : zQ) : za (zMk q) 25 100 = true := rfl
theorem zLn_25 (q : zQ) : zl (zMk q) 25 = 8 := rfl
theorem zA_26 (q : zQ) : za (zMk q) 26 100 = true := rfl
theorem zLn_26 (q : zQ) : zl (zMk q) 26 = 8 := rfl
theorem zA_27 (q : zQ) : za (zMk q) 27 100 = true := rfl
theorem zLn_27 (q : zQ) : zl (zMk q) 27 = 64 := rfl
theorem zA_28 (q : zQ) : za (zMk q) 28 100 = true := rfl
theorem zLn_28 (q : zQ) : zl (zMk q) 28 = 2304 := rfl
theorem zA_29 (q : zQ) : za (zMk q) 29 100 = true := rfl
theorem zLn_29 (q : zQ) : zl (zMk q) 29 = 8 := rfl
theorem zA_30 (q : zQ) : za (zMk q) 30 7 = true := rfl
theorem zRf_30_0 (q : zQ) : zR (zMk q) 30 0 = some 31 := rfl
theorem zA_31 (q : zQ) : za (zMk q) 31 100 = true := rfl
theorem zLn_31 (q : zQ) : zl (zMk q) 31 = 200 := rfl
theorem zA_32 (q : zQ) : za (zMk q) 32 5 = true := rfl
theorem zRf_32_0 (q : zQ) : zR (zMk q) 32 0 = some 33 := rfl
theorem zRf_32_1 (q : zQ) : zR (zMk q) 32 1 = some q.1.2.2.2 := rfl
theorem zA_33 (q : zQ) : za (zMk q) 33 100 = true := rfl
theorem zLn_33 (q : zQ) : zl (zMk q) 33 = 160 := rfl
theorem zA_34 (q : zQ) : za (zMk q) 34 2 = true := rfl
theorem zRf_34_0 (q : zQ) : zR (zMk q) 34 0 = some 35 := rfl
theorem zRf_34_1 (q : zQ) : zR (zMk q) 34 1 = some 36 := rfl
theorem zRf_34_3 (q : zQ) : zR (zMk q) 34 3 = some 37 := rfl
theorem zRf_34_4 (q : zQ) : zR (zMk q) 34 4 = some 38 := rfl
theorem zRf_34_5 (q : zQ) : zR (zMk q) 34 5 = some 39 := rfl
theorem zRf_34_6 (q : zQ) : zR (zMk q) 34 6 = some 40 := rfl
theorem zRf_34_9 (q : zQ) : zR (zMk q) 34 9 = some 41 := rfl
theorem zA_35 (q : zQ) : za (zMk q) 35 100 = true := rfl
theorem zLn_35 (q : zQ) : zl (zMk q) 35 = 160 := rfl
theorem zA_36 (q : zQ) : za (zMk q) 36 100 = true := rfl
theorem zLn_36 (q : zQ) : zl (zMk q) 36 = 160 := rfl
theorem zA_37 (q : zQ) : za (zMk q) 37 100 = true := rfl
theorem zLn_37 (q : zQ) : zl (zMk q) 37 = 12 := rfl
theorem zA_38 (q : zQ) : za (zMk q) 38 100 = true := rfl
theorem zLn_38 (q : zQ) : zl (zMk q) 38 = 12 := rfl
theorem zA_39 (q : zQ) : za (zMk q) 39 100 = true := rfl
theorem zLn_39 (q : zQ) : zl (zMk q) 39 = 12 := rfl
theorem zA_40 (q : zQ) : za (zMk q) 40 100 = true := rfl
theorem zLn_40 (q : zQ) : zl (zMk q) 40 = 12 := rfl
theorem zA_41 (q : zQ) : za (zMk q) 41 100 = true := rfl
theorem zLn_41 (q : zQ) : zl (zMk q) 41 = 64 := rfl
theorem zA_42 (q : zQ) : za (zMk q) 42 6 = true := rfl
theorem zRf_42_0 (q : zQ) : zR (zMk q) 42 0 = some 16 := rfl
theorem zRf_42_1 (q : zQ) : zR (zMk q) 42 1 = some 43 := rfl
theorem zRf_42_2 (q : zQ) : zR (zMk q) 42 2 = some 44 := rfl
theorem zRf_42_3 (q : zQ) : zR (zMk q) 42 3 = some 45 := rfl
theorem zRf_42_4 (q : zQ) : zR (zMk q) 42 4 = some 46 := rfl
theorem zRf_42_5 (q : zQ) : zR (zMk q) 42 5 = some 47 := rfl
theorem zA_43 (q : zQ) : za (zMk q) 43 100 = true := rfl
theorem zLn_43 (q : zQ) : zl (zMk q) 43 = 8 := rfl
theorem zA_44 (q : zQ) : za (zMk q) 44 100 = true := rfl
theorem zLn_44 (q : zQ) : zl (zMk q) 44 = 8 := rfl
theorem zA_45 (q : zQ) : za (zMk q) 45 100 = true := rfl
theorem zLn_45 (q : zQ) : zl (zMk q) 45 = 8 := rfl
theorem zA_46 (q : zQ) : za (zMk q) 46 100 = true := rfl
theorem zLn_46 (q : zQ) : zl (zMk q) 46 = 8 := rfl
theorem zA_47 (q : zQ) : za (zMk q) 47 100 = true := rfl
theorem zLn_47 (q : zQ) : zl (zMk q) 47 = 2048 := rfl
theorem zA_48 (q : zQ) : za (zMk q) 48 10 = true := rfl
theorem zRf_48_0 (q : zQ) : zR (zMk q) 48 0 = some 1 := rfl
theorem zRf_48_1 (q : zQ) : zR (zMk q) 48 1 = some 16 := rfl
theorem zRf_48_2 (q : zQ) : zR (zMk q) 48 2 = some 20 := rfl
theorem zRf_48_3 (q : zQ) : zR (zMk q) 48 3 = some 49 := rfl
theorem zA_49 (q : zQ) : za (zMk q) 49 100 = true := rfl
theorem zLn_49 (q : zQ) : zl (zMk q) 49 = 20 := rfl
theorem zA_50 (q : zQ) : za (zMk q) 50 3 = true := rfl
theorem zRf_50_0 (q : zQ) : zR (zMk q) 50 0 = some 1 := rfl
theorem zRf_50_1 (q : zQ) : zR (zMk q) 50 1 = some 16 := rfl
theorem zRf_50_2 (q : zQ) : zR (zMk q) 50 2 = some 20 := rfl
theorem zRf_50_3 (q : zQ) : zR (zMk q) 50 3 = some 51 := rfl
theorem zRf_50_4 (q : zQ) : zR (zMk q) 50 4 = some 52 := rfl
theorem zA_51 (q : zQ) : za (zMk q) 51 100 = true := rfl
theorem zLn_51 (q : zQ) : zl (zMk q) 51 = 160 := rfl
theorem zA_52 (q : zQ) : za (zMk q) 52 100 = true := rfl
theorem zLn_52 (q : zQ) : zl (zMk q) 52 = 3 := rfl
theorem zA_53 (q : zQ) : za (zMk q) 53 4 = true := rfl
theorem zRf_53_0 (q : zQ) : zR (zMk q) 53 0 = some 1 := rfl
theorem zRf_53_1 (q : zQ) : zR (zMk q) 53 1 = some 16 := rfl
theorem zRf_53_2 (q : zQ) : zR (zMk q) 53 2 = some 20 := rfl
theorem zA_54 (q : zQ) : za (zMk q) 54 0 = true := rfl
theorem zRf_54_0 (q : zQ) : zR (zMk q) 54 0 = some 55 := rfl
theorem zRf_54_1 (q : zQ) : zR (zMk q) 54 1 = some 56 := rfl
theorem zRf_54_2 (q : zQ) : zR (zMk q) 54 2 = some 57 := rfl
theorem zA_55 (q : zQ) : za (zMk q) 55 100 = true := rfl
theorem zLn_55 (q : zQ) : zl (zMk q) 55 = 20 := rfl
theorem zA_56 (q : zQ) : za (zMk q) 56 100 = true := rfl
theorem zLn_56 (q : zQ) : zl (zMk q) 56 = 20 := rfl
theorem zA_57 (q : zQ) : za (zMk q) 57 100 = true := rfl
theorem zLn_57 (q : zQ) : zl (zMk q) 57 = 30 := rfl
theorem zA_58 (q : zQ) : za (zMk q) 58 12 = true := rfl
theorem zRf_58_4 (q : zQ) : zR (zMk q) 58 4 = some 59 := rfl
theorem zRf_58_5 (q : zQ) : zR (zMk q) 58 5 = some 60 := rfl
theorem zRf_58_6 (q : zQ) : zR (zMk q) 58 6 = some 61 := rfl
theorem zRf_58_7 (q : zQ) : zR (zMk q) 58 7 = some 62 := rfl
theorem zRf_58_8 (q : zQ) : zR (zMk q) 58 8 = some 63 := rfl
theorem zRf_58_19 (q : zQ) : zR (zMk q) 58 19 = some 64 := rfl
theorem zRf_58_20 (q : zQ) : zR (zMk q) 58 20 = some 65 := rfl
theorem zRf_58_21 (q : zQ) : zR (zMk q) 58 21 = some 66 := rfl
theorem zRf_58_22 (q : zQ) : zR (zMk q) 58 22 = some 67 := rfl
theorem zRf_58_23 (q : zQ) : zR (zMk q) 58 23 = some 68 := rfl
theorem zRf_58_24 (q : zQ) : zR (zMk q) 58 24 = some 69 := rfl
theorem zRf_58_25 (q : zQ) : zR (zMk q) 58 25 = some 70 := rfl
theorem zRf_58_26 (q : zQ) : zR (zMk q) 58 26 = some 71 := rfl
theorem zRf_58_27 (q : zQ) : zR (zMk q) 58 27 = some 72 := rfl
theorem zRf_58_28 (q : zQ) : zR (zMk q) 58 28 = some 73 := rfl
theorem zRf_58_29 (q : zQ) : zR (zMk q) 58 29 = some 74 := rfl
theorem zRf_58_30 (q : zQ) : zR (zMk q) 58 30 = some 75 := rfl
theorem zRf_58_31 (q : zQ) : zR (zMk q) 58 31 = some 76 := rfl
theorem zRf_58_32 (q : zQ) : zR (zMk q) 58 32 = some 77 := rfl
theorem zRf_58_33 (q : zQ) : zR (zMk q) 58 33 = some 78 := rfl
theorem zRf_58_34 (q : zQ) : zR (zMk q) 58 34 = some 79 := rfl
theorem zRf_58_35 (q : zQ) : zR (zMk q) 58 35 = some 80 := rfl
theorem zRf_58_38 (q : zQ) : zR (zMk q) 58 38 = some 81 := rfl
theorem zRf_58_39 (q : zQ) : zR (zMk q) 58 39 = some 82 := rfl
theorem zRf_58_40 (q : zQ) : zR (zMk q) 58 40 = some 83 := rfl
theorem zRf_58_41 (q : zQ) : zR (zMk q) 58 41 = some 84 := rfl
theorem zRf_58_44 (q : zQ) : zR (zMk q) 58 44 = some 85 := rfl
theorem zRf_58_45 (q : zQ) : zR (zMk q) 58 45 = some 86 := rfl
theorem zRf_58_46 (q : zQ) : zR (zMk q) 58 46 = some 87 := rfl
theorem zRf_58_47 (q : zQ) : zR (zMk q) 58 47 = some 88 := rfl
theorem zRf_58_48 (q : zQ) : zR (zMk q) 58 48 = some 89 := rfl
theorem zRf_58_49 (q : zQ) : zR (zMk q) 58 49 = some 90 := rfl
theorem zRf_58_50 (q : zQ) : zR (zMk q) 58 50 = some 91 := rfl
theorem zRf_58_51 (q : zQ) : zR (zMk q) 58 51 = some 92 := rfl
theorem zRf_58_52 (q : zQ) : zR (zMk q) 58 52 = some 93 := rfl
theorem zRf_58_53 (q : zQ) : zR (zMk q) 58 53 = some 94 := rfl
theorem zRf_58_54 (q : zQ) : zR (zMk q) 58 54 = some 95 := rfl
theorem zRf_58_58 (q : zQ) : zR (zMk q) 58 58 = some 96 := rfl
theorem zRf_58_60 (q : zQ) : zR (zMk q) 58 60 = some 97 := rfl
theorem zRf_58_61 (q : zQ) : zR (zMk q) 58 61 = some 98 := rfl
theorem zRf_58_62 (q : zQ) : zR (zMk q) 58 62 = some 99 := rfl
theorem zRf_58_63 (q : zQ) : zR (zMk q) 58 63 = some 100 := rfl
theorem zRf_58_64 (q : zQ) : zR (zMk q) 58 64 = some 101 := rfl
theorem zRf_58_65 (q : zQ) : zR (zMk q) 58 65 = some 102 := rfl
theorem zA_59 (q : zQ) : za (zMk q) 59 100 = true := rfl
theorem zLn_59 (q : zQ) : zl (zMk q) 59 = 20 := rfl
theorem zA_60 (q : zQ) : za (zMk q) 60 100 = true := rfl
theorem zLn_60 (q : zQ) : zl (zMk q) 60 = 40 := rfl
theorem zA_61 (q : zQ) : za (zMk q) 61 100 = true := rfl
theorem zLn_61 (q : zQ) : zl (zMk q) 61 = 40 := rfl
theorem zA_62 (q : zQ) : za (zMk q) 62 100 = true := rfl
theorem zLn_62 (q : zQ) : zl (zMk q) 62 = 40 := rfl
theorem zA_63 (q : zQ) : za (zMk q) 63 102 = true := rfl
theorem zLn_63 (q : zQ) : zl (zMk q) 63 = 200 := rfl
theorem zB_63 (q : zQ) : za (zMk q) 63 101 = false := rfl
theorem zA_64 (q : zQ) : za (zMk q) 64 100 = true := rfl
theorem zLn_64 (q : zQ) : zl (zMk q) 64 = 180 := rfl
theorem zA_65 (q : zQ) : za (zMk q) 65 100 = true := rfl
theorem zLn_65 (q : zQ) : zl (zMk q) 65 = 180 := rfl
theorem zA_66 (q : zQ) : za (zMk q) 66 100 = true := rfl
theorem zLn_66 (q : zQ) : zl (zMk q) 66 = 12 := rfl
theorem zA_67 (q : zQ) : za (zMk q) 67 100 = true := rfl
theorem zLn_67 (q : zQ) : zl (zMk q) 67 = 12 := rfl
theorem zA_68 (q : zQ) : za (zMk q) 68 100 = true := rfl
theorem zLn_68 (q : zQ) : zl (zMk q) 68 = 12 := rfl
theorem zA_69 (q : zQ) : za (zMk q) 69 100 = true := rfl
theorem zLn_69 (q : zQ) : zl (zMk q) 69 = 12 := rfl
theorem zA_70 (q : zQ) : za (zMk q) 70 100 = true := rfl
theorem zLn_70 (q : zQ) : zl (zMk q) 70 = 180 := rfl
theorem zA_71 (q : zQ) : za (zMk q) 71 100 = true := rfl
theorem zLn_71 (q : zQ) : zl (zMk q) 71 = 12 := rfl
theorem zA_72 (q : zQ) : za (zMk q) 72 100 = true := rfl
theorem zLn_72 (q : zQ) : zl (zMk q) 72 = 12 := rfl
theorem zA_73 (q : zQ) : za (zMk q) 73 100 = true := rfl
theorem zLn_73 (q : zQ) : zl (zMk q) 73 = 12 := rfl
theorem zA_74 (q : zQ) : za (zMk q) 74 100 = true := rfl
theorem zLn_74 (q : zQ) : zl (zMk q) 74 = 12 := rfl
theorem zA_75 (q : zQ) : za (zMk q) 75 100 = true := rfl
theorem zLn_75 (q : zQ) : zl (zMk q) 75 = 180 := rfl
theorem zA_76 (q : zQ) : za (zMk q) 76 100 = true := rfl
theorem zLn_76 (q : zQ) : zl (zMk q) 76 = 9 := rfl
theorem zA_77 (q : zQ) : za (zMk q) 77 100 = true := rfl
theorem zLn_77 (q : zQ) : zl (zMk q) 77 = 40000 := rfl
theorem zA_78 (q : zQ) : za (zMk q) 78 100 = true := rfl
theorem zLn_78 (q : zQ) : zl (zMk q) 78 = 40000 := rfl
theorem zA_79 (q : zQ) : za (zMk q) 79 101 = true := rfl
theorem zLn_79 (q : zQ) : zl (zMk q) 79 = 100 := rfl
theorem zA_80 (q : zQ) : za (zMk q) 80 100 = true := rfl
theorem zLn_80 (q : zQ) : zl (zMk q) 80 = 21 := rfl
theorem zA_81 (q : zQ) : za (zMk q) 81 100 = true := rfl
theorem zLn_81 (q : zQ) : zl (zMk q) 81 = 8 := rfl
theorem zA_82 (q : zQ) : za (zMk q) 82 100 = true := rfl
theorem zLn_82 (q : zQ) : zl (zMk q) 82 = 8 := rfl
theorem zA_83 (q : zQ) : za (zMk q) 83 100 = true := rfl
theorem zLn_83 (q : zQ) : zl (zMk q) 83 = 8 := rfl
theorem zA_84 (q : zQ) : za (zMk q) 84 100 = true := rfl
theorem zLn_84 (q : zQ) : zl (zMk q) 84 = 2304 := rfl
theorem zA_85 (q : zQ) : za (zMk q) 85 100 = true := rfl
theorem zLn_85 (q : zQ) : zl (zMk q) 85 = 8 := rfl
theorem zA_86 (q : zQ) : za (zMk q) 86 100 = true := rfl
theorem zLn_86 (q : zQ) : zl (zMk q) 86 = 8 := rfl
theorem zA_87 (q : zQ) : za (zMk q) 87 100 = true := rfl
theorem zLn_87 (q : zQ) : zl (zMk q) 87 = 8 := rfl
theorem zA_88 (q : zQ) : za (zMk q) 88 100 = true := rfl
theorem zLn_88 (q : zQ) : zl (zMk q) 88 = 8 := rfl
theorem zA_89 (q : zQ) : za (zMk q) 89 100 = true := rfl
theorem zLn_89 (q : zQ) : zl (zMk q) 89 = 8 := rfl
theorem zA_90 (q : zQ) : za (zMk q) 90 100 = true := rfl
theorem zLn_90 (q : zQ) : zl (zMk q) 90 = 8 := rfl
theorem zA_91 (q : zQ) : za (zMk q) 91 100 = true := rfl
theorem zLn_91 (q : zQ) : zl (zMk q) 91 = 64 := rfl
theorem zA_92 (q : zQ) : za (zMk q) 92 100 = true := rfl
theorem zLn_92 (q : zQ) : zl (zMk q) 92 = 2304 := rfl
theorem zA_93 (q : zQ) : za (zMk q) 93 100 = true := rfl
theorem zLn_93 (q : zQ) : zl (zMk q) 93 = 20 := rfl
theorem zA_94 (q : zQ) : za (zMk q) 94 100 = true := rfl
theorem zLn_94 (q : zQ) : zl (zMk q) 94 = 20 := rfl
theorem zA_95 (q : zQ) : za (zMk q) 95 100 = true := rfl
theorem zLn_95 (q : zQ) : zl (zMk q) 95 = 20 := rfl
theorem zA_96 (q : zQ) : za (zMk q) 96 100 = true := rfl
theorem zLn_96 (q : zQ) : zl (zMk q) 96 = 3 := rfl
theorem zA_97 (q : zQ) : za (zMk q) 97 100 = true := rfl
theorem zLn_97 (q : zQ) : zl (zMk q) 97 = 30 := rfl
theorem zA_98 (q : zQ) : za (zMk q) 98 100 = true := rfl
theorem zLn_98 (q : zQ) : zl (zMk q) 98 = 30 := rfl
theorem zA_99 (q : zQ) : za (zMk q) 99 100 = true := rfl
theorem zLn_99 (q : zQ) : zl (zMk q) 99 = 30 := rfl
theorem zA_100 (q : zQ) : za (zMk q) 100 100 = true := rfl
theorem zLn_100 (q : zQ) : zl (zMk q) 100 = 20 := rfl
theorem zA_101 (q : zQ) : za (zMk q) 101 100 = true := rfl
theorem zLn_101 (q : zQ) : zl (zMk q) 101 = 20 := rfl
theorem zA_102 (q : zQ) : za (zMk q) 102 101 = true := rfl
theorem zLn_102 (q : zQ) : zl (zMk q) 102 = 30 := rfl
