/-! THE SHAPE OF THE HEAP BEHIND THE CONSTRUCTORS: cells 0..57 are the class's, 58..102 the reference's, the rest tables of ways -/
/-- how many tables, the table of each load, the law that holds, the draft; and the numbers -/
abbrev zQs : Type := Nat × (Nat → Option Nat) × Nat × Nat
abbrev zQ : Type := zQs × (Nat → Nat → Int32)
def zTl : List Nat := [11, 8, 100, 100, 100, 100, 100, 100, 2, 100, 100, 100, 100, 100, 100, 100, 9, 103, 100, 100, 1, 100, 100, 100, 100, 100, 100, 100, 100, 100, 7, 100, 5, 100, 2, 100, 100, 100, 100, 100, 100, 100, 6, 100, 100, 100, 100, 100, 10, 100, 3, 100, 100, 4, 0, 100, 100, 100, 12, 100, 100, 100, 100, 102, 100, 100, 100, 100, 100, 100, 100, 100, 100, 100, 100, 100, 100, 100, 100, 101, 100, 100, 100, 100, 100, 100, 100, 100, 100, 100, 100, 100, 100, 100, 100, 100, 100, 100, 100, 100, 100, 100, 101]
def zLl : List Nat := [11, 13, 20, 20, 40, 40, 40, 9, 11, 160, 160, 12, 12, 12, 12, 64, 5, 100, 100, 20, 12, 8, 8, 8, 8, 8, 8, 64, 2304, 8, 2, 200, 5, 160, 11, 160, 160, 12, 12, 12, 12, 64, 7, 8, 8, 8, 8, 2048, 6, 20, 5, 160, 3, 6, 5, 20, 20, 30, 69, 20, 40, 40, 40, 200, 180, 180, 12, 12, 12, 12, 180, 12, 12, 12, 12, 180, 9, 40000, 40000, 100, 21, 8, 8, 8, 2304, 8, 8, 8, 8, 8, 8, 64, 2304, 20, 20, 20, 3, 30, 30, 30, 20, 20, 30]
def zRl : List (List (Option Nat)) := [[some 30, some 32, some 1, some 16, some 42, some 20, some 48, some 50, some 53, some 54, none], [some 2, some 3, some 4, some 5, some 6, some 7, some 8, none, none, none, none, none, none], [], [], [], [], [], [], [some 9, some 10, none, some 11, some 12, some 13, some 14, none, none, some 15, none], [], [], [], [], [], [], [], [some 1, some 17, some 18, some 19, none], [], [], [], [some 16, some 21, some 22, some 23, some 24, some 25, some 26, some 27, some 28, some 29, none, none], [], [], [], [], [], [], [], [], [], [some 31, none], [], [some 33, some 34, none, none, none], [], [some 35, some 36, none, some 37, some 38, some 39, some 40, none, none, some 41, none], [], [], [], [], [], [], [], [some 16, some 43, some 44, some 45, some 46, some 47, none], [], [], [], [], [], [some 1, some 16, some 20, some 49, none, none], [], [some 1, some 16, some 20, some 51, some 52], [], [], [some 1, some 16, some 20, none, none, none], [some 55, some 56, some 57, none, none], [], [], [], [none, none, none, none, some 59, some 60, some 61, some 62, some 63, none, none, none, none, none, none, none, none, none, none, some 64, some 65, some 66, some 67, some 68, some 69, some 70, some 71, some 72, some 73, some 74, some 75, some 76, some 77, some 78, some 79, some 80, none, none, some 81, some 82, some 83, some 84, none, none, some 85, some 86, some 87, some 88, some 89, some 90, some 91, some 92, some 93, some 94, some 95, none, none, none, some 96, none, some 97, some 98, some 99, some 100, some 101, some 102, none, none, none], [], [], [], [], [], [], [], [], [], [], [], [], [], [], [], [], [], [], [], [], [], [], [], [], [], [], [], [], [], [], [], [], [], [], [], [], [], [], [], [], [], [], [], []]
def zsT (c k : Nat) : Nat := if k < 103 then zTl.getD k 999 else if k < 103 + c then 100 else 999
def zsL (c k : Nat) : Nat := if k < 103 then zLl.getD k 0 else if k < 103 + c then 400 else 0
def zsR (s : zQs) (k j : Nat) : Option Nat := if k = 17 then s.2.1 j else if k = 1 then (if j = 6 then some s.2.2.1 else (zRl.getD 1 []).getD j none) else if k = 32 then (if j = 1 then some s.2.2.2 else (zRl.getD 32 []).getD j none) else (zRl.getD k []).getD j none
def zMk (q : zQ) : zM := ((103 + q.1.1, 92791 + 400 * q.1.1, zsT q.1.1, zsL q.1.1, zsR q.1), q.2)
theorem zMk_draft (s : zQs) (I : Nat → Nat → Int32) (v : Nat) : zputR (zMk (s, I)) 32 1 (some v) = zMk ((s.1, s.2.1, s.2.2.1, v), I) := by
  unfold zputR zMk
  congr 1
  congr 1
  congr 1
  congr 1
  congr 1
  funext a j
  by_cases h : a = 32
  · subst h
    by_cases hj : j = 1
    · subst hj; rfl
    · simp [zsR, va_up, hj]
  · by_cases h1 : a = 1
    · subst h1; simp [zsR]
    · by_cases h17 : a = 17
      · subst h17; simp [zsR]
      · simp [zsR, h, h1, h17]
theorem zMk_law (s : zQs) (I : Nat → Nat → Int32) (v : Nat) : zputR (zMk (s, I)) 1 6 (some v) = zMk ((s.1, s.2.1, v, s.2.2.2), I) := by
  unfold zputR zMk
  congr 1
  congr 1
  congr 1
  congr 1
  congr 1
  funext a j
  by_cases h : a = 1
  · subst h
    by_cases hj : j = 6
    · subst hj; rfl
    · simp [zsR, va_up, hj]
  · by_cases h1 : a = 32
    · subst h1; simp [zsR]
    · by_cases h17 : a = 17
      · subst h17; simp [zsR]
      · simp [zsR, h, h1, h17]
theorem zMk_tab (s : zQs) (I : Nat → Nat → Int32) (k v : Nat) : zputR (zMk (s, I)) 17 k (some v) = zMk ((s.1, va_up s.2.1 k (some v), s.2.2), I) := by
  unfold zputR zMk
  congr 1
  congr 1
  congr 1
  congr 1
  congr 1
  funext a j
  by_cases h : a = 17
  · subst h; simp [zsR, va_up]
  · by_cases h1 : a = 32
    · subst h1; simp [zsR]
    · by_cases h17 : a = 1
      · subst h17; simp [zsR]
      · simp [zsR, h, h1, h17]
theorem zMk_new (s : zQs) (I : Nat → Nat → Int32) : znew (zMk (s, I)) 100 400 = zMk ((s.1 + 1, s.2), zwA I (103 + s.1) (fun _ => 0)) := by
  have e1 : va_up (zsT s.1) (103 + s.1) 100 = zsT (s.1 + 1) := by
    funext k
    unfold va_up zsT
    by_cases h : k = 103 + s.1
    · subst h
      rw [if_pos rfl, if_neg (by omega), if_pos (by omega)]
    · rw [if_neg h]
      by_cases h1 : k < 103
      · rw [if_pos h1, if_pos h1]
      · rw [if_neg h1, if_neg h1]
        by_cases h2 : k < 103 + s.1
        · rw [if_pos h2, if_pos (by omega)]
        · rw [if_neg h2, if_neg (by omega)]
  have e2 : va_up (zsL s.1) (103 + s.1) 400 = zsL (s.1 + 1) := by
    funext k
    unfold va_up zsL
    by_cases h : k = 103 + s.1
    · subst h
      rw [if_pos rfl, if_neg (by omega), if_pos (by omega)]
    · rw [if_neg h]
      by_cases h1 : k < 103
      · rw [if_pos h1, if_pos h1]
      · rw [if_neg h1, if_neg h1]
        by_cases h2 : k < 103 + s.1
        · rw [if_pos h2, if_pos (by omega)]
        · rw [if_neg h2, if_neg (by omega)]
  have e3 : (fun a => if a = 103 + s.1 then (fun _ => none) else zsR s a) = zsR (s.1 + 1, s.2) := by
    funext a j
    by_cases h : a = 103 + s.1
    · subst h
      rw [if_pos rfl]
      have g : zRl.getD (103 + s.1) [] = [] := by
        rw [List.getD_eq_getElem?_getD, List.getElem?_eq_none (by show zRl.length ≤ _; rw [show zRl.length = 103 from rfl]; omega)]
        rfl
      unfold zsR
      rw [if_neg (by omega), if_neg (by omega), if_neg (by omega), g]
      rfl
    · rw [if_neg h]
      rfl
  show ((103 + s.1 + 1, 92791 + 400 * s.1 + 400, va_up (zsT s.1) (103 + s.1) 100, va_up (zsL s.1) (103 + s.1) 400, (fun a => if a = 103 + s.1 then (fun _ => none) else zsR s a)), zwA I (103 + s.1) (fun _ => 0)) = _
  rw [e1, e2, e3, show 92791 + 400 * s.1 + 400 = 92791 + 400 * (s.1 + 1) by omega]
  rfl
/-- a table of ways is an array of 400 -/
theorem zMk_za (s : zQs) (I : Nat → Nat → Int32) {q : Nat} (h : 103 ≤ q) (h2 : q < 103 + s.1) : za (zMk (s, I)) q 100 = true ∧ zl (zMk (s, I)) q = 400 := by
  have e1 : zt (zMk (s, I)) q = 100 := by
    show zsT s.1 q = 100
    unfold zsT
    rw [if_neg (by omega), if_pos h2]
  refine ⟨by unfold za; rw [e1]; rfl, ?_⟩
  show zsL s.1 q = 400
  unfold zsL
  rw [if_neg (by omega), if_pos h2]
