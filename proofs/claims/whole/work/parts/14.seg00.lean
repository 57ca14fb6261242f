/-- HillErrands$Fares.add -/
noncomputable def zQ_11 (x : zCf) : Option (Value × zM) := zres zX0 zi_11 (zlk [(12, zf_12)]) x
theorem zqz_11 (x1 x2 x3 : Int32) (M : zM) : zf_11 [.ref 54, .int x1, .int x2, .int x3] M = zQ_11 (0, [.ref 54, .int x1, .int x2, .int x3], [], M) := zden_res ⟨Nat.le_of_ble_eq_true rfl, by simp [Value.category]⟩
set_option maxRecDepth 100000 in
theorem zq_11_0 (s : zQs) (I : Nat → Nat → Int32) (x1 x2 x3 : Int32) : zQ_11 (0, [.ref 54, .int x1, .int x2, .int x3], [], zMk (s, I)) = (if (I 54 3) < 30 then (if zb x1 20 then (if zb x2 20 then (if (I 55 x1.toNatClampNeg) = (I 55 x2.toNatClampNeg) then (if zb x2 20 then (if zb x1 20 then (if ((I 56 x2.toNatClampNeg) - (I 56 x1.toNatClampNeg)) = x3 then some (.int ((I 54 3) + 1), (zMk (s, (zwA I 54 (upd (I 54) 3 ((I 54 3) + 1)))))) else (if zb (I 54 4) 30 then some (.int ((I 54 3) + 1), (zMk (s, (zwA (zwA (zwA I 57 (upd (I 57) (I 54 4).toNatClampNeg (I 54 3))) 54 (upd (I 54) 4 ((I 54 4) + 1))) 54 (upd (upd (I 54) 4 ((I 54 4) + 1)) 3 ((I 54 3) + 1)))))) else none)) else none) else none) else (if zb x1 20 then (if zb x2 20 then (if zb x1 20 then (if zb x2 20 then zcV (zf_12 [.ref 54, .int (I 55 x1.toNatClampNeg), .int (I 55 x2.toNatClampNeg), .int (((I 56 x1.toNatClampNeg) + x3) - (I 56 x2.toNatClampNeg))] (zMk (s, I))) fun M => zQ_11 (36, [.ref 54, .int x1, .int x2, .int x3], [], M) else none) else none) else none) else none)) else none) else none) else some (.int (-1), (zMk (s, I)))) := (zxs_eq (zon [36]) 80 _).symm
set_option maxRecDepth 100000 in
theorem zq_11_36 (s : zQs) (I : Nat → Nat → Int32) (x1 x2 x3 : Int32) : zQ_11 (36, [.ref 54, .int x1, .int x2, .int x3], [], zMk (s, I)) = some (.int ((I 54 3) + 1), (zMk (s, (zwA I 54 (upd (I 54) 3 ((I 54 3) + 1)))))) := (zxs_eq (zon [36]) 12 _).symm
/-- HillErrands$Fares.join -/
noncomputable def zQ_12 (x : zCf) : Option (Value × zM) := zres zX0 zi_12 (zlk []) x
theorem zqz_12 (x1 x2 x3 : Int32) (M : zM) : zf_12 [.ref 54, .int x1, .int x2, .int x3] M = zQ_12 (0, [.ref 54, .int x1, .int x2, .int x3, .long 0], [], M) := zden_res ⟨Nat.le_of_ble_eq_true rfl, by simp [Value.category]⟩
set_option maxRecDepth 100000 in
theorem zq_12_0 (s : zQs) (I : Nat → Nat → Int32) (x1 x2 x3 : Int32) (x4 : Value) : zQ_12 (0, [.ref 54, .int x1, .int x2, .int x3, x4], [], zMk (s, I)) = zQ_12 (2, [.ref 54, .int x1, .int x2, .int x3, .int 0], [], (zMk (s, I))) := (zxs_eq (zon [2]) 5 _).symm
set_option maxRecDepth 100000 in
theorem zq_12_2 (s : zQs) (I : Nat → Nat → Int32) (x1 x2 x3 x4 : Int32) : zQ_12 (2, [.ref 54, .int x1, .int x2, .int x3, .int x4], [], zMk (s, I)) = (if 20 ≤ x4 then some (.long 0, (zMk (s, I))) else (if zb x4 20 then (if ¬ (I 55 x4.toNatClampNeg) = x2 then zQ_12 (2, [.ref 54, .int x1, .int x2, .int x3, .int (x4 + 1)], [], (zMk (s, I))) else (if zb x4 20 then (if zb x4 20 then (if zb x4 20 then zQ_12 (2, [.ref 54, .int x1, .int x2, .int x3, .int (x4 + 1)], [], (zMk (s, (zwA (zwA I 55 (upd (I 55) x4.toNatClampNeg x1)) 56 (upd (I 56) x4.toNatClampNeg ((I 56 x4.toNatClampNeg) + x3)))))) else none) else none) else none)) else none)) := (zxs_eq (zon [2]) 31 _).symm
/-- HillErrands$Fares.apart -/
noncomputable def zQ_13 (x : zCf) : Option (Value × zM) := zres zX0 zi_13 (zlk []) x
theorem zqz_13 (x1 x2 : Int32) (M : zM) : zf_13 [.ref 54, .int x1, .int x2] M = zQ_13 (0, [.ref 54, .int x1, .int x2], [], M) := zden_res ⟨Nat.le_of_ble_eq_true rfl, by simp [Value.category]⟩
set_option maxRecDepth 100000 in
theorem zq_13_0 (s : zQs) (I : Nat → Nat → Int32) (x1 x2 : Int32) : zQ_13 (0, [.ref 54, .int x1, .int x2], [], zMk (s, I)) = (if zb x1 20 then (if zb x2 20 then (if ¬ (I 55 x1.toNatClampNeg) = (I 55 x2.toNatClampNeg) then some (.int (-1000), (zMk (s, I))) else (if zb x2 20 then (if zb x1 20 then some (.int ((I 56 x2.toNatClampNeg) - (I 56 x1.toNatClampNeg)), (zMk (s, I))) else none) else none)) else none) else none) := (zxs_eq (zon []) 24 _).symm
/-- HillErrands$Fares.untrueAt -/
noncomputable def zQ_14 (x : zCf) : Option (Value × zM) := zres zX0 zi_14 (zlk []) x
theorem zqz_14 (x1 : Int32) (M : zM) : zf_14 [.ref 54, .int x1] M = zQ_14 (0, [.ref 54, .int x1], [], M) := zden_res ⟨Nat.le_of_ble_eq_true rfl, by simp [Value.category]⟩
set_option maxRecDepth 100000 in
theorem zq_14_0 (s : zQs) (I : Nat → Nat → Int32) (x1 : Int32) : zQ_14 (0, [.ref 54, .int x1], [], zMk (s, I)) = (if x1 < 0 then some (.int (-1), (zMk (s, I))) else (if (I 54 4) ≤ x1 then some (.int (-1), (zMk (s, I))) else (if zb x1 30 then some (.int (I 57 x1.toNatClampNeg), (zMk (s, I))) else none))) := (zxs_eq (zon []) 18 _).symm
/-- HillErrands$Town.isPlace -/
noncomputable def zQ_97 (x : zCf) : Option (Value × zM) := zres zX0 zi_97 (zlk []) x
theorem zqz_97 (x1 : Int32) (M : zM) : zf_97 [.ref 1, .int x1] M = zQ_97 (0, [.ref 1, .int x1], [], M) := zden_res ⟨Nat.le_of_ble_eq_true rfl, by simp [Value.category]⟩
set_option maxRecDepth 100000 in
theorem zq_97_0 (s : zQs) (I : Nat → Nat → Int32) (x1 : Int32) : zQ_97 (0, [.ref 1, .int x1], [], zMk (s, I)) = (if x1 < 0 then some (.int 0, (zMk (s, I))) else (if (I 1 10) ≤ x1 then some (.int 0, (zMk (s, I))) else some (.int 1, (zMk (s, I))))) := (zxs_eq (zon []) 15 _).symm
/-- HillErrands$Town.addPlace -/
noncomputable def zQ_100 (x : zCf) : Option (Value × zM) := zres zX0 zi_100 (zlk []) x
theorem zqz_100 (x1 : Int32) (M : zM) : zf_100 [.ref 1, .int x1] M = zQ_100 (0, [.ref 1, .int x1], [], M) := zden_res ⟨Nat.le_of_ble_eq_true rfl, by simp [Value.category]⟩
set_option maxRecDepth 100000 in
theorem zq_100_0 (s : zQs) (I : Nat → Nat → Int32) (x1 : Int32) : zQ_100 (0, [.ref 1, .int x1], [], zMk (s, I)) = (if (I 1 10) < 20 then (if zb (I 1 10) 20 then some (.int (((I 1 10) + 1) - 1), (zMk (s, (zwA (zwA (zwA I 2 (upd (I 2) (I 1 10).toNatClampNeg x1)) 1 (upd (I 1) 10 ((I 1 10) + 1))) 1 (upd (upd (I 1) 10 ((I 1 10) + 1)) 12 ((I 1 12) + 1)))))) else none) else some (.int (-1), (zMk (s, I)))) := (zxs_eq (zon []) 31 _).symm
/-- HillErrands$Town.addStair -/
noncomputable def zQ_101 (x : zCf) : Option (Value × zM) := zres zX0 zi_101 (zlk []) x
theorem zqz_101 (x1 x2 x3 : Int32) (M : zM) : zf_101 [.ref 1, .int x1, .int x2, .int x3] M = zQ_101 (0, [.ref 1, .int x1, .int x2, .int x3], [], M) := zden_res ⟨Nat.le_of_ble_eq_true rfl, by simp [Value.category]⟩
set_option maxRecDepth 100000 in
theorem zq_101_0 (s : zQs) (I : Nat → Nat → Int32) (x1 x2 x3 : Int32) : zQ_101 (0, [.ref 1, .int x1, .int x2, .int x3], [], zMk (s, I)) = (if (I 1 11) < 40 then (if zb (I 1 11) 40 then (if zb (I 1 11) 40 then (if zb (I 1 11) 40 then some (.int (((I 1 11) + 1) - 1), (zMk (s, (zwA (zwA (zwA (zwA (zwA I 4 (upd (I 4) (I 1 11).toNatClampNeg x1)) 5 (upd (I 5) (I 1 11).toNatClampNeg x2)) 6 (upd (I 6) (I 1 11).toNatClampNeg x3)) 1 (upd (I 1) 11 ((I 1 11) + 1))) 1 (upd (upd (I 1) 11 ((I 1 11) + 1)) 12 ((I 1 12) + 1)))))) else none) else none) else none) else some (.int (-1), (zMk (s, I)))) := (zxs_eq (zon []) 43 _).symm
/-- HillErrands$Town.wantedTogether -/
noncomputable def zQ_114 (x : zCf) : Option (Value × zM) := zres zX0 zi_114 (zlk []) x
theorem zqz_114 (M : zM) : zf_114 [.ref 1] M = zQ_114 (0, [.ref 1, .long 0, .long 0], [], M) := zden_res ⟨Nat.le_of_ble_eq_true rfl, by simp [Value.category]⟩
set_option maxRecDepth 100000 in
theorem zq_114_0 (s : zQs) (I : Nat → Nat → Int32) (x1 x2 : Value) : zQ_114 (0, [.ref 1, x1, x2], [], zMk (s, I)) = zQ_114 (4, [.ref 1, .int 0, .int 0], [], (zMk (s, I))) := (zxs_eq (zon [4]) 7 _).symm
set_option maxRecDepth 100000 in
theorem zq_114_4 (s : zQs) (I : Nat → Nat → Int32) (x1 x2 : Int32) : zQ_114 (4, [.ref 1, .int x1, .int x2], [], zMk (s, I)) = (if (I 1 10) ≤ x2 then some (.int x1, (zMk (s, I))) else (if zb x2 20 then zQ_114 (4, [.ref 1, .int (x1 + (I 3 x2.toNatClampNeg)), .int (x2 + 1)], [], (zMk (s, I))) else none)) := (zxs_eq (zon [4]) 18 _).symm
