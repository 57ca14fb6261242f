/-! THE CLASSES' WORDS AND TYPES -/
theorem zwl {is : List Nat} {ws : List Cond} (h : zall2 zw is ws = true) : ∀ w ∈ ws, w ∈ zTb := fun w hw => by
  obtain ⟨i, hi⟩ := List.getElem?_of_mem hw
  obtain ⟨a, -, h2⟩ := zall2_at h hi
  exact zw_in h2
theorem zcw_0 : ∀ w ∈ u_ws RX0 TX0 5, w ∈ zTb := zwl (is := [449, 451, 453, 455, 457]) (by decide +kernel)
theorem zcw_1 : ∀ w ∈ u_ws RX1 TX1 12, w ∈ zTb := zwl (is := [273, 275, 277, 279, 281, 283, 285, 287, 289, 291, 293, 295]) (by decide +kernel)
theorem zcw_2 : ∀ w ∈ u_ws RX2 TX2 11, w ∈ zTb := zwl (is := [154, 156, 158, 160, 162, 164, 166, 168, 170, 172, 174]) (by decide +kernel)
theorem zcw_3 : ∀ w ∈ u_ws RX3 TX3 5, w ∈ zTb := zwl (is := [400, 402, 404, 406, 408]) (by decide +kernel)
theorem zcw_4 : ∀ w ∈ u_ws RX4 TX4 6, w ∈ zTb := zwl (is := [423, 425, 427, 429, 431, 433]) (by decide +kernel)
theorem zcw_5 : ∀ w ∈ u_ws RX5 TX5 5, w ∈ zTb := zwl (is := [324, 326, 328, 330, 332]) (by decide +kernel)
theorem zcw_6 : ∀ w ∈ u_ws RX6 TX6 7, w ∈ zTb := zwl (is := [349, 351, 353, 355, 357, 359, 361]) (by decide +kernel)
theorem zcw_7 : ∀ w ∈ u_ws RX7 TX7 2, w ∈ zTb := zwl (is := [306, 308]) (by decide +kernel)
theorem zcw_8 : ∀ w ∈ u_ws RX8 TX8 13, w ∈ zTb := zwl (is := [199, 201, 203, 205, 207, 209, 211, 213, 215, 217, 219, 221, 223]) (by decide +kernel)
theorem zcw_9 : ∀ w ∈ u_ws RX9 TX9 5, w ∈ zTb := zwl (is := [239, 241, 243, 245, 247]) (by decide +kernel)
theorem zcw_10 : ∀ w ∈ u_ws RX10 TX10 6, w ∈ zTb := zwl (is := [376, 378, 380, 382, 384, 386]) (by decide +kernel)
theorem zcw_11 : ∀ w ∈ u_ws RX11 TX11 11, w ∈ zTb := zwl (is := [471, 473, 475, 477, 479, 481, 483, 485, 487, 489, 491]) (by decide +kernel)
theorem zcw_12 : ∀ w ∈ u_ws RX12 TX12 69, w ∈ zTb := zwl (is := [1335, 1337, 1339, 1341, 1343, 1345, 1347, 1349, 1351, 1353, 1355, 1357, 1359, 1361, 1363, 1365, 1367, 1369, 1371, 1373, 1375, 1377, 1379, 1381, 1383, 1385, 1387, 1389, 1391, 1393, 1395, 1397, 1399, 1401, 1403, 1405, 1407, 1409, 1411, 1413, 1415, 1417, 1419, 1421, 1423, 1425, 1427, 1429, 1431, 1433, 1435, 1437, 1439, 1441, 1443, 1445, 1447, 1449, 1451, 1453, 1455, 1457, 1459, 1461, 1463, 1465, 1467, 1469, 1471]) (by decide +kernel)
theorem zcls_in : ∀ (c : Nat) (q : vw_C), vwCl[c]? = some q → ∀ w ∈ u_ws q.1 q.2.1 q.2.2, w ∈ zTb := by
  intro c q h
  match c, h with
  | 0, h => cases h; exact zcw_0
  | 1, h => cases h; exact zcw_1
  | 2, h => cases h; exact zcw_2
  | 3, h => cases h; exact zcw_3
  | 4, h => cases h; exact zcw_4
  | 5, h => cases h; exact zcw_5
  | 6, h => cases h; exact zcw_6
  | 7, h => cases h; exact zcw_7
  | 8, h => cases h; exact zcw_8
  | 9, h => cases h; exact zcw_9
  | 10, h => cases h; exact zcw_10
  | 11, h => cases h; exact zcw_11
  | 12, h => cases h; exact zcw_12
  | c + 13, h => simp [vwCl] at h
theorem zcls_ty : ∀ (c : Nat) (q : vw_C), vwCl[c]? = some q → ∀ k, k < q.2.2 → parseFieldDescriptor (q.2.1 k).2.2.1 = some (zty c k) := by
  intro c q h
  match c, h with
  | 0, h => cases h; exact tyX0_ok
  | 1, h => cases h; exact tyX1_ok
  | 2, h => cases h; exact tyX2_ok
  | 3, h => cases h; exact tyX3_ok
  | 4, h => cases h; exact tyX4_ok
  | 5, h => cases h; exact tyX5_ok
  | 6, h => cases h; exact tyX6_ok
  | 7, h => cases h; exact tyX7_ok
  | 8, h => cases h; exact tyX8_ok
  | 9, h => cases h; exact tyX9_ok
  | 10, h => cases h; exact tyX10_ok
  | 11, h => cases h; exact tyX11_ok
  | 12, h => cases h; exact tyX12_ok
  | c + 13, h => simp [vwCl] at h
theorem zcls_nm : ∀ (c : Nat) (q : vw_C), vwCl[c]? = some q → ∀ a, a < q.2.2 → ∀ b, b < q.2.2 → a ≠ b → (q.2.1 a).2.1 ≠ (q.2.1 b).2.1 := by
  intro c q h
  match c, h with
  | 0, h => cases h; exact nmX0
  | 1, h => cases h; exact nmX1
  | 2, h => cases h; exact nmX2
  | 3, h => cases h; exact nmX3
  | 4, h => cases h; exact nmX4
  | 5, h => cases h; exact nmX5
  | 6, h => cases h; exact nmX6
  | 7, h => cases h; exact nmX7
  | 8, h => cases h; exact nmX8
  | 9, h => cases h; exact nmX9
  | 10, h => cases h; exact nmX10
  | 11, h => cases h; exact nmX11
  | 12, h => cases h; exact nmX12
  | c + 13, h => simp [vwCl] at h
def zkind (t : FieldType) : Bool := match t with
  | .int => true
  | .boolean => true
  | .object _ => true
  | .array _ => true
  | _ => false
theorem zty_kind : ∀ (c : Nat) (q : vw_C), vwCl[c]? = some q → ∀ k, k < q.2.2 → zkind (zty c k) = true := by
  intro c q h
  match c, h with
  | 0, h => cases h; exact (by decide +kernel)
  | 1, h => cases h; exact (by decide +kernel)
  | 2, h => cases h; exact (by decide +kernel)
  | 3, h => cases h; exact (by decide +kernel)
  | 4, h => cases h; exact (by decide +kernel)
  | 5, h => cases h; exact (by decide +kernel)
  | 6, h => cases h; exact (by decide +kernel)
  | 7, h => cases h; exact (by decide +kernel)
  | 8, h => cases h; exact (by decide +kernel)
  | 9, h => cases h; exact (by decide +kernel)
  | 10, h => cases h; exact (by decide +kernel)
  | 11, h => cases h; exact (by decide +kernel)
  | 12, h => cases h; exact (by decide +kernel)
  | c + 13, h => simp [vwCl] at h
theorem zcN_of {c : Nat} {q : vw_C} (h : vwCl[c]? = some q) : zcN c = q.2.2 := by
  simp only [zcN, List.getD_eq_getElem?_getD, List.getElem?_map, h]; rfl
theorem zcls_lt {c : Nat} {q : vw_C} (h : vwCl[c]? = some q) : c < 13 := (List.getElem?_eq_some_iff.mp h).1
