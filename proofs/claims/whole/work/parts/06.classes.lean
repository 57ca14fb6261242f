/-! THE CLASSES' WORDS AND TYPES -/
theorem zwl {is : List Nat} {ws : List Cond} (h : zall2 zw is ws = true) : ∀ w ∈ ws, w ∈ zTb := fun w hw => by
  obtain ⟨i, hi⟩ := List.getElem?_of_mem hw
  obtain ⟨a, -, h2⟩ := zall2_at h hi
  exact zw_in h2
theorem zcw_0 : ∀ w ∈ u_ws RX0 TX0 5, w ∈ zTb := zwl (is := [2111, 2113, 2115, 2117, 2119]) (by decide +kernel)
theorem zcw_1 : ∀ w ∈ u_ws RX1 TX1 12, w ∈ zTb := zwl (is := [1175, 1177, 1179, 1181, 1183, 1185, 1187, 1189, 1191, 1193, 1195, 1197]) (by decide +kernel)
theorem zcw_2 : ∀ w ∈ u_ws RX2 TX2 11, w ∈ zTb := zwl (is := [1056, 1058, 1060, 1062, 1064, 1066, 1068, 1070, 1072, 1074, 1076]) (by decide +kernel)
theorem zcw_3 : ∀ w ∈ u_ws RX3 TX3 5, w ∈ zTb := zwl (is := [2062, 2064, 2066, 2068, 2070]) (by decide +kernel)
theorem zcw_4 : ∀ w ∈ u_ws RX4 TX4 6, w ∈ zTb := zwl (is := [2085, 2087, 2089, 2091, 2093, 2095]) (by decide +kernel)
theorem zcw_5 : ∀ w ∈ u_ws RX5 TX5 5, w ∈ zTb := zwl (is := [1226, 1228, 1230, 1232, 1234]) (by decide +kernel)
theorem zcw_6 : ∀ w ∈ u_ws RX6 TX6 7, w ∈ zTb := zwl (is := [2011, 2013, 2015, 2017, 2019, 2021, 2023]) (by decide +kernel)
theorem zcw_7 : ∀ w ∈ u_ws RX7 TX7 2, w ∈ zTb := zwl (is := [1208, 1210]) (by decide +kernel)
theorem zcw_8 : ∀ w ∈ u_ws RX8 TX8 13, w ∈ zTb := zwl (is := [1101, 1103, 1105, 1107, 1109, 1111, 1113, 1115, 1117, 1119, 1121, 1123, 1125]) (by decide +kernel)
theorem zcw_9 : ∀ w ∈ u_ws RX9 TX9 5, w ∈ zTb := zwl (is := [1141, 1143, 1145, 1147, 1149]) (by decide +kernel)
theorem zcw_10 : ∀ w ∈ u_ws RX10 TX10 6, w ∈ zTb := zwl (is := [2038, 2040, 2042, 2044, 2046, 2048]) (by decide +kernel)
theorem zcw_11 : ∀ w ∈ u_ws RX11 TX11 11, w ∈ zTb := zwl (is := [2133, 2135, 2137, 2139, 2141, 2143, 2145, 2147, 2149, 2151, 2153]) (by decide +kernel)
theorem zcw_12 : ∀ w ∈ u_ws RX12 TX12 69, w ∈ zTb := zwl (is := [6037, 6039, 6041, 6043, 6045, 6047, 6049, 6051, 6053, 6055, 6057, 6059, 6061, 6063, 6065, 6067, 6069, 6071, 6073, 6075, 6077, 6079, 6081, 6083, 6085, 6087, 6089, 6091, 6093, 6095, 6097, 6099, 6101, 6103, 6105, 6107, 6109, 6111, 6113, 6115, 6117, 6119, 6121, 6123, 6125, 6127, 6129, 6131, 6133, 6135, 6137, 6139, 6141, 6143, 6145, 6147, 6149, 6151, 6153, 6155, 6157, 6159, 6161, 6163, 6165, 6167, 6169, 6171, 6173]) (by decide +kernel)
theorem zcls_in : ∀ (c : Nat) (q : vw_C), vwCl[c]? = some q → ∀ w ∈ u_ws q.1 q.2.1 q.2.2, w ∈ zTb := by
  intro c q h
  match c, h with
  | 0, h => cases h; exact zcw_0
  | 1, h => cases h; exact zcw_1
  | 2, h => cases h; exact zcw_2
  | 3, h => cases h; exact zcw_3
  | 4, h => cases h; exact zcw_4
  | 5, h => cases h; exact zcw_5
  | 6, h => cases h; exact zcw_6
  | 7, h => cases h; exact zcw_7
  | 8, h => cases h; exact zcw_8
  | 9, h => cases h; exact zcw_9
  | 10, h => cases h; exact zcw_10
  | 11, h => cases h; exact zcw_11
  | 12, h => cases h; exact zcw_12
  | c + 13, h => simp [vwCl] at h
theorem zcls_ty : ∀ (c : Nat) (q : vw_C), vwCl[c]? = some q → ∀ k, k < q.2.2 → parseFieldDescriptor (q.2.1 k).2.2.1 = some (zty c k) := by
  intro c q h
  match c, h with
  | 0, h => cases h; exact tyX0_ok
  | 1, h => cases h; exact tyX1_ok
  | 2, h => cases h; exact tyX2_ok
  | 3, h => cases h; exact tyX3_ok
  | 4, h => cases h; exact tyX4_ok
  | 5, h => cases h; exact tyX5_ok
  | 6, h => cases h; exact tyX6_ok
  | 7, h => cases h; exact tyX7_ok
  | 8, h => cases h; exact tyX8_ok
  | 9, h => cases h; exact tyX9_ok
  | 10, h => cases h; exact tyX10_ok
  | 11, h => cases h; exact tyX11_ok
  | 12, h => cases h; exact tyX12_ok
  | c + 13, h => simp [vwCl] at h
theorem zcls_nm : ∀ (c : Nat) (q : vw_C), vwCl[c]? = some q → ∀ a, a < q.2.2 → ∀ b, b < q.2.2 → a ≠ b → (q.2.1 a).2.1 ≠ (q.2.1 b).2.1 := by
  intro c q h
  match c, h with
  | 0, h => cases h; exact nmX0
  | 1, h => cases h; exact nmX1
  | 2, h => cases h; exact nmX2
  | 3, h => cases h; exact nmX3
  | 4, h => cases h; exact nmX4
  | 5, h => cases h; exact nmX5
  | 6, h => cases h; exact nmX6
  | 7, h => cases h; exact nmX7
  | 8, h => cases h; exact nmX8
  | 9, h => cases h; exact nmX9
  | 10, h => cases h; exact nmX10
  | 11, h => cases h; exact nmX11
  | 12, h => cases h; exact nmX12
  | c + 13, h => simp [vwCl] at h
def zkind (t : FieldType) : Bool := match t with
  | .int => true
  | .boolean => true
  | .object _ => true
  | .array _ => true
  | _ => false
theorem zty_kind : ∀ (c : Nat) (q : vw_C), vwCl[c]? = some q → ∀ k, k < q.2.2 → zkind (zty c k) = true := by
  intro c q h
  match c, h with
  | 0, h => cases h; exact (by decide +kernel)
  | 1, h => cases h; exact (by decide +kernel)
  | 2, h => cases h; exact (by decide +kernel)
  | 3, h => cases h; exact (by decide +kernel)
  | 4, h => cases h; exact (by decide +kernel)
  | 5, h => cases h; exact (by decide +kernel)
  | 6, h => cases h; exact (by decide +kernel)
  | 7, h => cases h; exact (by decide +kernel)
  | 8, h => cases h; exact (by decide +kernel)
  | 9, h => cases h; exact (by decide +kernel)
  | 10, h => cases h; exact (by decide +kernel)
  | 11, h => cases h; exact (by decide +kernel)
  | 12, h => cases h; exact (by decide +kernel)
  | c + 13, h => simp [vwCl] at h
theorem zcN_of {c : Nat} {q : vw_C} (h : vwCl[c]? = some q) : zcN c = q.2.2 := by
  simp only [zcN, List.getD_eq_getElem?_getD, List.getElem?_map, h]; rfl
theorem zcls_lt {c : Nat} {q : vw_C} (h : vwCl[c]? = some q) : c < 13 := (List.getElem?_eq_some_iff.mp h).1
theorem zcls_inst : ∀ (c : Nat) (q : vw_C), vwCl[c]? = some q → Cond.instantiable q.1 q.2.2 ∈ zTb ∧ Cond.initialized q.1 ∈ zTb := by
  intro c q h
  match c, h with
  | 0, h => cases h; exact ⟨zw_in (i := 2099) (by decide +kernel), zw_in (i := 1012) (by decide +kernel)⟩
  | 1, h => cases h; exact ⟨zw_in (i := 1153) (by decide +kernel), zw_in (i := 1005) (by decide +kernel)⟩
  | 2, h => cases h; exact ⟨zw_in (i := 1037) (by decide +kernel), zw_in (i := 1003) (by decide +kernel)⟩
  | 3, h => cases h; exact ⟨zw_in (i := 2052) (by decide +kernel), zw_in (i := 1010) (by decide +kernel)⟩
  | 4, h => cases h; exact ⟨zw_in (i := 2074) (by decide +kernel), zw_in (i := 1011) (by decide +kernel)⟩
  | 5, h => cases h; exact ⟨zw_in (i := 1214) (by decide +kernel), zw_in (i := 1007) (by decide +kernel)⟩
  | 6, h => cases h; exact ⟨zw_in (i := 1238) (by decide +kernel), zw_in (i := 1008) (by decide +kernel)⟩
  | 7, h => cases h; exact ⟨zw_in (i := 1201) (by decide +kernel), zw_in (i := 1006) (by decide +kernel)⟩
  | 8, h => cases h; exact ⟨zw_in (i := 1031) (by decide +kernel), zw_in (i := 1002) (by decide +kernel)⟩
  | 9, h => cases h; exact ⟨zw_in (i := 1129) (by decide +kernel), zw_in (i := 1004) (by decide +kernel)⟩
  | 10, h => cases h; exact ⟨zw_in (i := 2027) (by decide +kernel), zw_in (i := 1009) (by decide +kernel)⟩
  | 11, h => cases h; exact ⟨zw_in (i := 1023) (by decide +kernel), zw_in (i := 1001) (by decide +kernel)⟩
  | 12, h => cases h; exact ⟨zw_in (i := 5202) (by decide +kernel), zw_in (i := 1013) (by decide +kernel)⟩
  | c + 13, h => simp [vwCl] at h
