noncomputable def zE_274 : Nat → zF := zlk [(179, zf_179)]
/-- HillErrandsModel.count -/
noncomputable def zQ_274 (x : zCf) : Option (Value × zM) := zres zX0 zi_274 (zE_274) x
theorem zQd_274 (x : zCf) : zQ_274 x = zres zX0 zi_274 (zE_274) x := rfl
theorem zqz_274 (x1 : Int32) (M : zM) : zf_274 [.ref 58, .int x1] M = zQ_274 (0, [.ref 58, .int x1], [], M) := zden_res ⟨Nat.le_of_ble_eq_true rfl, by simp [Value.category]⟩
set_option maxRecDepth 100000 in
theorem zq_274_0 (s : zQs) (I : Nat → Nat → Int32) (x1 : Int32) : zQ_274 (0, [.ref 58, .int x1], [], zMk (s, I)) = zQ_274 (1, [.ref 58, .int x1], [.int x1], (zMk (s, I))) := (zQd_274 _).trans (Eq.trans (zx_iload rfl rfl) rfl)
set_option maxRecDepth 100000 in
theorem zq_274_1 (s : zQs) (I : Nat → Nat → Int32) (x1 y0 : Int32) : zQ_274 (1, [.ref 58, .int x1], [.int y0], zMk (s, I)) = (ztab y0 32 0 9 #[2, 5, 8, 11, 14, 17, 20, 23, 26, 29] (fun t => zQ_274 (t.toNat, [.ref 58, .int x1], [], (zMk (s, I))))) := (zQd_274 _).trans (zx_table rfl)
set_option maxRecDepth 100000 in
theorem zq_274_2 (s : zQs) (I : Nat → Nat → Int32) (x1 : Int32) : zQ_274 (2, [.ref 58, .int x1], [], zMk (s, I)) = (some (.int (I 58 0), (zMk (s, I)))) := (zQd_274 _).trans (Eq.trans (zx_aload rfl rfl) (Eq.trans (zx_get (v := (I 58 0)) rfl (zA_58 _) rfl) (zx_ireturn rfl)))
set_option maxRecDepth 100000 in
theorem zq_274_5 (s : zQs) (I : Nat → Nat → Int32) (x1 : Int32) : zQ_274 (5, [.ref 58, .int x1], [], zMk (s, I)) = (some (.int (I 58 1), (zMk (s, I)))) := (zQd_274 _).trans (Eq.trans (zx_aload rfl rfl) (Eq.trans (zx_get (v := (I 58 1)) rfl (zA_58 _) rfl) (zx_ireturn rfl)))
set_option maxRecDepth 100000 in
theorem zq_274_8 (s : zQs) (I : Nat → Nat → Int32) (x1 : Int32) : zQ_274 (8, [.ref 58, .int x1], [], zMk (s, I)) = (some (.int (I 58 18), (zMk (s, I)))) := (zQd_274 _).trans (Eq.trans (zx_aload rfl rfl) (Eq.trans (zx_get (v := (I 58 18)) rfl (zA_58 _) rfl) (zx_ireturn rfl)))
set_option maxRecDepth 100000 in
theorem zq_274_11 (s : zQs) (I : Nat → Nat → Int32) (x1 : Int32) : zQ_274 (11, [.ref 58, .int x1], [], zMk (s, I)) = (some (.int (I 58 9), (zMk (s, I)))) := (zQd_274 _).trans (Eq.trans (zx_aload rfl rfl) (Eq.trans (zx_get (v := (I 58 9)) rfl (zA_58 _) rfl) (zx_ireturn rfl)))
set_option maxRecDepth 100000 in
theorem zq_274_14 (s : zQs) (I : Nat → Nat → Int32) (x1 : Int32) : zQ_274 (14, [.ref 58, .int x1], [], zMk (s, I)) = (some (.int (I 58 2), (zMk (s, I)))) := (zQd_274 _).trans (Eq.trans (zx_aload rfl rfl) (Eq.trans (zx_get (v := (I 58 2)) rfl (zA_58 _) rfl) (zx_ireturn rfl)))
set_option maxRecDepth 100000 in
theorem zq_274_17 (s : zQs) (I : Nat → Nat → Int32) (x1 : Int32) : zQ_274 (17, [.ref 58, .int x1], [], zMk (s, I)) = (some (.int (I 58 37), (zMk (s, I)))) := (zQd_274 _).trans (Eq.trans (zx_aload rfl rfl) (Eq.trans (zx_get (v := (I 58 37)) rfl (zA_58 _) rfl) (zx_ireturn rfl)))
set_option maxRecDepth 100000 in
theorem zq_274_20 (s : zQs) (I : Nat → Nat → Int32) (x1 : Int32) : zQ_274 (20, [.ref 58, .int x1], [], zMk (s, I)) = (some (.int (I 58 42), (zMk (s, I)))) := (zQd_274 _).trans (Eq.trans (zx_aload rfl rfl) (Eq.trans (zx_get (v := (I 58 42)) rfl (zA_58 _) rfl) (zx_ireturn rfl)))
set_option maxRecDepth 100000 in
theorem zq_274_23 (s : zQs) (I : Nat → Nat → Int32) (x1 : Int32) : zQ_274 (23, [.ref 58, .int x1], [], zMk (s, I)) = (some (.int (I 58 43), (zMk (s, I)))) := (zQd_274 _).trans (Eq.trans (zx_aload rfl rfl) (Eq.trans (zx_get (v := (I 58 43)) rfl (zA_58 _) rfl) (zx_ireturn rfl)))
set_option maxRecDepth 100000 in
theorem zq_274_26 (s : zQs) (I : Nat → Nat → Int32) (x1 : Int32) : zQ_274 (26, [.ref 58, .int x1], [], zMk (s, I)) = (some (.int (I 58 59), (zMk (s, I)))) := (zQd_274 _).trans (Eq.trans (zx_aload rfl rfl) (Eq.trans (zx_get (v := (I 58 59)) rfl (zA_58 _) rfl) (zx_ireturn rfl)))
set_option maxRecDepth 100000 in
theorem zq_274_29 (s : zQs) (I : Nat → Nat → Int32) (x1 : Int32) : zQ_274 (29, [.ref 58, .int x1], [], zMk (s, I)) = (some (.int (I 58 3), (zMk (s, I)))) := (zQd_274 _).trans (Eq.trans (zx_aload rfl rfl) (Eq.trans (zx_get (v := (I 58 3)) rfl (zA_58 _) rfl) (zx_ireturn rfl)))
set_option maxRecDepth 100000 in
theorem zq_274_32 (s : zQs) (I : Nat → Nat → Int32) (x1 : Int32) : zQ_274 (32, [.ref 58, .int x1], [], zMk (s, I)) = (zcI (zf_179 [.int x1, .int 20, .int ((19 : Int32) + (I 58 0))] (zMk (s, I))) fun v M => zQ_274 (39, [.ref 58, .int x1], [.int v], M)) := (zQd_274 _).trans (Eq.trans (zx_iload rfl rfl) (Eq.trans (zx_iconst (x := 20) rfl rfl) (Eq.trans (zx_iconst (x := 19) rfl rfl) (Eq.trans (zx_aload rfl rfl) (Eq.trans (zx_get (v := (I 58 0)) rfl (zA_58 _) rfl) (Eq.trans (zx_iadd rfl) (zx_sI rfl rfl rfl rfl rfl rfl rfl)))))))
set_option maxRecDepth 100000 in
theorem zq_274_39 (s : zQs) (I : Nat → Nat → Int32) (x1 y0 : Int32) : zQ_274 (39, [.ref 58, .int x1], [.int y0], zMk (s, I)) = (if y0 = 0 then (zcI (zf_179 [.int x1, .int 40, .int ((39 : Int32) + (I 58 0))] (zMk (s, I))) fun v M => zQ_274 (54, [.ref 58, .int x1], [.int v], M)) else (if zb (x1 - 20) 20 then (some (.int (I 59 (x1 - 20).toNatClampNeg), (zMk (s, I)))) else none)) := (zQd_274 _).trans (Eq.trans (zx_if_eq rfl) (zx_if2 (Eq.trans (zx_iload rfl rfl) (Eq.trans (zx_iconst (x := 40) rfl rfl) (Eq.trans (zx_iconst (x := 39) rfl rfl) (Eq.trans (zx_aload rfl rfl) (Eq.trans (zx_get (v := (I 58 0)) rfl (zA_58 _) rfl) (Eq.trans (zx_iadd rfl) (zx_sI rfl rfl rfl rfl rfl rfl rfl))))))) (Eq.trans (zx_aload rfl rfl) (Eq.trans (zx_getR (b := 59) rfl (zA_58 _) (zRf_58_4 _)) (Eq.trans (zx_iload rfl rfl) (Eq.trans (zx_iconst (x := 20) rfl rfl) (Eq.trans (zx_isub rfl) (Eq.trans (zx_ald (v := (I 59 (x1 - 20).toNatClampNeg)) 20 rfl rfl (zA_59 _) (zLn_59 _) rfl) (zx_if1 (zx_ireturn rfl))))))))))
set_option maxRecDepth 100000 in
theorem zq_274_54 (s : zQs) (I : Nat → Nat → Int32) (x1 y0 : Int32) : zQ_274 (54, [.ref 58, .int x1], [.int y0], zMk (s, I)) = (if y0 = 0 then (some (.int (-1), (zMk (s, I)))) else (if zb (x1 - 40) 20 then (some (.int (I 93 (x1 - 40).toNatClampNeg), (zMk (s, I)))) else none)) := (zQd_274 _).trans (Eq.trans (zx_if_eq rfl) (zx_if2 (Eq.trans (zx_iconst (x := (-1)) rfl rfl) (zx_ireturn rfl)) (Eq.trans (zx_aload rfl rfl) (Eq.trans (zx_getR (b := 93) rfl (zA_58 _) (zRf_58_52 _)) (Eq.trans (zx_iload rfl rfl) (Eq.trans (zx_iconst (x := 40) rfl rfl) (Eq.trans (zx_isub rfl) (Eq.trans (zx_ald (v := (I 93 (x1 - 40).toNatClampNeg)) 20 rfl rfl (zA_93 _) (zLn_93 _) rfl) (zx_if1 (Eq.trans (zx_goto rfl) (zx_ireturn rfl)))))))))))
