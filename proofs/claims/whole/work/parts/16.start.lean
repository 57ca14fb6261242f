/-! THE CLAIM OUT OF ONE WALK OF THE LAW'S BODY. Your part is whole_start (and what it stands on); all else here is the same for every law, but numbers. -/
def R_law : String := "HillErrandsLaw"
def lw_P (b : Addr) (xs : List Int32) (args : Array Value) (s : State) : Prop := args = #[.ref b] ∧ s.IntsAt b xs ∧ xs.length ≤ 3072 ∧ (Jvm.Cond.and given_1 narrow_1).before args s = true
def lw_Q (_ : Array Value) (s : State) (o : Outcome) (t : State) : Prop := o = .returned (some (.int 1)) ∧ Framed s o t [] 600000 7302250
def lw_Z (below : List Frame) (a : Array Value) (s : State) : State → Prop := fun t => ∃ o, t.status = .running ∧ Ended t below o ∧ lw_Q a s o t
/-- the law's own end, with 1 on the stack, nothing written that was there before, its room as the claim has it -/
theorem lw_ret {p : Program} {l : Launch} {e : Env} {s : State} {m : MethodId} {below : List Frame} {meth : Method} {c : Code} {b : Nat} (hx : p.tables.exec = Jvm.exec) (hb : c.code = code) (hr : meth.sig.returnType = ret) (hlocks : meth.locks = false) {pc : Nat} {H : Heap} {ls : Array Slot} (hdg : decode code pc = .ok (.ireturn, 1)) : W p l e room_1 s m #[Value.ref b] below meth c H [] 600000 7302250 (lw_Z below #[Value.ref b] s) (F0 m pc ls [.int 1]) := by
  intro T hT X
  obtain ⟨fs, hret, hrun, hended, hW, hframe⟩ := X.leave (v := some (.int 1)) (hlocks := hlocks) (fun h => by rw [hr] at h; cases h)
  have hmeth' : T.vm.method? m = some meth := X.method'
  refine ⟨T.setFrames fs, ?_, .returned (some (.int 1)), hrun, hended, rfl, ⟨_, rfl⟩, hW, hframe⟩
  jvm_step X.here [X.here.top, hx, hb, hdg, hmeth', hr, ret, narrow_b1]
  (try refine ⟨rfl, ?_⟩); (try refine ⟨rfl, ?_⟩)
  first | (intro acts; rw [hret _ acts rfl rfl rfl]) | rw [hret _ _ rfl rfl rfl]
  exact Steps.refl _
/-- what holds at the law's entry: the machine, the code, the tables' words (any of lw_tbl by 'hts w (by decide +kernel)'), the script of L ints xs at the cell b, what the Statement gives of the start (any of its parts by flat_of_before) -/
def lw_At (p : Program) (s : State) (m : MethodId) (meth : Method) (c : Code) (b L : Nat) (xs : Nat → Int32) : Prop :=
  p.tables.exec = Jvm.exec ∧ c.code = code ∧ meth.sig.returnType = ret ∧ c.maxLocals = 4 ∧ s.vm.findClass R_law = some m.cls ∧ (∀ w ∈ lw_tbl, w.before #[Value.ref b] s = true) ∧ va_X b L xs s s.heap ∧ b < s.heap.size ∧ meth.locks = false ∧ (Jvm.Cond.and given_1 narrow_1).before #[Value.ref b] s = true
/-- no cell -/
def zM0 : zM := ((0, 0, fun _ => 999, fun _ => 0, fun _ _ => none), fun _ _ => 0)
theorem zarr : Cond.arrayClass .int ∈ zTb ∧ Cond.arrayClass .boolean ∈ zTb ∧ Cond.arrayClass .byte ∈ zTb := ⟨zw_in (i := 1079) (by decide +kernel), zw_in (i := 6176) (by decide +kernel), zw_in (i := 3174) (by decide +kernel)⟩
theorem zarr2 : Cond.arrayOver (.array .int) ∈ lw_tbl := zch_in 1 (List.mem_of_getElem? (i := 135) (by decide +kernel))
theorem zstr1 : Cond.stringRef "HillErrands$Reader" 118 "udklwfgsh" ∈ lw_tbl := zch_in 3 (List.mem_of_getElem? (i := 39) (by decide +kernel))
theorem zstr2 : Cond.laysStatic "java/lang/String" "COMPACT_STRINGS" "Z" ∈ lw_tbl := zch_in 3 (List.mem_of_getElem? (i := 53) (by decide +kernel))
theorem zstr3 : Cond.initialized "java/lang/String" ∈ lw_tbl := zch_in 1 (List.mem_of_getElem? (i := 15) (by decide +kernel))
theorem zlaw_ok : ∀ q ∈ zlaw, zSnd 64 (zmd q.1) q.2 := by
  intro q hq
  simp only [zlaw, List.mem_cons, List.not_mem_nil, or_false] at hq
  rcases hq with rfl | rfl | rfl | rfl | rfl | rfl | rfl | rfl | rfl | rfl | rfl | rfl | rfl | rfl | rfl | rfl | rfl | rfl | rfl | rfl | rfl | rfl | rfl | rfl | rfl | rfl | rfl | rfl | rfl | rfl | rfl | rfl | rfl | rfl | rfl | rfl | rfl | rfl | rfl | rfl | rfl | rfl | rfl | rfl | rfl | rfl | rfl | rfl | rfl | rfl | rfl | rfl | rfl | rfl | rfl | rfl | rfl | rfl | rfl | rfl | rfl | rfl | rfl | rfl
  · exact zs_139 64 (by omega)
  · exact zs_140 64 (by omega)
  · exact zs_141 64 (by omega)
  · exact zs_142 64 (by omega)
  · exact zs_143 64 (by omega)
  · exact zs_144 64 (by omega)
  · exact zs_145 64 (by omega)
  · exact zs_146 64 (by omega)
  · exact zs_147 64 (by omega)
  · exact zs_148 64 (by omega)
  · exact zs_149 64 (by omega)
  · exact zs_150 64 (by omega)
  · exact zs_151 64 (by omega)
  · exact zs_152 64 (by omega)
  · exact zs_153 64 (by omega)
  · exact zs_154 64 (by omega)
  · exact zs_155 64 (by omega)
  · exact zs_156 64 (by omega)
  · exact zs_157 64 (by omega)
  · exact zs_158 64 (by omega)
  · exact zs_159 64 (by omega)
  · exact zs_160 64 (by omega)
  · exact zs_161 64 (by omega)
  · exact zs_162 64 (by omega)
  · exact zs_163 64 (by omega)
  · exact zs_164 64 (by omega)
  · exact zs_165 64 (by omega)
  · exact zs_166 64 (by omega)
  · exact zs_167 64 (by omega)
  · exact zs_168 64 (by omega)
  · exact zs_169 64 (by omega)
  · exact zs_170 64 (by omega)
  · exact zs_178 64 (by omega)
  · exact zs_184 64 (by omega)
  · exact zs_186 64 (by omega)
  · exact zs_187 64 (by omega)
  · exact zs_189 64 (by omega)
  · exact zs_210 64 (by omega)
  · exact zs_215 64 (by omega)
  · exact zs_223 64 (by omega)
  · exact zs_224 64 (by omega)
  · exact zs_226 64 (by omega)
  · exact zs_233 64 (by omega)
  · exact zs_235 64 (by omega)
  · exact zs_238 64 (by omega)
  · exact zs_239 64 (by omega)
  · exact zs_241 64 (by omega)
  · exact zs_245 64 (by omega)
  · exact zs_246 64 (by omega)
  · exact zs_250 64 (by omega)
  · exact zs_253 64 (by omega)
  · exact zs_254 64 (by omega)
  · exact zs_258 64 (by omega)
  · exact zs_260 64 (by omega)
  · exact zs_262 64 (by omega)
  · exact zs_263 64 (by omega)
  · exact zs_266 64 (by omega)
  · exact zs_267 64 (by omega)
  · exact zs_268 64 (by omega)
  · exact zs_269 64 (by omega)
  · exact zs_270 64 (by omega)
  · exact zs_271 64 (by omega)
  · exact zs_273 64 (by omega)
  · exact zs_274 64 (by omega)
theorem zlaw_gs : zlw_gs = zlaw.map (fun q => q.1) := rfl
set_option maxHeartbeats 4000000 in
set_option maxRecDepth 100000 in
theorem zwhole (hrun : ∀ X : zX, 0 < X.1 → X.1 ≤ 3073 → ∃ (Mf : zM) (n : Nat), zrunT X zi_L zE_L n (zstart 4 [.ref 1000000] zM0) = some (.int 1, Mf) ∧ zn Mf ≤ 600000 ∧ zsl Mf ≤ 7302250)
    {p : Program} {e : Env} {s : State} {m : MethodId} {below : List Frame} {meth : Method} {c : Code} (l : Launch) {b L : Nat} {xs : Nat → Int32} (hL : L ≤ 3072) (C0 : lw_At p s m meth c b L xs) : W p l e room_1 s m #[Value.ref b] below meth c s.heap [] 0 0 (lw_Z below #[Value.ref b] s) (entryFrame m ([Value.ref b] : List Value).toArray 4) := by
  obtain ⟨hx, hb, hr, hml, hown, hts, hX, hbl, hlocks, hgv⟩ := id C0
  have htz : ∀ w ∈ zTb, w.before #[Value.ref b] s = true := fun w h => hts w (zTb_of h).1
  have hcl : ∀ k : Nat, ∃ q : ClassId × (Nat → Nat), ∀ w : vw_C, vwCl[k]? = some w → u_Kn s w.1 w.2.1 w.2.2 q.1 q.2 := by
    intro k
    cases hq : vwCl[k]? with
    | none => exact ⟨(0, fun _ => 0), fun w h => by cases h⟩
    | some w =>
      obtain ⟨c0, iS, h⟩ := u_known (C := w.1) (T := w.2.1) (N := w.2.2) (n := w.2.2) htz (zcls_in k w hq) (htz _ (zcls_inst k w hq).1)
      exact ⟨(c0, iS), fun w' h' => by cases h'; exact h⟩
  obtain ⟨dd, hdd⟩ := Classical.axiomOfChoice hcl
  obtain ⟨cI, kI, compI, i1, i2, i3⟩ := Cond.arrayClass_spec (htz _ zarr.1)
  obtain ⟨cZ, kZ, compZ, z1, z2, z3⟩ := Cond.arrayClass_spec (htz _ zarr.2.1)
  obtain ⟨cB, kB, compB, b1, b2, b3⟩ := Cond.arrayClass_spec (htz _ zarr.2.2)
  obtain ⟨comp, cII, kII, j1, j2, j3, j4, j5⟩ := arrayOverA_spec (hts _ zarr2)
  have hcomp : comp = cI := Option.some.inj (j1.symm.trans i1)
  subst hcomp
  obtain ⟨D, hD⟩ : ∃ D : va_G, ∀ (k : Nat) (w : vw_C), vwCl[k]? = some w → u_Kn s w.1 w.2.1 w.2.2 (D.1 k) (D.2 k) := ⟨(fun k => (dd k).1, fun k => (dd k).2), fun k w h => hdd k w h⟩
  obtain ⟨cy, y0, y1, y2, y3⟩ : ∃ cy : Nat → ClassId, cy 100 = comp ∧ cy 101 = cZ ∧ cy 102 = cB ∧ cy 103 = cII := ⟨fun k => if k = 100 then comp else if k = 101 then cZ else if k = 102 then cB else cII, rfl, rfl, rfl, rfl⟩
  have hs := flat_of_before _ hgv
  have hA : ∀ a : Nat, a < s.heap.size → ¬ (s.heap.size ≤ a) := fun a h => Nat.not_le.mpr h
  obtain ⟨adK, adV, hSS, hev⟩ := vk_Sof (args := #[Value.ref b]) (s := s) (N := 1) (tm := fun _ => Term.string "HillErrands$Reader" 118) (len := [9]) (byt := [zSB]) (A := fun q => s.heap.size ≤ q)
    (fun i hi => by obtain rfl : i = 0 := by omega
                    decide)
    (fun i hi => hs _ (by decide +kernel)) (fun i hi => hs _ (by decide +kernel)) (fun i hi => hs _ (by decide +kernel))
    (fun i hi => by obtain rfl : i = 0 := by omega
                    exact hs _ (by decide +kernel))
    (fun i hi j hj => by
      obtain rfl : i = 0 := by omega
      have hj : j < 9 := hj
      obtain rfl | rfl | rfl | rfl | rfl | rfl | rfl | rfl | rfl : j = 0 ∨ j = 1 ∨ j = 2 ∨ j = 3 ∨ j = 4 ∨ j = 5 ∨ j = 6 ∨ j = 7 ∨ j = 8 := by omega
      all_goals exact hs _ (by decide +kernel))
    (fun i j hi hj h => absurd (show i = j by omega) h) hA
  obtain ⟨sp, s0, s1, s2⟩ : ∃ sp : Nat → Nat, sp 0 = b ∧ sp 1 = adK 0 ∧ sp 2 = adV 0 := ⟨fun k => if k = 0 then b else if k = 1 then adK 0 else adV 0, rfl, rfl, rfl⟩
  have hK : va_K D vwCl [(cy 100, .int), (cy 101, .boolean), (cy 102, .byte), (cy 103, .array .int)] s := by
    refine ⟨hD, fun k q hq => ?_⟩
    match k, hq with
    | 0, hq => cases hq; rw [y0]; exact ⟨fun n z => ⟨fun k h => (by cases h), kI, i2, compI, i3⟩, i1⟩
    | 1, hq => cases hq; rw [y1]; exact ⟨fun n z => ⟨fun k h => (by cases h), kZ, z2, compZ, z3⟩, z1⟩
    | 2, hq => cases hq; rw [y2]; exact ⟨fun n z => ⟨fun k h => (by cases h), kB, b2, compB, b3⟩, b1⟩
    | 3, hq => cases hq; rw [y3]; exact ⟨fun n z => ⟨fun k h => (by cases h), kII, j3, comp, j4⟩, j5⟩
    | k + 4, hq => simp at hq
  have hEnv : zEnv D cy s.heap.size sp (L + 1, xs) s := by
    refine ⟨hK, ⟨kII, kI, by rw [y3]; exact j3, by rw [y0]; exact j4, by rw [y0]; exact i2⟩, by rw [s0]; exact hX, by rw [s0]; exact hbl, ?_, ?_, ?_, hts _ zarr2⟩
    · refine ⟨fun i hi => ?_, fun i j hi hj _ => by omega⟩
      obtain rfl : i = 0 := by omega
      rw [s1, s2]
      exact hSS.1 0 hi
    · rw [s1]
      exact vk_R.of (hts _ zstr1) (hev 0 (by decide))
    · exact va_Zof (hts _ zstr2) (hts _ zstr3) (va_eqt (hs _ (by decide +kernel))) hA
  obtain ⟨Mf, n, hn, hc1, hc2⟩ := hrun (L + 1, xs) (Nat.succ_pos L) (Nat.succ_le_succ hL)
  rw [lg_entry_eq]
  have hmap : ([Value.ref b] : List Value) = ([.ref 1000000] : List Value).map (zav s.heap.size sp) := by
    show _ = [Value.ref (zad s.heap.size sp 1000000)]
    rw [show zad s.heap.size sp 1000000 = sp 0 from rfl, s0]
  refine (fun key => ?_) (zwalk (p := p) (e := e) (l := l) (meth := meth) (Q := lw_Z below #[Value.ref b] s) (R := room_1) (X := (L + 1, xs)) (X' := (L + 1, xs)) (n0 := 0) (s0 := 0) (d := 64) (gs := zlw_gs) (E := zE_L) (y := (.int 1, Mf)) (md := zmd) (ini := false) (own := RL) (ret := some .boolean) (below := below) (cd := zc_L) (nL := 4) (h0 := s.heap.size)
    hx hb hml hown htz (fun h => by cases h) hEnv (Or.inr rfl) ⟨by decide, by decide, by rw [Nat.sub_zero]; exact hc1, by rw [Nat.sub_zero]; exact hc2⟩ zk_L0.1
    zk_Lall (by rw [zlaw_gs]; exact zlk_ok zlaw_ok) ?_ ?_ ?_ n (zstart 4 [.ref 1000000] zM0) (by rw [ze_L]; exact hn))
  · obtain ⟨-, -, k⟩ := key
    have k2 := k s.heap [] _ (Nat.zero_le _) (Nat.zero_le _) ⟨by decide, fun k hk => absurd hk (by show ¬ 999 < 104; decide), fun k hk => absurd hk (Nat.not_lt_zero k)⟩ rfl va_S.rf (zLoc_entry (h0 := s.heap.size) (sp := sp) [.ref 1000000] (nL := 4) (by decide) (by simp [Value.category]))
    rw [← hmap] at k2
    simp only [zstart, List.map_nil, zk_L0.2] at k2
    exact W.cs rfl rfl k2
  · intro v M2 H locs ls pc hy hret hdg hn0 hs0 hP2 hz2 hS
    have e1 : (1 : Int32) = v := Value.int.inj (Prod.mk.inj hy).1
    have e2 : Mf = M2 := (Prod.mk.inj hy).2
    subst e1; subst e2
    exact va_forget (fun q hq => hS.2.2 q hq) (W.widen (k := 600000) (n := 7302250) (by omega) (by omega) (lw_ret hx hb hr hlocks hdg))
  · intro M2 H locs ls pc hy
    cases (Prod.mk.inj hy).1
  · intro a M2 H locs ls pc hy
    cases (Prod.mk.inj hy).1
