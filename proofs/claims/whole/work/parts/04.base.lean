/-! WHAT TIES THE SMALL MACHINE'S CELLS TO THE HEAP -/
def zTb : List Cond := lw_tbl.filter goodWord
theorem zTb_in {w : Cond} (h : w ∈ lw_tbl) (g : goodWord w = true) : w ∈ zTb := List.mem_filter.mpr ⟨h, g⟩
theorem zTb_of {w : Cond} (h : w ∈ zTb) : w ∈ lw_tbl ∧ goodWord w = true := List.mem_filter.mp h
theorem zTb_good : GoodIn zTb zTb := fun w h => ⟨h, good_of_word (zTb_of h).2⟩
/-- the tables in their parts -/
def zch (c : Nat) : List Cond := match c with
  | 0 => k2_sels lw_privs
  | 1 => tables_1_1
  | 2 => tables_1_2
  | 3 => tables_1_3
  | 4 => tables_1_4
  | 5 => tables_1_5
  | 6 => tables_1_6
  | 7 => tables_1_7
  | 8 => tables_1_8
  | _ => []
theorem zch_in (c : Nat) {w : Cond} (h : w ∈ zch c) : w ∈ lw_tbl := by
  unfold zch at h
  unfold lw_tbl tables_1
  simp only [List.mem_append]
  split at h
  · exact Or.inl h
  · exact Or.inr (Or.inl h)
  · exact Or.inr (Or.inr (Or.inl h))
  · exact Or.inr (Or.inr (Or.inr (Or.inl h)))
  · exact Or.inr (Or.inr (Or.inr (Or.inr (Or.inl h))))
  · exact Or.inr (Or.inr (Or.inr (Or.inr (Or.inr (Or.inl h)))))
  · exact Or.inr (Or.inr (Or.inr (Or.inr (Or.inr (Or.inr (Or.inl h))))))
  · exact Or.inr (Or.inr (Or.inr (Or.inr (Or.inr (Or.inr (Or.inr (Or.inl h)))))))
  · exact Or.inr (Or.inr (Or.inr (Or.inr (Or.inr (Or.inr (Or.inr (Or.inr h)))))))
  · cases h
/-- the word at a place of the tables: 1000 part + place -/
def zw (i : Nat) (w : Cond) : Bool := decide ((zch (i / 1000))[i % 1000]? = some w) && goodWord w
theorem zw_in {i : Nat} {w : Cond} (h : zw i w = true) : w ∈ zTb := by
  simp only [zw, Bool.and_eq_true, decide_eq_true_eq] at h
  exact zTb_in (zch_in _ (List.mem_of_getElem? h.1)) h.2
def zad (h0 : Nat) (sp : Nat → Nat) (k : Nat) : Nat := if k < 1000000 then h0 + k else sp (k - 1000000)
def zav (h0 : Nat) (sp : Nat → Nat) (v : Value) : Value := match v with
  | .ref k => .ref (zad h0 sp k)
  | v => v
def zty : Nat → Nat → FieldType := fun c => match c with
  | 0 => tyX0
  | 1 => tyX1
  | 2 => tyX2
  | 3 => tyX3
  | 4 => tyX4
  | 5 => tyX5
  | 6 => tyX6
  | 7 => tyX7
  | 8 => tyX8
  | 9 => tyX9
  | 10 => tyX10
  | 11 => tyX11
  | 12 => tyX12
  | _ => fun _ => .int
def zFr (c j : Nat) : Bool := match zty c j with
  | .object _ => true
  | .array _ => true
  | _ => false
def zfv (h0 : Nat) (sp : Nat → Nat) (M : zM) (k c j : Nat) : Value := if zFr c j then va_rf ((zR M k j).map (zad h0 sp)) else .int (zI M k j)
def zrow (h0 : Nat) (sp : Nat → Nat) (M : zM) (k t : Nat) (j : Nat) : Value := if t = 103 then va_rf ((zR M k j).map (zad h0 sp)) else .int (zI M k j)
/-- the cell k is in the heap, at h0 + k -/
def zPk (D : va_G) (cy : Nat → ClassId) (h0 : Nat) (sp : Nat → Nat) (M : zM) (H : Heap) (k : Nat) : Prop :=
  (∀ q : vw_C, vwCl[zt M k]? = some q → t_OB (h0 + k) (D.1 (zt M k)) q.2.2 (D.2 (zt M k)) H (zfv h0 sp M k (zt M k))) ∧
  (100 ≤ zt M k → zt M k < 104 → H[h0 + k]? = some (arrV (cy (zt M k)) (zl M k) (zrow h0 sp M k (zt M k))))
def zP (D : va_G) (cy : Nat → ClassId) (h0 : Nat) (sp : Nat → Nat) (M : zM) (H : Heap) : Prop := zn M ≤ 1000000 ∧ (∀ k, zt M k < 104 → k < zn M) ∧ ∀ k, k < zn M → zPk D cy h0 sp M H k
/-- what stands at a method's start and stays: the classes, the script, the letters, the launch's statics -/
def zEnv (D : va_G) (cy : Nat → ClassId) (h0 : Nat) (sp : Nat → Nat) (X : zX) (s : State) : Prop :=
  va_K D vwCl [(cy 100, .int), (cy 101, .boolean), (cy 102, .byte), (cy 103, .array .int)] s ∧
  (∃ (kA kI : Class), s.vm.classes[cy 103]? = some kA ∧ kA.kind = .array (cy 100) (.array .int) ∧ s.vm.classes[cy 100]? = some kI) ∧
  va_X (sp 0) (X.1 - 1) X.2 s s.heap ∧ sp 0 < h0 ∧
  vk_S 1 [9] [zSB] (fun _ => sp 1) (fun _ => sp 2) (fun q => h0 ≤ q) s s.heap ∧
  vk_R RX5 118 "udklwfgsh" (sp 1) s ∧ va_Z RJ0 "COMPACT_STRINGS" "Z" (.int 1) (fun q => h0 ≤ q) s s.heap ∧
  (Cond.arrayOver (.array .int)).before #[] s = true
theorem zAO_moved {u U : State} (hvm : u.vm.Alike U.vm) (h : (Cond.arrayOver (.array .int)).before #[] u = true) : (Cond.arrayOver (.array .int)).before #[] U = true := by
  obtain ⟨comp, c, k, h1, h2, h3, h4, h5⟩ := arrayOverA_spec h
  obtain ⟨k', hk', he⟩ := hvm.2.2 _ _ h3
  have hi1 := va_idx_bare U.vm comp
  first | rw [hvm.bare_eq] at hi1 | rw [← hvm.bare_eq] at hi1
  have hi2 := va_idx_bare u.vm comp
  have hi := hi1.symm.trans (hi2.trans h2)
  have hkind : k'.kind = .array comp (.array .int) := by rw [he]; exact h4
  have f1 : U.vm.findClass (FieldType.array .int).toString = some comp := by rw [hvm.findClass]; exact h1
  have f2 : U.vm.findClass ("[" ++ (FieldType.array .int).toString) = some c := by rw [hvm.findClass]; exact h5
  unfold Cond.before Cond.holds
  simp only [Cond.value]
  rw [f1, Option.bind_some]
  refine (congrArg (fun o : Option Nat => (o.bind (fun c => (U.vm.classes[c]?).map fun (k : Class) => match k.kind with | .array _ ty => decide (ty = FieldType.array .int) && decide (U.vm.findClass ("[" ++ (FieldType.array .int).toString) = some c) | _ => false) == some true)) hi).trans ?_
  simp [hk', hkind, f2]
theorem zEnv_to {D : va_G} {cy : Nat → ClassId} {h0 : Nat} {sp : Nat → Nat} {X : zX} {s U : State} {H : Heap} {locs : List Loc} (h : zEnv D cy h0 sp X s) (hS : va_S (fun q => h0 ≤ q) s.heap H locs) (hU : U.heap = H) (hW : s.WarmedH U.vm) : zEnv D cy h0 sp X U := by
  obtain ⟨h1, ⟨kA, kI, h2, h3, h4⟩, h5, h6, h7, h8, h9, h10⟩ := h
  subst hU
  refine ⟨va_K.moved hW.alike h1, ?_, ?_, h6, ?_, vk_R.warm hW h8, (va_Z.moved hW.alike h9).kept hS.2.1, zAO_moved hW.alike h10⟩
  · obtain ⟨k', hk', he⟩ := hW.alike.2.2 _ _ h2
    obtain ⟨k2, hk2, -⟩ := hW.alike.2.2 _ _ h4
    exact ⟨k', k2, hk', by rw [he]; exact h3, hk2⟩
  · have h5' := h5
    obtain ⟨scr, g1, -⟩ := h5'
    have hlt := (Array.getElem?_eq_some_iff.mp g1).1
    exact (h5.moved hW.alike).kept (hS.2.1 _ hlt (Nat.not_le.mpr h6))
  · exact (vk_S.moved hW.alike h7).kept hS.2.1
/-- one cell changes -/
theorem zP_at {D : va_G} {cy : Nat → ClassId} {h0 : Nat} {sp : Nat → Nat} {M M' : zM} {H H1 : Heap} {a : Nat} (h : zP D cy h0 sp M H) (hn : zn M' = zn M) (ht : ∀ k, zt M' k = zt M k) (hl : ∀ k, zl M' k = zl M k) (hI : ∀ k, k ≠ a → zI M' k = zI M k) (hR : ∀ k, k ≠ a → zR M' k = zR M k) (oq : ∀ q : Nat, q ≠ h0 + a → H1[q]? = H[q]?) (ha : zPk D cy h0 sp M' H1 a) : zP D cy h0 sp M' H1 := by
  obtain ⟨hm, hg, h⟩ := h
  refine ⟨by rw [hn]; exact hm, fun k hk => by rw [ht] at hk; rw [hn]; exact hg k hk, ?_⟩
  intro k hk
  by_cases hka : k = a
  · subst hka; exact ha
  · have h1 := h k (by rw [← hn]; exact hk)
    have e1 := oq (h0 + k) (by omega)
    have ef : zfv h0 sp M' k = zfv h0 sp M k := by funext c j; simp only [zfv, hI k hka, hR k hka]
    have er : zrow h0 sp M' k = zrow h0 sp M k := by funext c j; simp only [zrow, hI k hka, hR k hka]
    refine ⟨?_, ?_⟩
    · rw [ht, ef]
      exact fun q hq => (h1.1 q hq).kept e1
    · rw [ht, hl, er, e1]
      exact h1.2
theorem zput_n (M : zM) (k j : Nat) (x : Int32) : zn (zput M k j x) = zn M := rfl
theorem zput_sl (M : zM) (k j : Nat) (x : Int32) : zsl (zput M k j x) = zsl M := rfl
theorem zput_t (M : zM) (k j : Nat) (x : Int32) : ∀ a, zt (zput M k j x) a = zt M a := fun _ => rfl
theorem zput_l (M : zM) (k j : Nat) (x : Int32) : ∀ a, zl (zput M k j x) a = zl M a := fun _ => rfl
theorem zput_R (M : zM) (k j : Nat) (x : Int32) : ∀ a, zR (zput M k j x) a = zR M a := fun _ => rfl
theorem zput_I (M : zM) (k j : Nat) (x : Int32) {a : Nat} (h : a ≠ k) : zI (zput M k j x) a = zI M a := by
  funext i; simp [zput, zI, zwA, h]
theorem zput_Is (M : zM) (k j : Nat) (x : Int32) : zI (zput M k j x) k = upd (zI M k) j x := by
  funext i; simp [zput, zI, zwA, upd]
theorem zputR_n (M : zM) (k j : Nat) (r : Option Nat) : zn (zputR M k j r) = zn M := rfl
theorem zputR_t (M : zM) (k j : Nat) (r : Option Nat) : ∀ a, zt (zputR M k j r) a = zt M a := fun _ => rfl
theorem zputR_l (M : zM) (k j : Nat) (r : Option Nat) : ∀ a, zl (zputR M k j r) a = zl M a := fun _ => rfl
theorem zputR_I (M : zM) (k j : Nat) (r : Option Nat) : ∀ a, zI (zputR M k j r) a = zI M a := fun _ => rfl
theorem zputR_R (M : zM) (k j : Nat) (r : Option Nat) {a : Nat} (h : a ≠ k) : zR (zputR M k j r) a = zR M a := by
  funext i; simp [zputR, zR, h]
theorem zputR_Rs (M : zM) (k j : Nat) (r : Option Nat) : zR (zputR M k j r) k = va_up (zR M k) j r := by
  funext i; simp [zputR, zR]; rfl
/-- a cell is made -/
theorem zP_new {D : va_G} {cy : Nat → ClassId} {h0 : Nat} {sp : Nat → Nat} {M : zM} {H H1 : Heap} {t len : Nat} (hm : zn M < 1000000) (h : zP D cy h0 sp M H) (o1 : ∀ q : Nat, q < h0 + zn M → H1[q]? = H[q]?) (ha : zPk D cy h0 sp (znew M t len) H1 (zn M)) : zP D cy h0 sp (znew M t len) H1 := by
  obtain ⟨-, hg, h⟩ := h
  refine ⟨hm, fun k hk => ?_, ?_⟩
  · have e9 : zn (znew M t len) = zn M + 1 := rfl
    rw [e9]
    by_cases hka : k = zn M
    · omega
    · have et : zt (znew M t len) k = zt M k := by show va_up _ _ _ _ = _; exact va_up_ne _ _ hka
      rw [et] at hk
      exact Nat.lt_succ_of_lt (hg k hk)
  intro k hk
  by_cases hka : k = zn M
  · subst hka; exact ha
  · have hk' : k < zn M := by
      have : zn (znew M t len) = zn M + 1 := rfl
      omega
    have h1 := h k hk'
    have e1 := o1 (h0 + k) (by omega)
    have et : zt (znew M t len) k = zt M k := by show va_up _ _ _ _ = _; exact va_up_ne _ _ hka
    have el : zl (znew M t len) k = zl M k := by show va_up _ _ _ _ = _; exact va_up_ne _ _ hka
    have eI : zI (znew M t len) k = zI M k := by funext j; show zwA _ _ _ _ _ = _; have : ¬ k = M.1.1 := hka; simp [zwA, this, zI]
    have eR : zR (znew M t len) k = zR M k := by funext j; have : ¬ k = M.1.1 := hka; simp [this, zR, znew]
    have ef : zfv h0 sp (znew M t len) k = zfv h0 sp M k := by funext c j; simp only [zfv, eI, eR]
    have er : zrow h0 sp (znew M t len) k = zrow h0 sp M k := by funext c j; simp only [zrow, eI, eR]
    refine ⟨?_, ?_⟩
    · rw [et, ef]
      exact fun q hq => (h1.1 q hq).kept e1
    · rw [et, el, er, e1]
      exact h1.2
theorem znew_t (M : zM) (t len : Nat) : zt (znew M t len) (zn M) = t := by show va_up _ _ _ _ = _; exact va_up_self _ _ _
theorem znew_l (M : zM) (t len : Nat) : zl (znew M t len) (zn M) = len := by show va_up _ _ _ _ = _; exact va_up_self _ _ _
theorem znew_I (M : zM) (t len : Nat) : zI (znew M t len) (zn M) = fun _ => 0 := by funext j; show zwA _ _ _ _ _ = _; simp [zwA, zn]
theorem znew_R (M : zM) (t len : Nat) : zR (znew M t len) (zn M) = fun _ => none := by funext j; simp [zn, zR, znew]
/-- the locals -/
def zLoc (h0 : Nat) (sp : Nat → Nat) (ls : Array Slot) (nL : Nat) (L : List Value) : Prop :=
  ls.size = nL ∧ lv_wf ls ∧ L.length = nL ∧ ∀ (i : Nat) (v : Value), L[i]? = some v → v.category = 1 → ls[i]? = some (.val (zav h0 sp v))
theorem zav_cat (h0 : Nat) (sp : Nat → Nat) (v : Value) : (zav h0 sp v).category = v.category := by cases v <;> rfl
theorem zcat_map (h0 : Nat) (sp : Nat → Nat) (r : List Value) : ((r.map (zav h0 sp)).map fun v => v.category) = r.map fun v => v.category := by
  rw [List.map_map]
  exact List.map_congr_left fun v _ => zav_cat h0 sp v
theorem zLoc_store {h0 : Nat} {sp : Nat → Nat} {ls : Array Slot} {nL : Nat} {L : List Value} (h : zLoc h0 sp ls nL L) {i : Nat} (hi : i < nL) {v : Value} (hc : v.category = 1) : ∃ ls', storeLocals ls i (zav h0 sp v) = some ls' ∧ zLoc h0 sp ls' nL (L.set i v) := by
  obtain ⟨z1, z2, z3, z4⟩ := h
  have hc' : (zav h0 sp v).category = 1 := by rw [zav_cat]; exact hc
  obtain ⟨ls', e, g1, g2, g3⟩ := lv_store1 (l := []) (⟨z1, z2, fun q hq => by cases hq⟩ : lv_has ls nL []) hi hc'
  refine ⟨ls', e, g1, g2, by rw [List.length_set]; exact z3, ?_⟩
  intro j w hj hw
  by_cases hji : j = i
  · subst hji
    rw [List.getElem?_set_self (by omega)] at hj
    cases hj
    exact g3 (j, zav h0 sp v) List.mem_cons_self
  · rw [List.getElem?_set_ne (Ne.symm hji)] at hj
    have h1 := z4 j w hj hw
    obtain ⟨ls2, e2, f1, f2, f3⟩ := lv_store1 (l := [(j, zav h0 sp w)]) (⟨z1, z2, fun q hq => by rw [List.mem_singleton.mp hq]; exact h1⟩ : lv_has ls nL _) hi hc'
    rw [e] at e2
    cases e2
    refine f3 (j, zav h0 sp w) (List.mem_cons_of_mem _ (List.mem_filter.mpr ⟨List.mem_singleton.mpr rfl, ?_⟩))
    have : (zav h0 sp w).category = 1 := by rw [zav_cat]; exact hw
    simp [hji, this]
theorem zlg_sl : ∀ (vs : List Value), (∀ v ∈ vs, v.category = 1) → (lg_sl vs).length = vs.length
  | [], _ => rfl
  | v :: vs, h => by
    have h1 := zlg_sl vs (fun w hw => h w (List.mem_cons_of_mem _ hw))
    have h2 := h v List.mem_cons_self
    simp [lg_sl, h2] at h1 ⊢
    omega
theorem zlv_args : ∀ (vs : List Value) (i j : Nat) (v : Value), (∀ v ∈ vs, v.category = 1) → vs[j]? = some v → (i + j, v) ∈ lv_args i vs
  | [], _, _, _, _, h => by simp at h
  | w :: vs, i, 0, v, _, h => by
    simp at h
    subst h
    simp [lv_args]
  | w :: vs, i, j + 1, v, hc, h => by
    have h2 := hc w List.mem_cons_self
    have h3 := zlv_args vs (i + 1) j v (fun w hw => hc w (List.mem_cons_of_mem _ hw)) (by simpa using h)
    simp only [lv_args, h2]
    refine List.mem_cons_of_mem _ ?_
    rw [show i + (j + 1) = i + 1 + j by omega]
    simpa using h3
theorem zLoc_entry {h0 : Nat} {sp : Nat → Nat} (args : List Value) {nL : Nat} (hl : args.length ≤ nL) (hc : ∀ v ∈ args, v.category = 1) :
    zLoc h0 sp ((lg_sl (args.map (zav h0 sp)) ++ List.replicate (nL - (lg_sl (args.map (zav h0 sp))).length) Slot.unset).toArray) nL (args ++ List.replicate (nL - args.length) (.long 0)) := by
  have hc' : ∀ v ∈ args.map (zav h0 sp), v.category = 1 := fun v hv => by
    obtain ⟨w, hw, rfl⟩ := List.mem_map.mp hv
    rw [zav_cat]; exact hc w hw
  have hlen := zlg_sl _ hc'
  obtain ⟨g1, g2, g3⟩ := lv_entry (args.map (zav h0 sp)) (n := nL) (by rw [hlen, List.length_map]; exact hl)
  refine ⟨g1, g2, by rw [List.length_append, List.length_replicate]; omega, ?_⟩
  intro i v hv hcv
  by_cases hi : i < args.length
  · rw [List.getElem?_append_left hi] at hv
    have h1 := zlv_args (args.map (zav h0 sp)) 0 i (zav h0 sp v) hc' (by rw [List.getElem?_map, hv]; rfl)
    rw [Nat.zero_add] at h1
    exact g3 _ h1
  · rw [List.getElem?_append_right (by omega), List.getElem?_replicate] at hv
    split at hv
    · cases hv; cases hcv
    · cases hv
/-- a method: its name, bytes, locals, answer, arguments, and 0 virtual, 1 static, 2 a constructor -/
abbrev zMd : Type := MethodName × ByteArray × Nat × Option FieldType × Nat × Nat
def zMok (md : zMd) : Prop :=
  Cond.code md.1 md.2.1 md.2.2.1 md.2.2.2.1 ∈ zTb ∧ Cond.initialized md.1.cls ∈ zTb ∧ plainName md.1.cls = true ∧ md.1.cls ≠ "java/lang/invoke/MethodHandle" ∧ md.1.cls ≠ "java/lang/invoke/VarHandle" ∧
  (parseMethodDescriptor md.1.desc).map (fun d => d.parameters.length) = some md.2.2.2.2.1 ∧ md.2.2.1 ≤ 40 ∧
  (md.2.2.2.2.2 = 0 → Cond.instanceMethod md.1 ∈ zTb ∧ Cond.selects md.1.cls md.1 md.1 ∈ zTb) ∧
  (md.2.2.2.2.2 = 1 → Cond.static md.1 ∈ zTb) ∧
  (md.2.2.2.2.2 = 2 → Cond.instanceMethod md.1 ∈ zTb ∧ md.1.name = "<init>" ∧ md.2.2.2.1 = none)
def zro (h0 : Nat) (sp : Nat → Nat) (r : Value) : Option Value := match r with
  | .long _ => none
  | v => some (zav h0 sp v)
def zrm (d : Nat) (M M' : zM) : Room := { frames := d, cells := zn M' - zn M, slots := zsl M' - zsl M, locals := 60 * d }
def zPc (D : va_G) (cy : Nat → ClassId) (h0 : Nat) (sp : Nat → Nat) (X : zX) (args : List Value) (M : zM) : Array Value → State → Prop := fun v U =>
  v = (args.map (zav h0 sp)).toArray ∧ U.heap.size = h0 + zn M ∧ zP D cy h0 sp M U.heap ∧ zEnv D cy h0 sp X U
def zQc (D : va_G) (cy : Nat → ClassId) (h0 : Nat) (sp : Nat → Nat) (r : Value) (M' : zM) : Array Value → State → Outcome → State → Prop := fun _ st o t =>
  o = .returned (zro h0 sp r) ∧ t.heap.size = h0 + zn M' ∧ zP D cy h0 sp M' t.heap ∧ va_F (fun q => h0 ≤ q) st t
/-- what a method computes on the small machine, it does -/
def zSnd (d : Nat) (md : zMd) (F : zF) : Prop := zMok md ∧ ∀ (args : List Value) (M : zM) (r : Value) (M' : zM), F args M = some (r, M') →
  zn M ≤ zn M' ∧ zsl M ≤ zsl M' ∧
  ∀ (l : Launch) (D : va_G) (cy : Nat → ClassId) (h0 : Nat) (sp : Nat → Nat) (X : zX),
    Met l md.1 (.code md.1 md.2.1 md.2.2.1 md.2.2.2.1 :: zTb) (zrm d M M') (zPc D cy h0 sp X args M) (zQc D cy h0 sp r M') (zn M' - zn M) (zsl M' - zsl M) (fun q => h0 ≤ q)
theorem zEnv_calling {D : va_G} {cy : Nat → ClassId} {h0 : Nat} {sp : Nat → Nat} {X : zX} {U : State} (g : JFrame) (mk : MethodId) (a : Array Value) (h : zEnv D cy h0 sp X U) : zEnv D cy h0 sp X (U.calling g mk a) := by
  obtain ⟨h1, h2, h3, h4, h5, h6, h7, h8⟩ := h
  exact ⟨va_K.moved (u := U) (U := U.calling g mk a) (Vm.Alike.refl U.vm) h1, h2, va_X.moved (u := U) (U := U.calling g mk a) (Vm.Alike.refl U.vm) h3, h4, vk_S.moved (u := U) (U := U.calling g mk a) (Vm.Alike.refl U.vm) h5, vk_R.same (u := U) rfl h6, va_Z.moved (u := U) (U := U.calling g mk a) (Vm.Alike.refl U.vm) h7, zAO_moved (u := U) (U := U.calling g mk a) (Vm.Alike.refl U.vm) h8⟩
theorem zPc_blind {D : va_G} {cy : Nat → ClassId} {h0 : Nat} {sp : Nat → Nat} {X : zX} {args : List Value} {M : zM} : FrameBlind (zPc D cy h0 sp X args M) := fun a U g mk h => ⟨h.1, h.2.1, h.2.2.1, zEnv_calling g mk a h.2.2.2⟩
