/-! ROWS OVER THE NUMBERED CELLS -/
theorem zGood {ws : List Cond} (h : ∀ w ∈ ws, w ∈ zTb) : GoodIn zTb ws := fun w hw => ⟨h w hw, good_of_word (zTb_of (h w hw)).2⟩
theorem zad_lt {h0 : Nat} {sp : Nat → Nat} {a : Nat} (h : a < 1000000) : zad h0 sp a = h0 + a := if_pos h
theorem zP_lt {D : va_G} {cy : Nat → ClassId} {h0 : Nat} {sp : Nat → Nat} {M : zM} {H : Heap} (h : zP D cy h0 sp M H) {a : Nat} (ha : a < zn M) : a < 1000000 := Nat.lt_of_lt_of_le ha h.1
section ZR
variable {p : Program} {l : Launch} {e : Env} {R : Room} {s : State} {m : MethodId} {args : Array Value} {below : List Frame} {meth : Method} {c : Code} {H : Heap} {locs : List Loc} {cells slots : Nat} {Q : State → Prop}
variable {cc : ByteArray} {pc : Nat} {ls : Array Slot} {rest : List Value} {D : va_G} {cy : Nat → ClassId} {h0 : Nat} {sp : Nat → Nat} {X : zX} {M : zM} {own : String}
theorem zr_istore (hexec : p.tables.exec = Jvm.exec) (hb : c.code = cc) {i nL : Nat} {L : List Value} {x : Int32} (hdg : decode cc pc = .ok (.istore i, 2)) (h : zLoc h0 sp ls nL L) (hn : i < nL)
    (kk : ∀ ls' : Array Slot, zLoc h0 sp ls' nL (L.set i (.int x)) → W p l e R s m args below meth c H locs cells slots Q (F0 m (pc + 2) ls' rest)) : W p l e R s m args below meth c H locs cells slots Q (F0 m pc ls (.int x :: rest)) := by
  obtain ⟨ls', e', h'⟩ := zLoc_store (v := .int x) h hn rfl
  have e' : storeLocals ls i (.int x) = some ls' := e'
  intro T hT X
  obtain ⟨t, a, b⟩ := kk ls' h' T hT X
  refine ⟨t, ?_, b⟩
  jvm_step X.here [X.here.top, hexec, hb, hdg, e']
  exact a
theorem zr_istore_n (hexec : p.tables.exec = Jvm.exec) (hb : c.code = cc) {k : Fin 4} {i nL : Nat} {L : List Value} {x : Int32} (hdg : decode cc pc = .ok (.istore_n k, 1)) (hi : (k : Nat) = i) (h : zLoc h0 sp ls nL L) (hn : i < nL)
    (kk : ∀ ls' : Array Slot, zLoc h0 sp ls' nL (L.set i (.int x)) → W p l e R s m args below meth c H locs cells slots Q (F0 m (pc + 1) ls' rest)) : W p l e R s m args below meth c H locs cells slots Q (F0 m pc ls (.int x :: rest)) := by
  subst hi
  obtain ⟨ls', e', h'⟩ := zLoc_store (v := .int x) h hn rfl
  have e' : storeLocals ls k (.int x) = some ls' := e'
  intro T hT X
  obtain ⟨t, a, b⟩ := kk ls' h' T hT X
  refine ⟨t, ?_, b⟩
  jvm_step X.here [X.here.top, hexec, hb, hdg, e']
  exact a
theorem zr_astore (hexec : p.tables.exec = Jvm.exec) (hb : c.code = cc) {i nL : Nat} {L : List Value} {x : Nat} (hdg : decode cc pc = .ok (.astore i, 2)) (h : zLoc h0 sp ls nL L) (hn : i < nL)
    (kk : ∀ ls' : Array Slot, zLoc h0 sp ls' nL (L.set i (.ref x)) → W p l e R s m args below meth c H locs cells slots Q (F0 m (pc + 2) ls' rest)) : W p l e R s m args below meth c H locs cells slots Q (F0 m pc ls (.ref (zad h0 sp x) :: rest)) := by
  obtain ⟨ls', e', h'⟩ := zLoc_store (v := .ref x) h hn rfl
  have e' : storeLocals ls i (.ref (zad h0 sp x)) = some ls' := e'
  intro T hT X
  obtain ⟨t, a, b⟩ := kk ls' h' T hT X
  refine ⟨t, ?_, b⟩
  jvm_step X.here [X.here.top, hexec, hb, hdg, e', Value.isRef]
  exact a
theorem zr_astore_n (hexec : p.tables.exec = Jvm.exec) (hb : c.code = cc) {k : Fin 4} {i nL : Nat} {L : List Value} {x : Nat} (hdg : decode cc pc = .ok (.astore_n k, 1)) (hi : (k : Nat) = i) (h : zLoc h0 sp ls nL L) (hn : i < nL)
    (kk : ∀ ls' : Array Slot, zLoc h0 sp ls' nL (L.set i (.ref x)) → W p l e R s m args below meth c H locs cells slots Q (F0 m (pc + 1) ls' rest)) : W p l e R s m args below meth c H locs cells slots Q (F0 m pc ls (.ref (zad h0 sp x) :: rest)) := by
  subst hi
  obtain ⟨ls', e', h'⟩ := zLoc_store (v := .ref x) h hn rfl
  have e' : storeLocals ls k (.ref (zad h0 sp x)) = some ls' := e'
  intro T hT X
  obtain ⟨t, a, b⟩ := kk ls' h' T hT X
  refine ⟨t, ?_, b⟩
  jvm_step X.here [X.here.top, hexec, hb, hdg, e', Value.isRef]
  exact a
theorem zr_astoreN (hexec : p.tables.exec = Jvm.exec) (hb : c.code = cc) {i nL : Nat} {L : List Value} (hdg : decode cc pc = .ok (.astore i, 2)) (h : zLoc h0 sp ls nL L) (hn : i < nL)
    (kk : ∀ ls' : Array Slot, zLoc h0 sp ls' nL (L.set i .null) → W p l e R s m args below meth c H locs cells slots Q (F0 m (pc + 2) ls' rest)) : W p l e R s m args below meth c H locs cells slots Q (F0 m pc ls (.null :: rest)) := by
  obtain ⟨ls', e', h'⟩ := zLoc_store (v := .null) h hn rfl
  have e' : storeLocals ls i .null = some ls' := e'
  intro T hT X
  obtain ⟨t, a, b⟩ := kk ls' h' T hT X
  refine ⟨t, ?_, b⟩
  jvm_step X.here [X.here.top, hexec, hb, hdg, e', Value.isRef]
  exact a
theorem zr_astoreN_n (hexec : p.tables.exec = Jvm.exec) (hb : c.code = cc) {k : Fin 4} {i nL : Nat} {L : List Value} (hdg : decode cc pc = .ok (.astore_n k, 1)) (hi : (k : Nat) = i) (h : zLoc h0 sp ls nL L) (hn : i < nL)
    (kk : ∀ ls' : Array Slot, zLoc h0 sp ls' nL (L.set i .null) → W p l e R s m args below meth c H locs cells slots Q (F0 m (pc + 1) ls' rest)) : W p l e R s m args below meth c H locs cells slots Q (F0 m pc ls (.null :: rest)) := by
  subst hi
  obtain ⟨ls', e', h'⟩ := zLoc_store (v := .null) h hn rfl
  have e' : storeLocals ls k .null = some ls' := e'
  intro T hT X
  obtain ⟨t, a, b⟩ := kk ls' h' T hT X
  refine ⟨t, ?_, b⟩
  jvm_step X.here [X.here.top, hexec, hb, hdg, e', Value.isRef]
  exact a
theorem zr_aloadN (hexec : p.tables.exec = Jvm.exec) (hb : c.code = cc) {i : Nat} (hdg : decode cc pc = .ok (.aload i, 2)) (hl : ls[i]? = some (.val .null))
    (k : W p l e R s m args below meth c H locs cells slots Q (F0 m (pc + 2) ls (.null :: rest))) : W p l e R s m args below meth c H locs cells slots Q (F0 m pc ls (rest)) := by
  intro T hT X
  obtain ⟨t, a, b⟩ := k T hT X
  refine ⟨t, ?_, b⟩
  jvm_step X.here [X.here.top, hexec, hb, hdg, hl, Value.isRef]
  exact a
theorem zr_aloadN_n (hexec : p.tables.exec = Jvm.exec) (hb : c.code = cc) {k : Fin 4} {i : Nat} (hdg : decode cc pc = .ok (.aload_n k, 1)) (hi : (k : Nat) = i) (hl : ls[i]? = some (.val .null))
    (k : W p l e R s m args below meth c H locs cells slots Q (F0 m (pc + 1) ls (.null :: rest))) : W p l e R s m args below meth c H locs cells slots Q (F0 m pc ls (rest)) := by
  subst hi
  intro T hT X
  obtain ⟨t, a, b⟩ := k T hT X
  refine ⟨t, ?_, b⟩
  jvm_step X.here [X.here.top, hexec, hb, hdg, hl, Value.isRef]
  exact a
theorem zr_iinc (hexec : p.tables.exec = Jvm.exec) (hb : c.code = cc) {i nL : Nat} {n : Int} {L : List Value} {x : Int32} (hdg : decode cc pc = .ok (.iinc i n, 3)) (h : zLoc h0 sp ls nL L) (hx : L[i]? = some (.int x))
    (kk : ∀ ls' : Array Slot, zLoc h0 sp ls' nL (L.set i (.int (x + Int32.ofInt n))) → W p l e R s m args below meth c H locs cells slots Q (F0 m (pc + 3) ls' rest)) : W p l e R s m args below meth c H locs cells slots Q (F0 m pc ls rest) := by
  have hn : i < nL := by rw [← h.2.2.1]; exact (List.getElem?_eq_some_iff.mp hx).1
  have hg : ls[i]? = some (.val (.int x)) := h.2.2.2 i (.int x) hx rfl
  obtain ⟨ls', e', h'⟩ := zLoc_store (v := .int (x + Int32.ofInt n)) h hn rfl
  have e' : storeLocals ls i (.int (x + Int32.ofInt n)) = some ls' := e'
  intro T hT X
  obtain ⟨t, a, b⟩ := kk ls' h' T hT X
  refine ⟨t, ?_, b⟩
  jvm_step X.here [X.here.top, ↓top_set X.here.top, hexec, hb, hdg, hg, e']
  exact a
theorem zr_get (hexec : p.tables.exec = Jvm.exec) (hb : c.code = cc) (hts : ∀ w ∈ zTb, w.before args s = true) (hown : s.vm.findClass own = some m.cls) (hK : va_K D vwCl [(cy 100, .int), (cy 101, .boolean), (cy 102, .byte), (cy 103, .array .int)] s) {a ci j w2 N : Nat} {C : String} {T : u_T} (hq : vwCl[ci]? = some (C, T, N)) (hj : j < N) (hC : (T j).1 = C) (hlk : Cond.fieldLink own w2 C (T j).2.1 (T j).2.2.1 ∈ zTb)
    (hP : zP D cy h0 sp M H) (ha : a < zn M) (hta : zt M a = ci) (hdg : decode cc pc = .ok (.getfield w2, 3))
    (kk : W p l e R s m args below meth c H locs cells slots Q (F0 m (pc + 3) ls (zfv h0 sp M a ci j :: rest))) : W p l e R s m args below meth c H locs cells slots Q (F0 m pc ls (.ref (zad h0 sp a) :: rest)) := by
  subst hta
  obtain ⟨cell, q1, q2, q3, q4⟩ := (hP.2.2 a ha).1 _ hq
  obtain ⟨hS, hfc, kC, hkC, hkind⟩ := hK.1 _ _ hq
  obtain ⟨cf, kf, fi, f, hi, hsl⟩ := hS j hj
  have hi2 : s.fieldFound? C (T j).2.1 (T j).2.2.1 = some (cf, kf, fi, f) := by rw [← hi]; show _ = s.fieldFound? (T j).1 _ _; rw [hC]
  rw [zad_lt (zP_lt hP ha)]
  refine W.getf hexec hb hown (hts _ hlk) hi2 (u_facts hfc hkC (u_lays hts (zcls_in _ _ hq) hj) hi).1 q1 (by rw [q3]; exact fun h => by cases h) (v := zfv h0 sp M a (zt M a) j) ?_ rfl rfl hdg kk
  rw [hsl]
  exact q4 j hj
theorem zr_put (hexec : p.tables.exec = Jvm.exec) (hb : c.code = cc) (hts : ∀ w ∈ zTb, w.before args s = true) (hown : s.vm.findClass own = some m.cls) (hK : va_K D vwCl [(cy 100, .int), (cy 101, .boolean), (cy 102, .byte), (cy 103, .array .int)] s) {a ci j w2 N : Nat} {C : String} {T : u_T} {v : Value} (hq : vwCl[ci]? = some (C, T, N)) (hj : j < N) (hC : (T j).1 = C) (hlk : Cond.fieldLink own w2 C (T j).2.1 (T j).2.2.1 ∈ zTb)
    (hfin : (T j).2.2.2 = false ∨ (meth.name = "<init>" ∧ C = own)) (hn : narrow (zty ci j) v = v) (hfit : fits (zty ci j) v = true)
    (hP : zP D cy h0 sp M H) (hSS : va_S (fun q => h0 ≤ q) s.heap H locs) (ha : a < zn M) (hta : zt M a = ci) (hdg : decode cc pc = .ok (.putfield w2, 3))
    (kk : ∀ (H1 : Heap) (locs1 : List Loc), (∀ V : Nat → Value, (∀ i, i < N → updV (zfv h0 sp M a ci) j v i = V i) → t_OB (h0 + a) (D.1 ci) N (D.2 ci) H1 V) → H1.size = H.size → (∀ q : Nat, q ≠ h0 + a → H1[q]? = H[q]?) → va_S (fun q => h0 ≤ q) s.heap H1 locs1 → W p l e R s m args below meth c H1 locs1 cells slots Q (F0 m (pc + 3) ls rest)) : W p l e R s m args below meth c H locs cells slots Q (F0 m pc ls (v :: .ref (zad h0 sp a) :: rest)) := by
  subst hta
  have hap := va_apart (own := own) hts (zcls_in _ _ hq) (zty (zt M a)) (zcls_ty _ _ hq) (zcls_nm _ _ hq) hK hq
  obtain ⟨cell, q1, q2, q3, q4⟩ := (hP.2.2 a ha).1 _ hq
  obtain ⟨hS, hfc, kC, hkC, hkind⟩ := hK.1 _ _ hq
  obtain ⟨cf, kf, fi, f, hi, hsl⟩ := hS j hj
  have hi2 : s.fieldFound? C (T j).2.1 (T j).2.2.1 = some (cf, kf, fi, f) := by rw [← hi]; show _ = s.fieldFound? (T j).1 _ _; rw [hC]
  have hst := (u_facts hfc hkC (u_lays hts (zcls_in _ _ hq) hj) hi).1
  have hd := zcls_ty _ _ hq j hj
  have hlay := hts _ (zcls_in _ _ hq _ (u_in_lay hj))
  have hh : h0 ≤ h0 + a := Nat.le_add_right _ _
  rw [zad_lt (zP_lt hP ha)]
  have fin : ∀ H' : Heap, H'[h0 + a]? = some (cell.setSlot f.slot v) → ∀ V : Nat → Value, (∀ i, i < N → updV (zfv h0 sp M a (zt M a)) j v i = V i) → t_OB (h0 + a) (D.1 (zt M a)) N (D.2 (zt M a)) H' V := by
    intro H' e1 V hV
    rw [hsl] at e1
    exact t_OB.to (V := updV (zfv h0 sp M a (zt M a)) j v) ⟨_, e1, q2, q3, t_set q4 hap hj v⟩ hV
  unfold u_lay at hlay
  by_cases hf : (T j).2.2.2 = true
  · rw [if_pos hf] at hlay
    obtain ⟨hin, hCo⟩ : meth.name = "<init>" ∧ C = own := by
      rcases hfin with h | h
      · rw [hf] at h; cases h
      · exact h
    have hcf : m.cls = cf := by
      obtain ⟨_, _, c', _, _, _, -, -, hf', -, -, -, hown2, -⟩ := Cond.laysFinal_spec hlay
      have e1 : c' = cf := by have := hi.symm.trans hf'; simp at this; exact this.1.symm
      have e2 : (T j).1 = own := hC.trans hCo
      rw [e2] at hown2
      rw [← e1]; exact Option.some.inj (hown.symm.trans hown2)
    have h6 := u_fits hfc hkC hkind (Or.inr hlay) hi hd hn hfit
    refine W.putFinK hexec hb hown (hts _ hlk) hi2 hst hcf hin (by rw [q2]; exact h6) q1 q3 (by rw [hsl]; exact k2_hasslot (q4 j hj)) rfl rfl hdg fun H' e1 e2 e3 => ?_
    exact kk H' _ (fin H' e1) e2 e3 (hSS.put e2 e3 hh)
  · rw [if_neg hf] at hlay
    have h6 := u_store hfc hkC hkind hlay hi hd hn hfit
    refine W.putK hexec hb (f := f) ⟨hown, hts _ hlk, ⟨_, _, _, hi2⟩, hst⟩ (by rw [q2]; exact h6) q1 q3 (by rw [hsl]; exact k2_hasslot (q4 j hj)) rfl rfl hdg fun H' e1 e2 e3 => ?_
    exact kk H' _ (fin H' e1) e2 e3 (hSS.put e2 e3 hh)
theorem zP_cell (hP : zP D cy h0 sp M H) {a t : Nat} (ha : a < zn M) (hta : zt M a = t) (h1 : 100 ≤ t) (h2 : t < 104) : H[h0 + a]? = some (arrV (cy t) (zl M a) (zrow h0 sp M a t)) := by
  subst hta
  exact (hP.2.2 a ha).2 h1 h2
theorem zr_call {mc ms : Nat} {st0 : List Value} {r : Value} {M' : zM} {a : Array Value} (hr : va_Run p l e R s m args below meth c H locs cells slots mc ms (F0 m pc ls st0) rest (zQc D cy h0 sp r M' a) (fun q => h0 ≤ q)) (hS : va_S (fun q => h0 ≤ q) s.heap H locs)
    (kk : ∀ (H1 : Heap) (locs1 : List Loc), zP D cy h0 sp M' H1 → H1.size = h0 + zn M' → va_S (fun q => h0 ≤ q) s.heap H1 locs1 → W p l e R s m args below meth c H1 locs1 (cells + mc) (slots + ms) Q (F0 m (pc + 3) ls ((zro h0 sp r).toList ++ rest))) : W p l e R s m args below meth c H locs cells slots Q (F0 m pc ls st0) := by
  intro T hT X
  obtain ⟨v, st₀, t, T', L, g0, X', hL, e1, e2, ⟨hv, hz, hP, hF⟩, st⟩ := hr T hT X
  cases hv
  obtain ⟨hF1, hF2⟩ := hF
  rw [g0] at hF1 hF2
  obtain ⟨t2, a1, b1⟩ := kk T'.heap (locs ++ L) (by rw [e1]; exact hP) (by rw [e1]; exact hz)
    ⟨Nat.le_trans hS.1 (by rw [e1]; exact hF1), fun q h1 h2 => by rw [e1, hF2 q (Nat.lt_of_lt_of_le h1 hS.1) h2]; exact hS.2.1 q h1 h2, fun q hq => by
      rcases List.mem_append.mp hq with h | h
      · exact hS.2.2 q h
      · exact hL q h⟩ T' rfl X'
  exact ⟨t2, st t2 a1, b1⟩
end ZR
