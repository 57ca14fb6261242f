/-! WHAT THE SMALL MACHINE COMPUTES, THE MACHINE DOES -/
/-- an instruction: its place in the bytes, its length, the machine's, the small machine's, two numbers for the check -/
abbrev zE : Type := Nat × Nat × Instr × Instr × Nat × Nat
def zpc (cd : List zE) (o : Nat) : Nat := match cd[o]? with
  | some e => e.1
  | none => match cd[o - 1]? with
    | some e => e.1 + e.2.1
    | none => 0
def zchain : List zE → Bool
  | e :: e' :: r => decide (e'.1 = e.1 + e.2.1) && zchain (e' :: r)
  | _ => true
theorem zpc_at {cd : List zE} {o : Nat} {e : zE} (h : cd[o]? = some e) : zpc cd o = e.1 := by simp [zpc, h]
theorem zchain_two : ∀ {cd : List zE}, zchain cd = true → ∀ {o : Nat} {e e' : zE}, cd[o]? = some e → cd[o + 1]? = some e' → e'.1 = e.1 + e.2.1
  | [], _, _, _, _, h, _ => by simp at h
  | [a], _, o, _, _, _, h2 => by simp at h2
  | a :: b :: r, hc, 0, e, e', h, h2 => by
    simp only [zchain, Bool.and_eq_true, decide_eq_true_eq] at hc
    simp at h h2
    subst h; subst h2
    exact hc.1
  | a :: b :: r, hc, o + 1, e, e', h, h2 => by
    simp only [zchain, Bool.and_eq_true, decide_eq_true_eq] at hc
    exact zchain_two hc.2 (o := o) (by simpa using h) (by simpa using h2)
theorem zpc_next {cd : List zE} (hc : zchain cd = true) {o : Nat} {e : zE} (h : cd[o]? = some e) : zpc cd (o + 1) = e.1 + e.2.1 := by
  cases h2 : cd[o + 1]? with
  | some e' => rw [zpc_at h2]; exact zchain_two hc h h2
  | none => simp [zpc, h2, h]
def zall2 {α β : Type} (p : α → β → Bool) : List α → List β → Bool
  | [], [] => true
  | a :: r, b :: s => p a b && zall2 p r s
  | _, _ => false
theorem zall2_at {α β : Type} {p : α → β → Bool} : ∀ {as : List α} {bs : List β}, zall2 p as bs = true → ∀ {i : Nat} {b : β}, bs[i]? = some b → ∃ a, as[i]? = some a ∧ p a b = true
  | [], [], _, _, _, h => by simp at h
  | [], _ :: _, h, _, _, _ => by simp [zall2] at h
  | _ :: _, [], h, _, _, _ => by simp [zall2] at h
  | a :: r, b :: s, h, 0, c, hi => by
    simp only [zall2, Bool.and_eq_true] at h
    simp at hi
    subst hi
    exact ⟨a, rfl, h.1⟩
  | a :: r, b :: s, h, i + 1, c, hi => by
    simp only [zall2, Bool.and_eq_true] at h
    obtain ⟨x, h1, h2⟩ := zall2_at h.2 (i := i) (by simpa using hi)
    exact ⟨x, by simpa using h1, h2⟩
theorem zlook {cd : List zE} {pc : Nat} {d d' : Int} (hd : (pc : Int) + d = (zpc cd d'.toNat : Int)) (k : Int) : ∀ {ps qs : List (Int × Int)}, zall2 (fun a b => decide (a.1 = b.1 ∧ (pc : Int) + a.2 = (zpc cd b.2.toNat : Int))) ps qs = true → (pc : Int) + Op.lookupswitch.offset ps d k = (zpc cd (Op.lookupswitch.offset qs d' k).toNat : Int)
  | [], [], _ => by rw [Op.lookupswitch.offset_nil, Op.lookupswitch.offset_nil]; exact hd
  | [], _ :: _, h => by simp [zall2] at h
  | _ :: _, [], h => by simp [zall2] at h
  | (a, o) :: r, (b, o') :: s, h => by
    simp only [zall2, Bool.and_eq_true, decide_eq_true_eq] at h
    obtain ⟨⟨h1, h2⟩, h3⟩ := h
    subst h1
    rw [Op.lookupswitch.offset_cons, Op.lookupswitch.offset_cons]
    by_cases hk : a = k
    · rw [if_pos hk, if_pos hk]; exact h2
    · rw [if_neg hk, if_neg hk]; exact zlook hd k h3
def z4 (re : Instr) (f : Fin 4 → Instr) (j : Nat) : Bool := decide (re = f 0 ∧ j = 0) || decide (re = f 1 ∧ j = 1) || decide (re = f 2 ∧ j = 2) || decide (re = f 3 ∧ j = 3)
theorem z4_ex {re : Instr} {f : Fin 4 → Instr} {j : Nat} (h : z4 re f j = true) : ∃ k : Fin 4, re = f k ∧ (k : Nat) = j := by
  simp only [z4, Bool.or_eq_true, decide_eq_true_eq] at h
  rcases h with ((⟨h, rfl⟩ | ⟨h, rfl⟩) | ⟨h, rfl⟩) | ⟨h, rfl⟩
  · exact ⟨0, h, rfl⟩
  · exact ⟨1, h, rfl⟩
  · exact ⟨2, h, rfl⟩
  · exact ⟨3, h, rfl⟩
/-- the instruction of the small machine fits the machine's -/
def zck (own : String) (ini : Bool) (cd : List zE) (ret : Option FieldType) (md : Nat → zMd) (gs : List Nat) (e : zE) : Bool :=
  match e.2.2.2.1 with
  | .iconst v => decide (e.2.2.1 = .iconst v ∧ e.2.1 = 1) || decide (e.2.2.1 = .bipush v ∧ e.2.1 = 2 ∧ (Int8.ofInt v).toInt32 = Int32.ofInt v) || decide (e.2.2.1 = .sipush v ∧ e.2.1 = 3 ∧ (Int16.ofInt v).toInt32 = Int32.ofInt v) || (decide (e.2.2.1 = .ldc e.2.2.2.2.2 ∧ e.2.1 = 2) && zw e.2.2.2.2.1 (.constant own e.2.2.2.2.2 (Int32.ofInt v))) || (decide (e.2.2.1 = .ldc_w e.2.2.2.2.2 ∧ e.2.1 = 3) && zw e.2.2.2.2.1 (.constant own e.2.2.2.2.2 (Int32.ofInt v)))
  | .iload j => decide (e.2.2.1 = .iload j ∧ e.2.1 = 2) || (z4 e.2.2.1 .iload_n j && decide (e.2.1 = 1))
  | .aload j => decide (e.2.2.1 = .aload j ∧ e.2.1 = 2) || (z4 e.2.2.1 .aload_n j && decide (e.2.1 = 1))
  | .istore j => decide (e.2.2.1 = .istore j ∧ e.2.1 = 2) || (z4 e.2.2.1 .istore_n j && decide (e.2.1 = 1))
  | .astore j => decide (e.2.2.1 = .astore j ∧ e.2.1 = 2) || (z4 e.2.2.1 .astore_n j && decide (e.2.1 = 1))
  | .iinc j n => decide (e.2.2.1 = .iinc j n ∧ e.2.1 = 3)
  | .aconst_null => decide (e.2.2.1 = .aconst_null ∧ e.2.1 = 1)
  | .iadd => decide (e.2.2.1 = .iadd ∧ e.2.1 = 1)
  | .isub => decide (e.2.2.1 = .isub ∧ e.2.1 = 1)
  | .imul => decide (e.2.2.1 = .imul ∧ e.2.1 = 1)
  | .iand => decide (e.2.2.1 = .iand ∧ e.2.1 = 1)
  | .ior => decide (e.2.2.1 = .ior ∧ e.2.1 = 1)
  | .ixor => decide (e.2.2.1 = .ixor ∧ e.2.1 = 1)
  | .ishl => decide (e.2.2.1 = .ishl ∧ e.2.1 = 1)
  | .ishr => decide (e.2.2.1 = .ishr ∧ e.2.1 = 1)
  | .idiv => decide (e.2.2.1 = .idiv ∧ e.2.1 = 1)
  | .irem => decide (e.2.2.1 = .irem ∧ e.2.1 = 1)
  | .iushr => decide (e.2.2.1 = .iushr ∧ e.2.1 = 1)
  | .ineg => decide (e.2.2.1 = .ineg ∧ e.2.1 = 1)
  | .i2b => decide (e.2.2.1 = .i2b ∧ e.2.1 = 1)
  | .i2c => decide (e.2.2.1 = .i2c ∧ e.2.1 = 1)
  | .dup => decide (e.2.2.1 = .dup ∧ e.2.1 = 1)
  | .dup2 => decide (e.2.2.1 = .dup2 ∧ e.2.1 = 1)
  | .iaload => decide (e.2.2.1 = .iaload ∧ e.2.1 = 1)
  | .baload => decide (e.2.2.1 = .baload ∧ e.2.1 = 1)
  | .aaload => decide (e.2.2.1 = .aaload ∧ e.2.1 = 1)
  | .iastore => decide (e.2.2.1 = .iastore ∧ e.2.1 = 1)
  | .bastore => decide (e.2.2.1 = .bastore ∧ e.2.1 = 1)
  | .aastore => decide (e.2.2.1 = .aastore ∧ e.2.1 = 1)
  | .arraylength => decide (e.2.2.1 = .arraylength ∧ e.2.1 = 1)
  | .pop => decide (e.2.2.1 = .invokespecial e.2.2.2.2.2 ∧ e.2.1 = 3) && zw e.2.2.2.2.1 (.methodLink own e.2.2.2.2.2 Lib.objectInit) && decide (Cond.instanceMethod Lib.objectInit ∈ zTb) && decide (Cond.code Lib.objectInit ⟨#[0xb1]⟩ 1 none ∈ zTb)
  | .goto t => match e.2.2.1 with
    | .goto off => decide (e.2.1 = 3 ∧ (e.1 : Int) + off = (zpc cd t.toNat : Int))
    | _ => false
  | .ifCond c t => match e.2.2.1 with
    | .ifCond c' off => decide (c' = c ∧ e.2.1 = 3 ∧ (e.1 : Int) + off = (zpc cd t.toNat : Int))
    | _ => false
  | .if_icmp c t => match e.2.2.1 with
    | .if_icmp c' off => decide (c' = c ∧ e.2.1 = 3 ∧ (e.1 : Int) + off = (zpc cd t.toNat : Int))
    | _ => false
  | .ifnull t => match e.2.2.1 with
    | .ifnull off => decide (e.2.1 = 3 ∧ (e.1 : Int) + off = (zpc cd t.toNat : Int))
    | _ => false
  | .ifnonnull t => match e.2.2.1 with
    | .ifnonnull off => decide (e.2.1 = 3 ∧ (e.1 : Int) + off = (zpc cd t.toNat : Int))
    | _ => false
  | .tableswitch d lo hi o => match e.2.2.1 with
    | .tableswitch d' lo' hi' o' => decide (lo' = lo ∧ hi' = hi ∧ (e.1 : Int) + d' = (zpc cd d.toNat : Int)) && zall2 (fun a b => decide ((e.1 : Int) + a = (zpc cd b.toNat : Int))) o'.toList o.toList
    | _ => false
  | .lookupswitch d ps => match e.2.2.1 with
    | .lookupswitch d' ps' => decide ((e.1 : Int) + d' = (zpc cd d.toNat : Int)) && (ps'.toList.zip (ps'.toList.drop 1)).all (fun (a, next) => a.1 < next.1) && zall2 (fun a b => decide (a.1 = b.1 ∧ (e.1 : Int) + a.2 = (zpc cd b.2.toNat : Int))) ps'.toList ps.toList
    | _ => false
  | .getfield q => match vwCl[q / 100]? with
    | some (C, T, N) => decide (e.2.2.1 = .getfield e.2.2.2.2.2 ∧ e.2.1 = 3 ∧ q % 100 < N ∧ zFr (q / 100) (q % 100) = false ∧ (T (q % 100)).1 = C) && zw e.2.2.2.2.1 (.fieldLink own e.2.2.2.2.2 C (T (q % 100)).2.1 (T (q % 100)).2.2.1)
    | none => false
  | .getstatic q => match vwCl[q / 100]? with
    | some (C, T, N) => decide (e.2.2.1 = .getfield e.2.2.2.2.2 ∧ e.2.1 = 3 ∧ q % 100 < N ∧ zFr (q / 100) (q % 100) = true ∧ (T (q % 100)).1 = C) && zw e.2.2.2.2.1 (.fieldLink own e.2.2.2.2.2 C (T (q % 100)).2.1 (T (q % 100)).2.2.1)
    | none => false
  | .putfield q => match vwCl[q / 100]? with
    | some (C, T, N) => decide (e.2.2.1 = .putfield e.2.2.2.2.2 ∧ e.2.1 = 3 ∧ q % 100 < N ∧ zty (q / 100) (q % 100) = .int ∧ (T (q % 100)).1 = C) && (decide ((T (q % 100)).2.2.2 = false) || (ini && decide (C = own))) && zw e.2.2.2.2.1 (.fieldLink own e.2.2.2.2.2 C (T (q % 100)).2.1 (T (q % 100)).2.2.1)
    | none => false
  | .checkcast q => match vwCl[q / 100]? with
    | some (C, T, N) => decide (e.2.2.1 = .putfield e.2.2.2.2.2 ∧ e.2.1 = 3 ∧ q % 100 < N ∧ zty (q / 100) (q % 100) = .boolean ∧ (T (q % 100)).1 = C) && (decide ((T (q % 100)).2.2.2 = false) || (ini && decide (C = own))) && zw e.2.2.2.2.1 (.fieldLink own e.2.2.2.2.2 C (T (q % 100)).2.1 (T (q % 100)).2.2.1)
    | none => false
  | .putstatic q => match vwCl[q / 100]? with
    | some (C, T, N) => decide (e.2.2.1 = .putfield e.2.2.2.2.2 ∧ e.2.1 = 3 ∧ q % 100 < N ∧ zFr (q / 100) (q % 100) = true ∧ (T (q % 100)).1 = C) && (decide ((T (q % 100)).2.2.2 = false) || (ini && decide (C = own))) && zw e.2.2.2.2.1 (.fieldLink own e.2.2.2.2.2 C (T (q % 100)).2.1 (T (q % 100)).2.2.1)
    | none => false
  | .newarray t => decide (e.2.2.1 = .newarray t ∧ e.2.1 = 2 ∧ (t = .int ∨ t = .boolean ∨ t = .byte)) && zw e.2.2.2.2.1 (.arrayClass (newarray.typeOf t))
  | .anewarray _ => decide (e.2.2.1 = .anewarray e.2.2.2.2.2 ∧ e.2.1 = 3) && zw e.2.2.2.2.1 (.classLink own e.2.2.2.2.2 "[I")
  | .new c => match vwCl[c]? with
    | some (C, _, N) => decide (e.2.2.1 = .new e.2.2.2.2.2 ∧ e.2.1 = 3) && zw e.2.2.2.2.1 (.classLink own e.2.2.2.2.2 C) && decide (Cond.instantiable C N ∈ zTb) && decide (Cond.initialized C ∈ zTb)
    | none => false
  | .invokestatic q => decide (e.2.2.1 = .invokestatic e.2.2.2.2.2 ∧ e.2.1 = 3 ∧ q / 10000 ∈ gs ∧ (md (q / 10000)).2.2.2.2.1 = q % 10 ∧ (md (q / 10000)).2.2.2.2.2 = 1) && zw e.2.2.2.2.1 (.methodLink own e.2.2.2.2.2 (md (q / 10000)).1)
  | .invokevirtual q => decide (e.2.2.1 = .invokevirtual e.2.2.2.2.2 ∧ e.2.1 = 3 ∧ q / 10000 ∈ gs ∧ (md (q / 10000)).2.2.2.2.1 = q % 10 ∧ (md (q / 10000)).2.2.2.2.2 = 0) && zw e.2.2.2.2.1 (.methodLink own e.2.2.2.2.2 (md (q / 10000)).1) && (if q / 100 % 100 = 99 then decide ((md (q / 10000)).1.cls = "java/lang/String") else decide ((vwCl[q / 100 % 100]?).map (fun c => c.1) = some (md (q / 10000)).1.cls))
  | .invokespecial q => decide (e.2.2.1 = .invokespecial e.2.2.2.2.2 ∧ e.2.1 = 3 ∧ q / 10000 ∈ gs ∧ (md (q / 10000)).2.2.2.2.1 = q % 10 ∧ (md (q / 10000)).2.2.2.2.2 = 2) && zw e.2.2.2.2.1 (.methodLink own e.2.2.2.2.2 (md (q / 10000)).1)
  | .ldc 0 => decide (e.2.2.1 = .ldc 118 ∧ e.2.1 = 2 ∧ own = RX5)
  | .ldc 1 => decide (e.2.2.1 = .getfield e.2.2.2.2.2 ∧ e.2.1 = 3) && zw e.2.2.2.2.1 (.fieldLink own e.2.2.2.2.2 "java/lang/String" "value" "[B")
  | .ldc 2 => decide (e.2.2.1 = .getfield e.2.2.2.2.2 ∧ e.2.1 = 3) && zw e.2.2.2.2.1 (.fieldLink own e.2.2.2.2.2 "java/lang/String" "coder" "B")
  | .ldc 3 => decide (e.2.2.1 = .getstatic e.2.2.2.2.2 ∧ e.2.1 = 3) && zw e.2.2.2.2.1 (.fieldLink own e.2.2.2.2.2 RJ0 "COMPACT_STRINGS" "Z")
  | .ireturn => decide (e.2.2.1 = .ireturn ∧ e.2.1 = 1 ∧ ret = some .int)
  | .lreturn => decide (e.2.2.1 = .ireturn ∧ e.2.1 = 1 ∧ (ret = some .boolean ∨ ret = some .byte))
  | .areturn => decide (e.2.2.1 = .areturn ∧ e.2.1 = 1) && (match ret with
    | some (.object _) => true
    | _ => false)
  | .return_ => decide (e.2.2.1 = .return_ ∧ e.2.1 = 1 ∧ ret = none)
  | .nop => true
  | .fadd => decide (e.2.2.1 = .invokestatic e.2.2.2.2.2 ∧ e.2.1 = 3) && zw e.2.2.2.2.1 (.methodLink own e.2.2.2.2.2 Lib.Math.max.name)
  | .fsub => decide (e.2.2.1 = .invokestatic e.2.2.2.2.2 ∧ e.2.1 = 3) && zw e.2.2.2.2.1 (.methodLink own e.2.2.2.2.2 Lib.Math.min.name)
  | _ => false
theorem z1_some {γ : Type} {st : List Value} {f : Int32 → List Value → Option γ} {y : γ} (h : z1 st f = some y) : ∃ x r, st = .int x :: r ∧ f x r = some y := by
  unfold z1 at h
  split at h
  · exact ⟨_, _, rfl, h⟩
  · cases h
theorem z2_some {γ : Type} {st : List Value} {f : Int32 → Int32 → List Value → Option γ} {y : γ} (h : z2 st f = some y) : ∃ a b r, st = .int b :: .int a :: r ∧ f a b r = some y := by
  unfold z2 at h
  split at h
  · exact ⟨_, _, _, rfl, h⟩
  · cases h
theorem zr1_some {γ : Type} {st : List Value} {f : Nat → List Value → Option γ} {y : γ} (h : zr1 st f = some y) : ∃ a r, st = .ref a :: r ∧ f a r = some y := by
  unfold zr1 at h
  split at h
  · exact ⟨_, _, rfl, h⟩
  · cases h
theorem zir_some {γ : Type} {st : List Value} {f : Nat → Int32 → List Value → Option γ} {y : γ} (h : zir st f = some y) : ∃ a i r, st = .int i :: .ref a :: r ∧ f a i r = some y := by
  unfold zir at h
  split at h
  · exact ⟨_, _, _, rfl, h⟩
  · cases h
theorem ziir_some {γ : Type} {st : List Value} {f : Nat → Int32 → Int32 → List Value → Option γ} {y : γ} (h : ziir st f = some y) : ∃ a i x r, st = .int x :: .int i :: .ref a :: r ∧ f a i x r = some y := by
  unfold ziir at h
  split at h
  · exact ⟨_, _, _, _, rfl, h⟩
  · cases h
theorem zif_some {γ : Type} {c : Prop} [Decidable c] {a : Option γ} {y : γ} (h : (if c then a else none) = some y) : c ∧ a = some y := by
  by_cases hc : c
  · rw [if_pos hc] at h; exact ⟨hc, h⟩
  · rw [if_neg hc] at h; cases h
theorem za_of {M : zM} {a t : Nat} (h : za M a t = true) : zt M a = t := of_decide_eq_true h
theorem zb_of {i : Int32} {n : Nat} (h : zb i n = true) : vp_in i n := by
  show ¬ (i < 0 ∨ n ≤ i.toNatClampNeg)
  exact of_decide_eq_true h
theorem zcall_some {γ : Type} {E : Nat → zF} {rk g : Nat} {as r : List Value} {M : zM} {f : List Value → zM → Option γ} {y : γ} (h : zcall E rk g as r M f = some y) : (r.map fun v => v.category).sum ≤ 8 ∧ ∃ v M', E g as M = some (v, M') ∧ f (zpush v r) M' = some y := by
  unfold zcall at h
  obtain ⟨h1, h2⟩ := zif_some h
  refine ⟨h1, ?_⟩
  split at h2
  · unfold zcV at h2
    split at h2
    · rename_i he; exact ⟨_, _, he, h2⟩
    · cases h2
  · unfold zcI at h2
    split at h2
    · rename_i he; exact ⟨_, _, he, h2⟩
    · cases h2
  · unfold zcR at h2
    split at h2
    · rename_i he; exact ⟨_, _, he, h2⟩
    · cases h2
theorem zro_push (h0 : Nat) (sp : Nat → Nat) (v : Value) (r : List Value) : (zro h0 sp v).toList ++ r.map (zav h0 sp) = (zpush v r).map (zav h0 sp) := by
  cases v <;> rfl
