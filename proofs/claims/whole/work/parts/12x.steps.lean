/-! ONE INSTRUCTION, AS AN EQUATION -/
def ztab {γ : Type} (x : Int32) (d lo hi : Int) (o : Array Int) (f : Int → Option γ) : Option γ := if x.toInt < lo ∨ hi < x.toInt then f d else (match o[(x.toInt - lo).toNat]? with
  | some t => f t
  | none => none)
section ZX
variable {X : zX} {C : List Instr} {E : Nat → zF} {pc : Nat} {L st r : List Value} {M : zM}
theorem zx_at {i : Instr} (h : C[pc]? = some i) : zres X C E (pc, L, st, M) = zexec X E i pc L st M (zres X C E) some := by
  rw [zres_step]
  show (match C[pc]? with
    | some i => zexec X E i pc L st M (zres X C E) some
    | none => none) = _
  rw [h]
theorem zx_iconst {v : Int} {x : Int32} (h : C[pc]? = some (.iconst v)) (hx : Int32.ofInt v = x) : zres X C E (pc, L, st, M) = zres X C E (pc + 1, L, .int x :: st, M) := by subst hx; exact zx_at h
theorem zx_null (h : C[pc]? = some .aconst_null) : zres X C E (pc, L, st, M) = zres X C E (pc + 1, L, .null :: st, M) := zx_at h
theorem zx_iload {j : Nat} {x : Int32} (h : C[pc]? = some (.iload j)) (hl : L[j]? = some (.int x)) : zres X C E (pc, L, st, M) = zres X C E (pc + 1, L, .int x :: st, M) := by
  rw [zx_at h]; simp only [zexec, hl]
theorem zx_aload {j a : Nat} (h : C[pc]? = some (.aload j)) (hl : L[j]? = some (.ref a)) : zres X C E (pc, L, st, M) = zres X C E (pc + 1, L, .ref a :: st, M) := by
  rw [zx_at h]; simp only [zexec, hl]
theorem zx_aloadN {j : Nat} (h : C[pc]? = some (.aload j)) (hl : L[j]? = some .null) : zres X C E (pc, L, st, M) = zres X C E (pc + 1, L, .null :: st, M) := by
  rw [zx_at h]; simp only [zexec, hl]
theorem zx_istore {j : Nat} {x : Int32} {L' : List Value} (h : C[pc]? = some (.istore j)) (hj : Nat.blt j L.length = true) (hL : L.set j (.int x) = L') : zres X C E (pc, L, .int x :: r, M) = zres X C E (pc + 1, L', r, M) := by
  subst hL
  rw [zx_at h]; simp only [zexec, z1, if_pos (Nat.blt_eq.mp hj)]
theorem zx_astore {j a : Nat} {L' : List Value} (h : C[pc]? = some (.astore j)) (hj : Nat.blt j L.length = true) (hL : L.set j (.ref a) = L') : zres X C E (pc, L, .ref a :: r, M) = zres X C E (pc + 1, L', r, M) := by
  subst hL
  rw [zx_at h]; simp only [zexec, if_pos (Nat.blt_eq.mp hj)]
theorem zx_astoreN {j : Nat} {L' : List Value} (h : C[pc]? = some (.astore j)) (hj : Nat.blt j L.length = true) (hL : L.set j .null = L') : zres X C E (pc, L, .null :: r, M) = zres X C E (pc + 1, L', r, M) := by
  subst hL
  rw [zx_at h]; simp only [zexec, if_pos (Nat.blt_eq.mp hj)]
theorem zx_iinc {j : Nat} {n : Int} {x v : Int32} {L' : List Value} (h : C[pc]? = some (.iinc j n)) (hl : L[j]? = some (.int x)) (hv : x + Int32.ofInt n = v) (hL : L.set j (.int v) = L') : zres X C E (pc, L, st, M) = zres X C E (pc + 1, L', st, M) := by
  subst hL; subst hv
  rw [zx_at h]; simp only [zexec, hl]
theorem zx_iadd {x y : Int32} (h : C[pc]? = some .iadd) : zres X C E (pc, L, .int y :: .int x :: r, M) = zres X C E (pc + 1, L, .int (x + y) :: r, M) := zx_at h
theorem zx_isub {x y : Int32} (h : C[pc]? = some .isub) : zres X C E (pc, L, .int y :: .int x :: r, M) = zres X C E (pc + 1, L, .int (x - y) :: r, M) := zx_at h
theorem zx_imul {x y : Int32} (h : C[pc]? = some .imul) : zres X C E (pc, L, .int y :: .int x :: r, M) = zres X C E (pc + 1, L, .int (x * y) :: r, M) := zx_at h
theorem zx_iand {x y : Int32} (h : C[pc]? = some .iand) : zres X C E (pc, L, .int y :: .int x :: r, M) = zres X C E (pc + 1, L, .int (x &&& y) :: r, M) := zx_at h
theorem zx_ior {x y : Int32} (h : C[pc]? = some .ior) : zres X C E (pc, L, .int y :: .int x :: r, M) = zres X C E (pc + 1, L, .int (x ||| y) :: r, M) := zx_at h
theorem zx_ixor {x y : Int32} (h : C[pc]? = some .ixor) : zres X C E (pc, L, .int y :: .int x :: r, M) = zres X C E (pc + 1, L, .int (x ^^^ y) :: r, M) := zx_at h
theorem zx_ishl {x y : Int32} (h : C[pc]? = some .ishl) : zres X C E (pc, L, .int y :: .int x :: r, M) = zres X C E (pc + 1, L, .int (x <<< (y &&& 31)) :: r, M) := zx_at h
theorem zx_ishr {x y : Int32} (h : C[pc]? = some .ishr) : zres X C E (pc, L, .int y :: .int x :: r, M) = zres X C E (pc + 1, L, .int (x >>> (y &&& 31)) :: r, M) := zx_at h
theorem zx_iushr {x y : Int32} (h : C[pc]? = some .iushr) : zres X C E (pc, L, .int y :: .int x :: r, M) = zres X C E (pc + 1, L, .int ((x.toUInt32 >>> (y.toUInt32 &&& Int32.toUInt32 31)).toInt32) :: r, M) := zx_at h
theorem zx_fadd {x y : Int32} (h : C[pc]? = some .fadd) (hs : (r.map fun v => v.category).sum ≤ 8) : zres X C E (pc, L, .int y :: .int x :: r, M) = zres X C E (pc + 1, L, .int (if x < y then y else x) :: r, M) := by
  rw [zx_at h]; simp only [zexec, z2, if_pos hs]
theorem zx_fsub {x y : Int32} (h : C[pc]? = some .fsub) (hs : (r.map fun v => v.category).sum ≤ 8) : zres X C E (pc, L, .int y :: .int x :: r, M) = zres X C E (pc + 1, L, .int (if y < x then y else x) :: r, M) := by
  rw [zx_at h]; simp only [zexec, z2, if_pos hs]
theorem zx_idiv {x y : Int32} (h : C[pc]? = some .idiv) : zres X C E (pc, L, .int y :: .int x :: r, M) = if y = 0 then none else zres X C E (pc + 1, L, .int (x / y) :: r, M) := zx_at h
theorem zx_irem {x y : Int32} (h : C[pc]? = some .irem) : zres X C E (pc, L, .int y :: .int x :: r, M) = if y = 0 then none else zres X C E (pc + 1, L, .int (x - x / y * y) :: r, M) := zx_at h
theorem zx_idivK {x y : Int32} (h : C[pc]? = some .idiv) (hy : ¬ y = 0) : zres X C E (pc, L, .int y :: .int x :: r, M) = zres X C E (pc + 1, L, .int (x / y) :: r, M) := (zx_idiv h).trans (if_neg hy)
theorem zx_iremK {x y : Int32} (h : C[pc]? = some .irem) (hy : ¬ y = 0) : zres X C E (pc, L, .int y :: .int x :: r, M) = zres X C E (pc + 1, L, .int (x - x / y * y) :: r, M) := (zx_irem h).trans (if_neg hy)
theorem zx_ineg {x : Int32} (h : C[pc]? = some .ineg) : zres X C E (pc, L, .int x :: r, M) = zres X C E (pc + 1, L, .int (-x) :: r, M) := zx_at h
theorem zx_i2b {x : Int32} (h : C[pc]? = some .i2b) : zres X C E (pc, L, .int x :: r, M) = zres X C E (pc + 1, L, .int x.toInt8.toInt32 :: r, M) := zx_at h
theorem zx_i2c {x : Int32} (h : C[pc]? = some .i2c) : zres X C E (pc, L, .int x :: r, M) = zres X C E (pc + 1, L, .int ((x.toUInt32 % 65536).toInt32) :: r, M) := zx_at h
theorem zx_dup {v : Value} (h : C[pc]? = some .dup) (hv : v.category = 1) : zres X C E (pc, L, v :: r, M) = zres X C E (pc + 1, L, v :: v :: r, M) := by
  rw [zx_at h]; simp only [zexec, if_pos hv]
theorem zx_dup2 {v w : Value} (h : C[pc]? = some .dup2) (hv : v.category = 1) (hw : w.category = 1) : zres X C E (pc, L, v :: w :: r, M) = zres X C E (pc + 1, L, v :: w :: v :: w :: r, M) := by
  rw [zx_at h]; simp only [zexec, if_pos hv, if_pos hw]
theorem zx_pop {a : Nat} (h : C[pc]? = some .pop) (hs : (r.map fun v => v.category).sum ≤ 8) : zres X C E (pc, L, .ref a :: r, M) = zres X C E (pc + 1, L, r, M) := by
  rw [zx_at h]; simp only [zexec, zr1, if_pos hs]
theorem zx_goto {t : Int} (h : C[pc]? = some (.goto t)) : zres X C E (pc, L, st, M) = zres X C E (t.toNat, L, st, M) := zx_at h
theorem zx_if_eq {t : Int} {x : Int32} (h : C[pc]? = some (.ifCond .eq t)) : zres X C E (pc, L, .int x :: r, M) = if x = 0 then zres X C E (t.toNat, L, r, M) else zres X C E (pc + 1, L, r, M) := zx_at h
theorem zx_if_ne {t : Int} {x : Int32} (h : C[pc]? = some (.ifCond .ne t)) : zres X C E (pc, L, .int x :: r, M) = if ¬ x = 0 then zres X C E (t.toNat, L, r, M) else zres X C E (pc + 1, L, r, M) := zx_at h
theorem zx_if_lt {t : Int} {x : Int32} (h : C[pc]? = some (.ifCond .lt t)) : zres X C E (pc, L, .int x :: r, M) = if x < 0 then zres X C E (t.toNat, L, r, M) else zres X C E (pc + 1, L, r, M) := zx_at h
theorem zx_if_ge {t : Int} {x : Int32} (h : C[pc]? = some (.ifCond .ge t)) : zres X C E (pc, L, .int x :: r, M) = if 0 ≤ x then zres X C E (t.toNat, L, r, M) else zres X C E (pc + 1, L, r, M) := zx_at h
theorem zx_if_gt {t : Int} {x : Int32} (h : C[pc]? = some (.ifCond .gt t)) : zres X C E (pc, L, .int x :: r, M) = if 0 < x then zres X C E (t.toNat, L, r, M) else zres X C E (pc + 1, L, r, M) := zx_at h
theorem zx_if_le {t : Int} {x : Int32} (h : C[pc]? = some (.ifCond .le t)) : zres X C E (pc, L, .int x :: r, M) = if x ≤ 0 then zres X C E (t.toNat, L, r, M) else zres X C E (pc + 1, L, r, M) := zx_at h
theorem zx_icmp_eq {t : Int} {x y : Int32} (h : C[pc]? = some (.if_icmp .eq t)) : zres X C E (pc, L, .int y :: .int x :: r, M) = if x = y then zres X C E (t.toNat, L, r, M) else zres X C E (pc + 1, L, r, M) := zx_at h
theorem zx_icmp_ne {t : Int} {x y : Int32} (h : C[pc]? = some (.if_icmp .ne t)) : zres X C E (pc, L, .int y :: .int x :: r, M) = if ¬ x = y then zres X C E (t.toNat, L, r, M) else zres X C E (pc + 1, L, r, M) := zx_at h
theorem zx_icmp_lt {t : Int} {x y : Int32} (h : C[pc]? = some (.if_icmp .lt t)) : zres X C E (pc, L, .int y :: .int x :: r, M) = if x < y then zres X C E (t.toNat, L, r, M) else zres X C E (pc + 1, L, r, M) := zx_at h
theorem zx_icmp_ge {t : Int} {x y : Int32} (h : C[pc]? = some (.if_icmp .ge t)) : zres X C E (pc, L, .int y :: .int x :: r, M) = if y ≤ x then zres X C E (t.toNat, L, r, M) else zres X C E (pc + 1, L, r, M) := zx_at h
theorem zx_icmp_gt {t : Int} {x y : Int32} (h : C[pc]? = some (.if_icmp .gt t)) : zres X C E (pc, L, .int y :: .int x :: r, M) = if y < x then zres X C E (t.toNat, L, r, M) else zres X C E (pc + 1, L, r, M) := zx_at h
theorem zx_icmp_le {t : Int} {x y : Int32} (h : C[pc]? = some (.if_icmp .le t)) : zres X C E (pc, L, .int y :: .int x :: r, M) = if x ≤ y then zres X C E (t.toNat, L, r, M) else zres X C E (pc + 1, L, r, M) := zx_at h
theorem zx_if2 {α : Type} {c : Prop} [Decidable c] {a a' b b' : α} (h1 : a = a') (h2 : b = b') : (if c then a else b) = if c then a' else b' := by rw [h1, h2]
theorem zx_if1 {α : Type} {c : Prop} [Decidable c] {a a' b : α} (h1 : a = a') : (if c then a else b) = if c then a' else b := by rw [h1]
theorem zx_ife {α : Type} {c : Prop} [Decidable c] {a b b' : α} (h1 : b = b') : (if c then a else b) = if c then a else b' := by rw [h1]
theorem zx_ifnull {t : Int} {a : Nat} (h : C[pc]? = some (.ifnull t)) : zres X C E (pc, L, .ref a :: r, M) = zres X C E (pc + 1, L, r, M) := zx_at h
theorem zx_ifnullN {t : Int} (h : C[pc]? = some (.ifnull t)) : zres X C E (pc, L, .null :: r, M) = zres X C E (t.toNat, L, r, M) := zx_at h
theorem zx_ifnonnull {t : Int} {a : Nat} (h : C[pc]? = some (.ifnonnull t)) : zres X C E (pc, L, .ref a :: r, M) = zres X C E (t.toNat, L, r, M) := zx_at h
theorem zx_ifnonnullN {t : Int} (h : C[pc]? = some (.ifnonnull t)) : zres X C E (pc, L, .null :: r, M) = zres X C E (pc + 1, L, r, M) := zx_at h
theorem zx_table {d lo hi : Int} {o : Array Int} {x : Int32} (h : C[pc]? = some (.tableswitch d lo hi o)) : zres X C E (pc, L, .int x :: r, M) = ztab x d lo hi o (fun t => zres X C E (t.toNat, L, r, M)) := zx_at h
theorem zx_lookup {d : Int} {ps : Array (Int × Int)} {x : Int32} (h : C[pc]? = some (.lookupswitch d ps)) : zres X C E (pc, L, .int x :: r, M) = zres X C E ((Op.lookupswitch.offset ps.toList d x.toInt).toNat, L, r, M) := zx_at h
theorem zx_get {q a : Nat} {v : Int32} (h : C[pc]? = some (.getfield q)) (hz : za M a (q / 100) = true) (hv : zI M a (q % 100) = v) : zres X C E (pc, L, .ref a :: r, M) = zres X C E (pc + 1, L, .int v :: r, M) := by
  subst hv; rw [zx_at h]; simp only [zexec, zr1, hz, if_true]
theorem zx_getS {q a : Nat} (h : C[pc]? = some (.getfield q)) : zres X C E (pc, L, .ref a :: r, M) = if za M a (q / 100) then zres X C E (pc + 1, L, .int (zI M a (q % 100)) :: r, M) else none := zx_at h
theorem zx_getR {q a b : Nat} (h : C[pc]? = some (.getstatic q)) (hz : za M a (q / 100) = true) (hv : zR M a (q % 100) = some b) : zres X C E (pc, L, .ref a :: r, M) = zres X C E (pc + 1, L, .ref b :: r, M) := by
  rw [zx_at h]; simp only [zexec, zr1, hz, if_true, hv]; rfl
theorem zx_put {q a : Nat} {x : Int32} {M' : zM} (h : C[pc]? = some (.putfield q)) (hz : za M a (q / 100) = true) (hM : zput M a (q % 100) x = M') : zres X C E (pc, L, .int x :: .ref a :: r, M) = zres X C E (pc + 1, L, r, M') := by
  subst hM; rw [zx_at h]; simp only [zexec, hz, if_true]
theorem zx_putZ {q a : Nat} {x : Int32} {M' : zM} (h : C[pc]? = some (.checkcast q)) (hz : za M a (q / 100) = true) (hM : zput M a (q % 100) x = M') : zres X C E (pc, L, .int x :: .ref a :: r, M) = if x = 0 ∨ x = 1 then zres X C E (pc + 1, L, r, M') else none := by
  subst hM; rw [zx_at h]; simp only [zexec, hz, if_true]
theorem zx_putZK {q a : Nat} {x : Int32} {M' : zM} (h : C[pc]? = some (.checkcast q)) (hz : za M a (q / 100) = true) (hx : x = 0 ∨ x = 1) (hM : zput M a (q % 100) x = M') : zres X C E (pc, L, .int x :: .ref a :: r, M) = zres X C E (pc + 1, L, r, M') := (zx_putZ h hz hM).trans (if_pos hx)
theorem zx_putR {q a b : Nat} (h : C[pc]? = some (.putstatic q)) (hz : za M a (q / 100) = true) : zres X C E (pc, L, .ref b :: .ref a :: r, M) = zres X C E (pc + 1, L, r, zputR M a (q % 100) (some b)) := by
  rw [zx_at h]; simp only [zexec, hz, if_true]
theorem zx_ald {a : Nat} {i v : Int32} (n : Nat) (h : C[pc]? = some .iaload) (ha : Nat.beq a 1000000 = false) (hz : za M a 100 = true) (hl : zl M a = n) (hv : zI M a i.toNatClampNeg = v) : zres X C E (pc, L, .int i :: .ref a :: r, M) = if zb i n then zres X C E (pc + 1, L, .int v :: r, M) else none := by
  subst hl; subst hv; rw [zx_at h]; simp only [zexec, zir, if_neg (Nat.ne_of_beq_eq_false ha), hz, if_true]
theorem zx_aldK {a : Nat} {i v : Int32} (n : Nat) (h : C[pc]? = some .iaload) (ha : Nat.beq a 1000000 = false) (hz : za M a 100 = true) (hl : zl M a = n) (hi : zb i n = true) (hv : zI M a i.toNatClampNeg = v) : zres X C E (pc, L, .int i :: .ref a :: r, M) = zres X C E (pc + 1, L, .int v :: r, M) := (zx_ald n h ha hz hl hv).trans (if_pos hi)
theorem zx_aldF {a : Nat} {i : Int32} (n : Nat) (h : C[pc]? = some .iaload) (ha : Nat.beq a 1000000 = false) (hz : za M a 100 = true) (hl : zl M a = n) (hi : zb i n = false) : zres X C E (pc, L, .int i :: .ref a :: r, M) = none := (zx_ald n h ha hz hl rfl).trans (if_neg (by rw [hi]; decide))
theorem zx_aldS {a : Nat} {i : Int32} (h : C[pc]? = some .iaload) : zres X C E (pc, L, .int i :: .ref a :: r, M) = if a = 1000000 then (if zb i (X.1 - 1) then zres X C E (pc + 1, L, .int (X.2 i.toNatClampNeg) :: r, M) else none) else
      if za M a 100 then (if zb i (zl M a) then zres X C E (pc + 1, L, .int (zI M a i.toNatClampNeg) :: r, M) else none) else none := zx_at h
theorem zx_ald0 {i : Int32} (h : C[pc]? = some .iaload) : zres X C E (pc, L, .int i :: .ref 1000000 :: r, M) = if zb i (X.1 - 1) then zres X C E (pc + 1, L, .int (X.2 i.toNatClampNeg) :: r, M) else none := zx_at h
theorem zx_bldS {i : Int32} (h : C[pc]? = some .baload) : zres X C E (pc, L, .int i :: .ref 1000002 :: r, M) = if zb i 9 then zres X C E (pc + 1, L, .int (zSB.getD i.toNatClampNeg 0) :: r, M) else none := zx_at h
theorem zx_zld {a : Nat} {i v : Int32} (n : Nat) (h : C[pc]? = some .baload) (ha : Nat.beq a 1000002 = false) (hz : za M a 101 = true) (hl : zl M a = n) (hv : zI M a i.toNatClampNeg = v) : zres X C E (pc, L, .int i :: .ref a :: r, M) = if zb i n then zres X C E (pc + 1, L, .int v :: r, M) else none := by
  subst hl; subst hv; rw [zx_at h]; simp only [zexec, zir, if_neg (Nat.ne_of_beq_eq_false ha), hz, if_true]
theorem zx_bld {a : Nat} {i v : Int32} (n : Nat) (h : C[pc]? = some .baload) (ha : Nat.beq a 1000002 = false) (h1 : za M a 101 = false) (hz : za M a 102 = true) (hl : zl M a = n) (hv : zI M a i.toNatClampNeg = v) : zres X C E (pc, L, .int i :: .ref a :: r, M) = if zb i n then zres X C E (pc + 1, L, .int v :: r, M) else none := by
  subst hl; subst hv; rw [zx_at h]; simp only [zexec, zir, if_neg (Nat.ne_of_beq_eq_false ha), h1, hz, if_true, Bool.false_eq_true, if_false]
theorem zx_aal {a : Nat} {i : Int32} {o : Option Nat} (n : Nat) (h : C[pc]? = some .aaload) (hz : za M a 103 = true) (hl : zl M a = n) (hv : zR M a i.toNatClampNeg = o) : zres X C E (pc, L, .int i :: .ref a :: r, M) = if zb i n then zres X C E (pc + 1, L, va_rf o :: r, M) else none := by
  subst hl; subst hv; rw [zx_at h]; simp only [zexec, zir, hz, if_true]
theorem zx_ast {a : Nat} {i x : Int32} {M' : zM} (n : Nat) (h : C[pc]? = some .iastore) (hz : za M a 100 = true) (hl : zl M a = n) (hM : zput M a i.toNatClampNeg x = M') : zres X C E (pc, L, .int x :: .int i :: .ref a :: r, M) = if zb i n then zres X C E (pc + 1, L, r, M') else none := by
  subst hl; subst hM; rw [zx_at h]; simp only [zexec, ziir, hz, if_true]
theorem zx_astK {a : Nat} {i x : Int32} {M' : zM} (n : Nat) (h : C[pc]? = some .iastore) (hz : za M a 100 = true) (hl : zl M a = n) (hi : zb i n = true) (hM : zput M a i.toNatClampNeg x = M') : zres X C E (pc, L, .int x :: .int i :: .ref a :: r, M) = zres X C E (pc + 1, L, r, M') := (zx_ast n h hz hl hM).trans (if_pos hi)
theorem zx_astS {a : Nat} {i x : Int32} {M' : zM} (h : C[pc]? = some .iastore) (hM : zput M a i.toNatClampNeg x = M') : zres X C E (pc, L, .int x :: .int i :: .ref a :: r, M) = if za M a 100 then (if zb i (zl M a) then zres X C E (pc + 1, L, r, M') else none) else none := by
  subst hM; exact zx_at h
theorem zx_zst {a : Nat} {i x : Int32} {M' : zM} (n : Nat) (h : C[pc]? = some .bastore) (hz : za M a 101 = true) (hl : zl M a = n) (hM : zput M a i.toNatClampNeg x = M') : zres X C E (pc, L, .int x :: .int i :: .ref a :: r, M) = if zb i n then (if x = 0 ∨ x = 1 then zres X C E (pc + 1, L, r, M') else none) else none := by
  subst hl; subst hM; rw [zx_at h]; simp only [zexec, ziir, hz, if_true]
theorem zx_zstK {a : Nat} {i x : Int32} {M' : zM} (n : Nat) (h : C[pc]? = some .bastore) (hz : za M a 101 = true) (hl : zl M a = n) (hx : x = 0 ∨ x = 1) (hM : zput M a i.toNatClampNeg x = M') : zres X C E (pc, L, .int x :: .int i :: .ref a :: r, M) = if zb i n then zres X C E (pc + 1, L, r, M') else none := (zx_zst n h hz hl hM).trans (zx_if1 (if_pos hx))
theorem zx_bst {a : Nat} {i x : Int32} {M' : zM} (n : Nat) (h : C[pc]? = some .bastore) (h1 : za M a 101 = false) (hz : za M a 102 = true) (hl : zl M a = n) (hM : zput M a i.toNatClampNeg x.toInt8.toInt32 = M') : zres X C E (pc, L, .int x :: .int i :: .ref a :: r, M) = if zb i n then zres X C E (pc + 1, L, r, M') else none := by
  subst hl; subst hM; rw [zx_at h]; simp only [zexec, ziir, h1, hz, if_true, Bool.false_eq_true, if_false]
theorem zx_aast {a v : Nat} {i : Int32} (n : Nat) (h : C[pc]? = some .aastore) (hz : za M a 103 = true) (hl : zl M a = n) : zres X C E (pc, L, .ref v :: .int i :: .ref a :: r, M) = if zb i n then (if za M v 100 then zres X C E (pc + 1, L, r, zputR M a i.toNatClampNeg (some v)) else none) else none := by
  subst hl; rw [zx_at h]; simp only [zexec, hz, if_true]
theorem zx_alen0 (h : C[pc]? = some .arraylength) : zres X C E (pc, L, .ref 1000000 :: r, M) = if 0 < X.1 then zres X C E (pc + 1, L, .int (Int32.ofNat (X.1 - 1)) :: r, M) else none := zx_at h
theorem zx_alen2 (h : C[pc]? = some .arraylength) : zres X C E (pc, L, .ref 1000002 :: r, M) = zres X C E (pc + 1, L, .int 9 :: r, M) := zx_at h
theorem zx_alen {a : Nat} {v : Int32} (h : C[pc]? = some .arraylength) (h0 : Nat.beq a 1000000 = false) (h2 : Nat.beq a 1000002 = false) (hz : za M a 100 = true) (hv : Int32.ofNat (zl M a) = v) : zres X C E (pc, L, .ref a :: r, M) = zres X C E (pc + 1, L, .int v :: r, M) := by
  subst hv; rw [zx_at h]; simp only [zexec, zr1, if_neg (Nat.ne_of_beq_eq_false h0), if_neg (Nat.ne_of_beq_eq_false h2), hz, if_true]
theorem zx_newI {x : Int32} {n : Nat} (h : C[pc]? = some (.newarray .int)) (hx : ¬ x < 0) (hn : x.toNatClampNeg = n) (hle : n ≤ 100000) : zres X C E (pc, L, .int x :: r, M) = if zn M < 1000000 then zres X C E (pc + 1, L, .ref (zn M) :: r, znew M 100 n) else none := by
  subst hn; rw [zx_at h]; simp only [zexec, z1, if_pos hx, if_pos hle, zat]
theorem zx_ldc0 (h : C[pc]? = some (.ldc 0)) : zres X C E (pc, L, st, M) = zres X C E (pc + 1, L, .ref 1000001 :: st, M) := zx_at h
theorem zx_ldc1 (h : C[pc]? = some (.ldc 1)) : zres X C E (pc, L, .ref 1000001 :: r, M) = zres X C E (pc + 1, L, .ref 1000002 :: r, M) := zx_at h
theorem zx_ldc2 (h : C[pc]? = some (.ldc 2)) : zres X C E (pc, L, .ref 1000001 :: r, M) = zres X C E (pc + 1, L, .int 0 :: r, M) := zx_at h
theorem zx_ldc3 (h : C[pc]? = some (.ldc 3)) : zres X C E (pc, L, st, M) = zres X C E (pc + 1, L, .int 1 :: st, M) := zx_at h
theorem zx_ireturn {x : Int32} (h : C[pc]? = some .ireturn) : zres X C E (pc, L, [.int x], M) = some (.int x, M) := zx_at h
theorem zx_lreturn {x : Int32} (h : C[pc]? = some .lreturn) : zres X C E (pc, L, [.int x], M) = if x = 0 ∨ x = 1 then some (.int x, M) else none := zx_at h
theorem zx_lreturnK {x : Int32} (h : C[pc]? = some .lreturn) (hx : x = 0 ∨ x = 1) : zres X C E (pc, L, [.int x], M) = some (.int x, M) := (zx_lreturn h).trans (if_pos hx)
theorem zx_areturn {a : Nat} (h : C[pc]? = some .areturn) : zres X C E (pc, L, [.ref a], M) = some (.ref a, M) := zx_at h
theorem zx_return (h : C[pc]? = some .return_) : zres X C E (pc, L, [], M) = some (.long 0, M) := zx_at h
theorem zx_nop (h : C[pc]? = some .nop) : zres X C E (pc, L, st, M) = none := zx_at h
theorem zx_sV {q : Nat} {as : List Value} {F : zF} (h : C[pc]? = some (.invokestatic q)) (hn : Nat.ble (q % 10) st.length = true) (ha : (st.take (q % 10)).reverse = as) (hr : st.drop (q % 10) = r) (hs : Nat.ble (r.map fun v => v.category).sum 8 = true) (hk : q / 10 % 10 = 0) (hF : E (q / 10000) = F) : zres X C E (pc, L, st, M) = zcV (F as M) fun M' => zres X C E (pc + 1, L, r, M') := by
  subst ha; subst hr; subst hF; rw [zx_at h]; simp only [zexec, zcall, if_pos (Nat.le_of_ble_eq_true hn), if_pos (Nat.le_of_ble_eq_true hs), hk]
theorem zx_sI {q : Nat} {as : List Value} {F : zF} (h : C[pc]? = some (.invokestatic q)) (hn : Nat.ble (q % 10) st.length = true) (ha : (st.take (q % 10)).reverse = as) (hr : st.drop (q % 10) = r) (hs : Nat.ble (r.map fun v => v.category).sum 8 = true) (hk : q / 10 % 10 = 1) (hF : E (q / 10000) = F) : zres X C E (pc, L, st, M) = zcI (F as M) fun v M' => zres X C E (pc + 1, L, .int v :: r, M') := by
  subst ha; subst hr; subst hF; rw [zx_at h]; simp only [zexec, zcall, if_pos (Nat.le_of_ble_eq_true hn), if_pos (Nat.le_of_ble_eq_true hs), hk]
theorem zx_vV {q a : Nat} {as : List Value} {F : zF} (h : C[pc]? = some (.invokevirtual q)) (ha : (st.take (q % 10)).reverse = as) (hr : st.drop (q % 10) = .ref a :: r) (hc : (if q / 100 % 100 = 99 then decide (a = 1000001) else za M a (q / 100 % 100)) = true) (hs : Nat.ble (r.map fun v => v.category).sum 8 = true) (hk : q / 10 % 10 = 0) (hF : E (q / 10000) = F) : zres X C E (pc, L, st, M) = zcV (F (.ref a :: as) M) fun M' => zres X C E (pc + 1, L, r, M') := by
  subst ha; subst hF; rw [zx_at h]; simp only [zexec, hr, zr1, hc, if_true, zcall, if_pos (Nat.le_of_ble_eq_true hs), hk]
theorem zx_vI {q a : Nat} {as : List Value} {F : zF} (h : C[pc]? = some (.invokevirtual q)) (ha : (st.take (q % 10)).reverse = as) (hr : st.drop (q % 10) = .ref a :: r) (hc : (if q / 100 % 100 = 99 then decide (a = 1000001) else za M a (q / 100 % 100)) = true) (hs : Nat.ble (r.map fun v => v.category).sum 8 = true) (hk : q / 10 % 10 = 1) (hF : E (q / 10000) = F) : zres X C E (pc, L, st, M) = zcI (F (.ref a :: as) M) fun v M' => zres X C E (pc + 1, L, .int v :: r, M') := by
  subst ha; subst hF; rw [zx_at h]; simp only [zexec, hr, zr1, hc, if_true, zcall, if_pos (Nat.le_of_ble_eq_true hs), hk]
theorem zx_vR {q a : Nat} {as : List Value} {F : zF} (h : C[pc]? = some (.invokevirtual q)) (ha : (st.take (q % 10)).reverse = as) (hr : st.drop (q % 10) = .ref a :: r) (hc : (if q / 100 % 100 = 99 then decide (a = 1000001) else za M a (q / 100 % 100)) = true) (hs : Nat.ble (r.map fun v => v.category).sum 8 = true) (hk : q / 10 % 10 = 2) (hF : E (q / 10000) = F) : zres X C E (pc, L, st, M) = zcR (F (.ref a :: as) M) fun b M' => zres X C E (pc + 1, L, .ref b :: r, M') := by
  subst ha; subst hF; rw [zx_at h]; simp only [zexec, hr, zr1, hc, if_true, zcall, if_pos (Nat.le_of_ble_eq_true hs), hk]
theorem zx_vS {q a : Nat} (h : C[pc]? = some (.invokevirtual q)) (hr : st.drop (q % 10) = .ref a :: r) (h9 : ¬ q / 100 % 100 = 99) : zres X C E (pc, L, st, M) = if za M a (q / 100 % 100) then zcall E (q / 10 % 10) (q / 10000) (.ref a :: (st.take (q % 10)).reverse) r M (fun r M' => zres X C E (pc + 1, L, r, M')) else none := by
  rw [zx_at h]; simp only [zexec, hr, zr1, if_neg h9]
theorem zx_vSV {q a : Nat} {as : List Value} {F : zF} (h : C[pc]? = some (.invokevirtual q)) (ha : (st.take (q % 10)).reverse = as) (hr : st.drop (q % 10) = .ref a :: r) (h9 : Nat.beq (q / 100 % 100) 99 = false) (hs : Nat.ble (r.map fun v => v.category).sum 8 = true) (hk : q / 10 % 10 = 0) (hF : E (q / 10000) = F) : zres X C E (pc, L, st, M) = if za M a (q / 100 % 100) then zcV (F (.ref a :: as) M) fun M' => zres X C E (pc + 1, L, r, M') else none := by
  subst ha; subst hF; rw [zx_vS h hr (Nat.ne_of_beq_eq_false h9)]; simp only [zcall, if_pos (Nat.le_of_ble_eq_true hs), hk]
theorem zx_vSI {q a : Nat} {as : List Value} {F : zF} (h : C[pc]? = some (.invokevirtual q)) (ha : (st.take (q % 10)).reverse = as) (hr : st.drop (q % 10) = .ref a :: r) (h9 : Nat.beq (q / 100 % 100) 99 = false) (hs : Nat.ble (r.map fun v => v.category).sum 8 = true) (hk : q / 10 % 10 = 1) (hF : E (q / 10000) = F) : zres X C E (pc, L, st, M) = if za M a (q / 100 % 100) then zcI (F (.ref a :: as) M) fun v M' => zres X C E (pc + 1, L, .int v :: r, M') else none := by
  subst ha; subst hF; rw [zx_vS h hr (Nat.ne_of_beq_eq_false h9)]; simp only [zcall, if_pos (Nat.le_of_ble_eq_true hs), hk]
end ZX
