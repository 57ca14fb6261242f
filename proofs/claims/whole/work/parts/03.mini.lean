/-! THE SMALL MACHINE: a pure interpreter of bytecode over a heap of numbered cells. A part behind this one shows that what it computes the machine does. -/
/-- how many cells, how many slots were made, kinds, lengths, references -/
abbrev zS : Type := Nat × Nat × (Nat → Nat) × (Nat → Nat) × (Nat → Nat → Option Nat)
/-- and the numbers -/
abbrev zM : Type := zS × (Nat → Nat → Int32)
/-- the script: its length and one more (0: there is none), its numbers -/
abbrev zX : Type := Nat × (Nat → Int32)
abbrev zCf : Type := Nat × List Value × List Value × zM
abbrev zF : Type := List Value → zM → Option (Value × zM)
def zn (M : zM) : Nat := M.1.1
def zsl (M : zM) : Nat := M.1.2.1
def zt (M : zM) (k : Nat) : Nat := M.1.2.2.1 k
def zl (M : zM) (k : Nat) : Nat := M.1.2.2.2.1 k
def zR (M : zM) (k j : Nat) : Option Nat := M.1.2.2.2.2 k j
def zI (M : zM) (k j : Nat) : Int32 := M.2 k j
def zwA (I : Nat → Nat → Int32) (k : Nat) (f : Nat → Int32) : Nat → Nat → Int32 := fun a => if a = k then f else I a
def zput (M : zM) (k j : Nat) (x : Int32) : zM := (M.1, zwA M.2 k (upd (M.2 k) j x))
def zputR (M : zM) (k j : Nat) (r : Option Nat) : zM := ((M.1.1, M.1.2.1, M.1.2.2.1, M.1.2.2.2.1, fun a => if a = k then va_up (M.1.2.2.2.2 k) j r else M.1.2.2.2.2 a), M.2)
def znew (M : zM) (t len : Nat) : zM := ((M.1.1 + 1, M.1.2.1 + len, va_up M.1.2.2.1 M.1.1 t, va_up M.1.2.2.2.1 M.1.1 len, fun a => if a = M.1.1 then (fun _ => none) else M.1.2.2.2.2 a), zwA M.2 M.1.1 (fun _ => 0))
def zb (i : Int32) (n : Nat) : Bool := decide (¬ (i < 0 ∨ n ≤ i.toNatClampNeg))
/-- a cell of a kind -/
def za (M : zM) (a t : Nat) : Bool := decide (zt M a = t)
def zpush (v : Value) (r : List Value) : List Value := match v with
  | .long _ => r
  | v => v :: r
/-- the letters that a law may have -/
def zSB : List Int32 := [117, 100, 107, 108, 119, 102, 103, 115, 104]
def zcN (c : Nat) : Nat := (vwCl.map (fun q => q.2.2)).getD c 0
def zat (t : ArrayType) : Nat := match t with
  | .int => 100
  | .boolean => 101
  | .byte => 102
  | _ => 199
def z1 {γ : Type} (st : List Value) (f : Int32 → List Value → Option γ) : Option γ := match st with
  | .int x :: r => f x r
  | _ => none
def z2 {γ : Type} (st : List Value) (f : Int32 → Int32 → List Value → Option γ) : Option γ := match st with
  | .int y :: .int x :: r => f x y r
  | _ => none
def zr1 {γ : Type} (st : List Value) (f : Nat → List Value → Option γ) : Option γ := match st with
  | .ref a :: r => f a r
  | _ => none
def zir {γ : Type} (st : List Value) (f : Nat → Int32 → List Value → Option γ) : Option γ := match st with
  | .int i :: .ref a :: r => f a i r
  | _ => none
def ziir {γ : Type} (st : List Value) (f : Nat → Int32 → Int32 → List Value → Option γ) : Option γ := match st with
  | .int x :: .int i :: .ref a :: r => f a i x r
  | _ => none
def zcI {γ : Type} (o : Option (Value × zM)) (f : Int32 → zM → Option γ) : Option γ := match o with
  | some (.int v, M') => f v M'
  | _ => none
def zcV {γ : Type} (o : Option (Value × zM)) (f : zM → Option γ) : Option γ := match o with
  | some (.long _, M') => f M'
  | _ => none
def zcR {γ : Type} (o : Option (Value × zM)) (f : Nat → zM → Option γ) : Option γ := match o with
  | some (.ref a, M') => f a M'
  | _ => none
/-- a call; rk: 0 answers nothing, 1 a number, else a reference -/
def zcall {γ : Type} (E : Nat → zF) (rk g : Nat) (args : List Value) (r : List Value) (M : zM) (f : List Value → zM → Option γ) : Option γ :=
  if (r.map fun v => v.category).sum ≤ 8 then (match rk with
    | 0 => zcV (E g args M) fun M' => f r M'
    | 1 => zcI (E g args M) fun v M' => f (.int v :: r) M'
    | _ => zcR (E g args M) fun a M' => f (.ref a :: r) M') else none
/-- one instruction; its operands are numbers of this machine: an instruction's place for a target, 100 class + field, 10000 method + 100 class + 10 kind of answer + count of arguments -/
def zexec (X : zX) (E : Nat → zF) {γ : Type} (i : Instr) (pc : Nat) (L st : List Value) (M : zM) (k : zCf → Option γ) (kr : Value × zM → Option γ) : Option γ :=
  match i with
  | .iconst v => k (pc + 1, L, .int (Int32.ofInt v) :: st, M)
  | .aconst_null => k (pc + 1, L, .null :: st, M)
  | .iload j => match L[j]? with
    | some (.int x) => k (pc + 1, L, .int x :: st, M)
    | _ => none
  | .aload j => match L[j]? with
    | some (.ref a) => k (pc + 1, L, .ref a :: st, M)
    | some .null => k (pc + 1, L, .null :: st, M)
    | _ => none
  | .istore j => z1 st fun x r => if j < L.length then k (pc + 1, L.set j (.int x), r, M) else none
  | .astore j => match st with
    | .ref a :: r => if j < L.length then k (pc + 1, L.set j (.ref a), r, M) else none
    | .null :: r => if j < L.length then k (pc + 1, L.set j .null, r, M) else none
    | _ => none
  | .iinc j n => match L[j]? with
    | some (.int x) => k (pc + 1, L.set j (.int (x + Int32.ofInt n)), st, M)
    | _ => none
  | .iadd => z2 st fun x y r => k (pc + 1, L, .int (x + y) :: r, M)
  | .isub => z2 st fun x y r => k (pc + 1, L, .int (x - y) :: r, M)
  | .imul => z2 st fun x y r => k (pc + 1, L, .int (x * y) :: r, M)
  | .idiv => z2 st fun x y r => if y = 0 then none else k (pc + 1, L, .int (x / y) :: r, M)
  | .irem => z2 st fun x y r => if y = 0 then none else k (pc + 1, L, .int (x - x / y * y) :: r, M)
  | .iand => z2 st fun x y r => k (pc + 1, L, .int (x &&& y) :: r, M)
  | .ior => z2 st fun x y r => k (pc + 1, L, .int (x ||| y) :: r, M)
  | .ixor => z2 st fun x y r => k (pc + 1, L, .int (x ^^^ y) :: r, M)
  | .ishl => z2 st fun x y r => k (pc + 1, L, .int (x <<< (y &&& 31)) :: r, M)
  | .ishr => z2 st fun x y r => k (pc + 1, L, .int (x >>> (y &&& 31)) :: r, M)
  | .iushr => z2 st fun x y r => k (pc + 1, L, .int ((x.toUInt32 >>> (y.toUInt32 &&& Int32.toUInt32 31)).toInt32) :: r, M)
  | .fadd => z2 st fun x y r => if (r.map fun v => v.category).sum ≤ 8 then k (pc + 1, L, .int (if x < y then y else x) :: r, M) else none
  | .fsub => z2 st fun x y r => if (r.map fun v => v.category).sum ≤ 8 then k (pc + 1, L, .int (if y < x then y else x) :: r, M) else none
  | .ineg => z1 st fun x r => k (pc + 1, L, .int (-x) :: r, M)
  | .i2b => z1 st fun x r => k (pc + 1, L, .int x.toInt8.toInt32 :: r, M)
  | .i2c => z1 st fun x r => k (pc + 1, L, .int ((x.toUInt32 % 65536).toInt32) :: r, M)
  | .dup => match st with
    | v :: r => if v.category = 1 then k (pc + 1, L, v :: v :: r, M) else none
    | _ => none
  | .dup2 => match st with
    | v :: w :: r => if v.category = 1 then (if w.category = 1 then k (pc + 1, L, v :: w :: v :: w :: r, M) else none) else none
    | _ => none
  | .pop => zr1 st fun _ r => if (r.map fun v => v.category).sum ≤ 8 then k (pc + 1, L, r, M) else none
  | .goto t => k (t.toNat, L, st, M)
  | .ifCond .eq t => z1 st fun x r => if x = 0 then k (t.toNat, L, r, M) else k (pc + 1, L, r, M)
  | .ifCond .ne t => z1 st fun x r => if ¬ x = 0 then k (t.toNat, L, r, M) else k (pc + 1, L, r, M)
  | .ifCond .lt t => z1 st fun x r => if x < 0 then k (t.toNat, L, r, M) else k (pc + 1, L, r, M)
  | .ifCond .ge t => z1 st fun x r => if 0 ≤ x then k (t.toNat, L, r, M) else k (pc + 1, L, r, M)
  | .ifCond .gt t => z1 st fun x r => if 0 < x then k (t.toNat, L, r, M) else k (pc + 1, L, r, M)
  | .ifCond .le t => z1 st fun x r => if x ≤ 0 then k (t.toNat, L, r, M) else k (pc + 1, L, r, M)
  | .if_icmp .eq t => z2 st fun x y r => if x = y then k (t.toNat, L, r, M) else k (pc + 1, L, r, M)
  | .if_icmp .ne t => z2 st fun x y r => if ¬ x = y then k (t.toNat, L, r, M) else k (pc + 1, L, r, M)
  | .if_icmp .lt t => z2 st fun x y r => if x < y then k (t.toNat, L, r, M) else k (pc + 1, L, r, M)
  | .if_icmp .ge t => z2 st fun x y r => if y ≤ x then k (t.toNat, L, r, M) else k (pc + 1, L, r, M)
  | .if_icmp .gt t => z2 st fun x y r => if y < x then k (t.toNat, L, r, M) else k (pc + 1, L, r, M)
  | .if_icmp .le t => z2 st fun x y r => if x ≤ y then k (t.toNat, L, r, M) else k (pc + 1, L, r, M)
  | .ifnull t => match st with
    | .ref _ :: r => k (pc + 1, L, r, M)
    | .null :: r => k (t.toNat, L, r, M)
    | _ => none
  | .ifnonnull t => match st with
    | .ref _ :: r => k (t.toNat, L, r, M)
    | .null :: r => k (pc + 1, L, r, M)
    | _ => none
  | .tableswitch d lo hi o => z1 st fun x r => if x.toInt < lo ∨ hi < x.toInt then k (d.toNat, L, r, M) else (match o[(x.toInt - lo).toNat]? with
    | some t => k (t.toNat, L, r, M)
    | none => none)
  | .lookupswitch d ps => z1 st fun x r => k ((Op.lookupswitch.offset ps.toList d x.toInt).toNat, L, r, M)
  | .getfield q => zr1 st fun a r => if za M a (q / 100) then k (pc + 1, L, .int (zI M a (q % 100)) :: r, M) else none
  | .getstatic q => zr1 st fun a r => if za M a (q / 100) then k (pc + 1, L, va_rf (zR M a (q % 100)) :: r, M) else none
  | .putfield q => match st with
    | .int x :: .ref a :: r => if za M a (q / 100) then k (pc + 1, L, r, zput M a (q % 100) x) else none
    | _ => none
  | .checkcast q => match st with
    | .int x :: .ref a :: r => if za M a (q / 100) then (if x = 0 ∨ x = 1 then k (pc + 1, L, r, zput M a (q % 100) x) else none) else none
    | _ => none
  | .putstatic q => match st with
    | .ref b :: .ref a :: r => if za M a (q / 100) then k (pc + 1, L, r, zputR M a (q % 100) (some b)) else none
    | _ => none
  | .iaload => zir st fun a i r => if a = 1000000 then (if zb i (X.1 - 1) then k (pc + 1, L, .int (X.2 i.toNatClampNeg) :: r, M) else none) else
      if za M a 100 then (if zb i (zl M a) then k (pc + 1, L, .int (zI M a i.toNatClampNeg) :: r, M) else none) else none
  | .baload => zir st fun a i r => if a = 1000002 then (if zb i 9 then k (pc + 1, L, .int (zSB.getD i.toNatClampNeg 0) :: r, M) else none) else
      if za M a 101 then (if zb i (zl M a) then k (pc + 1, L, .int (zI M a i.toNatClampNeg) :: r, M) else none) else
      if za M a 102 then (if zb i (zl M a) then k (pc + 1, L, .int (zI M a i.toNatClampNeg) :: r, M) else none) else none
  | .aaload => zir st fun a i r => if za M a 103 then (if zb i (zl M a) then k (pc + 1, L, va_rf (zR M a i.toNatClampNeg) :: r, M) else none) else none
  | .iastore => ziir st fun a i x r => if za M a 100 then (if zb i (zl M a) then k (pc + 1, L, r, zput M a i.toNatClampNeg x) else none) else none
  | .bastore => ziir st fun a i x r => if za M a 101 then (if zb i (zl M a) then (if x = 0 ∨ x = 1 then k (pc + 1, L, r, zput M a i.toNatClampNeg x) else none) else none) else
      if za M a 102 then (if zb i (zl M a) then k (pc + 1, L, r, zput M a i.toNatClampNeg x.toInt8.toInt32) else none) else none
  | .aastore => match st with
    | .ref v :: .int i :: .ref a :: r => if za M a 103 then (if zb i (zl M a) then (if za M v 100 then k (pc + 1, L, r, zputR M a i.toNatClampNeg (some v)) else none) else none) else none
    | _ => none
  | .arraylength => zr1 st fun a r => if a = 1000000 then (if 0 < X.1 then k (pc + 1, L, .int (Int32.ofNat (X.1 - 1)) :: r, M) else none) else
      if a = 1000002 then k (pc + 1, L, .int 9 :: r, M) else
      if za M a 100 then k (pc + 1, L, .int (Int32.ofNat (zl M a)) :: r, M) else none
  | .newarray t => z1 st fun x r => if ¬ x < 0 then (if x.toNatClampNeg ≤ 100000 then (if zn M < 1000000 then k (pc + 1, L, .ref (zn M) :: r, znew M (zat t) x.toNatClampNeg) else none) else none) else none
  | .anewarray _ => z1 st fun x r => if ¬ x < 0 then (if x.toNatClampNeg ≤ 100000 then (if zn M < 1000000 then k (pc + 1, L, .ref (zn M) :: r, znew M 103 x.toNatClampNeg) else none) else none) else none
  | .new c => if zn M < 1000000 then k (pc + 1, L, .ref (zn M) :: st, znew M c (zcN c)) else none
  | .invokestatic q => if q % 10 ≤ st.length then zcall E (q / 10 % 10) (q / 10000) (st.take (q % 10)).reverse (st.drop (q % 10)) M fun r M' => k (pc + 1, L, r, M') else none
  | .invokevirtual q => zr1 (st.drop (q % 10)) fun a r => if (if q / 100 % 100 = 99 then decide (a = 1000001) else za M a (q / 100 % 100)) then zcall E (q / 10 % 10) (q / 10000) (.ref a :: (st.take (q % 10)).reverse) r M fun r M' => k (pc + 1, L, r, M') else none
  | .invokespecial q => zr1 (st.drop (q % 10)) fun a r => zcall E (q / 10 % 10) (q / 10000) (.ref a :: (st.take (q % 10)).reverse) r M fun r M' => k (pc + 1, L, r, M')
  | .ldc 0 => k (pc + 1, L, .ref 1000001 :: st, M)
  | .ldc 1 => zr1 st fun a r => if a = 1000001 then k (pc + 1, L, .ref 1000002 :: r, M) else none
  | .ldc 2 => zr1 st fun a r => if a = 1000001 then k (pc + 1, L, .int 0 :: r, M) else none
  | .ldc 3 => k (pc + 1, L, .int 1 :: st, M)
  | .ireturn => match st with
    | [.int v] => kr (.int v, M)
    | _ => none
  | .lreturn => match st with
    | [.int v] => if v = 0 ∨ v = 1 then kr (.int v, M) else none
    | _ => none
  | .areturn => match st with
    | [.ref a] => kr (.ref a, M)
    | _ => none
  | .return_ => match st with
    | [] => kr (.long 0, M)
    | _ => none
  | _ => none
def zstep (X : zX) (C : List Instr) (E : Nat → zF) {γ : Type} (x : zCf) (k : zCf → Option γ) (kr : Value × zM → Option γ) : Option γ :=
  match C[x.1]? with
  | some i => zexec X E i x.1 x.2.1 x.2.2.1 x.2.2.2 k kr
  | none => none
def zrunT (X : zX) (C : List Instr) (E : Nat → zF) : Nat → zCf → Option (Value × zM)
  | 0, _ => none
  | n + 1, x => zstep X C E x (zrunT X C E n) some
def zstart (nL : Nat) (args : List Value) (M : zM) : zCf := (0, args ++ List.replicate (nL - args.length) (.long 0), [], M)
/-- what a method answers, and the cells behind it -/
noncomputable def zden (X : zX) (C : List Instr) (E : Nat → zF) (nL : Nat) : zF := fun args M =>
  haveI : ∀ p : Prop, Decidable p := fun p => Classical.propDecidable p
  if h : (args.length ≤ nL ∧ ∀ v ∈ args, v.category = 1) ∧ ∃ r n, zrunT X C E n (zstart nL args M) = some r then some (Classical.choose h.2) else none
theorem zden_run {X : zX} {C : List Instr} {E : Nat → zF} {nL : Nat} {args : List Value} {M : zM} {r : Value × zM} (h : zden X C E nL args M = some r) : (args.length ≤ nL ∧ ∀ v ∈ args, v.category = 1) ∧ ∃ n, zrunT X C E n (zstart nL args M) = some r := by
  unfold zden at h
  split at h
  · rename_i hx
    cases h
    exact ⟨hx.1, Classical.choose_spec hx.2⟩
  · cases h
