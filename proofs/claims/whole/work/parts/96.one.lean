/-! ONE MORE: LEAST WAYS WITH A STAIR MORE -/
theorem zfw_low {w d : Nat → Nat → Nat} {P : Nat} (hw : ∀ a b, 1 ≤ w a b) (hd0 : ∀ a, d a a = 0) (hd : ∀ x p y, x < P → p < P → y < P → p ≠ x → d x y ≤ w x p + d p y) : ∀ n x y, x < P → y < P → zfw w P x y ≤ n → d x y ≤ zfw w P x y := by
  intro n
  induction n with
  | zero =>
    intro x y hx hy hn
    by_cases e : x = y
    · subst e; rw [hd0]; exact Nat.zero_le _
    · obtain ⟨p, hp, hpx, hz⟩ := zfw_step w P x y e hy
      have := hw x p
      omega
  | succ n ih =>
    intro x y hx hy hn
    by_cases e : x = y
    · subst e; rw [hd0]; exact Nat.zero_le _
    · obtain ⟨p, hp, hpx, hz⟩ := zfw_step w P x y e hy
      have h1 := hw x p
      have h2 := ih p y hp hy (by omega)
      have h3 := hd x p y hx hp hy hpx
      omega
theorem zfw_one {w w' : Nat → Nat → Nat} {P a b u v F : Nat} (ha : a < P) (hb : b < P) (hab : a ≠ b) (hw : ∀ x y, 1 ≤ w x y) (hu : 1 ≤ u) (hv : 1 ≤ v) (hF : ∀ x y, w x y ≤ F) (hw' : ∀ x y, w' x y = min (min (w x y) (if a = x ∧ b = y then u else F)) (if b = x ∧ a = y then v else F)) {x y : Nat} (hx : x < P) (hy : y < P) :
    zfw w' P x y = min (zfw w P x y) (min (zfw w P x a + (u + zfw w P b y)) (zfw w P x b + (v + zfw w P a y))) := by
  have le' : ∀ x y, w' x y ≤ w x y := fun x y => by rw [hw' x y]; omega
  have hw1 : ∀ x y, 1 ≤ w' x y := fun x y => by
    have := hw x y
    have := hF x y
    rw [hw' x y]
    split <;> split <;> omega
  have up : ∀ x y, x < P → y < P → zfw w' P x y ≤ zfw w P x y := fun x y hx hy => zfw_low (d := zfw w' P) hw (fun a => zfw_aa w' a P) (fun x p y _ hp _ hpx => by
    have h1 := zfw_tri w' P x p y hp
    have h2 := zfw_le (w := w') (a := x) (b := p) P (fun e => hpx e.symm)
    have h3 := le' x p
    omega) _ x y hx hy (Nat.le_refl _)
  have h1 := up x y hx hy
  have h2 : zfw w' P x y ≤ zfw w P x a + (u + zfw w P b y) := by
    have t1 := zfw_tri w' P x a y ha
    have t2 := zfw_tri w' P a b y hb
    have t3 := zfw_le (w := w') (a := a) (b := b) P hab
    have t4 : w' a b ≤ u := by rw [hw' a b, if_pos ⟨rfl, rfl⟩]; omega
    have t5 := up x a hx ha
    have t6 := up b y hb hy
    omega
  have h3 : zfw w' P x y ≤ zfw w P x b + (v + zfw w P a y) := by
    have t1 := zfw_tri w' P x b y hb
    have t2 := zfw_tri w' P b a y ha
    have t3 := zfw_le (w := w') (a := b) (b := a) P (fun e => hab e.symm)
    have t4 : w' b a ≤ v := by rw [hw' b a, if_pos (show b = b ∧ a = a from ⟨rfl, rfl⟩)]; omega
    have t5 := up x b hx hb
    have t6 := up a y ha hy
    omega
  have h4 := zfw_low (w := w') (d := fun x y => min (zfw w P x y) (min (zfw w P x a + (u + zfw w P b y)) (zfw w P x b + (v + zfw w P a y)))) (P := P) hw1 (fun a => by
    show min (zfw w P a a) _ = 0
    rw [zfw_aa]
    omega) (fun x p y hx hp hy hpx => by
    show min (zfw w P x y) (min (zfw w P x a + (u + zfw w P b y)) (zfw w P x b + (v + zfw w P a y))) ≤ w' x p + min (zfw w P p y) (min (zfw w P p a + (u + zfw w P b y)) (zfw w P p b + (v + zfw w P a y)))
    have k1 := zfw_tri w P x p y hp
    have k2 := zfw_tri w P x p a hp
    have k3 := zfw_tri w P x p b hp
    have k4 := zfw_le (w := w) (a := x) (b := p) P (fun e => hpx e.symm)
    have k5 := hF x p
    have k6 := zfw_aa w a P
    have k7 := zfw_aa w b P
    rw [hw' x p]
    by_cases c1 : a = x ∧ b = p
    · rw [if_pos c1]
      obtain ⟨e1, e2⟩ := c1
      subst e1
      subst e2
      rw [if_neg (show ¬ (b = a ∧ a = b) from fun q => hab q.2)]
      omega
    · rw [if_neg c1]
      by_cases c2 : b = x ∧ a = p
      · rw [if_pos c2]
        obtain ⟨e1, e2⟩ := c2
        subst e1
        subst e2
        omega
      · rw [if_neg c2]
        omega) _ x y hx hy (Nat.le_refl _)
  have h4 : min (zfw w P x y) (min (zfw w P x a + (u + zfw w P b y)) (zfw w P x b + (v + zfw w P a y))) ≤ zfw w' P x y := h4
  omega
/-- the town with a stair more -/
def zpl1 (st : zSt) (a b so : Nat) : zSt := (((st.S' (st.S + 1)).sa' (zup st.sa st.S a)).sb' (zup st.sb st.S b)).so' (zup st.so st.S so)
theorem zup_n {f : Nat → Nat} {k v j : Nat} (h : j ≠ k) : zup f k v j = f j := if_neg h
theorem zup_k {f : Nat → Nat} {k v : Nat} : zup f k v k = v := if_pos rfl
theorem zgo_pl {L : zLw} {st : zSt} {a b so n : Nat} (h : n < st.S) (back : Bool) (l : Nat) : zgo L (zpl1 st a b so) n back l = zgo L st n back l := by
  show (if back = true then (if zup st.so st.S so n = 1 then none else zcost L (zpl1 st a b so) (zup st.sb st.S b n) (zup st.sa st.S a n) (zup st.so st.S so n) n l) else zcost L (zpl1 st a b so) (zup st.sa st.S a n) (zup st.sb st.S b n) (zup st.so st.S so n) n l) = _
  rw [zup_n (by omega), zup_n (by omega), zup_n (by omega)]
  rfl
theorem zcs_pl {L : zLw} {st : zSt} {a b so : Nat} (l : Nat) : ∀ n, n ≤ st.S → zcs L (zpl1 st a b so) l n = zcs L st l n
  | 0, _ => rfl
  | n + 1, h => by
    funext x y
    show zmn (zmn (zcs L (zpl1 st a b so) l n x y) (if zup st.sa st.S a n = x ∧ zup st.sb st.S b n = y then zgo L (zpl1 st a b so) n false l else none)) (if zup st.sb st.S b n = x ∧ zup st.sa st.S a n = y then zgo L (zpl1 st a b so) n true l else none) = _
    rw [zcs_pl l n (by omega), zup_n (by omega), zup_n (by omega), zgo_pl (by omega), zgo_pl (by omega)]
    rfl
def zthr (L : zLw) (st : zSt) (a b so : Nat) : Option Nat := zcost L st a b so st.S 0
def zbck (L : zLw) (st : zSt) (a b so : Nat) : Option Nat := if so = 1 then none else zcost L st b a so st.S 0
theorem zcs_suc (L : zLw) (st : zSt) (l n a b : Nat) : zcs L st l (n + 1) a b = zmn (zmn (zcs L st l n a b) (if st.sa n = a ∧ st.sb n = b then zgo L st n false l else none)) (if st.sb n = a ∧ st.sa n = b then zgo L st n true l else none) := rfl
theorem zpl1_S (st : zSt) (a b so : Nat) : (zpl1 st a b so).S = st.S + 1 := rfl
theorem zpl1_sa (st : zSt) (a b so : Nat) : (zpl1 st a b so).sa = zup st.sa st.S a := rfl
theorem zpl1_sb (st : zSt) (a b so : Nat) : (zpl1 st a b so).sb = zup st.sb st.S b := rfl
theorem zpl1_so (st : zSt) (a b so : Nat) : (zpl1 st a b so).so = zup st.so st.S so := rfl
theorem zcost_pl (L : zLw) (st : zSt) (a b so x y t n l : Nat) : zcost L (zpl1 st a b so) x y t n l = zcost L st x y t n l := rfl
theorem zgo_s (L : zLw) (st : zSt) (n : Nat) (back : Bool) (l : Nat) : zgo L st n back l = if back = true then (if st.so n = 1 then none else zcost L st (st.sb n) (st.sa n) (st.so n) n l) else zcost L st (st.sa n) (st.sb n) (st.so n) n l := rfl
theorem zcs_pl1 {L : zLw} {st : zSt} {a b so : Nat} (x y : Nat) : zcs L (zpl1 st a b so) 0 (zpl1 st a b so).S x y = zmn (zmn (zcs L st 0 st.S x y) (if a = x ∧ b = y then zthr L st a b so else none)) (if b = x ∧ a = y then zbck L st a b so else none) := by
  have e1 : zgo L (zpl1 st a b so) st.S false 0 = zthr L st a b so := by
    rw [zgo_s, if_neg (show ¬ false = true by decide), zpl1_sa, zpl1_sb, zpl1_so, zup_k, zup_k, zup_k, zcost_pl]
    rfl
  have e2 : zgo L (zpl1 st a b so) st.S true 0 = zbck L st a b so := by
    rw [zgo_s, if_pos rfl, zpl1_sa, zpl1_sb, zpl1_so, zup_k, zup_k, zup_k, zcost_pl]
    rfl
  rw [zpl1_S, zcs_suc, e1, e2, zpl1_sa, zpl1_sb, zup_k, zup_k, zcs_pl 0 st.S (Nat.le_refl _)]
/-- a key and its cost -/
def zkS (s B : Nat) (o : Option Nat) (k : Nat) : Prop := match o with
  | none => 1000000000 ≤ k
  | some C => 64 * C ≤ k ∧ k ≤ 64 * C + s ∧ C ≤ B
theorem zkS_sm {s B s' B' k k' : Nat} {o o' : Option Nat} (h : zkS s B o k) (h' : zkS s' B' o' k') : zkS (s + s') (B + B') (zsm o o') (k + k') := by
  cases o with
  | none => show 1000000000 ≤ k + k'; have h : 1000000000 ≤ k := h; omega
  | some C =>
    cases o' with
    | none => show 1000000000 ≤ k + k'; have h' : 1000000000 ≤ k' := h'; omega
    | some C' =>
      have h : 64 * C ≤ k ∧ k ≤ 64 * C + s ∧ C ≤ B := h
      have h' : 64 * C' ≤ k' ∧ k' ≤ 64 * C' + s' ∧ C' ≤ B' := h'
      show 64 * (C + C') ≤ k + k' ∧ k + k' ≤ 64 * (C + C') + (s + s') ∧ C + C' ≤ B + B'
      omega
theorem zkS_mn {k k' : Nat} {o o' : Option Nat} (h : zkS 63 1000000 o k) (h' : zkS 63 1000000 o' k') : zkS 63 1000000 (zmn o o') (min k k') := by
  cases o with
  | none =>
    have h : 1000000000 ≤ k := h
    cases o' with
    | none =>
      have h' : 1000000000 ≤ k' := h'
      show 1000000000 ≤ min k k'
      omega
    | some C' =>
      have h' : 64 * C' ≤ k' ∧ k' ≤ 64 * C' + 63 ∧ C' ≤ 1000000 := h'
      show 64 * C' ≤ min k k' ∧ min k k' ≤ 64 * C' + 63 ∧ C' ≤ 1000000
      omega
  | some C =>
    have h : 64 * C ≤ k ∧ k ≤ 64 * C + 63 ∧ C ≤ 1000000 := h
    cases o' with
    | none =>
      have h' : 1000000000 ≤ k' := h'
      show 64 * C ≤ min k k' ∧ min k k' ≤ 64 * C + 63 ∧ C ≤ 1000000
      omega
    | some C' =>
      have h' : 64 * C' ≤ k' ∧ k' ≤ 64 * C' + 63 ∧ C' ≤ 1000000 := h'
      show 64 * (min C C') ≤ min k k' ∧ min k k' ≤ 64 * (min C C') + 63 ∧ min C C' ≤ 1000000
      omega
theorem zkS_u {k : Nat} {o o' : Option Nat} (h : zkS 63 1000000 o k) (h' : zkS 63 1000000 o' k) : o = o' := by
  cases o with
  | none =>
    have h : 1000000000 ≤ k := h
    cases o' with
    | none => rfl
    | some C' =>
      have h' : 64 * C' ≤ k ∧ k ≤ 64 * C' + 63 ∧ C' ≤ 1000000 := h'
      omega
  | some C =>
    have h : 64 * C ≤ k ∧ k ≤ 64 * C + 63 ∧ C ≤ 1000000 := h
    cases o' with
    | none =>
      have h' : 1000000000 ≤ k := h'
      omega
    | some C' =>
      have h' : 64 * C' ≤ k ∧ k ≤ 64 * C' + 63 ∧ C' ≤ 1000000 := h'
      rw [show C = C' by omega]
theorem zkS_le {s B k : Nat} {o : Option Nat} (h : zkS s B o k) (hs : s ≤ 63) (hB : B ≤ 1000000) : zkS 63 1000000 o k := by
  cases o with
  | none => exact h
  | some C =>
    have h : 64 * C ≤ k ∧ k ≤ 64 * C + s ∧ C ≤ B := h
    show 64 * C ≤ k ∧ k ≤ 64 * C + 63 ∧ C ≤ 1000000
    omega
theorem zkS_dc {L : zLw} {st : zSt} (h : zsmall L st) (hP : st.P ≤ 20) {l a b : Nat} (ha : a < st.P) (hb : b < st.P) : zkS 19 189981 (zdc L st l a b) (zk64 (zcs L st l st.S) st.P a b) := by
  unfold zdc
  cases hw : zway (zcs L st l st.S) st.P a b with
  | none => exact (zway_n (h l) hP ha hb hw).1
  | some p =>
    obtain ⟨C, S⟩ := p
    obtain ⟨h1, h2, h3, h4⟩ := zway_s (h l) hP ha hb hw
    show 64 * C ≤ _ ∧ _ ≤ 64 * C + 19 ∧ C ≤ 189981
    omega
theorem zkS_vl {o : Option Nat} (h : ∀ x, o = some x → x ≤ 9999) : zkS 1 9999 o (zvl 64 1000000000 o) := by
  cases o with
  | none => exact Nat.le_refl _
  | some x =>
    have := h x rfl
    show 64 * x ≤ 64 * x + 1 ∧ 64 * x + 1 ≤ 64 * x + 1 ∧ x ≤ 9999
    omega
theorem zvl_1 (o : Option Nat) : 1 ≤ zvl 64 1000000000 o := by
  cases o with
  | none => show 1 ≤ 1000000000; decide
  | some x => show 1 ≤ 64 * x + 1; omega
/-- the new stair's goings -/
theorem zcost_cap {L : zLw} {st : zSt} {a b so n l : Nat} (h : st.ht b ≤ 200) : ∀ x, zcost L st a b so n l = some x → x ≤ 9999 := fun x hx => zprice_le (zls_up h).2 hx
theorem zbck_cap {L : zLw} {st : zSt} {a b so : Nat} (h : st.ht a ≤ 200) : ∀ x, zbck L st a b so = some x → x ≤ 9999 := by
  intro x hx
  unfold zbck at hx
  split at hx
  · cases hx
  · exact zcost_cap h x hx
def zvia (o1 o2 o3 : Option Nat) : Option Nat := zsm o1 (zsm o2 o3)
theorem zdc_pl {L : zLw} {st : zSt} {a b so : Nat} (hs : zsmall L st) (hs' : zsmall L (zpl1 st a b so)) (hP : st.P ≤ 20) (ha : a < st.P) (hb : b < st.P) (hab : a ≠ b) (hta : st.ht a ≤ 200) (htb : st.ht b ≤ 200) {x y : Nat} (hx : x < st.P) (hy : y < st.P) :
    zdc L (zpl1 st a b so) 0 x y = zmn (zdc L st 0 x y) (zmn (zvia (zdc L st 0 x a) (zthr L st a b so) (zdc L st 0 b y)) (zvia (zdc L st 0 x b) (zbck L st a b so) (zdc L st 0 a y))) := by
  have c1 : ∀ x, zthr L st a b so = some x → x ≤ 9999 := zcost_cap htb
  have c2 := zbck_cap (L := L) (b := b) (so := so) hta
  have capi : ∀ (c : Prop) [Decidable c] (o : Option Nat), (∀ x, o = some x → x ≤ 9999) → ∀ x, (if c then o else none) = some x → x ≤ 9999 := fun c _ o h => zif_le h
  have key : zk64 (zcs L (zpl1 st a b so) 0 (zpl1 st a b so).S) st.P x y = min (zk64 (zcs L st 0 st.S) st.P x y) (min (zk64 (zcs L st 0 st.S) st.P x a + (zvl 64 1000000000 (zthr L st a b so) + zk64 (zcs L st 0 st.S) st.P b y)) (zk64 (zcs L st 0 st.S) st.P x b + (zvl 64 1000000000 (zbck L st a b so) + zk64 (zcs L st 0 st.S) st.P a y))) := by
    refine zfw_one (F := 1000000000) ha hb hab (fun x y => by rw [zwt_vl]; exact zvl_1 _) (zvl_1 _) (zvl_1 _) (zwt_cap (hs 0) (by decide)) (fun x y => ?_) hx hy
    have ef : ∀ (c : Prop) [Decidable c] (o : Option Nat), zvl 64 1000000000 (if c then o else none) = if c then zvl 64 1000000000 o else 1000000000 := fun c _ o => by split <;> rfl
    rw [zwt_vl, zwt_vl, zcs_pl1, zvl_mn (by decide) (zmn_le (hs 0 x y) (capi _ _ c1)) (capi _ _ c2), zvl_mn (by decide) (hs 0 x y) (capi _ _ c1), ef, ef]
  have k0 := zkS_dc (L := L) (l := 0) hs' (show (zpl1 st a b so).P ≤ 20 from hP) (show x < (zpl1 st a b so).P from hx) (show y < (zpl1 st a b so).P from hy)
  have k0 : zkS 19 189981 (zdc L (zpl1 st a b so) 0 x y) (zk64 (zcs L (zpl1 st a b so) 0 (zpl1 st a b so).S) st.P x y) := k0
  rw [key] at k0
  refine zkS_u (zkS_le k0 (by decide) (by decide)) (zkS_mn (zkS_le (zkS_dc hs hP hx hy) (by decide) (by decide)) (zkS_mn ?_ ?_))
  · exact zkS_le (zkS_sm (zkS_dc hs hP hx ha) (zkS_sm (zkS_vl c1) (zkS_dc hs hP hb hy))) (by decide) (by decide)
  · exact zkS_le (zkS_sm (zkS_dc hs hP hx hb) (zkS_sm (zkS_vl c2) (zkS_dc hs hP ha hy))) (by decide) (by decide)
/-- what it costs the one, where 1000 stands for no way -/
def zval (o : Option Nat) : Nat := match o with
  | none => 1000
  | some x => x
def zsu (f : Nat → Nat) : Nat → Nat
  | 0 => 0
  | n + 1 => zsu f n + f n
theorem zsu_s (f : Nat → Nat) (n : Nat) : zsu f (n + 1) = zsu f n + f n := rfl
theorem zsu_cap {f : Nat → Nat} {m : Nat} : ∀ n, (∀ i, i < n → f i ≤ m) → zsu f n ≤ m * n
  | 0, _ => Nat.zero_le _
  | n + 1, h => by
    have a := zsu_cap n (fun i hi => h i (by omega))
    have b := h n (by omega)
    have e : m * (n + 1) = m * n + m := rfl
    rw [zsu_s]
    omega
def zVo (L : zLw) (st : zSt) (so a b : Nat) : Nat := zsu (fun q => zval (zdc L (zpl1 st a b so) 0 (st.pf q) (st.pt q))) st.Q
def zcd (st : zSt) (so a b : Nat) : Bool := decide (a ≠ b) && (if so = 1 then decide (st.ht b ≤ st.ht a) else decide (a < b))
/-- the best so far -/
def zost (V : Nat → Nat → Nat) (cd : Nat → Nat → Bool) (a b : Nat) (q : Option (Nat × Nat × Nat)) : Option (Nat × Nat × Nat) := if cd a b = true then (match q with
  | none => some (V a b, a, b)
  | some r => if V a b < r.1 then some (V a b, a, b) else some r) else q
def zoin (V : Nat → Nat → Nat) (cd : Nat → Nat → Bool) (a : Nat) : Nat → Nat → Option (Nat × Nat × Nat) → Option (Nat × Nat × Nat)
  | 0, _, q => q
  | d + 1, b, q => zoin V cd a d (b + 1) (zost V cd a b q)
def zoou (V : Nat → Nat → Nat) (cd : Nat → Nat → Bool) (P : Nat) : Nat → Nat → Option (Nat × Nat × Nat) → Option (Nat × Nat × Nat)
  | 0, _, q => q
  | d + 1, a, q => zoou V cd P d (a + 1) (zoin V cd a P 0 q)
theorem zoin_s (V : Nat → Nat → Nat) (cd : Nat → Nat → Bool) (a d b : Nat) (q : Option (Nat × Nat × Nat)) : zoin V cd a (d + 1) b q = zoin V cd a d (b + 1) (zost V cd a b q) := rfl
theorem zost_no {V : Nat → Nat → Nat} {cd : Nat → Nat → Bool} {a b : Nat} {q : Option (Nat × Nat × Nat)} (h : cd a b = false) : zost V cd a b q = q := by unfold zost; rw [h]; rfl
theorem zoin_skip {V : Nat → Nat → Nat} {cd : Nat → Nat → Bool} {a P : Nat} {q : Option (Nat × Nat × Nat)} : ∀ d b, b + d ≤ P → (∀ j, b ≤ j → j < b + d → cd a j = false) → zoin V cd a (P - b) b q = zoin V cd a (P - (b + d)) (b + d) q
  | 0, b, _, _ => rfl
  | d + 1, b, h, hc => by
    rw [show P - b = (P - (b + 1)) + 1 by omega, zoin_s, zost_no (hc b (Nat.le_refl _) (by omega)), zoin_skip d (b + 1) (by omega) (fun j h1 h2 => hc j (by omega) (by omega)), show b + 1 + d = b + (d + 1) by omega]
theorem zost_some {V : Nat → Nat → Nat} {cd : Nat → Nat → Bool} {a b : Nat} {q : Option (Nat × Nat × Nat)} (h : q ≠ none ∨ cd a b = true) : zost V cd a b q ≠ none := by
  unfold zost
  by_cases c : cd a b = true
  · rw [if_pos c]
    cases q with
    | none => exact fun e => nomatch e
    | some r =>
      show (if V a b < r.1 then some (V a b, a, b) else some r) ≠ none
      split <;> exact fun e => nomatch e
  · rw [if_neg c]
    rcases h with h | h
    · exact h
    · exact absurd h c
theorem zoin_some {V : Nat → Nat → Nat} {cd : Nat → Nat → Bool} {a : Nat} : ∀ d b (q : Option (Nat × Nat × Nat)), (q ≠ none ∨ ∃ j, b ≤ j ∧ j < b + d ∧ cd a j = true) → zoin V cd a d b q ≠ none
  | 0, b, q, h => by
    rcases h with h | ⟨j, h1, h2, -⟩
    · exact h
    · omega
  | d + 1, b, q, h => zoin_some d (b + 1) _ (by
    rcases h with h | ⟨j, h1, h2, h3⟩
    · exact Or.inl (zost_some (Or.inl h))
    · by_cases e : j = b
      · rw [e] at h3; exact Or.inl (zost_some (Or.inr h3))
      · exact Or.inr ⟨j, by omega, by omega, h3⟩)
theorem zoou_some {V : Nat → Nat → Nat} {cd : Nat → Nat → Bool} {P : Nat} : ∀ d a (q : Option (Nat × Nat × Nat)), (q ≠ none ∨ ∃ i j, a ≤ i ∧ i < a + d ∧ j < P ∧ cd i j = true) → zoou V cd P d a q ≠ none
  | 0, a, q, h => by
    rcases h with h | ⟨i, j, h1, h2, -⟩
    · exact h
    · omega
  | d + 1, a, q, h => zoou_some d (a + 1) _ (by
    rcases h with h | ⟨i, j, h1, h2, h3, h4⟩
    · exact Or.inl (zoin_some P 0 q (Or.inl h))
    · by_cases e : i = a
      · rw [e] at h4; exact Or.inl (zoin_some P 0 q (Or.inr ⟨j, Nat.zero_le _, by omega, h4⟩))
      · exact Or.inr ⟨i, j, by omega, by omega, h3, h4⟩)
theorem zone_some {L : zLw} {st : zSt} {so : Nat} (hP : 2 ≤ st.P) : zoou (zVo L st so) (zcd st so) st.P st.P 0 none ≠ none := by
  apply zoou_some
  by_cases hs : so = 1
  · by_cases hh : st.ht 1 ≤ st.ht 0
    · refine Or.inr ⟨0, 1, by omega, by omega, by omega, ?_⟩
      unfold zcd
      rw [if_pos hs, decide_eq_true hh]
      rfl
    · refine Or.inr ⟨1, 0, by omega, by omega, by omega, ?_⟩
      unfold zcd
      rw [if_pos hs, decide_eq_true (show st.ht 0 ≤ st.ht 1 by omega)]
      rfl
  · refine Or.inr ⟨0, 1, by omega, by omega, by omega, ?_⟩
    unfold zcd
    rw [if_neg hs]
    rfl
