/-! THE LAW'S TEXT, READ: A PURE READER -/
/-- fault, place, size, steps, whether the load matters -/
abbrev zyS : Type := Nat × Nat × Nat × zCd × Bool
def zyS.e (S : zyS) : Nat := S.1
def zyS.p (S : zyS) : Nat := S.2.1
def zyS.m (S : zyS) : Nat := S.2.2.1
def zyS.c (S : zyS) : zCd := S.2.2.2.1
def zyS.l (S : zyS) : Bool := S.2.2.2.2
def zyn (T : Nat → Nat) (n : Nat) (S : zyS) : Nat := if S.p < n then T S.p else 1000
def zyf (k : Nat) (S : zyS) : zyS := if S.e = 0 then (1000 * k + S.p, S.2) else S
def zya (S : zyS) : zyS := (S.e, S.p + 1, S.2.2)
def zyt0 (T : Nat → Nat) (n c : Nat) (S : zyS) : zyS := if S.e = 0 ∧ zyn T n S ≠ c then zyf 1 S else S
def zyt1 (S : zyS) : zyS := if S.e = 0 then zya S else S
def zyt (T : Nat → Nat) (n c : Nat) (S : zyS) : zyS := zyt1 (zyt0 T n c S)
def zye (op v : Nat) (S : zyS) : zyS := if S.m < 160 then (S.e, S.p, S.m + 1, (fun i => if i = S.m then (op, v) else S.c i), S.l || (decide (op = 1) && decide (v = 3))) else S
def zyd (b : Option Nat) (S : zyS) : zyS := match b with
  | none => S
  | some i => if i < S.m then (S.e, S.p, S.m, (fun j => if j = i then ((S.c i).1, S.m) else S.c j), S.l) else S
def zyg (c : Nat) : Bool := decide (48 ≤ c ∧ c ≤ 57)
def zynm (T : Nat → Nat) (n : Nat) : Nat → Nat → zyS → zyS
  | 0, x, S => if zyg (zyn T n S) = true then zyf 2 S else zye 0 x S
  | f + 1, x, S => if zyg (zyn T n S) = true then zynm T n f (10 * x + zyn T n S - 48) (zya S) else zye 0 x S
theorem zynm_0 (T : Nat → Nat) (n x : Nat) (S : zyS) : zynm T n 0 x S = if zyg (zyn T n S) = true then zyf 2 S else zye 0 x S := rfl
theorem zynm_s (T : Nat → Nat) (n f x : Nat) (S : zyS) : zynm T n (f + 1) x S = if zyg (zyn T n S) = true then zynm T n f (10 * x + zyn T n S - 48) (zya S) else zye 0 x S := rfl
def zyx (c : Nat) : Option Nat := match c with
  | 117 => some 0
  | 100 => some 1
  | 107 => some 2
  | 108 => some 3
  | 119 => some 4
  | 102 => some 5
  | 103 => some 6
  | 115 => some 7
  | 104 => some 8
  | _ => none
def zylt (T : Nat → Nat) (n : Nat) (S : zyS) : zyS := match zyx (zyn T n S) with
  | none => zyf 1 S
  | some v => zye 1 v (zya S)
def zyo (c : Nat) : Nat := match c with
  | 43 => 2
  | 45 => 3
  | 42 => 4
  | 47 => 5
  | 37 => 6
  | 60 => 7
  | 62 => 8
  | 61 => 9
  | _ => 0
def zyfa (T : Nat → Nat) (n : Nat) (G : Nat → zyS → zyS) (o : Nat) (S : zyS) : zyS := if S.e ≠ 0 then S else if zyn T n S = 91 then (if 6 ≤ o then zyf 5 S else zyt T n 93 (G (o + 1) (zya S))) else if zyg (zyn T n S) = true then zynm T n 5 0 S else zylt T n S
def zylp (T : Nat → Nat) (n : Nat) (is : Nat → Bool) (F : zyS → zyS) : Nat → zyS → zyS
  | 0, S => S
  | f + 1, S => if S.e = 0 ∧ is (zyn T n S) = true then zylp T n is F f (zye (zyo (zyn T n S)) 0 (F (zya S))) else S
theorem zylp_s (T : Nat → Nat) (n : Nat) (is : Nat → Bool) (F : zyS → zyS) (f : Nat) (S : zyS) : zylp T n is F (f + 1) S = if S.e = 0 ∧ is (zyn T n S) = true then zylp T n is F f (zye (zyo (zyn T n S)) 0 (F (zya S))) else S := rfl
def zyi1 (c : Nat) : Bool := decide (c = 43 ∨ c = 45)
def zyi2 (c : Nat) : Bool := decide (c = 42 ∨ c = 47 ∨ c = 37)
def zyi3 (c : Nat) : Bool := decide (c = 60 ∨ c = 62 ∨ c = 61)
def zytm (T : Nat → Nat) (n : Nat) (G : Nat → zyS → zyS) (o : Nat) (S : zyS) : zyS := zylp T n zyi2 (zyfa T n G o) n (zyfa T n G o S)
def zysu (T : Nat → Nat) (n : Nat) : Nat → Nat → zyS → zyS
  | 0, _, S => S
  | d + 1, o, S => zylp T n zyi1 (zytm T n (zysu T n d) o) n (zytm T n (zysu T n d) o S)
theorem zysu_s (T : Nat → Nat) (n d o : Nat) (S : zyS) : zysu T n (d + 1) o S = zylp T n zyi1 (zytm T n (zysu T n d) o) n (zytm T n (zysu T n d) o S) := rfl
def zycm2 (T : Nat → Nat) (n o : Nat) (c : Nat) (S2 : zyS) : zyS := if S2.e = 0 then zye (zyo c) 0 (zysu T n 8 o (zya S2)) else S2
def zycm (T : Nat → Nat) (n o : Nat) (S : zyS) : zyS := zycm2 T n o (zyn T n (zysu T n 8 o S)) (if zyi3 (zyn T n (zysu T n 8 o S)) = true then zysu T n 8 o S else zyf 1 (zysu T n 8 o S))
def zych (T : Nat → Nat) (n op c : Nat) (F : zyS → zyS) : Nat → Option Nat → zyS → zyS
  | 0, b, S => zyd b S
  | f + 1, b, S => if S.e = 0 ∧ zyn T n S = c then zych T n op c F f (some ((zye op (zyd b (zya S)).m (zyd b (zya S))).m - 1)) (F (zye op (zyd b (zya S)).m (zyd b (zya S)))) else zyd b S
theorem zych_0 (T : Nat → Nat) (n op c : Nat) (F : zyS → zyS) (b : Option Nat) (S : zyS) : zych T n op c F 0 b S = zyd b S := rfl
theorem zych_s (T : Nat → Nat) (n op c : Nat) (F : zyS → zyS) (f : Nat) (b : Option Nat) (S : zyS) : zych T n op c F (f + 1) b S = if S.e = 0 ∧ zyn T n S = c then zych T n op c F f (some ((zye op (zyd b (zya S)).m (zyd b (zya S))).m - 1)) (F (zye op (zyd b (zya S)).m (zyd b (zya S)))) else zyd b S := rfl
def zypa (T : Nat → Nat) (n : Nat) (PC : Nat → zyS → zyS) (o : Nat) (S : zyS) : zyS := zych T n 11 38 (PC o) n none (PC o S)
def zycn (T : Nat → Nat) (n : Nat) (PC : Nat → zyS → zyS) (o : Nat) (S : zyS) : zyS := zych T n 12 124 (zypa T n PC o) n none (zypa T n PC o S)
def zypi (T : Nat → Nat) (n : Nat) : Nat → Nat → zyS → zyS
  | 0, _, S => S
  | d + 1, o, S => if S.e ≠ 0 then S else if zyn T n S ≠ 33 ∧ zyn T n S ≠ 40 then zycm T n o S else if 6 ≤ o then zyf 5 S else if zyn T n S = 33 then zye 10 0 (zypi T n d (o + 1) (zya S)) else zyt T n 41 (zycn T n (zypi T n d) (o + 1) (zya S))
theorem zypi_s (T : Nat → Nat) (n d o : Nat) (S : zyS) : zypi T n (d + 1) o S = if S.e ≠ 0 then S else if zyn T n S ≠ 33 ∧ zyn T n S ≠ 40 then zycm T n o S else if 6 ≤ o then zyf 5 S else if zyn T n S = 33 then zye 10 0 (zypi T n d (o + 1) (zya S)) else zyt T n 41 (zycn T n (zypi T n d) (o + 1) (zya S)) := rfl
/-! what every step keeps: a fault stays, the place goes on and not beyond the end -/
def zyk (n : Nat) (S S' : zyS) : Prop := (S.e ≠ 0 → S'.e = S.e) ∧ S.p ≤ S'.p ∧ (S.p ≤ n → S'.p ≤ n) ∧ (S.e < 100000 → S.p ≤ n → n ≤ 160 → S'.e < 100000)
theorem zyk_rfl (n : Nat) (S : zyS) : zyk n S S := ⟨fun _ => rfl, Nat.le_refl _, fun h => h, fun h _ _ => h⟩
theorem zyk_tr {n : Nat} {S S' S'' : zyS} (h : zyk n S S') (g : zyk n S' S'') : zyk n S S'' := by
  obtain ⟨h1, h2, h3, h4⟩ := h
  obtain ⟨g1, g2, g3, g4⟩ := g
  refine ⟨fun he => ?_, Nat.le_trans h2 g2, fun hp => g3 (h3 hp), fun a b c => g4 (h4 a b c) (h3 b) c⟩
  have e := h1 he
  rw [g1 (by rw [e]; exact he), e]
theorem zyn_lt {T : Nat → Nat} {n c : Nat} {S : zyS} (h : zyn T n S = c) (hc : c ≠ 1000) : S.p < n ∧ T S.p = c := by
  unfold zyn at h
  by_cases hp : S.p < n
  · rw [if_pos hp] at h; exact ⟨hp, h⟩
  · rw [if_neg hp] at h; exact absurd h.symm hc
theorem zyn_lt' {T : Nat → Nat} {n : Nat} {S : zyS} (hc : zyn T n S ≠ 1000) : S.p < n ∧ zyn T n S = T S.p := by
  have := zyn_lt (T := T) (n := n) (S := S) rfl hc
  exact ⟨this.1, this.2.symm⟩
theorem zyf_e {k : Nat} {S : zyS} (h : S.e = 0) : zyf k S = (1000 * k + S.p, S.2) := if_pos h
theorem zyf_n {k : Nat} {S : zyS} (h : S.e ≠ 0) : zyf k S = S := if_neg h
theorem zyk_f {n : Nat} (k : Nat) (hk : k ≤ 5) (S : zyS) : zyk n S (zyf k S) := by
  by_cases h : S.e = 0
  · rw [zyf_e h]
    exact ⟨fun q => absurd h q, Nat.le_refl _, fun h => h, fun _ hp hn => by show 1000 * k + S.p < 100000; omega⟩
  · rw [zyf_n h]
    exact zyk_rfl n S
theorem zyk_a {n : Nat} {S : zyS} (h : S.p < n) : zyk n S (zya S) := ⟨fun _ => rfl, Nat.le_succ _, fun _ => h, fun h _ _ => h⟩
theorem zyt_fit {T : Nat → Nat} {n c : Nat} {S : zyS} (h : S.e = 0) (hc : zyn T n S = c) : zyt T n c S = zya S := by
  unfold zyt
  have e : zyt0 T n c S = S := if_neg (fun q => q.2 hc)
  rw [e]
  exact if_pos h
theorem zyt_odd {T : Nat → Nat} {n c : Nat} {S : zyS} (hk : c ≠ 1000) (h : S.e = 0) (hc : zyn T n S ≠ c) : zyt T n c S = zyf 1 S := by
  unfold zyt
  have e : zyt0 T n c S = zyf 1 S := if_pos ⟨h, hc⟩
  rw [e]
  refine if_neg ?_
  rw [zyf_e h]
  show ¬ 1000 * 1 + S.p = 0
  omega
theorem zyt_no {T : Nat → Nat} {n c : Nat} {S : zyS} (h : S.e ≠ 0) : zyt T n c S = S := by
  unfold zyt
  have e : zyt0 T n c S = S := if_neg (fun q => h q.1)
  rw [e]
  exact if_neg h
theorem zyk_t {T : Nat → Nat} {n c : Nat} (hc : c ≠ 1000) (S : zyS) : zyk n S (zyt T n c S) := by
  by_cases h : S.e = 0
  · by_cases hs : zyn T n S = c
    · rw [zyt_fit h hs]
      exact zyk_a (zyn_lt hs hc).1
    · rw [zyt_odd hc h hs]
      exact zyk_f 1 (by decide) S
  · rw [zyt_no h]
    exact zyk_rfl n S
theorem zye_lt {op v : Nat} {S : zyS} (h : S.m < 160) : zye op v S = (S.e, S.p, S.m + 1, (fun i => if i = S.m then (op, v) else S.c i), S.l || (decide (op = 1) && decide (v = 3))) := if_pos h
theorem zyk_e {n : Nat} (op v : Nat) (S : zyS) : zyk n S (zye op v S) := by
  unfold zye
  split
  · exact ⟨fun _ => rfl, Nat.le_refl _, fun h => h, fun h _ _ => h⟩
  · exact zyk_rfl n S
theorem zyk_d {n : Nat} (b : Option Nat) (S : zyS) : zyk n S (zyd b S) := by
  cases b with
  | none => exact zyk_rfl n S
  | some i =>
    show zyk n S (if i < S.m then _ else _)
    split
    · exact ⟨fun _ => rfl, Nat.le_refl _, fun h => h, fun h _ _ => h⟩
    · exact zyk_rfl n S
theorem zyg_n {T : Nat → Nat} {n : Nat} {S : zyS} (h : zyg (zyn T n S) = true) : S.p < n ∧ 48 ≤ zyn T n S ∧ zyn T n S ≤ 57 := by
  have h := of_decide_eq_true h
  exact ⟨(zyn_lt (T := T) rfl (by omega)).1, h.1, h.2⟩
theorem zyk_nm {T : Nat → Nat} {n : Nat} : ∀ f x S, zyk n S (zynm T n f x S)
  | 0, x, S => by
    rw [zynm_0]
    split
    · exact zyk_f 2 (by decide) S
    · exact zyk_e _ _ S
  | f + 1, x, S => by
    rw [zynm_s]
    split
    · rename_i h
      exact zyk_tr (zyk_a (zyg_n h).1) (zyk_nm f _ _)
    · exact zyk_e _ _ S
theorem zyx_n {c v : Nat} (h : zyx c = some v) : c ≠ 1000 := by
  intro e
  subst e
  cases h
theorem zyk_lt {T : Nat → Nat} {n : Nat} (S : zyS) : zyk n S (zylt T n S) := by
  unfold zylt
  cases h : zyx (zyn T n S) with
  | none => exact zyk_f 1 (by decide) S
  | some v => exact zyk_tr (zyk_a (zyn_lt (T := T) rfl (zyx_n h)).1) (zyk_e 1 v _)
theorem zyk_fa {T : Nat → Nat} {n : Nat} {G : Nat → zyS → zyS} (hG : ∀ o S, zyk n S (G o S)) (o : Nat) (S : zyS) : zyk n S (zyfa T n G o S) := by
  unfold zyfa
  split
  · exact zyk_rfl n S
  · split
    · rename_i h
      split
      · exact zyk_f 5 (by decide) S
      · exact zyk_tr (zyk_a (zyn_lt h (by decide)).1) (zyk_tr (hG _ _) (zyk_t (by decide) _))
    · split
      · exact zyk_nm 5 0 S
      · exact zyk_lt S
theorem zyi_n {is : Nat → Bool} (h1 : is 1000 = false) {T : Nat → Nat} {n : Nat} {S : zyS} (h : is (zyn T n S) = true) : S.p < n := (zyn_lt (T := T) (n := n) (S := S) rfl (fun e => by rw [e, h1] at h; cases h)).1
theorem zyk_lp {T : Nat → Nat} {n : Nat} {is : Nat → Bool} (h1 : is 1000 = false) {F : zyS → zyS} (hF : ∀ S, zyk n S (F S)) : ∀ f S, zyk n S (zylp T n is F f S)
  | 0, S => zyk_rfl n S
  | f + 1, S => by
    rw [zylp_s]
    split
    · rename_i h
      exact zyk_tr (zyk_a (zyi_n h1 h.2)) (zyk_tr (hF _) (zyk_tr (zyk_e _ _ _) (zyk_lp h1 hF f _)))
    · exact zyk_rfl n S
theorem zyk_tm {T : Nat → Nat} {n : Nat} {G : Nat → zyS → zyS} (hG : ∀ o S, zyk n S (G o S)) (o : Nat) (S : zyS) : zyk n S (zytm T n G o S) := zyk_tr (zyk_fa hG o S) (zyk_lp rfl (zyk_fa hG o) n _)
theorem zyk_su {T : Nat → Nat} {n : Nat} : ∀ d o S, zyk n S (zysu T n d o S)
  | 0, _, S => zyk_rfl n S
  | d + 1, o, S => by
    rw [zysu_s]
    exact zyk_tr (zyk_tm (zyk_su d) o S) (zyk_lp rfl (zyk_tm (zyk_su d) o) n _)
theorem zyk_cm {T : Nat → Nat} {n : Nat} (o : Nat) (S : zyS) : zyk n S (zycm T n o S) := by
  unfold zycm
  have a := zyk_su (T := T) (n := n) 8 o S
  by_cases h : zyi3 (zyn T n (zysu T n 8 o S)) = true
  · rw [if_pos h]
    unfold zycm2
    split
    · exact zyk_tr a (zyk_tr (zyk_a (zyi_n (is := zyi3) rfl h)) (zyk_tr (zyk_su 8 o _) (zyk_e _ _ _)))
    · exact a
  · rw [if_neg h]
    have e : (zyf 1 (zysu T n 8 o S)).e ≠ 0 := by
      by_cases he : (zysu T n 8 o S).e = 0
      · rw [zyf_e he]
        show 1000 * 1 + _ ≠ 0
        omega
      · rw [zyf_n he]
        exact he
    unfold zycm2
    rw [if_neg e]
    exact zyk_tr a (zyk_f 1 (by decide) _)
theorem zyk_ch {T : Nat → Nat} {n op c : Nat} (hc : c ≠ 1000) {F : zyS → zyS} (hF : ∀ S, zyk n S (F S)) : ∀ f b S, zyk n S (zych T n op c F f b S)
  | 0, b, S => zyk_d b S
  | f + 1, b, S => by
    rw [zych_s]
    split
    · rename_i h
      exact zyk_tr (zyk_a (zyn_lt h.2 hc).1) (zyk_tr (zyk_d b _) (zyk_tr (zyk_e _ _ _) (zyk_tr (hF _) (zyk_ch hc hF f _ _))))
    · exact zyk_d b S
theorem zyk_pa {T : Nat → Nat} {n : Nat} {PC : Nat → zyS → zyS} (hP : ∀ o S, zyk n S (PC o S)) (o : Nat) (S : zyS) : zyk n S (zypa T n PC o S) := zyk_tr (hP o S) (zyk_ch (by decide) (hP o) n none _)
theorem zyk_cn {T : Nat → Nat} {n : Nat} {PC : Nat → zyS → zyS} (hP : ∀ o S, zyk n S (PC o S)) (o : Nat) (S : zyS) : zyk n S (zycn T n PC o S) := zyk_tr (zyk_pa hP o S) (zyk_ch (by decide) (zyk_pa hP o) n none _)
theorem zyk_pi {T : Nat → Nat} {n : Nat} : ∀ d o S, zyk n S (zypi T n d o S)
  | 0, _, S => zyk_rfl n S
  | d + 1, o, S => by
    rw [zypi_s]
    split
    · exact zyk_rfl n S
    · split
      · exact zyk_cm o S
      · rename_i h
        have hp : S.p < n := by
          by_cases h33 : zyn T n S = 33
          · exact (zyn_lt h33 (by decide)).1
          · by_cases h40 : zyn T n S = 40
            · exact (zyn_lt h40 (by decide)).1
            · exact absurd ⟨h33, h40⟩ h
        split
        · exact zyk_f 5 (by decide) S
        · split
          · exact zyk_tr (zyk_a hp) (zyk_tr (zyk_pi d _ _) (zyk_e _ _ _))
          · exact zyk_tr (zyk_a hp) (zyk_tr (zyk_cn (zyk_pi d) _ _) (zyk_t (by decide) _))
