/-! ONE MORE: THE CLASS -/
theorem zScr_Cs {I J : Nat → Nat → Int32} (g : zCs I J) : zScr I J := by
  refine ⟨fun r h h8 h34 _ => g.1 r (fun e => by rw [e] at h; cases h) h8 h34 (fun e => by rw [e] at h; cases h) (fun e => by rw [e] at h; cases h), g.2, fun j _ => by rw [g.1 58 (by decide) (by decide) (by decide) (by decide) (by decide)]⟩
/-- the class's number of a cost: of none, something far -/
def zcn2 (o : Option Nat) (c : Nat) : Prop := match o with
  | none => 100000000 ≤ c
  | some x => c = x
theorem zcn2_1 (o : Option Nat) : zcn2 o (zC1 o) := by
  cases o with
  | none => exact Nat.le_refl _
  | some x => rfl
theorem zcn2_sm {o o' : Option Nat} {c c' : Nat} (h : zcn2 o c) (h' : zcn2 o' c') : zcn2 (zsm o o') (c + c') := by
  cases o with
  | none =>
    have h : 100000000 ≤ c := h
    show 100000000 ≤ c + c'
    omega
  | some x =>
    have h : c = x := h
    cases o' with
    | none =>
      have h' : 100000000 ≤ c' := h'
      show 100000000 ≤ c + c'
      omega
    | some x' =>
      have h' : c' = x' := h'
      show c + c' = x + x'
      omega
theorem zcn2_mn {o o' : Option Nat} {c c' : Nat} (h : zcn2 o c) (h' : zcn2 o' c') (b : ∀ x, o = some x → x < 100000000) (b' : ∀ x, o' = some x → x < 100000000) : zcn2 (zmn o o') (min c' c) := by
  cases o with
  | none =>
    have h : 100000000 ≤ c := h
    cases o' with
    | none =>
      have h' : 100000000 ≤ c' := h'
      show 100000000 ≤ min c' c
      omega
    | some x' =>
      have h' : c' = x' := h'
      have := b' x' rfl
      show min c' c = x'
      omega
  | some x =>
    have h : c = x := h
    have := b x rfl
    cases o' with
    | none =>
      have h' : 100000000 ≤ c' := h'
      show min c' c = x
      omega
    | some x' =>
      have h' : c' = x' := h'
      show min c' c = min x x'
      omega
theorem zsm_n (o : Option Nat) : zsm o none = none := by cases o <;> rfl
theorem zmn_no (o : Option Nat) : zmn o none = o := by cases o <;> rfl
theorem zvia_n (o1 o3 : Option Nat) : zvia o1 none o3 = none := zsm_n o1
theorem zpk_s (x : Nat) : zpk (some x) = nI x := rfl
theorem zvia_le {o1 o2 o3 : Option Nat} {a b c : Nat} (h1 : ∀ x, o1 = some x → x ≤ a) (h2 : ∀ x, o2 = some x → x ≤ b) (h3 : ∀ x, o3 = some x → x ≤ c) : ∀ x, zvia o1 o2 o3 = some x → x ≤ a + (b + c) := fun x hx => by
  obtain ⟨u, v, e1, e2, e3⟩ := zsm_some hx
  obtain ⟨u2, v2, e4, e5, e6⟩ := zsm_some e2
  have := h1 u e1
  have := h2 u2 e4
  have := h3 v2 e5
  omega
theorem zmn_cap {o o' : Option Nat} {m : Nat} (h1 : ∀ x, o = some x → x ≤ m) (h2 : ∀ x, o' = some x → x ≤ m) : ∀ x, zmn o o' = some x → x ≤ m := by
  intro x hx
  cases o with
  | none => exact h2 x hx
  | some u =>
    have := h1 u rfl
    cases o' with
    | none => exact h1 x hx
    | some v =>
      have e : min u v = x := Option.some.inj hx
      omega
/-- the town may be built on: what the class and the reference take for it -/
def zBd (L : zLw) (st : zSt) (a b so : Nat) : Prop := a < st.P ∧ b < st.P ∧ a ≠ b ∧ so ≤ 2 ∧ st.S < 40
theorem zBd_small {L : zLw} {st : zSt} {s : zQs} {I : Nat → Nat → Int32} (hR : RepW st I) {a b so : Nat} (h : zBd L st a b so) : zsmall L (zpl1 st a b so) ∧ st.ht a ≤ 200 ∧ st.ht b ≤ 200 := by
  obtain ⟨ha, hb, hab, hso, hS⟩ := h
  obtain ⟨t1, t2, t3, p, q, c, d, w, v, tp, ts⟩ := hR.2.1
  have hta := (tp a ha).1
  have htb := (tp b hb).1
  refine ⟨fun l x y k hk => ?_, hta, htb⟩
  refine zcs_le (L := L) (st := zpl1 st a b so) (fun j hj => (tp j hj).1) l (st.S + 1) (fun j hj => ?_) x y k hk
  show zup st.sa st.S a j < st.P ∧ zup st.sb st.S b j < st.P
  by_cases e : j = st.S
  · rw [e, zup_k, zup_k]; exact ⟨ha, hb⟩
  · rw [zup_n e, zup_n e]
    exact ⟨(ts j (by omega)).1, (ts j (by omega)).2.1⟩
theorem zpk_neg (o : Option Nat) (h : ∀ x, o = some x → x ≤ 9999) : (o = none → zpk o < 0) ∧ (o ≠ none → ¬ zpk o < 0) := by
  cases o with
  | none => exact ⟨fun _ => by decide, fun q => absurd rfl q⟩
  | some x => exact ⟨fun e => (nomatch e), fun _ => nI_pos (by have := h x rfl; omega)⟩
/-- one going's cost with the new stair, as the class reckons it -/
theorem zlp55x {L : zLw} {st : zSt} {s : zQs} {I : Nat → Nat → Int32} (hE : zEv L st s I) (hF : zFsh L st s I 0) {a b so : Nat} (hB : zBd L st a b so) {f t : Nat} (hf : f < st.P) (ht : t < st.P) (x6 x7 : Int32) (x10 : Value) :
    ∃ c, zQ_55 (44, [.ref 53, .int (nI a), .int (nI b), .int (nI so), .int (zpk (zthr L st a b so)), .int (zpk (zbck L st a b so)), .int x6, .int x7, .int (nI f), .int (nI t), x10], [.int (nI (zC1 (zdc L st 0 f t)))], zMk (s, I)) = zQ_55 (85, [.ref 53, .int (nI a), .int (nI b), .int (nI so), .int (zpk (zthr L st a b so)), .int (zpk (zbck L st a b so)), .int x6, .int x7, .int (nI f), .int (nI t), .int (nI c)], [], zMk (s, I)) ∧ zcn2 (zdc L (zpl1 st a b so) 0 f t) c ∧ c ≤ 100000000 := by
  have hP := zEv_P hE.1
  have hs := zEv_small (L := L) (s := s) hE.1
  obtain ⟨hs', hta, htb⟩ := zBd_small (s := s) hE.1 hB
  obtain ⟨ha, hb, hab, hso, hS⟩ := hB
  have c1 : ∀ x, zthr L st a b so = some x → x ≤ 9999 := zcost_cap htb
  have c2 : ∀ x, zbck L st a b so = some x → x ≤ 9999 := zbck_cap hta
  obtain ⟨n1, n2⟩ := zpk_neg _ c1
  obtain ⟨m1, m2⟩ := zpk_neg _ c2
  have dl := fun (x y : Nat) (hx : x < st.P) (hy : y < st.P) => fun k (hk : zdc L st 0 x y = some k) => zdc_le hs hP hx hy hk
  have dC := fun (x y : Nat) (hx : x < st.P) (hy : y < st.P) => (zC1_le (dl x y hx hy)).1
  have e1 : zf_121 [.ref 16, .int (nI f), .int (nI a), .int 0] (zMk (s, I)) = _ := zf121 hE (l := 0) (by decide) hF hf ha
  have e2 : zf_121 [.ref 16, .int (nI b), .int (nI t), .int 0] (zMk (s, I)) = _ := zf121 hE (l := 0) (by decide) hF hb ht
  have e3 : zf_121 [.ref 16, .int (nI f), .int (nI b), .int 0] (zMk (s, I)) = _ := zf121 hE (l := 0) (by decide) hF hf hb
  have e4 : zf_121 [.ref 16, .int (nI a), .int (nI t), .int 0] (zMk (s, I)) = _ := zf121 hE (l := 0) (by decide) hF ha ht
  have b0 := dC f t hf ht
  have b1 := dC f a hf ha
  have b2 := dC b t hb ht
  have b3 := dC f b hf hb
  have b4 := dC a t ha ht
  have h0 := zcn2_1 (zdc L st 0 f t)
  have cap0 : ∀ x, zdc L st 0 f t = some x → x < 100000000 := fun x hx => by have := dl f t hf ht x hx; omega
  have v1 : ∀ u, zthr L st a b so = some u → zcn2 (zvia (zdc L st 0 f a) (zthr L st a b so) (zdc L st 0 b t)) (zC1 (zdc L st 0 f a) + (u + zC1 (zdc L st 0 b t))) := fun u hu => by
    rw [hu]
    exact zcn2_sm (zcn2_1 _) (zcn2_sm (o := some u) rfl (zcn2_1 _))
  have v2 : ∀ u, zbck L st a b so = some u → zcn2 (zvia (zdc L st 0 f b) (zbck L st a b so) (zdc L st 0 a t)) (zC1 (zdc L st 0 f b) + (u + zC1 (zdc L st 0 a t))) := fun u hu => by
    rw [hu]
    exact zcn2_sm (zcn2_1 _) (zcn2_sm (o := some u) rfl (zcn2_1 _))
  have cv1 : ∀ x, zvia (zdc L st 0 f a) (zthr L st a b so) (zdc L st 0 b t) = some x → x < 100000000 := fun x hx => by have := zvia_le (dl f a hf ha) c1 (dl b t hb ht) x hx; omega
  have cv2 : ∀ x, zvia (zdc L st 0 f b) (zbck L st a b so) (zdc L st 0 a t) = some x → x < 100000000 := fun x hx => by have := zvia_le (dl f b hf hb) c2 (dl a t ha ht) x hx; omega
  rw [zdc_pl hs hs' hP ha hb hab hta htb hf ht, zq_55_44]
  cases hth : zthr L st a b so with
  | none =>
    rw [hth] at n1
    rw [if_pos (n1 rfl), zvia_n]
    show ∃ c, _ ∧ zcn2 (zmn (zdc L st 0 f t) (zvia (zdc L st 0 f b) (zbck L st a b so) (zdc L st 0 a t))) c ∧ _
    cases hbk : zbck L st a b so with
    | none =>
      rw [hbk] at m1
      rw [if_pos (m1 rfl), zvia_n, zmn_no]
      exact ⟨_, rfl, h0, b0⟩
    | some v =>
      rw [hbk] at m2 cv2
      have v2 := v2 v hbk
      rw [hbk] at v2
      have hv := c2 v hbk
      rw [if_neg (m2 (fun e => nomatch e)), e3, zcI_some, zq_55_74, e4, zcI_some, zq_55_82, zpk_s, nI_add, nI_add, Nat.add_assoc, nI_min (by omega) (by omega)]
      exact ⟨_, rfl, zcn2_mn h0 v2 cap0 cv2, by omega⟩
  | some u =>
    rw [hth] at n2 cv1
    have v1 := v1 u hth
    rw [hth] at v1
    have hu := c1 u hth
    have st1 := zcn2_mn h0 v1 cap0 cv1
    have capm : ∀ x, zmn (zdc L st 0 f t) (zvia (zdc L st 0 f a) (some u) (zdc L st 0 b t)) = some x → x < 100000000 := fun x hx => by
      have := zmn_cap (m := 99999999) (fun y hy => by have := cap0 y hy; omega) (fun y hy => by have := cv1 y hy; omega) x hx
      omega
    have assoc : ∀ o1 o2 o3 : Option Nat, zmn o1 (zmn o2 o3) = zmn (zmn o1 o2) o3 := fun o1 o2 o3 => by
      cases o1 <;> cases o2 <;> cases o3 <;> first | rfl | exact congrArg some (Nat.min_assoc _ _ _).symm
    rw [assoc, if_neg (n2 (fun e => nomatch e)), e1, zcI_some, zq_55_54, e2, zcI_some, zq_55_62, zpk_s, nI_add, nI_add, Nat.add_assoc, nI_min (by omega) (by omega)]
    cases hbk : zbck L st a b so with
    | none =>
      rw [hbk] at m1
      rw [if_pos (m1 rfl), zvia_n, zmn_no]
      exact ⟨_, rfl, st1, by omega⟩
    | some v =>
      rw [hbk] at m2 cv2
      have v2 := v2 v hbk
      rw [hbk] at v2
      have hv := c2 v hbk
      rw [if_neg (m2 (fun e => nomatch e)), e3, zcI_some, zq_55_74, e4, zcI_some, zq_55_82, zpk_s, nI_add, nI_add, Nat.add_assoc, nI_min (by omega) (by omega)]
      exact ⟨_, rfl, zcn2_mn st1 v2 capm cv2, by omega⟩
theorem zval_cap {L : zLw} {st : zSt} (hs : zsmall L st) (hP : st.P ≤ 20) {a b : Nat} (ha : a < st.P) (hb : b < st.P) : zval (zdc L st 0 a b) ≤ 189981 := by
  cases h : zdc L st 0 a b with
  | none => decide
  | some x => exact zdc_le hs hP ha hb h
theorem zlp55 {L : zLw} {st : zSt} {s : zQs} {I : Nat → Nat → Int32} (hE : zEv L st s I) (hF : zFsh L st s I 0) {a b so : Nat} (hB : zBd L st a b so) : ∀ d q (x8 x9 x10 : Value), q + d = st.Q →
    zQ_55 (23, [.ref 53, .int (nI a), .int (nI b), .int (nI so), .int (zpk (zthr L st a b so)), .int (zpk (zbck L st a b so)), .int (nI (zsu (fun q => zval (zdc L (zpl1 st a b so) 0 (st.pf q) (st.pt q))) q)), .int (nI q), x8, x9, x10], [], zMk (s, I)) = some (.int (nI (zVo L st so a b)), zMk (s, I))
  | 0, q, x8, x9, x10, h => by
    have h : q = st.Q := by omega
    subst h
    obtain ⟨hQ, q1, -, -⟩ := hE.1.2.2.2.2.2.1
    rw [zq_55_23, q1, if_pos (nI_le (Nat.le_refl _) (by omega))]
    rfl
  | d + 1, q, x8, x9, x10, h => by
    have hq : q < st.Q := by omega
    have hP := zEv_P hE.1
    obtain ⟨hQ, q1, -, hfo⟩ := hE.1.2.2.2.2.2.1
    obtain ⟨f1, f2, f3, f4, f5, -⟩ := hfo q hq
    obtain ⟨hs', -, -⟩ := zBd_small (s := s) hE.1 hB
    have zq8 := zb_t (show q < 8 by omega) (show q < 2 ^ 31 by omega)
    have cq : (nI q).toNatClampNeg = q := nI_clamp (by omega)
    have e0 : zf_121 [.ref 16, .int (nI (st.pf q)), .int (nI (st.pt q)), .int 0] (zMk (s, I)) = _ := zf121 hE (l := 0) (by decide) hF f1 f2
    obtain ⟨c, e, hc, hcl⟩ := zlp55x hE hF hB f1 f2 (nI (zsu (fun q => zval (zdc L (zpl1 st a b so) 0 (st.pf q) (st.pt q))) q)) (nI q) x10
    have nx := fun x8 x9 x10 => zlp55 hE hF hB d (q + 1) x8 x9 x10 (by omega)
    rw [zsu_s] at nx
    rw [zq_55_23, q1, if_neg (nI_ge hq (by omega)), zl_17, if_pos zq8, cq, f4, zcI_some, zq_55_32, zl_18, if_pos zq8, cq, f5, zcI_some, zq_55_37, e0, zcI_some, e, zq_55_85, nI_1]
    cases hz : zdc L (zpl1 st a b so) 0 (st.pf q) (st.pt q) with
    | none =>
      rw [hz] at hc nx
      have hc : 100000000 ≤ c := hc
      rw [if_neg (show ¬ nI c < 100000000 from nI_nlt (b := 100000000) hc (by omega)), show nI (zsu (fun q => zval (zdc L (zpl1 st a b so) 0 (st.pf q) (st.pt q))) q) + 1000 = nI (zsu (fun q => zval (zdc L (zpl1 st a b so) 0 (st.pf q) (st.pt q))) q + 1000) from nI_add _ 1000]
      exact nx _ _ _
    | some x =>
      rw [hz] at hc nx
      have hc : c = x := hc
      have hx := zdc_le hs' (show (zpl1 st a b so).P ≤ 20 from hP) (show st.pf q < (zpl1 st a b so).P from f1) (show st.pt q < (zpl1 st a b so).P from f2) hz
      subst hc
      rw [if_pos (show nI c < 100000000 from nI_lt (b := 100000000) (by omega) (by decide)), nI_add]
      exact nx _ _ _
theorem zf55 {L : zLw} {st : zSt} {s : zQs} {I : Nat → Nat → Int32} (hE : zEv L st s I) (hF : zFsh L st s I 0) {a b so : Nat} (hB : zBd L st a b so) :
    ∃ J, zf_55 [.ref 53, .int (nI a), .int (nI b), .int (nI so)] (zMk (s, I)) = some (.int (nI (zVo L st so a b)), zMk (s, J)) ∧ zCs I J := by
  have hP := zEv_P hE.1
  have tw := fun {J : Nat → Nat → Int32} (hE : zEv L st s J) => hE.1.2.1
  obtain ⟨ha, hb, hab, hso, hS⟩ := id hB
  have al := fun {J : Nat → Nat → Int32} (hE : zEv L st s J) {x y : Nat} (hx : x < st.P) (hy : y < st.P) => zalongn s hE.2.1 (st := st) (fun j hj => ⟨((tw hE).2.2.2.2.2.2.2.2.2.1 j hj).1, ((tw hE).2.2.2.2.2.2.2.2.2.1 j hj).2.1⟩) hP (tw hE).2.2.2.2.2.2.2.1 (tw hE).2.2.2.2.2.1 (so := so) hx hy
  obtain ⟨J1, e1, c1⟩ := al hE ha hb
  have hE1 := zEv_Cs hE c1
  have fin : ∀ J, zCs I J → zQ_55 (18, [.ref 53, .int (nI a), .int (nI b), .int (nI so), .int (zpk (zthr L st a b so)), .long 0, .long 0, .long 0, .long 0, .long 0, .long 0], [.int (zpk (zbck L st a b so))], zMk (s, J)) = some (.int (nI (zVo L st so a b)), zMk (s, J)) := fun J c => by
    rw [zq_55_18]
    exact zlp55 (zEv_Cs hE c) (zFsh_Scr hF (zScr_Cs c)) hB st.Q 0 (.long 0) (.long 0) (.long 0) (Nat.zero_add _)
  have st1 : zf_55 [.ref 53, .int (nI a), .int (nI b), .int (nI so)] (zMk (s, I)) = zQ_55 (6, [.ref 53, .int (nI a), .int (nI b), .int (nI so), .long 0, .long 0, .long 0, .long 0, .long 0, .long 0, .long 0], [.int (zpk (zthr L st a b so))], zMk (s, J1)) := by
    rw [zqz_55, zq_55_0, e1, zcI_some]
    rfl
  rw [st1, zq_55_6]
  by_cases h1 : so = 1
  · refine ⟨J1, ?_, c1⟩
    rw [if_neg (not_not_intro (show nI so = 1 by rw [h1]; rfl))]
    have e := fin J1 c1
    rw [show zbck L st a b so = none from if_pos h1] at e
    exact e
  · obtain ⟨J2, e2, c2⟩ := al hE1 hb ha
    refine ⟨J2, ?_, zCs_tr c1 c2⟩
    rw [if_pos (show ¬ nI so = 1 from nI_ne (b := 1) h1 (by omega) (by decide)), e2, zcI_some]
    have e := fin J2 (zCs_tr c1 c2)
    rw [show zbck L st a b so = zcost L st b a so st.S 0 from if_neg h1] at e
    exact e
/-- the best so far, as the class keeps it -/
def zqo (q : Option (Nat × Nat × Nat)) (I : Nat → Nat → Int32) : Prop := match q with
  | none => I 53 5 = 100000000
  | some r => I 53 5 = nI r.1 ∧ I 53 3 = nI r.2.1 ∧ I 53 4 = nI r.2.2 ∧ r.1 ≤ 2000000
theorem zVo_cap {L : zLw} {st : zSt} {s : zQs} {I : Nat → Nat → Int32} (hR : RepW st I) {a b so : Nat} (hB : zBd L st a b so) : zVo L st so a b ≤ 1519848 := by
  obtain ⟨hs', -, -⟩ := zBd_small (s := s) hR hB
  obtain ⟨hQ, -, -, hfo⟩ := hR.2.2.2.2.2.1
  have hP : (zpl1 st a b so).P ≤ 20 := (zEv_P hR : st.P ≤ 20)
  have := zsu_cap (f := fun q => zval (zdc L (zpl1 st a b so) 0 (st.pf q) (st.pt q))) (m := 189981) st.Q (fun i hi => zval_cap hs' hP (hfo i hi).1 (hfo i hi).2.1)
  unfold zVo
  omega
theorem zlp54i {L : zLw} {st : zSt} {s : zQs} {a so : Nat} (ha : a < st.P) (hso : so ≤ 2) (hS : st.S < 40) : ∀ d b (I : Nat → Nat → Int32) (q : Option (Nat × Nat × Nat)) (x4 : Value), b + d = st.P → (so ≠ 1 → a < b) → zEv L st s I → zFsh L st s I 0 → zqo q I →
    ∃ J x4', zQ_54 (23, [.ref 53, .int (nI so), .int (nI a), .int (nI b), x4], [], zMk (s, I)) = zQ_54 (9, [.ref 53, .int (nI so), .int (nI (a + 1)), .int (nI st.P), x4'], [], zMk (s, J)) ∧ zScr I J ∧ zqo (zoin (zVo L st so) (zcd st so) a d b q) J
  | 0, b, I, q, x4, h, hlt, hE, hF, hq => by
    have h : b = st.P := by omega
    subst h
    have hP := zEv_P hE.1
    refine ⟨I, x4, ?_, zScr_rfl I, hq⟩
    rw [zq_54_23, zEv_p1 hE.1, if_pos (nI_le (Nat.le_refl _) (by omega)), nI_1]
  | d + 1, b, I, q, x4, h, hlt, hE, hF, hq => by
    have hP := zEv_P hE.1
    have hb : b < st.P := by omega
    rw [zq_54_23, zEv_p1 hE.1, if_neg (nI_ge hb (by omega)), nI_1, zoin_s]
    by_cases hab : a = b
    · have hc : zcd st so a b = false := by unfold zcd; rw [decide_eq_false (not_not_intro hab), Bool.false_and]
      rw [zost_no hc, if_pos (show nI a = nI b by rw [hab])]
      exact zlp54i ha hso hS d (b + 1) I q _ (by omega) (fun q => by have := hlt q; omega) hE hF hq
    rw [if_neg (nI_ne hab (by omega) (by omega))]
    have hB : zBd L st a b so := ⟨ha, hb, hab, hso, hS⟩
    -- a stair that may be built
    have go : zcd st so a b = true → ∃ J x4', (zcI (zf_55 [.ref 53, .int (nI a), .int (nI b), .int (nI so)] (zMk (s, I))) fun v M => zQ_54 (46, [.ref 53, .int (nI so), .int (nI a), .int (nI b), x4], [.int v], M)) = zQ_54 (9, [.ref 53, .int (nI so), .int (nI (a + 1)), .int (nI st.P), x4'], [], zMk (s, J)) ∧ zScr I J ∧ zqo (zoin (zVo L st so) (zcd st so) a d (b + 1) (zost (zVo L st so) (zcd st so) a b q)) J := by
      intro hc
      obtain ⟨J1, e1, c1⟩ := zf55 hE hF hB
      have sc1 := zScr_Cs c1
      have k53 : J1 53 = I 53 := c1.1 53 (by decide) (by decide) (by decide) (by decide) (by decide)
      have hV := zVo_cap (s := s) (L := L) hE.1 hB
      rw [e1, zcI_some, zq_54_46, nI_1, k53]
      have no : zost (zVo L st so) (zcd st so) a b q = q → nI (zVo L st so a b) ≥ I 53 5 → ∃ J x4', (if I 53 5 ≤ nI (zVo L st so a b) then zQ_54 (23, [.ref 53, .int (nI so), .int (nI a), .int (nI (b + 1)), .int (nI (zVo L st so a b))], [], zMk (s, J1)) else zQ_54 (23, [.ref 53, .int (nI so), .int (nI a), .int (nI (b + 1)), .int (nI (zVo L st so a b))], [], zMk (s, zwA (zwA (zwA J1 53 (upd (I 53) 5 (nI (zVo L st so a b)))) 53 (upd (upd (I 53) 5 (nI (zVo L st so a b))) 3 (nI a))) 53 (upd (upd (upd (I 53) 5 (nI (zVo L st so a b))) 3 (nI a)) 4 (nI b))))) = zQ_54 (9, [.ref 53, .int (nI so), .int (nI (a + 1)), .int (nI st.P), x4'], [], zMk (s, J)) ∧ zScr I J ∧ zqo (zoin (zVo L st so) (zcd st so) a d (b + 1) (zost (zVo L st so) (zcd st so) a b q)) J := fun e0 hle => by
        obtain ⟨J, x4', e, j1, j2⟩ := zlp54i ha hso hS d (b + 1) J1 q (.int (nI (zVo L st so a b))) (by omega) (fun q => by have := hlt q; omega) (zEv_Cs hE c1) (zFsh_Scr hF sc1) (by
          unfold zqo at hq ⊢
          rw [k53]
          exact hq)
        refine ⟨J, x4', ?_, zScr_tr sc1 j1, by rw [e0]; exact j2⟩
        rw [if_pos hle]
        exact e
      have yes : zost (zVo L st so) (zcd st so) a b q = some (zVo L st so a b, a, b) → ¬ I 53 5 ≤ nI (zVo L st so a b) → ∃ J x4', (if I 53 5 ≤ nI (zVo L st so a b) then zQ_54 (23, [.ref 53, .int (nI so), .int (nI a), .int (nI (b + 1)), .int (nI (zVo L st so a b))], [], zMk (s, J1)) else zQ_54 (23, [.ref 53, .int (nI so), .int (nI a), .int (nI (b + 1)), .int (nI (zVo L st so a b))], [], zMk (s, zwA (zwA (zwA J1 53 (upd (I 53) 5 (nI (zVo L st so a b)))) 53 (upd (upd (I 53) 5 (nI (zVo L st so a b))) 3 (nI a))) 53 (upd (upd (upd (I 53) 5 (nI (zVo L st so a b))) 3 (nI a)) 4 (nI b))))) = zQ_54 (9, [.ref 53, .int (nI so), .int (nI (a + 1)), .int (nI st.P), x4'], [], zMk (s, J)) ∧ zScr I J ∧ zqo (zoin (zVo L st so) (zcd st so) a d (b + 1) (zost (zVo L st so) (zcd st so) a b q)) J := fun e0 hle => by
        have sc2 : zScr J1 (zwA (zwA (zwA J1 53 (upd (I 53) 5 (nI (zVo L st so a b)))) 53 (upd (upd (I 53) 5 (nI (zVo L st so a b))) 3 (nI a))) 53 (upd (upd (upd (I 53) 5 (nI (zVo L st so a b))) 3 (nI a)) 4 (nI b))) := zScr_tr (zScr_w (k := 53) rfl _) (zScr_tr (zScr_w (k := 53) rfl _) (zScr_w (k := 53) rfl _))
        obtain ⟨J, x4', e, j1, j2⟩ := zlp54i ha hso hS d (b + 1) _ (some (zVo L st so a b, a, b)) (.int (nI (zVo L st so a b))) (by omega) (fun q => by have := hlt q; omega) (zEv_Scr (zEv_Cs hE c1) sc2) (zFsh_Scr (zFsh_Scr hF sc1) sc2) (by
          refine ⟨?_, ?_, ?_, by show zVo L st so a b ≤ 2000000; omega⟩
          · rw [zwA_s, upd_at, if_neg (by decide), upd_at, if_neg (by decide), upd_at, if_pos rfl]
          · rw [zwA_s, upd_at, if_neg (by decide), upd_at, if_pos rfl]
          · rw [zwA_s, upd_at, if_pos rfl])
        refine ⟨J, x4', ?_, zScr_tr sc1 (zScr_tr sc2 j1), by rw [e0]; exact j2⟩
        rw [if_neg hle]
        exact e
      cases q with
      | none =>
        have hq : I 53 5 = 100000000 := hq
        refine yes (by unfold zost; rw [hc]; rfl) ?_
        rw [hq]
        exact nI_ge (b := 100000000) (by omega) (by decide)
      | some r =>
        obtain ⟨q1, q2, q3, q4⟩ := hq
        by_cases hl : zVo L st so a b < r.1
        · refine yes (by unfold zost; rw [hc, if_pos rfl]; exact if_pos hl) ?_
          rw [q1]
          exact nI_ge hl (by omega)
        · refine no (by unfold zost; rw [hc, if_pos rfl]; exact if_neg hl) ?_
          rw [q1]
          exact nI_le (by omega) (by omega)
    by_cases h1 : so = 1
    · rw [if_neg (not_not_intro (show nI so = 1 by rw [h1]; rfl))]
      obtain ⟨t1, t2, -⟩ := hE.1.2.1.2.2.2.2.2.2.2.2.2.1 a ha
      obtain ⟨u1, u2, -⟩ := hE.1.2.1.2.2.2.2.2.2.2.2.2.1 b hb
      rw [zl_99, if_pos (zb_t (show a < 20 by omega) (by omega)), if_pos (zb_t (show b < 20 by omega) (by omega)), nI_clamp (show a < 2 ^ 31 by omega), nI_clamp (show b < 2 ^ 31 by omega), t2, u2]
      by_cases hh : st.ht a < st.ht b
      · have hc : zcd st so a b = false := by unfold zcd; rw [if_pos h1, decide_eq_false (show ¬ st.ht b ≤ st.ht a by omega), Bool.and_false]
        rw [zost_no hc, if_pos (nI_lt hh (by omega)), zcI_some, zq_54_39, if_neg (not_not_intro rfl), nI_1]
        exact zlp54i ha hso hS d (b + 1) I q _ (by omega) (fun q => absurd h1 q) hE hF hq
      · have hc : zcd st so a b = true := by unfold zcd; rw [if_pos h1, decide_eq_true hab, decide_eq_true (show st.ht b ≤ st.ht a by omega)]; rfl
        rw [if_neg (nI_nlt (by omega) (by omega)), zcI_some, zq_54_39, if_pos (show ¬ (1 : Int32) = 0 by decide)]
        exact go hc
    · rw [if_pos (show ¬ nI so = 1 from nI_ne (b := 1) h1 (by omega) (by decide))]
      exact go (by unfold zcd; rw [if_neg h1, decide_eq_true hab, decide_eq_true (hlt h1)]; rfl)
theorem zlp54 {L : zLw} {st : zSt} {s : zQs} {so : Nat} (hso : so ≤ 2) (hS : st.S < 40) : ∀ d a (I : Nat → Nat → Int32) (q : Option (Nat × Nat × Nat)) (x3 x4 : Value), a + d = st.P → zEv L st s I → zFsh L st s I 0 → zqo q I →
    ∃ J, zQ_54 (9, [.ref 53, .int (nI so), .int (nI a), x3, x4], [], zMk (s, I)) = some (.long 0, zMk (s, J)) ∧ zScr I J ∧ zqo (zoou (zVo L st so) (zcd st so) st.P d a q) J
  | 0, a, I, q, x3, x4, h, hE, hF, hq => by
    have h : a = st.P := by omega
    subst h
    have hP := zEv_P hE.1
    refine ⟨I, ?_, zScr_rfl I, hq⟩
    rw [zq_54_9, zEv_p1 hE.1, if_pos (nI_le (Nat.le_refl _) (by omega))]
  | d + 1, a, I, q, x3, x4, h, hE, hF, hq => by
    have hP := zEv_P hE.1
    have ha : a < st.P := by omega
    have go : ∀ b0, b0 ≤ st.P → (so ≠ 1 → a < b0) → zoin (zVo L st so) (zcd st so) a (st.P - b0) b0 q = zoin (zVo L st so) (zcd st so) a st.P 0 q → ∃ J, zQ_54 (23, [.ref 53, .int (nI so), .int (nI a), .int (nI b0), x4], [], zMk (s, I)) = some (.long 0, zMk (s, J)) ∧ zScr I J ∧ zqo (zoou (zVo L st so) (zcd st so) st.P (d + 1) a q) J := fun b0 hb0 hlt he => by
      obtain ⟨J1, x4', e1, s1, q1⟩ := zlp54i ha hso hS (st.P - b0) b0 I q x4 (by omega) hlt hE hF hq
      rw [he] at q1
      obtain ⟨J, e, s2, q2⟩ := zlp54 hso hS d (a + 1) J1 _ (.int (nI st.P)) x4' (by omega) (zEv_Scr hE s1) (zFsh_Scr hF s1) q1
      exact ⟨J, e1.trans e, zScr_tr s1 s2, q2⟩
    rw [zq_54_9, zEv_p1 hE.1, if_neg (nI_ge ha (by omega)), nI_1]
    by_cases h1 : so = 1
    · rw [if_neg (not_not_intro (show nI so = 1 by rw [h1]; rfl))]
      exact go 0 (by omega) (fun q => absurd h1 q) rfl
    · rw [if_pos (show ¬ nI so = 1 from nI_ne (b := 1) h1 (by omega) (by decide))]
      refine go (a + 1) (by omega) (fun _ => by omega) ?_
      have e := zoin_skip (V := zVo L st so) (cd := zcd st so) (a := a) (P := st.P) (q := q) (a + 1) 0 (by omega) (fun j _ hj => by unfold zcd; rw [if_neg h1, decide_eq_false (show ¬ a < j by omega), Bool.and_false])
      rw [Nat.zero_add, Nat.sub_zero] at e
      exact e.symm
theorem zf54 {L : zLw} {st : zSt} {s : zQs} {I : Nat → Nat → Int32} {so : Nat} (hE : zEv L st s I) (hso : so ≤ 2) (hS : st.S < 40) :
    ∃ s' J, zf_54 [.ref 53, .int (nI so)] (zMk (s, I)) = some (.long 0, zMk (s', J)) ∧ zEv L st s' J ∧ zXe I J ∧ zqo (zoou (zVo L st so) (zcd st so) st.P st.P 0 none) J := by
  obtain ⟨s1, J1, e1, hE1, hF1, cv, -⟩ := zfresh0 hE
  have sc0 : zScr J1 (zwA J1 53 (upd (J1 53) 5 100000000)) := zScr_w (k := 53) rfl _
  obtain ⟨J, e, sc, hq⟩ := zlp54 (L := L) (s := s1) hso hS st.P 0 (zwA J1 53 (upd (J1 53) 5 100000000)) none (.long 0) (.long 0) (Nat.zero_add _) (zEv_Scr hE1 sc0) (zFsh_Scr hF1 sc0) (by show zwA J1 53 (upd (J1 53) 5 100000000) 53 5 = 100000000; rw [zwA_s, upd_at, if_pos rfl])
  refine ⟨s1, J, ?_, zEv_Scr (zEv_Scr hE1 sc0) sc, zXe_tr (zXe_Cv cv) (zXe_Scr (zScr_tr sc0 sc)), hq⟩
  rw [zqz_54, zq_54_0, e1, zcV_some, zq_54_4]
  exact e
