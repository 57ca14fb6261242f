/-! CALLS THAT ASK FOR WAYS -/
def zPr (L : zLw) (st : zSt) (s : zQs) (I : Nat → Nat → Int32) (f g : zM → Option (Value × zM)) : Prop :=
  ∃ v s1 I1 s2 I2 L' st', f (zMk (s, I)) = some (.int v, zMk (s1, I1)) ∧ g (zMk (s1, I1)) = some (.int v, zMk (s2, I2)) ∧ zEv L' st' s2 I2 ∧ (zXx st I → zXx st' I2) ∧ st'.V ≤ st.V + 1
theorem zPr_mk {L : zLw} {st : zSt} {s : zQs} {I : Nat → Nat → Int32} {f g : zM → Option (Value × zM)} {v : Int32} {s1 : zQs} {I1 I2 : Nat → Nat → Int32} (e1 : f (zMk (s, I)) = some (.int v, zMk (s1, I1))) (e2 : g (zMk (s1, I1)) = some (.int v, zMk (s1, I2))) (h : zEv L st s1 I2) (hx : zXe I I2) : zPr L st s I f g :=
  ⟨v, s1, I1, s1, I2, L, st, e1, e2, h, fun q => zXx_e q hx, Nat.le_succ _⟩
theorem zPr_same {L : zLw} {st : zSt} {s : zQs} {I : Nat → Nat → Int32} {f g : zM → Option (Value × zM)} (h : zEv L st s I) {v : Int32} (e1 : f (zMk (s, I)) = some (.int v, zMk (s, I))) (e2 : g (zMk (s, I)) = some (.int v, zMk (s, I))) : zPr L st s I f g := zPr_mk e1 e2 h ⟨rfl, rfl, rfl, rfl, rfl, rfl⟩
theorem zcs_town {L : zLw} {st st' : zSt} {l : Nat} (hW : st'.W = st.W) (hh : st'.ht = st.ht) (ha : st'.sa = st.sa) (hb : st'.sb = st.sb) (ho : st'.so = st.so) : ∀ n, zcs L st' l n = zcs L st l n := by
  have e1 : ∀ a b so n, zls st' a b so n l = zls st a b so n l := fun a b so n => by unfold zls; rw [hW, hh]
  have e2 : ∀ a b so n, zcost L st' a b so n l = zcost L st a b so n l := fun a b so n => by unfold zcost; rw [e1]
  have e3 : ∀ n back, zgo L st' n back l = zgo L st n back l := fun n back => by unfold zgo; simp only [e2, ha, hb, ho]
  intro n
  induction n with
  | zero => rfl
  | succ n ih =>
    funext a b
    show zmn (zmn (zcs L st' l n a b) (if st'.sa n = a ∧ st'.sb n = b then zgo L st' n false l else none)) (if st'.sb n = a ∧ st'.sa n = b then zgo L st' n true l else none) = zmn (zmn (zcs L st l n a b) (if st.sa n = a ∧ st.sb n = b then zgo L st n false l else none)) (if st.sb n = a ∧ st.sa n = b then zgo L st n true l else none)
    rw [ih, e3, e3, ha, hb]
theorem zLaw_keep {L : zLw} {s : zQs} {I J : Nat → Nat → Int32} (h : zLaw L s I) (g : zkeep I J) : zLaw L s J := by
  obtain ⟨h1, h2, h3⟩ := h
  obtain ⟨k, g2⟩ := g
  refine ⟨h1, ?_, ?_⟩
  · rw [g2, k 70 (by unfold zlws; omega), k 71 (by unfold zlws; omega), k 72 (by unfold zlws; omega), k 73 (by unfold zlws; omega), k 74 (by unfold zlws; omega)]
    exact h2
  · rw [k 8 (by unfold zlws; omega), k 9 (by unfold zlws; omega), k 10 (by unfold zlws; omega), k 11 (by unfold zlws; omega), k 12 (by unfold zlws; omega), k 13 (by unfold zlws; omega), k 14 (by unfold zlws; omega), k 34 (by unfold zlws; omega), k 35 (by unfold zlws; omega), k 36 (by unfold zlws; omega), k 37 (by unfold zlws; omega), k 38 (by unfold zlws; omega), k 39 (by unfold zlws; omega), k 40 (by unfold zlws; omega)]
    exact h3
theorem zWy_keep {L : zLw} {st st' : zSt} {s : zQs} {I J : Nat → Nat → Int32} (h : zWy L st s I) (g : zkeep I J) (hv : zvers st st') : zWy L st' s J := by
  obtain ⟨a, b, c, d, e⟩ := zWy_fr (J := J) h (g.1 18 (by unfold zlws; omega)) (fun r hr => g.1 r (by unfold zlws; omega))
  refine ⟨a, b, c, d, fun k t hk hs => ?_⟩
  obtain ⟨v, v1, v2, v3⟩ := e k t hk hs
  rcases hv with hv | ⟨w1, w2, w3, w4, w5, w6, w7, w8⟩
  · exact ⟨v, by omega, v2, fun q => absurd q (by omega)⟩
  · refine ⟨v, by omega, v2, fun q => ?_⟩
    rw [w2, w3, zcs_town w4 w5 w6 w7 w8]
    exact v3 (by omega)
theorem zPr_of {L : zLw} {st : zSt} {s : zQs} {I : Nat → Nat → Int32} {f g : zM → Option (Value × zM)} (hE : zEv L st s I) (h : zPair s I st f g) : zPr L st s I f g := by
  obtain ⟨v, I1, I2, st', e1, e2, hr, hk, hv⟩ := h
  exact ⟨v, s, I1, s, I2, L, st', e1, e2, ⟨RepW_of hr, zLaw_keep hE.2.1 hk, zWy_keep hE.2.2 hk hv⟩, fun _ => zXx_of hr, by rcases hv with hv | hv <;> omega⟩
/-- behind the class's going -/
theorem zEv_Cs {L : zLw} {st : zSt} {s : zQs} {I J : Nat → Nat → Int32} (h : zEv L st s I) (g : zCs I J) : zEv L st s J :=
  zEv_Scr h ⟨fun r hr r8 r34 _ => g.1 r (fun e => by subst e; cases hr) r8 r34 (fun e => by subst e; cases hr) (fun e => by subst e; cases hr), g.2, fun j _ => by rw [g.1 58 (by decide) (by decide) (by decide) (by decide) (by decide)]⟩
theorem zp_going {L : zLw} {st : zSt} {s : zQs} {I : Nat → Nat → Int32} (hE : zEv L st s I) (x1 x3 b : Int32) (hb : b = 0 ∨ b = 1) : zPr L st s I (zf_145 [.ref 0, .int x1, .int b, .int x3]) (zf_215 [.ref 58, .int x1, .int b, .int x3]) := by
  obtain ⟨⟨hv, ev⟩, ⟨t1, t2, t3, p, q, sa, sb, w, v, tp, ts⟩, -⟩ := id hE.1
  by_cases h1 : zlt x1 st.S
  case neg =>
    refine zPr_same hE (v := -1) ?_ ?_
    · rw [zqz_145, zq_145_0, sa]
      by_cases h0 : x1 < 0
      · rw [if_pos h0]
      · rw [if_neg h0, if_pos (Classical.byContradiction fun q => h1 ((zlt_iff (by omega)).mpr ⟨h0, q⟩))]
    · rw [zqz_215, zq_215_0, sb]
      by_cases h0 : x1 < 0
      · rw [if_pos h0]
      · rw [if_neg h0, if_pos (Classical.byContradiction fun q => h1 ((zlt_iff (by omega)).mpr ⟨h0, q⟩))]
  obtain ⟨g1, g2⟩ := (zlt_iff (by omega)).mp h1
  by_cases h3 : zin x3 99
  case neg =>
    refine zPr_same hE (v := -1) ?_ ?_
    · rw [zqz_145, zq_145_0, sa, if_neg g1, if_neg g2, wi_f (m := 99) 99 rfl (by decide) h3, zcI_some, zq_145_10, if_neg (not_not_intro rfl)]
    · rw [zqz_215, zq_215_0, sb, if_neg g1, if_neg g2, zl_214]
      by_cases h0 : x3 < 0
      · rw [if_pos h0, zcI_some, zq_215_8, if_neg (not_not_intro rfl)]
      · rw [if_neg h0, if_pos (show 100 ≤ x3 from Classical.byContradiction fun q => h3 (by obtain ⟨j, hj, e⟩ := (zlt_iff (P := 100) (by decide)).mpr ⟨h0, q⟩; exact ⟨j, by omega, e⟩)), zcI_some, zq_215_8, if_neg (not_not_intro rfl)]
  have w3 := wi_t (s := s) (I := I) (m := 99) 99 rfl (by decide) h3
  obtain ⟨n, hn, rfl⟩ := h1
  obtain ⟨l, hl, rfl⟩ := h3
  have r3 : zf_214 [.int (nI l)] (zMk (s, I)) = some (.int 1, zMk (s, I)) := by rw [zl_214, if_neg (nI_pos (by omega)), if_neg (show ¬ (100 : Int32) ≤ nI l from nI_ge (b := 100) (by omega) (by decide))]
  have hT := zTwn_of hE.1
  have hR := zTwr_of hE.1 hE.2.1
  obtain ⟨b1, b2, b3, b4, b5, b6, b7, b8, b9, b10, b11⟩ := ts n hn
  obtain ⟨back, hbk⟩ : ∃ back : Bool, b = if back = true then 1 else 0 := by
    rcases hb with rfl | rfl
    · exact ⟨false, rfl⟩
    · exact ⟨true, rfl⟩
  obtain ⟨J, e1, c1⟩ := zalong s (st := st) (l := l) hE.2.1 hT.2.2.1 t1 w (show n < 40 by omega) b6 b7 b8 b1 b2 b4 back
  have hEJ := zEv_Cs hE c1
  have hRJ := zTwr_of hEJ.1 hEJ.2.1
  obtain ⟨-, -, -, -, htJ, hWJ, hSJ, -, hsJ⟩ := hRJ
  obtain ⟨-, -, -, -, d9, d10, d11⟩ := hsJ n hn
  obtain ⟨K, e2, c2⟩ := zgoes s (st := st) (l := l) hEJ.2.1.1 hEJ.2.1.2.1 htJ t1 hWJ (show n < 40 by omega) d9 d10 d11 b1 b2 b4 back
  have r3' : zf_214 [.int (nI l)] (zMk (s, J)) = some (.int 1, zMk (s, J)) := by rw [zl_214, if_neg (nI_pos (by omega)), if_neg (show ¬ (100 : Int32) ≤ nI l from nI_ge (b := 100) (by omega) (by decide))]
  refine zPr_mk (v := zpk (zgo L st n back l)) (s1 := s) (I1 := J) (I2 := K) ?_ ?_ (zEv_Scr hEJ (zScr_Rs fun r a b _ _ _ => c2 r a b)) (zXe_tr (zXe_Cs c1) (zXe_Scr (zScr_Rs fun r a b _ _ _ => c2 r a b)))
  · rw [hbk, zqz_145, zq_145_0, sa, if_neg g1, if_neg g2, w3, zcI_some, zq_145_10, if_pos (show ¬ (1 : Int32) = 0 by decide), e1, zcI_some, zq_145_19]
  · rw [hbk, zqz_215, zq_215_0, hSJ, if_neg g1, if_neg g2, r3', zcI_some, zq_215_8, if_pos (show ¬ (1 : Int32) = 0 by decide), e2, zcI_some, zq_215_16]
    cases hg : zgo L st n back l with
    | none => rw [if_neg (not_not_intro (show zpf none = 1000000000 from rfl))]; rfl
    | some x =>
      have hx := zgo_le (L := L) (fun j hj => (tp j hj).1) b1 b2 back l x hg
      rw [if_pos (show ¬ zpf (some x) = 1000000000 from nI_ne (b := 1000000000) (by omega) (by omega) (by decide))]
      rfl
/-- the class's phase: from a fresh table on -/
theorem zfresh0 {L : zLw} {st : zSt} {s : zQs} {I : Nat → Nat → Int32} (hE : zEv L st s I) : ∃ s' J, zf_120 [.ref 16, .int 0] (zMk (s, I)) = some (.long 0, zMk (s', J)) ∧ zEv L st s' J ∧ zFsh L st s' J 0 ∧ zCv I J ∧ s'.2.2 = s.2.2 := by
  obtain ⟨s', J, e, h1, h2, -, h3, h4⟩ := zfresh hE (l := 0) (by decide)
  exact ⟨s', J, e, h1, h2, h3, h4⟩
/-! MEETING -/
/-- the first of the least ones -/
def zam (f : Nat → Option Nat) : Nat → Option (Nat × Nat)
  | 0 => none
  | n + 1 => match f n, zam f n with
    | none, q => q
    | some x, none => some (n, x)
    | some x, some (i, y) => if x < y then some (n, x) else some (i, y)
theorem zam_s (f : Nat → Option Nat) (n : Nat) : zam f (n + 1) = match f n, zam f n with
    | none, q => q
    | some x, none => some (n, x)
    | some x, some (i, y) => if x < y then some (n, x) else some (i, y) := rfl
theorem zam_in {f : Nat → Option Nat} : ∀ n i y, zam f n = some (i, y) → i < n ∧ f i = some y
  | 0, _, _, h => by cases h
  | n + 1, i, y, h => by
    rw [zam_s] at h
    cases hf : f n with
    | none =>
      rw [hf] at h
      have := zam_in n i y h
      exact ⟨by omega, this.2⟩
    | some x =>
      rw [hf] at h
      cases hz : zam f n with
      | none =>
        rw [hz] at h
        have h := Option.some.inj h
        have e1 := (Prod.mk.inj h).1
        have e2 := (Prod.mk.inj h).2
        subst e1; subst e2
        exact ⟨Nat.lt_succ_self _, hf⟩
      | some p =>
        obtain ⟨j, z⟩ := p
        rw [hz] at h
        have h : (if x < z then some (n, x) else some (j, z)) = some (i, y) := h
        have hr := zam_in n j z hz
        by_cases hlt : x < z
        · rw [if_pos hlt] at h
          have h := Option.some.inj h
          have e1 := (Prod.mk.inj h).1
          have e2 := (Prod.mk.inj h).2
          subst e1; subst e2
          exact ⟨Nat.lt_succ_self _, hf⟩
        · rw [if_neg hlt] at h
          have h := Option.some.inj h
          have e1 := (Prod.mk.inj h).1
          have e2 := (Prod.mk.inj h).2
          subst e1; subst e2
          exact ⟨by omega, hr.2⟩
def zam1 (q : Option (Nat × Nat)) : Int32 := match q with
  | none => -1
  | some (i, _) => nI i
def zamv (far : Nat) (q : Option (Nat × Nat)) : Nat := match q with
  | none => far
  | some (_, y) => y
/-- one turn of a search: the class's test, the reference's test -/
theorem zam_c {f : Nat → Option Nat} {n c : Nat} (hf : ∀ j x, j ≤ n → f j = some x → x < 100000000) (hc : zcn1 (f n) c) : (zamv 100000000 (zam f n) ≤ c → zam f (n + 1) = zam f n) ∧ (¬ zamv 100000000 (zam f n) ≤ c → zam f (n + 1) = some (n, c)) := by
  rw [zam_s]
  cases h : f n with
  | none =>
    rw [h] at hc
    refine ⟨fun _ => rfl, fun q => absurd ?_ q⟩
    obtain ⟨h1, h2⟩ := hc
    cases hz : zam f n with
    | none => exact h1
    | some p =>
      obtain ⟨i, y⟩ := p
      obtain ⟨a, b⟩ := zam_in n i y hz
      have := hf i y (by omega) b
      show y ≤ c
      omega
  | some x =>
    rw [h] at hc
    have hx := hf n x (Nat.le_refl _) h
    have hc : c = x := hc
    subst hc
    cases hz : zam f n with
    | none => exact ⟨fun q => absurd (show 100000000 ≤ c from q) (by omega), fun _ => rfl⟩
    | some p =>
      obtain ⟨i, y⟩ := p
      refine ⟨fun q => ?_, fun q => ?_⟩
      · have q : y ≤ c := q
        exact if_neg (by omega)
      · have q : ¬ y ≤ c := q
        exact if_pos (by omega)
theorem zam_r {f : Nat → Option Nat} {n : Nat} (hf : ∀ j x, j ≤ n → f j = some x → x < 1000000000) : (zR1 (f n) < zamv 1000000000 (zam f n) → zam f (n + 1) = some (n, zR1 (f n))) ∧ (¬ zR1 (f n) < zamv 1000000000 (zam f n) → zam f (n + 1) = zam f n) := by
  rw [zam_s]
  cases h : f n with
  | none =>
    refine ⟨fun q => absurd q ?_, fun _ => rfl⟩
    cases hz : zam f n with
    | none => exact Nat.lt_irrefl _
    | some p =>
      obtain ⟨i, y⟩ := p
      obtain ⟨a, b⟩ := zam_in n i y hz
      have := hf i y (by omega) b
      show ¬ 1000000000 < y
      omega
  | some x =>
    have hx := hf n x (Nat.le_refl _) h
    cases hz : zam f n with
    | none => exact ⟨fun _ => rfl, fun q => absurd (show x < 1000000000 from hx) q⟩
    | some p =>
      obtain ⟨i, y⟩ := p
      refine ⟨fun q => ?_, fun q => ?_⟩
      · have q : x < y := q
        exact if_pos q
      · have q : ¬ x < y := q
        exact if_neg q
def zmt (fair : Bool) (a b : Option Nat) : Option Nat := match a, b with
  | some x, some y => some (if fair = true then max x y else x + y)
  | _, _ => none
def zmeet (L : zLw) (st : zSt) (fair : Bool) (a b p : Nat) : Option Nat := zmt fair (ztrip L st a p) (ztrip L st b p)
theorem zmeet_le {L : zLw} {st : zSt} (h : zsmall L st) (hP : st.P ≤ 20) {fair : Bool} {a b p x : Nat} (ha : a < st.P) (hb : b < st.P) (hp : p < st.P) (hx : zmeet L st fair a b p = some x) : x ≤ 759924 := by
  unfold zmeet at hx
  cases h1 : ztrip L st a p with
  | none => rw [h1] at hx; cases hx
  | some u =>
    cases h2 : ztrip L st b p with
    | none => rw [h1, h2] at hx; cases hx
    | some v =>
      rw [h1, h2] at hx
      have b1 := ztrip_le h hP ha hp h1
      have b2 := ztrip_le h hP hb hp h2
      have hx : (if fair = true then max u v else u + v) = x := Option.some.inj hx
      split at hx <;> omega
theorem zf177 {L : zLw} {st : zSt} {s : zQs} {I : Nat → Nat → Int32} (hE : zEv L st s I) (hf : zFsh L st s I 0) {a b p : Nat} (ha : a < st.P) (hb : b < st.P) (hp : p < st.P) (fair : Bool) :
    ∃ c, zf_177 [.ref 0, .int (nI a), .int (nI b), .int (nI p), .int (if fair = true then 1 else 0)] (zMk (s, I)) = some (.int (nI c), zMk (s, I)) ∧ zcn1 (zmeet L st fair a b p) c ∧ c ≤ 400000000 := by
  have hs := zEv_small (L := L) (s := s) hE.1
  have hP := zEv_P hE.1
  obtain ⟨c1, d1⟩ := ztrip_c hs hP ha hp
  obtain ⟨c2, d2⟩ := ztrip_c hs hP hb hp
  have e1 := zf122 hE hf ha hp
  have e2 := zf122 hE hf hb hp
  generalize zC1 (zdc L st 0 a p) + zC1 (zdc L st 0 p a) = u at c1 d1 e1
  generalize zC1 (zdc L st 0 b p) + zC1 (zdc L st 0 p b) = w at c2 d2 e2
  refine ⟨if fair = true then max u w else u + w, ?_, ?_, by split <;> omega⟩
  · rw [zqz_177, zq_177_0, e1, zcI_some, zq_177_5, e2, zcI_some, zq_177_11]
    cases fair with
    | false => rw [if_neg (show ¬ (false = true) by decide), if_pos rfl, nI_add, if_neg (show ¬ (false = true) by decide)]
    | true =>
      rw [if_pos (show true = true from rfl), if_neg (show ¬ (1 : Int32) = 0 by decide), if_pos (show true = true from rfl)]
      by_cases h : u < w
      · rw [if_pos (nI_lt h (by omega)), Nat.max_eq_right (by omega)]
      · rw [if_neg (nI_nlt (by omega) (by omega)), Nat.max_eq_left (by omega)]
  · unfold zmeet
    cases h1 : ztrip L st a p with
    | none =>
      rw [h1] at c1
      obtain ⟨c1, c1'⟩ := c1
      show 100000000 ≤ _ ∧ _ ≤ _
      split <;> omega
    | some x =>
      rw [h1] at c1
      cases h2 : ztrip L st b p with
      | none =>
        rw [h2] at c2
        obtain ⟨c2, c2'⟩ := c2
        show 100000000 ≤ _ ∧ _ ≤ _
        split <;> omega
      | some y =>
        rw [h2] at c2
        have c1 : u = x := c1
        have c2 : w = y := c2
        subst c1; subst c2
        exact rfl
theorem zlp176 {L : zLw} {st : zSt} {s : zQs} {I : Nat → Nat → Int32} (hE : zEv L st s I) (hf : zFsh L st s I 0) {a b : Nat} (ha : a < st.P) (hb : b < st.P) (fair : Bool) : ∀ d n (x7 : Value), n + d = st.P →
    zQ_176 (6, [.ref 0, .int (nI a), .int (nI b), .int (if fair = true then 1 else 0), .int (zam1 (zam (zmeet L st fair a b) n)), .int (nI (zamv 100000000 (zam (zmeet L st fair a b) n))), .int (nI n), x7], [], zMk (s, I)) = some (.int (zam1 (zam (zmeet L st fair a b) st.P)), zMk (s, I))
  | 0, n, x7, h => by
    have h : n = st.P := by omega
    have hP := zEv_P hE.1
    rw [zq_176_6, zEv_p1 hE.1, h, if_pos (nI_le (Nat.le_refl _) (by omega))]
  | d + 1, n, x7, h => by
    have hn : n < st.P := by omega
    have hP := zEv_P hE.1
    have hs := zEv_small (L := L) (s := s) hE.1
    obtain ⟨c, e, c1, c2⟩ := zf177 hE hf ha hb hn fair
    obtain ⟨k1, k2⟩ := zam_c (f := zmeet L st fair a b) (n := n) (fun j x hj hx => by have := zmeet_le hs hP ha hb (by omega) hx; omega) c1
    have hv : zamv 100000000 (zam (zmeet L st fair a b) n) ≤ 100000000 := by
      cases hz : zam (zmeet L st fair a b) n with
      | none => exact Nat.le_refl _
      | some q =>
        obtain ⟨i, y⟩ := q
        obtain ⟨z1, z2⟩ := zam_in n i y hz
        have := zmeet_le hs hP ha hb (by omega) z2
        show y ≤ _
        omega
    rw [zq_176_6, zEv_p1 hE.1, if_neg (nI_ge hn (by omega)), e, zcI_some, zq_176_17, nI_1]
    by_cases hle : zamv 100000000 (zam (zmeet L st fair a b) n) ≤ c
    · rw [if_pos (nI_le hle (by omega)), ← k1 hle]
      exact zlp176 hE hf ha hb fair d (n + 1) _ (by omega)
    · rw [if_neg (nI_ge (by omega) (by omega))]
      have := zlp176 hE hf ha hb fair d (n + 1) (.int (nI c)) (by omega)
      rw [k2 hle] at this
      exact this
theorem zf261 {L : zLw} {st : zSt} {s : zQs} {I : Nat → Nat → Int32} (hE : zRe L st s I) {a b p : Nat} (ha : a < st.P) (hb : b < st.P) (hp : p < st.P) (fair : Bool) :
    ∃ J, zf_261 [.ref 58, .int (nI a), .int (nI b), .int (nI p), .int (if fair = true then 0 else 1)] (zMk (s, I)) = some (.int (nI (zR1 (zmeet L st fair a b p))), zMk (s, J)) ∧ zRs I J ∧ zRe L st s J := by
  have hs := zEv_small (L := L) (s := s) hE.1
  have hP := zEv_P hE.1
  obtain ⟨J1, e1, a1, a2⟩ := zf251 hE ha hp
  obtain ⟨J2, e2, b1, b2⟩ := zf251 a2 hb hp
  refine ⟨J2, ?_, zRs_tr a1 b1, b2⟩
  rw [zqz_261, zq_261_0, e1, zcI_some, zq_261_4, e2, zcI_some, zq_261_9]
  unfold zmeet
  cases h1 : ztrip L st a p with
  | none => rw [if_pos (show (1000000000 : Int32) ≤ nI (zR1 none) from by decide)]; rfl
  | some x =>
    have l1 := ztrip_le hs hP ha hp h1
    rw [if_neg (show ¬ (1000000000 : Int32) ≤ nI (zR1 (some x)) from nI_ge (b := 1000000000) (show x < 1000000000 by omega) (by decide))]
    cases h2 : ztrip L st b p with
    | none => rw [if_neg (show ¬ nI (zR1 none) < (1000000000 : Int32) from by decide)]; rfl
    | some y =>
      have l2 := ztrip_le hs hP hb hp h2
      rw [if_pos (show nI (zR1 (some y)) < (1000000000 : Int32) from nI_lt (b := 1000000000) (show y < 1000000000 by omega) (by decide))]
      cases fair with
      | false => rw [if_neg (show ¬ (false = true) by decide), if_neg (show ¬ (1 : Int32) = 0 by decide), nI_add]; rfl
      | true =>
        rw [if_pos (show true = true from rfl), if_pos rfl]
        show (if nI x ≤ nI y then some (Value.int (nI y), _) else some (Value.int (nI x), _)) = some (Value.int (nI (max x y)), _)
        by_cases h : x ≤ y
        · rw [if_pos (nI_le h (by omega)), Nat.max_eq_right h]
        · rw [if_neg (nI_ge (by omega) (by omega)), Nat.max_eq_left (by omega)]
/-- what meet answers -/
def zmans (q : Option (Nat × Nat)) (x3 : Int32) : Int32 := match q with
  | none => -2
  | some (i, y) => if 10 ≤ x3 then nI y else nI i
theorem zlp262 {L : zLw} {st : zSt} {s : zQs} {a b : Nat} (ha : a < st.P) (hb : b < st.P) (fair : Bool) (x3 : Int32) (h3 : (x3 - x3 / 10 * 10 = 0) = (fair = false)) : ∀ d n (I : Nat → Nat → Int32) (x7 : Value), zRe L st s I → n + d = st.P →
    ∃ J, zQ_262 (28, [.ref 58, .int (nI a), .int (nI b), .int x3, .int (zam1 (zam (zmeet L st fair a b) n)), .int (nI (zamv 1000000000 (zam (zmeet L st fair a b) n))), .int (nI n), x7], [], zMk (s, I)) = some (.int (zmans (zam (zmeet L st fair a b) st.P) x3), zMk (s, J)) ∧ zRs I J
  | 0, n, I, x7, hE, h => by
    have h : n = st.P := by omega
    have hP := zEv_P hE.1
    refine ⟨I, ?_, zRs_rfl I⟩
    rw [zq_262_28, zEv_p2 hE.1, h, if_pos (nI_le (Nat.le_refl _) (by omega))]
    cases hz : zam (zmeet L st fair a b) st.P with
    | none => rw [if_neg (not_not_intro (show zam1 none = -1 from rfl))]; rfl
    | some q =>
      obtain ⟨i, y⟩ := q
      obtain ⟨z1, z2⟩ := zam_in _ i y hz
      have nm := nI_nm1 (a := i) (by omega)
      rw [if_pos (show ¬ zam1 (some (i, y)) = -1 from fun e => by rw [show zam1 (some (i, y)) = nI i from rfl, nm] at e; exact e)]
      show (if 10 ≤ x3 then some (Value.int (nI y), _) else some (Value.int (nI i), _)) = some (Value.int (if 10 ≤ x3 then nI y else nI i), _)
      split <;> rfl
  | d + 1, n, I, x7, hE, h => by
    have hn : n < st.P := by omega
    have hP := zEv_P hE.1
    have hs := zEv_small (L := L) (s := s) hE.1
    obtain ⟨J1, e, j1, j2⟩ := zf261 hE ha hb hn fair
    obtain ⟨k1, k2⟩ := zam_r (f := zmeet L st fair a b) (n := n) (fun j x hj hx => by have := zmeet_le hs hP ha hb (by omega) hx; omega)
    have hv : zamv 1000000000 (zam (zmeet L st fair a b) n) ≤ 1000000000 := by
      cases hz : zam (zmeet L st fair a b) n with
      | none => exact Nat.le_refl _
      | some q =>
        obtain ⟨i, y⟩ := q
        obtain ⟨z1, z2⟩ := zam_in n i y hz
        have := zmeet_le hs hP ha hb (by omega) z2
        show y ≤ _
        omega
    have hw : zR1 (zmeet L st fair a b n) ≤ 1000000000 := by
      cases hz : zmeet L st fair a b n with
      | none => exact Nat.le_refl _
      | some y =>
        have := zmeet_le hs hP ha hb hn hz
        show y ≤ _
        omega
    have go : ∃ J, zQ_262 (44, [.ref 58, .int (nI a), .int (nI b), .int x3, .int (zam1 (zam (zmeet L st fair a b) n)), .int (nI (zamv 1000000000 (zam (zmeet L st fair a b) n))), .int (nI n), x7], [.int (nI (zR1 (zmeet L st fair a b n)))], zMk (s, J1)) = some (.int (zmans (zam (zmeet L st fair a b) st.P) x3), zMk (s, J)) ∧ zRs I J := by
      rw [zq_262_44, nI_1]
      by_cases hlt : zR1 (zmeet L st fair a b n) < zamv 1000000000 (zam (zmeet L st fair a b) n)
      · rw [if_pos (nI_lt hlt (by omega))]
        obtain ⟨J, e2, j3⟩ := zlp262 ha hb fair x3 h3 d (n + 1) J1 (.int (nI (zR1 (zmeet L st fair a b n)))) j2 (by omega)
        rw [k1 hlt] at e2
        exact ⟨J, e2, zRs_tr j1 j3⟩
      · rw [if_neg (nI_nlt (by omega) (by omega))]
        obtain ⟨J, e2, j3⟩ := zlp262 ha hb fair x3 h3 d (n + 1) J1 (.int (nI (zR1 (zmeet L st fair a b n)))) j2 (by omega)
        rw [k2 hlt] at e2
        exact ⟨J, e2, zRs_tr j1 j3⟩
    rw [zq_262_28, zEv_p2 hE.1, if_neg (nI_ge hn (by omega))]
    cases fair with
    | false =>
      have h0 : x3 - x3 / 10 * 10 = 0 := by rw [h3]
      have e : zf_261 [.ref 58, .int (nI a), .int (nI b), .int (nI n), .int 1] (zMk (s, I)) = _ := e
      rw [if_neg (not_not_intro h0), e, zcI_some]
      exact go
    | true =>
      have h0 : ¬ x3 - x3 / 10 * 10 = 0 := by rw [h3]; decide
      have e : zf_261 [.ref 58, .int (nI a), .int (nI b), .int (nI n), .int 0] (zMk (s, I)) = _ := e
      rw [if_pos h0, e, zcI_some]
      exact go
theorem zin_no {s : zQs} {I : Nat → Nat → Int32} {x : Int32} (h10 : ¬ x = 10) (h11 : ¬ x = 11) : zf_179 [.int x, .int 10, .int 11] (zMk (s, I)) = some (.int 0, zMk (s, I)) := by
  rw [zl_179]
  rcases pk_ix x (n := 12) (by decide) with h | h | ⟨j, hj, rfl⟩
  · rw [if_pos (Int32.lt_trans h (by decide))]
  · have h1 : (11 : Int32) < x := Int32.lt_of_lt_of_le (show (11 : Int32) < nI 12 by decide) h
    by_cases h2 : x < 10
    · rw [if_pos h2]
    · rw [if_neg h2, if_pos h1]
  · by_cases hj2 : j < 10
    · rw [if_pos (show nI j < 10 from nI_lt (b := 10) hj2 (by decide))]
    · have hc : j = 10 ∨ j = 11 := by omega
      rcases hc with rfl | rfl
      · exact absurd rfl h10
      · exact absurd rfl h11
theorem zp_meet {L : zLw} {st : zSt} {s : zQs} {I : Nat → Nat → Int32} (hE : zEv L st s I) (x1 x2 x3 : Int32) : zPr L st s I (zf_161 [.ref 0, .int x1, .int x2, .int x3]) (zf_262 [.ref 58, .int x1, .int x2, .int x3]) := by
  have hP := zEv_P hE.1
  have p1 := zEv_p1 hE.1
  have p2 := zEv_p2 hE.1
  have hs := zEv_small (L := L) (s := s) hE.1
  /- the class up to its second question -/
  have start : ∀ k : Int32, (k = if x3 = 0 ∨ x3 = 1 ∨ x3 = 10 ∨ x3 = 11 then 1 else 0) → zf_161 [.ref 0, .int x1, .int x2, .int x3] (zMk (s, I)) = zcI (zf_97 [.ref 1, .int x1] (zMk (s, I))) fun v M => zQ_161 (19, [.ref 0, .int x1, .int x2, .int x3, .int k, .long 0, .long 0], [.int v], M) := by
    intro k hk
    rw [zqz_161, zq_161_0, hk]
    by_cases a0 : x3 = 0
    · rw [if_pos a0, if_pos (Or.inl a0)]
    · rw [if_neg a0]
      by_cases a1 : x3 = 1
      · rw [if_pos a1, if_pos (Or.inr (Or.inl a1))]
      · rw [if_neg a1]
        by_cases a10 : x3 = 10
        · rw [if_pos a10, if_pos (Or.inr (Or.inr (Or.inl a10)))]
        · rw [if_neg a10]
          by_cases a11 : x3 = 11
          · rw [if_neg (not_not_intro a11), if_pos (Or.inr (Or.inr (Or.inr a11)))]
          · rw [if_pos a11, if_neg (fun h => by rcases h with h | h | h | h <;> contradiction)]
  by_cases h1 : zlt x1 st.P
  case neg =>
    refine zPr_same hE (v := -1) ?_ ?_
    · rw [start _ rfl, isP1_f p1 hP h1, zcI_some, zq_161_19, if_pos rfl]
    · rw [zqz_262, zq_262_0, isP2_f p2 hP h1, zcI_some, zq_262_3, if_pos rfl]
  by_cases h2 : zlt x2 st.P
  case neg =>
    refine zPr_same hE (v := -1) ?_ ?_
    · rw [start _ rfl, isP1_t p1 hP h1, zcI_some, zq_161_19, if_neg (by decide), isP1_f p1 hP h2, zcI_some, zq_161_24, if_pos rfl]
    · rw [zqz_262, zq_262_0, isP2_t p2 hP h1, zcI_some, zq_262_3, if_neg (by decide), isP2_f p2 hP h2, zcI_some, zq_262_7, if_pos rfl]
  by_cases hk : x3 = 0 ∨ x3 = 1 ∨ x3 = 10 ∨ x3 = 11
  case neg =>
    have n0 : ¬ zin x3 1 := by
      rintro ⟨j, hj, rfl⟩
      have hc : j = 0 ∨ j = 1 := by omega
      rcases hc with rfl | rfl
      · exact hk (Or.inl rfl)
      · exact hk (Or.inr (Or.inl rfl))
    refine zPr_same hE (v := -1) ?_ ?_
    · rw [start 0 (by rw [if_neg hk]), isP1_t p1 hP h1, zcI_some, zq_161_19, if_neg (by decide), isP1_t p1 hP h2, zcI_some, zq_161_24, if_neg (by decide), if_neg (not_not_intro rfl)]
    · rw [zqz_262, zq_262_0, isP2_t p2 hP h1, zcI_some, zq_262_3, if_neg (by decide), isP2_t p2 hP h2, zcI_some, zq_262_7, if_neg (by decide), in_f (m := 1) 1 rfl (by decide) n0, zcI_some, zq_262_12, if_neg (not_not_intro rfl), zin_no (fun e => hk (Or.inr (Or.inr (Or.inl e)))) (fun e => hk (Or.inr (Or.inr (Or.inr e)))), zcI_some, zq_262_17, if_neg (not_not_intro rfl)]
  obtain ⟨fair, hfa, hfb⟩ : ∃ fair : Bool, (x3 - x3 / 10 * 10 = 0) = (fair = false) ∧ (x3 - x3 / 10 * 10 = 1) = (fair = true) := by
    rcases hk with rfl | rfl | rfl | rfl
    · exact ⟨false, by decide, by decide⟩
    · exact ⟨true, by decide, by decide⟩
    · exact ⟨false, by decide, by decide⟩
    · exact ⟨true, by decide, by decide⟩
  obtain ⟨s1, J1, e1, hE1, hF1, cv, hs1⟩ := zfresh0 hE
  have h1' := h1
  have h2' := h2
  obtain ⟨a, ha, rfl⟩ := h1
  obtain ⟨b, hb, rfl⟩ := h2
  have cl := zlp176 hE1 hF1 ha hb fair st.P 0 (.long 0) (Nat.zero_add _)
  have f176 : zf_176 [.ref 0, .int (nI a), .int (nI b), .int (if fair = true then 1 else 0)] (zMk (s1, J1)) = some (.int (zam1 (zam (zmeet L st fair a b) st.P)), zMk (s1, J1)) := by
    rw [zqz_176, zq_176_0]
    exact cl
  obtain ⟨J2, e2, g2, hR2, -⟩ := zbegins hE1
  obtain ⟨J3, e3, g3⟩ := zlp262 (s := s1) ha hb fair x3 hfa st.P 0 J2 (.long 0) hR2 (Nat.zero_add _)
  have tail : zQ_161 (33, [.ref 0, .int (nI a), .int (nI b), .int x3, .int 1, .long 0, .long 0], [], zMk (s1, J1)) = some (.int (zmans (zam (zmeet L st fair a b) st.P) x3), zMk (s1, J1)) := by
    have t47 : ∀ k : Int32, (k = if fair = true then 1 else 0) → zQ_161 (47, [.ref 0, .int (nI a), .int (nI b), .int x3, .int 1, .int k, .long 0], [.int (zam1 (zam (zmeet L st fair a b) st.P))], zMk (s1, J1)) = some (.int (zmans (zam (zmeet L st fair a b) st.P) x3), zMk (s1, J1)) := by
      intro k hk
      rw [zq_161_47]
      cases hz : zam (zmeet L st fair a b) st.P with
      | none => rw [if_neg (not_not_intro (show zam1 none = -1 from rfl))]; rfl
      | some q =>
        obtain ⟨i, y⟩ := q
        obtain ⟨z1, z2⟩ := zam_in _ i y hz
        have nm := nI_nm1 (a := i) (by omega)
        rw [if_pos (show ¬ zam1 (some (i, y)) = -1 from fun e => by rw [show zam1 (some (i, y)) = nI i from rfl, nm] at e; exact e)]
        show (if 10 ≤ x3 then _ else _) = some (Value.int (if 10 ≤ x3 then nI y else nI i), _)
        by_cases h10 : 10 ≤ x3
        · obtain ⟨c, e, c1, c2⟩ := zf177 hE1 hF1 ha hb z1 fair
          rw [z2] at c1
          have c1 : c = y := c1
          subst c1
          rw [if_pos h10, if_pos h10, hk, show zam1 (some (i, c)) = nI i from rfl, e, zcI_some, zq_161_64]
        · rw [if_neg h10, if_neg h10, zq_161_64]
          rfl
    rw [zq_161_33]
    cases fair with
    | false =>
      rw [if_pos (show ¬ (x3 - x3 / 10 * 10) = 1 by rw [hfb]; decide)]
      have f : zf_176 [.ref 0, .int (nI a), .int (nI b), .int 0] (zMk (s1, J1)) = _ := f176
      rw [f, zcI_some]
      exact t47 0 rfl
    | true =>
      rw [if_neg (not_not_intro (show (x3 - x3 / 10 * 10) = 1 by rw [hfb]))]
      have f : zf_176 [.ref 0, .int (nI a), .int (nI b), .int 1] (zMk (s1, J1)) = _ := f176
      rw [f, zcI_some]
      exact t47 1 rfl
  refine zPr_mk (v := zmans (zam (zmeet L st fair a b) st.P) x3) (s1 := s1) (I1 := J1) (I2 := J3) ?_ ?_ (zEv_Scr hE1 (zScr_tr g2 (zScr_Rs g3))) (zXe_tr (zXe_Cv cv) (zXe_Scr (zScr_tr g2 (zScr_Rs g3))))
  · rw [start 1 (by rw [if_pos hk]), isP1_t p1 hP h1', zcI_some, zq_161_19, if_neg (by decide), isP1_t p1 hP h2', zcI_some, zq_161_24, if_neg (by decide), if_pos (show ¬ (1 : Int32) = 0 by decide), e1, zcV_some]
    exact tail
  · have q2 := zEv_p2 hE1.1
    have e3 : zQ_262 (28, [.ref 58, .int (nI a), .int (nI b), .int x3, .int (-1), .int 1000000000, .int 0, .long 0], [], zMk (s1, J2)) = _ := e3
    rw [zqz_262, zq_262_0, isP2_t q2 hP h1', zcI_some, zq_262_3, if_neg (by decide), isP2_t q2 hP h2', zcI_some, zq_262_7, if_neg (by decide)]
    by_cases h01 : zin x3 1
    · rw [in_t (m := 1) 1 rfl (by decide) h01, zcI_some, zq_262_12, if_pos (show ¬ (1 : Int32) = 0 by decide), e2, zcV_some, zq_262_22]
      exact e3
    · have h10 : x3 = 10 ∨ x3 = 11 := by
        rcases hk with rfl | rfl | h | h
        · exact absurd ⟨0, by decide, rfl⟩ h01
        · exact absurd ⟨1, by decide, rfl⟩ h01
        · exact Or.inl h
        · exact Or.inr h
      have i2 : zf_179 [.int x3, .int 10, .int 11] (zMk (s1, J1)) = some (.int 1, zMk (s1, J1)) := by
        rw [zl_179]
        rcases h10 with rfl | rfl
        · rw [if_neg (by decide), if_neg (by decide)]
        · rw [if_neg (by decide), if_neg (by decide)]
      rw [in_f (m := 1) 1 rfl (by decide) h01, zcI_some, zq_262_12, if_neg (not_not_intro rfl), i2, zcI_some, zq_262_17, if_pos (show ¬ (1 : Int32) = 0 by decide), e2, zcV_some, zq_262_22]
      exact e3
