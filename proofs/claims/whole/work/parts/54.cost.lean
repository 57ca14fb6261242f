/-! COSTS, ASKED -/
def zsr (r : Nat) : Bool := r == 7 || r == 15 || r == 16 || r == 19 || (27 ≤ r && r ≤ 29) || r == 41 || (46 ≤ r && r ≤ 49) || (51 ≤ r && r ≤ 53) || (64 ≤ r && r ≤ 69) || (75 ≤ r && r ≤ 80) || r == 84 || (91 ≤ r && r ≤ 92) || (94 ≤ r && r ≤ 96) || (100 ≤ r && r ≤ 102)
def zsf (j : Nat) : Bool := (10 ≤ j && j ≤ 17) || j == 36 || (55 ≤ j && j ≤ 57)
/-- rows that nobody reads at the next call may have changed -/
def zScr (I J : Nat → Nat → Int32) : Prop := (∀ r, zsr r = false → r ≠ 8 → r ≠ 34 → r ≠ 58 → J r = I r) ∧ (∀ j, j ≠ 10 → J 8 j = I 8 j ∧ J 34 j = I 34 j) ∧ ∀ j, zsf j = false → J 58 j = I 58 j
theorem zScr_rfl (I : Nat → Nat → Int32) : zScr I I := ⟨fun _ _ _ _ _ => rfl, fun _ _ => ⟨rfl, rfl⟩, fun _ _ => rfl⟩
theorem zScr_tr {I J K : Nat → Nat → Int32} (h : zScr I J) (g : zScr J K) : zScr I K :=
  ⟨fun r a b c d => (g.1 r a b c d).trans (h.1 r a b c d), fun j hj => ⟨(g.2.1 j hj).1.trans (h.2.1 j hj).1, (g.2.1 j hj).2.trans (h.2.1 j hj).2⟩, fun j hj => (g.2.2 j hj).trans (h.2.2 j hj)⟩
theorem zXe_Scr {I J : Nat → Nat → Int32} (g : zScr I J) : zXe I J := ⟨by rw [g.1 0 rfl (by decide) (by decide) (by decide)], g.2.2 3 rfl, by rw [g.1 30 rfl (by decide) (by decide) (by decide)], g.2.2 9 rfl, g.1 31 rfl (by decide) (by decide) (by decide), g.1 63 rfl (by decide) (by decide) (by decide)⟩
theorem zScr_1 {I J : Nat → Nat → Int32} {k : Nat} (hk : zsr k = true) (h : ∀ r, r ≠ k → J r = I r) : zScr I J := by
  have h8 : (8 : Nat) ≠ k := fun e => by rw [← e] at hk; cases hk
  have h34 : (34 : Nat) ≠ k := fun e => by rw [← e] at hk; cases hk
  have h58 : (58 : Nat) ≠ k := fun e => by rw [← e] at hk; cases hk
  refine ⟨fun r hr _ _ _ => h r (fun e => ?_), fun j _ => ⟨by rw [h 8 h8], by rw [h 34 h34]⟩, fun j _ => by rw [h 58 h58]⟩
  subst e
  rw [hk] at hr
  cases hr
theorem zScr_w {I : Nat → Nat → Int32} {k : Nat} (hk : zsr k = true) (f : Nat → Int32) : zScr I (zwA I k f) := zScr_1 hk (fun _ hr => zwA_n hr)
theorem zScr_f {I : Nat → Nat → Int32} {j : Nat} (hj : zsf j = true) (v : Int32) : zScr I (zwA I 58 (upd (I 58) j v)) :=
  ⟨fun r _ _ _ h => zwA_n h, fun j _ => ⟨by rw [zwA_n (by decide)], by rw [zwA_n (by decide)]⟩, fun i hi => by
    rw [zwA_s, upd_at, if_neg]
    intro e
    subst e
    rw [hj] at hi
    cases hi⟩
theorem zScr_Rs {I J : Nat → Nat → Int32} (h : zRs I J) : zScr I J :=
  ⟨fun r hr _ _ _ => h r (fun e => by subst e; cases hr) (fun e => by subst e; cases hr) (fun e => by subst e; cases hr) (fun e => by subst e; cases hr) (fun e => by subst e; cases hr), fun j _ => ⟨by rw [h 8 (by decide) (by decide) (by decide) (by decide) (by decide)], by rw [h 34 (by decide) (by decide) (by decide) (by decide) (by decide)]⟩, fun j _ => by rw [h 58 (by decide) (by decide) (by decide) (by decide) (by decide)]⟩
theorem zsr_out : ∀ k, ((2 ≤ k ∧ k ≤ 6) ∨ (21 ≤ k ∧ k ≤ 26) ∨ k = 31 ∨ (43 ≤ k ∧ k ≤ 45) ∨ (55 ≤ k ∧ k ≤ 57) ∨ (59 ≤ k ∧ k ≤ 63) ∨ (81 ≤ k ∧ k ≤ 83) ∨ (85 ≤ k ∧ k ≤ 90) ∨ k = 93 ∨ (97 ≤ k ∧ k ≤ 99)) → zsr k = false ∧ k ≠ 8 ∧ k ≠ 34 ∧ k ≠ 58 := by
  have h : ∀ k, k < 100 → ((2 ≤ k ∧ k ≤ 6) ∨ (21 ≤ k ∧ k ≤ 26) ∨ k = 31 ∨ (43 ≤ k ∧ k ≤ 45) ∨ (55 ≤ k ∧ k ≤ 57) ∨ (59 ≤ k ∧ k ≤ 63) ∨ (81 ≤ k ∧ k ≤ 83) ∨ (85 ≤ k ∧ k ≤ 90) ∨ k = 93 ∨ (97 ≤ k ∧ k ≤ 99)) → zsr k = false ∧ k ≠ 8 ∧ k ≠ 34 ∧ k ≠ 58 := by decide +kernel
  intro k hk
  exact h k (by omega) hk
theorem zsr_tab {t : Nat} (h : 103 ≤ t) : zsr t = false := by
  unfold zsr
  simp only [Bool.or_eq_false_iff, beq_eq_false_iff_ne, Bool.and_eq_false_iff, decide_eq_false_iff_not]
  omega
theorem Rep_Scr {st : zSt} {I J : Nat → Nat → Int32} (h : RepW st I) (g : zScr I J) : RepW st J :=
  RepW_fr h (fun j hj => g.2.2 j (by rcases hj with rfl | rfl | rfl | rfl | rfl | rfl | rfl | rfl | rfl | rfl | rfl | rfl <;> rfl)) (g.1 1 rfl (by decide) (by decide) (by decide)) (by rw [g.1 0 rfl (by decide) (by decide) (by decide)]) (g.1 20 rfl (by decide) (by decide) (by decide)) (g.1 30 rfl (by decide) (by decide) (by decide)) (g.1 42 rfl (by decide) (by decide) (by decide)) (g.1 54 rfl (by decide) (by decide) (by decide)) (fun k hk => by obtain ⟨a, b, c, d⟩ := zsr_out k hk; exact g.1 k a b c d)
theorem zLaw_Scr {L : zLw} {s : zQs} {I J : Nat → Nat → Int32} (h : zLaw L s I) (g : zScr I J) : zLaw L s J := by
  obtain ⟨h1, h2, h3⟩ := h
  obtain ⟨k, g2, g3⟩ := g
  refine ⟨h1, ?_, ?_⟩
  · rw [g3 18 rfl, k 70 rfl (by decide) (by decide) (by decide), k 71 rfl (by decide) (by decide) (by decide), k 72 rfl (by decide) (by decide) (by decide), k 73 rfl (by decide) (by decide) (by decide), k 74 rfl (by decide) (by decide) (by decide)]
    exact h2
  · rcases h3 with ⟨a, b, c⟩ | ⟨a, b, c⟩
    · refine Or.inl ⟨a, b, ?_⟩
      rw [(g2 7 (by decide)).1, (g2 8 (by decide)).1, k 9 rfl (by decide) (by decide) (by decide), k 10 rfl (by decide) (by decide) (by decide), k 11 rfl (by decide) (by decide) (by decide), k 12 rfl (by decide) (by decide) (by decide), k 13 rfl (by decide) (by decide) (by decide), k 14 rfl (by decide) (by decide) (by decide)]
      exact c
    · refine Or.inr ⟨a, b, ?_⟩
      rw [(g2 7 (by decide)).2, (g2 8 (by decide)).2, k 35 rfl (by decide) (by decide) (by decide), k 36 rfl (by decide) (by decide) (by decide), k 37 rfl (by decide) (by decide) (by decide), k 38 rfl (by decide) (by decide) (by decide), k 39 rfl (by decide) (by decide) (by decide), k 40 rfl (by decide) (by decide) (by decide)]
      exact c
theorem zWy_fr {L : zLw} {st : zSt} {s : zQs} {I J : Nat → Nat → Int32} (h : zWy L st s I) (h18 : J 18 = I 18) (ht : ∀ r, 103 ≤ r → J r = I r) : zWy L st s J := by
  obtain ⟨a, b, c, d, e⟩ := h
  refine ⟨a, b, c, d, fun k t hk hs => ?_⟩
  obtain ⟨v, v1, v2, v3⟩ := e k t hk hs
  rw [h18, ht t (c k t hk hs).1]
  exact ⟨v, v1, v2, v3⟩
theorem zEv_Scr {L : zLw} {st : zSt} {s : zQs} {I J : Nat → Nat → Int32} (h : zEv L st s I) (g : zScr I J) : zEv L st s J :=
  ⟨Rep_Scr h.1 g, zLaw_Scr h.2.1 g, zWy_fr h.2.2 (g.1 18 rfl (by decide) (by decide) (by decide)) (fun r hr => g.1 r (zsr_tab hr) (by omega) (by omega) (by omega))⟩
theorem zFsh_Scr {L : zLw} {st : zSt} {s : zQs} {I J : Nat → Nat → Int32} {l : Nat} (h : zFsh L st s I l) (g : zScr I J) : zFsh L st s J l := by
  obtain ⟨t, h1, h2⟩ := h
  exact ⟨t, h1, by rw [g.1 18 rfl (by decide) (by decide) (by decide)]; exact h2⟩
/-- the reference's side of a call -/
def zRe (L : zLw) (st : zSt) (s : zQs) (I : Nat → Nat → Int32) : Prop := RepW st I ∧ zLaw L s I ∧ zRy L st I
theorem zRe_fr {L : zLw} {st : zSt} {s : zQs} {I J : Nat → Nat → Int32} (h : zRe L st s I) (g : zScr I J) (h7 : J 77 = I 77) (h8 : J 78 = I 78) (h9 : J 79 = I 79) : zRe L st s J :=
  ⟨Rep_Scr h.1 g, zLaw_Scr h.2.1 g, fun l hl q => by
    rw [h9] at q
    have := h.2.2 l hl q
    unfold zRld at this ⊢
    rw [h7, h8]
    exact this⟩
theorem zRe_w {L : zLw} {st : zSt} {s : zQs} {I : Nat → Nat → Int32} (h : zRe L st s I) {k : Nat} (hk : zsr k = true) (h7 : 77 ≠ k) (h8 : 78 ≠ k) (h9 : 79 ≠ k) (f : Nat → Int32) : zRe L st s (zwA I k f) :=
  zRe_fr h (zScr_w hk f) (zwA_n h7) (zwA_n h8) (zwA_n h9)
theorem zRe_f {L : zLw} {st : zSt} {s : zQs} {I : Nat → Nat → Int32} (h : zRe L st s I) {j : Nat} (hj : zsf j = true) (v : Int32) : zRe L st s (zwA I 58 (upd (I 58) j v)) :=
  zRe_fr h (zScr_f hj v) (zwA_n (by decide)) (zwA_n (by decide)) (zwA_n (by decide))
/-- the reference begins -/
theorem zbegins {L : zLw} {st : zSt} {s : zQs} {I : Nat → Nat → Int32} (h : zEv L st s I) : ∃ J, zf_216 [.ref 58] (zMk (s, I)) = some (.long 0, zMk (s, J)) ∧ zScr I J ∧ zRe L st s J ∧ (∀ r, r ≠ 79 → J r = I r) := by
  obtain ⟨J, e, j1, j2⟩ := zbeg s I
  have g : zScr I J := zScr_1 (k := 79) rfl j1
  exact ⟨J, e, g, ⟨Rep_Scr h.1 g, zLaw_Scr h.2.1 g, fun l hl q => absurd (j2 l (by omega)) q⟩, j1⟩
/-- what a way costs -/
def zdc (L : zLw) (st : zSt) (l a b : Nat) : Option Nat := (zway (zcs L st l st.S) st.P a b).map (fun p => p.1)
def zC1 (o : Option Nat) : Nat := match o with
  | none => 100000000
  | some x => x
def zR1 (o : Option Nat) : Nat := match o with
  | none => 1000000000
  | some x => x
def zsmall (L : zLw) (st : zSt) : Prop := ∀ l a b x, zcs L st l st.S a b = some x → x ≤ 9999
theorem zEv_small {L : zLw} {st : zSt} {s : zQs} {I : Nat → Nat → Int32} (h : RepW st I) : zsmall L st := fun l => zTwn_cs (zTwn_of h) L l (Nat.le_refl _)
theorem zEv_P {st : zSt} {I : Nat → Nat → Int32} (h : RepW st I) : st.P ≤ 20 := h.2.1.1
theorem zEv_S {st : zSt} {I : Nat → Nat → Int32} (h : RepW st I) : st.S ≤ 40 := h.2.1.2.1
theorem zEv_p1 {st : zSt} {I : Nat → Nat → Int32} (h : RepW st I) : I 1 10 = nI st.P := h.2.1.2.2.2.1
theorem zEv_p2 {st : zSt} {I : Nat → Nat → Int32} (h : RepW st I) : I 58 0 = nI st.P := h.2.1.2.2.2.2.1
theorem zdc_le {L : zLw} {st : zSt} (h : zsmall L st) (hP : st.P ≤ 20) {l a b x : Nat} (ha : a < st.P) (hb : b < st.P) (hx : zdc L st l a b = some x) : x ≤ 189981 := by
  unfold zdc at hx
  cases hw : zway (zcs L st l st.S) st.P a b with
  | none => rw [hw] at hx; cases hx
  | some p =>
    obtain ⟨C, S⟩ := p
    rw [hw] at hx
    have hx : C = x := Option.some.inj hx
    obtain ⟨h1, h2, -, -⟩ := zway_s (h l) hP ha hb hw
    omega
theorem zC1_le {o : Option Nat} (h : ∀ x, o = some x → x ≤ 189981) : zC1 o ≤ 100000000 ∧ zR1 o ≤ 1000000000 := by
  cases o with
  | none => exact ⟨Nat.le_refl _, Nat.le_refl _⟩
  | some x =>
    have := h x rfl
    show x ≤ 100000000 ∧ x ≤ 1000000000
    omega
theorem zk_cost {L : zLw} {st : zSt} (h : zsmall L st) (hP : st.P ≤ 20) {l a b : Nat} (ha : a < st.P) (hb : b < st.P) : (if zk32 (zcs L st l st.S) st.P a b < 100000000 then zk32 (zcs L st l st.S) st.P a b / 32 else 100000000) = zC1 (zdc L st l a b) ∧ (if zk64 (zcs L st l st.S) st.P a b < 1000000000 then zk64 (zcs L st l st.S) st.P a b / 64 else 1000000000) = zR1 (zdc L st l a b) ∧ zk32 (zcs L st l st.S) st.P a b ≤ 100000000 ∧ zk64 (zcs L st l st.S) st.P a b ≤ 1000000000 := by
  have c1 : zk32 (zcs L st l st.S) st.P a b ≤ 100000000 := zfw_cap (zwt_cap (h l) (by decide)) _ _ _
  have c2 : zk64 (zcs L st l st.S) st.P a b ≤ 1000000000 := zfw_cap (zwt_cap (h l) (by decide)) _ _ _
  unfold zdc
  cases hw : zway (zcs L st l st.S) st.P a b with
  | none =>
    obtain ⟨h1, h2⟩ := zway_n (h l) hP ha hb hw
    rw [if_neg (by omega), if_neg (by omega)]
    exact ⟨rfl, rfl, c1, c2⟩
  | some p =>
    obtain ⟨C, S⟩ := p
    obtain ⟨h1, h2, h3, h4⟩ := zway_s (h l) hP ha hb hw
    rw [if_pos (by omega), if_pos (by omega)]
    exact ⟨by show _ = C; omega, by show _ = C; omega, c1, c2⟩
theorem zf127 {L : zLw} {st : zSt} {s : zQs} {I : Nat → Nat → Int32} (hE : zEv L st s I) {l a b : Nat} (hl : l ≤ 99) (hf : zFsh L st s I l) (ha : a < st.P) (hb : b < st.P) :
    zf_127 [.ref 16, .int (nI a), .int (nI b), .int (nI l)] (zMk (s, I)) = some (.int (nI (zk32 (zcs L st l st.S) st.P a b)), zMk (s, I)) := by
  obtain ⟨hR, hL, hy⟩ := hE
  obtain ⟨t, t1, t2⟩ := hf
  obtain ⟨y1, y2, y3, y4, y5⟩ := hy
  have hk := zslot_le (L := L) hl
  have hP := zEv_P hR
  obtain ⟨v, v1, v2, v3⟩ := y5 _ t hk t1
  have hv : v = st.V := by
    have hV := hR.1.1
    rw [v2] at t2
    exact (nI_eq (by omega) (by omega)).mp t2
  have hT : zok s t := ⟨(y3 _ t hk t1).1, (y3 _ t hk t1).2, y1⟩
  have m1 : nI a * 20 + nI b = nI (a * 20 + b) := by rw [show nI a * 20 = nI (a * 20) from nI_mul a 20, nI_add]
  have hz : zb (nI (a * 20 + b)) 400 = true := zb_t (by omega) (by omega)
  rw [zqz_127, zq_127_0, zf126 s hL hl, zcI_some, zq_127_5, if_pos (zb_t hk (by omega)), nI_clamp (show zslot L l < 2 ^ 31 by omega), t1]
  show zQ_127 (6, [.ref 16, .int (nI a), .int (nI b), .int (nI l), .long 0], [.ref t], zMk (s, I)) = _
  rw [zq_127_6s, if_neg (zok_n hT), zok_a hT, zok_l hT, if_pos rfl, m1, if_pos hz, nI_clamp (show a * 20 + b < 2 ^ 31 by omega), v3 hv a b ha hb, zslot_c hL.1]
theorem zf121 {L : zLw} {st : zSt} {s : zQs} {I : Nat → Nat → Int32} (hE : zEv L st s I) {l a b : Nat} (hl : l ≤ 99) (hf : zFsh L st s I l) (ha : a < st.P) (hb : b < st.P) :
    zf_121 [.ref 16, .int (nI a), .int (nI b), .int (nI l)] (zMk (s, I)) = some (.int (nI (zC1 (zdc L st l a b))), zMk (s, I)) := by
  obtain ⟨k1, -, k3, -⟩ := zk_cost (L := L) (l := l) (zEv_small (s := s) hE.1) (zEv_P hE.1) ha hb
  rw [zqz_121, zq_121_0, zf127 hE hl hf ha hb, zcI_some, zq_121_5, ← k1]
  by_cases h : zk32 (zcs L st l st.S) st.P a b < 100000000
  · rw [if_pos (show nI (zk32 (zcs L st l st.S) st.P a b) < 100000000 from nI_lt (b := 100000000) h (by decide)), if_pos h, show nI (zk32 (zcs L st l st.S) st.P a b) >>> ((5 : Int32) &&& 31) = nI (zk32 (zcs L st l st.S) st.P a b / 32) from nI_sar5 (by omega)]
  · rw [if_neg (show ¬ nI (zk32 (zcs L st l st.S) st.P a b) < 100000000 from nI_nlt (b := 100000000) (by omega) (by omega)), if_neg h]
    rfl
theorem zf122 {L : zLw} {st : zSt} {s : zQs} {I : Nat → Nat → Int32} (hE : zEv L st s I) (hf : zFsh L st s I 0) {a b : Nat} (ha : a < st.P) (hb : b < st.P) :
    zf_122 [.ref 16, .int (nI a), .int (nI b)] (zMk (s, I)) = some (.int (nI (zC1 (zdc L st 0 a b) + zC1 (zdc L st 0 b a))), zMk (s, I)) := by
  have e1 : zf_121 [.ref 16, .int (nI a), .int (nI b), .int 0] (zMk (s, I)) = _ := zf121 hE (l := 0) (by decide) hf ha hb
  have e2 : zf_121 [.ref 16, .int (nI b), .int (nI a), .int 0] (zMk (s, I)) = _ := zf121 hE (l := 0) (by decide) hf hb ha
  rw [zqz_122, zq_122_0, e1, zcI_some, zq_122_5, e2, zcI_some, zq_122_10, nI_add]
/-! the reference's -/
theorem zf219a {L : zLw} {st : zSt} {s : zQs} {I : Nat → Nat → Int32} (hE : zRe L st s I) {l a b : Nat} (hl : l ≤ 99) (hf : ¬ I 79 l = 0) (ha : a < st.P) (hb : b < st.P) :
    zf_219 [.ref 58, .int (nI a), .int (nI b), .int (nI l)] (zMk (s, I)) = some (.int (nI (zk64 (zcs L st l st.S) st.P a b)), zMk (s, I)) := by
  have hP := zEv_P hE.1
  have hi := zix4_lt hl (show a < 20 by omega) (show b < 20 by omega)
  rw [zqz_219, zq_219_0, if_pos (zb_t (show l < 100 by omega) (by omega)), nI_clamp (show l < 2 ^ 31 by omega), if_pos hf, zq_219_8, zix4_i, if_pos (zb_t hi (by omega)), nI_clamp (show zix4 l a b < 2 ^ 31 by omega), (hE.2.2 l hl hf).2 a b ha hb]
theorem zf219 {L : zLw} {st : zSt} {s : zQs} {I : Nat → Nat → Int32} (hE : zRe L st s I) {l a b : Nat} (hl : l ≤ 99) (ha : a < st.P) (hb : b < st.P) :
    ∃ J, zf_219 [.ref 58, .int (nI a), .int (nI b), .int (nI l)] (zMk (s, I)) = some (.int (nI (zk64 (zcs L st l st.S) st.P a b)), zMk (s, J)) ∧ zRs I J ∧ zRe L st s J ∧ ¬ J 79 l = 0 ∧ ∀ k, ¬ I 79 k = 0 → ¬ J 79 k = 0 := by
  by_cases hf : I 79 l = 0
  · obtain ⟨J, e, j1, j2, j3, j4⟩ := zf218 s hl (zTwr_of hE.1 hE.2.1) hE.2.2
    have hJ : zRe L st s J := ⟨Rep_Rs hE.1 j1, zLaw_Scr hE.2.1 (zScr_Rs j1), j2⟩
    have hP := zEv_P hE.1
    have hi := zix4_lt hl (show a < 20 by omega) (show b < 20 by omega)
    refine ⟨J, ?_, j1, hJ, j3, j4⟩
    rw [zqz_219, zq_219_0, if_pos (zb_t (show l < 100 by omega) (by omega)), nI_clamp (show l < 2 ^ 31 by omega), if_neg (not_not_intro hf), e, zcV_some, zq_219_8, zix4_i, if_pos (zb_t hi (by omega)), nI_clamp (show zix4 l a b < 2 ^ 31 by omega), (hJ.2.2 l hl j3).2 a b ha hb]
  · exact ⟨I, zf219a hE hl hf ha hb, zRs_rfl I, hE, hf, fun _ h => h⟩
theorem zf220 {L : zLw} {st : zSt} {s : zQs} {I : Nat → Nat → Int32} (hE : zRe L st s I) {l a b : Nat} (hl : l ≤ 99) (ha : a < st.P) (hb : b < st.P) :
    ∃ J, zf_220 [.ref 58, .int (nI a), .int (nI b), .int (nI l)] (zMk (s, I)) = some (.int (nI (zR1 (zdc L st l a b))), zMk (s, J)) ∧ zRs I J ∧ zRe L st s J := by
  obtain ⟨J, e, j1, j2, -⟩ := zf219 hE hl ha hb
  obtain ⟨-, k1, -, k3⟩ := zk_cost (L := L) (l := l) (zEv_small (s := s) hE.1) (zEv_P hE.1) ha hb
  refine ⟨J, ?_, j1, j2⟩
  rw [zqz_220, zq_220_0, e, zcI_some, zq_220_5, ← k1]
  by_cases h : zk64 (zcs L st l st.S) st.P a b < 1000000000
  · rw [if_pos (show nI (zk64 (zcs L st l st.S) st.P a b) < 1000000000 from nI_lt (b := 1000000000) h (by decide)), if_pos h, show nI (zk64 (zcs L st l st.S) st.P a b) / 64 = nI (zk64 (zcs L st l st.S) st.P a b / 64) from nI_div _ 64 (by omega) (by decide)]
  · rw [if_neg (show ¬ nI (zk64 (zcs L st l st.S) st.P a b) < 1000000000 from nI_nlt (b := 1000000000) (by omega) (by omega)), if_neg h]
    rfl
/-- sums of costs -/
def zsm (a b : Option Nat) : Option Nat := match a, b with
  | some x, some y => some (x + y)
  | _, _ => none
def ztrip (L : zLw) (st : zSt) (a b : Nat) : Option Nat := zsm (zdc L st 0 a b) (zdc L st 0 b a)
theorem zR1_sm {a b : Option Nat} (ha : ∀ x, a = some x → x < 1000000000) (hb : ∀ x, b = some x → x < 1000000000) : (if zR1 a < 1000000000 ∧ zR1 b < 1000000000 then zR1 a + zR1 b else 1000000000) = zR1 (zsm a b) := by
  cases a with
  | none => rfl
  | some x =>
    cases b with
    | none =>
      rw [if_neg (fun q => absurd q.2 (by decide))]
      rfl
    | some y =>
      have h1 := ha x rfl
      have h2 := hb y rfl
      rw [if_pos ⟨h1, h2⟩]
      rfl
/-- the class's number of a cost: of none, something far -/
def zcn1 (o : Option Nat) (c : Nat) : Prop := match o with
  | none => 100000000 ≤ c ∧ c ≤ 1000000000
  | some x => c = x
theorem zcn1_1 (o : Option Nat) : zcn1 o (zC1 o) := by
  cases o with
  | none => exact ⟨Nat.le_refl _, by decide⟩
  | some x => exact rfl
theorem ztrip_c {L : zLw} {st : zSt} (h : zsmall L st) (hP : st.P ≤ 20) {a b : Nat} (ha : a < st.P) (hb : b < st.P) : zcn1 (ztrip L st a b) (zC1 (zdc L st 0 a b) + zC1 (zdc L st 0 b a)) ∧ zC1 (zdc L st 0 a b) + zC1 (zdc L st 0 b a) ≤ 200000000 := by
  have b1 := zC1_le (fun x hx => zdc_le h hP (l := 0) ha hb hx)
  have b2 := zC1_le (fun x hx => zdc_le h hP (l := 0) hb ha hx)
  refine ⟨?_, by omega⟩
  unfold ztrip
  cases h1 : zdc L st 0 a b with
  | none => exact ⟨Nat.le_add_right _ _, by have h1 := b2.1; show 100000000 + _ ≤ _; omega⟩
  | some x =>
    rw [h1] at b1
    cases h2 : zdc L st 0 b a with
    | none => exact ⟨Nat.le_add_left _ _, by rw [h2] at b2; have h1 := b1.1; have h3 := b2.1; omega⟩
    | some y => exact rfl
theorem ztrip_le {L : zLw} {st : zSt} (h : zsmall L st) (hP : st.P ≤ 20) {a b x : Nat} (ha : a < st.P) (hb : b < st.P) (hx : ztrip L st a b = some x) : x ≤ 379962 := by
  unfold ztrip at hx
  cases h1 : zdc L st 0 a b with
  | none => rw [h1] at hx; cases hx
  | some u =>
    cases h2 : zdc L st 0 b a with
    | none => rw [h1, h2] at hx; cases hx
    | some v =>
      rw [h1, h2] at hx
      have := zdc_le h hP ha hb h1
      have := zdc_le h hP hb ha h2
      have : u + v = x := Option.some.inj hx
      omega
theorem zf251 {L : zLw} {st : zSt} {s : zQs} {I : Nat → Nat → Int32} (hE : zRe L st s I) {a b : Nat} (ha : a < st.P) (hb : b < st.P) :
    ∃ J, zf_251 [.ref 58, .int (nI a), .int (nI b)] (zMk (s, I)) = some (.int (nI (zR1 (ztrip L st a b))), zMk (s, J)) ∧ zRs I J ∧ zRe L st s J := by
  have hs := zEv_small (L := L) (s := s) hE.1
  have hP := zEv_P hE.1
  obtain ⟨J1, e1, a1, a2⟩ := zf220 hE (l := 0) (by decide) ha hb
  obtain ⟨J2, e2, b1, b2⟩ := zf220 a2 (l := 0) (by decide) hb ha
  have e1 : zf_220 [.ref 58, .int (nI a), .int (nI b), .int 0] (zMk (s, I)) = some (.int (nI (zR1 (zdc L st 0 a b))), zMk (s, J1)) := e1
  have e2 : zf_220 [.ref 58, .int (nI b), .int (nI a), .int 0] (zMk (s, J1)) = some (.int (nI (zR1 (zdc L st 0 b a))), zMk (s, J2)) := e2
  refine ⟨J2, ?_, zRs_tr a1 b1, b2⟩
  rw [zqz_251, zq_251_0, e1, zcI_some, zq_251_5, e2, zcI_some, zq_251_10, zl180 s J2 (zC1_le (fun x hx => zdc_le hs hP ha hb hx)).2 (zC1_le (fun x hx => zdc_le hs hP hb ha hx)).2, zcI_some, zq_251_11, zR1_sm (fun x hx => by have := zdc_le hs hP ha hb hx; omega) (fun x hx => by have := zdc_le hs hP hb ha hx; omega)]
  rfl
