/-! THE CLASS'S WAYS ARE FRESH -/
theorem zev_l {C : zCd} {fx gx : Nat → Int32} {to : Nat} (hC : ∀ i, i < to → ¬ ((C i).1 = 1 ∧ (C i).2 = 3)) (hx : ∀ j, j ≠ 3 → fx j = gx j) : ∀ d pc st, zev C fx to d pc st = zev C gx to d pc st := by
  intro d
  induction d with
  | zero => intro pc st; rfl
  | succ d ih =>
    intro pc st
    rw [zev_s, zev_s]
    by_cases h : to ≤ pc
    · rw [if_pos h, if_pos h]
    · rw [if_neg h, if_neg h]
      by_cases h0 : (C pc).1 = 0
      · rw [if_pos h0, if_pos h0, ih]
      · rw [if_neg h0, if_neg h0]
        by_cases h1 : (C pc).1 = 1
        · rw [if_pos h1, if_pos h1, ih, hx _ (fun e => hC pc (by omega) ⟨h1, e⟩)]
        · rw [if_neg h1, if_neg h1]
          simp only [ih]
theorem zpl_l {L : zLw} {fx gx : Nat → Int32} (hw : zwf L) (hl : L.l = false) (hx : ∀ j, j ≠ 3 → fx j = gx j) : ∀ d q f, q + d = L.n → zpl L fx d q f = zpl L gx d q f
  | 0, q, f, h => by
    show some (f.getD (zi (fx 0))) = some (f.getD (zi (gx 0)))
    rw [hx 0 (by decide)]
  | d + 1, q, f, h => by
    obtain ⟨h1, h2, h3, h4⟩ := id hw
    obtain ⟨w1, w2, w3, -, -⟩ := h4 q (by omega)
    have e1 := zev_l (C := L.c) (to := L.t q) (fun i hi => h3 hl i (by omega)) hx (L.t q - L.h q) (L.h q) []
    have e2 := zev_l (C := L.c) (to := L.h q) (fun i hi => h3 hl i (by omega)) hx (L.h q - L.f q) (L.f q) []
    rw [zpl_s, zpl_s, e1, e2, zpl_l hw hl hx d (q + 1) f (by omega), zpl_l hw hl hx d (q + 1) _ (by omega)]
theorem zcost_l {L : zLw} (hw : zwf L) (hl : L.l = false) (st : zSt) (a b so n l l' : Nat) : zcost L st a b so n l = zcost L st a b so n l' :=
  zpl_l hw hl (fun j hj => by unfold zls; simp only [hj, if_false]) L.n 0 none (Nat.zero_add _)
theorem zgo_l {L : zLw} (hw : zwf L) (hl : L.l = false) (st : zSt) (n : Nat) (back : Bool) (l l' : Nat) : zgo L st n back l = zgo L st n back l' := by
  unfold zgo
  rw [zcost_l hw hl st _ _ _ n l l', zcost_l hw hl st _ _ _ n l l']
theorem zcs_l {L : zLw} (hw : zwf L) (hl : L.l = false) (st : zSt) (l l' : Nat) : ∀ n, zcs L st l n = zcs L st l' n
  | 0 => rfl
  | n + 1 => by
    funext a b
    show zmn (zmn (zcs L st l n a b) (if st.sa n = a ∧ st.sb n = b then zgo L st n false l else none)) (if st.sb n = a ∧ st.sa n = b then zgo L st n true l else none) = zmn (zmn (zcs L st l' n a b) (if st.sa n = a ∧ st.sb n = b then zgo L st n false l' else none)) (if st.sb n = a ∧ st.sa n = b then zgo L st n true l' else none)
    rw [zcs_l hw hl st l l' n, zgo_l hw hl st n false l l', zgo_l hw hl st n true l l']
def zslot (L : zLw) (l : Nat) : Nat := if L.l = true then l else 0
theorem zslot_le {L : zLw} {l : Nat} (h : l ≤ 99) : zslot L l < 100 := by
  unfold zslot
  split <;> omega
theorem zslot_c {L : zLw} (hw : zwf L) (st : zSt) (l n : Nat) : zcs L st (zslot L l) n = zcs L st l n := by
  unfold zslot
  split
  · rfl
  · rename_i h
    exact zcs_l hw (by cases e : L.l with | true => exact absurd e h | false => rfl) st 0 l n
/-- the class's tables -/
def zWy (L : zLw) (st : zSt) (s : zQs) (I : Nat → Nat → Int32) : Prop :=
  s.1 ≤ 100 ∧ s.1 = zcn (fun k => (s.2.1 k).isSome) 100 ∧
  (∀ k t, k < 100 → s.2.1 k = some t → 103 ≤ t ∧ t < 103 + s.1) ∧
  (∀ k k' t, k < 100 → k' < 100 → s.2.1 k = some t → s.2.1 k' = some t → k = k') ∧
  ∀ k t, k < 100 → s.2.1 k = some t → ∃ v, v ≤ st.V ∧ I 18 k = nI v ∧ (v = st.V → ∀ a b, a < st.P → b < st.P → I t (a * 20 + b) = nI (zk32 (zcs L st k st.S) st.P a b))
def zFsh (L : zLw) (st : zSt) (s : zQs) (I : Nat → Nat → Int32) (l : Nat) : Prop := ∃ t, s.2.1 (zslot L l) = some t ∧ I 18 (zslot L l) = nI st.V
/-- what freshening may write -/
def zCv (I J : Nat → Nat → Int32) : Prop := (∀ r, r < 103 → r ≠ 7 → r ≠ 8 → r ≠ 34 → r ≠ 15 → r ≠ 41 → r ≠ 18 → J r = I r) ∧ ∀ j, j ≠ 10 → J 8 j = I 8 j ∧ J 34 j = I 34 j
theorem zCv_rfl (I : Nat → Nat → Int32) : zCv I I := ⟨fun _ _ _ _ _ _ _ _ => rfl, fun _ _ => ⟨rfl, rfl⟩⟩
theorem zCv_tr {I J K : Nat → Nat → Int32} (h : zCv I J) (g : zCv J K) : zCv I K :=
  ⟨fun r a b c d e f i => (g.1 r a b c d e f i).trans (h.1 r a b c d e f i), fun j hj => ⟨(g.2 j hj).1.trans (h.2 j hj).1, (g.2 j hj).2.trans (h.2 j hj).2⟩⟩
/-- as Rep, but for the drawn number -/
def RepW (st : zSt) (I : Nat → Nat → Int32) : Prop :=
  (st.V ≤ 1000000 ∧ I 1 12 = nI st.V) ∧
  cTown st.P st.S st.W st.ht st.sa st.sb st.so (I 1 10) (I 58 0) (I 1 11) (I 58 1) (I 1 7) (I 58 2) (I 2) (I 4) (I 5) (I 6) (I 59) (I 60) (I 61) (I 62) ∧
  cKept st.S st.K (I 1 8) (I 1 9) (I 58 66) (I 58 67) (I 58 68) ∧
  cWant st.wn (I 3) (I 93) ∧
  cErr st.P st.E st.ea st.ew st.eo (I 42 6) (I 58 37) (I 43) (I 44) (I 45) (I 81) (I 82) (I 83) ∧
  cFolk st.P st.Q st.pf st.pt st.pc (I 20 10) (I 58 42) (I 21) (I 22) (I 23) (I 85) (I 86) (I 87) ∧
  cThing st.P st.H st.tf st.tt st.tw (I 20 11) (I 58 43) (I 24) (I 25) (I 26) (I 88) (I 89) (I 90) ∧
  True ∧
  cFare st.P st.F st.fa st.fb st.fs (I 54 3) (I 58 59) (I 54 4) (I 55) (I 56) (I 57) (I 97) (I 98) (I 99) ∧ True
def zXx (st : zSt) (I : Nat → Nat → Int32) : Prop := (st.X ≤ 65535 ∧ I 0 10 = nI st.X ∧ I 58 3 = nI st.X) ∧ cTape st.T st.tb (I 30 1) (I 58 9) (I 31) (I 63)
theorem RepW_of {st : zSt} {I : Nat → Nat → Int32} (h : Rep st I) : RepW st I := ⟨h.1, h.2.1, h.2.2.1, h.2.2.2.1, h.2.2.2.2.1, h.2.2.2.2.2.1, h.2.2.2.2.2.2.1, trivial, h.2.2.2.2.2.2.2.2.1, trivial⟩
theorem zXx_of {st : zSt} {I : Nat → Nat → Int32} (h : Rep st I) : zXx st I := ⟨h.2.2.2.2.2.2.2.2.2, h.2.2.2.2.2.2.2.1⟩
theorem Rep_of {st : zSt} {I : Nat → Nat → Int32} (h : RepW st I) (hx : zXx st I) : Rep st I := ⟨h.1, h.2.1, h.2.2.1, h.2.2.2.1, h.2.2.2.2.1, h.2.2.2.2.2.1, h.2.2.2.2.2.2.1, hx.2, h.2.2.2.2.2.2.2.2.1, hx.1⟩
theorem RepW_fr {st : zSt} {I J : Nat → Nat → Int32} (h : RepW st I) (n58 : ∀ j, (j = 0 ∨ j = 1 ∨ j = 2 ∨ j = 3 ∨ j = 9 ∨ j = 37 ∨ j = 42 ∨ j = 43 ∨ j = 59 ∨ j = 66 ∨ j = 67 ∨ j = 68) → J 58 j = I 58 j) (n1 : J 1 = I 1) (n0 : J 0 10 = I 0 10) (n20 : J 20 = I 20) (n30 : J 30 = I 30) (n42 : J 42 = I 42) (n54 : J 54 = I 54)
    (rw' : ∀ k, (2 ≤ k ∧ k ≤ 6) ∨ (21 ≤ k ∧ k ≤ 26) ∨ k = 31 ∨ (43 ≤ k ∧ k ≤ 45) ∨ (55 ≤ k ∧ k ≤ 57) ∨ (59 ≤ k ∧ k ≤ 63) ∨ (81 ≤ k ∧ k ≤ 83) ∨ (85 ≤ k ∧ k ≤ 90) ∨ k = 93 ∨ (97 ≤ k ∧ k ≤ 99) → J k = I k) : RepW st J := by
  obtain ⟨hv, ht, hk, hw, he, hf, hg, -, hfa, -⟩ := h
  refine ⟨?_, ?_, ?_, ?_, ?_, ?_, ?_, trivial, ?_, trivial⟩
  · rw [n1]; exact hv
  · rw [n1, n58 0 (by omega), n58 1 (by omega), n58 2 (by omega), rw' 2 (by omega), rw' 4 (by omega), rw' 5 (by omega), rw' 6 (by omega), rw' 59 (by omega), rw' 60 (by omega), rw' 61 (by omega), rw' 62 (by omega)]; exact ht
  · rw [n1, n58 66 (by omega), n58 67 (by omega), n58 68 (by omega)]; exact hk
  · rw [rw' 3 (by omega), rw' 93 (by omega)]; exact hw
  · rw [n42, n58 37 (by omega), rw' 43 (by omega), rw' 44 (by omega), rw' 45 (by omega), rw' 81 (by omega), rw' 82 (by omega), rw' 83 (by omega)]; exact he
  · rw [n20, n58 42 (by omega), rw' 21 (by omega), rw' 22 (by omega), rw' 23 (by omega), rw' 85 (by omega), rw' 86 (by omega), rw' 87 (by omega)]; exact hf
  · rw [n20, n58 43 (by omega), rw' 24 (by omega), rw' 25 (by omega), rw' 26 (by omega), rw' 88 (by omega), rw' 89 (by omega), rw' 90 (by omega)]; exact hg
  · rw [n54, n58 59 (by omega), rw' 55 (by omega), rw' 56 (by omega), rw' 57 (by omega), rw' 97 (by omega), rw' 98 (by omega), rw' 99 (by omega)]; exact hfa
/-- the drawn number stays -/
def zXe (I J : Nat → Nat → Int32) : Prop := J 0 10 = I 0 10 ∧ J 58 3 = I 58 3 ∧ J 30 1 = I 30 1 ∧ J 58 9 = I 58 9 ∧ J 31 = I 31 ∧ J 63 = I 63
theorem zXe_tr {I J K : Nat → Nat → Int32} (h : zXe I J) (g : zXe J K) : zXe I K := ⟨g.1.trans h.1, g.2.1.trans h.2.1, g.2.2.1.trans h.2.2.1, g.2.2.2.1.trans h.2.2.2.1, g.2.2.2.2.1.trans h.2.2.2.2.1, g.2.2.2.2.2.trans h.2.2.2.2.2⟩
theorem zXe_Cv {I J : Nat → Nat → Int32} (g : zCv I J) : zXe I J := ⟨by rw [g.1 0 (by decide) (by decide) (by decide) (by decide) (by decide) (by decide) (by decide)], by rw [g.1 58 (by decide) (by decide) (by decide) (by decide) (by decide) (by decide) (by decide)], by rw [g.1 30 (by decide) (by decide) (by decide) (by decide) (by decide) (by decide) (by decide)], by rw [g.1 58 (by decide) (by decide) (by decide) (by decide) (by decide) (by decide) (by decide)], g.1 31 (by decide) (by decide) (by decide) (by decide) (by decide) (by decide) (by decide), g.1 63 (by decide) (by decide) (by decide) (by decide) (by decide) (by decide) (by decide)⟩
theorem zXe_Cs {I J : Nat → Nat → Int32} (g : zCs I J) : zXe I J := ⟨by rw [g.1 0 (by decide) (by decide) (by decide) (by decide) (by decide)], by rw [g.1 58 (by decide) (by decide) (by decide) (by decide) (by decide)], by rw [g.1 30 (by decide) (by decide) (by decide) (by decide) (by decide)], by rw [g.1 58 (by decide) (by decide) (by decide) (by decide) (by decide)], g.1 31 (by decide) (by decide) (by decide) (by decide) (by decide), g.1 63 (by decide) (by decide) (by decide) (by decide) (by decide)⟩
theorem zXx_e {st : zSt} {I J : Nat → Nat → Int32} (h : zXx st I) (g : zXe I J) : zXx st J := ⟨⟨h.1.1, g.1.trans h.1.2.1, g.2.1.trans h.1.2.2⟩, by rw [g.2.2.1, g.2.2.2.1, g.2.2.2.2.1, g.2.2.2.2.2]; exact h.2⟩
def zEv (L : zLw) (st : zSt) (s : zQs) (I : Nat → Nat → Int32) : Prop := RepW st I ∧ zLaw L s I ∧ zWy L st s I
theorem Rep_Cv {st : zSt} {I J : Nat → Nat → Int32} (h : RepW st I) (g : zCv I J) : RepW st J :=
  RepW_fr h (fun j _ => by rw [g.1 58 (by decide) (by decide) (by decide) (by decide) (by decide) (by decide) (by decide)]) (g.1 1 (by decide) (by decide) (by decide) (by decide) (by decide) (by decide) (by decide)) (by rw [g.1 0 (by decide) (by decide) (by decide) (by decide) (by decide) (by decide) (by decide)]) (g.1 20 (by decide) (by decide) (by decide) (by decide) (by decide) (by decide) (by decide)) (g.1 30 (by decide) (by decide) (by decide) (by decide) (by decide) (by decide) (by decide)) (g.1 42 (by decide) (by decide) (by decide) (by decide) (by decide) (by decide) (by decide)) (g.1 54 (by decide) (by decide) (by decide) (by decide) (by decide) (by decide) (by decide)) (fun k hk => g.1 k (by omega) (by omega) (by omega) (by omega) (by omega) (by omega) (by omega))
theorem zLaw_Cv {L : zLw} {s s' : zQs} {I J : Nat → Nat → Int32} (h : zLaw L s I) (g : zCv I J) (hs : s'.2.2 = s.2.2) : zLaw L s' J := by
  have k := g.1
  obtain ⟨h1, h2, h3⟩ := h
  have g2 := g.2
  refine ⟨h1, ?_, ?_⟩
  · rw [k 58 (by decide) (by decide) (by decide) (by decide) (by decide) (by decide) (by decide), k 70 (by decide) (by decide) (by decide) (by decide) (by decide) (by decide) (by decide), k 71 (by decide) (by decide) (by decide) (by decide) (by decide) (by decide) (by decide), k 72 (by decide) (by decide) (by decide) (by decide) (by decide) (by decide) (by decide), k 73 (by decide) (by decide) (by decide) (by decide) (by decide) (by decide) (by decide), k 74 (by decide) (by decide) (by decide) (by decide) (by decide) (by decide) (by decide)]
    exact h2
  · rw [hs]
    rcases h3 with ⟨a, b, c⟩ | ⟨a, b, c⟩
    · refine Or.inl ⟨a, b, ?_⟩
      rw [(g2 7 (by decide)).1, (g2 8 (by decide)).1, k 9 (by decide) (by decide) (by decide) (by decide) (by decide) (by decide) (by decide), k 10 (by decide) (by decide) (by decide) (by decide) (by decide) (by decide) (by decide), k 11 (by decide) (by decide) (by decide) (by decide) (by decide) (by decide) (by decide), k 12 (by decide) (by decide) (by decide) (by decide) (by decide) (by decide) (by decide), k 13 (by decide) (by decide) (by decide) (by decide) (by decide) (by decide) (by decide), k 14 (by decide) (by decide) (by decide) (by decide) (by decide) (by decide) (by decide)]
      exact c
    · refine Or.inr ⟨a, b, ?_⟩
      rw [(g2 7 (by decide)).2, (g2 8 (by decide)).2, k 35 (by decide) (by decide) (by decide) (by decide) (by decide) (by decide) (by decide), k 36 (by decide) (by decide) (by decide) (by decide) (by decide) (by decide) (by decide), k 37 (by decide) (by decide) (by decide) (by decide) (by decide) (by decide) (by decide), k 38 (by decide) (by decide) (by decide) (by decide) (by decide) (by decide) (by decide), k 39 (by decide) (by decide) (by decide) (by decide) (by decide) (by decide) (by decide), k 40 (by decide) (by decide) (by decide) (by decide) (by decide) (by decide) (by decide)]
      exact c
theorem zTwn_of {st : zSt} {I : Nat → Nat → Int32} (h : RepW st I) : zTwn st I := by
  obtain ⟨-, ⟨t1, t2, t3, p, q, a, b, w, v, tp, ts⟩, -⟩ := h
  exact ⟨t1, t2, fun j hj => ⟨(tp j hj).1, (tp j hj).2.1⟩, w, a, p, fun j hj => by
    obtain ⟨b1, b2, b3, b4, b5, b6, b7, b8, -⟩ := ts j hj
    exact ⟨b1, b2, b3, b4, b6, b7, b8⟩⟩
theorem znew_tab (s : zQs) (I : Nat → Nat → Int32) : znew (zMk (s, I)) 100 400 = zMk ((s.1 + 1, s.2), zwA I (103 + s.1) (fun _ => 0)) := by
  obtain ⟨c, q⟩ := s
  have e1 : va_up (zsT c) (103 + c) 100 = zsT (c + 1) := by
    funext k
    show (if k = 103 + c then 100 else zsT c k) = zsT (c + 1) k
    unfold zsT
    by_cases h : k = 103 + c
    · rw [if_pos h, if_neg (by omega), if_pos (by omega)]
    · rw [if_neg h]
      by_cases h1 : k < 103
      · rw [if_pos h1, if_pos h1]
      · rw [if_neg h1, if_neg h1]
        by_cases h2 : k < 103 + c
        · rw [if_pos h2, if_pos (by omega)]
        · rw [if_neg h2, if_neg (by omega)]
  have e2 : va_up (zsL c) (103 + c) 400 = zsL (c + 1) := by
    funext k
    show (if k = 103 + c then 400 else zsL c k) = zsL (c + 1) k
    unfold zsL
    by_cases h : k = 103 + c
    · rw [if_pos h, if_neg (by omega), if_pos (by omega)]
    · rw [if_neg h]
      by_cases h1 : k < 103
      · rw [if_pos h1, if_pos h1]
      · rw [if_neg h1, if_neg h1]
        by_cases h2 : k < 103 + c
        · rw [if_pos h2, if_pos (by omega)]
        · rw [if_neg h2, if_neg (by omega)]
  have e3 : (fun a => if a = 103 + c then (fun _ => none) else zsR (c, q) a) = zsR (c + 1, q) := by
    funext a j
    have h0 : zsR (c, q) a = zsR (c + 1, q) a := rfl
    by_cases h : a = 103 + c
    · rw [if_pos h]
      unfold zsR
      rw [if_neg (by omega), if_neg (by omega), if_neg (by omega), show zRl.getD a [] = [] by rw [List.getD_eq_getElem?_getD, List.getElem?_eq_none (show zRl.length ≤ a by show 103 ≤ a; omega)]; rfl]
      rfl
    · rw [if_neg h, h0]
  show ((103 + c + 1, 92791 + 400 * c + 400, va_up (zsT c) (103 + c) 100, va_up (zsL c) (103 + c) 400, (fun a => if a = 103 + c then (fun _ => none) else zsR (c, q) a)), zwA I (103 + c) (fun _ => 0)) = ((103 + (c + 1), 92791 + 400 * (c + 1), zsT (c + 1), zsL (c + 1), zsR (c + 1, q)), zwA I (103 + c) (fun _ => 0))
  rw [e1, e2, e3, show 92791 + 400 * c + 400 = 92791 + 400 * (c + 1) by omega, show 103 + c + 1 = 103 + (c + 1) from rfl]
theorem zsome_n {f : Nat → Option Nat} {k t : Nat} (hk : k < 100) (h : f k = none) : zcn (fun j => ((va_up f k (some t)) j).isSome) 100 = zcn (fun j => (f j).isSome) 100 + 1 ∧ zcn (fun j => (f j).isSome) 100 + 1 ≤ 100 := by
  have g : ∀ n, zcn (fun j => ((va_up f k (some t)) j).isSome) n = zcn (fun j => (f j).isSome) n + (if k < n then 1 else 0) := by
    intro n
    induction n with
    | zero => rfl
    | succ n ih =>
      rw [zcn_s, zcn_s, ih]
      by_cases hn : n = k
      · subst hn
        have e1 : (va_up f n (some t) n).isSome = true := by rw [va_up_self]; rfl
        have e2 : (f n).isSome = false := by rw [h]; rfl
        rw [if_pos e1, if_neg (Nat.lt_irrefl n), if_pos (Nat.lt_succ_self n), e2]
        rfl
      · rw [show va_up f k (some t) n = f n from va_up_ne _ _ hn]
        by_cases hlt : k < n
        · rw [if_pos hlt, if_pos (show k < n + 1 by omega)]
          omega
        · rw [if_neg hlt, if_neg (show ¬ k < n + 1 by omega)]
          omega
  have g1 := g 100
  rw [if_pos hk] at g1
  have g2 := zcn_le (fun j => ((va_up f k (some t)) j).isSome) 100
  exact ⟨g1, by omega⟩
theorem zf111 (s : zQs) {L : zLw} {I : Nat → Nat → Int32} (hL : zLaw L s I) : zf_111 [.ref 1] (zMk (s, I)) = some (.int (if L.l = true then 1 else 0), zMk (s, I)) := by
  obtain ⟨-, -, h3⟩ := hL
  have v : ∀ x : Int32, x = (if L.l = true then 1 else 0) → x = 0 ∨ x = 1 := by
    intro x hx
    rw [hx]
    split
    · exact Or.inr rfl
    · exact Or.inl rfl
  rw [zl_111]
  rcases h3 with ⟨a, b, c⟩ | ⟨a, b, c⟩
  · rw [a, if_pos (show za (zMk (s, I)) 8 2 = true from rfl), if_pos (v _ c.2.1), c.2.1]
  · rw [a, if_pos (show za (zMk (s, I)) 34 2 = true from rfl), if_pos (v _ c.2.1), c.2.1]
theorem zf126 (s : zQs) {L : zLw} {I : Nat → Nat → Int32} (hL : zLaw L s I) {l : Nat} (hl : l ≤ 99) : zf_126 [.ref 16, .int (nI l)] (zMk (s, I)) = some (.int (nI (zslot L l)), zMk (s, I)) := by
  rw [zqz_126, zq_126_0, zf111 s hL, zcI_some, zq_126_3]
  unfold zslot
  split
  · rw [if_neg (show ¬ (1 : Int32) = 0 by decide), if_neg (nI_pos (by omega)), if_neg (show ¬ (99 : Int32) < nI l from nI_nlt (b := l) (a := 99) hl (by decide))]
  · rw [if_pos rfl]
    rfl
theorem zfresh {L : zLw} {st : zSt} {s : zQs} {I : Nat → Nat → Int32} (hE : zEv L st s I) {l : Nat} (hl : l ≤ 99) :
    ∃ s' J, zf_120 [.ref 16, .int (nI l)] (zMk (s, I)) = some (.long 0, zMk (s', J)) ∧ zEv L st s' J ∧ zFsh L st s' J l ∧ (∀ l', l' ≤ 99 → zFsh L st s I l' → zFsh L st s' J l') ∧ zCv I J ∧ s'.2.2 = s.2.2 := by
  obtain ⟨hR, hL, hy⟩ := id hE
  obtain ⟨y1, y2, y3, y4, y5⟩ := id hy
  have hk := zslot_le (L := L) hl
  have zk := zb_t hk (show zslot L l < 2 ^ 31 by omega)
  have ck : (nI (zslot L l)).toNatClampNeg = zslot L l := nI_clamp (by omega)
  have hV : st.V ≤ 1000000 ∧ I 1 12 = nI st.V := hR.1
  /- from a table on -/
  have main : ∀ (s1 : zQs) (I1 : Nat → Nat → Int32) (t : Nat), zok s1 t → s1.2.2 = s.2.2 → s1.2.1 (zslot L l) = some t → zCv I I1 → I1 18 = I 18 → (∀ k t', k < 100 → k ≠ zslot L l → s1.2.1 k = some t' → t' ≠ t ∧ I1 t' = I t' ∧ s.2.1 k = some t') →
      s1.1 = zcn (fun k => (s1.2.1 k).isSome) 100 → (∀ k t, k < 100 → s1.2.1 k = some t → 103 ≤ t ∧ t < 103 + s1.1) → (∀ l', l' ≤ 99 → zFsh L st s I l' → ∃ t', s1.2.1 (zslot L l') = some t') →
      ∃ J1 J, zf_128 [.ref 16, .ref t, .int (nI (zslot L l))] (zMk (s1, I1)) = some (.long 0, zMk (s1, J1)) ∧ zf_130 [.ref 16, .ref t] (zMk (s1, J1)) = some (.long 0, zMk (s1, J)) ∧
        zEv L st s1 (zwA J 18 (upd (J 18) (zslot L l) (J 1 12))) ∧ zFsh L st s1 (zwA J 18 (upd (J 18) (zslot L l) (J 1 12))) l ∧ (∀ l', l' ≤ 99 → zFsh L st s I l' → zFsh L st s1 (zwA J 18 (upd (J 18) (zslot L l) (J 1 12))) l') ∧ zCv I (zwA J 18 (upd (J 18) (zslot L l) (J 1 12))) := by
    intro s1 I1 t hT hs hst hcv h18 hoth hcnt hrng hfr
    have hL1 := zLaw_Cv hL hcv hs
    have hR1 := Rep_Cv hR hcv
    obtain ⟨J1, J, e1, e2, c, tb⟩ := ztable s1 hT (l := zslot L l) I1 hL1 (zTwn_of hR1)
    have cJ : zCv I1 J := ⟨fun r hr a b c' d e _ => zCt_k hT.1 c r hr a b c' d e, c.2⟩
    have jV : J 1 12 = nI st.V := by rw [zCt_k hT.1 c 1 (by decide) (by decide) (by decide) (by decide) (by decide) (by decide)]; exact hR1.1.2
    have c18 : zCv J (zwA J 18 (upd (J 18) (zslot L l) (J 1 12))) := ⟨fun r _ _ _ _ _ _ h => zwA_n h, fun j _ => ⟨by rw [zwA_n (by decide)], by rw [zwA_n (by decide)]⟩⟩
    have call := zCv_tr hcv (zCv_tr cJ c18)
    have j18 : J 18 = I 18 := by rw [zCt_k hT.1 c 18 (by decide) (by decide) (by decide) (by decide) (by decide) (by decide), h18]
    have frn : ∀ l', zslot L l' = zslot L l → zFsh L st s1 (zwA J 18 (upd (J 18) (zslot L l) (J 1 12))) l' := by
      intro l' e
      refine ⟨t, by rw [e]; exact hst, ?_⟩
      rw [e, zwA_s, upd_at, if_pos rfl]
      exact jV
    refine ⟨J1, J, e1, e2, ⟨Rep_Cv hR call, zLaw_Cv hL call hs, hT.2.2, hcnt, hrng, ?_, ?_⟩, frn l rfl, ?_, call⟩
    · intro k k' t' h1 h2 h3 h4
      by_cases a : k = zslot L l
      · by_cases b : k' = zslot L l
        · rw [a, b]
        · rw [a, hst] at h3
          exact absurd (Option.some.inj h3).symm (hoth k' t' h2 b h4).1
      · by_cases b : k' = zslot L l
        · rw [b, hst] at h4
          exact absurd (Option.some.inj h4).symm (hoth k t' h1 a h3).1
        · exact y4 k k' t' h1 h2 (hoth k t' h1 a h3).2.2 (hoth k' t' h2 b h4).2.2
    · intro k t' h1 h3
      by_cases a : k = zslot L l
      · subst a
        rw [hst] at h3
        have h3 := Option.some.inj h3
        subst h3
        refine ⟨st.V, Nat.le_refl _, by rw [zwA_s, upd_at, if_pos rfl]; exact jV, fun _ a b ha hb => ?_⟩
        have := hT.1
        rw [zwA_n (by omega)]
        exact tb a b ha hb
      · obtain ⟨o1, o2, o3⟩ := hoth k t' h1 a h3
        obtain ⟨v, v1, v2, v3⟩ := y5 k t' h1 o3
        refine ⟨v, v1, by rw [zwA_s, upd_at, if_neg a, j18]; exact v2, fun hv a b ha hb => ?_⟩
        have := (hrng k t' h1 h3).1
        rw [zwA_n (by omega), c.1 t' o1 (by omega) (by omega) (by omega) (by omega) (by omega), o2]
        exact v3 hv a b ha hb
    · intro l' hl' hf
      by_cases a : zslot L l' = zslot L l
      · exact frn l' a
      · obtain ⟨t', h1⟩ := hfr l' hl' hf
        obtain ⟨t2, h2, h3⟩ := hf
        refine ⟨t', h1, ?_⟩
        rw [zwA_s, upd_at, if_neg a, j18]
        exact h3
  have fin : ∀ (s1 : zQs) (I1 J1 J : Nat → Nat → Int32) (t : Nat), zf_128 [.ref 16, .ref t, .int (nI (zslot L l))] (zMk (s1, I1)) = some (.long 0, zMk (s1, J1)) → zf_130 [.ref 16, .ref t] (zMk (s1, J1)) = some (.long 0, zMk (s1, J)) →
      zcV (zf_128 [.ref 16, .ref t, .int (nI (zslot L l))] (zMk (s1, I1))) (fun M => zQ_120 (33, [.ref 16, .int (nI l), .int (nI (zslot L l)), .ref t], [], M)) = some (.long 0, zMk (s1, zwA J 18 (upd (J 18) (zslot L l) (J 1 12)))) := by
    intro s1 I1 J1 J t e1 e2
    rw [e1, zcV_some, zq_120_33, e2, zcV_some, zq_120_36, if_pos zk, ck]
  rw [zqz_120, zq_120_0, zf126 s hL hl, zcI_some, zq_120_3, if_pos zk, ck]
  cases ht : s.2.1 (zslot L l) with
  | none =>
    have hns := zsome_n (t := 103 + s.1) hk ht
    have hc : s.1 < 100 := by omega
    show ∃ s' J, zQ_120 (8, [.ref 16, .int (nI l), .int (nI (zslot L l)), .long 0], [.null], zMk (s, I)) = _ ∧ _
    have hn : zn (zMk (s, I)) = 103 + s.1 := rfl
    have hT : zok ((s.1 + 1, va_up s.2.1 (zslot L l) (some (103 + s.1)), s.2.2) : zQs) (103 + s.1) := ⟨by omega, by show 103 + s.1 < 103 + (s.1 + 1); omega, by show s.1 + 1 ≤ 100; omega⟩
    have hT0 : zok ((s.1 + 1, s.2) : zQs) (103 + s.1) := ⟨by omega, by show 103 + s.1 < 103 + (s.1 + 1); omega, by show s.1 + 1 ≤ 100; omega⟩
    obtain ⟨J1, J, e1, e2, h1, h2, h3, h4⟩ := main (s.1 + 1, va_up s.2.1 (zslot L l) (some (103 + s.1)), s.2.2) (zwA I (103 + s.1) (fun _ => 0)) (103 + s.1) hT rfl (va_up_self _ _ _) ⟨fun r hr _ _ _ _ _ _ => zwA_n (by omega), fun j _ => ⟨by rw [zwA_n (by omega)], by rw [zwA_n (by omega)]⟩⟩ (by rw [zwA_n (by omega)])
      (fun k t' h1 h2 h3 => by
        have h3 : s.2.1 k = some t' := (va_up_ne s.2.1 (some (103 + s.1)) h2).symm.trans h3
        have := y3 k t' h1 h3
        exact ⟨by omega, zwA_n (by omega), h3⟩)
      (by show s.1 + 1 = _; rw [hns.1, ← y2])
      (fun k t' h1 h2 => by
        show 103 ≤ t' ∧ t' < 103 + (s.1 + 1)
        by_cases h3 : k = zslot L l
        · subst h3
          have h2 : some (103 + s.1) = some t' := (va_up_self _ _ _).symm.trans h2
          have := Option.some.inj h2
          omega
        · have h4 : s.2.1 k = some t' := (va_up_ne s.2.1 (some (103 + s.1)) h3).symm.trans h2
          have := y3 k t' h1 h4
          omega)
      (fun l' hl' hf => by
        obtain ⟨t', h1, -⟩ := hf
        by_cases h3 : zslot L l' = zslot L l
        · exact ⟨103 + s.1, by rw [h3]; exact va_up_self _ _ _⟩
        · exact ⟨t', (va_up_ne s.2.1 (some (103 + s.1)) h3).trans h1⟩)
    refine ⟨_, _, ?_, h1, h2, h3, h4, rfl⟩
    rw [zq_120_8n, hn, if_pos (show 103 + s.1 < 1000000 by omega), znew_tab, zq_120_13n, if_pos zk, zok_a hT0, if_pos rfl, ck, zMk_tab, zq_120_19]
    exact fin _ _ _ _ _ e1 e2
  | some t =>
    show ∃ s' J, zQ_120 (8, [.ref 16, .int (nI l), .int (nI (zslot L l)), .long 0], [.ref t], zMk (s, I)) = _ ∧ _
    have hT : zok s t := ⟨(y3 _ _ hk ht).1, (y3 _ _ hk ht).2, y1⟩
    rw [zq_120_8s, if_pos zk, ck, hV.2]
    by_cases h : I 18 (zslot L l) = nI st.V
    · rw [if_neg (not_not_intro h)]
      exact ⟨s, I, rfl, hE, ⟨t, ht, h⟩, fun _ _ h => h, zCv_rfl I, rfl⟩
    · rw [if_pos h]
      obtain ⟨J1, J, e1, e2, h1, h2, h3, h4⟩ := main s I t hT rfl ht (zCv_rfl I) rfl (fun k t' h1 h2 h3 => ⟨fun e => h2 (y4 k _ t h1 hk (by rw [h3, e]) ht), rfl, h3⟩) y2 y3 (fun l' hl' hf => by obtain ⟨t', h1, -⟩ := hf; exact ⟨t', h1⟩)
      exact ⟨s, _, fin _ _ _ _ _ e1 e2, h1, h2, h3, h4, rfl⟩
