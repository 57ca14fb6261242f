/-! THE LAW'S TEXT, READ BY THE REFERENCE: ITS STEPS -/
/-- the row of what waits, top first -/
def zyst (f : Nat → Int32) : List Nat → Prop
  | [] => True
  | x :: W => f W.length = nI x ∧ zyst f W
theorem zyst_up {f : Nat → Int32} {k : Nat} {x : Int32} : ∀ W : List Nat, W.length ≤ k → zyst f W → zyst (upd f k x) W
  | [], _, _ => trivial
  | y :: W, h, q => by
    have h : W.length + 1 ≤ k := h
    refine ⟨?_, zyst_up W (by omega) q.2⟩
    rw [upd_at, if_neg (by omega)]
    exact q.1
def zyisO (w : Nat) : Bool := decide (w / 1048576 = 10 ∨ w / 1048576 = 13 ∨ w / 1048576 = 14)
def zyisP (w : Nat) : Bool := decide ((2 ≤ w / 1048576 ∧ w / 1048576 ≤ 6) ∨ w / 1048576 = 10)
/-- how many are open; how many wait to be noted -/
def zyop : List Nat → Nat
  | [] => 0
  | w :: W => zyop W + (if zyisO w = true then 1 else 0)
def zypn : List Nat → Nat
  | [] => 0
  | w :: W => zypn W + (if zyisP w = true then 1 else 0)
theorem zyop_c (w : Nat) (W : List Nat) : zyop (w :: W) = zyop W + (if zyisO w = true then 1 else 0) := rfl
theorem zypn_c (w : Nat) (W : List Nat) : zypn (w :: W) = zypn W + (if zyisP w = true then 1 else 0) := rfl
def zyrv (i : Nat) (c : Nat × Nat) : Nat := if 11 ≤ c.1 ∧ c.2 = i then 0 else c.2
def zyR (T : Nat → Nat) (n d : Nat) (W : List Nat) (Q : zyS) (I : Nat → Nat → Int32) : Prop :=
  n ≤ 160 ∧ (∀ i, i < n → T i < 256 ∧ I 63 i = zby (T i)) ∧ I 58 11 = nI n ∧ Q.p ≤ n ∧ I 58 10 = nI Q.p ∧ I 58 14 = nI Q.m ∧ I 58 15 = nI W.length ∧ zyst (I 65) W ∧ I 58 13 = nI (zyop W) ∧ W.length ≤ Q.p ∧ Q.m + zypn W + d ≤ Q.p ∧ (∀ w, w ∈ W → w < 16777216) ∧
  ∀ i, i < Q.m → I 64 i = nI (1048576 * (Q.c i).1 + zyrv i (Q.c i)) ∧ (Q.c i).1 ≤ 12 ∧ (Q.c i).2 < 100000
/-- what the reader may write -/
def zyG (I J : Nat → Nat → Int32) : Prop := (∀ r, r ≠ 58 → r ≠ 64 → r ≠ 65 → J r = I r) ∧ ∀ j, j ≠ 10 → j ≠ 12 → j ≠ 13 → j ≠ 14 → j ≠ 15 → j ≠ 17 → J 58 j = I 58 j
theorem zyG_rfl (I : Nat → Nat → Int32) : zyG I I := ⟨fun _ _ _ _ => rfl, fun _ _ _ _ _ _ _ => rfl⟩
theorem zyG_tr {I J K : Nat → Nat → Int32} (h : zyG I J) (g : zyG J K) : zyG I K :=
  ⟨fun r a b c => (g.1 r a b c).trans (h.1 r a b c), fun j a b c d e f => (g.2 j a b c d e f).trans (h.2 j a b c d e f)⟩
theorem zyR_256 {T : Nat → Nat} {n d : Nat} {W : List Nat} {Q : zyS} {I : Nat → Nat → Int32} (h : zyR T n d W Q I) : zyn T n Q < 256 ∨ zyn T n Q = 1000 := by
  unfold zyn
  by_cases hp : Q.p < n
  · rw [if_pos hp]; exact Or.inl (h.2.1 _ hp).1
  · rw [if_neg hp]; exact Or.inr rfl
theorem zyR_d {T : Nat → Nat} {n d d' : Nat} {W : List Nat} {Q : zyS} {I : Nat → Nat → Int32} (h : zyR T n d W Q I) (hd : d' ≤ d) : zyR T n d' W Q I := by
  obtain ⟨h1, h2, h3, h4, h5, h6, h7, h8, h9, h10, h11, h12⟩ := h
  exact ⟨h1, h2, h3, h4, h5, h6, h7, h8, h9, h10, by omega, h12⟩
theorem zf190r {s : zQs} {T : Nat → Nat} {n d : Nat} {W : List Nat} {Q : zyS} {I : Nat → Nat → Int32} (h : zyR T n d W Q I) : zf_190 [.ref 58] (zMk (s, I)) = some (.int (zyI (zyn T n Q)), zMk (s, I)) := by
  obtain ⟨h1, h2, h3, h4, h5, -⟩ := h
  rw [zl_190, h3, h5]
  unfold zyn
  by_cases hl : Q.p < n
  · obtain ⟨t1, t2⟩ := h2 _ hl
    rw [if_neg (nI_ge hl (by omega)), if_pos (zb_t (show Q.p < 200 by omega) (by omega)), nI_clamp (show Q.p < 2 ^ 31 by omega), t2, (zby_255 _ t1).1, if_pos hl, zyI_nI t1]
  · rw [if_pos (nI_le (by omega) (by omega)), if_neg hl]
    rfl
theorem zf191r {s : zQs} {T : Nat → Nat} {n d : Nat} {W : List Nat} {Q : zyS} {I : Nat → Nat → Int32} (h : zyR T n d W Q I) : zf_191 [.ref 58] (zMk (s, I)) = some (.int (if zyg (zyn T n Q) = true then 1 else 0), zMk (s, I)) := by
  rw [zqz_191, zq_191_0, zf190r h, zcI_some, zq_191_2]
  rcases zyR_256 h with hx | hx
  · rw [zyI_nI hx]
    unfold zyg
    by_cases c1 : zyn T n Q < 48
    · rw [if_pos (show nI (zyn T n Q) < 48 from nI_lt (b := 48) c1 (by decide)), decide_eq_false (by omega)]
      rfl
    · rw [if_neg (show ¬ nI (zyn T n Q) < 48 from nI_nlt (b := 48) (by omega) (by omega)), zf190r h, zcI_some, zyI_nI hx, zq_191_6]
      by_cases c2 : 57 < zyn T n Q
      · rw [if_pos (show (57 : Int32) < nI (zyn T n Q) from nI_lt (a := 57) c2 (by omega)), decide_eq_false (by omega)]
        rfl
      · rw [if_neg (show ¬ (57 : Int32) < nI (zyn T n Q) from nI_nlt (a := 57) (by omega) (by decide)), decide_eq_true (by omega)]
        rfl
  · rw [hx]
    rfl
/-- the reference is at fault -/
def zyN (e : Nat) (I J : Nat → Nat → Int32) : Prop := J 58 12 = zyF e ∧ zyG I J
theorem zf192r (s : zQs) (I : Nat → Nat → Int32) {k p : Nat} (hk : k ∈ [1, 2, 4, 5]) (hp : p ≤ 160) : ∃ J, zf_192 [.ref 58, .int (nI k), .int (nI p)] (zMk (s, I)) = some (.int 0, zMk (s, J)) ∧ zyN (1000 * k + p) I J := by
  refine ⟨_, zl_192 s I _ _, ?_, fun r a _ _ => zwA_n a, fun j _ b _ _ _ _ => by rw [zwA_s, upd_at, if_neg b]⟩
  rw [zwA_s, upd_at, if_pos rfl, zyF_0 k hk p (by omega)]
/-- a step is noted -/
theorem zf195r {s : zQs} {T : Nat → Nat} {n d d' : Nat} {W : List Nat} {Q : zyS} {I : Nat → Nat → Int32} (h : zyR T n d W Q I) {op v v0 : Nat} (hd : Q.m + 1 + zypn W + d' ≤ Q.p) (hop : op ≤ 12) (hv : v < 100000) (hv0 : v0 = zyrv Q.m (op, v)) :
    ∃ J, zf_195 [.ref 58, .int (nI op), .int (nI v0)] (zMk (s, I)) = some (.long 0, zMk (s, J)) ∧ zyR T n d' W (zye op v Q) J ∧ zyG I J ∧ J 65 = I 65 ∧ ∀ j, j ≠ 14 → J 58 j = I 58 j := by
  obtain ⟨h1, h2, h3, h4, h5, h6, h7, h8, h9, h10, h11, h12, h13⟩ := h
  have hm : Q.m < 160 := by omega
  have hv1 : v0 ≤ v := by rw [hv0]; unfold zyrv; split <;> simp
  have ev : (1048576 : Int32) * nI op + nI v0 = nI (1048576 * op + v0) := by rw [show (1048576 : Int32) * nI op = nI (1048576 * op) from nI_mul 1048576 op, nI_add]
  refine ⟨zwA (zwA I 64 (upd (I 64) Q.m (nI (1048576 * op + v0)))) 58 (upd (I 58) 14 (nI (Q.m + 1))), ?_, ?_, ⟨fun r a b _ => by rw [zwA_n a, zwA_n b], fun j _ _ _ e _ _ => by rw [zwA_s, upd_at, if_neg e]⟩, by rw [zwA_n (by decide), zwA_n (by decide)], fun j hj => by rw [zwA_s, upd_at, if_neg hj]⟩
  · rw [zl_195, h6, if_pos (zb_t (show Q.m < 180 by omega) (by omega)), nI_clamp (show Q.m < 2 ^ 31 by omega), ev, nI_1]
  · rw [zye_lt hm]
    refine ⟨h1, ?_, ?_, h4, ?_, ?_, ?_, ?_, ?_, h10, hd, h12, fun i hi => ?_⟩
    · rw [zwA_n (by decide), zwA_n (by decide)]; exact h2
    · rw [zwA_s, upd_at, if_neg (by decide)]; exact h3
    · rw [zwA_s, upd_at, if_neg (by decide)]; exact h5
    · rw [zwA_s, upd_at, if_pos rfl]; rfl
    · rw [zwA_s, upd_at, if_neg (by decide)]; exact h7
    · rw [zwA_n (by decide), zwA_n (by decide)]; exact h8
    · rw [zwA_s, upd_at, if_neg (by decide)]; exact h9
    · have hi : i < Q.m + 1 := hi
      show zwA _ 58 _ 64 i = nI (1048576 * (if i = Q.m then (op, v) else Q.c i).1 + zyrv i (if i = Q.m then (op, v) else Q.c i)) ∧ (if i = Q.m then (op, v) else Q.c i).1 ≤ 12 ∧ (if i = Q.m then (op, v) else Q.c i).2 < 100000
      rw [zwA_n (show (64 : Nat) ≠ 58 by decide), zwA_s, upd_at]
      by_cases e : i = Q.m
      · rw [if_pos e, if_pos e, hv0, e]
        exact ⟨rfl, hop, hv⟩
      · rw [if_neg e, if_neg e]
        exact h13 i (by omega)
/-- what waits on top -/
def zytp (W : List Nat) : Int32 := match W with
  | [] => -1
  | w :: _ => nI (w / 1048576)
theorem zf197r {s : zQs} {T : Nat → Nat} {n d : Nat} {W : List Nat} {Q : zyS} {I : Nat → Nat → Int32} (h : zyR T n d W Q I) : zf_197 [.ref 58] (zMk (s, I)) = some (.int (zytp W), zMk (s, I)) := by
  obtain ⟨h1, h2, h3, h4, h5, h6, h7, h8, h9, h10, h11, h12, h13⟩ := h
  rw [zl_197, h7]
  cases W with
  | nil => rfl
  | cons w W =>
    have hl : W.length + 1 ≤ Q.p := h10
    have hw := h12 w (List.mem_cons_self)
    have e1 : nI (w :: W).length - 1 = nI W.length := nI_sub (a := W.length + 1) (b := 1) (by omega)
    rw [if_pos (show ¬ nI (w :: W).length = 0 from nI_ne (b := 0) (by show W.length + 1 ≠ 0; omega) (by show W.length + 1 < 2 ^ 31; omega) (by decide)), e1, if_pos (zb_t (show W.length < 180 by omega) (by omega)), nI_clamp (show W.length < 2 ^ 31 by omega), h8.1, show nI w / 1048576 = nI (w / 1048576) from nI_div w 1048576 (by omega) (by decide)]
    rfl
/-- one waits more: the rows behind it -/
theorem zyR_push {T : Nat → Nat} {n d d' : Nat} {W : List Nat} {Q Q' : zyS} {I J : Nat → Nat → Int32} (h : zyR T n d W Q I) {w : Nat} (hw : w < 16777216) (hp : Q'.p = Q.p + 1) (hl : Q.p < n) (hm : Q'.m = Q.m) (hc : Q'.c = Q.c) (hd : Q.m + zypn (w :: W) + d' ≤ Q.p + 1)
    (e63 : J 63 = I 63) (e64 : J 64 = I 64) (e65 : J 65 = upd (I 65) W.length (nI w)) (e10 : J 58 10 = nI (Q.p + 1)) (e11 : J 58 11 = I 58 11) (e13 : J 58 13 = nI (zyop (w :: W))) (e14 : J 58 14 = I 58 14) (e15 : J 58 15 = nI (W.length + 1)) : zyR T n d' (w :: W) Q' J := by
  obtain ⟨h1, h2, h3, h4, h5, h6, h7, h8, h9, h10, h11, h12, h13⟩ := h
  refine ⟨h1, by rw [e63]; exact h2, by rw [e11]; exact h3, by rw [hp]; exact hl, by rw [hp]; exact e10, by rw [e14, hm]; exact h6, e15, ⟨?_, ?_⟩, e13, by rw [hp]; show W.length + 1 ≤ Q.p + 1; omega, by rw [hp, hm]; exact hd, fun x hx => ?_, by rw [e64, hm, hc]; exact h13⟩
  · rw [e65, upd_at, if_pos rfl]
  · rw [e65]
    exact zyst_up W (Nat.le_refl _) h8
  · rcases List.mem_cons.mp hx with e | e
    · rw [e]; exact hw
    · exact h12 x e
/-- the reference opens -/
theorem zf196r {s : zQs} {T : Nat → Nat} {n d : Nat} {W : List Nat} {Q : zyS} {I : Nat → Nat → Int32} (h : zyR T n d W Q I) (hl : Q.p < n) {k : Nat} (hk : k = 10 ∨ k = 13 ∨ k = 14) (ho : zyop W ≤ 6) :
    (zyop W < 6 → ∃ J, zf_196 [.ref 58, .int (nI k)] (zMk (s, I)) = some (.int 1, zMk (s, J)) ∧ zyR T n d (1048576 * k :: W) (zya Q) J ∧ zyG I J) ∧
    (zyop W = 6 → ∃ J, zf_196 [.ref 58, .int (nI k)] (zMk (s, I)) = some (.int 0, zMk (s, J)) ∧ zyN (1000 * 5 + Q.p) I J) := by
  obtain ⟨h1, h2, h3, h4, h5, h6, h7, h8, h9, h10, h11, h12, h13⟩ := id h
  have ho6 : 1048576 * k / 1048576 = k := by omega
  refine ⟨fun hlt => ?_, fun he => ?_⟩
  · refine ⟨zwA (zwA I 65 (upd (I 65) W.length (nI (1048576 * k)))) 58 (upd (upd (upd (I 58) 13 (nI (zyop W + 1))) 15 (nI (W.length + 1))) 10 (nI (Q.p + 1))), ?_, ?_, ⟨fun r a _ c => by rw [zwA_n a, zwA_n c], fun j a _ c _ e _ => by rw [zwA_s, upd_at, if_neg a, upd_at, if_neg e, upd_at, if_neg c]⟩⟩
    · rw [zqz_196, zq_196_0, h9, h7, h5, if_pos (show ¬ nI (zyop W) = 6 from nI_ne (b := 6) (by omega) (by omega) (by decide)), if_pos (zb_t (show W.length < 180 by omega) (by omega)), nI_clamp (show W.length < 2 ^ 31 by omega), show (1048576 : Int32) * nI k = nI (1048576 * k) from nI_mul 1048576 k, nI_1, nI_1, nI_1]
      refine congrArg (fun K => some (Value.int 1, zMk (s, K))) (funext fun r => ?_)
      by_cases e58 : r = 58
      · subst e58
        rw [zwA_s, zwA_s]
      · rw [zwA_n e58, zwA_n e58, zwA_n e58]
        by_cases e65 : r = 65
        · subst e65
          rw [zwA_s, zwA_s]
        · rw [zwA_n e65, zwA_n e65, zwA_n e58]
    · refine zyR_push h (by omega) rfl hl rfl rfl ?_ (by rw [zwA_n (by decide), zwA_n (by decide)]) (by rw [zwA_n (by decide), zwA_n (by decide)]) (by rw [zwA_n (by decide), zwA_s]) (by rw [zwA_s, upd_at, if_pos rfl]) (by rw [zwA_s, upd_at, if_neg (by decide), upd_at, if_neg (by decide), upd_at, if_neg (by decide)]) ?_ (by rw [zwA_s, upd_at, if_neg (by decide), upd_at, if_neg (by decide), upd_at, if_neg (by decide)]) (by rw [zwA_s, upd_at, if_neg (by decide), upd_at, if_pos rfl])
      · rw [zypn_c]
        split <;> omega
      · rw [zwA_s, upd_at, if_neg (by decide), upd_at, if_neg (by decide), upd_at, if_pos rfl, zyop_c, if_pos (show zyisO (1048576 * k) = true from decide_eq_true (by rw [ho6]; exact hk))]
  · obtain ⟨J, e, hN⟩ := zf192r s I (k := 5) (by decide) (show Q.p ≤ 160 by omega)
    have e : zf_192 [.ref 58, .int 5, .int (nI Q.p)] (zMk (s, I)) = _ := e
    refine ⟨J, ?_, hN⟩
    rw [zqz_196, zq_196_0, h9, h5, if_neg (not_not_intro (show nI (zyop W) = 6 by rw [he]; rfl)), e, zcI_some, zq_196_9, if_pos (Or.inl rfl)]
/-- a number, digit by digit -/
theorem zlp194 {s : zQs} {T : Nat → Nat} {n d : Nat} {W : List Nat} (p0 : Nat) : ∀ f x Q I, f ≤ 5 → x < 10 ^ (5 - f) → zyR T n d W Q I → Q.p = p0 + (5 - f) → I 58 17 = nI x → Q.e = 0 →
    ((zynm T n f x Q).e = 0 → ∃ J x' Q', zQ_194 (6, [.ref 58, .int (nI p0)], [], zMk (s, I)) = some (.int 1, zMk (s, J)) ∧ zyR T n d W Q' J ∧ J 58 17 = nI x' ∧ zynm T n f x Q = zye 0 x' Q' ∧ x' < 100000 ∧ Q'.e = 0 ∧ Q'.m = Q.m ∧ Q.p ≤ Q'.p ∧ (zyg (zyn T n Q) = true → Q.p < Q'.p) ∧ zyG I J) ∧
    ((zynm T n f x Q).e ≠ 0 → ∃ J, zQ_194 (6, [.ref 58, .int (nI p0)], [], zMk (s, I)) = some (.int 0, zMk (s, J)) ∧ zyN (zynm T n f x Q).e I J) := by
  have p5 : ∀ k, k ≤ 5 → 10 ^ k ≤ 100000 := by decide
  have stop : ∀ f x Q I, f ≤ 5 → x < 10 ^ (5 - f) → zyR T n d W Q I → I 58 17 = nI x → Q.e = 0 → ¬ zyg (zyn T n Q) = true → zynm T n f x Q = zye 0 x Q → ((zynm T n f x Q).e = 0 → ∃ J x' Q', zQ_194 (6, [.ref 58, .int (nI p0)], [], zMk (s, I)) = some (.int 1, zMk (s, J)) ∧ zyR T n d W Q' J ∧ J 58 17 = nI x' ∧ zynm T n f x Q = zye 0 x' Q' ∧ x' < 100000 ∧ Q'.e = 0 ∧ Q'.m = Q.m ∧ Q.p ≤ Q'.p ∧ (zyg (zyn T n Q) = true → Q.p < Q'.p) ∧ zyG I J) ∧
    ((zynm T n f x Q).e ≠ 0 → ∃ J, zQ_194 (6, [.ref 58, .int (nI p0)], [], zMk (s, I)) = some (.int 0, zMk (s, J)) ∧ zyN (zynm T n f x Q).e I J) := by
    intro f x Q I hf hx h h17 he hg hz
    have hx5 := p5 (5 - f) (by omega)
    have hz0 : (zynm T n f x Q).e = 0 := by
      rw [hz]
      unfold zye
      split
      · exact he
      · exact he
    refine ⟨fun _ => ⟨I, x, Q, ?_, h, h17, hz, by omega, he, rfl, Nat.le_refl _, fun q => absurd q hg, zyG_rfl I⟩, fun q => absurd hz0 q⟩
    rw [zq_194_6, zf191r h, if_neg hg, zcI_some, zq_194_8, if_pos rfl]
  intro f
  induction f with
  | zero =>
    intro x Q I hf hx h hp h17 he
    by_cases hg : zyg (zyn T n Q) = true
    · have hz : zynm T n 0 x Q = zyf 2 Q := by rw [zynm_0, if_pos hg]
      obtain ⟨J, e, hN⟩ := zf192r s I (k := 2) (by decide) (show Q.p ≤ 160 by have := h.1; have := h.2.2.2.1; omega)
      have e : zf_192 [.ref 58, .int 2, .int (nI Q.p)] (zMk (s, I)) = _ := e
      rw [hz, zyf_e he]
      refine ⟨fun q => ?_, fun _ => ⟨J, ?_, hN⟩⟩
      · have q : 1000 * 2 + Q.p = 0 := q
        omega
      · have hpe : nI Q.p = nI p0 + 5 := by
          rw [hp]
          exact (nI_add p0 5).symm
        rw [zq_194_6, zf191r h, if_pos hg, zcI_some, zq_194_8, if_neg (by decide), h.2.2.2.2.1, if_neg (not_not_intro hpe), e, zcI_some, zq_194_20, if_pos (Or.inl rfl)]
    · exact stop 0 x Q I hf hx h h17 he hg (by rw [zynm_0, if_neg hg])
  | succ f ih =>
    intro x Q I hf hx h hp h17 he
    by_cases hg : zyg (zyn T n Q) = true
    · obtain ⟨hl, g1, g2⟩ := zyg_n hg
      have hx5 := p5 (5 - (f + 1)) (by omega)
      have e10 : 10 ^ (5 - f) = 10 * 10 ^ (5 - (f + 1)) := by rw [show 5 - f = (5 - (f + 1)) + 1 by omega, Nat.pow_succ, Nat.mul_comm]
      obtain ⟨h1, h2, h3, h4, h5, h6, h7, h8, h9, h10, h11, h12, h13⟩ := id h
      have hz : zynm T n (f + 1) x Q = zynm T n f (10 * x + zyn T n Q - 48) (zya Q) := by rw [zynm_s, if_pos hg]
      have e3 : ((10 : Int32) * nI x + nI (zyn T n Q)) - 48 = nI (10 * x + zyn T n Q - 48) := by
        rw [show (10 : Int32) * nI x = nI (10 * x) from nI_mul 10 x, nI_add]
        exact nI_sub (b := 48) (by omega)
      have hne : ¬ nI Q.p = nI p0 + 5 := by
        rw [show nI p0 + 5 = nI (p0 + 5) from nI_add p0 5]
        exact nI_ne (by omega) (by omega) (by omega)
      have hR2 : zyR T n d W (zya Q) (zwA (zwA I 58 (upd (I 58) 17 (nI (10 * x + zyn T n Q - 48)))) 58 (upd (upd (I 58) 17 (nI (10 * x + zyn T n Q - 48))) 10 (nI (Q.p + 1)))) := by
        rw [zwA_zwA]
        refine ⟨h1, ?_, ?_, hl, ?_, ?_, ?_, ?_, ?_, by show W.length ≤ Q.p + 1; omega, by show Q.m + zypn W + d ≤ Q.p + 1; omega, h12, ?_⟩
        · rw [zwA_n (by decide)]; exact h2
        · rw [zwA_s, upd_at, if_neg (by decide), upd_at, if_neg (by decide)]; exact h3
        · rw [zwA_s, upd_at, if_pos rfl]; rfl
        · rw [zwA_s, upd_at, if_neg (by decide), upd_at, if_neg (by decide)]; exact h6
        · rw [zwA_s, upd_at, if_neg (by decide), upd_at, if_neg (by decide)]; exact h7
        · rw [zwA_n (by decide)]; exact h8
        · rw [zwA_s, upd_at, if_neg (by decide), upd_at, if_neg (by decide)]; exact h9
        · rw [zwA_n (by decide)]; exact h13
      have hG2 : zyG I (zwA (zwA I 58 (upd (I 58) 17 (nI (10 * x + zyn T n Q - 48)))) 58 (upd (upd (I 58) 17 (nI (10 * x + zyn T n Q - 48))) 10 (nI (Q.p + 1)))) := by
        rw [zwA_zwA]
        exact ⟨fun r a _ _ => zwA_n a, fun j a _ _ _ _ f => by rw [zwA_s, upd_at, if_neg a, upd_at, if_neg f]⟩
      obtain ⟨i1, i2⟩ := ih (10 * x + zyn T n Q - 48) (zya Q) _ (by omega) (by omega) hR2 (by show Q.p + 1 = _; omega) (by rw [zwA_s, upd_at, if_neg (by decide), upd_at, if_pos rfl]) he
      have st : zQ_194 (6, [.ref 58, .int (nI p0)], [], zMk (s, I)) = zQ_194 (6, [.ref 58, .int (nI p0)], [], zMk (s, zwA (zwA I 58 (upd (I 58) 17 (nI (10 * x + zyn T n Q - 48)))) 58 (upd (upd (I 58) 17 (nI (10 * x + zyn T n Q - 48))) 10 (nI (Q.p + 1))))) := by
        rw [zq_194_6, zf191r h, if_pos hg, zcI_some, zq_194_8, if_neg (by decide), h5, if_pos hne, zf190r h, zcI_some, zyI_nI (by omega), zq_194_28, h17, e3, h5, nI_1]
      rw [hz]
      refine ⟨fun q => ?_, fun q => ?_⟩
      · obtain ⟨J, x', Q', a1, a2, a3, a4, a5, a6, a7, a8, a9, a10⟩ := i1 q
        have a8 : Q.p + 1 ≤ Q'.p := a8
        exact ⟨J, x', Q', st.trans a1, a2, a3, a4, a5, a6, a7, by omega, fun _ => by omega, zyG_tr hG2 a10⟩
      · obtain ⟨J, a1, a2, a3⟩ := i2 q
        exact ⟨J, st.trans a1, a2, zyG_tr hG2 a3⟩
    · exact stop (f + 1) x Q I hf hx h h17 he hg (by rw [zynm_s, if_neg hg])
theorem zy198_o (s : zQs) (I : Nat → Nat → Int32) (x0 : Int32) (h : x0.toInt < 100 ∨ 119 < x0.toInt) : zf_198 [.int x0] (zMk (s, I)) = some (.int (-1), zMk (s, I)) := by
  rw [zqz_198, zq_198_0, zq_198_1]
  unfold ztab
  rw [if_pos h]
  exact zq_198_20 s I x0
theorem zy198 (s : zQs) (I : Nat → Nat → Int32) {c : Nat} (hc : c < 256 ∨ c = 1000) : zf_198 [.int (zyI c)] (zMk (s, I)) = some (.int (zyB (zyx c)), zMk (s, I)) := by
  rcases hc with hc | hc
  · rw [zyI_nI hc]
    by_cases ho : c < 100 ∨ 119 < c
    · have hx : zyx c = none := by
        unfold zyx
        split <;> first | rfl | omega
      rw [hx, zy198_o s I (nI c) (by rw [nI_toInt (show c < 2 ^ 31 by omega)]; omega)]
      rfl
    · have hcs : c = 100 ∨ c = 101 ∨ c = 102 ∨ c = 103 ∨ c = 104 ∨ c = 105 ∨ c = 106 ∨ c = 107 ∨ c = 108 ∨ c = 109 ∨ c = 110 ∨ c = 111 ∨ c = 112 ∨ c = 113 ∨ c = 114 ∨ c = 115 ∨ c = 116 ∨ c = 117 ∨ c = 118 ∨ c = 119 := by omega
      rw [zqz_198, zq_198_0, zq_198_1]
      rcases hcs with rfl | rfl | rfl | rfl | rfl | rfl | rfl | rfl | rfl | rfl | rfl | rfl | rfl | rfl | rfl | rfl | rfl | rfl | rfl | rfl
      · exact zq_198_4 s I _
      · exact zq_198_20 s I _
      · exact zq_198_12 s I _
      · exact zq_198_14 s I _
      · exact zq_198_18 s I _
      · exact zq_198_20 s I _
      · exact zq_198_20 s I _
      · exact zq_198_6 s I _
      · exact zq_198_8 s I _
      · exact zq_198_20 s I _
      · exact zq_198_20 s I _
      · exact zq_198_20 s I _
      · exact zq_198_20 s I _
      · exact zq_198_20 s I _
      · exact zq_198_20 s I _
      · exact zq_198_16 s I _
      · exact zq_198_20 s I _
      · exact zq_198_2 s I _
      · exact zq_198_20 s I _
      · exact zq_198_10 s I _
  · subst hc
    exact zy198_o s I (-1) (Or.inl (by decide))
