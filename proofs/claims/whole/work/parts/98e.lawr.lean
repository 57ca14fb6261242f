/-! THE LAW'S TEXT, READ BY THE CLASS: CLAUSES -/
/-- what is read; sorts, beginnings, how many -/
abbrev zyZ : Type := zyS × (Nat → Bool) × (Nat → Nat × Nat × Nat) × Nat
def zyZ.s (Z : zyZ) : zyS := Z.1
def zyZ.k (Z : zyZ) : Nat → Bool := Z.2.1
def zyZ.q (Z : zyZ) : Nat → Nat × Nat × Nat := Z.2.2.1
def zyZ.n (Z : zyZ) : Nat := Z.2.2.2
def zyb (T : Nat → Nat) (n : Nat) (Z : zyZ) : zyS := if zyn T n Z.s ≠ 110 ∧ zyn T n Z.s ≠ 99 then zyf 1 Z.s else if 12 ≤ Z.n then zyf 4 Z.s else Z.s
def zyu (T : Nat → Nat) (n c : Nat) (S : zyS) : zyS := if c = 99 then zysu T n 8 0 S else S
def zyv (T : Nat → Nat) (n c : Nat) (S : zyS) : zyS := zyt T n 40 (zyu T n c S)
def zyw (T : Nat → Nat) (n c : Nat) (S : zyS) : zyS := zyt T n 41 (zycn T n (zypi T n 8) 1 (zyv T n c S))
def zycl (T : Nat → Nat) (n : Nat) (Z : zyZ) : zyZ := if Z.s.e ≠ 0 then Z else if (zyb T n Z).e ≠ 0 then (zyb T n Z, Z.2) else
  (zyw T n (zyn T n Z.s) (zya Z.s), (fun j => if j = Z.n then decide (zyn T n Z.s = 110) else Z.k j), (fun j => if j = Z.n then (Z.s.m, (zyv T n (zyn T n Z.s) (zya Z.s)).m, (zyw T n (zyn T n Z.s) (zya Z.s)).m) else Z.q j), Z.n + 1)
def zyls (T : Nat → Nat) (n : Nat) : Nat → zyZ → zyZ
  | 0, Z => Z
  | f + 1, Z => if Z.s.e = 0 ∧ Z.s.p < n then zyls T n f (zycl T n (zyt T n 59 Z.s, Z.2)) else Z
theorem zyls_s (T : Nat → Nat) (n f : Nat) (Z : zyZ) : zyls T n (f + 1) Z = if Z.s.e = 0 ∧ Z.s.p < n then zyls T n f (zycl T n (zyt T n 59 Z.s, Z.2)) else Z := rfl
def zyZ0 : zyZ := ((0, 0, 0, (fun _ => (0, 0)), false), (fun _ => false), (fun _ => (0, 0, 0)), 0)
def zylw (T : Nat → Nat) (n : Nat) : zyZ := zyls T n 12 (zycl T n zyZ0)
theorem zyb_e {T : Nat → Nat} {n : Nat} {Z : zyZ} (h0 : Z.s.e = 0) (h : (zyb T n Z).e = 0) : zyb T n Z = Z.s ∧ (zyn T n Z.s = 110 ∨ zyn T n Z.s = 99) ∧ Z.n < 12 := by
  unfold zyb at h ⊢
  by_cases c : zyn T n Z.s ≠ 110 ∧ zyn T n Z.s ≠ 99
  · rw [if_pos c, zyf_e h0] at h
    have h : 1000 * 1 + Z.s.p = 0 := h
    omega
  · rw [if_neg c] at h ⊢
    by_cases c2 : 12 ≤ Z.n
    · rw [if_pos c2, zyf_e h0] at h
      have h : 1000 * 4 + Z.s.p = 0 := h
      omega
    · rw [if_neg c2]
      refine ⟨rfl, ?_, by omega⟩
      by_cases a : zyn T n Z.s = 110
      · exact Or.inl a
      · by_cases b : zyn T n Z.s = 99
        · exact Or.inr b
        · exact absurd ⟨a, b⟩ c
def zyM (O : Nat) (Z : zyZ) (I : Nat → Nat → Int32) : Prop := Z.n ≤ 12 ∧ I O 7 = nI Z.n ∧ ∀ q, q < Z.n → I (O + 3) q = (if Z.k q = true then 110 else 99) ∧ I (O + 4) q = nI (Z.q q).1 ∧ I (O + 5) q = nI (Z.q q).2.1 ∧ I (O + 6) q = nI (Z.q q).2.2
def zyV (O : Nat) (I J : Nat → Nat → Int32) : Prop := ∀ r, r ≠ 32 → r ≠ 33 → (r < O ∨ O + 6 < r) → J r = I r
theorem zyV_tr {O : Nat} {I J K : Nat → Nat → Int32} (h : zyV O I J) (g : zyV O J K) : zyV O I K := fun r a b c => (g r a b c).trans (h r a b c)
theorem zyV_W {O : Nat} {I J : Nat → Nat → Int32} (h : zyW O I J) : zyV O I J := fun r a _ c => h.1 r a (by omega) (by omega) (by omega)
theorem zyM_W {O : Nat} (hO : O = 8 ∨ O = 34) {Z : zyZ} {I J : Nat → Nat → Int32} (h : zyM O Z I) (g : zyW O I J) : zyM O Z J := by
  obtain ⟨h1, h2, h3⟩ := h
  refine ⟨h1, by rw [g.2.1 7 (by decide) (by decide)]; exact h2, ?_⟩
  rw [g.1 (O + 3) (by omega) (by omega) (by omega) (by omega), g.1 (O + 4) (by omega) (by omega) (by omega) (by omega), g.1 (O + 5) (by omega) (by omega) (by omega) (by omega), g.1 (O + 6) (by omega) (by omega) (by omega) (by omega)]
  exact h3
theorem zyC_fr {s : zQs} {O : Nat} {T : Nat → Nat} {n : Nat} {S : zyS} {I J : Nat → Nat → Int32} (h : zyC s O T n S I) (g32 : J 32 = I 32) (g33 : J 33 = I 33) (g2 : J O 2 = I O 2) (g8 : J O 8 = I O 8) (g1 : J (O + 1) = I (O + 1)) (g3 : J (O + 2) = I (O + 2)) : zyC s O T n S J := by
  unfold zyC
  rw [g32, g33, g2, g8, g1, g3]
  exact h
theorem zy31_8 {s : zQs} {I : Nat → Nat → Int32} {c : Nat} (hc : c < 2 ^ 31) (h : I 8 7 = nI c) : zf_31 [.ref 8] (zMk (s, I)) = some (.int (if c < 12 then 0 else 1), zMk (s, I)) := by
  rw [zl_31_8, h]
  by_cases g : c < 12
  · rw [if_pos (show nI c < 12 from nI_lt (b := 12) g (by decide)), if_pos g]
  · rw [if_neg (show ¬ nI c < 12 from nI_nlt (b := 12) (by omega) hc), if_neg g]
theorem zy32_8 {s : zQs} {I : Nat → Nat → Int32} {c : Nat} (hc : c < 12) (h : I 8 7 = nI c) (x : Int32) : zf_32 [.ref 8, .int x] (zMk (s, I)) = some (.long 0, zMk (s, zwA (zwA I 11 (upd (I 11) c x)) 12 (upd (I 12) c (I 8 2)))) := by
  rw [zqz_32_8, zq_32_8_0, zy31_8 (by omega) h, if_pos hc, zcI_some, zq_32_8_2, if_neg (not_not_intro rfl), h, if_pos (zb_t hc (by omega)), if_pos (zb_t hc (by omega)), nI_clamp (show c < 2 ^ 31 by omega)]
theorem zy33_8 {s : zQs} {I : Nat → Nat → Int32} {c : Nat} (hc : c < 12) (h : I 8 7 = nI c) : zf_33 [.ref 8] (zMk (s, I)) = some (.long 0, zMk (s, zwA I 13 (upd (I 13) c (I 8 2)))) := by
  rw [zqz_33_8, zq_33_8_0, zy31_8 (by omega) h, if_pos hc, zcI_some, zq_33_8_2, if_neg (not_not_intro rfl), h, if_pos (zb_t hc (by omega)), nI_clamp (show c < 2 ^ 31 by omega)]
theorem zy34_8 {s : zQs} {I : Nat → Nat → Int32} {c : Nat} (hc : c < 12) (h : I 8 7 = nI c) : zf_34 [.ref 8] (zMk (s, I)) = some (.long 0, zMk (s, zwA (zwA I 14 (upd (I 14) c (I 8 2))) 8 (upd (I 8) 7 (nI (c + 1))))) := by
  rw [zqz_34_8, zq_34_8_0, zy31_8 (by omega) h, if_pos hc, zcI_some, zq_34_8_2, if_neg (not_not_intro rfl), h, if_pos (zb_t hc (by omega)), nI_clamp (show c < 2 ^ 31 by omega), nI_1]
theorem zy31_34 {s : zQs} {I : Nat → Nat → Int32} {c : Nat} (hc : c < 2 ^ 31) (h : I 34 7 = nI c) : zf_31 [.ref 34] (zMk (s, I)) = some (.int (if c < 12 then 0 else 1), zMk (s, I)) := by
  rw [zl_31_34, h]
  by_cases g : c < 12
  · rw [if_pos (show nI c < 12 from nI_lt (b := 12) g (by decide)), if_pos g]
  · rw [if_neg (show ¬ nI c < 12 from nI_nlt (b := 12) (by omega) hc), if_neg g]
theorem zy32_34 {s : zQs} {I : Nat → Nat → Int32} {c : Nat} (hc : c < 12) (h : I 34 7 = nI c) (x : Int32) : zf_32 [.ref 34, .int x] (zMk (s, I)) = some (.long 0, zMk (s, zwA (zwA I 37 (upd (I 37) c x)) 38 (upd (I 38) c (I 34 2)))) := by
  rw [zqz_32_34, zq_32_34_0, zy31_34 (by omega) h, if_pos hc, zcI_some, zq_32_34_2, if_neg (not_not_intro rfl), h, if_pos (zb_t hc (by omega)), if_pos (zb_t hc (by omega)), nI_clamp (show c < 2 ^ 31 by omega)]
theorem zy33_34 {s : zQs} {I : Nat → Nat → Int32} {c : Nat} (hc : c < 12) (h : I 34 7 = nI c) : zf_33 [.ref 34] (zMk (s, I)) = some (.long 0, zMk (s, zwA I 39 (upd (I 39) c (I 34 2)))) := by
  rw [zqz_33_34, zq_33_34_0, zy31_34 (by omega) h, if_pos hc, zcI_some, zq_33_34_2, if_neg (not_not_intro rfl), h, if_pos (zb_t hc (by omega)), nI_clamp (show c < 2 ^ 31 by omega)]
theorem zy34_34 {s : zQs} {I : Nat → Nat → Int32} {c : Nat} (hc : c < 12) (h : I 34 7 = nI c) : zf_34 [.ref 34] (zMk (s, I)) = some (.long 0, zMk (s, zwA (zwA I 40 (upd (I 40) c (I 34 2))) 34 (upd (I 34) 7 (nI (c + 1))))) := by
  rw [zqz_34_34, zq_34_34_0, zy31_34 (by omega) h, if_pos hc, zcI_some, zq_34_34_2, if_neg (not_not_intro rfl), h, if_pos (zb_t hc (by omega)), nI_clamp (show c < 2 ^ 31 by omega), nI_1]
theorem zy31 {s : zQs} {O : Nat} {I : Nat → Nat → Int32} {c : Nat} (hs : s.2.2.2 = O) (hO : O = 8 ∨ O = 34) (hc : c < 2 ^ 31) (h : I O 7 = nI c) : zf_31 [.ref s.2.2.2] (zMk (s, I)) = some (.int (if c < 12 then 0 else 1), zMk (s, I)) := by
  rw [hs]
  rcases hO with rfl | rfl
  · exact zy31_8 hc h
  · exact zy31_34 hc h
theorem zy32 {s : zQs} {O : Nat} {I : Nat → Nat → Int32} {c : Nat} (hs : s.2.2.2 = O) (hO : O = 8 ∨ O = 34) (hc : c < 12) (h : I O 7 = nI c) (x : Int32) : zf_32 [.ref s.2.2.2, .int x] (zMk (s, I)) = some (.long 0, zMk (s, zwA (zwA I (O + 3) (upd (I (O + 3)) c x)) (O + 4) (upd (I (O + 4)) c (I O 2)))) := by
  rw [hs]
  rcases hO with rfl | rfl
  · exact zy32_8 hc h x
  · exact zy32_34 hc h x
theorem zy33 {s : zQs} {O : Nat} {I : Nat → Nat → Int32} {c : Nat} (hs : s.2.2.2 = O) (hO : O = 8 ∨ O = 34) (hc : c < 12) (h : I O 7 = nI c) : zf_33 [.ref s.2.2.2] (zMk (s, I)) = some (.long 0, zMk (s, zwA I (O + 5) (upd (I (O + 5)) c (I O 2)))) := by
  rw [hs]
  rcases hO with rfl | rfl
  · exact zy33_8 hc h
  · exact zy33_34 hc h
theorem zy34 {s : zQs} {O : Nat} {I : Nat → Nat → Int32} {c : Nat} (hs : s.2.2.2 = O) (hO : O = 8 ∨ O = 34) (hc : c < 12) (h : I O 7 = nI c) : zf_34 [.ref s.2.2.2] (zMk (s, I)) = some (.long 0, zMk (s, zwA (zwA I (O + 6) (upd (I (O + 6)) c (I O 2))) O (upd (I O) 7 (nI (c + 1))))) := by
  rw [hs]
  rcases hO with rfl | rfl
  · exact zy34_8 hc h
  · exact zy34_34 hc h
/-- one clause -/
theorem zf62 {s : zQs} {O : Nat} {T : Nat → Nat} {n : Nat} {Z : zyZ} {I : Nat → Nat → Int32} (h : zyC s O T n Z.s I) (hM : zyM O Z I) : ∃ J, zf_62 [.ref 32] (zMk (s, I)) = some (.long 0, zMk (s, J)) ∧ zyC s O T n (zycl T n Z).s J ∧ zyM O (zycl T n Z) J ∧ zyV O I J := by
  have h4 := h.2.2.2.2.2.2.2.2.1
  have he := h.2.2.2.2.2.2.2.1
  obtain ⟨hs, hO, hn, -⟩ := id h
  obtain ⟨m1, m2, m3⟩ := id hM
  have x := zyn_256 h
  rw [zqz_62, zq_62_0, h4]
  by_cases c0 : Z.s.e = 0
  case neg =>
    have hz : zycl T n Z = Z := if_pos c0
    rw [if_neg (mt (zyF_z he).mp c0), hz]
    exact ⟨I, rfl, h, hM, fun _ _ _ _ => rfl⟩
  rw [if_pos ((zyF_z he).mpr c0), zf59c h, zcI_some, zq_62_6]
  have bad : (zyb T n Z).e ≠ 0 → ∀ J, zyC s O T n (zyb T n Z) J → zyW O I J → ∃ J', zQ_62 (24, [.ref 32, .int (zyI (zyn T n Z.s))], [], zMk (s, J)) = some (.long 0, zMk (s, J')) ∧ zyC s O T n (zycl T n Z).s J' ∧ zyM O (zycl T n Z) J' ∧ zyV O I J' := by
    intro hb J hC hW
    have hz : zycl T n Z = (zyb T n Z, Z.2) := by unfold zycl; rw [if_neg (not_not_intro c0), if_pos hb]
    have j4 := hC.2.2.2.2.2.2.2.2.1
    have je := hC.2.2.2.2.2.2.2.1
    rw [hz]
    refine ⟨J, ?_, hC, ?_, zyV_W hW⟩
    · rw [zq_62_24, j4, if_neg (mt (zyF_z je).mp hb)]
    · exact zyM_W hO (Z := Z) hM hW
  by_cases hk : zyn T n Z.s = 110 ∨ zyn T n Z.s = 99
  case neg =>
    have hb : zyb T n Z = zyf 1 Z.s := if_pos ⟨fun q => hk (Or.inl q), fun q => hk (Or.inr q)⟩
    obtain ⟨J, e, hC, hW⟩ := zyD_f 1 (by decide) _ _ h
    have e : zf_60 [.ref 32, .int 1] (zMk (s, I)) = _ := e
    have hne : (zyb T n Z).e ≠ 0 := by
      rw [hb, zyf_e c0]
      show 1000 * 1 + _ ≠ 0
      omega
    rw [← hb] at hC
    obtain ⟨J', r⟩ := bad hne J hC hW
    refine ⟨J', ?_, r.2⟩
    rw [if_neg (mt (zyI_110 x).mp (fun q => hk (Or.inl q))), if_neg (mt (zyI_99 x).mp (fun q => hk (Or.inr q))), e, zcV_some, zq_62_16]
    exact r.1
  have hlt : zyn T n Z.s < 256 := by omega
  have hI := zyI_nI hlt
  have hl : Z.s.p < n := (zyn_lt (T := T) (n := n) (S := Z.s) rfl (by omega)).1
  have st20 : ∀ (R : Option (Value × zM)), (zcI (zf_31 [.ref s.2.2.2] (zMk (s, I))) fun v M => zQ_62 (20, [.ref 32, .int (zyI (zyn T n Z.s))], [.int v], M)) = R → (if zyI (zyn T n Z.s) = 110 then (if za (zMk (s, I)) s.2.2.2 2 then (zcI (zf_31 [.ref s.2.2.2] (zMk (s, I))) fun v M => zQ_62 (20, [.ref 32, .int (zyI (zyn T n Z.s))], [.int v], M)) else none) else (if zyI (zyn T n Z.s) = 99 then (if za (zMk (s, I)) s.2.2.2 2 then (zcI (zf_31 [.ref s.2.2.2] (zMk (s, I))) fun v M => zQ_62 (20, [.ref 32, .int (zyI (zyn T n Z.s))], [.int v], M)) else none) else (zcV (zf_60 [.ref 32, .int 1] (zMk (s, I))) fun M => zQ_62 (16, [.ref 32, .int (zyI (zyn T n Z.s))], [], M)))) = R := by
    intro R hR
    rcases hk with q | q
    · rw [if_pos ((zyI_110 x).mpr q), zyz h, if_pos rfl]
      exact hR
    · rw [if_neg (mt (zyI_110 x).mp (by omega)), if_pos ((zyI_99 x).mpr q), zyz h, if_pos rfl]
      exact hR
  by_cases hf : 12 ≤ Z.n
  · have hb : zyb T n Z = zyf 4 Z.s := by
      unfold zyb
      rw [if_neg (fun q => by rcases hk with a | a; exact q.1 a; exact q.2 a), if_pos hf]
    obtain ⟨J, e, hC, hW⟩ := zyD_f 4 (by decide) _ _ h
    have e : zf_60 [.ref 32, .int 4] (zMk (s, I)) = _ := e
    have hne : (zyb T n Z).e ≠ 0 := by
      rw [hb, zyf_e c0]
      show 1000 * 4 + _ ≠ 0
      omega
    rw [← hb] at hC
    obtain ⟨J', r⟩ := bad hne J hC hW
    refine ⟨J', ?_, r.2⟩
    refine st20 _ ?_
    rw [zy31 hs hO (show Z.n < 2 ^ 31 by omega) m2, if_neg (by omega), zcI_some, zq_62_20, if_neg (by decide), e, zcV_some]
    exact r.1
  have hb : zyb T n Z = Z.s := by
    unfold zyb
    rw [if_neg (fun q => by rcases hk with a | a; exact q.1 a; exact q.2 a), if_neg hf]
  have hz : zycl T n Z = (zyw T n (zyn T n Z.s) (zya Z.s), (fun j => if j = Z.n then decide (zyn T n Z.s = 110) else Z.k j), (fun j => if j = Z.n then (Z.s.m, (zyv T n (zyn T n Z.s) (zya Z.s)).m, (zyw T n (zyn T n Z.s) (zya Z.s)).m) else Z.q j), Z.n + 1) := by
    unfold zycl
    rw [if_neg (not_not_intro c0), if_neg (by rw [hb]; exact not_not_intro c0)]
  obtain ⟨hC1, hW1⟩ := zyC_a h hl
  have a7 : ∀ {J K : Nat → Nat → Int32}, zyW O J K → J O 7 = nI Z.n → K O 7 = nI Z.n := fun g q => by rw [g.2.1 7 (by decide) (by decide)]; exact q
  have q1 := a7 hW1 m2
  -- sort and beginning
  obtain ⟨I2, e32, hI2⟩ : ∃ I2, zf_32 [.ref s.2.2.2, .int (zyI (zyn T n Z.s))] (zMk (s, zwA I 32 (upd (I 32) 2 (I 32 2 + 1)))) = some (.long 0, zMk (s, I2)) ∧ I2 = zwA (zwA (zwA I 32 (upd (I 32) 2 (I 32 2 + 1))) (O + 3) (upd (zwA I 32 (upd (I 32) 2 (I 32 2 + 1)) (O + 3)) Z.n (zyI (zyn T n Z.s)))) (O + 4) (upd (zwA I 32 (upd (I 32) 2 (I 32 2 + 1)) (O + 4)) Z.n (zwA I 32 (upd (I 32) 2 (I 32 2 + 1)) O 2)) := ⟨_, zy32 hs hO (by omega) q1 _, rfl⟩
  have f2 : ∀ r, r ≠ 32 → r ≠ O + 3 → r ≠ O + 4 → I2 r = I r := fun r a b c => by rw [hI2, zwA_n c, zwA_n b, zwA_n a]
  have f232 : I2 32 = (zwA I 32 (upd (I 32) 2 (I 32 2 + 1))) 32 := by rw [hI2, zwA_n (by omega), zwA_n (by omega)]
  have hC2 : zyC s O T n (zya Z.s) I2 := zyC_fr hC1 f232 (by rw [hI2, zwA_n (by omega), zwA_n (by omega)]) (by rw [hI2, zwA_n (by omega), zwA_n (by omega)]) (by rw [hI2, zwA_n (by omega), zwA_n (by omega)]) (by rw [hI2, zwA_n (by omega), zwA_n (by omega)]) (by rw [hI2, zwA_n (by omega), zwA_n (by omega)])
  have k3 : I2 (O + 3) = upd (I (O + 3)) Z.n (zyI (zyn T n Z.s)) := by rw [hI2, zwA_n (by omega), zwA_s, zwA_n (by omega)]
  have k4 : I2 (O + 4) = upd (I (O + 4)) Z.n (nI Z.s.m) := by
    rw [hI2, zwA_s, zwA_n (by omega), zwA_n (show O ≠ 32 by omega), show I O 2 = nI Z.s.m from h.2.2.2.2.2.2.2.2.2.2.1]
  have k7 : I2 O 7 = nI Z.n := by rw [f2 O (by omega) (by omega) (by omega)]; exact m2
  -- the price
  have pr : ∃ I3, zQ_62 (38, [.ref 32, .int (zyI (zyn T n Z.s))], [], zMk (s, I2)) = zQ_62 (44, [.ref 32, .int (zyI (zyn T n Z.s))], [], zMk (s, I3)) ∧ zyC s O T n (zyu T n (zyn T n Z.s) (zya Z.s)) I3 ∧ zyW O I2 I3 := by
    by_cases q : zyn T n Z.s = 99
    · obtain ⟨J, e, hC, hW⟩ := zyD_su (s := s) (O := O) (T := T) (n := n) 8 0 (by decide) (by decide) _ _ hC2
      have e : (zf_67 8) [.ref 32, .int 0] (zMk (s, I2)) = _ := e
      refine ⟨J, ?_, ?_, hW⟩
      · rw [zq_62_38, if_neg (not_not_intro ((zyI_99 x).mpr q)), e, zcV_some]
      · unfold zyu
        rw [if_pos q]
        exact hC
    · refine ⟨I2, ?_, ?_, zyW_rfl O I2⟩
      · rw [zq_62_38, if_pos (mt (zyI_99 x).mp q)]
      · unfold zyu
        rw [if_neg q]
        exact hC2
  obtain ⟨I3, e3, hC3, hW3⟩ := pr
  obtain ⟨I4, e4, hC4, hW4⟩ := zyD_t (s := s) (O := O) (T := T) (n := n) 40 (by decide) _ _ hC3
  have e4 : zf_61 [.ref 32, .int 40] (zMk (s, I3)) = _ := e4
  have hC4 : zyC s O T n (zyv T n (zyn T n Z.s) (zya Z.s)) I4 := hC4
  have q4 : I4 O 7 = nI Z.n := a7 hW4 (a7 hW3 k7)
  have e5 := zy33 (s := s) hs hO (show Z.n < 12 by omega) q4
  have hC5 : zyC s O T n (zyv T n (zyn T n Z.s) (zya Z.s)) (zwA I4 (O + 5) (upd (I4 (O + 5)) Z.n (I4 O 2))) := zyC_fr hC4 (zwA_n (by omega)) (zwA_n (by omega)) (by rw [zwA_n (by omega)]) (by rw [zwA_n (by omega)]) (zwA_n (by omega)) (zwA_n (by omega))
  obtain ⟨I6, e6, hC6, hW6⟩ := zyD_cn (s := s) (O := O) (T := T) (n := n) (o := 1) (zyD_pi (s := s) (O := O) (T := T) (n := n) 8 1 (by decide) (by decide)) (zyk_pi 8) _ _ hC5
  have e6 : (zg_63 (zf_65 8)) [.ref 32, .int 1] (zMk (s, zwA I4 (O + 5) (upd (I4 (O + 5)) Z.n (I4 O 2)))) = _ := e6
  obtain ⟨I7, e7, hC7, hW7⟩ := zyD_t (s := s) (O := O) (T := T) (n := n) 41 (by decide) _ _ hC6
  have e7 : zf_61 [.ref 32, .int 41] (zMk (s, I6)) = _ := e7
  have hC7 : zyC s O T n (zyw T n (zyn T n Z.s) (zya Z.s)) I7 := hC7
  have q7 : I7 O 7 = nI Z.n := a7 hW7 (a7 hW6 (by rw [zwA_n (by omega)]; exact q4))
  have e8 := zy34 (s := s) hs hO (show Z.n < 12 by omega) q7
  have hC8 : zyC s O T n (zyw T n (zyn T n Z.s) (zya Z.s)) (zwA (zwA I7 (O + 6) (upd (I7 (O + 6)) Z.n (I7 O 2))) O (upd (I7 O) 7 (nI (Z.n + 1)))) := zyC_fr hC7 (by rw [zwA_n (by omega), zwA_n (by omega)]) (by rw [zwA_n (by omega), zwA_n (by omega)]) (by rw [zwA_s, upd_at, if_neg (by decide)]) (by rw [zwA_s, upd_at, if_neg (by decide)]) (by rw [zwA_n (by omega), zwA_n (by omega)]) (by rw [zwA_n (by omega), zwA_n (by omega)])
  rw [hz]
  refine ⟨zwA (zwA I7 (O + 6) (upd (I7 (O + 6)) Z.n (I7 O 2))) O (upd (I7 O) 7 (nI (Z.n + 1))), ?_, hC8, ?_, ?_⟩
  · refine st20 _ ?_
    rw [zy31 hs hO (show Z.n < 2 ^ 31 by omega) m2, if_pos (by omega), zcI_some, zq_62_20, if_pos rfl, zq_62_24, h4, if_pos ((zyF_z he).mpr c0), zyz h, if_pos rfl, e32, zcV_some, e3, zq_62_44, e4, zcV_some, zq_62_47, zyz hC4, if_pos rfl, e5, zcV_some, zq_62_50, e6, zcV_some, zq_62_53, e7, zcV_some, zq_62_56, zyz hC7, if_pos rfl, e8, zcV_some, zq_62_59]
  · refine ⟨by show Z.n + 1 ≤ 12; omega, by rw [zwA_s, upd_at, if_pos rfl]; rfl, fun q hq => ?_⟩
    have hq : q < Z.n + 1 := hq
    have r3 : zwA (zwA I7 (O + 6) (upd (I7 (O + 6)) Z.n (I7 O 2))) O (upd (I7 O) 7 (nI (Z.n + 1))) (O + 3) = upd (I (O + 3)) Z.n (zyI (zyn T n Z.s)) := by
      rw [zwA_n (by omega), zwA_n (by omega), hW7.1 (O + 3) (by omega) (by omega) (by omega) (by omega), hW6.1 (O + 3) (by omega) (by omega) (by omega) (by omega), zwA_n (by omega), hW4.1 (O + 3) (by omega) (by omega) (by omega) (by omega), hW3.1 (O + 3) (by omega) (by omega) (by omega) (by omega), k3]
    have r4 : zwA (zwA I7 (O + 6) (upd (I7 (O + 6)) Z.n (I7 O 2))) O (upd (I7 O) 7 (nI (Z.n + 1))) (O + 4) = upd (I (O + 4)) Z.n (nI Z.s.m) := by
      rw [zwA_n (by omega), zwA_n (by omega), hW7.1 (O + 4) (by omega) (by omega) (by omega) (by omega), hW6.1 (O + 4) (by omega) (by omega) (by omega) (by omega), zwA_n (by omega), hW4.1 (O + 4) (by omega) (by omega) (by omega) (by omega), hW3.1 (O + 4) (by omega) (by omega) (by omega) (by omega), k4]
    have r5 : zwA (zwA I7 (O + 6) (upd (I7 (O + 6)) Z.n (I7 O 2))) O (upd (I7 O) 7 (nI (Z.n + 1))) (O + 5) = upd (I (O + 5)) Z.n (nI (zyv T n (zyn T n Z.s) (zya Z.s)).m) := by
      rw [zwA_n (by omega), zwA_n (by omega), hW7.1 (O + 5) (by omega) (by omega) (by omega) (by omega), hW6.1 (O + 5) (by omega) (by omega) (by omega) (by omega), zwA_s, hW4.1 (O + 5) (by omega) (by omega) (by omega) (by omega), hW3.1 (O + 5) (by omega) (by omega) (by omega) (by omega), f2 (O + 5) (by omega) (by omega) (by omega), show I4 O 2 = nI (zyv T n (zyn T n Z.s) (zya Z.s)).m from hC4.2.2.2.2.2.2.2.2.2.2.1]
    have r6 : zwA (zwA I7 (O + 6) (upd (I7 (O + 6)) Z.n (I7 O 2))) O (upd (I7 O) 7 (nI (Z.n + 1))) (O + 6) = upd (I (O + 6)) Z.n (nI (zyw T n (zyn T n Z.s) (zya Z.s)).m) := by
      rw [zwA_n (by omega), zwA_s, hW7.1 (O + 6) (by omega) (by omega) (by omega) (by omega), hW6.1 (O + 6) (by omega) (by omega) (by omega) (by omega), zwA_n (by omega), hW4.1 (O + 6) (by omega) (by omega) (by omega) (by omega), hW3.1 (O + 6) (by omega) (by omega) (by omega) (by omega), f2 (O + 6) (by omega) (by omega) (by omega), show I7 O 2 = nI (zyw T n (zyn T n Z.s) (zya Z.s)).m from hC7.2.2.2.2.2.2.2.2.2.2.1]
    rw [r3, r4, r5, r6, upd_at, upd_at, upd_at, upd_at]
    show _ = (if (if q = Z.n then decide (zyn T n Z.s = 110) else Z.k q) = true then (110 : Int32) else 99) ∧ _ = nI (if q = Z.n then (Z.s.m, (zyv T n (zyn T n Z.s) (zya Z.s)).m, (zyw T n (zyn T n Z.s) (zya Z.s)).m) else Z.q q).1 ∧ _ = nI (if q = Z.n then (Z.s.m, (zyv T n (zyn T n Z.s) (zya Z.s)).m, (zyw T n (zyn T n Z.s) (zya Z.s)).m) else Z.q q).2.1 ∧ _ = nI (if q = Z.n then (Z.s.m, (zyv T n (zyn T n Z.s) (zya Z.s)).m, (zyw T n (zyn T n Z.s) (zya Z.s)).m) else Z.q q).2.2
    by_cases e : q = Z.n
    · rw [if_pos e, if_pos e, if_pos e, if_pos e, if_pos e, if_pos e]
      refine ⟨?_, rfl, rfl, rfl⟩
      rcases hk with a | a
      · rw [a]; rfl
      · rw [a]; rfl
    · rw [if_neg e, if_neg e, if_neg e, if_neg e, if_neg e, if_neg e]
      exact m3 q (by omega)
  · intro r a b c
    rw [zwA_n (by omega), zwA_n (by omega), hW7.1 r a (by omega) (by omega) (by omega), hW6.1 r a (by omega) (by omega) (by omega), zwA_n (by omega), hW4.1 r a (by omega) (by omega) (by omega), hW3.1 r a (by omega) (by omega) (by omega), f2 r a (by omega) (by omega)]
/-- all clauses -/
theorem zlp57 {s : zQs} {O : Nat} {T : Nat → Nat} {n : Nat} (x2 : Int32) : ∀ f i Z I, i + f = 12 → zyC s O T n Z.s I → zyM O Z I →
    ∃ J, zQ_57 (33, [.ref 32, .ref 30, .int x2, .int (nI i)], [], zMk (s, I)) = some (.int (if (zyls T n f Z).s.e = 0 then nI (zyls T n f Z).n else zyF (zyls T n f Z).s.e), zMk (s, J)) ∧ zyC s O T n (zyls T n f Z).s J ∧ zyM O (zyls T n f Z) J ∧ zyV O I J := by
  have fin : ∀ Z I, zyC s O T n Z.s I → zyM O Z I → (if (I 32 4) = 0 then (if za (zMk (s, I)) s.2.2.2 2 then (some (Value.int (I s.2.2.2 7), (zMk (s, I)))) else none) else (some (.int (I 32 4), (zMk (s, I))))) = some (.int (if Z.s.e = 0 then nI Z.n else zyF Z.s.e), zMk (s, I)) := by
    intro Z I h hM
    have h4 := h.2.2.2.2.2.2.2.2.1
    have he := h.2.2.2.2.2.2.2.1
    rw [h4]
    by_cases c0 : Z.s.e = 0
    · rw [if_pos ((zyF_z he).mpr c0), zyz h, if_pos rfl, if_pos c0, h.1, hM.2.1]
    · rw [if_neg (mt (zyF_z he).mp c0), if_neg c0]
  intro f
  induction f with
  | zero =>
    intro i Z I h hC hM
    have h : i = 12 := by omega
    subst h
    refine ⟨I, ?_, hC, hM, fun _ _ _ _ => rfl⟩
    rw [zq_57_33, if_pos (show (12 : Int32) ≤ nI 12 by decide), fin Z I hC hM]
    rfl
  | succ f ih =>
    intro i Z I h hC hM
    have hi : i < 12 := by omega
    have h4 := hC.2.2.2.2.2.2.2.2.1
    have he := hC.2.2.2.2.2.2.2.1
    obtain ⟨hs, hO, hn, hT, h3, hp, h2, -⟩ := id hC
    rw [zq_57_33, if_neg (show ¬ (12 : Int32) ≤ nI i from nI_ge (b := 12) hi (by decide))]
    have stop : ¬ (Z.s.e = 0 ∧ Z.s.p < n) → ∃ J, some (Value.int (if Z.s.e = 0 then nI Z.n else zyF Z.s.e), zMk (s, I)) = some (.int (if (zyls T n (f + 1) Z).s.e = 0 then nI (zyls T n (f + 1) Z).n else zyF (zyls T n (f + 1) Z).s.e), zMk (s, J)) ∧ zyC s O T n (zyls T n (f + 1) Z).s J ∧ zyM O (zyls T n (f + 1) Z) J ∧ zyV O I J := fun q => by
      rw [zyls_s, if_neg q]
      exact ⟨I, rfl, hC, hM, fun _ _ _ _ => rfl⟩
    by_cases c0 : Z.s.e = 0
    · rw [if_neg (not_not_intro (show I 32 4 = 0 by rw [h4]; exact (zyF_z he).mpr c0))]
      by_cases hl : Z.s.p < n
      · obtain ⟨J1, e1, hC1, hW1⟩ := zyD_t (s := s) (O := O) (T := T) (n := n) 59 (by decide) _ _ hC
        have e1 : zf_61 [.ref 32, .int 59] (zMk (s, I)) = _ := e1
        obtain ⟨J2, e2, hC2, hM2, hV2⟩ := zf62 (Z := (zyt T n 59 Z.s, Z.2)) hC1 (zyM_W hO (Z := Z) hM hW1)
        obtain ⟨J3, e3, hC3, hM3, hV3⟩ := ih (i + 1) _ J2 (by omega) hC2 hM2
        rw [zyls_s, if_pos (show Z.s.e = 0 ∧ Z.s.p < n from ⟨c0, hl⟩)]
        refine ⟨J3, ?_, hC3, hM3, zyV_tr (zyV_W hW1) (zyV_tr hV2 hV3)⟩
        rw [h3, h2, if_neg (nI_ge hl (by omega)), e1, zcV_some, zq_57_47, e2, zcV_some, zq_57_49, nI_1]
        exact e3
      · rw [h3, h2, if_pos (nI_le (by omega) (by omega)), fin Z I hC hM]
        exact stop (fun q => hl q.2)
    · rw [if_pos (show ¬ I 32 4 = 0 by rw [h4]; exact mt (zyF_z he).mp c0), fin Z I hC hM]
      exact stop (fun q => c0 q.1)
theorem zlp57t {s : zQs} {T : Nat → Nat} {n tp : Nat} (x2 : Int32) (hn : n ≤ 160) (htp : n ≤ tp) (htp2 : tp ≤ 200) : ∀ d i I, i + d = n → I 32 3 = nI n → I 30 1 = nI tp → (∀ j, j < n → I 31 j = nI (T j)) → (∀ j, j < i → I 33 j = nI (T j)) →
    ∃ J, zQ_57 (13, [.ref 32, .ref 30, .int x2, .int (nI i)], [], zMk (s, I)) = zQ_57 (13, [.ref 32, .ref 30, .int x2, .int (nI n)], [], zMk (s, J)) ∧ (∀ r, r ≠ 33 → J r = I r) ∧ ∀ j, j < n → J 33 j = nI (T j)
  | 0, i, I, h, h3, h30, h31, h33 => by
    have h : i = n := by omega
    subst h
    exact ⟨I, rfl, fun _ _ => rfl, h33⟩
  | d + 1, i, I, h, h3, h30, h31, h33 => by
    have hi : i < n := by omega
    obtain ⟨J, e, a, b⟩ := zlp57t (s := s) x2 hn htp htp2 d (i + 1) (zwA I 33 (upd (I 33) i (nI (T i)))) (by omega) (by rw [zwA_n (by decide)]; exact h3) (by rw [zwA_n (by decide)]; exact h30) (by rw [zwA_n (by decide)]; exact h31) (fun j hj => by
      rw [zwA_s, upd_at]
      by_cases q : j = i
      · rw [if_pos q, q]
      · rw [if_neg q]; exact h33 j (by omega))
    refine ⟨J, ?_, fun r hr => (a r hr).trans (zwA_n hr), b⟩
    rw [zq_57_13, h3, if_neg (nI_ge hi (by omega)), zl_93, if_neg (nI_pos (by omega)), h30, if_neg (nI_ge (show i < tp by omega) (by omega)), if_pos (zb_t (show i < 200 by omega) (by omega)), nI_clamp (show i < 2 ^ 31 by omega), h31 i hi, zcI_some, zq_57_23, if_pos (zb_t (show i < 160 by omega) (by omega)), nI_clamp (show i < 2 ^ 31 by omega), nI_1]
    exact e
theorem zy30_8 (s : zQs) (I : Nat → Nat → Int32) : ∃ K, zf_30 [.ref 8] (zMk (s, I)) = some (.long 0, zMk (s, K)) ∧ (∀ r, r ≠ 8 → K r = I r) ∧ K 8 2 = 0 ∧ K 8 7 = 0 ∧ K 8 8 = 0 := by
  refine ⟨_, zl_30_8 s I, fun r hr => by rw [zwA_n hr, zwA_n hr, zwA_n hr], ?_, ?_, ?_⟩
  · rw [zwA_s, upd_at, if_neg (by decide), upd_at, if_neg (by decide), upd_at, if_pos rfl]
  · rw [zwA_s, upd_at, if_neg (by decide), upd_at, if_pos rfl]
  · rw [zwA_s, upd_at, if_pos rfl]
theorem zy30_34 (s : zQs) (I : Nat → Nat → Int32) : ∃ K, zf_30 [.ref 34] (zMk (s, I)) = some (.long 0, zMk (s, K)) ∧ (∀ r, r ≠ 34 → K r = I r) ∧ K 34 2 = 0 ∧ K 34 7 = 0 ∧ K 34 8 = 0 := by
  refine ⟨_, zl_30_34 s I, fun r hr => by rw [zwA_n hr, zwA_n hr, zwA_n hr], ?_, ?_, ?_⟩
  · rw [zwA_s, upd_at, if_neg (by decide), upd_at, if_neg (by decide), upd_at, if_pos rfl]
  · rw [zwA_s, upd_at, if_neg (by decide), upd_at, if_pos rfl]
  · rw [zwA_s, upd_at, if_pos rfl]
theorem zf57 {s : zQs} {O : Nat} {T : Nat → Nat} {n tp : Nat} {I : Nat → Nat → Int32} (hs : s.2.2.2 = O) (hO : O = 8 ∨ O = 34) (hn : n ≤ 160) (htp : n ≤ tp) (htp2 : tp ≤ 200) (hT : ∀ j, j < n → T j < 256) (h30 : I 30 1 = nI tp) (h31 : ∀ j, j < n → I 31 j = nI (T j)) :
    ∃ J, zf_57 [.ref 32, .ref 30, .int (nI n)] (zMk (s, I)) = some (.int (if (zylw T n).s.e = 0 then nI (zylw T n).n else zyF (zylw T n).s.e), zMk (s, J)) ∧ zyC s O T n (zylw T n).s J ∧ zyM O (zylw T n) J ∧ zyV O I J := by
  have e160 : (if (160 : Int32) < nI n then (160 : Int32) else nI n) = nI n := if_neg (show ¬ (160 : Int32) < nI n from nI_nlt (a := 160) hn (by decide))
  obtain ⟨J1, e1, a1, b1⟩ := zlp57t (s := s) (T := T) (nI n) hn htp htp2 n 0 (zwA (zwA (zwA I 32 (upd (I 32) 2 0)) 32 (upd (upd (I 32) 2 0) 3 (nI n))) 32 (upd (upd (upd (I 32) 2 0) 3 (nI n)) 4 0)) (Nat.zero_add _) (by rw [zwA_s, upd_at, if_neg (by decide), upd_at, if_pos rfl]) (by rw [zwA_n (by decide), zwA_n (by decide), zwA_n (by decide)]; exact h30) (by rw [zwA_n (by decide), zwA_n (by decide), zwA_n (by decide)]; exact h31) (fun j hj => absurd hj (Nat.not_lt_zero j))
  have e1 : zQ_57 (13, [.ref 32, .ref 30, .int (nI n), .int 0], [], zMk (s, zwA (zwA (zwA I 32 (upd (I 32) 2 0)) 32 (upd (upd (I 32) 2 0) 3 (nI n))) 32 (upd (upd (upd (I 32) 2 0) 3 (nI n)) 4 0))) = _ := e1
  have r32 : J1 32 = upd (upd (upd (I 32) 2 0) 3 (nI n)) 4 0 := by rw [a1 32 (by decide), zwA_s]
  obtain ⟨K, e2, k1, k2, k7, k8⟩ : ∃ K, zf_30 [.ref s.2.2.2] (zMk (s, J1)) = some (.long 0, zMk (s, K)) ∧ (∀ r, r ≠ O → K r = J1 r) ∧ K O 2 = 0 ∧ K O 7 = 0 ∧ K O 8 = 0 := by
    rw [hs]
    rcases hO with rfl | rfl
    · exact zy30_8 s J1
    · exact zy30_34 s J1
  have hC : zyC s O T n zyZ0.s K := by
    refine ⟨hs, hO, hn, fun j hj => ⟨hT j hj, by rw [k1 33 (by omega)]; exact b1 j hj⟩, ?_, Nat.zero_le _, ?_, by decide, ?_, by decide, ?_, ?_, fun i hi => absurd hi (Nat.not_lt_zero i)⟩
    · rw [k1 32 (by omega), r32, upd_at, if_neg (by decide), upd_at, if_pos rfl]
    · rw [k1 32 (by omega), r32, upd_at, if_neg (by decide), upd_at, if_neg (by decide), upd_at, if_pos rfl]; rfl
    · rw [k1 32 (by omega), r32, upd_at, if_pos rfl]; rfl
    · rw [k2]; rfl
    · rw [k8]; rfl
  have hM : zyM O zyZ0 K := ⟨by decide, by rw [k7]; rfl, fun q hq => absurd hq (Nat.not_lt_zero q)⟩
  obtain ⟨K2, e3, hC3, hM3, hV3⟩ := zf62 hC hM
  obtain ⟨J, e4, hC4, hM4, hV4⟩ := zlp57 (nI n) 12 0 _ K2 rfl hC3 hM3
  have e4 : zQ_57 (33, [.ref 32, .ref 30, .int (nI n), .int 0], [], zMk (s, K2)) = _ := e4
  refine ⟨J, ?_, hC4, hM4, ?_⟩
  · rw [zqz_57, zq_57_0, e160, e1, zq_57_13, show J1 32 3 = nI n by rw [r32, upd_at, if_neg (by decide), upd_at, if_pos rfl], if_pos (nI_le (Nat.le_refl _) (by omega)), zyz hC, if_pos rfl, e2, zcV_some, zq_57_29, e3, zcV_some, zq_57_31]
    exact e4
  · refine zyV_tr (fun r a b c => ?_) (zyV_tr hV3 hV4)
    rw [k1 r (by omega), a1 r b, zwA_n a, zwA_n a, zwA_n a]
