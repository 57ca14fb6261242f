/-! BOTH CONSTRUCTORS, RUN -/
theorem zexec_E {X : zX} {E E' : Nat → zF} (hE : ∀ g a M r, E g a M = some r → E' g a M = some r) (i : Instr) (pc : Nat) (L st : List Value) (M : zM) {z : zCf ⊕ (Value × zM)}
    (h : zexec X E i pc L st M (fun x => some (Sum.inl x)) (fun r => some (Sum.inr r)) = some z) : zexec X E' i pc L st M (fun x => some (Sum.inl x)) (fun r => some (Sum.inr r)) = some z := by
  cases i
  case invokestatic q =>
    simp only [zexec] at h ⊢
    obtain ⟨h1, h⟩ := zif_some h
    rw [if_pos h1]
    unfold zcall at h ⊢
    obtain ⟨h2, h⟩ := zif_some h
    rw [if_pos h2]
    split at h
    · unfold zcV at h; split at h
      · rename_i he; rw [hE _ _ _ _ he]; exact h
      · cases h
    · unfold zcI at h; split at h
      · rename_i he; rw [hE _ _ _ _ he]; exact h
      · cases h
    · unfold zcR at h; split at h
      · rename_i he; rw [hE _ _ _ _ he]; exact h
      · cases h
  case invokevirtual q =>
    simp only [zexec] at h ⊢
    obtain ⟨a, r, hr, h⟩ := zr1_some h
    rw [hr]
    simp only [zr1]
    obtain ⟨h1, h⟩ := zif_some h
    rw [if_pos h1]
    unfold zcall at h ⊢
    obtain ⟨h2, h⟩ := zif_some h
    rw [if_pos h2]
    split at h
    · unfold zcV at h; split at h
      · rename_i he; rw [hE _ _ _ _ he]; exact h
      · cases h
    · unfold zcI at h; split at h
      · rename_i he; rw [hE _ _ _ _ he]; exact h
      · cases h
    · unfold zcR at h; split at h
      · rename_i he; rw [hE _ _ _ _ he]; exact h
      · cases h
  case invokespecial q =>
    simp only [zexec] at h ⊢
    obtain ⟨a, r, hr, h⟩ := zr1_some h
    rw [hr]
    simp only [zr1]
    unfold zcall at h ⊢
    obtain ⟨h2, h⟩ := zif_some h
    rw [if_pos h2]
    split at h
    · unfold zcV at h; split at h
      · rename_i he; rw [hE _ _ _ _ he]; exact h
      · cases h
    · unfold zcI at h; split at h
      · rename_i he; rw [hE _ _ _ _ he]; exact h
      · cases h
    · unfold zcR at h; split at h
      · rename_i he; rw [hE _ _ _ _ he]; exact h
      · cases h
  all_goals first
    | exact h
    | (rename_i ix; match ix, h with
        | 0, h => exact h
        | 1, h => exact h
        | 2, h => exact h
        | 3, h => exact h
        | k + 4, h => exact h)
    | (rename_i cn t; cases cn <;> exact h)
theorem zrunT_E {X : zX} {C : List Instr} {E E' : Nat → zF} (hE : ∀ g a M r, E g a M = some r → E' g a M = some r) : ∀ (n : Nat) (x : zCf) (r : Value × zM), zrunT X C E n x = some r → zrunT X C E' n x = some r
  | 0, _, _, h => by cases h
  | n + 1, x, r, h => by
    have h1 : zstep X C E x (zrunT X C E n) some = some r := h
    show zstep X C E' x (zrunT X C E' n) some = some r
    unfold zstep at h1 ⊢
    split at h1
    · rw [zexec_nat] at h1 ⊢
      cases hz : zexec X E _ x.1 x.2.1 x.2.2.1 x.2.2.2 (fun x => some (Sum.inl x)) (fun r => some (Sum.inr r)) with
      | none => rw [hz] at h1; cases h1
      | some z =>
        rw [zexec_E hE _ _ _ _ _ hz]
        rw [hz] at h1
        cases z with
        | inl x' => exact zrunT_E hE n x' r h1
        | inr r' => exact h1
    · cases h1
def zcm (C : List Instr) (E : Nat → zF) (nL n : Nat) : zF := fun args M => if args.length ≤ nL ∧ (args.all fun v => decide (v.category = 1)) = true then zrunT zX0 C E n (zstart nL args M) else none
theorem zcm_le {C : List Instr} {E E' : Nat → zF} {nL n : Nat} (hE : ∀ g a M r, E g a M = some r → E' g a M = some r) : ∀ a M r, zcm C E nL n a M = some r → zden zX0 C E' nL a M = some r := by
  intro a M r h
  obtain ⟨⟨h1, h2⟩, h⟩ := zif_some h
  rw [zden_res ⟨h1, fun v hv => of_decide_eq_true (List.all_eq_true.mp h2 v hv)⟩]
  exact zres_of (zrunT_E hE _ _ _ h)
theorem zlk_le : ∀ {l l' : List (Nat × zF)}, l.map (fun q => q.1) = l'.map (fun q => q.1) → (∀ (i : Nat) (q q' : Nat × zF), l[i]? = some q → l'[i]? = some q' → ∀ a M r, q.2 a M = some r → q'.2 a M = some r) → ∀ g a M r, zlk l g a M = some r → zlk l' g a M = some r
  | [], _, _, _, _, _, _, _, h => by cases h
  | q :: l, [], hm, _, _, _, _, _, _ => by simp at hm
  | q :: l, q' :: l', hm, hh, g, a, M, r, h => by
    simp only [List.map_cons, List.cons.injEq] at hm
    by_cases hg : g = q.1
    · have e1 : zlk (q :: l) g = q.2 := by simp [zlk, hg]
      have e2 : zlk (q' :: l') g = q'.2 := by simp [zlk, hg, hm.1]
      rw [e1] at h
      rw [e2]
      exact hh 0 q q' rfl rfl a M r h
    · have e1 : zlk (q :: l) g = zlk l g := by simp [zlk, hg]
      have e2 : zlk (q' :: l') g = zlk l' g := by simp [zlk, ← hm.1, hg]
      rw [e1] at h
      rw [e2]
      exact zlk_le hm.2 (fun i x x' hx hx' => hh (i + 1) x x' (by simpa using hx) (by simpa using hx')) g a M r h
/-- how many references a cell of a kind holds -/
def zNf : List Nat := [5, 12, 11, 5, 6, 5, 7, 2, 13, 5, 6, 11, 69]
def znf (t : Nat) : Nat := zNf.getD t 0
/-- what is not made yet is empty, references stand in fields alone -/
def zfr (M : zM) : Prop := (∀ k, zn M ≤ k → zt M k = 999 ∧ zl M k = 0) ∧ ∀ k j, znf (zt M k) ≤ j → zR M k j = none
def zsafe (i : Instr) : Bool := match i with
  | .putstatic q => decide (q % 100 < znf (q / 100))
  | .aastore => false
  | _ => true
theorem zfr_put {M : zM} (h : zfr M) (a j : Nat) (x : Int32) : zfr (zput M a j x) := h
theorem zfr_new {M : zM} (h : zfr M) (t n : Nat) : zfr (znew M t n) := by
  obtain ⟨h1, h2⟩ := h
  refine ⟨fun k hk => ?_, fun k j hj => ?_⟩
  · have hk : zn M + 1 ≤ k := hk
    have hne : k ≠ zn M := by omega
    obtain ⟨g1, g2⟩ := h1 k (by omega)
    exact ⟨(va_up_ne _ _ hne).trans g1, (va_up_ne _ _ hne).trans g2⟩
  · by_cases hne : k = M.1.1
    · simp only [zR, znew, if_pos hne]
    · have e1 : zt (znew M t n) k = zt M k := va_up_ne _ _ hne
      rw [e1] at hj
      simp only [zR, znew, if_neg hne]; exact h2 k j hj
theorem zfr_putR {M : zM} (h : zfr M) {a q : Nat} (b : Nat) (hz : za M a (q / 100) = true) (hq : q % 100 < znf (q / 100)) : zfr (zputR M a (q % 100) (some b)) := by
  obtain ⟨h1, h2⟩ := h
  have ht := za_of hz
  refine ⟨fun k hk => h1 k hk, fun k j hj => ?_⟩
  by_cases hne : k = a
  · subst hne
    have hj : znf (zt M k) ≤ j := hj
    rw [ht] at hj
    rw [zputR_Rs, va_up_ne _ _ (by omega)]
    exact h2 k j (by rw [ht]; exact hj)
  · rw [zputR_R M a _ _ hne]; exact h2 k j hj
theorem zexec_fr {X : zX} {E : Nat → zF} (hE : ∀ g a M v M', E g a M = some (v, M') → zfr M → zfr M') (i : Instr) (hi : zsafe i = true) (pc : Nat) (L st : List Value) (M : zM) (hM : zfr M) {z : zCf ⊕ (Value × zM)}
    (h : zexec X E i pc L st M (fun x => some (Sum.inl x)) (fun r => some (Sum.inr r)) = some z) : (∀ x, z = .inl x → zfr x.2.2.2) ∧ (∀ r, z = .inr r → r.2 = M) := by
  cases i
  case putstatic q =>
    simp only [zexec] at h
    split at h
    · obtain ⟨hz, h⟩ := zif_some h
      cases h
      exact ⟨fun x hx => by cases hx; exact zfr_putR hM _ hz (of_decide_eq_true hi), fun r hr => by cases hr⟩
    · cases h
  case aastore => cases hi
  case ldc ix =>
    match ix, h with
    | 0, h => cases h; exact ⟨fun x hx => by cases hx; exact hM, fun r hr => by cases hr⟩
    | 1, h =>
      simp only [zexec, zr1] at h
      repeat' split at h
      all_goals first | (cases h; done) | (cases h; exact ⟨fun x hx => by cases hx; exact hM, fun r hr => by cases hr⟩)
    | 2, h =>
      simp only [zexec, zr1] at h
      repeat' split at h
      all_goals first | (cases h; done) | (cases h; exact ⟨fun x hx => by cases hx; exact hM, fun r hr => by cases hr⟩)
    | 3, h => cases h; exact ⟨fun x hx => by cases hx; exact hM, fun r hr => by cases hr⟩
    | k + 4, h => cases h
  case ifCond cn t =>
    cases cn <;> simp only [zexec, z1] at h <;> (repeat' split at h) <;> first | (cases h; done) | (cases h; exact ⟨fun x hx => by cases hx; exact hM, fun r hr => by cases hr⟩)
  case if_icmp cn t =>
    cases cn <;> simp only [zexec, z2] at h <;> (repeat' split at h) <;> first | (cases h; done) | (cases h; exact ⟨fun x hx => by cases hx; exact hM, fun r hr => by cases hr⟩)
  all_goals (try simp only [zexec, z1, z2, zr1, zir, ziir, zcall, zcV, zcI, zcR] at h)
  all_goals (try (repeat' split at h))
  all_goals first
    | (cases h; done)
    | (cases h; exact ⟨fun x hx => by cases hx; exact hM, fun r hr => by cases hr⟩)
    | (cases h; exact ⟨fun x hx => by cases hx; exact zfr_new hM _ _, fun r hr => by cases hr⟩)
    | (cases h; exact ⟨fun x hx => (by cases hx), fun r hr => by cases hr; rfl⟩)
    | (rename_i he; cases h; exact ⟨fun x hx => by cases hx; exact hE _ _ _ _ _ he hM, fun r hr => by cases hr⟩)
theorem zrunT_fr {X : zX} {C : List Instr} {E : Nat → zF} (hC : C.all zsafe = true) (hE : ∀ g a M v M', E g a M = some (v, M') → zfr M → zfr M') : ∀ (n : Nat) (x : zCf) (y : Value × zM), zrunT X C E n x = some y → zfr x.2.2.2 → zfr y.2
  | 0, _, _, h, _ => by cases h
  | n + 1, x, y, h, hM => by
    simp only [zrunT, zstep] at h
    split at h
    · rename_i i hi
      rw [zexec_nat] at h
      cases hz : zexec X E _ x.1 x.2.1 x.2.2.1 x.2.2.2 (fun x => some (Sum.inl x)) (fun r => some (Sum.inr r)) with
      | none => rw [hz] at h; cases h
      | some z =>
        rw [hz] at h
        obtain ⟨m1, m2⟩ := zexec_fr hE _ (List.all_eq_true.mp hC i (List.mem_of_getElem? hi)) _ _ _ _ hM hz
        cases z with
        | inl x' => exact zrunT_fr hC hE n x' y h (m1 x' rfl)
        | inr r =>
          have h2 : r = y := Option.some.inj h
          subst h2
          rw [m2 r rfl]
          exact hM
    · cases h
theorem zcm_fr {C : List Instr} {E : Nat → zF} {nL n : Nat} (hC : C.all zsafe = true) (hE : ∀ g a M v M', E g a M = some (v, M') → zfr M → zfr M') : ∀ a M v M', zcm C E nL n a M = some (v, M') → zfr M → zfr M' := by
  intro a M v M' h hM
  obtain ⟨-, h⟩ := zif_some h
  exact zrunT_fr hC hE _ _ _ h hM
theorem zlk_fr {l : List (Nat × zF)} (hl : ∀ q ∈ l, ∀ a M v M', q.2 a M = some (v, M') → zfr M → zfr M') : ∀ g a M v M', zlk l g a M = some (v, M') → zfr M → zfr M' := fun g a M v M' h => hl _ (zlk_mem h) a M v M' h
def zb_10 : zF := zcm zi_10 (zlk []) 2 2000
theorem zbl_10 : ∀ a M r, zb_10 a M = some r → zf_10 a M = some r := zcm_le (zlk_le (l := []) (l' := []) rfl (fun i q q' h => by simp at h))
theorem zbf_10 : ∀ a M v M', zb_10 a M = some (v, M') → zfr M → zfr M' := zcm_fr (by decide +kernel) (zlk_fr (l := []) (fun q hq => by cases hq))
def zb_15 : zF := zcm zi_15 (zlk []) 2 2000
theorem zbl_15 : ∀ a M r, zb_15 a M = some r → zf_15 a M = some r := zcm_le (zlk_le (l := []) (l' := []) rfl (fun i q q' h => by simp at h))
theorem zbf_15 : ∀ a M v M', zb_15 a M = some (v, M') → zfr M → zfr M' := zcm_fr (by decide +kernel) (zlk_fr (l := []) (fun q hq => by cases hq))
def zb_29 : zF := zcm zi_29 (zlk []) 1 2000
theorem zbl_29 : ∀ a M r, zb_29 a M = some r → zf_29 a M = some r := zcm_le (zlk_le (l := []) (l' := []) rfl (fun i q q' h => by simp at h))
theorem zbf_29 : ∀ a M v M', zb_29 a M = some (v, M') → zfr M → zfr M' := zcm_fr (by decide +kernel) (zlk_fr (l := []) (fun q hq => by cases hq))
def zb_41 : zF := zcm zi_41 (zlk []) 4 2000
theorem zbl_41 : ∀ a M r, zb_41 a M = some r → zf_41 a M = some r := zcm_le (zlk_le (l := []) (l' := []) rfl (fun i q q' h => by simp at h))
theorem zbf_41 : ∀ a M v M', zb_41 a M = some (v, M') → zfr M → zfr M' := zcm_fr (by decide +kernel) (zlk_fr (l := []) (fun q hq => by cases hq))
def zb_52 : zF := zcm zi_52 (zlk []) 4 2000
theorem zbl_52 : ∀ a M r, zb_52 a M = some r → zf_52 a M = some r := zcm_le (zlk_le (l := []) (l' := []) rfl (fun i q q' h => by simp at h))
theorem zbf_52 : ∀ a M v M', zb_52 a M = some (v, M') → zfr M → zfr M' := zcm_fr (by decide +kernel) (zlk_fr (l := []) (fun q hq => by cases hq))
def zb_56 : zF := zcm zi_56 (zlk [(29, zb_29)]) 1 2000
theorem zbl_56 : ∀ a M r, zb_56 a M = some r → zf_56 a M = some r := zcm_le (zlk_le (l := [(29, zb_29)]) (l' := [(29, zf_29)]) rfl (fun i q q' h h' => by
    match i, h, h' with
    | 0, h, h' => cases h; cases h'; exact zbl_29
    | k + 1, h, h' => simp at h))
theorem zbf_56 : ∀ a M v M', zb_56 a M = some (v, M') → zfr M → zfr M' := zcm_fr (by decide +kernel) (zlk_fr (l := [(29, zb_29)]) (fun q hq => by
    simp only [List.mem_cons, List.not_mem_nil, or_false] at hq
    subst hq
    · exact zbf_29))
def zb_73 : zF := zcm zi_73 (zlk []) 2 2000
theorem zbl_73 : ∀ a M r, zb_73 a M = some r → zf_73 a M = some r := zcm_le (zlk_le (l := []) (l' := []) rfl (fun i q q' h => by simp at h))
theorem zbf_73 : ∀ a M v M', zb_73 a M = some (v, M') → zfr M → zfr M' := zcm_fr (by decide +kernel) (zlk_fr (l := []) (fun q hq => by cases hq))
def zb_89 : zF := zcm zi_89 (zlk []) 1 2000
theorem zbl_89 : ∀ a M r, zb_89 a M = some r → zf_89 a M = some r := zcm_le (zlk_le (l := []) (l' := []) rfl (fun i q q' h => by simp at h))
theorem zbf_89 : ∀ a M v M', zb_89 a M = some (v, M') → zfr M → zfr M' := zcm_fr (by decide +kernel) (zlk_fr (l := []) (fun q hq => by cases hq))
def zb_96 : zF := zcm zi_96 (zlk [(29, zb_29)]) 1 2000
theorem zbl_96 : ∀ a M r, zb_96 a M = some r → zf_96 a M = some r := zcm_le (zlk_le (l := [(29, zb_29)]) (l' := [(29, zf_29)]) rfl (fun i q q' h h' => by
    match i, h, h' with
    | 0, h, h' => cases h; cases h'; exact zbl_29
    | k + 1, h, h' => simp at h))
theorem zbf_96 : ∀ a M v M', zb_96 a M = some (v, M') → zfr M → zfr M' := zcm_fr (by decide +kernel) (zlk_fr (l := [(29, zb_29)]) (fun q hq => by
    simp only [List.mem_cons, List.not_mem_nil, or_false] at hq
    subst hq
    · exact zbf_29))
def zb_119 : zF := zcm zi_119 (zlk []) 2 2000
theorem zbl_119 : ∀ a M r, zb_119 a M = some r → zf_119 a M = some r := zcm_le (zlk_le (l := []) (l' := []) rfl (fun i q q' h => by simp at h))
theorem zbf_119 : ∀ a M v M', zb_119 a M = some (v, M') → zfr M → zfr M' := zcm_fr (by decide +kernel) (zlk_fr (l := []) (fun q hq => by cases hq))
def zb_131 : zF := zcm zi_131 (zlk []) 4 2000
theorem zbl_131 : ∀ a M r, zb_131 a M = some r → zf_131 a M = some r := zcm_le (zlk_le (l := []) (l' := []) rfl (fun i q q' h => by simp at h))
theorem zbf_131 : ∀ a M v M', zb_131 a M = some (v, M') → zfr M → zfr M' := zcm_fr (by decide +kernel) (zlk_fr (l := []) (fun q hq => by cases hq))
def zb_139 : zF := zcm zi_139 (zlk [(10, zb_10), (15, zb_15), (41, zb_41), (52, zb_52), (56, zb_56), (73, zb_73), (89, zb_89), (96, zb_96), (119, zb_119), (131, zb_131)]) 4 2000
theorem zbl_139 : ∀ a M r, zb_139 a M = some r → zf_139 a M = some r := zcm_le (zlk_le (l := [(10, zb_10), (15, zb_15), (41, zb_41), (52, zb_52), (56, zb_56), (73, zb_73), (89, zb_89), (96, zb_96), (119, zb_119), (131, zb_131)]) (l' := [(10, zf_10), (15, zf_15), (41, zf_41), (52, zf_52), (56, zf_56), (73, zf_73), (89, zf_89), (96, zf_96), (119, zf_119), (131, zf_131)]) rfl (fun i q q' h h' => by
    match i, h, h' with
    | 0, h, h' => cases h; cases h'; exact zbl_10
    | 1, h, h' => cases h; cases h'; exact zbl_15
    | 2, h, h' => cases h; cases h'; exact zbl_41
    | 3, h, h' => cases h; cases h'; exact zbl_52
    | 4, h, h' => cases h; cases h'; exact zbl_56
    | 5, h, h' => cases h; cases h'; exact zbl_73
    | 6, h, h' => cases h; cases h'; exact zbl_89
    | 7, h, h' => cases h; cases h'; exact zbl_96
    | 8, h, h' => cases h; cases h'; exact zbl_119
    | 9, h, h' => cases h; cases h'; exact zbl_131
    | k + 10, h, h' => simp at h))
theorem zbf_139 : ∀ a M v M', zb_139 a M = some (v, M') → zfr M → zfr M' := zcm_fr (by decide +kernel) (zlk_fr (l := [(10, zb_10), (15, zb_15), (41, zb_41), (52, zb_52), (56, zb_56), (73, zb_73), (89, zb_89), (96, zb_96), (119, zb_119), (131, zb_131)]) (fun q hq => by
    simp only [List.mem_cons, List.not_mem_nil, or_false] at hq
    rcases hq with rfl | rfl | rfl | rfl | rfl | rfl | rfl | rfl | rfl | rfl
    · exact zbf_10
    · exact zbf_15
    · exact zbf_41
    · exact zbf_52
    · exact zbf_56
    · exact zbf_73
    · exact zbf_89
    · exact zbf_96
    · exact zbf_119
    · exact zbf_131))
def zb_178 : zF := zcm zi_178 (zlk []) 1 2000
theorem zbl_178 : ∀ a M r, zb_178 a M = some r → zf_178 a M = some r := zcm_le (zlk_le (l := []) (l' := []) rfl (fun i q q' h => by simp at h))
theorem zbf_178 : ∀ a M v M', zb_178 a M = some (v, M') → zfr M → zfr M' := zcm_fr (by decide +kernel) (zlk_fr (l := []) (fun q hq => by cases hq))
