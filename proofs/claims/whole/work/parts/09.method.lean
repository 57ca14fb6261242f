/-! A METHOD BY ITS BYTES AND ITS CALLEES -/
def zlk (l : List (Nat × zF)) (g : Nat) : zF := match l with
  | [] => fun _ _ => none
  | q :: r => if g = q.1 then q.2 else zlk r g
def zX0 : zX := (0, fun _ => 0)
theorem zlk_mem : ∀ {l : List (Nat × zF)} {g : Nat} {a : List Value} {M : zM} {y : Value × zM}, zlk l g a M = some y → (g, zlk l g) ∈ l
  | [], _, _, _, _, h => by cases h
  | q :: r, g, a, M, y, h => by
    by_cases hg : g = q.1
    · have e : zlk (q :: r) g = q.2 := by simp [zlk, hg]
      rw [e, hg]
      exact List.mem_cons_self
    · have e : zlk (q :: r) g = zlk r g := by simp [zlk, hg]
      rw [e] at h ⊢
      exact List.mem_cons_of_mem _ (zlk_mem h)
/-- the two continuations carry nothing of their own -/
theorem zexec_nat {X : zX} {E : Nat → zF} {γ : Type} (i : Instr) (pc : Nat) (L st : List Value) (M : zM) (k : zCf → Option γ) (kr : Value × zM → Option γ) :
    zexec X E i pc L st M k kr = (zexec X E i pc L st M (fun x => some (Sum.inl x)) (fun r => some (Sum.inr r))).bind (fun z => Sum.elim k kr z) := by
  cases i
  all_goals first
    | rfl
    | (rename_i ix; match ix with
        | 0 => rfl
        | 1 => (simp only [zexec, zr1]; repeat' split) <;> rfl
        | 2 => (simp only [zexec, zr1]; repeat' split) <;> rfl
        | 3 => rfl
        | k + 4 => rfl)
    | (rename_i cn t; cases cn <;> simp only [zexec, z1, z2] <;> (repeat' split) <;> rfl)
    | (simp only [zexec, z1, z2, zr1, zir, ziir, zcall, zcV, zcI, zcR]; (repeat' split) <;> first | rfl | contradiction)
theorem zexec_mono {X : zX} {E : Nat → zF} (hE : ∀ g a M v M', E g a M = some (v, M') → zn M ≤ zn M' ∧ zsl M ≤ zsl M') (i : Instr) (pc : Nat) (L st : List Value) (M : zM) {z : zCf ⊕ (Value × zM)}
    (h : zexec X E i pc L st M (fun x => some (Sum.inl x)) (fun r => some (Sum.inr r)) = some z) : (∀ x, z = .inl x → zn M ≤ zn x.2.2.2 ∧ zsl M ≤ zsl x.2.2.2) ∧ (∀ r, z = .inr r → r.2 = M) := by
  cases i
  case ldc ix =>
    match ix, h with
    | 0, h => cases h; exact ⟨fun x hx => by cases hx; exact ⟨Nat.le_refl _, Nat.le_refl _⟩, fun r hr => by cases hr⟩
    | 1, h =>
      simp only [zexec, zr1] at h
      repeat' split at h
      all_goals first | (cases h; done) | (cases h; exact ⟨fun x hx => by cases hx; exact ⟨Nat.le_refl _, Nat.le_refl _⟩, fun r hr => by cases hr⟩)
    | 2, h =>
      simp only [zexec, zr1] at h
      repeat' split at h
      all_goals first | (cases h; done) | (cases h; exact ⟨fun x hx => by cases hx; exact ⟨Nat.le_refl _, Nat.le_refl _⟩, fun r hr => by cases hr⟩)
    | 3, h => cases h; exact ⟨fun x hx => by cases hx; exact ⟨Nat.le_refl _, Nat.le_refl _⟩, fun r hr => by cases hr⟩
    | k + 4, h => cases h
  case ifCond cn t =>
    cases cn <;> simp only [zexec, z1] at h <;> (repeat' split at h) <;> first | (cases h; done) | (cases h; exact ⟨fun x hx => by cases hx; exact ⟨Nat.le_refl _, Nat.le_refl _⟩, fun r hr => by cases hr⟩)
  case if_icmp cn t =>
    cases cn <;> simp only [zexec, z2] at h <;> (repeat' split at h) <;> first | (cases h; done) | (cases h; exact ⟨fun x hx => by cases hx; exact ⟨Nat.le_refl _, Nat.le_refl _⟩, fun r hr => by cases hr⟩)
  all_goals (try simp only [zexec, z1, z2, zr1, zir, ziir, zcall, zcV, zcI, zcR] at h)
  all_goals (try (repeat' split at h))
  all_goals first
    | (cases h; done)
    | (cases h; exact ⟨fun x hx => by cases hx; exact ⟨Nat.le_refl _, Nat.le_refl _⟩, fun r hr => by cases hr⟩)
    | (cases h; exact ⟨fun x hx => by cases hx; exact ⟨Nat.le_succ _, Nat.le_add_right _ _⟩, fun r hr => by cases hr⟩)
    | (cases h; exact ⟨fun x hx => (by cases hx), fun r hr => by cases hr; rfl⟩)
    | (rename_i he; cases h; exact ⟨fun x hx => by cases hx; exact hE _ _ _ _ _ he, fun r hr => by cases hr⟩)
    | skip
theorem zrunT_mono {X : zX} {C : List Instr} {E : Nat → zF} (hE : ∀ g a M v M', E g a M = some (v, M') → zn M ≤ zn M' ∧ zsl M ≤ zsl M') : ∀ (n : Nat) (x : zCf) (y : Value × zM), zrunT X C E n x = some y → zn x.2.2.2 ≤ zn y.2 ∧ zsl x.2.2.2 ≤ zsl y.2
  | 0, _, _, h => by cases h
  | n + 1, x, y, h => by
    simp only [zrunT, zstep] at h
    split at h
    · rw [zexec_nat] at h
      cases hz : zexec X E _ x.1 x.2.1 x.2.2.1 x.2.2.2 (fun x => some (Sum.inl x)) (fun r => some (Sum.inr r)) with
      | none => rw [hz] at h; cases h
      | some z =>
        rw [hz] at h
        obtain ⟨m1, m2⟩ := zexec_mono hE _ _ _ _ _ hz
        cases z with
        | inl x' =>
          have h1 := m1 x' rfl
          have h2 := zrunT_mono hE n x' y h
          exact ⟨Nat.le_trans h1.1 h2.1, Nat.le_trans h1.2 h2.2⟩
        | inr r =>
          have h1 := m2 r rfl
          have h2 : r = y := Option.some.inj h
          subst h2
          rw [h1]
          exact ⟨Nat.le_refl _, Nat.le_refl _⟩
    · cases h
/-- the whole check of a method's bytes -/
def zckm (md : zMd) (ini : Bool) (cd : List zE) (mdf : Nat → zMd) (gs : List Nat) : Bool :=
  zchain cd && decide (zpc cd 0 = 0) && cd.all (fun e => decide (decode md.2.1 e.1 = .ok (e.2.2.1, e.2.1)) && zck md.1.cls ini cd md.2.2.2.1 mdf gs e)
theorem zlk_mono {d : Nat} {mdf : Nat → zMd} {l : List (Nat × zF)} (hE : ∀ q ∈ l, zSnd d (mdf q.1) q.2) : ∀ g a M v M', zlk l g a M = some (v, M') → zn M ≤ zn M' ∧ zsl M ≤ zsl M' := fun g a M v M' h => by
  have h2 := (hE _ (zlk_mem h)).2 a M v M' h
  exact ⟨h2.1, h2.2.1⟩
theorem zlk_ok {d : Nat} {mdf : Nat → zMd} : ∀ {l : List (Nat × zF)}, (∀ q ∈ l, zSnd d (mdf q.1) q.2) → ∀ g ∈ l.map (fun q => q.1), zSnd d (mdf g) (zlk l g)
  | [], _, g, h => by simp at h
  | q :: r, hE, g, h => by
    by_cases hg : g = q.1
    · subst hg
      simp only [zlk, if_true]
      exact hE q List.mem_cons_self
    · simp only [zlk, hg, if_false]
      refine zlk_ok (fun q' h' => hE q' (List.mem_cons_of_mem _ h')) g ?_
      simp only [List.map_cons, List.mem_cons, hg, false_or] at h
      exact h
set_option maxHeartbeats 4000000 in
theorem zsound {d : Nat} {md : zMd} {ini : Bool} {cd : List zE} {mdf : Nat → zMd} {l : List (Nat × zF)} (hok : zMok md) (hini : ini = true → md.1.name = "<init>") (hck : zckm md ini cd mdf (l.map (fun q => q.1)) = true) (hE : ∀ q ∈ l, zSnd d (mdf q.1) q.2) : zSnd (d + 1) md (zden zX0 (cd.map (fun e => e.2.2.2.1)) (zlk l) md.2.2.1) := by
  have hlk := zlk_ok hE
  refine ⟨hok, fun args M r M' hF => ?_⟩
  obtain ⟨⟨hl, hc⟩, n, hn⟩ := zden_run hF
  have hmono := zrunT_mono (zlk_mono hE) n _ _ hn
  refine ⟨hmono.1, hmono.2, fun l' D cy h0 sp X => ?_⟩
  simp only [zckm, Bool.and_eq_true, decide_eq_true_eq, List.all_eq_true] at hck
  obtain ⟨⟨hch, hp0⟩, hall⟩ := hck
  refine Met.ofW (cc := md.2.1) (maxL := md.2.2.1) (ret := md.2.2.2.1) hok.2.2.1 rfl ?_
  intro p e s m args' below meth c s₁ B hml hv
  obtain ⟨rfl, hsz, hP, hEv⟩ := hv
  have hx := B.exec
  have hb := B.bytes
  have hr := B.returns
  have hts0 := atoms_spec (ws := Cond.code md.1 md.2.1 md.2.2.1 md.2.2.2.1 :: zTb) B.pre
  have hts : ∀ w ∈ zTb, w.before (args.map (zav h0 sp)).toArray s = true := fun w hw => hts0 w (List.mem_cons_of_mem _ hw)
  have hown : s.vm.findClass md.1.cls = some m.cls := findClass_of_methodNamed B.named
  have hlocks := B.notSynchronized
  have hin : meth.name = md.1.name := (name_of_methodNamed B.named B.method).1
  rw [lg_entry_eq]
  have hfree : ∀ {H : Heap} {locs : List Loc}, va_S (fun q => h0 ≤ q) s.heap H locs → ∀ q ∈ locs, h0 ≤ q.base := fun hS => hS.2.2
  refine (fun key => ?_) (zwalk (p := p) (e := e) (Q := MQ below (zQc D cy h0 sp r M') (args.map (zav h0 sp)).toArray s (zn M' - zn M) (zsl M' - zsl M) (fun q => h0 ≤ q)) (R := (headSpec (Cond.code md.1 md.2.1 md.2.2.1 md.2.2.2.1 :: zTb) (zrm (d + 1) M M')).room) (X' := zX0) (n0 := zn M) (s0 := zsl M) (d := d) (gs := l.map (fun q => q.1)) (E := zlk l) (y := (r, M')) (md := mdf) (ini := ini) (own := md.1.cls) (ret := md.2.2.2.1) (l := l') (below := below) (cd := cd)
    hx hb hml hown hts (fun h => hin.trans (hini h)) hEv (Or.inl rfl) ⟨Nat.le_refl _, Nat.le_refl _, Nat.le_refl _, Nat.le_refl _⟩ hch
    (fun o en ho => hall en (List.mem_of_getElem? ho)) hlk ?_ ?_ ?_ n _ hn)
  · obtain ⟨-, -, k⟩ := key
    have k2 := k s.heap [] _ (Nat.le_refl _) (Nat.le_refl _) hP hsz va_S.rf (zLoc_entry args hl hc)
    simp only [zstart, List.map_nil, hp0] at k2
    exact W.cs (by omega) (by omega) k2
  · intro v M2 H locs ls pc hy hret hdg hn0 hs0 hP2 hz2 hS
    have e1 : r = .int v := (Prod.mk.inj hy).1
    have e2 : M' = M2 := (Prod.mk.inj hy).2
    subst e1; subst e2
    have hq : ∀ t : State, t.heap = H → s.WarmedH t.vm → zQc D cy h0 sp (.int v) M' (args.map (zav h0 sp)).toArray s (.returned (some (.int v))) t := fun t ht hW => ⟨rfl, by rw [ht]; exact hz2, by rw [ht]; exact hP2, hS.F ht⟩
    rcases hret with hret | ⟨hret, hv01⟩
    · exact W.iret hx hb (hr.trans hret) hq (hfree hS) hdg hlocks
    · rcases hret with hret | hret
      · exact W.zret (ty := .boolean) hx hb (hr.trans hret) (by rcases hv01 with rfl | rfl <;> rfl) hq (hfree hS) hdg hlocks
      · exact W.zret (ty := .byte) hx hb (hr.trans hret) (by rcases hv01 with rfl | rfl <;> rfl) hq (hfree hS) hdg hlocks
  · intro M2 H locs ls pc hy hret hdg hn0 hs0 hP2 hz2 hS
    have e1 : r = .long 0 := (Prod.mk.inj hy).1
    have e2 : M' = M2 := (Prod.mk.inj hy).2
    subst e1; subst e2
    exact W.vret hx hb (hr.trans hret) (fun t ht hW => ⟨rfl, by rw [ht]; exact hz2, by rw [ht]; exact hP2, hS.F ht⟩) (hfree hS) hdg hlocks
  · intro a M2 H locs ls pc hy hret hdg hn0 hs0 hP2 hz2 hS
    have e1 : r = .ref a := (Prod.mk.inj hy).1
    have e2 : M' = M2 := (Prod.mk.inj hy).2
    subst e1; subst e2
    obtain ⟨C, hret⟩ := hret
    exact W.aret (v := .ref (zad h0 sp a)) hx hb (hr.trans hret) (Or.inl ⟨C, rfl⟩) (Or.inr ⟨_, rfl⟩) (fun t ht hW => ⟨rfl, by rw [ht]; exact hz2, by rw [ht]; exact hP2, hS.F ht⟩) (hfree hS) hdg hlocks
