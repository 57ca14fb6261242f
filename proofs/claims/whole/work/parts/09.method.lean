/-! A METHOD BY ITS BYTES AND ITS CALLEES -/
def zlk (l : List (Nat × zF)) (g : Nat) : zF := match l with
  | [] => fun _ _ => none
  | q :: r => if g = q.1 then q.2 else zlk r g
def zX0 : zX := (0, fun _ => 0)
theorem zlk_mem : ∀ {l : List (Nat × zF)} {g : Nat} {a : List Value} {M : zM} {y : Value × zM}, zlk l g a M = some y → (g, zlk l g) ∈ l
  | [], _, _, _, _, h => by cases h
  | q :: r, g, a, M, y, h => by
    by_cases hg : g = q.1
    · have e : zlk (q :: r) g = q.2 := by simp [zlk, hg]
      rw [e, hg]
      exact List.mem_cons_self
    · have e : zlk (q :: r) g = zlk r g := by simp [zlk, hg]
      rw [e] at h ⊢
      exact List.mem_cons_of_mem _ (zlk_mem h)
/-- the two continuations carry nothing of their own -/
theorem zexec_nat {X : zX} {E : Nat → zF} {γ : Type} (i : Instr) (pc : Nat) (L st : List Value) (M : zM) (k : zCf → Option γ) (kr : Value × zM → Option γ) :
    zexec X E i pc L st M k kr = (zexec X E i pc L st M (fun x => some (Sum.inl x)) (fun r => some (Sum.inr r))).bind (fun z => Sum.elim k kr z) := by
  cases i
  all_goals first
    | rfl
    | (rename_i ix; match ix with
        | 0 => rfl
        | 1 => (simp only [zexec, zr1]; repeat' split) <;> rfl
        | 2 => (simp only [zexec, zr1]; repeat' split) <;> rfl
        | 3 => rfl
        | k + 4 => rfl)
    | (rename_i cn t; cases cn <;> simp only [zexec, z1, z2] <;> (repeat' split) <;> rfl)
    | (simp only [zexec, z1, z2, zr1, zir, ziir, zcall]; (repeat' split) <;> first | rfl | contradiction)
theorem zexec_mono {X : zX} {E : Nat → zF} (hE : ∀ g a M v M', E g a M = some (v, M') → zn M ≤ zn M' ∧ zsl M ≤ zsl M') (i : Instr) (pc : Nat) (L st : List Value) (M : zM) {z : zCf ⊕ (Value × zM)}
    (h : zexec X E i pc L st M (fun x => some (Sum.inl x)) (fun r => some (Sum.inr r)) = some z) : (∀ x, z = .inl x → zn M ≤ zn x.2.2.2 ∧ zsl M ≤ zsl x.2.2.2) ∧ (∀ r, z = .inr r → r.2 = M) := by
  cases i
  case ldc ix =>
    match ix, h with
    | 0, h => cases h; exact ⟨fun x hx => by cases hx; exact ⟨Nat.le_refl _, Nat.le_refl _⟩, fun r hr => by cases hr⟩
    | 1, h =>
      simp only [zexec, zr1] at h
      repeat' split at h
      all_goals first | (cases h; done) | (cases h; exact ⟨fun x hx => by cases hx; exact ⟨Nat.le_refl _, Nat.le_refl _⟩, fun r hr => by cases hr⟩)
    | 2, h =>
      simp only [zexec, zr1] at h
      repeat' split at h
      all_goals first | (cases h; done) | (cases h; exact ⟨fun x hx => by cases hx; exact ⟨Nat.le_refl _, Nat.le_refl _⟩, fun r hr => by cases hr⟩)
    | 3, h => cases h; exact ⟨fun x hx => by cases hx; exact ⟨Nat.le_refl _, Nat.le_refl _⟩, fun r hr => by cases hr⟩
    | k + 4, h => cases h
  case ifCond cn t =>
    cases cn <;> simp only [zexec, z1] at h <;> (repeat' split at h) <;> first | (cases h; done) | (cases h; exact ⟨fun x hx => by cases hx; exact ⟨Nat.le_refl _, Nat.le_refl _⟩, fun r hr => by cases hr⟩)
  case if_icmp cn t =>
    cases cn <;> simp only [zexec, z2] at h <;> (repeat' split at h) <;> first | (cases h; done) | (cases h; exact ⟨fun x hx => by cases hx; exact ⟨Nat.le_refl _, Nat.le_refl _⟩, fun r hr => by cases hr⟩)
  all_goals (try simp only [zexec, z1, z2, zr1, zir, ziir, zcall] at h)
  all_goals (try (repeat' split at h))
  all_goals first
    | (cases h; done)
    | (cases h; exact ⟨fun x hx => by cases hx; exact ⟨Nat.le_refl _, Nat.le_refl _⟩, fun r hr => by cases hr⟩)
    | (cases h; exact ⟨fun x hx => by cases hx; exact ⟨Nat.le_succ _, Nat.le_add_right _ _⟩, fun r hr => by cases hr⟩)
    | (cases h; exact ⟨fun x hx => (by cases hx), fun r hr => by cases hr; rfl⟩)
    | (rename_i he; cases h; exact ⟨fun x hx => by cases hx; exact hE _ _ _ _ _ he, fun r hr => by cases hr⟩)
    | skip
