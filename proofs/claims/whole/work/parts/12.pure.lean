/-! WHAT A RUN OF THE SMALL MACHINE COMES TO, WITHOUT ITS COUNT OF STEPS -/
theorem zstep_nat {X : zX} {C : List Instr} {E : Nat → zF} {γ : Type} (x : zCf) (k : zCf → Option γ) (kr : Value × zM → Option γ) :
    zstep X C E x k kr = (zstep X C E x (fun x => some (Sum.inl x)) (fun r => some (Sum.inr r))).bind (fun z => Sum.elim k kr z) := by
  unfold zstep
  split
  · exact zexec_nat _ _ _ _ _ k kr
  · rfl
theorem zrunT_more {X : zX} {C : List Instr} {E : Nat → zF} : ∀ (n : Nat) (x : zCf) (r : Value × zM), zrunT X C E n x = some r → zrunT X C E (n + 1) x = some r
  | 0, _, _, h => by cases h
  | n + 1, x, r, h => by
    have h1 : zstep X C E x (zrunT X C E n) some = some r := h
    show zstep X C E x (zrunT X C E (n + 1)) some = some r
    rw [zstep_nat] at h1 ⊢
    cases hz : zstep X C E x (fun x => some (Sum.inl x)) (fun r => some (Sum.inr r)) with
    | none => rw [hz] at h1; cases h1
    | some z =>
      rw [hz] at h1
      cases z with
      | inl x' => exact zrunT_more n x' r h1
      | inr r' => exact h1
theorem zrunT_up {X : zX} {C : List Instr} {E : Nat → zF} {n : Nat} {x : zCf} {r : Value × zM} (h : zrunT X C E n x = some r) : ∀ k, zrunT X C E (n + k) x = some r
  | 0 => h
  | k + 1 => zrunT_more _ _ _ (zrunT_up h k)
theorem zrunT_det {X : zX} {C : List Instr} {E : Nat → zF} {n m : Nat} {x : zCf} {r r' : Value × zM} (h : zrunT X C E n x = some r) (h' : zrunT X C E m x = some r') : r = r' := by
  have h1 := zrunT_up h m
  have h2 := zrunT_up h' n
  rw [Nat.add_comm] at h2
  exact Option.some.inj (h1.symm.trans h2)
noncomputable def zres (X : zX) (C : List Instr) (E : Nat → zF) (x : zCf) : Option (Value × zM) :=
  haveI : ∀ p : Prop, Decidable p := fun p => Classical.propDecidable p
  if h : ∃ r n, zrunT X C E n x = some r then some (Classical.choose h) else none
theorem zres_of {X : zX} {C : List Instr} {E : Nat → zF} {n : Nat} {x : zCf} {r : Value × zM} (h : zrunT X C E n x = some r) : zres X C E x = some r := by
  have hx : ∃ r n, zrunT X C E n x = some r := ⟨r, n, h⟩
  unfold zres
  rw [dif_pos hx]
  obtain ⟨m, hm⟩ := Classical.choose_spec hx
  exact congrArg some (zrunT_det hm h)
theorem zres_run {X : zX} {C : List Instr} {E : Nat → zF} {x : zCf} {r : Value × zM} (h : zres X C E x = some r) : ∃ n, zrunT X C E n x = some r := by
  unfold zres at h
  split at h
  · rename_i hx
    cases h
    exact Classical.choose_spec hx
  · cases h
theorem zres_step {X : zX} {C : List Instr} {E : Nat → zF} (x : zCf) : zres X C E x = zstep X C E x (zres X C E) some := by
  rw [zstep_nat]
  cases hz : zstep X C E x (fun x => some (Sum.inl x)) (fun r => some (Sum.inr r)) with
  | none =>
    cases hr : zres X C E x with
    | none => rfl
    | some r =>
      obtain ⟨n, hn⟩ := zres_run hr
      cases n with
      | zero => cases hn
      | succ n =>
        have h1 : zstep X C E x (zrunT X C E n) some = some r := hn
        rw [zstep_nat, hz] at h1
        cases h1
  | some z =>
    cases z with
    | inr r =>
      refine zres_of (n := 1) ?_
      show zstep X C E x (zrunT X C E 0) some = _
      rw [zstep_nat, hz]
      rfl
    | inl x' =>
      show zres X C E x = zres X C E x'
      cases hr : zres X C E x' with
      | some r =>
        obtain ⟨n, hn⟩ := zres_run hr
        refine zres_of (n := n + 1) ?_
        show zstep X C E x (zrunT X C E n) some = _
        rw [zstep_nat, hz]
        exact hn
      | none =>
        cases hr2 : zres X C E x with
        | none => rfl
        | some r =>
          obtain ⟨n, hn⟩ := zres_run hr2
          cases n with
          | zero => cases hn
          | succ n =>
            have h1 : zstep X C E x (zrunT X C E n) some = some r := hn
            rw [zstep_nat, hz] at h1
            have h2 := zres_of (show zrunT X C E n x' = some r from h1)
            rw [hr] at h2
            cases h2
theorem zden_res {X : zX} {C : List Instr} {E : Nat → zF} {nL : Nat} {args : List Value} {M : zM} (h : args.length ≤ nL ∧ ∀ v ∈ args, v.category = 1) : zden X C E nL args M = zres X C E (zstart nL args M) := by
  cases hr : zres X C E (zstart nL args M) with
  | some r =>
    obtain ⟨n, hn⟩ := zres_run hr
    have hx : (args.length ≤ nL ∧ ∀ v ∈ args, v.category = 1) ∧ ∃ r n, zrunT X C E n (zstart nL args M) = some r := ⟨h, r, n, hn⟩
    unfold zden
    rw [dif_pos hx]
    obtain ⟨m, hm⟩ := Classical.choose_spec hx.2
    exact congrArg some (zrunT_det hm hn)
  | none =>
    cases hd : zden X C E nL args M with
    | none => rfl
    | some r =>
      obtain ⟨-, n, hn⟩ := zden_run hd
      rw [zres_of hn] at hr
      cases hr
/-- some steps, up to places where one stops -/
noncomputable def zxs (X : zX) (C : List Instr) (E : Nat → zF) (stop : Nat → Bool) : Nat → zCf → Option (Value × zM)
  | 0, x => zres X C E x
  | n + 1, x => zstep X C E x (fun x' => match stop x'.1 with
    | true => zres X C E x'
    | false => zxs X C E stop n x') some
theorem zxs_eq {X : zX} {C : List Instr} {E : Nat → zF} (stop : Nat → Bool) : ∀ (n : Nat) (x : zCf), zxs X C E stop n x = zres X C E x
  | 0, _ => rfl
  | n + 1, x => by
    rw [zres_step]
    show zstep X C E x _ some = _
    congr 1
    funext x'
    split
    · rfl
    · exact zxs_eq stop n x'
def zon (l : List Nat) (k : Nat) : Bool := l.any (fun a => Nat.beq a k)
