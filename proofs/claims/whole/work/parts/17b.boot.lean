def zM1 : zM := znew zM0 11 11
def zM2 : zM := match zb_139 [.ref 0] zM1 with
  | some (_, M) => M
  | none => zM0
def zM3 : zM := znew zM2 12 69
def zM4 : zM := match zb_178 [.ref 58] zM3 with
  | some (_, M) => M
  | none => zM0
def zvoid (o : Option (Value × zM)) : Bool := match o with
  | some (.long z, _) => decide (z = 0)
  | _ => false
theorem zvoid_of {o : Option (Value × zM)} (h : zvoid o = true) : ∃ M, o = some (.long 0, M) := by
  unfold zvoid at h
  split at h
  · rename_i z M
    exact ⟨M, by rw [of_decide_eq_true h]⟩
  · cases h
theorem zboot1 : zb_139 [.ref 0] zM1 = some (.long 0, zM2) := by
  obtain ⟨M, h⟩ := zvoid_of (show zvoid (zb_139 [.ref 0] zM1) = true by decide +kernel)
  have e : zM2 = M := by unfold zM2; rw [h]
  rw [e]; exact h
theorem zboot2 : zn zM2 = 58 := by decide +kernel
theorem zboot3 : zb_178 [.ref 58] zM3 = some (.long 0, zM4) := by
  obtain ⟨M, h⟩ := zvoid_of (show zvoid (zb_178 [.ref 58] zM3) = true by decide +kernel)
  have e : zM4 = M := by unfold zM4; rw [h]
  rw [e]; exact h
theorem zfr_4 : zfr zM4 := by
  have h0 : zfr zM0 := ⟨fun _ _ => ⟨rfl, rfl⟩, fun _ _ _ => rfl⟩
  exact zbf_178 _ _ _ _ zboot3 (zfr_new (zbf_139 _ _ _ _ zboot1 (zfr_new h0 _ _)) _ _)
def zI0 : Nat → Nat → Int32 := zM4.2
def zs0 : zQs := (0, fun _ => none, 8, 34)
theorem zboot_n : zn zM4 = 103 ∧ zsl zM4 = 92791 := by decide +kernel
theorem zboot_t : ∀ k, k < 103 → zt zM4 k = zsT 0 k ∧ zl zM4 k = zsL 0 k := by decide +kernel
theorem zboot_r : ∀ k, k < 103 → ∀ j, j < znf (zsT 0 k) → zR zM4 k j = zsR zs0 k j := by decide +kernel
theorem zboot_c : ∀ k, k < 103 → (zRl.getD k []).length ≤ znf (zsT 0 k) := by decide +kernel
theorem zboot_1 : 6 < znf (zsT 0 1) ∧ 1 < znf (zsT 0 32) := by decide +kernel
