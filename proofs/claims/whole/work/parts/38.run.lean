/-- the whole run, given an invariant that each call keeps -/
theorem zrun_of {Q : Nat → zQs → (Nat → Nat → Int32) → Prop} (h : zCalls Q) (hm : ∀ n s I, Q n s I → Q (n + 1) s I) (hc : ∀ n s I, Q n s I → s.1 ≤ 100) (h0 : Q 0 zs0 zI0) : ∀ X : zX, 0 < X.1 → X.1 ≤ 3073 → ∃ (Mf : zM) (n : Nat), zrunT X zi_L zE_L n (zstart 4 [.ref 1000000] zM0) = some (.int 1, Mf) ∧ zn Mf ≤ 600000 ∧ zsl Mf ≤ 7302250 := by
  intro X hX hX'
  obtain ⟨m, s2, I2, -, e, hq⟩ := zloop h hm hX hX' 512 0 zs0 zI0 (by omega) (by omega) h0
  have e1 : zres X zi_L zE_L (zstart 4 [.ref 1000000] zM0) = some (.int 1, zMk (s2, I2)) := (zboot X).trans e
  obtain ⟨n, hn⟩ := zres_run e1
  have hs := hc m s2 I2 hq
  refine ⟨zMk (s2, I2), n, hn, ?_, ?_⟩
  · show 103 + s2.1 ≤ 600000
    omega
  · show 92791 + 400 * s2.1 ≤ 7302250
    omega
/-- the town at the start -/
def zst0 : zSt := (fun j => if j = 0 then 1 else if j = 4 then 1 else 0, fun _ _ => 0, fun _ => 0, none)
