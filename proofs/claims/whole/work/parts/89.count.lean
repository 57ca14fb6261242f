/-! COUNT -/
theorem zf110 (s : zQs) {L : zLw} {I : Nat → Nat → Int32} (hL : zLaw L s I) : zf_110 [.ref 1] (zMk (s, I)) = some (.int (I 58 18), zMk (s, I)) := by
  obtain ⟨-, h2, h3⟩ := hL
  rw [zl_110, h2.1]
  rcases h3 with ⟨a, b, c⟩ | ⟨a, b, c⟩
  · rw [a, if_pos (show za (zMk (s, I)) 8 2 = true from rfl), c.1]
  · rw [a, if_pos (show za (zMk (s, I)) 34 2 = true from rfl), c.1]
theorem zp_counts {L : zLw} {st : zSt} {s : zQs} {I : Nat → Nat → Int32} (hE : zEv L st s I) (hx : zXx st I) (x1 : Int32) : zPr L st s I (zf_170 [.ref 0, .int x1]) (zf_274 [.ref 58, .int x1]) :=
  zPr_of hE (zp_count (Rep_of hE.1 hx) (zf110 s hE.2.1) x1)
