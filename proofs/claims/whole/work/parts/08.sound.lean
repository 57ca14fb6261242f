/-! THE WALK -/
theorem zmath : Cond.static Lib.Math.max.name ∈ zTb ∧ Cond.static Lib.Math.min.name ∈ zTb ∧ Cond.initialized "java/lang/Math" ∈ zTb ∧ Cond.code Lib.Math.max.name Lib.Math.max.code 2 (some .int) ∈ zTb ∧ Cond.code Lib.Math.min.name Lib.Math.min.code 2 (some .int) ∈ zTb :=
  ⟨zw_in (i := 3069) (by decide +kernel), zw_in (i := 2217) (by decide +kernel), zw_in (i := 1014) (by decide +kernel), zw_in (i := 3070) (by decide +kernel), zw_in (i := 2218) (by decide +kernel)⟩
theorem zfr_narrow {c j : Nat} (h : zFr c j = true) (a : Nat) : narrow (zty c j) (.ref a) = .ref a := by
  revert h
  unfold zFr
  cases zty c j <;> simp [narrow]
theorem zfr_fits {c j : Nat} (h : zFr c j = true) (a : Nat) : fits (zty c j) (.ref a) = true := by
  revert h
  unfold zFr
  cases zty c j <;> simp [fits]
set_option maxHeartbeats 4000000 in
set_option maxRecDepth 100000 in
theorem zwalk {p : Program} {l : Launch} {e : Env} {R : Room} {s : State} {m : MethodId} {args : Array Value} {below : List Frame} {meth : Method} {c : Code} {Q : State → Prop} {cc : ByteArray} {nL : Nat} {own : String} {ini : Bool} {ret : Option FieldType}
    {D : va_G} {cy : Nat → ClassId} {h0 : Nat} {sp : Nat → Nat} {X X' : zX} {cd : List zE} {md : Nat → zMd} {gs : List Nat} {d : Nat} {E : Nat → zF} {y : Value × zM} {n0 s0 : Nat}
    (hx : p.tables.exec = Jvm.exec) (hb : c.code = cc) (hml : c.maxLocals = nL) (hown : s.vm.findClass own = some m.cls) (hts : ∀ w ∈ zTb, w.before args s = true) (hini : ini = true → meth.name = "<init>")
    (hEv : zEnv D cy h0 sp X s) (hX : X'.1 = 0 ∨ X' = X) (hR : d + 1 ≤ R.frames ∧ 60 * (d + 1) ≤ R.locals ∧ zn y.2 - n0 ≤ R.cells ∧ zsl y.2 - s0 ≤ R.slots)
    (hch : zchain cd = true) (hck : ∀ (o : Nat) (e : zE), cd[o]? = some e → decode cc e.1 = .ok (e.2.2.1, e.2.1) ∧ zck own ini cd ret md gs e = true)
    (hE : ∀ g ∈ gs, zSnd d (md g) (E g))
    (hRi : ∀ (v : Int32) (M : zM) (H : Heap) (locs : List Loc) (ls : Array Slot) (pc : Nat), y = (.int v, M) → (ret = some .int ∨ ((ret = some .boolean ∨ ret = some .byte) ∧ (v = 0 ∨ v = 1))) → decode cc pc = .ok (.ireturn, 1) → n0 ≤ zn M → s0 ≤ zsl M → zP D cy h0 sp M H → H.size = h0 + zn M → va_S (fun q => h0 ≤ q) s.heap H locs → W p l e R s m args below meth c H locs (zn M - n0) (zsl M - s0) Q (F0 m pc ls [.int v]))
    (hRv : ∀ (M : zM) (H : Heap) (locs : List Loc) (ls : Array Slot) (pc : Nat), y = (.long 0, M) → ret = none → decode cc pc = .ok (.return_, 1) → n0 ≤ zn M → s0 ≤ zsl M → zP D cy h0 sp M H → H.size = h0 + zn M → va_S (fun q => h0 ≤ q) s.heap H locs → W p l e R s m args below meth c H locs (zn M - n0) (zsl M - s0) Q (F0 m pc ls []))
    (hRa : ∀ (a : Nat) (M : zM) (H : Heap) (locs : List Loc) (ls : Array Slot) (pc : Nat), y = (.ref a, M) → (∃ C, ret = some (.object C)) → decode cc pc = .ok (.areturn, 1) → n0 ≤ zn M → s0 ≤ zsl M → zP D cy h0 sp M H → H.size = h0 + zn M → va_S (fun q => h0 ≤ q) s.heap H locs → W p l e R s m args below meth c H locs (zn M - n0) (zsl M - s0) Q (F0 m pc ls [.ref (zad h0 sp a)])) :
    ∀ (n : Nat) (x : zCf), zrunT X' (cd.map (fun e => e.2.2.2.1)) E n x = some y →
      zn x.2.2.2 ≤ zn y.2 ∧ zsl x.2.2.2 ≤ zsl y.2 ∧ ∀ (H : Heap) (locs : List Loc) (ls : Array Slot), n0 ≤ zn x.2.2.2 → s0 ≤ zsl x.2.2.2 → zP D cy h0 sp x.2.2.2 H → H.size = h0 + zn x.2.2.2 → va_S (fun q => h0 ≤ q) s.heap H locs → zLoc h0 sp ls nL x.2.1 →
        W p l e R s m args below meth c H locs (zn x.2.2.2 - n0) (zsl x.2.2.2 - s0) Q (F0 m (zpc cd x.1) ls (x.2.2.1.map (zav h0 sp))) := by
  intro n
  induction n with
  | zero => intro x h; cases h
  | succ n ih =>
  rintro ⟨o, L, st, M⟩ h
  simp only [zrunT, zstep] at h
  cases ho : cd[o]? with
  | none => rw [List.getElem?_map, ho] at h; cases h
  | some en =>
  rw [List.getElem?_map, ho] at h
  dsimp only [Option.map] at h
  obtain ⟨hd, hc⟩ := hck o en ho
  have hp0 := zpc_at ho
  have hp1 := zpc_next hch ho
  dsimp only
  rw [hp0]
  clear hp0 ho
  obtain ⟨pc, len, re, mi, w1, w2⟩ := en
  dsimp only at hd hp1 h hc ⊢
  have hKK := hEv.1
  cases mi with
  | iconst v =>
    simp only [zexec] at h
    have g := ih _ h
    refine ⟨g.1, g.2.1, fun H locs ls hn0 hs0 hP hz hS hL => ?_⟩
    have w := g.2.2 H locs ls hn0 hs0 hP hz hS hL
    simp only [zck, Bool.or_eq_true, Bool.and_eq_true, decide_eq_true_eq] at hc
    rcases hc with (((⟨rfl, rfl⟩ | ⟨rfl, rfl, hv⟩) | ⟨rfl, rfl, hv⟩) | ⟨⟨rfl, rfl⟩, hw⟩) | ⟨⟨rfl, rfl⟩, hw⟩
    · rw [hp1] at w; exact lv_iconst hx hb hd rfl w
    · rw [hp1] at w; exact lv_bipush hx hb hd hv w
    · rw [hp1] at w; exact lv_sipush hx hb hd hv w
    · rw [hp1] at w; exact lv_ldc hx hb hown (hts _ (zw_in hw)) hd w
    · rw [hp1] at w; exact lv_ldcw hx hb hown (hts _ (zw_in hw)) hd w
  | aconst_null =>
    simp only [zexec] at h
    have g := ih _ h
    refine ⟨g.1, g.2.1, fun H locs ls hn0 hs0 hP hz hS hL => ?_⟩
    have w := g.2.2 H locs ls hn0 hs0 hP hz hS hL
    simp only [zck, decide_eq_true_eq] at hc
    obtain ⟨rfl, rfl⟩ := hc
    rw [hp1] at w
    exact lv_null hx hb hd w
  | iload j =>
    simp only [zexec] at h
    split at h
    · rename_i v hv
      have g := ih _ h
      refine ⟨g.1, g.2.1, fun H locs ls hn0 hs0 hP hz hS hL => ?_⟩
      have w := g.2.2 H locs ls hn0 hs0 hP hz hS hL
      have hl := hL.2.2.2 j _ hv rfl
      simp only [zck, Bool.or_eq_true, Bool.and_eq_true, decide_eq_true_eq] at hc
      rcases hc with ⟨rfl, rfl⟩ | ⟨hc, rfl⟩
      · rw [hp1] at w; exact lv_iload hx hb hd hl w
      · obtain ⟨k, rfl, rfl⟩ := z4_ex hc
        rw [hp1] at w; exact lv_iload_n hx hb hd rfl hl w
    · cases h
  | aload j =>
    simp only [zexec] at h
    split at h
    · rename_i v hv
      have g := ih _ h
      refine ⟨g.1, g.2.1, fun H locs ls hn0 hs0 hP hz hS hL => ?_⟩
      have w := g.2.2 H locs ls hn0 hs0 hP hz hS hL
      have hl := hL.2.2.2 j _ hv rfl
      simp only [zck, Bool.or_eq_true, Bool.and_eq_true, decide_eq_true_eq] at hc
      rcases hc with ⟨rfl, rfl⟩ | ⟨hc, rfl⟩
      · rw [hp1] at w; exact lv_aload hx hb hd hl w
      · obtain ⟨k, rfl, rfl⟩ := z4_ex hc
        rw [hp1] at w; exact lv_aload_n hx hb hd rfl hl w
    · rename_i hv
      have g := ih _ h
      refine ⟨g.1, g.2.1, fun H locs ls hn0 hs0 hP hz hS hL => ?_⟩
      have w := g.2.2 H locs ls hn0 hs0 hP hz hS hL
      have hl := hL.2.2.2 j _ hv rfl
      simp only [zck, Bool.or_eq_true, Bool.and_eq_true, decide_eq_true_eq] at hc
      rcases hc with ⟨rfl, rfl⟩ | ⟨hc, rfl⟩
      · rw [hp1] at w; exact zr_aloadN hx hb hd hl w
      · obtain ⟨k, rfl, rfl⟩ := z4_ex hc
        rw [hp1] at w; exact zr_aloadN_n hx hb hd rfl hl w
    · cases h
  | istore j =>
    simp only [zexec] at h
    have hh := z1_some h
    clear h
    obtain ⟨v, r, rfl, h⟩ := hh
    obtain ⟨hj, h⟩ := zif_some h
    have g := ih _ h
    refine ⟨g.1, g.2.1, fun H locs ls hn0 hs0 hP hz hS hL => ?_⟩
    have hj' : j < nL := by rw [← hL.2.2.1]; exact hj
    have w := fun ls' hL' => g.2.2 H locs ls' hn0 hs0 hP hz hS hL'
    simp only [zck, Bool.or_eq_true, Bool.and_eq_true, decide_eq_true_eq] at hc
    rcases hc with ⟨rfl, rfl⟩ | ⟨hc, rfl⟩
    · rw [hp1] at w; exact zr_istore hx hb hd hL hj' w
    · obtain ⟨k, rfl, rfl⟩ := z4_ex hc
      rw [hp1] at w; exact zr_istore_n hx hb hd rfl hL hj' w
  | astore j =>
    simp only [zexec] at h
    split at h
    · rename_i a r
      obtain ⟨hj, h⟩ := zif_some h
      have g := ih _ h
      refine ⟨g.1, g.2.1, fun H locs ls hn0 hs0 hP hz hS hL => ?_⟩
      have hj' : j < nL := by rw [← hL.2.2.1]; exact hj
      have w := fun ls' hL' => g.2.2 H locs ls' hn0 hs0 hP hz hS hL'
      simp only [zck, Bool.or_eq_true, Bool.and_eq_true, decide_eq_true_eq] at hc
      rcases hc with ⟨rfl, rfl⟩ | ⟨hc, rfl⟩
      · rw [hp1] at w; exact zr_astore hx hb hd hL hj' w
      · obtain ⟨k, rfl, rfl⟩ := z4_ex hc
        rw [hp1] at w; exact zr_astore_n hx hb hd rfl hL hj' w
    · rename_i r
      obtain ⟨hj, h⟩ := zif_some h
      have g := ih _ h
      refine ⟨g.1, g.2.1, fun H locs ls hn0 hs0 hP hz hS hL => ?_⟩
      have hj' : j < nL := by rw [← hL.2.2.1]; exact hj
      have w := fun ls' hL' => g.2.2 H locs ls' hn0 hs0 hP hz hS hL'
      simp only [zck, Bool.or_eq_true, Bool.and_eq_true, decide_eq_true_eq] at hc
      rcases hc with ⟨rfl, rfl⟩ | ⟨hc, rfl⟩
      · rw [hp1] at w; exact zr_astoreN hx hb hd hL hj' w
      · obtain ⟨k, rfl, rfl⟩ := z4_ex hc
        rw [hp1] at w; exact zr_astoreN_n hx hb hd rfl hL hj' w
    · cases h
  | iinc j k =>
    simp only [zexec] at h
    split at h
    · rename_i v hv
      have g := ih _ h
      refine ⟨g.1, g.2.1, fun H locs ls hn0 hs0 hP hz hS hL => ?_⟩
      have w := fun ls' hL' => g.2.2 H locs ls' hn0 hs0 hP hz hS hL'
      simp only [zck, decide_eq_true_eq] at hc
      obtain ⟨rfl, rfl⟩ := hc
      rw [hp1] at w
      exact zr_iinc hx hb hd hL hv w
    · cases h
  | iadd =>
    simp only [zexec] at h
    have hh := z2_some h
    clear h
    obtain ⟨a, b, r, rfl, h⟩ := hh
    have g := ih _ h
    refine ⟨g.1, g.2.1, fun H locs ls hn0 hs0 hP hz hS hL => ?_⟩
    have w := g.2.2 H locs ls hn0 hs0 hP hz hS hL
    simp only [zck, decide_eq_true_eq] at hc
    obtain ⟨rfl, rfl⟩ := hc
    rw [hp1] at w
    exact lv_iadd hx hb hd w
  | isub =>
    simp only [zexec] at h
    have hh := z2_some h
    clear h
    obtain ⟨a, b, r, rfl, h⟩ := hh
    have g := ih _ h
    refine ⟨g.1, g.2.1, fun H locs ls hn0 hs0 hP hz hS hL => ?_⟩
    have w := g.2.2 H locs ls hn0 hs0 hP hz hS hL
    simp only [zck, decide_eq_true_eq] at hc
    obtain ⟨rfl, rfl⟩ := hc
    rw [hp1] at w
    exact lv_isub hx hb hd w
  | imul =>
    simp only [zexec] at h
    have hh := z2_some h
    clear h
    obtain ⟨a, b, r, rfl, h⟩ := hh
    have g := ih _ h
    refine ⟨g.1, g.2.1, fun H locs ls hn0 hs0 hP hz hS hL => ?_⟩
    have w := g.2.2 H locs ls hn0 hs0 hP hz hS hL
    simp only [zck, decide_eq_true_eq] at hc
    obtain ⟨rfl, rfl⟩ := hc
    rw [hp1] at w
    exact lv_imul hx hb hd w
  | iand =>
    simp only [zexec] at h
    have hh := z2_some h
    clear h
    obtain ⟨a, b, r, rfl, h⟩ := hh
    have g := ih _ h
    refine ⟨g.1, g.2.1, fun H locs ls hn0 hs0 hP hz hS hL => ?_⟩
    have w := g.2.2 H locs ls hn0 hs0 hP hz hS hL
    simp only [zck, decide_eq_true_eq] at hc
    obtain ⟨rfl, rfl⟩ := hc
    rw [hp1] at w
    exact lv_iand hx hb hd w
  | ior =>
    simp only [zexec] at h
    have hh := z2_some h
    clear h
    obtain ⟨a, b, r, rfl, h⟩ := hh
    have g := ih _ h
    refine ⟨g.1, g.2.1, fun H locs ls hn0 hs0 hP hz hS hL => ?_⟩
    have w := g.2.2 H locs ls hn0 hs0 hP hz hS hL
    simp only [zck, decide_eq_true_eq] at hc
    obtain ⟨rfl, rfl⟩ := hc
    rw [hp1] at w
    exact lv_ior hx hb hd w
  | ixor =>
    simp only [zexec] at h
    have hh := z2_some h
    clear h
    obtain ⟨a, b, r, rfl, h⟩ := hh
    have g := ih _ h
    refine ⟨g.1, g.2.1, fun H locs ls hn0 hs0 hP hz hS hL => ?_⟩
    have w := g.2.2 H locs ls hn0 hs0 hP hz hS hL
    simp only [zck, decide_eq_true_eq] at hc
    obtain ⟨rfl, rfl⟩ := hc
    rw [hp1] at w
    exact lv_ixor hx hb hd w
  | ishl =>
    simp only [zexec] at h
    have hh := z2_some h
    clear h
    obtain ⟨a, b, r, rfl, h⟩ := hh
    have g := ih _ h
    refine ⟨g.1, g.2.1, fun H locs ls hn0 hs0 hP hz hS hL => ?_⟩
    have w := g.2.2 H locs ls hn0 hs0 hP hz hS hL
    simp only [zck, decide_eq_true_eq] at hc
    obtain ⟨rfl, rfl⟩ := hc
    rw [hp1] at w
    exact lv_ishl hx hb hd w
  | ishr =>
    simp only [zexec] at h
    have hh := z2_some h
    clear h
    obtain ⟨a, b, r, rfl, h⟩ := hh
    have g := ih _ h
    refine ⟨g.1, g.2.1, fun H locs ls hn0 hs0 hP hz hS hL => ?_⟩
    have w := g.2.2 H locs ls hn0 hs0 hP hz hS hL
    simp only [zck, decide_eq_true_eq] at hc
    obtain ⟨rfl, rfl⟩ := hc
    rw [hp1] at w
    exact lv_ishr hx hb hd w
  | iushr =>
    simp only [zexec] at h
    have hh := z2_some h
    clear h
    obtain ⟨a, b, r, rfl, h⟩ := hh
    have g := ih _ h
    refine ⟨g.1, g.2.1, fun H locs ls hn0 hs0 hP hz hS hL => ?_⟩
    have w := g.2.2 H locs ls hn0 hs0 hP hz hS hL
    simp only [zck, decide_eq_true_eq] at hc
    obtain ⟨rfl, rfl⟩ := hc
    rw [hp1] at w
    exact lv_iushr hx hb hd rfl w
  | idiv =>
    simp only [zexec] at h
    have hh := z2_some h
    clear h
    obtain ⟨a, b, r, rfl, h⟩ := hh
    by_cases hz0 : b = 0
    · rw [if_pos hz0] at h; cases h
    · rw [if_neg hz0] at h
      have g := ih _ h
      refine ⟨g.1, g.2.1, fun H locs ls hn0 hs0 hP hz hS hL => ?_⟩
      have w := g.2.2 H locs ls hn0 hs0 hP hz hS hL
      simp only [zck, decide_eq_true_eq] at hc
      obtain ⟨rfl, rfl⟩ := hc
      rw [hp1] at w
      exact lv_idiv hx hb hd hz0 w
  | irem =>
    simp only [zexec] at h
    have hh := z2_some h
    clear h
    obtain ⟨a, b, r, rfl, h⟩ := hh
    by_cases hz0 : b = 0
    · rw [if_pos hz0] at h; cases h
    · rw [if_neg hz0] at h
      have g := ih _ h
      refine ⟨g.1, g.2.1, fun H locs ls hn0 hs0 hP hz hS hL => ?_⟩
      have w := g.2.2 H locs ls hn0 hs0 hP hz hS hL
      simp only [zck, decide_eq_true_eq] at hc
      obtain ⟨rfl, rfl⟩ := hc
      rw [hp1] at w
      exact lv_irem hx hb hd hz0 w
  | fadd =>
    simp only [zexec] at h
    have hh := z2_some h
    clear h
    obtain ⟨a, b, r, rfl, h⟩ := hh
    obtain ⟨hcat, h⟩ := zif_some h
    have g := ih _ h
    have g1 := g.1
    have g2 := g.2.1
    dsimp only at g1 g2
    refine ⟨g.1, g.2.1, fun H locs ls hn0 hs0 hP hz hS hL => ?_⟩
    have w := g.2.2 H locs ls hn0 hs0 hP hz hS hL
    simp only [zck, Bool.and_eq_true, decide_eq_true_eq] at hc
    obtain ⟨⟨rfl, rfl⟩, hw⟩ := hc
    rw [hp1] at w
    exact va_mmax hx hb (hml.trans hL.1.symm) hown (hts _ (zw_in hw)) (hts _ zmath.1) (hts _ zmath.2.2.1) (hts _ zmath.2.2.2.1) (by omega) (by rw [zcat_map]; omega) (by omega) (by omega) hd w
  | fsub =>
    simp only [zexec] at h
    have hh := z2_some h
    clear h
    obtain ⟨a, b, r, rfl, h⟩ := hh
    obtain ⟨hcat, h⟩ := zif_some h
    have g := ih _ h
    have g1 := g.1
    have g2 := g.2.1
    dsimp only at g1 g2
    refine ⟨g.1, g.2.1, fun H locs ls hn0 hs0 hP hz hS hL => ?_⟩
    have w := g.2.2 H locs ls hn0 hs0 hP hz hS hL
    simp only [zck, Bool.and_eq_true, decide_eq_true_eq] at hc
    obtain ⟨⟨rfl, rfl⟩, hw⟩ := hc
    rw [hp1] at w
    exact va_mmin hx hb (hml.trans hL.1.symm) hown (hts _ (zw_in hw)) (hts _ zmath.2.1) (hts _ zmath.2.2.1) (hts _ zmath.2.2.2.2) (by omega) (by rw [zcat_map]; omega) (by omega) (by omega) hd w
  | ineg =>
    simp only [zexec] at h
    have hh := z1_some h
    clear h
    obtain ⟨a, r, rfl, h⟩ := hh
    have g := ih _ h
    refine ⟨g.1, g.2.1, fun H locs ls hn0 hs0 hP hz hS hL => ?_⟩
    have w := g.2.2 H locs ls hn0 hs0 hP hz hS hL
    simp only [zck, decide_eq_true_eq] at hc
    obtain ⟨rfl, rfl⟩ := hc
    rw [hp1] at w
    exact lv_ineg hx hb hd w
  | i2b =>
    simp only [zexec] at h
    have hh := z1_some h
    clear h
    obtain ⟨a, r, rfl, h⟩ := hh
    have g := ih _ h
    refine ⟨g.1, g.2.1, fun H locs ls hn0 hs0 hP hz hS hL => ?_⟩
    have w := g.2.2 H locs ls hn0 hs0 hP hz hS hL
    simp only [zck, decide_eq_true_eq] at hc
    obtain ⟨rfl, rfl⟩ := hc
    rw [hp1] at w
    exact lv_i2b hx hb hd rfl w
  | i2c =>
    simp only [zexec] at h
    have hh := z1_some h
    clear h
    obtain ⟨a, r, rfl, h⟩ := hh
    have g := ih _ h
    refine ⟨g.1, g.2.1, fun H locs ls hn0 hs0 hP hz hS hL => ?_⟩
    have w := g.2.2 H locs ls hn0 hs0 hP hz hS hL
    simp only [zck, decide_eq_true_eq] at hc
    obtain ⟨rfl, rfl⟩ := hc
    rw [hp1] at w
    exact lv_i2c hx hb hd rfl w
  | dup =>
    simp only [zexec] at h
    split at h
    · obtain ⟨hv, h⟩ := zif_some h
      have g := ih _ h
      refine ⟨g.1, g.2.1, fun H locs ls hn0 hs0 hP hz hS hL => ?_⟩
      have w := g.2.2 H locs ls hn0 hs0 hP hz hS hL
      simp only [zck, decide_eq_true_eq] at hc
      obtain ⟨rfl, rfl⟩ := hc
      rw [hp1] at w
      exact lv_dup hx hb hd (by rw [zav_cat]; exact hv) w
    · cases h
  | dup2 =>
    simp only [zexec] at h
    split at h
    · obtain ⟨hv, h⟩ := zif_some h
      obtain ⟨hv2, h⟩ := zif_some h
      have g := ih _ h
      refine ⟨g.1, g.2.1, fun H locs ls hn0 hs0 hP hz hS hL => ?_⟩
      have w := g.2.2 H locs ls hn0 hs0 hP hz hS hL
      simp only [zck, decide_eq_true_eq] at hc
      obtain ⟨rfl, rfl⟩ := hc
      rw [hp1] at w
      exact lv_dup2_11 hx hb hd (by rw [zav_cat]; exact hv) (by rw [zav_cat]; exact hv2) w
    · cases h
  | pop =>
    simp only [zexec] at h
    have hh := zr1_some h
    clear h
    obtain ⟨a, r, rfl, h⟩ := hh
    obtain ⟨hr, h⟩ := zif_some h
    have g := ih _ h
    refine ⟨g.1, g.2.1, fun H locs ls hn0 hs0 hP hz hS hL => ?_⟩
    have w := g.2.2 H locs ls hn0 hs0 hP hz hS hL
    simp only [zck, Bool.and_eq_true, decide_eq_true_eq] at hc
    obtain ⟨⟨⟨⟨rfl, rfl⟩, hw⟩, hw2⟩, hw3⟩ := hc
    rw [hp1] at w
    refine W.objInit hx hb hown (hts _ (zw_in hw)) (hts _ hw2) (hts _ hw3) rfl (hL.1.trans hml.symm) rfl hd (by omega) ?_ w
    have h1 := zcat_map h0 sp r
    show 2 * 0 + ((r.map (zav h0 sp)).map fun v => v.category).sum + 12 ≤ R.locals
    rw [h1]
    omega
  | goto t =>
    simp only [zexec] at h
    have g := ih _ h
    refine ⟨g.1, g.2.1, fun H locs ls hn0 hs0 hP hz hS hL => ?_⟩
    have w := g.2.2 H locs ls hn0 hs0 hP hz hS hL
    simp only [zck] at hc
    split at hc
    · simp only [decide_eq_true_eq] at hc
      obtain ⟨rfl, ht⟩ := hc
      exact lv_goto hx hb hd ht w
    · cases hc
  | if_icmp cn t =>
    cases cn
    · simp only [zexec] at h
      have hh := z2_some h
      clear h
      obtain ⟨xa, yb, r, rfl, h⟩ := hh
      simp only [zck] at hc
      split at hc
      · simp only [decide_eq_true_eq] at hc
        obtain ⟨rfl, rfl, ht⟩ := hc
        by_cases hq : xa = yb
        · rw [if_pos hq] at h
          have g := ih _ h
          refine ⟨g.1, g.2.1, fun H locs ls hn0 hs0 hP hz hS hL => ?_⟩
          have w := g.2.2 H locs ls hn0 hs0 hP hz hS hL
          exact lv_icmp_eq hx hb hd ht (fun _ => w) (fun q => absurd hq q)
        · rw [if_neg hq] at h
          have g := ih _ h
          refine ⟨g.1, g.2.1, fun H locs ls hn0 hs0 hP hz hS hL => ?_⟩
          have w := g.2.2 H locs ls hn0 hs0 hP hz hS hL
          rw [hp1] at w
          exact lv_icmp_eq hx hb hd ht (fun q => absurd q hq) (fun _ => w)
      · cases hc
    · simp only [zexec] at h
      have hh := z2_some h
      clear h
      obtain ⟨xa, yb, r, rfl, h⟩ := hh
      simp only [zck] at hc
      split at hc
      · simp only [decide_eq_true_eq] at hc
        obtain ⟨rfl, rfl, ht⟩ := hc
        by_cases hq : ¬ xa = yb
        · rw [if_pos hq] at h
          have g := ih _ h
          refine ⟨g.1, g.2.1, fun H locs ls hn0 hs0 hP hz hS hL => ?_⟩
          have w := g.2.2 H locs ls hn0 hs0 hP hz hS hL
          exact lv_icmp_ne hx hb hd ht (fun _ => w) (fun q => absurd q hq)
        · rw [if_neg hq] at h
          have g := ih _ h
          refine ⟨g.1, g.2.1, fun H locs ls hn0 hs0 hP hz hS hL => ?_⟩
          have w := g.2.2 H locs ls hn0 hs0 hP hz hS hL
          rw [hp1] at w
          exact lv_icmp_ne hx hb hd ht (fun q => absurd q hq) (fun _ => w)
      · cases hc
    · simp only [zexec] at h
      have hh := z2_some h
      clear h
      obtain ⟨xa, yb, r, rfl, h⟩ := hh
      simp only [zck] at hc
      split at hc
      · simp only [decide_eq_true_eq] at hc
        obtain ⟨rfl, rfl, ht⟩ := hc
        by_cases hq : xa < yb
        · rw [if_pos hq] at h
          have g := ih _ h
          refine ⟨g.1, g.2.1, fun H locs ls hn0 hs0 hP hz hS hL => ?_⟩
          have w := g.2.2 H locs ls hn0 hs0 hP hz hS hL
          exact lv_icmp_lt hx hb hd ht (fun _ => w) (fun q => absurd hq q)
        · rw [if_neg hq] at h
          have g := ih _ h
          refine ⟨g.1, g.2.1, fun H locs ls hn0 hs0 hP hz hS hL => ?_⟩
          have w := g.2.2 H locs ls hn0 hs0 hP hz hS hL
          rw [hp1] at w
          exact lv_icmp_lt hx hb hd ht (fun q => absurd q hq) (fun _ => w)
      · cases hc
    · simp only [zexec] at h
      have hh := z2_some h
      clear h
      obtain ⟨xa, yb, r, rfl, h⟩ := hh
      simp only [zck] at hc
      split at hc
      · simp only [decide_eq_true_eq] at hc
        obtain ⟨rfl, rfl, ht⟩ := hc
        by_cases hq : yb ≤ xa
        · rw [if_pos hq] at h
          have g := ih _ h
          refine ⟨g.1, g.2.1, fun H locs ls hn0 hs0 hP hz hS hL => ?_⟩
          have w := g.2.2 H locs ls hn0 hs0 hP hz hS hL
          exact lv_icmp_ge hx hb hd ht (fun _ => w) (fun q => absurd hq q)
        · rw [if_neg hq] at h
          have g := ih _ h
          refine ⟨g.1, g.2.1, fun H locs ls hn0 hs0 hP hz hS hL => ?_⟩
          have w := g.2.2 H locs ls hn0 hs0 hP hz hS hL
          rw [hp1] at w
          exact lv_icmp_ge hx hb hd ht (fun q => absurd q hq) (fun _ => w)
      · cases hc
    · simp only [zexec] at h
      have hh := z2_some h
      clear h
      obtain ⟨xa, yb, r, rfl, h⟩ := hh
      simp only [zck] at hc
      split at hc
      · simp only [decide_eq_true_eq] at hc
        obtain ⟨rfl, rfl, ht⟩ := hc
        by_cases hq : yb < xa
        · rw [if_pos hq] at h
          have g := ih _ h
          refine ⟨g.1, g.2.1, fun H locs ls hn0 hs0 hP hz hS hL => ?_⟩
          have w := g.2.2 H locs ls hn0 hs0 hP hz hS hL
          exact lv_icmp_gt hx hb hd ht (fun _ => w) (fun q => absurd hq q)
        · rw [if_neg hq] at h
          have g := ih _ h
          refine ⟨g.1, g.2.1, fun H locs ls hn0 hs0 hP hz hS hL => ?_⟩
          have w := g.2.2 H locs ls hn0 hs0 hP hz hS hL
          rw [hp1] at w
          exact lv_icmp_gt hx hb hd ht (fun q => absurd q hq) (fun _ => w)
      · cases hc
    · simp only [zexec] at h
      have hh := z2_some h
      clear h
      obtain ⟨xa, yb, r, rfl, h⟩ := hh
      simp only [zck] at hc
      split at hc
      · simp only [decide_eq_true_eq] at hc
        obtain ⟨rfl, rfl, ht⟩ := hc
        by_cases hq : xa ≤ yb
        · rw [if_pos hq] at h
          have g := ih _ h
          refine ⟨g.1, g.2.1, fun H locs ls hn0 hs0 hP hz hS hL => ?_⟩
          have w := g.2.2 H locs ls hn0 hs0 hP hz hS hL
          exact lv_icmp_le hx hb hd ht (fun _ => w) (fun q => absurd hq q)
        · rw [if_neg hq] at h
          have g := ih _ h
          refine ⟨g.1, g.2.1, fun H locs ls hn0 hs0 hP hz hS hL => ?_⟩
          have w := g.2.2 H locs ls hn0 hs0 hP hz hS hL
          rw [hp1] at w
          exact lv_icmp_le hx hb hd ht (fun q => absurd q hq) (fun _ => w)
      · cases hc
  | ifCond cn t =>
    cases cn
    · simp only [zexec] at h
      have hh := z1_some h
      clear h
      obtain ⟨xa, r, rfl, h⟩ := hh
      simp only [zck] at hc
      split at hc
      · simp only [decide_eq_true_eq] at hc
        obtain ⟨rfl, rfl, ht⟩ := hc
        by_cases hq : xa = 0
        · rw [if_pos hq] at h
          have g := ih _ h
          refine ⟨g.1, g.2.1, fun H locs ls hn0 hs0 hP hz hS hL => ?_⟩
          have w := g.2.2 H locs ls hn0 hs0 hP hz hS hL
          exact lv_if_eq hx hb hd ht (fun _ => w) (fun q => absurd hq q)
        · rw [if_neg hq] at h
          have g := ih _ h
          refine ⟨g.1, g.2.1, fun H locs ls hn0 hs0 hP hz hS hL => ?_⟩
          have w := g.2.2 H locs ls hn0 hs0 hP hz hS hL
          rw [hp1] at w
          exact lv_if_eq hx hb hd ht (fun q => absurd q hq) (fun _ => w)
      · cases hc
    · simp only [zexec] at h
      have hh := z1_some h
      clear h
      obtain ⟨xa, r, rfl, h⟩ := hh
      simp only [zck] at hc
      split at hc
      · simp only [decide_eq_true_eq] at hc
        obtain ⟨rfl, rfl, ht⟩ := hc
        by_cases hq : ¬ xa = 0
        · rw [if_pos hq] at h
          have g := ih _ h
          refine ⟨g.1, g.2.1, fun H locs ls hn0 hs0 hP hz hS hL => ?_⟩
          have w := g.2.2 H locs ls hn0 hs0 hP hz hS hL
          exact lv_if_ne hx hb hd ht (fun _ => w) (fun q => absurd q hq)
        · rw [if_neg hq] at h
          have g := ih _ h
          refine ⟨g.1, g.2.1, fun H locs ls hn0 hs0 hP hz hS hL => ?_⟩
          have w := g.2.2 H locs ls hn0 hs0 hP hz hS hL
          rw [hp1] at w
          exact lv_if_ne hx hb hd ht (fun q => absurd q hq) (fun _ => w)
      · cases hc
    · simp only [zexec] at h
      have hh := z1_some h
      clear h
      obtain ⟨xa, r, rfl, h⟩ := hh
      simp only [zck] at hc
      split at hc
      · simp only [decide_eq_true_eq] at hc
        obtain ⟨rfl, rfl, ht⟩ := hc
        by_cases hq : xa < 0
        · rw [if_pos hq] at h
          have g := ih _ h
          refine ⟨g.1, g.2.1, fun H locs ls hn0 hs0 hP hz hS hL => ?_⟩
          have w := g.2.2 H locs ls hn0 hs0 hP hz hS hL
          exact lv_if_lt hx hb hd ht (fun _ => w) (fun q => absurd hq q)
        · rw [if_neg hq] at h
          have g := ih _ h
          refine ⟨g.1, g.2.1, fun H locs ls hn0 hs0 hP hz hS hL => ?_⟩
          have w := g.2.2 H locs ls hn0 hs0 hP hz hS hL
          rw [hp1] at w
          exact lv_if_lt hx hb hd ht (fun q => absurd q hq) (fun _ => w)
      · cases hc
    · simp only [zexec] at h
      have hh := z1_some h
      clear h
      obtain ⟨xa, r, rfl, h⟩ := hh
      simp only [zck] at hc
      split at hc
      · simp only [decide_eq_true_eq] at hc
        obtain ⟨rfl, rfl, ht⟩ := hc
        by_cases hq : 0 ≤ xa
        · rw [if_pos hq] at h
          have g := ih _ h
          refine ⟨g.1, g.2.1, fun H locs ls hn0 hs0 hP hz hS hL => ?_⟩
          have w := g.2.2 H locs ls hn0 hs0 hP hz hS hL
          exact lv_if_ge hx hb hd ht (fun _ => w) (fun q => absurd hq q)
        · rw [if_neg hq] at h
          have g := ih _ h
          refine ⟨g.1, g.2.1, fun H locs ls hn0 hs0 hP hz hS hL => ?_⟩
          have w := g.2.2 H locs ls hn0 hs0 hP hz hS hL
          rw [hp1] at w
          exact lv_if_ge hx hb hd ht (fun q => absurd q hq) (fun _ => w)
      · cases hc
    · simp only [zexec] at h
      have hh := z1_some h
      clear h
      obtain ⟨xa, r, rfl, h⟩ := hh
      simp only [zck] at hc
      split at hc
      · simp only [decide_eq_true_eq] at hc
        obtain ⟨rfl, rfl, ht⟩ := hc
        by_cases hq : 0 < xa
        · rw [if_pos hq] at h
          have g := ih _ h
          refine ⟨g.1, g.2.1, fun H locs ls hn0 hs0 hP hz hS hL => ?_⟩
          have w := g.2.2 H locs ls hn0 hs0 hP hz hS hL
          exact lv_if_gt hx hb hd ht (fun _ => w) (fun q => absurd hq q)
        · rw [if_neg hq] at h
          have g := ih _ h
          refine ⟨g.1, g.2.1, fun H locs ls hn0 hs0 hP hz hS hL => ?_⟩
          have w := g.2.2 H locs ls hn0 hs0 hP hz hS hL
          rw [hp1] at w
          exact lv_if_gt hx hb hd ht (fun q => absurd q hq) (fun _ => w)
      · cases hc
    · simp only [zexec] at h
      have hh := z1_some h
      clear h
      obtain ⟨xa, r, rfl, h⟩ := hh
      simp only [zck] at hc
      split at hc
      · simp only [decide_eq_true_eq] at hc
        obtain ⟨rfl, rfl, ht⟩ := hc
        by_cases hq : xa ≤ 0
        · rw [if_pos hq] at h
          have g := ih _ h
          refine ⟨g.1, g.2.1, fun H locs ls hn0 hs0 hP hz hS hL => ?_⟩
          have w := g.2.2 H locs ls hn0 hs0 hP hz hS hL
          exact lv_if_le hx hb hd ht (fun _ => w) (fun q => absurd hq q)
        · rw [if_neg hq] at h
          have g := ih _ h
          refine ⟨g.1, g.2.1, fun H locs ls hn0 hs0 hP hz hS hL => ?_⟩
          have w := g.2.2 H locs ls hn0 hs0 hP hz hS hL
          rw [hp1] at w
          exact lv_if_le hx hb hd ht (fun q => absurd q hq) (fun _ => w)
      · cases hc
  | ifnull t =>
    simp only [zexec] at h
    simp only [zck] at hc
    split at hc
    · simp only [decide_eq_true_eq] at hc
      obtain ⟨rfl, ht⟩ := hc
      split at h
      · have g := ih _ h
        refine ⟨g.1, g.2.1, fun H locs ls hn0 hs0 hP hz hS hL => ?_⟩
        have w := g.2.2 H locs ls hn0 hs0 hP hz hS hL
        rw [hp1] at w
        exact lv_ifnull hx hb hd w
      · have g := ih _ h
        refine ⟨g.1, g.2.1, fun H locs ls hn0 hs0 hP hz hS hL => ?_⟩
        have w := g.2.2 H locs ls hn0 hs0 hP hz hS hL
        exact lv_ifnullN hx hb hd ht w
      · cases h
    · cases hc
  | ifnonnull t =>
    simp only [zexec] at h
    simp only [zck] at hc
    split at hc
    · simp only [decide_eq_true_eq] at hc
      obtain ⟨rfl, ht⟩ := hc
      split at h
      · have g := ih _ h
        refine ⟨g.1, g.2.1, fun H locs ls hn0 hs0 hP hz hS hL => ?_⟩
        have w := g.2.2 H locs ls hn0 hs0 hP hz hS hL
        exact lv_ifnonnull hx hb hd ht w
      · have g := ih _ h
        refine ⟨g.1, g.2.1, fun H locs ls hn0 hs0 hP hz hS hL => ?_⟩
        have w := g.2.2 H locs ls hn0 hs0 hP hz hS hL
        rw [hp1] at w
        exact lv_ifnonnullN hx hb hd w
      · cases h
    · cases hc
  | tableswitch df lo hi os =>
    simp only [zexec] at h
    have hh := z1_some h
    clear h
    obtain ⟨v, r, rfl, h⟩ := hh
    simp only [zck] at hc
    split at hc
    · rename_i d' lo' hi' o'
      simp only [Bool.and_eq_true, decide_eq_true_eq] at hc
      obtain ⟨⟨rfl, rfl, ht⟩, hal⟩ := hc
      by_cases hq : v.toInt < lo' ∨ hi' < v.toInt
      · rw [if_pos hq] at h
        have g := ih _ h
        refine ⟨g.1, g.2.1, fun H locs ls hn0 hs0 hP hz hS hL => ?_⟩
        have w := g.2.2 H locs ls hn0 hs0 hP hz hS hL
        exact lv_tableOut hx hb hd hq ht w
      · rw [if_neg hq] at h
        split at h
        · rename_i t hot
          obtain ⟨a, ha, hpa⟩ := zall2_at hal (i := (v.toInt - lo').toNat) (by rw [Array.getElem?_toList]; exact hot)
          rw [Array.getElem?_toList] at ha
          simp only [decide_eq_true_eq] at hpa
          have g := ih _ h
          refine ⟨g.1, g.2.1, fun H locs ls hn0 hs0 hP hz hS hL => ?_⟩
          have w := g.2.2 H locs ls hn0 hs0 hP hz hS hL
          exact lv_tableIn hx hb hd (fun q => hq (Or.inl q)) (fun q => hq (Or.inr q)) ha hpa w
        · cases h
    · cases hc
  | lookupswitch df ps =>
    simp only [zexec] at h
    have hh := z1_some h
    clear h
    obtain ⟨v, r, rfl, h⟩ := hh
    simp only [zck] at hc
    split at hc
    · rename_i d' ps'
      simp only [Bool.and_eq_true, decide_eq_true_eq] at hc
      obtain ⟨⟨ht, hso⟩, hal⟩ := hc
      have g := ih _ h
      refine ⟨g.1, g.2.1, fun H locs ls hn0 hs0 hP hz hS hL => ?_⟩
      have w := g.2.2 H locs ls hn0 hs0 hP hz hS hL
      exact lv_lookup hx hb hd hso rfl (zlook ht v.toInt hal) w
    · cases hc
  | getfield q =>
    simp only [zexec] at h
    have hh := zr1_some h
    clear h
    obtain ⟨a, r, rfl, h⟩ := hh
    obtain ⟨hza, h⟩ := zif_some h
    have hta := za_of hza
    simp only [zck] at hc
    split at hc
    · rename_i C T N hq
      simp only [Bool.and_eq_true, decide_eq_true_eq] at hc
      obtain ⟨⟨rfl, rfl, hj, hfr, hC⟩, hw⟩ := hc
      have g := ih _ h
      refine ⟨g.1, g.2.1, fun H locs ls hn0 hs0 hP hz hS hL => ?_⟩
      have w := g.2.2 H locs ls hn0 hs0 hP hz hS hL
      rw [hp1] at w
      have ha : a < zn M := hP.2.1 a (by rw [hta]; have := zcls_lt hq; omega)
      refine zr_get hx hb hts hown hKK hq hj hC (zw_in hw) hP ha hta hd ?_
      rw [show zfv h0 sp M a (q / 100) (q % 100) = .int (zI M a (q % 100)) by simp [zfv, hfr]]
      exact w
    · cases hc
  | getstatic q =>
    simp only [zexec] at h
    have hh := zr1_some h
    clear h
    obtain ⟨a, r, rfl, h⟩ := hh
    obtain ⟨hza, h⟩ := zif_some h
    have hta := za_of hza
    simp only [zck] at hc
    split at hc
    · rename_i C T N hq
      simp only [Bool.and_eq_true, decide_eq_true_eq] at hc
      obtain ⟨⟨rfl, rfl, hj, hfr, hC⟩, hw⟩ := hc
      have g := ih _ h
      refine ⟨g.1, g.2.1, fun H locs ls hn0 hs0 hP hz hS hL => ?_⟩
      have w := g.2.2 H locs ls hn0 hs0 hP hz hS hL
      rw [hp1] at w
      have ha : a < zn M := hP.2.1 a (by rw [hta]; have := zcls_lt hq; omega)
      refine zr_get hx hb hts hown hKK hq hj hC (zw_in hw) hP ha hta hd ?_
      rw [show zfv h0 sp M a (q / 100) (q % 100) = zav h0 sp (va_rf (zR M a (q % 100))) by simp only [zfv, hfr, if_true]; cases zR M a (q % 100) <;> rfl]
      exact w
    · cases hc
  | putfield q =>
    simp only [zexec] at h
    split at h
    · rename_i x a r
      obtain ⟨hza, h⟩ := zif_some h
      have hta := za_of hza
      simp only [zck] at hc
      split at hc
      · rename_i C T N hq
        simp only [Bool.and_eq_true, decide_eq_true_eq] at hc
        simp only [Bool.or_eq_true, Bool.and_eq_true, decide_eq_true_eq] at hc
        obtain ⟨⟨⟨rfl, rfl, hj, hty, hC⟩, hfin⟩, hw⟩ := hc
        have g := ih _ h
        refine ⟨g.1, g.2.1, fun H locs ls hn0 hs0 hP hz hS hL => ?_⟩
        have w := fun H1 locs1 a1 a2 a3 => g.2.2 H1 locs1 ls hn0 hs0 a1 a2 a3 hL
        rw [hp1] at w
        have hfin' : (T (q % 100)).2.2.2 = false ∨ (meth.name = "<init>" ∧ C = own) := hfin.imp id (fun h => ⟨hini h.1, h.2⟩)
        have ha : a < zn M := hP.2.1 a (by rw [hta]; have := zcls_lt hq; omega)
        refine zr_put (v := (.int x)) hx hb hts hown hKK hq hj hC (zw_in hw) hfin' (by rw [hty]; rfl) (by rw [hty]; rfl) hP hS ha hta hd fun H1 locs1 hob hz1 oq hS1 => ?_
        refine w H1 locs1 (zP_at (a := a) hP rfl (fun _ => rfl) (fun _ => rfl) (fun k hk => zput_I M a _ _ hk) (fun k _ => rfl) oq ⟨fun qq hqq => ?_, fun h1 h2 => ?_⟩) (by rw [hz1]; exact hz) hS1
        · have e1 : qq = (C, T, N) := by
            have : zt (zput M a (q % 100) x) a = q / 100 := hta
            rw [this] at hqq
            exact Option.some.inj (hqq.symm.trans hq)
          subst e1
          rw [show zt (zput M a (q % 100) x) a = q / 100 from hta]
          refine hob _ fun i hi => ?_
          by_cases hij : i = q % 100
          · subst hij
            simp [updV, zfv, zput_Is, upd, zFr, hty]
          · simp [updV, zfv, zput_Is, upd, hij, zput_R]
        · exfalso
          have h3 : zt (zput M a (q % 100) x) a = q / 100 := hta
          have h4 := zcls_lt hq
          dsimp only at h1
          omega
      · cases hc
    · cases h
  | checkcast q =>
    simp only [zexec] at h
    split at h
    · rename_i x a r
      obtain ⟨hza, h⟩ := zif_some h
      obtain ⟨hb01, h⟩ := zif_some h
      have hta := za_of hza
      simp only [zck] at hc
      split at hc
      · rename_i C T N hq
        simp only [Bool.and_eq_true, decide_eq_true_eq] at hc
        simp only [Bool.or_eq_true, Bool.and_eq_true, decide_eq_true_eq] at hc
        obtain ⟨⟨⟨rfl, rfl, hj, hty, hC⟩, hfin⟩, hw⟩ := hc
        have g := ih _ h
        refine ⟨g.1, g.2.1, fun H locs ls hn0 hs0 hP hz hS hL => ?_⟩
        have w := fun H1 locs1 a1 a2 a3 => g.2.2 H1 locs1 ls hn0 hs0 a1 a2 a3 hL
        rw [hp1] at w
        have hfin' : (T (q % 100)).2.2.2 = false ∨ (meth.name = "<init>" ∧ C = own) := hfin.imp id (fun h => ⟨hini h.1, h.2⟩)
        have ha : a < zn M := hP.2.1 a (by rw [hta]; have := zcls_lt hq; omega)
        refine zr_put (v := (.int x)) hx hb hts hown hKK hq hj hC (zw_in hw) hfin' (by rw [hty]; rcases hb01 with rfl | rfl <;> rfl) (by rw [hty]; rcases hb01 with rfl | rfl <;> rfl) hP hS ha hta hd fun H1 locs1 hob hz1 oq hS1 => ?_
        refine w H1 locs1 (zP_at (a := a) hP rfl (fun _ => rfl) (fun _ => rfl) (fun k hk => zput_I M a _ _ hk) (fun k _ => rfl) oq ⟨fun qq hqq => ?_, fun h1 h2 => ?_⟩) (by rw [hz1]; exact hz) hS1
        · have e1 : qq = (C, T, N) := by
            have : zt (zput M a (q % 100) x) a = q / 100 := hta
            rw [this] at hqq
            exact Option.some.inj (hqq.symm.trans hq)
          subst e1
          rw [show zt (zput M a (q % 100) x) a = q / 100 from hta]
          refine hob _ fun i hi => ?_
          by_cases hij : i = q % 100
          · subst hij
            simp [updV, zfv, zput_Is, upd, zFr, hty]
          · simp [updV, zfv, zput_Is, upd, hij, zput_R]
        · exfalso
          have h3 : zt (zput M a (q % 100) x) a = q / 100 := hta
          have h4 := zcls_lt hq
          dsimp only at h1
          omega
      · cases hc
    · cases h
  | putstatic q =>
    simp only [zexec] at h
    split at h
    · rename_i b a r
      obtain ⟨hza, h⟩ := zif_some h
      have hta := za_of hza
      simp only [zck] at hc
      split at hc
      · rename_i C T N hq
        simp only [Bool.and_eq_true, decide_eq_true_eq] at hc
        simp only [Bool.or_eq_true, Bool.and_eq_true, decide_eq_true_eq] at hc
        obtain ⟨⟨⟨rfl, rfl, hj, hfr, hC⟩, hfin⟩, hw⟩ := hc
        have g := ih _ h
        refine ⟨g.1, g.2.1, fun H locs ls hn0 hs0 hP hz hS hL => ?_⟩
        have w := fun H1 locs1 a1 a2 a3 => g.2.2 H1 locs1 ls hn0 hs0 a1 a2 a3 hL
        rw [hp1] at w
        have hfin' : (T (q % 100)).2.2.2 = false ∨ (meth.name = "<init>" ∧ C = own) := hfin.imp id (fun h => ⟨hini h.1, h.2⟩)
        have ha : a < zn M := hP.2.1 a (by rw [hta]; have := zcls_lt hq; omega)
        refine zr_put (v := (.ref (zad h0 sp b))) hx hb hts hown hKK hq hj hC (zw_in hw) hfin' (zfr_narrow hfr _) (zfr_fits hfr _) hP hS ha hta hd fun H1 locs1 hob hz1 oq hS1 => ?_
        refine w H1 locs1 (zP_at (a := a) hP rfl (fun _ => rfl) (fun _ => rfl) (fun k _ => rfl) (fun k hk => zputR_R M a _ _ hk) oq ⟨fun qq hqq => ?_, fun h1 h2 => ?_⟩) (by rw [hz1]; exact hz) hS1
        · have e1 : qq = (C, T, N) := by
            have : zt (zputR M a (q % 100) (some b)) a = q / 100 := hta
            rw [this] at hqq
            exact Option.some.inj (hqq.symm.trans hq)
          subst e1
          rw [show zt (zputR M a (q % 100) (some b)) a = q / 100 from hta]
          refine hob _ fun i hi => ?_
          by_cases hij : i = q % 100
          · subst hij
            simp [updV, zfv, zputR_Rs, va_up, hfr, va_rf]
          · simp [updV, zfv, zputR_Rs, va_up, hij, zputR_I]
        · exfalso
          have h3 : zt (zputR M a (q % 100) (some b)) a = q / 100 := hta
          have h4 := zcls_lt hq
          dsimp only at h1
          omega
      · cases hc
    · cases h
  | iaload =>
    simp only [zexec] at h
    have hh := zir_some h
    clear h
    obtain ⟨a, i, r, rfl, h⟩ := hh
    by_cases hsc : a = 1000000
    · rw [if_pos hsc] at h
      obtain ⟨hzb, h⟩ := zif_some h
      have hi := zb_of hzb
      subst hsc
      have hXX : X' = X := by
        rcases hX with q | q
        · exact absurd (Or.inr (by rw [q]; exact Nat.zero_le _)) hi
        · exact q
      subst hXX
      have g := ih _ h
      refine ⟨g.1, g.2.1, fun H locs ls hn0 hs0 hP hz hS hL => ?_⟩
      have w := g.2.2 H locs ls hn0 hs0 hP hz hS hL
      simp only [zck, decide_eq_true_eq] at hc
      obtain ⟨rfl, rfl⟩ := hc
      rw [hp1] at w
      obtain ⟨-, -, hXs, hsp, -⟩ := hEv
      obtain ⟨scr, g1, -⟩ := id hXs
      exact va_sld hx hb hXs (Array.getElem?_eq_some_iff.mp g1).1 (Nat.not_le.mpr hsp) hS hi hd w
    · rw [if_neg hsc] at h
      obtain ⟨hza, h⟩ := zif_some h
      obtain ⟨hzb, h⟩ := zif_some h
      have hta := za_of hza
      have hi := zb_of hzb
      have g := ih _ h
      refine ⟨g.1, g.2.1, fun H locs ls hn0 hs0 hP hz hS hL => ?_⟩
      have w := g.2.2 H locs ls hn0 hs0 hP hz hS hL
      simp only [zck, decide_eq_true_eq] at hc
      obtain ⟨rfl, rfl⟩ := hc
      rw [hp1] at w
      have ha : a < zn M := hP.2.1 a (by rw [hta]; decide)
      have hcell := zP_cell hP ha hta (by decide) (by decide)
      have hlt : i.toNatClampNeg < zl M a := Nat.not_le.mp fun q => hi (Or.inr q)
      rw [show ((.int i :: .ref a :: r : List Value).map (zav h0 sp)) = .int i :: .ref (h0 + a) :: r.map (zav h0 sp) by simp [zav, zad_lt (zP_lt hP ha)]]
      exact W.iald hx hb hcell ((hKK.2 0 _ rfl).1 _ _) (fun q => by cases q) (by rw [arrV_size]; exact hi) (by rw [arrV_read _ _ hlt]; rfl) rfl rfl hd w
  | baload =>
    simp only [zexec] at h
    have hh := zir_some h
    clear h
    obtain ⟨a, i, r, rfl, h⟩ := hh
    by_cases hsc : a = 1000002
    · rw [if_pos hsc] at h
      obtain ⟨hzb, h⟩ := zif_some h
      have hi := zb_of hzb
      subst hsc
      have g := ih _ h
      refine ⟨g.1, g.2.1, fun H locs ls hn0 hs0 hP hz hS hL => ?_⟩
      have w := g.2.2 H locs ls hn0 hs0 hP hz hS hL
      simp only [zck, decide_eq_true_eq] at hc
      obtain ⟨rfl, rfl⟩ := hc
      rw [hp1] at w
      obtain ⟨-, -, -, -, hSt, -⟩ := hEv
      exact va_tb hx hb (hSt.1 0 (by decide)).2.2.2 hS hi rfl hd w
    · rw [if_neg hsc] at h
      by_cases hza : za M a 101 = true
      · rw [if_pos hza] at h
        obtain ⟨hzb, h⟩ := zif_some h
        have hta := za_of hza
        have hi := zb_of hzb
        have g := ih _ h
        refine ⟨g.1, g.2.1, fun H locs ls hn0 hs0 hP hz hS hL => ?_⟩
        have w := g.2.2 H locs ls hn0 hs0 hP hz hS hL
        simp only [zck, decide_eq_true_eq] at hc
        obtain ⟨rfl, rfl⟩ := hc
        rw [hp1] at w
        have ha : a < zn M := hP.2.1 a (by rw [hta]; decide)
        have hcell := zP_cell hP ha hta (by decide) (by decide)
        have hlt : i.toNatClampNeg < zl M a := Nat.not_le.mp fun q => hi (Or.inr q)
        rw [show ((.int i :: .ref a :: r : List Value).map (zav h0 sp)) = .int i :: .ref (h0 + a) :: r.map (zav h0 sp) by simp [zav, zad_lt (zP_lt hP ha)]]
        exact W.zald hx hb hcell ((hKK.2 1 _ rfl).1 _ _) (fun q => by cases q) (by rw [arrV_size]; exact hi) (by rw [arrV_read _ _ hlt]; rfl) rfl rfl hd w
      · rw [if_neg hza] at h
        obtain ⟨hza, h⟩ := zif_some h
        obtain ⟨hzb, h⟩ := zif_some h
        have hta := za_of hza
        have hi := zb_of hzb
        have g := ih _ h
        refine ⟨g.1, g.2.1, fun H locs ls hn0 hs0 hP hz hS hL => ?_⟩
        have w := g.2.2 H locs ls hn0 hs0 hP hz hS hL
        simp only [zck, decide_eq_true_eq] at hc
        obtain ⟨rfl, rfl⟩ := hc
        rw [hp1] at w
        have ha : a < zn M := hP.2.1 a (by rw [hta]; decide)
        have hcell := zP_cell hP ha hta (by decide) (by decide)
        have hlt : i.toNatClampNeg < zl M a := Nat.not_le.mp fun q => hi (Or.inr q)
        rw [show ((.int i :: .ref a :: r : List Value).map (zav h0 sp)) = .int i :: .ref (h0 + a) :: r.map (zav h0 sp) by simp [zav, zad_lt (zP_lt hP ha)]]
        exact W.bald hx hb hcell ((hKK.2 2 _ rfl).1 _ _) (fun q => by cases q) (by rw [arrV_size]; exact hi) (by rw [arrV_read _ _ hlt]; rfl) rfl rfl hd w
  | aaload =>
    simp only [zexec] at h
    have hh := zir_some h
    clear h
    obtain ⟨a, i, r, rfl, h⟩ := hh
    obtain ⟨hza, h⟩ := zif_some h
    obtain ⟨hzb, h⟩ := zif_some h
    have hta := za_of hza
    have hi := zb_of hzb
    have g := ih _ h
    refine ⟨g.1, g.2.1, fun H locs ls hn0 hs0 hP hz hS hL => ?_⟩
    have w := g.2.2 H locs ls hn0 hs0 hP hz hS hL
    simp only [zck, decide_eq_true_eq] at hc
    obtain ⟨rfl, rfl⟩ := hc
    rw [hp1] at w
    have ha : a < zn M := hP.2.1 a (by rw [hta]; decide)
    have hcell := zP_cell hP ha hta (by decide) (by decide)
    have hlt : i.toNatClampNeg < zl M a := Nat.not_le.mp fun q => hi (Or.inr q)
    rw [show ((.int i :: .ref a :: r : List Value).map (zav h0 sp)) = .int i :: .ref (h0 + a) :: r.map (zav h0 sp) by simp [zav, zad_lt (zP_lt hP ha)]]
    exact W.aald hx hb hcell ((hKK.2 3 _ rfl).1 _ _) rfl (fun q => by cases q) (by rw [arrV_size]; exact hi) (by rw [arrV_read _ _ hlt]; exact congrArg some (show zrow h0 sp M a 103 i.toNatClampNeg = zav h0 sp (va_rf (zR M a i.toNatClampNeg)) by simp only [zrow, if_true]; cases zR M a i.toNatClampNeg <;> rfl)) rfl rfl hd w
  | iastore =>
    simp only [zexec] at h
    have hh := ziir_some h
    clear h
    obtain ⟨a, i, x, r, rfl, h⟩ := hh
    obtain ⟨hza, h⟩ := zif_some h
    obtain ⟨hzb, h⟩ := zif_some h
    have hta := za_of hza
    have hi := zb_of hzb
    have g := ih _ h
    refine ⟨g.1, g.2.1, fun H locs ls hn0 hs0 hP hz hS hL => ?_⟩
    have w := fun H1 locs1 a1 a2 a3 => g.2.2 H1 locs1 ls hn0 hs0 a1 a2 a3 hL
    simp only [zck, decide_eq_true_eq] at hc
    obtain ⟨rfl, rfl⟩ := hc
    rw [hp1] at w
    have ha : a < zn M := hP.2.1 a (by rw [hta]; decide)
    have hcell := zP_cell hP ha hta (by decide) (by decide)
    rw [show ((.int x :: .int i :: .ref a :: r : List Value).map (zav h0 sp)) = .int x :: .int i :: .ref (h0 + a) :: r.map (zav h0 sp) by simp [zav, zad_lt (zP_lt hP ha)]]
    refine W.iast hx hb hcell ((hKK.2 0 _ rfl).1 _ _) (fun q => by cases q) (by rw [arrV_size]; exact hi) rfl rfl hd fun H1 e1 e2 e3 => ?_
    refine w H1 _ (zP_at (a := a) hP rfl (fun _ => rfl) (fun _ => rfl) (fun k hk => zput_I M a _ _ hk) (fun k _ => rfl) e3 ⟨fun qq hqq => ?_, fun h1 h2 => ?_⟩) (by rw [e2]; exact hz) (hS.put e2 e3 (Nat.le_add_right _ _))
    · have h3 : zt (zput M a i.toNatClampNeg x) a = 100 := hta
      have h4 := zcls_lt hqq
      dsimp only at h4
      omega
    · rw [e1, arrV_store]
      rw [show zt (zput M a i.toNatClampNeg x) a = 100 from hta]
      congr 2
      funext q
      by_cases hq : q = i.toNatClampNeg
      · subst hq
        simp [updV, zrow, zput_Is, upd]
      · simp [updV, zrow, zput_Is, upd, hq]
  | bastore =>
    simp only [zexec] at h
    have hh := ziir_some h
    clear h
    obtain ⟨a, i, x, r, rfl, h⟩ := hh
    by_cases hza : za M a 101 = true
    · rw [if_pos hza] at h
      obtain ⟨hzb, h⟩ := zif_some h
      obtain ⟨hb01, h⟩ := zif_some h
      have hnz : narrow .boolean (.int x) = .int x := by rcases hb01 with rfl | rfl <;> rfl
      have hta := za_of hza
      have hi := zb_of hzb
      have g := ih _ h
      refine ⟨g.1, g.2.1, fun H locs ls hn0 hs0 hP hz hS hL => ?_⟩
      have w := fun H1 locs1 a1 a2 a3 => g.2.2 H1 locs1 ls hn0 hs0 a1 a2 a3 hL
      simp only [zck, decide_eq_true_eq] at hc
      obtain ⟨rfl, rfl⟩ := hc
      rw [hp1] at w
      have ha : a < zn M := hP.2.1 a (by rw [hta]; decide)
      have hcell := zP_cell hP ha hta (by decide) (by decide)
      rw [show ((.int x :: .int i :: .ref a :: r : List Value).map (zav h0 sp)) = .int x :: .int i :: .ref (h0 + a) :: r.map (zav h0 sp) by simp [zav, zad_lt (zP_lt hP ha)]]
      refine W.zast hx hb hcell ((hKK.2 1 _ rfl).1 _ _) (fun q => by cases q) (by rw [arrV_size]; exact hi) rfl rfl hd fun H1 e1 e2 e3 => ?_
      refine w H1 _ (zP_at (a := a) hP rfl (fun _ => rfl) (fun _ => rfl) (fun k hk => zput_I M a _ _ hk) (fun k _ => rfl) e3 ⟨fun qq hqq => ?_, fun h1 h2 => ?_⟩) (by rw [e2]; exact hz) (hS.put e2 e3 (Nat.le_add_right _ _))
      · have h3 : zt (zput M a i.toNatClampNeg x) a = 101 := hta
        have h4 := zcls_lt hqq
        dsimp only at h4
        omega
      · rw [e1, arrV_store]
        rw [show zt (zput M a i.toNatClampNeg x) a = 101 from hta]
        congr 2
        funext q
        by_cases hq : q = i.toNatClampNeg
        · subst hq
          simp [updV, zrow, zput_Is, upd, hnz]
        · simp [updV, zrow, zput_Is, upd, hq]
    · rw [if_neg hza] at h
      obtain ⟨hza, h⟩ := zif_some h
      obtain ⟨hzb, h⟩ := zif_some h
      have hta := za_of hza
      have hi := zb_of hzb
      have g := ih _ h
      refine ⟨g.1, g.2.1, fun H locs ls hn0 hs0 hP hz hS hL => ?_⟩
      have w := fun H1 locs1 a1 a2 a3 => g.2.2 H1 locs1 ls hn0 hs0 a1 a2 a3 hL
      simp only [zck, decide_eq_true_eq] at hc
      obtain ⟨rfl, rfl⟩ := hc
      rw [hp1] at w
      have ha : a < zn M := hP.2.1 a (by rw [hta]; decide)
      have hcell := zP_cell hP ha hta (by decide) (by decide)
      rw [show ((.int x :: .int i :: .ref a :: r : List Value).map (zav h0 sp)) = .int x :: .int i :: .ref (h0 + a) :: r.map (zav h0 sp) by simp [zav, zad_lt (zP_lt hP ha)]]
      refine W.bast hx hb hcell ((hKK.2 2 _ rfl).1 _ _) (fun q => by cases q) (by rw [arrV_size]; exact hi) rfl rfl hd fun H1 e1 e2 e3 => ?_
      refine w H1 _ (zP_at (a := a) hP rfl (fun _ => rfl) (fun _ => rfl) (fun k hk => zput_I M a _ _ hk) (fun k _ => rfl) e3 ⟨fun qq hqq => ?_, fun h1 h2 => ?_⟩) (by rw [e2]; exact hz) (hS.put e2 e3 (Nat.le_add_right _ _))
      · have h3 : zt (zput M a i.toNatClampNeg x.toInt8.toInt32) a = 102 := hta
        have h4 := zcls_lt hqq
        dsimp only at h4
        omega
      · rw [e1, arrV_store]
        rw [show zt (zput M a i.toNatClampNeg x.toInt8.toInt32) a = 102 from hta]
        congr 2
        funext q
        by_cases hq : q = i.toNatClampNeg
        · subst hq
          simp [updV, zrow, zput_Is, upd, narrow_byte]
        · simp [updV, zrow, zput_Is, upd, hq]
  | aastore =>
    simp only [zexec] at h
    split at h
    · rename_i v i a r
      obtain ⟨hza, h⟩ := zif_some h
      obtain ⟨hzb, h⟩ := zif_some h
      obtain ⟨hzv, h⟩ := zif_some h
      have hta := za_of hza
      have htv := za_of hzv
      have hi := zb_of hzb
      have g := ih _ h
      refine ⟨g.1, g.2.1, fun H locs ls hn0 hs0 hP hz hS hL => ?_⟩
      have w := fun H1 locs1 a1 a2 a3 => g.2.2 H1 locs1 ls hn0 hs0 a1 a2 a3 hL
      simp only [zck, decide_eq_true_eq] at hc
      obtain ⟨rfl, rfl⟩ := hc
      rw [hp1] at w
      have ha : a < zn M := hP.2.1 a (by rw [hta]; decide)
      have hcell := zP_cell hP ha hta (by decide) (by decide)
      have hv : v < zn M := hP.2.1 v (by rw [htv]; decide)
      have hcv := zP_cell hP hv htv (by decide) (by decide)
      obtain ⟨kA, kI, hkA, hkk, hkI⟩ := hEv.2.1
      rw [show ((.ref v :: .int i :: .ref a :: r : List Value).map (zav h0 sp)) = .ref (h0 + v) :: .int i :: .ref (h0 + a) :: r.map (zav h0 sp) by simp [zav, zad_lt (zP_lt hP ha), zad_lt (zP_lt hP hv)]]
      refine W.aast hx hb hcell (fun q hq => by cases hq) (fun q => by cases q) hkA hkk rfl hkI ⟨fun q => hi (Or.inl q), by rw [arrV_size]; exact Nat.not_le.mp fun q => hi (Or.inr q)⟩ hcv (fun q hq => by cases hq) hkI (va_asg _ _) rfl rfl hd fun H1 e1 e2 e3 => ?_
      refine w H1 _ (zP_at (a := a) hP rfl (fun _ => rfl) (fun _ => rfl) (fun k _ => rfl) (fun k hk => zputR_R M a _ _ hk) e3 ⟨fun qq hqq => ?_, fun h1 h2 => ?_⟩) (by rw [e2]; exact hz) (hS.put e2 e3 (Nat.le_add_right _ _))
      · have h3 : zt (zputR M a i.toNatClampNeg (some v)) a = 103 := hta
        have h4 := zcls_lt hqq
        dsimp only at h4
        omega
      · rw [e1, arrV_store]
        rw [show zt (zputR M a i.toNatClampNeg (some v)) a = 103 from hta]
        congr 2
        funext q
        by_cases hq : q = i.toNatClampNeg
        · subst hq
          simp [updV, zrow, zputR_Rs, va_up, va_rf, zad_lt (zP_lt hP hv)]
        · simp [updV, zrow, zputR_Rs, va_up, hq]
    · cases h
  | arraylength =>
    simp only [zexec] at h
    have hh := zr1_some h
    clear h
    obtain ⟨a, r, rfl, h⟩ := hh
    simp only [zck, decide_eq_true_eq] at hc
    obtain ⟨rfl, rfl⟩ := hc
    by_cases hsc : a = 1000000
    · rw [if_pos hsc] at h
      subst hsc
      obtain ⟨hx1, h⟩ := zif_some h
      have hXX : X' = X := by
        rcases hX with q | q
        · exact absurd q (Nat.pos_iff_ne_zero.mp hx1)
        · exact q
      subst hXX
      have g := ih _ h
      refine ⟨g.1, g.2.1, fun H locs ls hn0 hs0 hP hz hS hL => ?_⟩
      have w := g.2.2 H locs ls hn0 hs0 hP hz hS hL
      rw [hp1] at w
      obtain ⟨-, -, hXs, hsp, -⟩ := hEv
      obtain ⟨scr, g1, -⟩ := id hXs
      exact va_slen hx hb hXs (Array.getElem?_eq_some_iff.mp g1).1 (Nat.not_le.mpr hsp) hS hd w
    · rw [if_neg hsc] at h
      by_cases hsc2 : a = 1000002
      · rw [if_pos hsc2] at h
        subst hsc2
        have g := ih _ h
        refine ⟨g.1, g.2.1, fun H locs ls hn0 hs0 hP hz hS hL => ?_⟩
        have w := g.2.2 H locs ls hn0 hs0 hP hz hS hL
        rw [hp1] at w
        obtain ⟨-, -, -, -, hSt, -⟩ := hEv
        exact va_tlen hx hb (hSt.1 0 (by decide)).2.2.2 hS rfl hd w
      · rw [if_neg hsc2] at h
        obtain ⟨hza, h⟩ := zif_some h
        have hta := za_of hza
        have g := ih _ h
        refine ⟨g.1, g.2.1, fun H locs ls hn0 hs0 hP hz hS hL => ?_⟩
        have w := g.2.2 H locs ls hn0 hs0 hP hz hS hL
        rw [hp1] at w
        have ha : a < zn M := hP.2.1 a (by rw [hta]; decide)
        have hcell := zP_cell hP ha hta (by decide) (by decide)
        rw [show ((.ref a :: r : List Value).map (zav h0 sp)) = .ref (h0 + a) :: r.map (zav h0 sp) by simp [zav, zad_lt (zP_lt hP ha)]]
        exact W.alen (n := Int32.ofNat (zl M a)) hx hb hcell ((hKK.2 0 _ rfl).1 _ _) (by rw [arrV_size] <;> rfl) rfl rfl hd w
  | newarray ty =>
    simp only [zexec] at h
    have hh := z1_some h
    clear h
    obtain ⟨v, r, rfl, h⟩ := hh
    simp only [zck, Bool.and_eq_true, decide_eq_true_eq] at hc
    obtain ⟨⟨rfl, rfl, hty⟩, hw⟩ := hc
    rcases hty with rfl | rfl | rfl
    · obtain ⟨hn, h⟩ := zif_some h
      obtain ⟨hle, h⟩ := zif_some h
      obtain ⟨hm, h⟩ := zif_some h
      have g := ih _ h
      have e9 : zn (znew M 100 v.toNatClampNeg) = zn M + 1 := rfl
      have e8 : zsl (znew M 100 v.toNatClampNeg) = zsl M + v.toNatClampNeg := rfl
      have g1 := g.1
      have g2 := g.2.1
      dsimp only at g1 g2
      rw [show zat .int = 100 from rfl, e9] at g1
      rw [show zat .int = 100 from rfl, e8] at g2
      refine ⟨by omega, by omega, fun H locs ls hn0 hs0 hP hz hS hL => ?_⟩
      have w := fun H1 a1 a2 a3 => g.2.2 H1 locs ls (by show n0 ≤ zn M + 1; omega) (by show s0 ≤ zsl M + _; omega) a1 a2 a3 hL
      rw [hp1] at w
      refine va_newaK hx hb (hts _ (zw_in hw)) rfl hd rfl hn rfl (by show _ * 4 ≤ _; omega) (by omega) (by omega) hz fun H1 cA e1 z1 o1 hAr hNm => ?_
      have hcA : cA = cy 100 := Option.some.inj (hNm.symm.trans (hKK.2 0 _ rfl).2)
      subst hcA
      refine W.cs (cells' := zn (znew M (zat .int) v.toNatClampNeg) - n0) (slots' := zsl (znew M (zat .int) v.toNatClampNeg) - s0) (by show _ = zn M + 1 - n0; omega) (by show _ = zsl M + v.toNatClampNeg - s0; omega) ?_
      have w2 := w H1 (zP_new hm hP o1 ⟨fun qq hqq => ?_, fun h1 h2 => ?_⟩) (by rw [z1]; show _ = h0 + (zn M + 1); omega) ⟨Nat.le_trans hS.1 (by omega), fun x h1 h2 => (o1 x (by have := hS.1; omega)).trans (hS.2.1 x h1 h2), hS.2.2⟩
      · have e7 : ((.ref (zn M) :: r : List Value).map (zav h0 sp)) = .ref (h0 + zn M) :: r.map (zav h0 sp) := by simp [zav, zad_lt hm]
        dsimp only at w2
        rw [e7] at w2
        exact w2
      · rw [znew_t] at hqq
        have h4 := zcls_lt hqq
        exact absurd h4 (by decide)
      · rw [znew_t, znew_l]
        rw [e1]
        congr 2
        funext q
        simp [zrow, znew_I, zat]
        rfl
    · obtain ⟨hn, h⟩ := zif_some h
      obtain ⟨hle, h⟩ := zif_some h
      obtain ⟨hm, h⟩ := zif_some h
      have g := ih _ h
      have e9 : zn (znew M 101 v.toNatClampNeg) = zn M + 1 := rfl
      have e8 : zsl (znew M 101 v.toNatClampNeg) = zsl M + v.toNatClampNeg := rfl
      have g1 := g.1
      have g2 := g.2.1
      dsimp only at g1 g2
      rw [show zat .boolean = 101 from rfl, e9] at g1
      rw [show zat .boolean = 101 from rfl, e8] at g2
      refine ⟨by omega, by omega, fun H locs ls hn0 hs0 hP hz hS hL => ?_⟩
      have w := fun H1 a1 a2 a3 => g.2.2 H1 locs ls (by show n0 ≤ zn M + 1; omega) (by show s0 ≤ zsl M + _; omega) a1 a2 a3 hL
      rw [hp1] at w
      refine va_newaK hx hb (hts _ (zw_in hw)) rfl hd rfl hn rfl (by show _ * 1 ≤ _; omega) (by omega) (by omega) hz fun H1 cA e1 z1 o1 hAr hNm => ?_
      have hcA : cA = cy 101 := Option.some.inj (hNm.symm.trans (hKK.2 1 _ rfl).2)
      subst hcA
      refine W.cs (cells' := zn (znew M (zat .boolean) v.toNatClampNeg) - n0) (slots' := zsl (znew M (zat .boolean) v.toNatClampNeg) - s0) (by show _ = zn M + 1 - n0; omega) (by show _ = zsl M + v.toNatClampNeg - s0; omega) ?_
      have w2 := w H1 (zP_new hm hP o1 ⟨fun qq hqq => ?_, fun h1 h2 => ?_⟩) (by rw [z1]; show _ = h0 + (zn M + 1); omega) ⟨Nat.le_trans hS.1 (by omega), fun x h1 h2 => (o1 x (by have := hS.1; omega)).trans (hS.2.1 x h1 h2), hS.2.2⟩
      · have e7 : ((.ref (zn M) :: r : List Value).map (zav h0 sp)) = .ref (h0 + zn M) :: r.map (zav h0 sp) := by simp [zav, zad_lt hm]
        dsimp only at w2
        rw [e7] at w2
        exact w2
      · rw [znew_t] at hqq
        have h4 := zcls_lt hqq
        exact absurd h4 (by decide)
      · rw [znew_t, znew_l]
        rw [e1]
        congr 2
        funext q
        simp [zrow, znew_I, zat]
        rfl
    · obtain ⟨hn, h⟩ := zif_some h
      obtain ⟨hle, h⟩ := zif_some h
      obtain ⟨hm, h⟩ := zif_some h
      have g := ih _ h
      have e9 : zn (znew M 102 v.toNatClampNeg) = zn M + 1 := rfl
      have e8 : zsl (znew M 102 v.toNatClampNeg) = zsl M + v.toNatClampNeg := rfl
      have g1 := g.1
      have g2 := g.2.1
      dsimp only at g1 g2
      rw [show zat .byte = 102 from rfl, e9] at g1
      rw [show zat .byte = 102 from rfl, e8] at g2
      refine ⟨by omega, by omega, fun H locs ls hn0 hs0 hP hz hS hL => ?_⟩
      have w := fun H1 a1 a2 a3 => g.2.2 H1 locs ls (by show n0 ≤ zn M + 1; omega) (by show s0 ≤ zsl M + _; omega) a1 a2 a3 hL
      rw [hp1] at w
      refine va_newaK hx hb (hts _ (zw_in hw)) rfl hd rfl hn rfl (by show _ * 1 ≤ _; omega) (by omega) (by omega) hz fun H1 cA e1 z1 o1 hAr hNm => ?_
      have hcA : cA = cy 102 := Option.some.inj (hNm.symm.trans (hKK.2 2 _ rfl).2)
      subst hcA
      refine W.cs (cells' := zn (znew M (zat .byte) v.toNatClampNeg) - n0) (slots' := zsl (znew M (zat .byte) v.toNatClampNeg) - s0) (by show _ = zn M + 1 - n0; omega) (by show _ = zsl M + v.toNatClampNeg - s0; omega) ?_
      have w2 := w H1 (zP_new hm hP o1 ⟨fun qq hqq => ?_, fun h1 h2 => ?_⟩) (by rw [z1]; show _ = h0 + (zn M + 1); omega) ⟨Nat.le_trans hS.1 (by omega), fun x h1 h2 => (o1 x (by have := hS.1; omega)).trans (hS.2.1 x h1 h2), hS.2.2⟩
      · have e7 : ((.ref (zn M) :: r : List Value).map (zav h0 sp)) = .ref (h0 + zn M) :: r.map (zav h0 sp) := by simp [zav, zad_lt hm]
        dsimp only at w2
        rw [e7] at w2
        exact w2
      · rw [znew_t] at hqq
        have h4 := zcls_lt hqq
        exact absurd h4 (by decide)
      · rw [znew_t, znew_l]
        rw [e1]
        congr 2
        funext q
        simp [zrow, znew_I, zat]
        rfl
  | anewarray ix =>
    simp only [zexec] at h
    have hh := z1_some h
    clear h
    obtain ⟨v, r, rfl, h⟩ := hh
    simp only [zck, Bool.and_eq_true, decide_eq_true_eq] at hc
    obtain ⟨⟨rfl, rfl⟩, hw⟩ := hc
    obtain ⟨hn, h⟩ := zif_some h
    obtain ⟨hle, h⟩ := zif_some h
    obtain ⟨hm, h⟩ := zif_some h
    have g := ih _ h
    have g1 := g.1
    have g2 := g.2.1
    dsimp only at g1 g2
    rw [show zn (znew M 103 v.toNatClampNeg) = zn M + 1 from rfl] at g1
    rw [show zsl (znew M 103 v.toNatClampNeg) = zsl M + v.toNatClampNeg from rfl] at g2
    refine ⟨by omega, by omega, fun H locs ls hn0 hs0 hP hz hS hL => ?_⟩
    have w := fun H1 a1 a2 a3 => g.2.2 H1 locs ls (by show n0 ≤ zn M + 1; omega) (by show s0 ≤ zsl M + _; omega) a1 a2 a3 hL
    rw [hp1] at w
    refine W.anewA (t := .int) hx hb hown (hts _ (zw_in hw)) hEv.2.2.2.2.2.2.2 rfl hd rfl hn (by omega) (by omega) (by omega) fun cA kA comp f1 f2 f3 f4 => ?_
    have hcA : cA = cy 103 := Option.some.inj (f1.symm.trans (hKK.2 3 _ rfl).2)
    subst hcA
    generalize hH1 : H.push ({ cls := cy 103, slots := Array.replicate v.toNatClampNeg .null, vm := .none } : Cell) = H1
    have z1 : H1.size = H.size + 1 := by rw [← hH1, Array.size_push]
    have e1 : H1[H.size]? = some (arrV (cy 103) v.toNatClampNeg (fun _ => .null)) := by rw [← hH1, Array.getElem?_push_size, ← arrV_new]
    have o1 : ∀ q : Nat, q < H.size → H1[q]? = H[q]? := fun q hq => by rw [← hH1, Array.getElem?_push, if_neg (Nat.ne_of_lt hq)]
    rw [hz] at e1 o1 z1 ⊢
    refine W.cs (cells' := zn (znew M 103 v.toNatClampNeg) - n0) (slots' := zsl (znew M 103 v.toNatClampNeg) - s0) (by show _ = zn M + 1 - n0; omega) (by show _ = zsl M + v.toNatClampNeg - s0; omega) ?_
    have w2 := w H1 (zP_new hm hP o1 ⟨fun qq hqq => ?_, fun h1 h2 => ?_⟩) (by rw [z1]; show _ = h0 + (zn M + 1); omega) ⟨Nat.le_trans hS.1 (by omega), fun x h1 h2 => (o1 x (by have := hS.1; omega)).trans (hS.2.1 x h1 h2), hS.2.2⟩
    · have e7 : ((.ref (zn M) :: r : List Value).map (zav h0 sp)) = .ref (h0 + zn M) :: r.map (zav h0 sp) := by simp [zav, zad_lt hm]
      dsimp only at w2
      rw [e7] at w2
      exact w2
    · rw [znew_t] at hqq
      have h4 := zcls_lt hqq
      exact absurd h4 (by decide)
    · rw [znew_t, znew_l]
      rw [e1]
      congr 2
      funext q
      simp [zrow, znew_R, va_rf]
  | new ci =>
    simp only [zexec] at h
    obtain ⟨hm, h⟩ := zif_some h
    simp only [zck] at hc
    split at hc
    · rename_i C T N hq
      simp only [Bool.and_eq_true, decide_eq_true_eq] at hc
      obtain ⟨⟨⟨⟨rfl, rfl⟩, hw⟩, hw2⟩, hw3⟩ := hc
      have g := ih _ h
      have g1 := g.1
      have g2 := g.2.1
      dsimp only at g1 g2
      have hcN := zcN_of hq
      dsimp only at hcN
      rw [show zn (znew M ci (zcN ci)) = zn M + 1 from rfl] at g1
      rw [show zsl (znew M ci (zcN ci)) = zsl M + zcN ci from rfl, hcN] at g2
      refine ⟨by omega, by omega, fun H locs ls hn0 hs0 hP hz hS hL => ?_⟩
      have w := fun H1 a1 a2 a3 => g.2.2 H1 locs ls (by show n0 ≤ zn M + 1; omega) (by show s0 ≤ zsl M + _; omega) a1 a2 a3 hL
      rw [hp1] at w
      have hKn := hKK.1 _ _ hq
      refine W.newcK hx hb hown (hts _ (zw_in hw)) (hts _ hw2) (hts _ hw3) rfl hd (by omega) (by omega) hKn.2.1 rfl fun H1 kC hkC e1 z1 o1 => ?_
      rw [hz] at e1 o1 z1 ⊢
      refine W.cs (cells' := zn (znew M ci (zcN ci)) - n0) (slots' := zsl (znew M ci (zcN ci)) - s0) (by show _ = zn M + 1 - n0; omega) (by show _ = zsl M + zcN ci - s0; omega) ?_
      have w2 := w H1 (zP_new hm hP o1 ⟨fun qq hqq => ?_, fun h1 h2 => ?_⟩) (by rw [z1]; show _ = h0 + (zn M + 1); omega) ⟨Nat.le_trans hS.1 (by omega), fun x h1 h2 => (o1 x (by have := hS.1; omega)).trans (hS.2.1 x h1 h2), hS.2.2⟩
      · have e7 : ((.ref (zn M) :: st : List Value).map (zav h0 sp)) = .ref (h0 + zn M) :: st.map (zav h0 sp) := by simp [zav, zad_lt hm]
        dsimp only at w2
        rw [e7] at w2
        exact w2
      · rw [znew_t] at hqq ⊢
        have e6 : qq = (C, T, N) := Option.some.inj (hqq.symm.trans hq)
        subst e6
        refine (u_born (zty ci) hts (zcls_in _ _ hq) hKn hkC e1 (zcls_ty _ _ hq)).to fun k hk => ?_
        have h5 := zty_kind _ _ hq k hk
        simp only [zfv, znew_I, znew_R, zFr]
        revert h5
        cases zty ci k <;> simp [zkind, defaultValue, va_rf]
      · rw [znew_t] at h1
        have h4 := zcls_lt hq
        omega
    · cases hc
  | invokestatic q =>
    simp only [zexec] at h
    obtain ⟨hlen, h⟩ := zif_some h
    obtain ⟨hcat, v, M', he, h⟩ := zcall_some h
    simp only [zck, Bool.and_eq_true, decide_eq_true_eq] at hc
    obtain ⟨⟨rfl, rfl, hg, hna, hkd⟩, hw⟩ := hc
    obtain ⟨⟨k1, k2, k3, k4, k5, k6, k7, k8, k9, k10⟩, hF⟩ := hE _ hg
    obtain ⟨m1, m2, hMet⟩ := hF _ _ _ _ he
    have g := ih _ h
    have g1 := g.1
    have g2 := g.2.1
    dsimp only at g1 g2
    refine ⟨Nat.le_trans m1 g1, Nat.le_trans m2 g2, fun H locs ls hn0 hs0 hP hz hS hL => ?_⟩
    have w := fun H1 locs1 a1 a2 a3 => g.2.2 H1 locs1 ls (Nat.le_trans hn0 m1) (Nat.le_trans hs0 m2) a1 a2 a3 hL
    rw [hp1] at w
    have hst : st.map (zav h0 sp) = (((st.take (q % 10)).reverse).map (zav h0 sp)).reverse ++ (st.drop (q % 10)).map (zav h0 sp) := by
      rw [← List.map_reverse, List.reverse_reverse, ← List.map_append, List.take_append_drop]
    rw [hst]
    have cw := va_cwS (own := own) (index := w2) (y := (md (q / 10000)).1) (bytes := (md (q / 10000)).2.1) (maxL := (md (q / 10000)).2.2.1) (ret := (md (q / 10000)).2.2.2.1) (R := R) (s := s) (args := args) (Ts := zTb) (rm := zrm d M M') (mc := zn M' - zn M) (ms := zsl M' - zsl M) (q % 10) hts (zGood (ws := va_wsS own w2 (md (q / 10000)).1 (.code (md (q / 10000)).1 (md (q / 10000)).2.1 (md (q / 10000)).2.2.1 (md (q / 10000)).2.2.2.1 :: zTb)) (fun w' h' => by
        simp only [va_wsS, List.mem_append, List.mem_cons, List.not_mem_nil, or_false] at h'
        rcases h' with (rfl | rfl | rfl) | rfl | h'
        · exact zw_in hw
        · exact k9 hkd
        · exact k2
        · exact k1
        · exact h')) rfl rfl rfl ⟨k4, k5, by rw [k6, hna]⟩ ⟨by show d + 1 ≤ _; omega, by show 8 + (_ + 11) + 60 * d ≤ _; omega⟩
    refine zr_call (r := v) (M' := M') (va_runS (Ts := zTb) ⟨hx, hb, hml, hown, hts⟩ (hMet l D cy h0 sp X) cw ⟨zPc_blind, fun U hU hW => ⟨rfl, by rw [hU]; exact hz, by rw [hU]; exact hP, zEnv_to hEv hS hU hW⟩⟩ rfl (by rw [List.length_map, List.length_reverse, List.length_take]; omega) hL.1 rfl (lv_room (by rw [zcat_map]; exact hcat)) hd ⟨by omega, by omega⟩) hS fun H1 locs1 hP1 hz1 hS1 => ?_
    refine W.cs (cells' := zn M' - n0) (slots' := zsl M' - s0) (by omega) (by omega) ?_
    rw [zro_push]
    exact w H1 locs1 hP1 hz1 hS1
  | invokevirtual q =>
    simp only [zexec] at h
    obtain ⟨a, r, hdr, h⟩ := zr1_some h
    obtain ⟨hrc, h⟩ := zif_some h
    obtain ⟨hcat, v, M', he, h⟩ := zcall_some h
    simp only [zck, Bool.and_eq_true, decide_eq_true_eq] at hc
    obtain ⟨⟨⟨rfl, rfl, hg, hna, hkd⟩, hw⟩, hcl⟩ := hc
    obtain ⟨⟨k1, k2, k3, k4, k5, k6, k7, k8, k9, k10⟩, hF⟩ := hE _ hg
    obtain ⟨m1, m2, hMet⟩ := hF _ _ _ _ he
    have g := ih _ h
    have g1 := g.1
    have g2 := g.2.1
    dsimp only at g1 g2
    refine ⟨Nat.le_trans m1 g1, Nat.le_trans m2 g2, fun H locs ls hn0 hs0 hP hz hS hL => ?_⟩
    have w := fun H1 locs1 a1 a2 a3 => g.2.2 H1 locs1 ls (Nat.le_trans hn0 m1) (Nat.le_trans hs0 m2) a1 a2 a3 hL
    rw [hp1] at w
    have hlen : q % 10 < st.length := by
      rcases Nat.lt_or_ge (q % 10) st.length with z | z
      · exact z
      · rw [List.drop_eq_nil_of_le z] at hdr; cases hdr
    have hst : st.map (zav h0 sp) = (((st.take (q % 10)).reverse).map (zav h0 sp)).reverse ++ .ref (zad h0 sp a) :: r.map (zav h0 sp) := by
      rw [← List.map_reverse, List.reverse_reverse]
      rw [show (Value.ref (zad h0 sp a) :: r.map (zav h0 sp)) = (Value.ref a :: r).map (zav h0 sp) from rfl, ← hdr, ← List.map_append, List.take_append_drop]
    rw [hst]
    have cw := cwV (own := own) (index := w2) (C := (md (q / 10000)).1.cls) (y := (md (q / 10000)).1) (bytes := (md (q / 10000)).2.1) (maxL := (md (q / 10000)).2.2.1) (ret := (md (q / 10000)).2.2.2.1) (R := R) (s := s) (args := args) (Ts := zTb) (rm := zrm d M M') (mc := zn M' - zn M) (ms := zsl M' - zsl M) (q % 10) hts (zGood (ws := wsV own w2 (md (q / 10000)).1.cls (md (q / 10000)).1 (.code (md (q / 10000)).1 (md (q / 10000)).2.1 (md (q / 10000)).2.2.1 (md (q / 10000)).2.2.2.1 :: zTb)) (fun w' h' => by
        simp only [wsV, List.mem_append, List.mem_cons, List.not_mem_nil, or_false] at h'
        rcases h' with (rfl | rfl | rfl | rfl) | rfl | h'
        · exact zw_in hw
        · exact (k8 hkd).1
        · exact (k8 hkd).2
        · exact k2
        · exact k1
        · exact h')) rfl rfl rfl ⟨rfl, k4, k5, by rw [k6, hna]⟩ ⟨by show d + 1 ≤ _; omega, by show 8 + (_ + 11) + 60 * d ≤ _; omega⟩
    have hrecv : ∃ cell : Cell, H[zad h0 sp a]? = some cell ∧ cell.vm.isStatics = false ∧ s.vm.findClass (md (q / 10000)).1.cls = some cell.cls := by
      by_cases h99 : q / 100 % 100 = 99
      · rw [if_pos h99] at hrc hcl
        simp only [decide_eq_true_eq] at hrc hcl
        subst hrc
        rw [hcl]
        obtain ⟨cell, c1, c2, c3, -⟩ := (hEv.2.2.2.2.1.1 0 (by decide)).1.kept hS.2.1
        exact ⟨cell, c1, c2, c3⟩
      · rw [if_neg h99] at hrc hcl
        simp only [decide_eq_true_eq] at hcl
        have hta := za_of hrc
        cases hq : vwCl[q / 100 % 100]? with
        | none => rw [hq] at hcl; cases hcl
        | some cq =>
          rw [hq] at hcl
          have e5 : cq.1 = (md (q / 10000)).1.cls := Option.some.inj hcl
          have ha : a < zn M := hP.2.1 a (by rw [hta]; have := zcls_lt hq; omega)
          obtain ⟨cell, q1, q2, q3, -⟩ := (hP.2.2 a ha).1 cq (by rw [hta]; exact hq)
          rw [hta] at q2
          rw [zad_lt (zP_lt hP ha), ← e5]
          exact ⟨cell, q1, by rw [q3]; rfl, by rw [q2]; exact (hKK.1 _ _ hq).2.1⟩
    refine zr_call (r := v) (M' := M') (va_runV (Ts := zTb) ⟨hx, hb, hml, hown, hts⟩ (hMet l D cy h0 sp X) cw ⟨zPc_blind, hrecv, fun U hU hW => ⟨rfl, by rw [hU]; exact hz, by rw [hU]; exact hP, zEnv_to hEv hS hU hW⟩⟩ rfl (by rw [List.length_map, List.length_reverse, List.length_take]; omega) hL.1 rfl (lv_room (by rw [zcat_map]; exact hcat)) hd ⟨by omega, by omega⟩) hS fun H1 locs1 hP1 hz1 hS1 => ?_
    refine W.cs (cells' := zn M' - n0) (slots' := zsl M' - s0) (by omega) (by omega) ?_
    rw [zro_push]
    exact w H1 locs1 hP1 hz1 hS1
  | invokespecial q =>
    simp only [zexec] at h
    obtain ⟨a, r, hdr, h⟩ := zr1_some h
    obtain ⟨hcat, v, M', he, h⟩ := zcall_some h
    simp only [zck, Bool.and_eq_true, decide_eq_true_eq] at hc
    obtain ⟨⟨rfl, rfl, hg, hna, hkd⟩, hw⟩ := hc
    obtain ⟨⟨k1, k2, k3, k4, k5, k6, k7, k8, k9, k10⟩, hF⟩ := hE _ hg
    obtain ⟨m1, m2, hMet⟩ := hF _ _ _ _ he
    have g := ih _ h
    have g1 := g.1
    have g2 := g.2.1
    dsimp only at g1 g2
    refine ⟨Nat.le_trans m1 g1, Nat.le_trans m2 g2, fun H locs ls hn0 hs0 hP hz hS hL => ?_⟩
    have w := fun H1 locs1 a1 a2 a3 => g.2.2 H1 locs1 ls (Nat.le_trans hn0 m1) (Nat.le_trans hs0 m2) a1 a2 a3 hL
    rw [hp1] at w
    have hlen : q % 10 < st.length := by
      rcases Nat.lt_or_ge (q % 10) st.length with z | z
      · exact z
      · rw [List.drop_eq_nil_of_le z] at hdr; cases hdr
    have hst : st.map (zav h0 sp) = (((st.take (q % 10)).reverse).map (zav h0 sp)).reverse ++ .ref (zad h0 sp a) :: r.map (zav h0 sp) := by
      rw [← List.map_reverse, List.reverse_reverse]
      rw [show (Value.ref (zad h0 sp a) :: r.map (zav h0 sp)) = (Value.ref a :: r).map (zav h0 sp) from rfl, ← hdr, ← List.map_append, List.take_append_drop]
    rw [hst]
    obtain ⟨k10a, k10b, k10c⟩ := k10 hkd
    have cw := cwI (own := own) (index := w2) (y := (md (q / 10000)).1) (bytes := (md (q / 10000)).2.1) (maxL := (md (q / 10000)).2.2.1) (R := R) (s := s) (args := args) (Ts := zTb) (rm := zrm d M M') (mc := zn M' - zn M) (ms := zsl M' - zsl M) (q % 10) hts (zGood (ws := (.code (md (q / 10000)).1 (md (q / 10000)).2.1 (md (q / 10000)).2.2.1 (md (q / 10000)).2.2.2.1 :: zTb)) (fun w' h' => by
        simp only [List.mem_cons] at h'
        rcases h' with rfl | h'
        · exact k1
        · exact h')) (by rw [k10c]) rfl rfl (hts _ k2) (hts _ (zw_in hw)) (hts _ k10a) k10b ⟨k4, k5, by rw [k6, hna]⟩ ⟨by show d + 1 ≤ _; omega, by show 8 + (_ + 11) + 60 * d ≤ _; omega⟩
    refine zr_call (r := v) (M' := M') (va_runI (Ts := zTb) ⟨hx, hb, hml, hown, hts⟩ (hMet l D cy h0 sp X) cw ⟨zPc_blind, fun U hU hW => ⟨rfl, by rw [hU]; exact hz, by rw [hU]; exact hP, zEnv_to hEv hS hU hW⟩⟩ rfl (by rw [List.length_map, List.length_reverse, List.length_take]; omega) hL.1 rfl (lv_room (by rw [zcat_map]; exact hcat)) hd ⟨by omega, by omega⟩) hS fun H1 locs1 hP1 hz1 hS1 => ?_
    refine W.cs (cells' := zn M' - n0) (slots' := zsl M' - s0) (by omega) (by omega) ?_
    rw [zro_push]
    exact w H1 locs1 hP1 hz1 hS1
  | ldc ix =>
    revert h hc
    match ix with
    | 0 =>
      intro h hc
      simp only [zexec] at h
      have g := ih _ h
      refine ⟨g.1, g.2.1, fun H locs ls hn0 hs0 hP hz hS hL => ?_⟩
      have w := g.2.2 H locs ls hn0 hs0 hP hz hS hL
      simp only [zck, decide_eq_true_eq] at hc
      obtain ⟨rfl, rfl, rfl⟩ := hc
      rw [hp1] at w
      exact va_ldcS hx hb hown hEv.2.2.2.2.2.1 hd w
    | 1 =>
      intro h hc
      simp only [zexec] at h
      have hh := zr1_some h
      clear h
      obtain ⟨a, r, rfl, h⟩ := hh
      have hh := zif_some h
      clear h
      obtain ⟨rfl, h⟩ := hh
      have g := ih _ h
      refine ⟨g.1, g.2.1, fun H locs ls hn0 hs0 hP hz hS hL => ?_⟩
      have w := g.2.2 H locs ls hn0 hs0 hP hz hS hL
      simp only [zck, Bool.and_eq_true, decide_eq_true_eq] at hc
      obtain ⟨⟨rfl, rfl⟩, hw⟩ := hc
      rw [hp1] at w
      obtain ⟨cf, k, fi, f, cell, f1, f2, f3, f4, f5, f6⟩ := (hEv.2.2.2.2.1.1 0 (by decide)).2.2.1.kept hS.2.1
      exact W.getf hx hb hown (hts _ (zw_in hw)) f1 f2 f3 f4 f5 rfl rfl hd w
    | 2 =>
      intro h hc
      simp only [zexec] at h
      have hh := zr1_some h
      clear h
      obtain ⟨a, r, rfl, h⟩ := hh
      have hh := zif_some h
      clear h
      obtain ⟨rfl, h⟩ := hh
      have g := ih _ h
      refine ⟨g.1, g.2.1, fun H locs ls hn0 hs0 hP hz hS hL => ?_⟩
      have w := g.2.2 H locs ls hn0 hs0 hP hz hS hL
      simp only [zck, Bool.and_eq_true, decide_eq_true_eq] at hc
      obtain ⟨⟨rfl, rfl⟩, hw⟩ := hc
      rw [hp1] at w
      obtain ⟨cf, k, fi, f, cell, f1, f2, f3, f4, f5, f6⟩ := (hEv.2.2.2.2.1.1 0 (by decide)).2.1.kept hS.2.1
      exact W.getf hx hb hown (hts _ (zw_in hw)) f1 f2 f3 f4 f5 rfl rfl hd w
    | 3 =>
      intro h hc
      simp only [zexec] at h
      have g := ih _ h
      refine ⟨g.1, g.2.1, fun H locs ls hn0 hs0 hP hz hS hL => ?_⟩
      have w := g.2.2 H locs ls hn0 hs0 hP hz hS hL
      simp only [zck, Bool.and_eq_true, decide_eq_true_eq] at hc
      obtain ⟨⟨rfl, rfl⟩, hw⟩ := hc
      rw [hp1] at w
      exact va_gets hx hb hEv.2.2.2.2.2.2.1 hS hown (hts _ (zw_in hw)) (fun _ h => h) hd w
    | k + 4 =>
      intro h hc
      simp [zexec] at h
  | ireturn =>
    simp only [zexec] at h
    split at h
    · simp only [zck, decide_eq_true_eq] at hc
      obtain ⟨rfl, rfl, hr⟩ := hc
      cases h
      exact ⟨Nat.le_refl _, Nat.le_refl _, fun H locs ls hn0 hs0 hP hz hS hL => hRi _ _ H locs ls _ rfl (Or.inl hr) hd hn0 hs0 hP hz hS⟩
    · cases h
  | lreturn =>
    simp only [zexec] at h
    split at h
    · obtain ⟨hv, h⟩ := zif_some h
      simp only [zck, decide_eq_true_eq] at hc
      obtain ⟨rfl, rfl, hr⟩ := hc
      cases h
      exact ⟨Nat.le_refl _, Nat.le_refl _, fun H locs ls hn0 hs0 hP hz hS hL => hRi _ _ H locs ls _ rfl (Or.inr ⟨hr, hv⟩) hd hn0 hs0 hP hz hS⟩
    · cases h
  | areturn =>
    simp only [zexec] at h
    split at h
    · simp only [zck, Bool.and_eq_true, decide_eq_true_eq] at hc
      obtain ⟨⟨rfl, rfl⟩, hr⟩ := hc
      have hr' : ∃ C, ret = some (.object C) := by
        split at hr
        · exact ⟨_, rfl⟩
        · cases hr
      cases h
      exact ⟨Nat.le_refl _, Nat.le_refl _, fun H locs ls hn0 hs0 hP hz hS hL => hRa _ _ H locs ls _ rfl hr' hd hn0 hs0 hP hz hS⟩
    · cases h
  | return_ =>
    simp only [zexec] at h
    split at h
    · simp only [zck, decide_eq_true_eq] at hc
      obtain ⟨rfl, rfl, hr⟩ := hc
      cases h
      exact ⟨Nat.le_refl _, Nat.le_refl _, fun H locs ls hn0 hs0 hP hz hS hL => hRv _ H locs ls _ rfl hr hd hn0 hs0 hP hz hS⟩
    · cases h
  | _ => simp [zexec] at h
