/-! THE TOWN THAT BOTH HOLD, IN PLAIN NUMBERS -/
/-- numbers, rows of numbers, the steps of the fares, what is kept -/
abbrev zSt : Type := (Nat → Nat) × (Nat → Nat → Nat) × (Nat → Int32) × Option (Nat × Nat)
def zSt.V (a : zSt) : Nat := a.1 0
def zSt.P (a : zSt) : Nat := a.1 1
def zSt.S (a : zSt) : Nat := a.1 2
def zSt.W (a : zSt) : Nat := a.1 3
def zSt.X (a : zSt) : Nat := a.1 4
def zSt.T (a : zSt) : Nat := a.1 5
def zSt.E (a : zSt) : Nat := a.1 6
def zSt.Q (a : zSt) : Nat := a.1 7
def zSt.H (a : zSt) : Nat := a.1 8
def zSt.F (a : zSt) : Nat := a.1 9
def zSt.ht (a : zSt) : Nat → Nat := a.2.1 0
def zSt.sa (a : zSt) : Nat → Nat := a.2.1 1
def zSt.sb (a : zSt) : Nat → Nat := a.2.1 2
def zSt.so (a : zSt) : Nat → Nat := a.2.1 3
def zSt.wn (a : zSt) : Nat → Nat := a.2.1 4
def zSt.tb (a : zSt) : Nat → Nat := a.2.1 5
def zSt.ea (a : zSt) : Nat → Nat := a.2.1 6
def zSt.ew (a : zSt) : Nat → Nat := a.2.1 7
def zSt.eo (a : zSt) : Nat → Nat := a.2.1 8
def zSt.pf (a : zSt) : Nat → Nat := a.2.1 9
def zSt.pt (a : zSt) : Nat → Nat := a.2.1 10
def zSt.pc (a : zSt) : Nat → Nat := a.2.1 11
def zSt.tf (a : zSt) : Nat → Nat := a.2.1 12
def zSt.tt (a : zSt) : Nat → Nat := a.2.1 13
def zSt.tw (a : zSt) : Nat → Nat := a.2.1 14
def zSt.fa (a : zSt) : Nat → Nat := a.2.1 15
def zSt.fb (a : zSt) : Nat → Nat := a.2.1 16
def zSt.fs (a : zSt) : Nat → Int32 := a.2.2.1
def zSt.K (a : zSt) : Option (Nat × Nat) := a.2.2.2
def zSt.V' (a : zSt) (v : Nat) : zSt := (fun j => if j = 0 then v else a.1 j, a.2)
def zSt.P' (a : zSt) (v : Nat) : zSt := (fun j => if j = 1 then v else a.1 j, a.2)
def zSt.S' (a : zSt) (v : Nat) : zSt := (fun j => if j = 2 then v else a.1 j, a.2)
def zSt.W' (a : zSt) (v : Nat) : zSt := (fun j => if j = 3 then v else a.1 j, a.2)
def zSt.X' (a : zSt) (v : Nat) : zSt := (fun j => if j = 4 then v else a.1 j, a.2)
def zSt.T' (a : zSt) (v : Nat) : zSt := (fun j => if j = 5 then v else a.1 j, a.2)
def zSt.E' (a : zSt) (v : Nat) : zSt := (fun j => if j = 6 then v else a.1 j, a.2)
def zSt.Q' (a : zSt) (v : Nat) : zSt := (fun j => if j = 7 then v else a.1 j, a.2)
def zSt.H' (a : zSt) (v : Nat) : zSt := (fun j => if j = 8 then v else a.1 j, a.2)
def zSt.F' (a : zSt) (v : Nat) : zSt := (fun j => if j = 9 then v else a.1 j, a.2)
def zSt.ht' (a : zSt) (v : Nat → Nat) : zSt := (a.1, fun j => if j = 0 then v else a.2.1 j, a.2.2)
def zSt.sa' (a : zSt) (v : Nat → Nat) : zSt := (a.1, fun j => if j = 1 then v else a.2.1 j, a.2.2)
def zSt.sb' (a : zSt) (v : Nat → Nat) : zSt := (a.1, fun j => if j = 2 then v else a.2.1 j, a.2.2)
def zSt.so' (a : zSt) (v : Nat → Nat) : zSt := (a.1, fun j => if j = 3 then v else a.2.1 j, a.2.2)
def zSt.wn' (a : zSt) (v : Nat → Nat) : zSt := (a.1, fun j => if j = 4 then v else a.2.1 j, a.2.2)
def zSt.tb' (a : zSt) (v : Nat → Nat) : zSt := (a.1, fun j => if j = 5 then v else a.2.1 j, a.2.2)
def zSt.ea' (a : zSt) (v : Nat → Nat) : zSt := (a.1, fun j => if j = 6 then v else a.2.1 j, a.2.2)
def zSt.ew' (a : zSt) (v : Nat → Nat) : zSt := (a.1, fun j => if j = 7 then v else a.2.1 j, a.2.2)
def zSt.eo' (a : zSt) (v : Nat → Nat) : zSt := (a.1, fun j => if j = 8 then v else a.2.1 j, a.2.2)
def zSt.pf' (a : zSt) (v : Nat → Nat) : zSt := (a.1, fun j => if j = 9 then v else a.2.1 j, a.2.2)
def zSt.pt' (a : zSt) (v : Nat → Nat) : zSt := (a.1, fun j => if j = 10 then v else a.2.1 j, a.2.2)
def zSt.pc' (a : zSt) (v : Nat → Nat) : zSt := (a.1, fun j => if j = 11 then v else a.2.1 j, a.2.2)
def zSt.tf' (a : zSt) (v : Nat → Nat) : zSt := (a.1, fun j => if j = 12 then v else a.2.1 j, a.2.2)
def zSt.tt' (a : zSt) (v : Nat → Nat) : zSt := (a.1, fun j => if j = 13 then v else a.2.1 j, a.2.2)
def zSt.tw' (a : zSt) (v : Nat → Nat) : zSt := (a.1, fun j => if j = 14 then v else a.2.1 j, a.2.2)
def zSt.fa' (a : zSt) (v : Nat → Nat) : zSt := (a.1, fun j => if j = 15 then v else a.2.1 j, a.2.2)
def zSt.fb' (a : zSt) (v : Nat → Nat) : zSt := (a.1, fun j => if j = 16 then v else a.2.1 j, a.2.2)
def zSt.fs' (a : zSt) (v : Nat → Int32) : zSt := (a.1, a.2.1, v, a.2.2.2)
def zSt.K' (a : zSt) (v : Option (Nat × Nat)) : zSt := (a.1, a.2.1, a.2.2.1, v)
/-- a row, one number changed -/
def zup (f : Nat → Nat) (k v : Nat) : Nat → Nat := fun j => if j = k then v else f j
def cTown (P S W : Nat) (ht sa sb so : Nat → Nat) (p q a b w v : Int32) (r2 r4 r5 r6 r59 r60 r61 r62 : Nat → Int32) : Prop :=
  P ≤ 20 ∧ S ≤ 40 ∧ W ≤ 3 ∧ p = nI P ∧ q = nI P ∧ a = nI S ∧ b = nI S ∧ w = nI W ∧ v = nI W ∧
  (∀ j, j < P → ht j ≤ 200 ∧ r2 j = nI (ht j) ∧ r59 j = nI (ht j)) ∧
  ∀ j, j < S → sa j < P ∧ sb j < P ∧ sa j ≠ sb j ∧ so j ≤ 2 ∧ (so j = 1 → ht (sb j) ≤ ht (sa j)) ∧ r4 j = nI (sa j) ∧ r5 j = nI (sb j) ∧ r6 j = nI (so j) ∧ r60 j = nI (sa j) ∧ r61 j = nI (sb j) ∧ r62 j = nI (so j)
def cKept (S : Nat) (K : Option (Nat × Nat)) (a b c d e : Int32) : Prop := match K with
  | none => a = -1 ∧ c = 0
  | some (s, w) => s ≤ S ∧ w ≤ 3 ∧ a = nI s ∧ b = nI w ∧ c = 1 ∧ d = nI s ∧ e = nI w
def cWant (wn : Nat → Nat) (r3 r93 : Nat → Int32) : Prop := ∀ j, j < 20 → wn j ≤ 99 ∧ r3 j = nI (wn j) ∧ r93 j = nI (wn j)
def cErr (P E : Nat) (ea ew eo : Nat → Nat) (a b : Int32) (r43 r44 r45 r81 r82 r83 : Nat → Int32) : Prop :=
  E < 256 ∧ a = nI E ∧ b = nI E ∧ ∀ j, j < 8 → E.testBit j = true → ea j < P ∧ ew j ≤ 12 ∧ eo j ≤ 999 ∧ r43 j = nI (ea j) ∧ r44 j = nI (ew j) ∧ r45 j = nI (eo j) ∧ r81 j = nI (ea j) ∧ r82 j = nI (ew j) ∧ r83 j = nI (eo j)
def cFolk (P Q : Nat) (pf pt pc : Nat → Nat) (a b : Int32) (r21 r22 r23 r85 r86 r87 : Nat → Int32) : Prop :=
  Q ≤ 8 ∧ a = nI Q ∧ b = nI Q ∧ ∀ j, j < Q → pf j < P ∧ pt j < P ∧ pc j ≤ 99 ∧ r21 j = nI (pf j) ∧ r22 j = nI (pt j) ∧ r23 j = nI (pc j) ∧ r85 j = nI (pf j) ∧ r86 j = nI (pt j) ∧ r87 j = nI (pc j)
def cThing (P H : Nat) (tf tt tw : Nat → Nat) (a b : Int32) (r24 r25 r26 r88 r89 r90 : Nat → Int32) : Prop :=
  H < 256 ∧ a = nI H ∧ b = nI H ∧ ∀ j, j < 8 → H.testBit j = true → tf j < P ∧ tt j < P ∧ tw j ≤ 99 ∧ r24 j = nI (tf j) ∧ r25 j = nI (tt j) ∧ r26 j = nI (tw j) ∧ r88 j = nI (tf j) ∧ r89 j = nI (tt j) ∧ r90 j = nI (tw j)
/-- a byte, as the reference keeps it -/
def zby (b : Nat) : Int32 := if b < 128 then nI b else nI b - 256
def cTape (T : Nat) (tb : Nat → Nat) (a b : Int32) (r31 r63 : Nat → Int32) : Prop :=
  T ≤ 200 ∧ a = nI T ∧ b = nI T ∧ ∀ j, j < T → tb j < 256 ∧ r31 j = nI (tb j) ∧ r63 j = zby (tb j)
/-- groups, levels and untrue ones behind so many fares -/
def zfar (fa fb : Nat → Nat) (fs : Nat → Int32) : Nat → (Nat → Nat) × (Nat → Int32) × List Nat
  | 0 => (fun p => p, fun _ => 0, [])
  | n + 1 =>
    let q := zfar fa fb fs n
    if q.1 (fa n) = q.1 (fb n) then (if q.2.1 (fb n) - q.2.1 (fa n) = fs n then q else (q.1, q.2.1, q.2.2 ++ [n]))
    else (fun p => if q.1 p = q.1 (fb n) then q.1 (fa n) else q.1 p, fun p => if q.1 p = q.1 (fb n) then q.2.1 p + (q.2.1 (fa n) + fs n - q.2.1 (fb n)) else q.2.1 p, q.2.2)
def cFare (P F : Nat) (fa fb : Nat → Nat) (fs : Nat → Int32) (a b c : Int32) (r55 r56 r57 r97 r98 r99 : Nat → Int32) : Prop :=
  F ≤ 30 ∧ a = nI F ∧ b = nI F ∧ (∀ j, j < F → fa j < P ∧ fb j < P ∧ r97 j = nI (fa j) ∧ r98 j = nI (fb j) ∧ r99 j = fs j) ∧
  c = nI (zfar fa fb fs F).2.2.length ∧ (∀ p, p < 20 → r55 p = nI ((zfar fa fb fs F).1 p) ∧ r56 p = (zfar fa fb fs F).2.1 p) ∧
  ∀ i v, (zfar fa fb fs F).2.2[i]? = some v → r57 i = nI v
def Rep (st : zSt) (I : Nat → Nat → Int32) : Prop :=
  (st.V ≤ 1000000 ∧ I 1 12 = nI st.V) ∧
  cTown st.P st.S st.W st.ht st.sa st.sb st.so (I 1 10) (I 58 0) (I 1 11) (I 58 1) (I 1 7) (I 58 2) (I 2) (I 4) (I 5) (I 6) (I 59) (I 60) (I 61) (I 62) ∧
  cKept st.S st.K (I 1 8) (I 1 9) (I 58 66) (I 58 67) (I 58 68) ∧
  cWant st.wn (I 3) (I 93) ∧
  cErr st.P st.E st.ea st.ew st.eo (I 42 6) (I 58 37) (I 43) (I 44) (I 45) (I 81) (I 82) (I 83) ∧
  cFolk st.P st.Q st.pf st.pt st.pc (I 20 10) (I 58 42) (I 21) (I 22) (I 23) (I 85) (I 86) (I 87) ∧
  cThing st.P st.H st.tf st.tt st.tw (I 20 11) (I 58 43) (I 24) (I 25) (I 26) (I 88) (I 89) (I 90) ∧
  cTape st.T st.tb (I 30 1) (I 58 9) (I 31) (I 63) ∧
  cFare st.P st.F st.fa st.fb st.fs (I 54 3) (I 58 59) (I 54 4) (I 55) (I 56) (I 57) (I 97) (I 98) (I 99) ∧
  (st.X ≤ 65535 ∧ I 0 10 = nI st.X ∧ I 58 3 = nI st.X)
/-- law and ways stay -/
def zlws (k : Nat) : Prop := (8 ≤ k ∧ k ≤ 14) ∨ (17 ≤ k ∧ k ≤ 18) ∨ (34 ≤ k ∧ k ≤ 40) ∨ (70 ≤ k ∧ k ≤ 74) ∨ 103 ≤ k
def zkeep (I J : Nat → Nat → Int32) : Prop := (∀ k, zlws k → J k = I k) ∧ J 58 18 = I 58 18
theorem zkeep_rfl (I : Nat → Nat → Int32) : zkeep I I := ⟨fun _ _ => rfl, rfl⟩
/-- what ways hang on: another version, or nothing else -/
def zvers (a b : zSt) : Prop := b.V = a.V + 1 ∨ (b.V = a.V ∧ b.P = a.P ∧ b.S = a.S ∧ b.W = a.W ∧ b.ht = a.ht ∧ b.sa = a.sa ∧ b.sb = a.sb ∧ b.so = a.so)
theorem zvers_rfl (a : zSt) : zvers a a := Or.inr ⟨rfl, rfl, rfl, rfl, rfl, rfl, rfl, rfl⟩
/-- both answer alike, and are alike behind it -/
def zPair (s : zQs) (I : Nat → Nat → Int32) (st : zSt) (f g : zM → Option (Value × zM)) : Prop :=
  ∃ v I1 I2 st', f (zMk (s, I)) = some (.int v, zMk (s, I1)) ∧ g (zMk (s, I1)) = some (.int v, zMk (s, I2)) ∧ Rep st' I2 ∧ zkeep I I2 ∧ zvers st st'
theorem zPair_same {s : zQs} {I : Nat → Nat → Int32} {st : zSt} {f g : zM → Option (Value × zM)} (h : Rep st I) {v : Int32} (hf : f (zMk (s, I)) = some (.int v, zMk (s, I))) (hg : g (zMk (s, I)) = some (.int v, zMk (s, I))) : zPair s I st f g :=
  ⟨v, I, I, st, hf, hg, h, zkeep_rfl I, zvers_rfl st⟩
theorem z10 : ((1 : Int32) = 0) = False := eq_false (by decide)
theorem z00 : ((0 : Int32) = 0) = True := eq_true rfl
/-! QUESTIONS THAT ALL CALLS ASK -/
theorem zlt_iff {x : Int32} {P : Nat} (hP : P < 2 ^ 31) : zlt x P ↔ ¬ x < 0 ∧ ¬ nI P ≤ x :=
  ⟨fun h => zlt_nle rfl hP h, fun h => zlt_of rfl hP h.1 h.2⟩
theorem zin_iff {x : Int32} {P : Nat} (hP : P < 2 ^ 31) : zin x P ↔ ¬ x < 0 ∧ ¬ nI P < x :=
  ⟨fun h => zin_nlt rfl hP h, fun h => zin_of rfl hP h.1 h.2⟩
theorem isP1_t {s : zQs} {I : Nat → Nat → Int32} {x : Int32} {P : Nat} (e : I 1 10 = nI P) (hP : P ≤ 20) (h : zlt x P) : zf_97 [.ref 1, .int x] (zMk (s, I)) = some (.int 1, zMk (s, I)) := by
  have h := (zlt_iff (by omega)).mp h
  rw [zl_97, e, if_neg h.1, if_neg h.2]
theorem isP1_f {s : zQs} {I : Nat → Nat → Int32} {x : Int32} {P : Nat} (e : I 1 10 = nI P) (hP : P ≤ 20) (h : ¬ zlt x P) : zf_97 [.ref 1, .int x] (zMk (s, I)) = some (.int 0, zMk (s, I)) := by
  rw [zl_97, e]
  by_cases h0 : x < 0
  · rw [if_pos h0]
  · rw [if_neg h0]
    by_cases h1 : nI P ≤ x
    · rw [if_pos h1]
    · exact absurd ((zlt_iff (by omega)).mpr ⟨h0, h1⟩) h
theorem isP2_t {s : zQs} {I : Nat → Nat → Int32} {x : Int32} {P : Nat} (e : I 58 0 = nI P) (hP : P ≤ 20) (h : zlt x P) : zf_183 [.ref 58, .int x] (zMk (s, I)) = some (.int 1, zMk (s, I)) := by
  have h := (zlt_iff (by omega)).mp h
  rw [zl_183, e, if_neg h.1, if_neg h.2]
theorem isP2_f {s : zQs} {I : Nat → Nat → Int32} {x : Int32} {P : Nat} (e : I 58 0 = nI P) (hP : P ≤ 20) (h : ¬ zlt x P) : zf_183 [.ref 58, .int x] (zMk (s, I)) = some (.int 0, zMk (s, I)) := by
  rw [zl_183, e]
  by_cases h0 : x < 0
  · rw [if_pos h0]
  · rw [if_neg h0]
    by_cases h1 : nI P ≤ x
    · rw [if_pos h1]
    · exact absurd ((zlt_iff (by omega)).mpr ⟨h0, h1⟩) h
theorem wi_t {s : zQs} {I : Nat → Nat → Int32} {x m : Int32} (n : Nat) (e : m = nI n) (hn : n < 2 ^ 31) (h : zin x n) : zf_171 [.int x, .int m] (zMk (s, I)) = some (.int 1, zMk (s, I)) := by
  have h := (zin_iff hn).mp h
  rw [zl_171, e, if_neg h.1, if_neg h.2]
theorem wi_f {s : zQs} {I : Nat → Nat → Int32} {x m : Int32} (n : Nat) (e : m = nI n) (hn : n < 2 ^ 31) (h : ¬ zin x n) : zf_171 [.int x, .int m] (zMk (s, I)) = some (.int 0, zMk (s, I)) := by
  rw [zl_171, e]
  by_cases h0 : x < 0
  · rw [if_pos h0]
  · rw [if_neg h0]
    by_cases h1 : nI n < x
    · rw [if_pos h1]
    · exact absurd ((zin_iff hn).mpr ⟨h0, h1⟩) h
theorem in_t {s : zQs} {I : Nat → Nat → Int32} {x m : Int32} (n : Nat) (e : m = nI n) (hn : n < 2 ^ 31) (h : zin x n) : zf_179 [.int x, .int 0, .int m] (zMk (s, I)) = some (.int 1, zMk (s, I)) := by
  have h := (zin_iff hn).mp h
  rw [zl_179, e, if_neg h.1, if_neg h.2]
theorem in_f {s : zQs} {I : Nat → Nat → Int32} {x m : Int32} (n : Nat) (e : m = nI n) (hn : n < 2 ^ 31) (h : ¬ zin x n) : zf_179 [.int x, .int 0, .int m] (zMk (s, I)) = some (.int 0, zMk (s, I)) := by
  rw [zl_179, e]
  by_cases h0 : x < 0
  · rw [if_pos h0]
  · rw [if_neg h0]
    by_cases h1 : nI n < x
    · rw [if_pos h1]
    · exact absurd ((zin_iff hn).mpr ⟨h0, h1⟩) h
