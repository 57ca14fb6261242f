theorem zlp265 (s : zQs) : ∀ (d k : Nat) (I : Nat → Nat → Int32), k + d = 20 → ∃ J, zQ_265 (2, [.ref 58, .int (nI k)], [], zMk (s, I)) = zQ_265 (19, [.ref 58, .int 0], [], zMk (s, J)) ∧ (∀ r, r ≠ 100 → r ≠ 101 → J r = I r) ∧ (∀ p, J 101 p = if k ≤ p ∧ p < 20 then nI p else I 101 p) ∧ ∀ p, J 100 p = if k ≤ p ∧ p < 20 then 0 else I 100 p
  | 0, k, I, hk => by
    have hk : k = 20 := by omega
    subst hk
    refine ⟨I, ?_, fun _ _ _ => rfl, fun p => ?_, fun p => ?_⟩
    · rw [zq_265_2, if_pos (by decide)]
    · rw [if_neg (by omega)]
    · rw [if_neg (by omega)]
  | d + 1, k, I, hk => by
    have hk' : k < 20 := by omega
    obtain ⟨J, e, j1, j2, j3⟩ := zlp265 s d (k + 1) (zwA (zwA I 101 (upd (I 101) k (nI k))) 100 (upd (I 100) k 0)) (by omega)
    refine ⟨J, ?_, fun r h1 h2 => ?_, fun p => ?_, fun p => ?_⟩
    · rw [zq_265_2, if_neg (show ¬ 20 ≤ nI k from nI_ge hk' (by decide)), zb_t hk' (by omega), if_pos rfl, if_pos rfl, nI_clamp (show k < 2 ^ 31 by omega), nI_1]
      exact e
    · rw [j1 r h1 h2, zwA_n h1, zwA_n h2]
    · rw [j2 p]
      simp only [zwA_at, upd_at, Nat.reduceEqDiff, if_true, if_false]
      by_cases hp : p = k
      · subst hp
        rw [if_neg (by omega), if_pos rfl, if_pos ⟨Nat.le_refl _, hk'⟩]
      · simp only [if_neg hp, show (k + 1 ≤ p ∧ p < 20) = (k ≤ p ∧ p < 20) from propext ⟨fun w => ⟨by omega, w.2⟩, fun w => ⟨by omega, w.2⟩⟩]
    · rw [j3 p]
      simp only [zwA_at, upd_at, Nat.reduceEqDiff, if_true, if_false]
      by_cases hp : p = k
      · subst hp
        rw [if_neg (by omega), if_pos rfl, if_pos ⟨Nat.le_refl _, hk'⟩]
      · simp only [if_neg hp, show (k + 1 ≤ p ∧ p < 20) = (k ≤ p ∧ p < 20) from propext ⟨fun w => ⟨by omega, w.2⟩, fun w => ⟨by omega, w.2⟩⟩]
/-- a fare that is untrue -/
def zflag (fa fb : Nat → Nat) (fs : Nat → Int32) (m : Nat) : Int32 := if (zfar fa fb fs m).1 (fa m) = (zfar fa fb fs m).1 (fb m) ∧ ¬ (zfar fa fb fs m).2.1 (fa m) + fs m - (zfar fa fb fs m).2.1 (fb m) = 0 then 1 else 0
theorem zfar_1 (fa fb : Nat → Nat) (fs : Nat → Int32) (n p : Nat) : (zfar fa fb fs (n + 1)).1 p = (if (zfar fa fb fs n).1 (fa n) = (zfar fa fb fs n).1 (fb n) then (zfar fa fb fs n).1 p else if (zfar fa fb fs n).1 p = (zfar fa fb fs n).1 (fb n) then (zfar fa fb fs n).1 (fa n) else (zfar fa fb fs n).1 p) := by
  simp only [zfar]
  by_cases hc : (zfar fa fb fs n).1 (fa n) = (zfar fa fb fs n).1 (fb n)
  · rw [if_pos hc, if_pos hc]; split <;> rfl
  · rw [if_neg hc, if_neg hc]
theorem zfar_2 (fa fb : Nat → Nat) (fs : Nat → Int32) (n p : Nat) : (zfar fa fb fs (n + 1)).2.1 p = (if (zfar fa fb fs n).1 (fa n) = (zfar fa fb fs n).1 (fb n) then (zfar fa fb fs n).2.1 p else if (zfar fa fb fs n).1 p = (zfar fa fb fs n).1 (fb n) then (zfar fa fb fs n).2.1 p + ((zfar fa fb fs n).2.1 (fa n) + fs n - (zfar fa fb fs n).2.1 (fb n)) else (zfar fa fb fs n).2.1 p) := by
  simp only [zfar]
  by_cases hc : (zfar fa fb fs n).1 (fa n) = (zfar fa fb fs n).1 (fb n)
  · rw [if_pos hc, if_pos hc]; split <;> rfl
  · rw [if_neg hc, if_neg hc]
theorem zsub_iff (x y z : Int32) : y - x = z ↔ x + z - y = 0 := by
  constructor
  · intro h; subst h; grind
  · intro h; grind
theorem zfar_3 (fa fb : Nat → Nat) (fs : Nat → Int32) (n : Nat) : (zfar fa fb fs (n + 1)).2.2 = (if zflag fa fb fs n = 1 then (zfar fa fb fs n).2.2 ++ [n] else (zfar fa fb fs n).2.2) := by
  simp only [zfar]
  by_cases hc : (zfar fa fb fs n).1 (fa n) = (zfar fa fb fs n).1 (fb n)
  · rw [if_pos hc]
    by_cases hd : (zfar fa fb fs n).2.1 (fb n) - (zfar fa fb fs n).2.1 (fa n) = fs n
    · have hz : ¬ zflag fa fb fs n = 1 := by
        unfold zflag
        rw [if_neg (fun w => w.2 ((zsub_iff _ _ _).mp hd))]
        decide
      rw [if_pos hd, if_neg hz]
    · have hz : zflag fa fb fs n = 1 := by
        unfold zflag
        rw [if_pos ⟨hc, fun w => hd ((zsub_iff _ _ _).mpr w)⟩]
      rw [if_neg hd, if_pos hz]
  · have hz : ¬ zflag fa fb fs n = 1 := by
      unfold zflag
      rw [if_neg (fun w => hc w.1)]
      decide
    rw [if_neg hc, if_neg hz]
theorem zlays (s : zQs) {F : Nat} {fa fb : Nat → Nat} {fs : Nat → Int32} (hF : F ≤ 30) (hb : ∀ j, j < F → fa j < 20 ∧ fb j < 20) : ∀ (d k : Nat) (I : Nat → Nat → Int32), k + d = F → I 58 59 = nI F → (∀ j, j < F → I 97 j = nI (fa j) ∧ I 98 j = nI (fb j) ∧ I 99 j = fs j) →
    (∀ p, p < 20 → I 101 p = nI ((zfar fa fb fs k).1 p) ∧ I 100 p = (zfar fa fb fs k).2.1 p) → (∀ m, m < k → I 102 m = zflag fa fb fs m) →
    ∃ J, zQ_265 (19, [.ref 58, .int (nI k)], [], zMk (s, I)) = some (.long 0, zMk (s, J)) ∧ (∀ r, r ≠ 100 → r ≠ 101 → r ≠ 102 → J r = I r) ∧ (∀ p, p < 20 → J 101 p = nI ((zfar fa fb fs F).1 p) ∧ J 100 p = (zfar fa fb fs F).2.1 p) ∧ ∀ m, m < F → J 102 m = zflag fa fb fs m
  | 0, k, I, hk, e5, _, h1, h2 => by
    have hk : k = F := by omega
    subst hk
    refine ⟨I, ?_, fun _ _ _ _ => rfl, h1, h2⟩
    rw [zq_265_19, e5, if_pos (nI_le (Nat.le_refl _) (by omega))]
  | d + 1, k, I, hk, e5, hr, h1, h2 => by
    have hk' : k < F := by omega
    have hlt := zfar_lt (fs := fs) hb k (by omega)
    obtain ⟨r1, r2, r3⟩ := hr k hk'
    obtain ⟨J, e, j1, j2, j3, j4⟩ := zjoin2 (s := s) (I := I) (i := k) (x := fs k) (by omega) (hb k hk').1 (hb k hk').2 r1 r2 r3 (fun p hp => ⟨hlt p hp, h1 p hp⟩)
    obtain ⟨J', e', k1, k2, k3⟩ := zlays s hF hb d (k + 1) J (by omega) (by rw [j1 58 (by decide) (by decide) (by decide)]; exact e5) (fun j hj => by
      rw [j1 97 (by decide) (by decide) (by decide), j1 98 (by decide) (by decide) (by decide), j1 99 (by decide) (by decide) (by decide)]; exact hr j hj) (fun p hp => by
      rw [zfar_1, zfar_2]; exact j4 p hp) (fun m hm => by
      by_cases hmk : m = k
      · subst hmk; exact j3
      · rw [j2 m hmk]; exact h2 m (by omega))
    refine ⟨J', ?_, fun r a1 a2 a3 => (k1 r a1 a2 a3).trans (j1 r a1 a2 a3), k2, k3⟩
    rw [zq_265_19, e5, if_neg (nI_ge hk' (by omega)), e, zcV_some, zq_265_26, nI_1]
    exact e'
/-- the reference lays all fares -/
theorem zlays0 {s : zQs} {I : Nat → Nat → Int32} {F : Nat} {fa fb : Nat → Nat} {fs : Nat → Int32} (hF : F ≤ 30) (hb : ∀ j, j < F → fa j < 20 ∧ fb j < 20) (e5 : I 58 59 = nI F) (hr : ∀ j, j < F → I 97 j = nI (fa j) ∧ I 98 j = nI (fb j) ∧ I 99 j = fs j) :
    ∃ J, zf_265 [.ref 58] (zMk (s, I)) = some (.long 0, zMk (s, J)) ∧ (∀ r, r ≠ 100 → r ≠ 101 → r ≠ 102 → J r = I r) ∧ (∀ p, p < 20 → J 101 p = nI ((zfar fa fb fs F).1 p) ∧ J 100 p = (zfar fa fb fs F).2.1 p) ∧ ∀ m, m < F → J 102 m = zflag fa fb fs m := by
  obtain ⟨J, e, j1, j2, j3⟩ := zlp265 s 20 0 I rfl
  obtain ⟨J', e', k1, k2, k3⟩ := zlays s hF hb F 0 J (by omega) (by rw [j1 58 (by decide) (by decide)]; exact e5) (fun j hj => by
    rw [j1 97 (by decide) (by decide), j1 98 (by decide) (by decide), j1 99 (by decide) (by decide)]; exact hr j hj) (fun p hp => by
    rw [j2 p, j3 p, if_pos ⟨Nat.zero_le _, hp⟩, if_pos ⟨Nat.zero_le _, hp⟩]; exact ⟨rfl, rfl⟩) (fun m hm => absurd hm (by omega))
  refine ⟨J', ?_, fun r a1 a2 a3 => (k1 r a1 a2 a3).trans (j1 r a1 a2), k2, k3⟩
  rw [zqz_265, zq_265_0]
  rw [show (0 : Int32) = nI 0 from rfl] at e ⊢
  rw [e]
  exact e'
