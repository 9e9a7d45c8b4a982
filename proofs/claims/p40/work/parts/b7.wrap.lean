/-! gift wrapping: from a corner to the next one -/
section WR
variable {n : Nat} {V : Nat → Z2} {T : Z2 → Prop}
/-- a point on an edge's line lies on the edge -/
theorem Hul.onEdge (H : Hul n V T) {k : Nat} {t : Z2} (ht : T t) (z : cr (ed V k) (zs t (V k)) = 0) : 0 ≤ dt (ed V k) (zs t (V k)) ∧ dt (ed V k) (zs t (V k)) ≤ sqE V k ∧ sqE V k * (zs t (V k)).1 = dt (ed V k) (zs t (V k)) * (ed V k).1 ∧ sqE V k * (zs t (V k)).2 = dt (ed V k) (zs t (V k)) * (ed V k).2 := by
  have hn := H.1.1
  have sp := H.1.sq_pos k
  obtain ⟨j, hj⟩ : ∃ j, k + n = j + 1 := ⟨k + n - 1, by omega⟩
  have eV : V (j + 1) = V k := by rw [← hj, H.1.2.1]
  have eE : ed V (j + 1) = ed V k := by rw [← hj, H.1.ed_per]
  have t1 := H.1.turn j
  have t2 := H.1.turn k
  rw [eE] at t1
  have a1 : 0 ≤ cr (ed V j) (zs t (V k)) := by
    have := H.2.2 j t ht
    have e : cr (ed V j) (zs t (V (j + 1))) = cr (ed V j) (zs t (V j)) := by unfold ed cr zs; grind
    rw [eV] at e; omega
  have a2 : 0 ≤ cr (ed V (k + 1)) (zs t (V k)) - cr (ed V (k + 1)) (ed V k) := by
    have := H.2.2 (k + 1) t ht
    have e : cr (ed V (k + 1)) (zs t (V (k + 1))) = cr (ed V (k + 1)) (zs t (V k)) - cr (ed V (k + 1)) (ed V k) := by unfold ed cr zs; grind
    omega
  unfold sqE at *
  generalize zs t (V k) = w at *
  generalize ed V k = e at *
  have q1 : dt e e * cr (ed V j) w = dt e w * cr (ed V j) e + cr e w * dt (ed V j) e := by unfold dt cr; grind
  have q2 : dt e e * cr (ed V (k + 1)) w = dt e w * cr (ed V (k + 1)) e + cr e w * dt (ed V (k + 1)) e := by unfold dt cr; grind
  rw [z, Int.zero_mul, Int.add_zero] at q1 q2
  refine ⟨?_, ?_, ?_, ?_⟩
  · by_cases c : 0 ≤ dt e w
    · exact c
    · have := Int.mul_neg_of_neg_of_pos (show dt e w < 0 by omega) t1
      have := Int.mul_nonneg (Int.le_of_lt sp) a1
      omega
  · by_cases c : dt e w ≤ dt e e
    · exact c
    · exfalso
      have sw := cr_swap e (ed V (k + 1))
      have m1 := Int.mul_le_mul_of_nonneg_left (show cr (ed V (k + 1)) e ≤ cr (ed V (k + 1)) w by omega) (Int.le_of_lt sp)
      have m2 := Int.mul_lt_mul_of_neg_right (show dt e e < dt e w by omega) (show cr (ed V (k + 1)) e < 0 by omega)
      omega
  · have : dt e e * w.1 = dt e w * e.1 - cr e w * e.2 := by unfold dt cr; grind
    rw [this, z]; omega
  · have : dt e e * w.2 = dt e w * e.2 + cr e w * e.1 := by unfold dt cr; grind
    rw [this, z]; omega
/-- a way to measure: it is 0 for no way alone, and along an edge it grows -/
def Msr (ν : Z2 → Int) : Prop := (∀ w, 0 ≤ ν w) ∧ (∀ w, ν w = 0 ↔ w = (0, 0)) ∧ ∀ (a b : Int) (e w : Z2), 0 < a → 0 ≤ b → a * w.1 = b * e.1 → a * w.2 = b * e.2 → a * (a * ν w) = b * (b * ν e) ∨ a * ν w = b * ν e
def abZ (x : Int) : Int := if 0 ≤ x then x else -x
theorem Msr.le {ν : Z2 → Int} (M : Msr ν) {a b : Int} {e w : Z2} (ha : 0 < a) (hb : 0 ≤ b) (hab : b ≤ a) (h1 : a * w.1 = b * e.1) (h2 : a * w.2 = b * e.2) : ν w ≤ ν e ∧ (ν e ≤ ν w → w = e ∨ e = (0, 0)) := by
  have e0 := M.1 e
  have w0 := M.1 w
  by_cases z : ν e = 0
  · have q := (M.2.1 e).mp z
    refine ⟨?_, fun _ => Or.inr q⟩
    rw [q] at h1 h2
    have x1 : w.1 = 0 := (Int.mul_eq_zero.mp (show a * w.1 = 0 by rw [h1]; simp)).resolve_left (by omega)
    have x2 : w.2 = 0 := (Int.mul_eq_zero.mp (show a * w.2 = 0 by rw [h2]; simp)).resolve_left (by omega)
    have : w = (0, 0) := Prod.ext x1 x2
    rw [(M.2.1 w).mpr this]; omega
  · by_cases c : b = a
    · subst c
      have x1 : w.1 = e.1 := Int.eq_of_mul_eq_mul_left (by omega) h1
      have x2 : w.2 = e.2 := Int.eq_of_mul_eq_mul_left (by omega) h2
      have : w = e := Prod.ext x1 x2
      exact ⟨by rw [this]; exact Int.le_refl _, fun _ => Or.inl this⟩
    · have lt : ν w < ν e := by
        rcases M.2.2 a b e w ha hb h1 h2 with m | m
        · have m1 := Int.mul_le_mul_of_nonneg_right hab e0
          have m2 := Int.mul_le_mul_of_nonneg_left m1 hb
          have m3 := Int.mul_lt_mul_of_pos_right (show b < a by omega) (show 0 < a * ν e from Int.mul_pos ha (by omega))
          exact lt_cancel ha (lt_cancel ha (by omega))
        · have m1 := Int.mul_lt_mul_of_pos_right (show b < a by omega) (show 0 < ν e by omega)
          exact lt_cancel ha (by omega)
      exact ⟨by omega, fun q => by omega⟩
/-- what one step of the search does -/
def StW (ν : Z2 → Int) (P : Nat → Z2) (v : Z2) (b i b' : Nat) : Prop := (cr (zs (P b) v) (zs (P i) v) < 0 ∨ cr (zs (P b) v) (zs (P i) v) = 0 ∧ ν (zs (P b) v) < ν (zs (P i) v) → P b' = P i) ∧ (¬ (cr (zs (P b) v) (zs (P i) v) < 0 ∨ cr (zs (P b) v) (zs (P i) v) = 0 ∧ ν (zs (P b) v) < ν (zs (P i) v)) → P b' = P b)
theorem wrap (H : Hul n V T) {ν : Z2 → Int} (M : Msr ν) {P : Nat → Z2} {N : Nat} (hP : ∀ t, T t ↔ ∃ i, i < N ∧ P i = t) {k : Nat} {st : Nat → Nat → Nat} (hs : ∀ b i, i < N → T (P b) → StW ν P (V k) b i (st b i)) {v : Nat} (hv : P v = V k) : P ((List.range N).foldl st v) = V (k + 1) := by
  have fs : ∀ (m : Nat) (x : Nat), (List.range (m + 1)).foldl st x = st ((List.range m).foldl st x) m := fun m x => by
    rw [List.range_succ, List.foldl_append]; rfl
  have inv : ∀ m, m ≤ N → T (P ((List.range m).foldl st v)) ∧ ((∃ i, i < m ∧ P i = V (k + 1)) → P ((List.range m).foldl st v) = V (k + 1)) := fun m => by
    induction m with
    | zero => intro _; exact ⟨by show T (P v); rw [hv]; exact H.2.1 k, fun ⟨i, h, _⟩ => by omega⟩
    | succ m ih =>
      intro hm
      obtain ⟨i1, i2⟩ := ih (by omega)
      rw [fs]
      generalize (List.range m).foldl st v = b at *
      have s := hs b m (by omega) i1
      have tm : T (P m) := (hP _).mpr ⟨m, by omega, rfl⟩
      have ew : zs (V (k + 1)) (V k) = ed V k := rfl
      by_cases c : cr (zs (P b) (V k)) (zs (P m) (V k)) < 0 ∨ cr (zs (P b) (V k)) (zs (P m) (V k)) = 0 ∧ ν (zs (P b) (V k)) < ν (zs (P m) (V k))
      · have e := s.1 c
        refine ⟨by rw [e]; exact tm, fun ⟨i, h1, h2⟩ => ?_⟩
        rw [e]
        by_cases d : i = m
        · subst d; exact h2
        · exfalso
          have pb := i2 ⟨i, by omega, h2⟩
          rw [pb, ew] at c
          have w := H.2.2 k _ tm
          rcases c with c | ⟨c1, c2⟩
          · omega
          · obtain ⟨o1, o2, o3, o4⟩ := H.onEdge tm c1
            have := (M.le (H.1.sq_pos k) o1 o2 o3 o4).1
            omega
      · have e := s.2 c
        refine ⟨by rw [e]; exact i1, fun ⟨i, h1, h2⟩ => ?_⟩
        rw [e]
        by_cases d : i = m
        · subst d
          rw [h2, ew] at c
          have w := H.2.2 k _ i1
          have sw := cr_swap (zs (P b) (V k)) (ed V k)
          have z : cr (ed V k) (zs (P b) (V k)) = 0 := by
            by_cases q : cr (ed V k) (zs (P b) (V k)) = 0
            · exact q
            · exact absurd (Or.inl (by omega)) c
          obtain ⟨o1, o2, o3, o4⟩ := H.onEdge i1 z
          have le : ν (ed V k) ≤ ν (zs (P b) (V k)) := by
            by_cases q : ν (ed V k) ≤ ν (zs (P b) (V k))
            · exact q
            · exact absurd (Or.inr ⟨by omega, by omega⟩) c
          rcases (M.le (H.1.sq_pos k) o1 o2 o3 o4).2 le with q | q
          · have a := congrArg Prod.fst q
            have b := congrArg Prod.snd q
            unfold ed zs at a b
            dsimp only at a b
            exact Prod.ext (by omega) (by omega)
          · exfalso
            have := H.1.sq_pos k
            unfold sqE at this
            rw [q] at this
            exact absurd this (by decide)
        · exact i2 ⟨i, by omega, h2⟩
  obtain ⟨i, hi, e⟩ := (hP _).mp (H.2.1 (k + 1))
  exact (inv N (Nat.le_refl _)).2 ⟨i, hi, e⟩
end WR
