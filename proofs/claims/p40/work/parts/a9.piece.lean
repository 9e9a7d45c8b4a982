/-! a piece as a polygon from its lowest point on -/
theorem Cvx.ne {n : Nat} {f : Nat → Z2} (H : Cvx n f) {e v : Nat} (h1 : e + 1 ≤ v) (h2 : v < e + n) : f v ≠ f e := fun q => by
  have z : zs (f v) (f e) = (0, 0) := by rw [q]; unfold zs; simp
  by_cases c : v = e + 1
  · subst c
    have t := H.turn e
    have : ed f e = (0, 0) := z
    rw [this] at t
    have : cr (0, 0) (ed f (e + 1)) = 0 := by unfold cr; simp
    omega
  · have t := H.2.2 e v (by omega) h2
    rw [z] at t
    have : cr (ed f e) (0, 0) = 0 := by unfold cr; simp
    omega
abbrev lM : Z2 := (1, 1000)
theorem dt_lM (w : Z2) : dt lM w = w.1 + 1000 * w.2 := by unfold dt; dsimp only; omega
theorem zR_b {V : List PT} (h : SmV V) (k : Nat) : (-9 ≤ (zR V k).1 ∧ (zR V k).1 ≤ 9) ∧ -9 ≤ (zR V k).2 ∧ (zR V k).2 ≤ 9 := by
  obtain ⟨a, b, c, d⟩ : B9 (vR V k) := h.get _
  exact ⟨⟨a, b⟩, c, d⟩
