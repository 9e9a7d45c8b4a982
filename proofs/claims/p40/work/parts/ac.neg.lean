/-! the negated piece -/
theorem trP2 (v : PT) : trP 2 v = (-v.1, -v.2) := by
  have e : (2 : Int32).toInt = 2 := rfl
  unfold trP trX
  rw [e]
  simp
theorem neg_b9 {v : PT} (h : B9 v) : B9 (trP 2 v) ∧ zP (trP 2 v) = zs (0, 0) (zP v) := by
  obtain ⟨a, b, c, d⟩ := h
  rw [trP2]
  have e1 : (-v.1).toInt = -v.1.toInt := by
    have := i32_subE (x := 0) (y := v.1) (by decide) (by decide) (by omega) (by omega)
    rw [Int32.zero_sub] at this
    rw [this]; show 0 - v.1.toInt = _; omega
  have e2 : (-v.2).toInt = -v.2.toInt := by
    have := i32_subE (x := 0) (y := v.2) (by decide) (by decide) (by omega) (by omega)
    rw [Int32.zero_sub] at this
    rw [this]; show 0 - v.2.toInt = _; omega
  refine ⟨⟨by dsimp only; omega, by dsimp only; omega, by dsimp only; omega, by dsimp only; omega⟩, ?_⟩
  unfold zP zs
  dsimp only
  rw [e1, e2]
  apply Prod.ext <;> dsimp only <;> omega
theorem neg_sm {V : List PT} (h : SmV V) : SmV (V.map (trP 2)) := fun v hv => by
  obtain ⟨u, hu, rfl⟩ := List.mem_map.mp hv
  exact (neg_b9 (h u hu)).1
theorem neg_zR {V : List PT} (h : SmV V) (k : Nat) (hne : 0 < V.length) : zR (V.map (trP 2)) k = zs (0, 0) (zR V k) := by
  unfold zR vR
  rw [List.length_map, getD_mapq (d := (0, 0)) (Nat.mod_lt _ hne)]
  exact (neg_b9 (h.get _)).2
