/-! the two fresh objects hold what is asked, and the walk's start -/
section SA
variable {h : AH} {a : Nat}
theorem poly_new (e0 : h[a]? = some (.inr (5, [aP (some (a + 1)), aP (some (a + 2)), aI 0, aI 0, aI 0, aI 0, aI 0, aI 0]))) (e1 : h[a + 1]? = some (.inl (0, List.replicate 18 0))) (e2 : h[a + 2]? = some (.inl (0, List.replicate 18 0))) : PolyAt h a [] :=
  ⟨0, 0, 0, 0, 0, _, _, e0, ⟨e1, by simp⟩, ⟨e2, by simp⟩, by simp, fun j hj => by simp at hj, fun c => absurd rfl c⟩
theorem shape_new (e0 : h[a]? = some (.inr (6, [aP (some (a + 1)), aP (some (a + 2)), aP (some (a + 3)), aI 0, aI 0, aI 0, aI 0, aI 0, aI 0]))) (e1 : h[a + 1]? = some (.inl (0, List.replicate 4 0))) (e2 : h[a + 2]? = some (.inl (0, List.replicate 18 0))) (e3 : h[a + 3]? = some (.inl (0, List.replicate 18 0))) : ShO h a [] [] := by
  refine ⟨0, 0, 0, 0, _, _, _, e0, ⟨e1, by simp⟩, ⟨e2, by simp⟩, ⟨e3, by simp⟩, by simp, by simp, fun k hk => ?_, fun j hj => by simp at hj, fun c => absurd rfl c⟩
  have : k = 0 := by simpa using hk
  subst this
  rfl
abbrev sv0 : SV := ([1, 1, 1, 1], [], 20, 20, 0)
abbrev rv0 : RV := ([[], [], [], []], [], 20, 20, 0)
theorem state_new (e0 : h[a]? = some (.inr (8, [aP (some 1), aP (some (a + 1)), aP (some (a + 2)), aP (some (a + 3)), aP (some (a + 4)), aI 0, aI 20, aI 20, aI 0]))) (e1 : h[a + 1]? = some (.inr (13, List.replicate 4 (aP (some 1))))) (e2 : h[a + 2]? = some (.inr (13, List.replicate 8 (aP (some 1))))) (e3 : h[a + 3]? = some (.inl (0, List.replicate 8 0))) (e4 : h[a + 4]? = some (.inl (0, List.replicate 8 0))) : StI h a 1 sv0 :=
  ⟨List.replicate 8 1, _, _, ⟨e0, ⟨e1, rfl⟩, ⟨e2, rfl⟩, ⟨e3, by simp⟩, ⟨e4, by simp⟩⟩, Nat.zero_le _, fun q hq => absurd hq (Nat.not_lt_zero _)⟩
def hp0 : AH := planner0 0
def aeB (x y : AE) : Bool := match x, y with
  | .inl p, .inl q => decide (p.1 = q.1) && decide (p.2 = q.2)
  | .inr p, .inr q => decide (p.1 = q.1) && decide (p.2 = q.2)
  | _, _ => false
theorem aeB_eq {x y : AE} (h : aeB x y = true) : x = y := by
  unfold aeB at h
  cases x with
  | inl p =>
    cases y with
    | inl q =>
      dsimp only at h
      rw [Bool.and_eq_true] at h
      rw [Prod.ext (of_decide_eq_true h.1) (of_decide_eq_true h.2)]
    | inr q => exact absurd h (by simp)
  | inr p =>
    cases y with
    | inl q => exact absurd h (by simp)
    | inr q =>
      dsimp only at h
      rw [Bool.and_eq_true] at h
      rw [Prod.ext (of_decide_eq_true h.1) (of_decide_eq_true h.2)]
def atC (i : Nat) (y : AE) : Bool := match hp0[i]? with
  | some x => aeB x y
  | none => false
theorem atC_eq {i : Nat} {y : AE} (h : atC i y = true) : hp0[i]? = some y := by
  unfold atC at h
  cases e : hp0[i]? with
  | none => rw [e] at h; exact absurd h (by simp)
  | some x => rw [e] at h; rw [aeB_eq h]
theorem hp0_polyB : ∀ a, a ∈ [12, 20, 23, 26, 31 + 1, 31 + 4, 31 + 7, 42, 304] → atC (a) (.inr (5, [aP (some (a + 1)), aP (some (a + 2)), aI 0, aI 0, aI 0, aI 0, aI 0, aI 0])) = true ∧ atC (a + 1) (.inl (0, List.replicate 18 0)) = true ∧ atC (a + 2) (.inl (0, List.replicate 18 0)) = true := by decide +kernel
theorem hp0_poly : ∀ a, a ∈ [12, 20, 23, 26, 31 + 1, 31 + 4, 31 + 7, 42, 304] → hp0[a]? = some (.inr (5, [aP (some (a + 1)), aP (some (a + 2)), aI 0, aI 0, aI 0, aI 0, aI 0, aI 0])) ∧ hp0[a + 1]? = some (.inl (0, List.replicate 18 0)) ∧ hp0[a + 2]? = some (.inl (0, List.replicate 18 0)) := by
  have h := hp0_polyB
  exact fun a ha => ⟨atC_eq (h a ha).1, atC_eq (h a ha).2.1, atC_eq (h a ha).2.2⟩
theorem hp0_obstB : ∀ j, j < 72 → atC (46 + 3 * j) (.inr (5, [aP (some (46 + 3 * j + 1)), aP (some (46 + 3 * j + 2)), aI 0, aI 0, aI 0, aI 0, aI 0, aI 0])) = true ∧ atC (46 + 3 * j + 1) (.inl (0, List.replicate 18 0)) = true ∧ atC (46 + 3 * j + 2) (.inl (0, List.replicate 18 0)) = true := by decide +kernel
theorem hp0_obst : ∀ j, j < 72 → hp0[46 + 3 * j]? = some (.inr (5, [aP (some (46 + 3 * j + 1)), aP (some (46 + 3 * j + 2)), aI 0, aI 0, aI 0, aI 0, aI 0, aI 0])) ∧ hp0[46 + 3 * j + 1]? = some (.inl (0, List.replicate 18 0)) ∧ hp0[46 + 3 * j + 2]? = some (.inl (0, List.replicate 18 0)) := by
  have h := hp0_obstB
  exact fun a ha => ⟨atC_eq (h a ha).1, atC_eq (h a ha).2.1, atC_eq (h a ha).2.2⟩
theorem hp0_shapeB : ∀ a, a ∈ [1, 8, 307] → atC (a) (.inr (6, [aP (some (a + 1)), aP (some (a + 2)), aP (some (a + 3)), aI 0, aI 0, aI 0, aI 0, aI 0, aI 0])) = true ∧ atC (a + 1) (.inl (0, List.replicate 4 0)) = true ∧ atC (a + 2) (.inl (0, List.replicate 18 0)) = true ∧ atC (a + 3) (.inl (0, List.replicate 18 0)) = true := by decide +kernel
theorem hp0_shape : ∀ a, a ∈ [1, 8, 307] → hp0[a]? = some (.inr (6, [aP (some (a + 1)), aP (some (a + 2)), aP (some (a + 3)), aI 0, aI 0, aI 0, aI 0, aI 0, aI 0])) ∧ hp0[a + 1]? = some (.inl (0, List.replicate 4 0)) ∧ hp0[a + 2]? = some (.inl (0, List.replicate 18 0)) ∧ hp0[a + 3]? = some (.inl (0, List.replicate 18 0)) := by
  have h := hp0_shapeB
  exact fun a ha => ⟨atC_eq (h a ha).1, atC_eq (h a ha).2.1, atC_eq (h a ha).2.2.1, atC_eq (h a ha).2.2.2⟩
theorem hp0_stateB : ∀ a, a ∈ [262, 267, 274, 279, 284, 289, 294, 299] → atC (a) (.inr (8, [aP (some 1), aP (some (a + 1)), aP (some (a + 2)), aP (some (a + 3)), aP (some (a + 4)), aI 0, aI 20, aI 20, aI 0])) = true ∧ atC (a + 1) (.inr (13, List.replicate 4 (aP (some 1)))) = true ∧ atC (a + 2) (.inr (13, List.replicate 8 (aP (some 1)))) = true ∧ atC (a + 3) (.inl (0, List.replicate 8 0)) = true ∧ atC (a + 4) (.inl (0, List.replicate 8 0)) = true := by decide +kernel
theorem hp0_state : ∀ a, a ∈ [262, 267, 274, 279, 284, 289, 294, 299] → hp0[a]? = some (.inr (8, [aP (some 1), aP (some (a + 1)), aP (some (a + 2)), aP (some (a + 3)), aP (some (a + 4)), aI 0, aI 20, aI 20, aI 0])) ∧ hp0[a + 1]? = some (.inr (13, List.replicate 4 (aP (some 1)))) ∧ hp0[a + 2]? = some (.inr (13, List.replicate 8 (aP (some 1)))) ∧ hp0[a + 3]? = some (.inl (0, List.replicate 8 0)) ∧ hp0[a + 4]? = some (.inl (0, List.replicate 8 0)) := by
  have h := hp0_stateB
  exact fun a ha => ⟨atC_eq (h a ha).1, atC_eq (h a ha).2.1, atC_eq (h a ha).2.2.1, atC_eq (h a ha).2.2.2.1, atC_eq (h a ha).2.2.2.2⟩
theorem hp0_restB : (atC (0) obj10 = true ∧ atC (5) (.inr (9, [aP (some 6), aI 0, aI 0, aI 0])) = true ∧ atC (6) (.inl (0, List.replicate 150 0)) = true ∧ atC (7) (.inr (7, [aP (some 8), aP (some 12)])) = true) ∧ (atC (15) (.inr (2, [aP (some 16), aP (some 17), aP (some 18), aI 0])) = true ∧ atC (16) (.inl (0, List.replicate 8 0)) = true ∧ atC (17) (.inl (0, List.replicate 8 0)) = true ∧ atC (18) (.inl (0, List.replicate 8 0)) = true) ∧ (atC (19) (.inr (3, [aP (some 20), aP (some 23), aP (some 26), aP (some 29)])) = true ∧ atC (29) (.inr (0, [aJ 0, aJ 0])) = true ∧ atC (31) (.inr (3, [aP (some 32), aP (some 35), aP (some 38), aP (some 41)])) = true ∧ atC (41) (.inr (0, [aJ 0, aJ 0])) = true) ∧ (atC (30) (.inr (4, [aP (some 31), aP (some 42), aP (some 45), aI 0, aI 0, aI 0, aI 0, aI 0, aI 0, aI 0])) = true ∧ atC (45) (.inr (12, obR 30)) = true) ∧ (atC (272) (.inr (1, [aP (some 273), aI 0])) = true ∧ atC (273) (.inr (14, rfs [274, 279, 284, 289, 294, 299])) = true) ∧ atC (311) (.inr (0, [aJ 0, aJ 0])) = true ∧ atC (312) (.inl (0, List.replicate 8 0)) = true := by decide +kernel
theorem hp0_rest : (hp0[0]? = some obj10 ∧ hp0[5]? = some (.inr (9, [aP (some 6), aI 0, aI 0, aI 0])) ∧ hp0[6]? = some (.inl (0, List.replicate 150 0)) ∧ hp0[7]? = some (.inr (7, [aP (some 8), aP (some 12)]))) ∧ (hp0[15]? = some (.inr (2, [aP (some 16), aP (some 17), aP (some 18), aI 0])) ∧ hp0[16]? = some (.inl (0, List.replicate 8 0)) ∧ hp0[17]? = some (.inl (0, List.replicate 8 0)) ∧ hp0[18]? = some (.inl (0, List.replicate 8 0))) ∧ (hp0[19]? = some (.inr (3, [aP (some 20), aP (some 23), aP (some 26), aP (some 29)])) ∧ hp0[29]? = some (.inr (0, [aJ 0, aJ 0])) ∧ hp0[31]? = some (.inr (3, [aP (some 32), aP (some 35), aP (some 38), aP (some 41)])) ∧ hp0[41]? = some (.inr (0, [aJ 0, aJ 0]))) ∧ (hp0[30]? = some (.inr (4, [aP (some 31), aP (some 42), aP (some 45), aI 0, aI 0, aI 0, aI 0, aI 0, aI 0, aI 0])) ∧ hp0[45]? = some (.inr (12, obR 30))) ∧ (hp0[272]? = some (.inr (1, [aP (some 273), aI 0])) ∧ hp0[273]? = some (.inr (14, rfs [274, 279, 284, 289, 294, 299]))) ∧ hp0[311]? = some (.inr (0, [aJ 0, aJ 0])) ∧ hp0[312]? = some (.inl (0, List.replicate 8 0)) := by
  have h := hp0_restB
  obtain ⟨⟨a1, a2, a3, a4⟩, ⟨b1, b2, b3, b4⟩, ⟨c1, c2, c3, c4⟩, ⟨d1, d2⟩, ⟨e1, e2⟩, f1, f2⟩ := h
  exact ⟨⟨atC_eq a1, atC_eq a2, atC_eq a3, atC_eq a4⟩, ⟨atC_eq b1, atC_eq b2, atC_eq b3, atC_eq b4⟩, ⟨atC_eq c1, atC_eq c2, atC_eq c3, atC_eq c4⟩, ⟨atC_eq d1, atC_eq d2⟩, ⟨atC_eq e1, atC_eq e2⟩, atC_eq f1, atC_eq f2⟩
theorem hist_inj (i j : Nat) (hi : i < 6) (hj : j < 6) (e : [274, 279, 284, 289, 294, 299].getD i 0 = [274, 279, 284, 289, 294, 299].getD j 0) : i = j := by
  have h : ∀ i, i < 6 → ∀ j, j < 6 → [274, 279, 284, 289, 294, 299].getD i 0 = [274, 279, 284, 289, 294, 299].getD j 0 → i = j := by decide
  exact h i hi j hj e
theorem po0 {a : Nat} (h : a ∈ [12, 20, 23, 26, 31 + 1, 31 + 4, 31 + 7, 42, 304]) : PolyAt hp0 a [] := by
  obtain ⟨e0, e1, e2⟩ := hp0_poly a h
  exact poly_new e0 e1 e2
theorem sh0 {a : Nat} (h : a ∈ [1, 8, 307]) : ShO hp0 a [] [] := by
  obtain ⟨e0, e1, e2, e3⟩ := hp0_shape a h
  exact shape_new e0 e1 e2 e3
theorem st0 {a : Nat} (h : a ∈ [262, 267, 274, 279, 284, 289, 294, 299]) : StI hp0 a 1 sv0 := by
  obtain ⟨e0, e1, e2, e3, e4⟩ := hp0_state a h
  exact state_new e0 e1 e2 e3 e4
theorem plb0 : Plb hp0 [] sv0 [] (fun _ => []) := by
  obtain ⟨⟨r0, r5, r6, r7⟩, ⟨r15, r16, r17, r18⟩, ⟨r19, r29, r31, r41⟩, ⟨r30, r45⟩, ⟨r272, r273⟩, r311, r312⟩ := hp0_rest
  refine ⟨r0, ⟨0, 0, [], [], [], ⟨_, r5, ⟨r6, by simp⟩, by simp, by simp, fun j hj => by simp at hj⟩, r7, sh0 (by decide), po0 (by decide)⟩, ⟨[], _, _, _, r15, ⟨r16, by simp⟩, ⟨r17, by simp⟩, ⟨r18, by simp⟩, by simp, fun j hj => by simp at hj⟩, ⟨[], (0, 0), r19, ⟨[], [], po0 (by decide), po0 (by decide)⟩, po0 (by decide), r29⟩, ⟨[], (0, 0, 0, 0), 0, 0, r30, ⟨[], (0, 0), r31, ⟨[], [], po0 (by decide), po0 (by decide)⟩, po0 (by decide), r41⟩, ⟨[], po0 (by decide)⟩, r45, by simp, fun j hj => ⟨[], ?_⟩, fun j hj => by simp at hj⟩, st0 (by decide), ⟨_, st0 (by decide)⟩, ⟨[274, 279, 284, 289, 294, 299], ⟨r272, r273, rfl, by simp, by decide, hist_inj⟩, fun j hj => ⟨sv0, st0 ?_⟩, fun j hj => by simp at hj⟩, ⟨[], po0 (by decide)⟩, ⟨[], [], sh0 (by decide)⟩, ⟨(0, 0), r311⟩, ⟨_, r312, by simp⟩, ?_⟩
  · obtain ⟨e0, e1, e2⟩ := hp0_obst j hj
    exact poly_new e0 e1 e2
  · have : j = 0 ∨ j = 1 ∨ j = 2 ∨ j = 3 ∨ j = 4 ∨ j = 5 := by omega
    rcases this with rfl | rfl | rfl | rfl | rfl | rfl <;> decide
  · refine ⟨fun a ha => ?_, rfl, ⟨rfl, Nat.zero_le _, fun it hit => absurd hit List.not_mem_nil⟩, fun s hs => absurd hs List.not_mem_nil⟩
    have e : a = 1 := by
      rcases ha with ha | ha | ⟨s, hs, -⟩
      · exact ha
      · rcases ha with ha | ⟨it, hit, -⟩
        · simpa using ha
        · exact absurd hit List.not_mem_nil
      · exact absurd hs List.not_mem_nil
    subst e
    exact ⟨sh0 (by decide), fun i hi => absurd hi (Nat.not_lt_zero _), Or.inl rfl⟩
end SA
