/-! where a point lies, in the plane -/
section LO
variable {V : List PT} {m : Int} {x y : Int32}
theorem sd_per {n : Nat} {f : Nat → Z2} (H : Cvx n f) (p : Z2) (k : Nat) : sdE f p (k % n) = sdE f p k := by
  have a := H.mod k
  have b : f (k % n + 1) = f (k + 1) := by
    rw [← H.mod (k % n + 1), ← H.mod (k + 1), Nat.mod_add_mod]
  unfold sdE ed
  rw [a, b]
theorem side_sd (H : PG m V) (hp : Bd (x, y)) {e : Nat} (he : e < V.length) : (sideP V e x y).toInt = sdE (zL V) (zP (x, y)) e := by
  unfold sideP
  have c := cr_i32 (a := vAt V e) (b := vAt V (e + 1)) (c := (x, y)) (d := vAt V e) (vAt_bdW H.bw e) (vAt_bdW H.bw (e + 1)) hp (vAt_bdW H.bw e)
  dsimp only at c
  rw [c, vAt_zL H.ne (by omega), vAt_zL H.ne (by omega)]
  rfl
theorem all_side (H : PG m V) {Q : Int → Prop} {p : Z2} : (∀ e, e < V.length → Q (sdE (zL V) p e)) ↔ ∀ k, Q (sdE (zL V) p k) := by
  constructor
  · intro h k
    rw [← sd_per H.2.2.1]
    exact h _ (Nat.mod_lt _ (by have := H.2.2.1.1; omega))
  · intro h e _
    exact h e
theorem in_box (H : PG m V) (h : ∀ k, 0 ≤ sdE (zL V) (zP (x, y)) k) : ¬ (x < (pfold V).2.2.2.1 ∨ (pfold V).2.2.2.2.2.1 < x ∨ y < (pfold V).2.2.2.2.1 ∨ (pfold V).2.2.2.2.2.2 < y) := by
  obtain ⟨-, j2⟩ := pfold_LoS V H.ne
  have at' : ∀ v, ∃ k, k < V.length ∧ zL V v = zP (V.getD k (0, 0)) := fun v => ⟨(low V + v) % V.length, Nat.mod_lt _ (by have := H.2.2.1.1; omega), rfl⟩
  have lt : ∀ a b : Int32, a < b ↔ a.toInt < b.toInt := fun a b => Int32.lt_iff_toInt_lt
  rw [lt, lt, lt, lt]
  have hh : ∀ e, 0 ≤ cr (ed (zL V) e) (zs (zP (x, y)) (zL V e)) := h
  obtain ⟨v1, h1⟩ := H.2.2.1.inner0 hh (1, 0)
  obtain ⟨v2, h2⟩ := H.2.2.1.inner0 hh (-1, 0)
  obtain ⟨v3, h3⟩ := H.2.2.1.inner0 hh (0, 1)
  obtain ⟨v4, h4⟩ := H.2.2.1.inner0 hh (0, -1)
  obtain ⟨k1, l1, e1⟩ := at' v1
  obtain ⟨k2, l2, e2⟩ := at' v2
  obtain ⟨k3, l3, e3⟩ := at' v3
  obtain ⟨k4, l4, e4⟩ := at' v4
  rw [e1] at h1; rw [e2] at h2; rw [e3] at h3; rw [e4] at h4
  have b1 := j2 k1 l1
  have b2 := j2 k2 l2
  have b3 := j2 k3 l3
  have b4 := j2 k4 l4
  unfold dt zP at h1 h2 h3 h4
  dsimp only at h1 h2 h3 h4
  omega
theorem any_side (H : PG m V) (hp : Bd (x, y)) {Q : Int32 → Prop} [∀ v, Decidable (Q v)] : (List.range V.length).any (fun e => decide (Q (sideP V e x y))) = true ↔ ∃ e, e < V.length ∧ Q (sideP V e x y) := by
  rw [any_lt]
  constructor
  · rintro ⟨e, he, q⟩; exact ⟨e, he, of_decide_eq_true q⟩
  · rintro ⟨e, he, q⟩; exact ⟨e, he, decide_eq_true q⟩
theorem loc_spec (H : PG m V) (hp : Bd (x, y)) : (locP V x y = 2 ↔ ∀ k, 0 < sdE (zL V) (zP (x, y)) k) ∧ (locP V x y ≠ 0 ↔ ∀ k, 0 ≤ sdE (zL V) (zP (x, y)) k) ∧ (locP V x y = 0 ∨ locP V x y = 1 ∨ locP V x y = 2) := by
  have z : (0 : Int32).toInt = 0 := by decide
  have s1 := any_side H hp (Q := fun v => v < 0)
  have s2 := any_side H hp (Q := fun v => v = 0)
  have a1 := all_side H (Q := fun v => 0 ≤ v) (p := zP (x, y))
  have a2 := all_side H (Q := fun v => 0 < v) (p := zP (x, y))
  have bx := in_box (x := x) (y := y) H
  unfold locP
  by_cases c : x < (pfold V).2.2.2.1 ∨ (pfold V).2.2.2.2.2.1 < x ∨ y < (pfold V).2.2.2.2.1 ∨ (pfold V).2.2.2.2.2.2 < y
  · rw [if_pos c]
    refine ⟨⟨fun h => absurd h (by decide), fun h => absurd c (bx fun k => Int.le_of_lt (h k))⟩, ⟨fun h => absurd rfl h, fun h => absurd c (bx h)⟩, Or.inl rfl⟩
  · rw [if_neg c]
    by_cases c1 : (List.range V.length).any (fun e => decide (sideP V e x y < 0)) = true
    · rw [if_pos c1]
      obtain ⟨e, he, q⟩ := s1.mp c1
      have q : sideP V e x y < 0 := q
      rw [Int32.lt_iff_toInt_lt, side_sd H hp he, z] at q
      refine ⟨⟨fun h => absurd h (by decide), fun h => ?_⟩, ⟨fun h => absurd rfl h, fun h => ?_⟩, Or.inl rfl⟩
      · have := h e; omega
      · have := h e; omega
    · rw [if_neg c1]
      have ge : ∀ e, e < V.length → 0 ≤ sdE (zL V) (zP (x, y)) e := fun e he => by
        have q : ¬ sideP V e x y < 0 := fun q => c1 (s1.mpr ⟨e, he, q⟩)
        rw [Int32.lt_iff_toInt_lt, side_sd H hp he, z] at q
        omega
      by_cases c2 : (List.range V.length).any (fun e => decide (sideP V e x y = 0)) = true
      · rw [if_pos c2]
        obtain ⟨e, he, q⟩ := s2.mp c2
        have q : sideP V e x y = 0 := q
        rw [← Int32.toInt_inj, side_sd H hp he, z] at q
        refine ⟨⟨fun h => absurd h (by decide), fun h => ?_⟩, ⟨fun _ => a1.mp ge, fun _ => by decide⟩, Or.inr (Or.inl rfl)⟩
        have := h e; omega
      · rw [if_neg c2]
        refine ⟨⟨fun _ => a2.mp fun e he => ?_, fun _ => rfl⟩, ⟨fun _ => a1.mp ge, fun _ => by decide⟩, Or.inr (Or.inr rfl)⟩
        have q : ¬ sideP V e x y = 0 := fun q => c2 (s2.mpr ⟨e, he, q⟩)
        rw [← Int32.toInt_inj, side_sd H hp he, z] at q
        have := ge e he
        omega
end LO
