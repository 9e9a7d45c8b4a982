/-! two shapes: relation, sliding, blocking -/
section SHP
variable {S S' S2 S2' : SH} {x y dx dy : Int32}
theorem SR.loc (H : SR S S') (H2 : SR S2 S2') (hp : Bd (x, y)) {ij : Nat × Nat} (h : ij ∈ pre S2.length S.length 0) : (locP (nfP S S2 ij) x y = 2 ↔ anyQ S' S2' x y 0 0 ij = true) ∧ (locP (nfP S S2 ij) x y ≠ 0 ↔ anyQ S' S2' x y 0 1 ij = true) ∧ (locP (nfP S S2 ij) x y = 0 ∨ locP (nfP S S2 ij) x y = 1 ∨ locP (nfP S S2 ij) x y = 2) := by
  have m := pre_mem h
  have L := nf_loc (H.2 _ m.1) (H2.2 _ m.2) hp
  exact ⟨L.1, L.2, (loc_spec (nf_all (H.2 _ m.1) (H2.2 _ m.2)).1 hp).2.2⟩
theorem mx_fold {α : Type} {f : α → Int32} : ∀ (l : List α) (m : Int32), (m = 0 ∨ m = 1 ∨ m = 2) → (∀ a, a ∈ l → f a = 0 ∨ f a = 1 ∨ f a = 2) → (l.foldl (fun m a => mxI m (f a)) m = 0 ∨ l.foldl (fun m a => mxI m (f a)) m = 1 ∨ l.foldl (fun m a => mxI m (f a)) m = 2) ∧ (l.foldl (fun m a => mxI m (f a)) m = 2 ↔ m = 2 ∨ ∃ a, a ∈ l ∧ f a = 2) ∧ (l.foldl (fun m a => mxI m (f a)) m ≠ 0 ↔ m ≠ 0 ∨ ∃ a, a ∈ l ∧ f a ≠ 0) := fun l => by
  induction l with
  | nil =>
    intro m hm _
    refine ⟨hm, ⟨Or.inl, fun h => ?_⟩, Or.inl, fun h => ?_⟩
    · rcases h with h | ⟨a, h, -⟩
      · exact h
      · simp at h
    · rcases h with h | ⟨a, h, -⟩
      · exact h
      · simp at h
  | cons a l ih =>
    intro m hm hf
    have fa := hf a (List.mem_cons_self ..)
    have st : (mxI m (f a) = 0 ∨ mxI m (f a) = 1 ∨ mxI m (f a) = 2) ∧ (mxI m (f a) = 2 ↔ m = 2 ∨ f a = 2) ∧ (mxI m (f a) ≠ 0 ↔ m ≠ 0 ∨ f a ≠ 0) := by
      unfold mxI
      rcases hm with rfl | rfl | rfl <;> rcases fa with q | q | q <;> rw [q] <;> decide
    obtain ⟨i1, i2, i3⟩ := ih (mxI m (f a)) st.1 fun b hb => hf b (List.mem_cons_of_mem _ hb)
    rw [List.foldl_cons]
    refine ⟨i1, ?_, ?_⟩
    · rw [i2, st.2.1]
      constructor
      · rintro ((h | h) | ⟨b, hb, h⟩)
        · exact Or.inl h
        · exact Or.inr ⟨a, List.mem_cons_self .., h⟩
        · exact Or.inr ⟨b, List.mem_cons_of_mem _ hb, h⟩
      · rintro (h | ⟨b, hb, h⟩)
        · exact Or.inl (Or.inl h)
        · rcases List.mem_cons.mp hb with rfl | hb
          · exact Or.inl (Or.inr h)
          · exact Or.inr ⟨b, hb, h⟩
    · rw [i3, st.2.2]
      constructor
      · rintro ((h | h) | ⟨b, hb, h⟩)
        · exact Or.inl h
        · exact Or.inr ⟨a, List.mem_cons_self .., h⟩
        · exact Or.inr ⟨b, List.mem_cons_of_mem _ hb, h⟩
      · rintro (h | ⟨b, hb, h⟩)
        · exact Or.inl (Or.inl h)
        · rcases List.mem_cons.mp hb with rfl | hb
          · exact Or.inl (Or.inr h)
          · exact Or.inr ⟨b, hb, h⟩
theorem rel_spec (H : SR S S') (H2 : SR S2 S2') (hp : Bd (x, y)) : (relP S S2 x y = 0 ∨ relP S S2 x y = 1 ∨ relP S S2 x y = 2) ∧ (relP S S2 x y = 2 ↔ anyP S' S2' x y 0 0 = true) ∧ (relP S S2 x y ≠ 0 ↔ anyP S' S2' x y 0 1 = true) := by
  obtain ⟨a, b, c⟩ := mx_fold (f := fun ij => locP (nfP S S2 ij) x y) (pre S2.length S.length 0) 0 (Or.inl rfl) fun ij h => (H.loc H2 hp h).2.2
  unfold anyP
  rw [List.any_eq_true, List.any_eq_true, ← H.1, ← H2.1]
  refine ⟨a, b.trans ⟨fun h => ?_, fun ⟨ij, h1, h2⟩ => Or.inr ⟨ij, h1, (H.loc H2 hp h1).1.mpr h2⟩⟩, c.trans ⟨fun h => ?_, fun ⟨ij, h1, h2⟩ => Or.inr ⟨ij, h1, (H.loc H2 hp h1).2.1.mpr h2⟩⟩⟩
  · rcases h with h | ⟨ij, h1, h2⟩
    · exact absurd h (by decide)
    · exact ⟨ij, h1, (H.loc H2 hp h1).1.mp h2⟩
  · rcases h with h | ⟨ij, h1, h2⟩
    · exact absurd rfl h
    · exact ⟨ij, h1, (H.loc H2 hp h1).2.1.mp h2⟩
theorem rel_eq (H : SR S S') (H2 : SR S2 S2') (hp : Bd (x, y)) : relP S S2 x y = liePR S' S2' x y := by
  obtain ⟨a, b, c⟩ := rel_spec H H2 hp
  unfold liePR
  by_cases h1 : anyP S' S2' x y 0 0 = true
  · rw [if_pos h1]; exact b.mpr h1
  · rw [if_neg h1]
    by_cases h2 : anyP S' S2' x y 0 1 = true
    · rw [if_pos h2]
      rcases a with a | a | a
      · exact absurd a (c.mpr h2)
      · exact a
      · exact absurd (b.mp a) h1
    · rw [if_neg h2]
      exact Decidable.of_not_not fun h => h2 (c.mp h)
end SHP
