/-! the lowest vertex and the box of a polygon -/
/-- what the fold over the vertices keeps -/
def LoS (V : List PT) (s : PS) : Prop := (V.getD s.2.1 (0, 0)).2 = s.2.2.2.2.1 ∧ ∀ k, k < V.length → (s.2.2.2.2.1.toInt ≤ (V.getD k (0, 0)).2.toInt ∧ ((V.getD k (0, 0)).2 = s.2.2.2.2.1 → s.2.2.1.toInt ≤ (V.getD k (0, 0)).1.toInt)) ∧ s.2.2.2.1.toInt ≤ (V.getD k (0, 0)).1.toInt ∧ (V.getD k (0, 0)).1.toInt ≤ s.2.2.2.2.2.1.toInt ∧ (V.getD k (0, 0)).2.toInt ≤ s.2.2.2.2.2.2.toInt
theorem pfold_LoS : ∀ V : List PT, V ≠ [] → LoS V (pfold V) := snoc_ind (fun h => absurd rfl h) fun l a ih _ => by
  have hn := pfold_n l
  rw [pfold_snoc]
  by_cases c : l.length = 0
  · have : l = [] := List.eq_nil_of_length_eq_zero c
    subst this
    refine ⟨rfl, fun k hk => ?_⟩
    have hk : k < 1 := hk
    have : k = 0 := by omega
    subst this
    exact ⟨⟨Int.le_refl _, fun _ => Int.le_refl _⟩, Int.le_refl _, Int.le_refl _, Int.le_refl _⟩
  · have hne : l ≠ [] := fun h => c (by rw [h]; rfl)
    obtain ⟨i1, i2⟩ := pfold_low l hne
    have i1 : (pfold l).2.1 < l.length := i1
    obtain ⟨j1, j2⟩ := ih hne
    have key : ∀ s : PS, pfold l = s → LoS (l ++ [a]) (pstep s a) := fun s hs => by
      rw [hs] at hn i1 j1 j2
      obtain ⟨n, lw, lx, mnx, mny, mxx, mxy⟩ := s
      dsimp only at hn i1 j1 j2
      subst hn
      unfold LoS pstep
      dsimp only
      rw [if_neg c, if_neg c, if_neg c, if_neg c, if_neg c, if_neg c]
      have gl : ∀ k, k < l.length → (l ++ [a]).getD k (0, 0) = l.getD k (0, 0) := fun k hk => by rw [getD_app, if_pos hk]
      have ga : (l ++ [a]).getD l.length (0, 0) = a := by rw [getD_app, if_neg (by omega), if_pos rfl]
      have lim : ∀ k, k < (l ++ [a]).length → k < l.length ∨ k = l.length := fun k hk => by
        rw [List.length_append, List.length_singleton] at hk; omega
      have le : ∀ x y : Int32, x ≤ y ↔ x.toInt ≤ y.toInt := fun x y => Int32.le_iff_toInt_le
      have lt : ∀ x y : Int32, x < y ↔ x.toInt < y.toInt := fun x y => Int32.lt_iff_toInt_lt
      have eqv : ∀ x y : Int32, x = y ↔ x.toInt = y.toInt := fun x y => Int32.toInt_inj.symm
      refine ⟨?_, fun k hk => ⟨⟨?_, ?_⟩, ?_, ?_, ?_⟩⟩
      · by_cases c1 : a.2 < mny
        · rw [if_pos c1, ga, if_neg]
          rw [le]; rw [lt] at c1; omega
        · have hb : mny ≤ a.2 := i32_not_lt.mp c1
          rw [if_neg c1, if_pos hb]
          by_cases c2 : a.2 = mny ∧ ¬ lx ≤ a.1
          · rw [if_pos c2, ga]; exact c2.1
          · rw [if_neg c2, gl _ i1]; exact j1
      · rcases lim k hk with q | q
        · rw [gl k q]
          have := (j2 k q).1.1
          split
          · exact this
          · rename_i z; rw [le] at z; omega
        · subst q
          rw [ga]
          split
          · rename_i z; rw [le] at z; exact z
          · exact Int.le_refl _
      · intro e
        by_cases c1 : a.2 < mny
        · have nb : ¬ mny ≤ a.2 := i32_not_le.mpr c1
          rw [if_neg nb] at e
          rw [if_pos c1]
          rcases lim k hk with q | q
          · rw [gl k q] at e
            have := (j2 k q).1.1
            rw [lt] at c1
            rw [eqv] at e; omega
          · subst q; rw [ga]; exact Int.le_refl _
        · have hb : mny ≤ a.2 := i32_not_lt.mp c1
          rw [if_pos hb] at e
          rw [if_neg c1]
          rcases lim k hk with q | q
          · rw [gl k q] at e ⊢
            have := (j2 k q).1.2 e
            by_cases c2 : a.2 = mny ∧ ¬ lx ≤ a.1
            · rw [if_pos c2]
              have := c2.2
              rw [le] at this; omega
            · rw [if_neg c2]; exact this
          · subst q
            rw [ga] at e ⊢
            by_cases c2 : a.2 = mny ∧ ¬ lx ≤ a.1
            · rw [if_pos c2]; exact Int.le_refl _
            · rw [if_neg c2]
              by_cases c3 : lx ≤ a.1
              · rw [le] at c3; exact c3
              · exact absurd ⟨e, c3⟩ c2
      · rcases lim k hk with q | q
        · rw [gl k q]
          have := (j2 k q).2.1
          split
          · exact this
          · rename_i z; rw [le] at z; omega
        · subst q
          rw [ga]
          split
          · rename_i z; rw [le] at z; exact z
          · exact Int.le_refl _
      · rcases lim k hk with q | q
        · rw [gl k q]
          have := (j2 k q).2.2.1
          split
          · rename_i z
            first
              | exact this
              | (rw [le] at z; omega)
              | (rw [lt] at z; omega)
          · rename_i z
            first
              | exact this
              | (rw [le] at z; omega)
              | (rw [lt] at z; omega)
        · subst q
          rw [ga]
          split
          · rename_i z
            first
              | exact Int.le_refl _
              | (rw [le] at z; omega)
              | (rw [lt] at z; omega)
          · rename_i z
            first
              | exact Int.le_refl _
              | (rw [le] at z; omega)
              | (rw [lt] at z; omega)
      · rcases lim k hk with q | q
        · rw [gl k q]
          have := (j2 k q).2.2.2
          split
          · rename_i z
            first
              | exact this
              | (rw [le] at z; omega)
              | (rw [lt] at z; omega)
          · rename_i z
            first
              | exact this
              | (rw [le] at z; omega)
              | (rw [lt] at z; omega)
        · subst q
          rw [ga]
          split
          · rename_i z
            first
              | exact Int.le_refl _
              | (rw [le] at z; omega)
              | (rw [lt] at z; omega)
          · rename_i z
            first
              | exact Int.le_refl _
              | (rw [le] at z; omega)
              | (rw [lt] at z; omega)
    exact key _ rfl
