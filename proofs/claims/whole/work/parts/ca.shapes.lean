/-! two shapes: relation, sliding, blocking -/
section SHP
variable {S S' S2 S2' : SH} {x y dx dy : Int32}
theorem SR.loc (H : SR S S') (H2 : SR S2 S2') (hp : Bd (x, y)) {ij : Nat × Nat} (h : ij ∈ pre S2.length S.length 0) : (locP (nfP S S2 ij) x y = 2 ↔ anyQ S' S2' x y 0 0 ij = true) ∧ (locP (nfP S S2 ij) x y ≠ 0 ↔ anyQ S' S2' x y 0 1 ij = true) ∧ (locP (nfP S S2 ij) x y = 0 ∨ locP (nfP S S2 ij) x y = 1 ∨ locP (nfP S S2 ij) x y = 2) := by
  have m := pre_mem h
  have L := nf_loc (H.2 _ m.1) (H2.2 _ m.2) hp
  exact ⟨L.1, L.2, (loc_spec (nf_all (H.2 _ m.1) (H2.2 _ m.2)).1 hp).2.2⟩
theorem mx_fold {α : Type} {f : α → Int32} : ∀ (l : List α) (m : Int32), (m = 0 ∨ m = 1 ∨ m = 2) → (∀ a, a ∈ l → f a = 0 ∨ f a = 1 ∨ f a = 2) → (l.foldl (fun m a => mxI m (f a)) m = 0 ∨ l.foldl (fun m a => mxI m (f a)) m = 1 ∨ l.foldl (fun m a => mxI m (f a)) m = 2) ∧ (l.foldl (fun m a => mxI m (f a)) m = 2 ↔ m = 2 ∨ ∃ a, a ∈ l ∧ f a = 2) ∧ (l.foldl (fun m a => mxI m (f a)) m ≠ 0 ↔ m ≠ 0 ∨ ∃ a, a ∈ l ∧ f a ≠ 0) := fun l => by
  induction l with
  | nil =>
    intro m hm _
    refine ⟨hm, ⟨Or.inl, fun h => ?_⟩, Or.inl, fun h => ?_⟩
    · rcases h with h | ⟨a, h, -⟩
      · exact h
      · simp at h
    · rcases h with h | ⟨a, h, -⟩
      · exact h
      · simp at h
  | cons a l ih =>
    intro m hm hf
    have fa := hf a (List.mem_cons_self ..)
    have st : (mxI m (f a) = 0 ∨ mxI m (f a) = 1 ∨ mxI m (f a) = 2) ∧ (mxI m (f a) = 2 ↔ m = 2 ∨ f a = 2) ∧ (mxI m (f a) ≠ 0 ↔ m ≠ 0 ∨ f a ≠ 0) := by
      unfold mxI
      rcases hm with rfl | rfl | rfl <;> rcases fa with q | q | q <;> rw [q] <;> decide
    obtain ⟨i1, i2, i3⟩ := ih (mxI m (f a)) st.1 fun b hb => hf b (List.mem_cons_of_mem _ hb)
    rw [List.foldl_cons]
    refine ⟨i1, ?_, ?_⟩
    · rw [i2, st.2.1]
      constructor
      · rintro ((h | h) | ⟨b, hb, h⟩)
        · exact Or.inl h
        · exact Or.inr ⟨a, List.mem_cons_self .., h⟩
        · exact Or.inr ⟨b, List.mem_cons_of_mem _ hb, h⟩
      · rintro (h | ⟨b, hb, h⟩)
        · exact Or.inl (Or.inl h)
        · rcases List.mem_cons.mp hb with rfl | hb
          · exact Or.inl (Or.inr h)
          · exact Or.inr ⟨b, hb, h⟩
    · rw [i3, st.2.2]
      constructor
      · rintro ((h | h) | ⟨b, hb, h⟩)
        · exact Or.inl h
        · exact Or.inr ⟨a, List.mem_cons_self .., h⟩
        · exact Or.inr ⟨b, List.mem_cons_of_mem _ hb, h⟩
      · rintro (h | ⟨b, hb, h⟩)
        · exact Or.inl (Or.inl h)
        · rcases List.mem_cons.mp hb with rfl | hb
          · exact Or.inl (Or.inr h)
          · exact Or.inr ⟨b, hb, h⟩
theorem rel_spec (H : SR S S') (H2 : SR S2 S2') (hp : Bd (x, y)) : (relP S S2 x y = 0 ∨ relP S S2 x y = 1 ∨ relP S S2 x y = 2) ∧ (relP S S2 x y = 2 ↔ anyP S' S2' x y 0 0 = true) ∧ (relP S S2 x y ≠ 0 ↔ anyP S' S2' x y 0 1 = true) := by
  obtain ⟨a, b, c⟩ := mx_fold (f := fun ij => locP (nfP S S2 ij) x y) (pre S2.length S.length 0) 0 (Or.inl rfl) fun ij h => (H.loc H2 hp h).2.2
  unfold anyP
  rw [List.any_eq_true, List.any_eq_true, ← H.1, ← H2.1]
  refine ⟨a, b.trans ⟨fun h => ?_, fun ⟨ij, h1, h2⟩ => Or.inr ⟨ij, h1, (H.loc H2 hp h1).1.mpr h2⟩⟩, c.trans ⟨fun h => ?_, fun ⟨ij, h1, h2⟩ => Or.inr ⟨ij, h1, (H.loc H2 hp h1).2.1.mpr h2⟩⟩⟩
  · rcases h with h | ⟨ij, h1, h2⟩
    · exact absurd h (by decide)
    · exact ⟨ij, h1, (H.loc H2 hp h1).1.mp h2⟩
  · rcases h with h | ⟨ij, h1, h2⟩
    · exact absurd rfl h
    · exact ⟨ij, h1, (H.loc H2 hp h1).2.1.mp h2⟩
theorem rel_eq (H : SR S S') (H2 : SR S2 S2') (hp : Bd (x, y)) : relP S S2 x y = liePR S' S2' x y := by
  obtain ⟨a, b, c⟩ := rel_spec H H2 hp
  unfold liePR
  by_cases h1 : anyP S' S2' x y 0 0 = true
  · rw [if_pos h1]; exact b.mpr h1
  · rw [if_neg h1]
    by_cases h2 : anyP S' S2' x y 0 1 = true
    · rw [if_pos h2]
      rcases a with a | a | a
      · exact absurd a (c.mpr h2)
      · exact a
      · exact absurd (b.mp a) h1
    · rw [if_neg h2]
      exact Decidable.of_not_not fun h => h2 (c.mp h)
theorem st_fold_pos {SA SB : SH} (Q : ∀ ij, ij ∈ pre SB.length SA.length 0 → (mtP (SA.getD ij.1 []) (SB.getD ij.2 []) x y dx dy).1 = true → 0 < (mtP (SA.getD ij.1 []) (SB.getD ij.2 []) x y dx dy).2.2) : 0 < (stP SA SB x y dx dy 0).2 ↔ ∃ ij, ij ∈ pre SB.length SA.length 0 ∧ (mtP (SA.getD ij.1 []) (SB.getD ij.2 []) x y dx dy).1 = true := by
  have key : ∀ (l : List (Nat × Nat)) (s : FQ), (∀ ij, ij ∈ l → ij ∈ pre SB.length SA.length 0) → (s.2 = 0 ∨ 0 < s.2) → ((l.foldl (stStep SA SB x y dx dy) s).2 = 0 ∨ 0 < (l.foldl (stStep SA SB x y dx dy) s).2) ∧ (0 < (l.foldl (stStep SA SB x y dx dy) s).2 ↔ 0 < s.2 ∨ ∃ ij, ij ∈ l ∧ (mtP (SA.getD ij.1 []) (SB.getD ij.2 []) x y dx dy).1 = true) := fun l => by
    induction l with
    | nil =>
      intro s _ hs
      exact ⟨hs, Or.inl, fun h => by rcases h with h | ⟨a, h, -⟩; exact h; simp at h⟩
    | cons a l ih =>
      intro s hl hs
      have qa := Q a (hl a (List.mem_cons_self ..))
      have st : ((stStep SA SB x y dx dy s a).2 = 0 ∨ 0 < (stStep SA SB x y dx dy s a).2) ∧ (0 < (stStep SA SB x y dx dy s a).2 ↔ 0 < s.2 ∨ (mtP (SA.getD a.1 []) (SB.getD a.2 []) x y dx dy).1 = true) := by
        unfold stStep
        split
        · rename_i c
          have p := qa c.1
          exact ⟨Or.inr p, fun _ => Or.inr c.1, fun _ => p⟩
        · rename_i c
          refine ⟨hs, Or.inl, fun h => ?_⟩
          rcases h with h | h
          · exact h
          · rcases hs with z | z
            · exact absurd ⟨h, Or.inl z⟩ c
            · exact z
      obtain ⟨i1, i2⟩ := ih _ (fun ij h => hl ij (List.mem_cons_of_mem _ h)) st.1
      rw [List.foldl_cons]
      refine ⟨i1, ?_⟩
      rw [i2, st.2]
      constructor
      · rintro ((h | h) | ⟨b, hb, h⟩)
        · exact Or.inl h
        · exact Or.inr ⟨a, List.mem_cons_self .., h⟩
        · exact Or.inr ⟨b, List.mem_cons_of_mem _ hb, h⟩
      · rintro (h | ⟨b, hb, h⟩)
        · exact Or.inl (Or.inl h)
        · rcases List.mem_cons.mp hb with rfl | hb
          · exact Or.inl (Or.inr h)
          · exact Or.inr ⟨b, hb, h⟩
  have k := (key (pre SB.length SA.length 0) (0, 0) (fun _ h => h) (Or.inl rfl)).2
  refine k.trans ⟨fun h => ?_, Or.inr⟩
  rcases h with h | h
  · exact absurd h (by decide)
  · exact h
/-- what stops a shape: class and reference -/
theorem stb_eq (H : SR S S') (H2 : SR S2 S2') (hp : Bq (x, y)) (hd : Dv (dx, dy)) : stbP S S2 x y dx dy = true ↔ 0 < (stP S' S2' x y dx dy 0).2 := by
  have ray := fun ij (h : ij ∈ pre S2.length S.length 0) => ray_pair (H.2 _ (pre_mem h).1) (H2.2 _ (pre_mem h).2) hp hd
  rw [st_fold_pos, ← H.1, ← H2.1]
  · unfold stbP
    rw [List.any_eq_true]
    constructor
    · rintro ⟨ij, h1, h2⟩
      refine ⟨ij, h1, ?_⟩
      by_cases c : (mtP (S'.getD ij.1 []) (S2'.getD ij.2 []) x y dx dy).1 = true
      · exact c
      · have h2 : (entP (nfQ (S.getD ij.1 []) (S2.getD ij.2 [])) x y dx dy).isSome = true := h2
        rw [(ray ij h1).1 (by simpa using c)] at h2
        exact absurd h2 (by decide)
    · rintro ⟨ij, h1, h2⟩
      refine ⟨ij, h1, ?_⟩
      obtain ⟨-, lo, lb, e, -⟩ := (ray ij h1).2 h2
      show (entP (nfQ (S.getD ij.1 []) (S2.getD ij.2 [])) x y dx dy).isSome = true
      rw [e]; rfl
  · intro ij h1 h2
    rw [← H.1, ← H2.1] at h1
    have := ((ray ij h1).2 h2).1.2.1
    rw [i64_lt, i64_z]; exact this
/-- how far a shape may slide: class and reference -/
theorem slide_eq (H : SR S S') (H2 : SR S2 S2') (hp : Bq (x, y)) (hd : Dv (dx, dy)) (nr : relP S S2 x y ≠ 2) (hs : stbP S S2 x y dx dy = true) : (BR (stpP S S2 x y dx dy) ∧ BR (stP S' S2' x y dx dy 0)) ∧ (0 < (stpP S S2 x y dx dy).2.toInt ∧ 0 < (stP S' S2' x y dx dy 0).2.toInt) ∧ (stpP S S2 x y dx dy).1.toInt * (stP S' S2' x y dx dy 0).2.toInt = (stP S' S2' x y dx dy 0).1.toInt * (stpP S S2 x y dx dy).2.toInt := by
  have ray := fun ij (h : ij ∈ pre S2.length S.length 0) => ray_pair (H.2 _ (pre_mem h).1) (H2.2 _ (pre_mem h).2) hp hd
  have no2 : ∀ ij, ij ∈ pre S2.length S.length 0 → locP (nfQ (S.getD ij.1 []) (S2.getD ij.2 [])) x y ≠ 2 := fun ij h q => by
    refine nr ((rel_spec H H2 (bq_bd hp)).2.1.mpr ?_)
    unfold anyP
    rw [List.any_eq_true, ← H.1, ← H2.1]
    exact ⟨ij, h, (H.loc H2 (bq_bd hp) h).1.mp q⟩
  -- what holds at one pair
  have one : ∀ ij, ij ∈ pre S2.length S.length 0 → (mtP (S'.getD ij.1 []) (S2'.getD ij.2 []) x y dx dy).1 = true → ∃ g : FQ, entP (nfP S S2 ij) x y dx dy = some g ∧ (0 ≤ g.1.toInt ∧ g.1.toInt ≤ 200000) ∧ (0 < g.2.toInt ∧ g.2.toInt ≤ 200000) ∧ g.1.toInt * (mtP (S'.getD ij.1 []) (S2'.getD ij.2 []) x y dx dy).2.2.toInt = (mtP (S'.getD ij.1 []) (S2'.getD ij.2 []) x y dx dy).2.1.toInt * g.2.toInt ∧ (0 ≤ (mtP (S'.getD ij.1 []) (S2'.getD ij.2 []) x y dx dy).2.1.toInt ∧ (mtP (S'.getD ij.1 []) (S2'.getD ij.2 []) x y dx dy).2.1.toInt ≤ 200000) ∧ 0 < (mtP (S'.getD ij.1 []) (S2'.getD ij.2 []) x y dx dy).2.2.toInt ∧ (mtP (S'.getD ij.1 []) (S2'.getD ij.2 []) x y dx dy).2.2.toInt ≤ 200000 := fun ij h1 h2 => by
    obtain ⟨⟨⟨m1, m2⟩, m3, m4⟩, lo, lb, e, ⟨⟨b1, b2⟩, b3, b4⟩, q, nn⟩ := (ray ij h1).2 h2
    have l0 := nn (no2 ij h1)
    have ez : (if 0 < lo then lo else 0).toInt = lo.toInt := by
      by_cases c : 0 < lo
      · rw [if_pos c]
      · rw [if_neg c, i64_z]
        rw [i64_lt, i64_z] at c
        omega
    refine ⟨_, e, ?_, ⟨b3, b4⟩, ?_, ⟨?_, m2⟩, m3, m4⟩
    · dsimp only; rw [ez]; omega
    · dsimp only; rw [ez]; exact q
    · by_cases c : 0 ≤ (mtP (S'.getD ij.1 []) (S2'.getD ij.2 []) x y dx dy).2.1.toInt
      · exact c
      · have := Int.mul_neg_of_neg_of_pos (show (mtP (S'.getD ij.1 []) (S2'.getD ij.2 []) x y dx dy).2.1.toInt < 0 by omega) b3
        have := Int.mul_nonneg l0 (Int.le_of_lt m3)
        omega
  have cls : MnP BF (fun N D => False ∨ ∃ ij, ij ∈ pre S2.length S.length 0 ∧ ∃ g : FQ, entP (nfP S S2 ij) x y dx dy = some g ∧ N = g.1.toInt ∧ D = g.2.toInt) (stpP S S2 x y dx dy) := by
    refine mn_fold (P := BF) (step := fun f ij => lowO f (entP (nfP S S2 ij) x y dx dy)) (pre S2.length S.length 0) _ _ (fun ij hij f C M => ?_) ⟨⟨⟨by decide, by decide⟩, by decide⟩, fun _ _ h => h.elim, Or.inl ⟨rfl, fun _ _ h => h⟩⟩
    by_cases c : (mtP (S'.getD ij.1 []) (S2'.getD ij.2 []) x y dx dy).1 = true
    · obtain ⟨g, e, g1, g2, -⟩ := one ij hij c
      rw [e]
      refine (low_step M (n := g.1) (d := g.2) (by omega) (by omega)).congr fun N D => ?_
      constructor
      · rintro (h | h)
        · exact Or.inl h
        · exact Or.inr ⟨g, rfl, h.1, h.2⟩
      · rintro (h | ⟨g', e', h⟩)
        · exact Or.inl h
        · cases e'; exact Or.inr h
    · have e : entP (nfP S S2 ij) x y dx dy = none := (ray ij hij).1 (by simpa using c)
      rw [e]
      refine M.congr fun N D => ⟨Or.inl, fun h => ?_⟩
      rcases h with h | ⟨g', e', -⟩
      · exact h
      · exact absurd e' (by simp)
  have ref : MnP BR (fun N D => False ∨ ∃ ij, ij ∈ pre S2.length S.length 0 ∧ (mtP (S'.getD ij.1 []) (S2'.getD ij.2 []) x y dx dy).1 = true ∧ N = (mtP (S'.getD ij.1 []) (S2'.getD ij.2 []) x y dx dy).2.1.toInt ∧ D = (mtP (S'.getD ij.1 []) (S2'.getD ij.2 []) x y dx dy).2.2.toInt) (stP S' S2' x y dx dy 0) := by
    unfold stP
    rw [← H.1, ← H2.1]
    refine mn_fold (P := BR) (step := stStep S' S2' x y dx dy) (pre S2.length S.length 0) _ _ (fun ij hij f C M => ?_) ⟨⟨by decide, by decide⟩, fun _ _ h => h.elim, Or.inl ⟨rfl, fun _ _ h => h⟩⟩
    by_cases c : (mtP (S'.getD ij.1 []) (S2'.getD ij.2 []) x y dx dy).1 = true
    · obtain ⟨g, -, -, -, -, m1, m2⟩ := one ij hij c
      have e : stStep S' S2' x y dx dy f ij = nearF (mtP (S'.getD ij.1 []) (S2'.getD ij.2 []) x y dx dy).2.1 (mtP (S'.getD ij.1 []) (S2'.getD ij.2 []) x y dx dy).2.2 f := by
        unfold stStep nearF
        by_cases d : f.2 = 0 ∨ (mtP (S'.getD ij.1 []) (S2'.getD ij.2 []) x y dx dy).2.1 * f.2 < f.1 * (mtP (S'.getD ij.1 []) (S2'.getD ij.2 []) x y dx dy).2.2
        · rw [if_pos ⟨c, d⟩, if_pos d]
        · rw [if_neg fun h => d h.2, if_neg d]
      rw [e]
      refine (near_step M (by omega) (by omega)).congr fun N D => ?_
      constructor
      · rintro (h | h)
        · exact Or.inl h
        · exact Or.inr ⟨c, h⟩
      · rintro (h | ⟨-, h⟩)
        · exact Or.inl h
        · exact Or.inr h
    · have e : stStep S' S2' x y dx dy f ij = f := by
        unfold stStep
        rw [if_neg fun h => c h.1]
      rw [e]
      refine M.congr fun N D => ⟨Or.inl, fun h => ?_⟩
      rcases h with h | ⟨h, -⟩
      · exact h
      · exact absurd h c
  obtain ⟨⟨cB, -⟩, cM⟩ := cls
  obtain ⟨rB, rM⟩ := ref
  have same := Mn.same cM rM (fun N D h => ?_) (fun N' D' h => ?_) ?_
  · exact ⟨⟨cB, rB⟩, ⟨same.1, same.2.1⟩, same.2.2⟩
  · rcases h with h | ⟨ij, hij, g, e, rfl, rfl⟩
    · exact h.elim
    · have c : (mtP (S'.getD ij.1 []) (S2'.getD ij.2 []) x y dx dy).1 = true := by
        by_cases c : (mtP (S'.getD ij.1 []) (S2'.getD ij.2 []) x y dx dy).1 = true
        · exact c
        · have e2 : entP (nfP S S2 ij) x y dx dy = none := (ray ij hij).1 (by simpa using c)
          rw [e2] at e; exact absurd e (by simp)
      obtain ⟨g', e', -, -, q, -⟩ := one ij hij c
      rw [e] at e'
      cases e'
      exact ⟨_, _, Or.inr ⟨ij, hij, c, rfl, rfl⟩, Int.le_of_eq q.symm⟩
  · rcases h with h | ⟨ij, hij, c, rfl, rfl⟩
    · exact h.elim
    · obtain ⟨g', e', -, -, q, -⟩ := one ij hij c
      exact ⟨_, _, Or.inr ⟨ij, hij, g', e', rfl, rfl⟩, Int.le_of_eq q⟩
  · unfold stbP at hs
    rw [List.any_eq_true] at hs
    obtain ⟨ij, hij, e⟩ := hs
    obtain ⟨g, e⟩ := Option.isSome_iff_exists.mp e
    exact ⟨_, _, Or.inr ⟨ij, hij, g, e, rfl, rfl⟩⟩
end SHP
