/-! the answers on items agree -/
section IQ
variable {M : Nat → SH} {σ : SV} {ρ : RV}
theorem StR.it (H : StR M σ ρ) {i : Nat} (h : i < σ.2.1.length) : SR (itM M σ i) (rit ρ i).1 ∧ itM M σ i ≠ [] ∧ (iX σ i = (rit ρ i).2.1 ∧ iY σ i = (rit ρ i).2.2) ∧ Np (rit ρ i).2 := by
  obtain ⟨⟨a, -⟩, b, c, d⟩ := H.2.1.1.2 i h
  exact ⟨a, b, ⟨congrArg Prod.fst c, congrArg Prod.snd c⟩, d⟩
theorem StR.n (H : StR M σ ρ) : σ.2.1.length = ρ.2.1.length ∧ σ.2.1.length ≤ 8 := by
  have a := H.2.1.1.1
  have b := H.2.1.2
  omega
theorem StR.itm (H : StR M σ ρ) (i : Int32) : Itm σ i ↔ RItm ρ i := by
  unfold Itm RItm
  rw [H.n.1]
theorem Itm.lt (H : StR M σ ρ) {i : Int32} (h : Itm σ i) : nx i < σ.2.1.length := (nat_of h.1 h.2 (by have := H.n; omega)).2
theorem q_itemPlace (H : StR M σ ρ) (i c : Int32) : cItemPlace σ i c = rItemPlace ρ i c := ifC_cong (by rw [H.itm]) (fun h => by
  have t := (H.it (Itm.lt H h.1)).2.2.1
  rw [t.1, t.2]) fun _ => rfl
theorem np_sub {u v : PT} (a : Np u) (b : Np v) : Bd (u.1 - v.1, u.2 - v.2) ∧ Bq (u.1 - v.1, u.2 - v.2) := by
  obtain ⟨a1, a2, a3, a4⟩ := a
  obtain ⟨b1, b2, b3, b4⟩ := b
  have e1 := i32_subE (x := u.1) (y := v.1) (by omega) (by omega) (by omega) (by omega)
  have e2 := i32_subE (x := u.2) (y := v.2) (by omega) (by omega) (by omega) (by omega)
  exact ⟨⟨by dsimp only; omega, by dsimp only; omega, by dsimp only; omega, by dsimp only; omega⟩, by dsimp only; omega, by dsimp only; omega, by dsimp only; omega, by dsimp only; omega⟩
theorem ig_eq (H : StR M σ ρ) {i j : Nat} (hi : i < σ.2.1.length) (hj : j < σ.2.1.length) : (BR (igP M σ i j) ∧ BR (rig ρ i j)) ∧ (0 < (igP M σ i j).2.toInt ∧ 0 < (rig ρ i j).2.toInt) ∧ (igP M σ i j).1.toInt * (rig ρ i j).2.toInt = (rig ρ i j).1.toInt * (igP M σ i j).2.toInt := by
  obtain ⟨a1, a2, ⟨a3, a4⟩, a5⟩ := H.it hi
  obtain ⟨b1, b2, ⟨b3, b4⟩, b5⟩ := H.it hj
  unfold igP rig
  rw [a3, a4, b3, b4]
  exact gap_shape a1 b1 a2 b2 (np_sub b5 a5).1
theorem itemGap_ok (H : StR M σ ρ) {i j : Int32} (hi : RItm ρ i) (hj : RItm ρ j) : OkQ (rig ρ (nx i) (nx j)) ∧ ∀ p, partF (igP M σ (nx i) (nx j)) p = rPart (rig ρ (nx i) (nx j)) p := by
  obtain ⟨⟨b1, b2⟩, ⟨p1, p2⟩, e⟩ := ig_eq H (Itm.lt H ((H.itm i).mpr hi)) (Itm.lt H ((H.itm j).mpr hj))
  exact ⟨b2.ok p2, fun p => part_same (b1.ok p1) (b2.ok p2) e p⟩
theorem q_itemGap (H : StR M σ ρ) (i j p : Int32) : cItemGap M σ i j p = rItemGap ρ i j p := ifC_cong (by rw [H.itm, H.itm]) (fun h => (itemGap_ok H ((H.itm i).mp h.1) ((H.itm j).mp h.2.1)).2 p) fun _ => rfl
theorem pr2_mem {n i j : Nat} {ab : Nat × Nat} (hi : i ≤ n) (hj : i < n → j ≤ n) (h2 : i = n → j ≤ n + 1) (h : ab ∈ pr2 n i j) : ab.1 < n ∧ ab.2 < n := by
  unfold pr2 at h
  rcases List.mem_append.mp h with h | h
  · obtain ⟨a, h1, h3⟩ := List.mem_flatMap.mp h
    obtain ⟨b, h4, rfl⟩ := List.mem_map.mp h3
    have a1 := List.mem_range.mp h1
    have b1 := List.mem_range'_1.mp h4
    dsimp only
    omega
  · obtain ⟨b, h4, rfl⟩ := List.mem_map.mp h
    have b1 := List.mem_range'_1.mp h4
    dsimp only
    by_cases c : i = n
    · have := h2 c; omega
    · have := hj (by omega); omega
theorem frac_lt {a b c d : FQ} (A : BR a) (B : BR b) (C : BR c) (D : BR d) (pa : 0 < a.2.toInt) (pb : 0 < b.2.toInt) (pc : 0 < c.2.toInt) (pd : 0 < d.2.toInt) (e1 : a.1.toInt * b.2.toInt = b.1.toInt * a.2.toInt) (e2 : c.1.toInt * d.2.toInt = d.1.toInt * c.2.toInt) : a.1 * c.2 < c.1 * a.2 ↔ b.1 * d.2 < d.1 * b.2 := by
  have m1 := br_mul A C
  have m2 := br_mul B D
  rw [i64_lt, i64_lt, m1.2, m1.1, m2.2, m2.1]
  generalize a.1.toInt = a1 at *
  generalize a.2.toInt = a2 at *
  generalize b.1.toInt = b1 at *
  generalize b.2.toInt = b2 at *
  generalize c.1.toInt = c1 at *
  generalize c.2.toInt = c2 at *
  generalize d.1.toInt = d1 at *
  generalize d.2.toInt = d2 at *
  have q := Int.mul_pos pb pd
  have q' := Int.mul_pos pa pc
  have f1 : b2 * d2 * (a1 * c2) = a2 * c2 * (b1 * d2) := by
    rw [show b2 * d2 * (a1 * c2) = (a1 * b2) * (c2 * d2) by grind, e1]; grind
  have f2 : b2 * d2 * (c1 * a2) = a2 * c2 * (d1 * b2) := by
    rw [show b2 * d2 * (c1 * a2) = (c1 * d2) * (a2 * b2) by grind, e2]; grind
  constructor
  · intro h
    have := Int.mul_lt_mul_of_pos_left h q
    exact lt_cancel q' (by omega)
  · intro h
    have := Int.mul_lt_mul_of_pos_left h q'
    exact lt_cancel q (by omega)
theorem ten_ne {i j : Nat} (hi : i < 8) (hj : j < 8) : 10 * Int32.ofNat i + Int32.ofNat j ≠ (-1000009 : Int32) := fun q => by
  have a := i32_lt (j := i) (by omega)
  have b := i32_lt (j := j) (by omega)
  have t : (10 : Int32).toInt = 10 := by decide
  have z : (-1000009 : Int32).toInt = -1000009 := by decide
  have m := i32_mulE (x := 10) (y := Int32.ofNat i) (by decide) (by decide) (by omega) (by omega)
  rw [← Int32.toInt_inj, i32_addE (by rw [m.1]; omega) (by rw [m.1]; omega) (by omega) (by omega), m.1, z, a, b, t] at q
  omega
theorem q_closest (H : StR M σ ρ) : cClosest M σ = rClosest ρ := by
  have n8 := H.n
  unfold cClosest rClosest cpGo rcpGo
  rw [← n8.1]
  have go : ∀ (l : List (Nat × Nat)) (s t : Int32 × FQ), (∀ ab, ab ∈ l → ab.1 < σ.2.1.length ∧ ab.2 < σ.2.1.length) → (s.1 = t.1 ∧ ((s.1 = -1000009 ∧ s.2 = (1, 0)) ∨ (s.1 ≠ -1000009 ∧ (BR s.2 ∧ BR t.2) ∧ (0 < s.2.2.toInt ∧ 0 < t.2.2.toInt) ∧ s.2.1.toInt * t.2.2.toInt = t.2.1.toInt * s.2.2.toInt))) → (l.foldl (cpStep M σ) s).1 = (l.foldl (rcpStep ρ) t).1 := fun l => by
    induction l with
    | nil => intro s t _ h; exact h.1
    | cons ab l ih =>
      intro s t hl h
      rw [List.foldl_cons, List.foldl_cons]
      have m := hl ab (List.mem_cons_self ..)
      obtain ⟨⟨g1, g2⟩, ⟨g3, g4⟩, g5⟩ := ig_eq H m.1 m.2
      have ne := ten_ne (i := ab.1) (j := ab.2) (by omega) (by omega)
      refine ih _ _ (fun x hx => hl x (List.mem_cons_of_mem _ hx)) ?_
      obtain ⟨e, h⟩ := h
      unfold cpStep rcpStep
      rcases h with ⟨z, q⟩ | ⟨z, ⟨c1, c2⟩, ⟨c3, c4⟩, c5⟩
      · have cond : (igP M σ ab.1 ab.2).1 * s.2.2 < s.2.1 * (igP M σ ab.1 ab.2).2 := by
          rw [q]
          dsimp only
          rw [Int64.mul_zero, Int64.one_mul, i64_lt, i64_z]
          exact g3
        rw [if_pos cond, if_pos (Or.inl (by rw [← e]; exact z))]
        exact ⟨rfl, Or.inr ⟨ne, ⟨g1, g2⟩, ⟨g3, g4⟩, g5⟩⟩
      · have fl := frac_lt g1 g2 c1 c2 g3 g4 c3 c4 g5 c5
        by_cases cond : (igP M σ ab.1 ab.2).1 * s.2.2 < s.2.1 * (igP M σ ab.1 ab.2).2
        · rw [if_pos cond, if_pos (Or.inr (fl.mp cond))]
          exact ⟨rfl, Or.inr ⟨ne, ⟨g1, g2⟩, ⟨g3, g4⟩, g5⟩⟩
        · rw [if_neg cond, if_neg fun k => by
            rcases k with k | k
            · exact z (by rw [e]; exact k)
            · exact cond (fl.mpr k)]
          exact ⟨e, Or.inr ⟨z, ⟨c1, c2⟩, ⟨c3, c4⟩, c5⟩⟩
  exact go _ _ _ (fun ab h => pr2_mem (Nat.le_refl _) (fun q => absurd q (Nat.lt_irrefl _)) (fun _ => Nat.le_refl _) h) ⟨rfl, Or.inl ⟨rfl, rfl⟩⟩
theorem q_packed (H : StR M σ ρ) : cPacked M σ = rPacked ρ ρ.2.1.length := by
  unfold cPacked rPacked
  rw [← H.n.1]
  refine fold_cong _ _ fun b k hk => ?_
  obtain ⟨a1, -⟩ := H.it hk
  unfold pkItem rpkP
  rw [← a1.1]
  refine fold_cong _ _ fun s i hi => ?_
  rw [area_eq (a1.2 i hi)]
theorem q_free (H : StR M σ ρ) (x : Int32) : cFree M σ x = rFree ρ x := ifC_cong Iff.rfl (fun h => ifC_cong (H.sl h).1.nil (fun _ => rfl) fun n => by
  obtain ⟨e, wq⟩ := H.2.2.1
  have f := (find_eq (sl := ρ.1) H.2.1.1 H.n.2 (H.sl h).1 n wq).2
  have e1 : σ.2.2.1 = ρ.2.2.1 := congrArg Prod.fst e
  have e2 : σ.2.2.2.1 = ρ.2.2.2.1 := congrArg (fun q => q.2.1) e
  have e3 : σ.2.2.2.2 = ρ.2.2.2.2 := congrArg (fun q => q.2.2) e
  rw [e1, e2, e3, f]) fun _ => rfl
end IQ
