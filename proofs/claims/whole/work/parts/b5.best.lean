/-! the next corner of a hull -/
def Hlf (e w : Z2) : Prop := 0 < cr e w ∨ cr e w = 0 ∧ dt e w ≤ 0
theorem e1_id (e u w : Z2) : dt e e * cr u w = dt e u * cr e w - cr e u * dt e w := by unfold dt cr; grind
theorem e2_id (e u w : Z2) : dt e e * dt u w = dt e u * dt e w + cr e u * cr e w := by unfold dt cr; grind
theorem e3_id (e u w : Z2) : cr e u * dt u w = cr e w * dt u u - cr u w * dt e u := by unfold dt cr; grind
theorem nz_zero {e w : Z2} (he : e ≠ (0, 0)) (h1 : cr e w = 0) (h2 : dt e w = 0) : w = (0, 0) := by
  by_cases z : w = (0, 0)
  · exact z
  · exfalso
    have a := (par_self he).2
    have b := (par_self z).2
    have l := lagr e w
    rw [h1, h2] at l
    have := Int.mul_pos a b
    omega
theorem hlf_par {e u w : Z2} (he : e ≠ (0, 0)) (hu : Hlf e u) (hw : Hlf e w) (u0 : u ≠ (0, 0)) (w0 : w ≠ (0, 0)) (z : cr u w = 0) : 0 < dt u w := by
  have ne : dt u w ≠ 0 := fun q => w0 (nz_zero u0 z q)
  have ee := (par_self he).2
  have uu := (par_self u0).2
  have ww := (par_self w0).2
  have a := e3_id e u w
  have b := e3_id e w u
  have c := e2_id e u w
  rw [z, Int.zero_mul, Int.sub_zero] at a
  rw [cr_swap w u, z, Int.neg_zero, Int.zero_mul, Int.sub_zero, dt_comm w u] at b
  unfold Hlf at hu hw
  rcases hu with hu | ⟨hu1, hu2⟩
  · have : 0 ≤ cr e w * dt u u := Int.mul_nonneg (by omega) (Int.le_of_lt uu)
    by_cases q : 0 ≤ dt u w
    · omega
    · have := Int.mul_neg_of_pos_of_neg hu (show dt u w < 0 by omega); omega
  · rcases hw with hw | ⟨hw1, hw2⟩
    · rw [hu1, Int.zero_mul] at b
      exact absurd ((Int.mul_eq_zero.mp b).resolve_left (by omega)) ne
    · rw [hu1, Int.zero_mul, Int.add_zero] at c
      have := Int.mul_nonneg_of_nonpos_of_nonpos hu2 hw2
      by_cases q : 0 ≤ dt u w
      · omega
      · have := Int.mul_neg_of_pos_of_neg ee (show dt u w < 0 by omega); omega
theorem hlf_trans {e b i j : Z2} (he : e ≠ (0, 0)) (hb : Hlf e b) (hi : Hlf e i) (hj : Hlf e j) (b0 : b ≠ (0, 0)) (h1 : cr b i < 0) (h2 : 0 ≤ cr b j) : 0 ≤ cr i j ∧ (cr i j = 0 → j = (0, 0)) := by
  have ee := (par_self he).2
  have ge : ∀ {x : Int}, 0 ≤ dt e e * x → 0 ≤ x := fun {x} h => by
    by_cases q : 0 ≤ x
    · exact q
    · have := Int.mul_neg_of_pos_of_neg ee (show x < 0 by omega); omega
  unfold Hlf at hb hi hj
  rcases hb with hb | ⟨hb1, hb2⟩
  · have p := pl3 i j b (-e.2, e.1)
    have d : ∀ w, dt (-e.2, e.1) w = cr e w := fun w => by unfold dt cr; grind
    rw [d, d, d, cr_swap j b, Int.mul_neg, cr_swap b i, Int.mul_neg] at *
    have n1 : 0 ≤ cr e i * cr b j := Int.mul_nonneg (by omega) h2
    have n2 : 0 ≤ cr e j * cr i b := Int.mul_nonneg (by omega) (by omega)
    have g : 0 ≤ cr i j := by
      by_cases q : 0 ≤ cr i j
      · exact q
      · have := Int.mul_neg_of_pos_of_neg hb (show cr i j < 0 by omega); omega
    refine ⟨g, fun z => ?_⟩
    rw [z, Int.mul_zero] at p
    have z1 : cr e j = 0 := (Int.mul_eq_zero.mp (show cr e j * cr i b = 0 by omega)).resolve_right (by omega)
    by_cases z2 : dt e j = 0
    · exact nz_zero he z1 z2
    · exfalso
      have a := e1_id e b j
      rw [z1, Int.mul_zero] at a
      have m := Int.mul_neg_of_pos_of_neg hb (show dt e j < 0 by omega)
      have bj : 0 < cr b j := by
        have := ge (x := cr b j) (by omega)
        by_cases q : cr b j = 0
        · rw [q, Int.mul_zero] at a; omega
        · omega
      have z3 : cr e i = 0 := (Int.mul_eq_zero.mp (show cr e i * cr b j = 0 by omega)).resolve_right (by omega)
      have a2 := e1_id e b i
      rw [z3, Int.mul_zero] at a2
      have m2 := Int.mul_nonpos_of_nonneg_of_nonpos (Int.le_of_lt hb) (show dt e i ≤ 0 by omega)
      have := ge (x := cr b i) (by omega)
      have := cr_swap b i
      omega
  · have d0 : dt e b < 0 := by
      by_cases q : dt e b = 0
      · exact absurd (nz_zero he hb1 q) b0
      · omega
    have a := e1_id e b i
    have a2 := e1_id e b j
    rw [hb1, Int.zero_mul, Int.sub_zero] at a a2
    have li : 0 < cr e i := by
      by_cases q : cr e i = 0
      · rw [q, Int.mul_zero] at a
        have := ge (x := cr b i) (by omega); omega
      · omega
    have lj : cr e j = 0 := by
      by_cases q : 0 < cr e j
      · have := Int.mul_neg_of_neg_of_pos d0 q
        have := Int.mul_nonneg (Int.le_of_lt ee) h2
        omega
      · omega
    have a3 := e1_id e i j
    rw [lj, Int.mul_zero] at a3
    have m := Int.mul_nonpos_of_nonneg_of_nonpos (Int.le_of_lt li) (show dt e j ≤ 0 by omega)
    refine ⟨ge (by omega), fun z => ?_⟩
    rw [z, Int.mul_zero] at a3
    exact nz_zero he lj ((Int.mul_eq_zero.mp (show cr e i * dt e j = 0 by omega)).resolve_left (by omega))
theorem best {e : Z2} (he : e ≠ (0, 0)) (W : Nat → Z2) : ∀ m, (∀ i, i < m → Hlf e (W i)) → (∀ i, i < m → W i = (0, 0)) ∨ ∃ b, b < m ∧ W b ≠ (0, 0) ∧ ∀ i, i < m → 0 ≤ cr (W b) (W i) ∧ (cr (W b) (W i) = 0 → dt (W i) (W i) ≤ dt (W b) (W b)) := fun m => by
  induction m with
  | zero => intro _; exact Or.inl fun i hi => by omega
  | succ m ih =>
    intro hW
    have lim : ∀ i, i < m + 1 → i < m ∨ i = m := fun i h => by omega
    have z0 : dt ((0, 0) : Z2) (0, 0) = 0 := by unfold dt; simp
    have c0 : ∀ u : Z2, cr u (0, 0) = 0 := fun u => by unfold cr; simp
    by_cases zm : W m = (0, 0)
    · rcases ih (fun i h => hW i (by omega)) with h | ⟨b, h1, h2, h3⟩
      · exact Or.inl fun i hi => by
          rcases lim i hi with q | q
          · exact h i q
          · subst q; exact zm
      · refine Or.inr ⟨b, by omega, h2, fun i hi => ?_⟩
        rcases lim i hi with q | q
        · exact h3 i q
        · subst q
          rw [zm, c0, z0]
          exact ⟨Int.le_refl _, fun _ => dt_sq_nonneg _⟩
    · have selfOk : 0 ≤ cr (W m) (W m) ∧ (cr (W m) (W m) = 0 → dt (W m) (W m) ≤ dt (W m) (W m)) := ⟨by rw [cr_self]; exact Int.le_refl _, fun _ => Int.le_refl _⟩
      rcases ih (fun i h => hW i (by omega)) with h | ⟨b, h1, h2, h3⟩
      · refine Or.inr ⟨m, by omega, zm, fun i hi => ?_⟩
        rcases lim i hi with q | q
        · rw [h i q, c0, z0]; exact ⟨Int.le_refl _, fun _ => dt_sq_nonneg _⟩
        · subst q; exact selfOk
      · have Hb := hW b (by omega)
        have Hm := hW m (by omega)
        rcases Int.lt_trichotomy (cr (W b) (W m)) 0 with c | c | c
        · refine Or.inr ⟨m, by omega, zm, fun i hi => ?_⟩
          rcases lim i hi with q | q
          · obtain ⟨t1, t2⟩ := hlf_trans he Hb Hm (hW i hi) h2 c (h3 i q).1
            exact ⟨t1, fun z => by rw [t2 z, z0]; exact dt_sq_nonneg _⟩
          · subst q; exact selfOk
        · by_cases d : dt (W m) (W m) ≤ dt (W b) (W b)
          · refine Or.inr ⟨b, by omega, h2, fun i hi => ?_⟩
            rcases lim i hi with q | q
            · exact h3 i q
            · subst q; exact ⟨by omega, fun _ => d⟩
          · have P : Par (W b) (W m) := ⟨c, hlf_par he Hb Hm h2 zm c⟩
            obtain ⟨p1, p2, p3⟩ := P.mul
            refine Or.inr ⟨m, by omega, zm, fun i hi => ?_⟩
            rcases lim i hi with q | q
            · obtain ⟨t1, t2⟩ := h3 i q
              have e := p3 (W i)
              have n := Int.mul_nonneg (Int.le_of_lt p2) t1
              refine ⟨?_, fun z => ?_⟩
              · by_cases g : 0 ≤ cr (W m) (W i)
                · exact g
                · have := Int.mul_neg_of_pos_of_neg p1 (show cr (W m) (W i) < 0 by omega); omega
              · rw [z, Int.mul_zero] at e
                have := t2 ((Int.mul_eq_zero.mp e.symm).resolve_left (by omega))
                omega
            · subst q; exact selfOk
        · refine Or.inr ⟨b, by omega, h2, fun i hi => ?_⟩
          rcases lim i hi with q | q
          · exact h3 i q
          · subst q; exact ⟨by omega, fun z => by omega⟩
