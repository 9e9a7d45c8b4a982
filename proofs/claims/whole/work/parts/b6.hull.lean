/-! finitely many points have a hull -/
def Nx (T : Z2 → Prop) (q r : Z2) : Prop := (T r ∧ r ≠ q) ∧ ∀ t, T t → 0 ≤ cr (zs r q) (zs t q) ∧ (cr (zs r q) (zs t q) = 0 → dt (zs t q) (zs t q) ≤ dt (zs r q) (zs r q))
theorem zs_ne {u v : Z2} (h : u ≠ v) : zs u v ≠ (0, 0) := fun q => h (by
  have a := congrArg Prod.fst q
  have b := congrArg Prod.snd q
  unfold zs at a b
  dsimp only at a b
  exact Prod.ext (by omega) (by omega))
theorem zs_eq {u v : Z2} (q : zs u v = (0, 0)) : u = v := by
  have a := congrArg Prod.fst q
  have b := congrArg Prod.snd q
  unfold zs at a b
  dsimp only at a b
  exact Prod.ext (by omega) (by omega)
section HU
variable {T : Z2 → Prop} {l q0 : Z2}
/-- what is asked of the points -/
def HuT (l : Z2) (T : Z2 → Prop) (q0 : Z2) : Prop := (T q0 ∧ ∀ t, T t → t ≠ q0 → dt l q0 < dt l t) ∧ (∀ s t, T s → T t → s ≠ t → dt l s ≠ dt l t) ∧ (∃ (P : Nat → Z2) (n : Nat), ∀ t, T t ↔ ∃ i, i < n ∧ P i = t) ∧ (∃ B : Int, ∀ t, T t → -B ≤ dt l t ∧ dt l t ≤ B) ∧ ∀ c b : Z2, c ≠ (0, 0) → ∃ t, T t ∧ cr c (zs t b) ≠ 0
theorem next_ex (H : HuT l T q0) {e q : Z2} (he : e ≠ (0, 0)) (hw : ∀ t, T t → Hlf e (zs t q)) : ∃ r, Nx T q r := by
  obtain ⟨P, n, hP⟩ := H.2.2.1
  rcases best he (fun i => zs (P i) q) n (fun i hi => hw _ ((hP _).mpr ⟨i, hi, rfl⟩)) with h | ⟨b, h1, h2, h3⟩
  · exfalso
    obtain ⟨t, ht, hc⟩ := H.2.2.2.2 e q he
    obtain ⟨i, hi, rfl⟩ := (hP t).mp ht
    have : zs (P i) q = (0, 0) := h i hi
    rw [this] at hc
    exact hc (by unfold cr; simp)
  · refine ⟨P b, ⟨(hP _).mpr ⟨b, h1, rfl⟩, fun q => h2 (by rw [q]; unfold zs; simp)⟩, fun t ht => ?_⟩
    obtain ⟨i, hi, rfl⟩ := (hP t).mp ht
    exact h3 i hi
theorem Nx.half {q r : Z2} (h : Nx T q r) : zs r q ≠ (0, 0) ∧ ∀ t, T t → Hlf (zs r q) (zs t r) := by
  have nz := zs_ne h.1.2
  refine ⟨nz, fun t ht => ?_⟩
  obtain ⟨a, b⟩ := h.2 t ht
  have e1 : cr (zs r q) (zs t r) = cr (zs r q) (zs t q) := by unfold cr zs; grind
  have e2 : dt (zs r q) (zs t r) = dt (zs r q) (zs t q) - dt (zs r q) (zs r q) := by unfold dt zs; grind
  by_cases c : cr (zs r q) (zs t q) = 0
  · refine Or.inr ⟨by omega, ?_⟩
    have c2 := b c
    have l := cauchy (zs r q) (zs t q)
    have ee := (par_self nz).2
    rw [e2]
    by_cases g : dt (zs r q) (zs t q) ≤ dt (zs r q) (zs r q)
    · omega
    · exfalso
      have m1 := Int.mul_le_mul_of_nonneg_left c2 (Int.le_of_lt ee)
      have m2 := sq_le_sq (a := dt (zs r q) (zs r q) + 1) (b := dt (zs r q) (zs t q)) (by omega) (by omega)
      have e3 : (dt (zs r q) (zs r q) + 1) * (dt (zs r q) (zs r q) + 1) = dt (zs r q) (zs r q) * dt (zs r q) (zs r q) + 2 * dt (zs r q) (zs r q) + 1 := by grind
      omega
  · exact Or.inl (by omega)
noncomputable def nxC (T : Z2 → Prop) (q : Z2) : Z2 := @dite _ (∃ r, Nx T q r) (Classical.propDecidable _) (fun h => Classical.choose h) (fun _ => q)
theorem nxC_ok {q : Z2} (h : ∃ r, Nx T q r) : Nx T q (nxC T q) := by
  unfold nxC
  rw [dif_pos h]
  exact Classical.choose_spec h
noncomputable def seqC (T : Z2 → Prop) (q0 : Z2) : Nat → Z2
  | 0 => q0
  | k + 1 => nxC T (seqC T q0 k)
theorem seq_nx (H : HuT l T q0) : ∀ k, Nx T (seqC T q0 k) (seqC T q0 (k + 1)) := fun k => by
  induction k with
  | zero =>
    refine nxC_ok (next_ex H (e := (l.2, -l.1)) (fun q => ?_) fun t ht => ?_)
    · have a := congrArg Prod.fst q
      have b := congrArg Prod.snd q
      dsimp only at a b
      obtain ⟨t, ht, hc⟩ := H.2.2.2.2 (1, 0) q0 (by decide)
      have ne : t ≠ q0 := fun q => hc (by rw [q]; unfold cr zs; grind)
      have := H.1.2 t ht ne
      have z : ∀ w, dt l w = 0 := fun w => by unfold dt; rw [show l.1 = 0 by omega, a]; simp
      rw [z, z] at this; omega
    · show Hlf (l.2, -l.1) (zs t q0)
      have e : cr (l.2, -l.1) (zs t q0) = dt l t - dt l q0 := by unfold cr dt zs; grind
      by_cases c : t = q0
      · subst c
        have z : zs t t = (0, 0) := by unfold zs; simp
        rw [z]
        exact Or.inr ⟨by unfold cr; simp, by unfold dt; simp⟩
      · have := H.1.2 t ht c
        exact Or.inl (by omega)
  | succ k ih => exact nxC_ok (next_ex H ih.half.1 ih.half.2)
theorem seq_per {k K : Nat} (h : seqC T q0 K = q0) : ∀ j, seqC T q0 (j + K) = seqC T q0 j := fun j => by
  induction j with
  | zero => rw [Nat.zero_add]; exact h
  | succ j ih =>
    rw [show j + 1 + K = (j + K) + 1 by omega]
    show nxC T (seqC T q0 (j + K)) = nxC T (seqC T q0 j)
    rw [ih]
theorem first_such {P : Nat → Prop} (h : ∃ k, P k) : ∃ k, P k ∧ ∀ j, j < k → ¬ P j := by
  obtain ⟨k, hk⟩ := h
  induction k using Nat.strongRecOn with
  | _ k ih =>
    by_cases c : ∃ j, j < k ∧ P j
    · obtain ⟨j, h1, h2⟩ := c
      exact ih j h1 h2
    · exact ⟨k, hk, fun j hj q => c ⟨j, hj, q⟩⟩
theorem hull_ex (H : HuT l T q0) : ∃ K V, Low l K V ∧ V 0 = q0 ∧ Hul K V T := by
  obtain ⟨V, hV⟩ : ∃ V, V = seqC T q0 := ⟨_, rfl⟩
  have N : ∀ k, Nx T (V k) (V (k + 1)) := fun k => by rw [hV]; exact seq_nx H k
  have V0 : V 0 = q0 := by rw [hV]; rfl
  have hT : ∀ k, T (V k) := fun k => by
    cases k with
    | zero => rw [V0]; exact H.1.1
    | succ k => exact (N k).1.1
  obtain ⟨B, hB⟩ := H.2.2.2.1
  have left : ∀ k t, T t → 0 ≤ cr (ed V k) (zs t (V k)) := fun k t ht => ((N k).2 t ht).1
  have sg : ∀ k, dt l (ed V k) ≠ 0 := fun k => by
    have := H.2.1 _ _ (hT (k + 1)) (hT k) (N k).1.2
    show dt l (zs (V (k + 1)) (V k)) ≠ 0
    rw [dt_zs]; omega
  have hed : ∀ k, dt l (ed V k) = dt l (V (k + 1)) - dt l (V k) := fun k => dt_zs ..
  have up0 : 0 < dt l (ed V 0) := by
    have := H.1.2 _ (hT (0 + 1)) (by have := (N 0).1.2; rw [V0] at this; exact this)
    rw [hed, V0]; omega
  have dn : ∃ k, dt l (ed V k) < 0 := by
    by_cases c : ∃ k, dt l (ed V k) < 0
    · exact c
    · exfalso
      have gr : ∀ k : Nat, dt l (V 0) + k ≤ dt l (V k) := fun k => by
        induction k with
        | zero => simp
        | succ k ih =>
          have a := hed k
          have b := sg k
          have d : ¬ dt l (ed V k) < 0 := fun q => c ⟨k, q⟩
          omega
      have a := gr (B.toNat + B.toNat + 1)
      have b1 := hB _ (hT 0)
      have b2 := hB _ (hT (B.toNat + B.toNat + 1))
      omega
  obtain ⟨u, hu, hu'⟩ := first_such dn
  have u1 : 1 ≤ u := by
    by_cases c : u = 0
    · subst c; omega
    · omega
  -- once down, down until the lowest
  have keep : ∀ k, dt l (ed V k) < 0 → V (k + 1) ≠ q0 → dt l (ed V (k + 1)) < 0 := fun k h1 h2 => by
    by_cases c : dt l (ed V (k + 1)) < 0
    · exact c
    · exfalso
      have f := sg (k + 1)
      have lw : ∀ t, T t → 0 ≤ cr (ed V k) (zs t (V (k + 1))) := fun t ht => by
        have := left k t ht
        have e : cr (ed V k) (zs t (V (k + 1))) = cr (ed V k) (zs t (V k)) := by unfold ed cr zs; grind
        omega
      have t0 : 0 ≤ cr (ed V k) (ed V (k + 1)) := lw _ (hT (k + 2))
      by_cases z : cr (ed V k) (ed V (k + 1)) = 0
      · obtain ⟨t, ht, hne⟩ := H.2.2.2.2 (ed V k) (V (k + 1)) (nz_of (l := l) (by omega))
        exact hne (opp_zero z (Or.inr ⟨h1, by omega⟩) (lw t ht) (left (k + 1) t ht))
      · have c := cone_dt (ed V k) (ed V (k + 1)) (zs q0 (V (k + 1))) l
        have m1 := Int.mul_nonneg (lw q0 H.1.1) (show 0 ≤ dt l (ed V (k + 1)) by omega)
        have m2 := Int.mul_nonpos_of_nonneg_of_nonpos (left (k + 1) q0 H.1.1) (Int.le_of_lt h1)
        have lt := H.1.2 _ (hT (k + 1)) h2
        have m3 := Int.mul_neg_of_pos_of_neg (show 0 < cr (ed V k) (ed V (k + 1)) by omega) (show dt l (zs q0 (V (k + 1))) < 0 by rw [dt_zs]; omega)
        omega
  have back : ∃ k, u < k ∧ V k = q0 := by
    by_cases c : ∃ k, u < k ∧ V k = q0
    · exact c
    · exfalso
      have gr : ∀ k : Nat, dt l (ed V (u + k)) < 0 ∧ dt l (V (u + k)) + k ≤ dt l (V u) := fun k => by
        induction k with
        | zero => exact ⟨hu, by simp⟩
        | succ k ih =>
          have a := hed (u + k)
          refine ⟨keep (u + k) ih.1 fun q => c ⟨u + k + 1, by omega, q⟩, ?_⟩
          rw [← Nat.add_assoc]
          omega
      have a := (gr (B.toNat + B.toNat + 1)).2
      have b1 := hB _ (hT u)
      have b2 := hB _ (hT (u + (B.toNat + B.toNat + 1)))
      omega
  obtain ⟨K, ⟨hK1, hK2⟩, hK3⟩ := first_such back
  have down : ∀ k, u ≤ k → k < K → dt l (ed V k) < 0 := fun k => by
    induction k with
    | zero => intro h1 h2; omega
    | succ k ih =>
      intro h1 h2
      by_cases c : u = k + 1
      · subst c; exact hu
      · exact keep k (ih (by omega) (by omega)) fun q => hK3 (k + 1) h2 ⟨by omega, q⟩
  have per : ∀ k, V (k + K) = V k := fun k => by
    rw [hV] at hK2 ⊢
    exact seq_per (k := 0) hK2 k
  have srt : ∀ k, k + 1 < K → Blt l (ed V k) (ed V (k + 1)) := fun k hk => by
    by_cases c1 : k < u
    · have a : 0 < dt l (ed V k) := by
        have := hu' k c1
        have := sg k; omega
      by_cases c2 : k + 1 < u
      · have b : 0 < dt l (ed V (k + 1)) := by
          have := hu' (k + 1) c2
          have := sg (k + 1); omega
        refine Or.inr ⟨?_, Or.inl ⟨a, b⟩⟩
        by_cases z : cr (ed V k) (ed V (k + 1)) = 0
        · exfalso
          have d := same_half z (Or.inl ⟨a, b⟩)
          have n := (N k).2 _ (hT (k + 2))
          have e1 : cr (zs (V (k + 1)) (V k)) (zs (V (k + 2)) (V k)) = cr (ed V k) (ed V (k + 1)) := by unfold ed cr zs; grind
          have e2 : dt (zs (V (k + 2)) (V k)) (zs (V (k + 2)) (V k)) = dt (zs (V (k + 1)) (V k)) (zs (V (k + 1)) (V k)) + 2 * dt (ed V k) (ed V (k + 1)) + dt (ed V (k + 1)) (ed V (k + 1)) := by unfold ed dt zs; grind
          have n2 := n.2 (by omega)
          have := dt_sq_nonneg (ed V (k + 1))
          omega
        · have := left (k + 1) (V k) (hT k)
          have w := left k (V (k + 2)) (hT (k + 2))
          have e1 : cr (ed V k) (zs (V (k + 2)) (V k)) = cr (ed V k) (ed V (k + 1)) := by unfold ed cr zs; grind
          omega
      · have e : u = k + 1 := by omega
        subst e
        exact Or.inl ⟨a, hu⟩
    · have a := down k (by omega) (by omega)
      have b := down (k + 1) (by omega) hk
      refine Or.inr ⟨?_, Or.inr ⟨a, b⟩⟩
      by_cases z : cr (ed V k) (ed V (k + 1)) = 0
      · exfalso
        have d := same_half z (Or.inr ⟨a, b⟩)
        have n := (N k).2 _ (hT (k + 2))
        have e1 : cr (zs (V (k + 1)) (V k)) (zs (V (k + 2)) (V k)) = cr (ed V k) (ed V (k + 1)) := by unfold ed cr zs; grind
        have e2 : dt (zs (V (k + 2)) (V k)) (zs (V (k + 2)) (V k)) = dt (zs (V (k + 1)) (V k)) (zs (V (k + 1)) (V k)) + 2 * dt (ed V k) (ed V (k + 1)) + dt (ed V (k + 1)) (ed V (k + 1)) := by unfold ed dt zs; grind
        have n2 := n.2 (by omega)
        have := dt_sq_nonneg (ed V (k + 1))
        omega
      · have w := left k (V (k + 2)) (hT (k + 2))
        have e1 : cr (ed V k) (zs (V (k + 2)) (V k)) = cr (ed V k) (ed V (k + 1)) := by unfold ed cr zs; grind
        omega
  have R : Rnd l K V T := ⟨⟨by omega, per, hT⟩, left, srt, ⟨up0, down (K - 1) (by omega) (by omega)⟩, H.2.2.2.2⟩
  have L : Low l K V := R.low fun v hv => by
    have hKp : 0 < K := by omega
    have := R.inj (u := v) (v := 0) (by rw [Nat.zero_mod]; exact hv)
    rw [V0] at this ⊢
    exact H.1.2 _ (hT v) this
  exact ⟨K, V, L, V0, L.1, hT, left⟩
end HU
