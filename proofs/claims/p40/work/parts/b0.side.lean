/-! a point strictly, or weakly, inside a polygon: the polygon's own edges, and a set of directions -/
def Par (c e : Z2) : Prop := cr c e = 0 ∧ 0 < dt c e
theorem dt_comm (u v : Z2) : dt u v = dt v u := by unfold dt; grind
theorem Par.mul {c e : Z2} (h : Par c e) : 0 < dt c e ∧ 0 < dt e e ∧ ∀ w, dt c e * cr e w = dt e e * cr c w := by
  refine ⟨h.2, ?_, fun w => ?_⟩
  · have n := dt_sq_nonneg e
    by_cases z : dt e e = 0
    · exfalso
      have p := h.2
      have s1 : 0 ≤ e.1 * e.1 := by
        rcases Int.le_total 0 e.1 with h | h
        · exact Int.mul_nonneg h h
        · exact Int.mul_nonneg_of_nonpos_of_nonpos h h
      have s2 : 0 ≤ e.2 * e.2 := by
        rcases Int.le_total 0 e.2 with h | h
        · exact Int.mul_nonneg h h
        · exact Int.mul_nonneg_of_nonpos_of_nonpos h h
      unfold dt at z p
      have z1 : e.1 = 0 := by
        rcases Int.mul_eq_zero.mp (by omega : e.1 * e.1 = 0) with q | q <;> exact q
      have z2 : e.2 = 0 := by
        rcases Int.mul_eq_zero.mp (by omega : e.2 * e.2 = 0) with q | q <;> exact q
      rw [z1, z2] at p
      simp at p
    · omega
  · have k := cone_dt e c w e
    have sw := cr_swap e c
    have h1 := h.1
    have z : cr e c = 0 := by omega
    rw [z, Int.zero_mul, dt_comm e c, Int.mul_comm (cr e w), Int.mul_comm (cr c w)] at k
    omega
theorem par_self {e : Z2} (h : e ≠ (0, 0)) : Par e e := by
  refine ⟨cr_self e, ?_⟩
  have n := dt_sq_nonneg e
  by_cases z : dt e e = 0
  · exfalso
    have s1 : 0 ≤ e.1 * e.1 := by
      rcases Int.le_total 0 e.1 with h | h
      · exact Int.mul_nonneg h h
      · exact Int.mul_nonneg_of_nonpos_of_nonpos h h
    have s2 : 0 ≤ e.2 * e.2 := by
      rcases Int.le_total 0 e.2 with h | h
      · exact Int.mul_nonneg h h
      · exact Int.mul_nonneg_of_nonpos_of_nonpos h h
    unfold dt at z
    have z1 : e.1 = 0 := by
      rcases Int.mul_eq_zero.mp (by omega : e.1 * e.1 = 0) with q | q <;> exact q
    have z2 : e.2 = 0 := by
      rcases Int.mul_eq_zero.mp (by omega : e.2 * e.2 = 0) with q | q <;> exact q
    exact h (Prod.ext z1 z2)
  · omega
/-- points that lie left of all edges of a polygon whose corners are among them -/
def Hul (n : Nat) (V : Nat → Z2) (T : Z2 → Prop) : Prop := Cvx n V ∧ (∀ k, T (V k)) ∧ ∀ k t, T t → 0 ≤ cr (ed V k) (zs t (V k))
/-- a set of directions that has each of the polygon's edges -/
def Dir (V : Nat → Z2) (N : Z2 → Prop) : Prop := (∀ c, N c → c ≠ (0, 0)) ∧ ∀ k, ∃ c, N c ∧ Par c (ed V k)
theorem nrm_ne {c : Z2} (h : c ≠ (0, 0)) : ((c.2, -c.1) : Z2) ≠ (0, 0) := fun q => h (by
  have a := congrArg Prod.fst q
  have b := congrArg Prod.snd q
  dsimp only at a b
  exact Prod.ext (by dsimp only; omega) (by dsimp only; omega))
theorem dt_nrm (c w : Z2) : dt (c.2, -c.1) w = -cr c w := by unfold dt cr; grind
theorem Cvx.inner0 {n : Nat} {f : Nat → Z2} (H : Cvx n f) {p : Z2} (hp : ∀ e, 0 ≤ cr (ed f e) (zs p (f e))) (d : Z2) : ∃ v, dt d p ≤ dt d (f v) := by
  obtain ⟨k, hk⟩ := H.max d
  refine ⟨k + 1, ?_⟩
  have t := H.turn k
  have a := hp k
  have b := hp (k + 1)
  have a' : 0 ≤ cr (ed f k) (zs p (f (k + 1))) := by
    have : cr (ed f k) (zs p (f (k + 1))) = cr (ed f k) (zs p (f k)) := by unfold ed cr zs; grind
    omega
  have e1 : 0 ≤ dt d (ed f k) := by have := hk k; show 0 ≤ dt d (zs (f (k + 1)) (f k)); rw [dt_zs]; omega
  have e2 : dt d (ed f (k + 1)) ≤ 0 := by have := hk (k + 2); show dt d (zs (f (k + 2)) (f (k + 1))) ≤ 0; rw [dt_zs]; omega
  have c := cone_dt (ed f k) (ed f (k + 1)) (zs p (f (k + 1))) d
  have m1 : cr (ed f k) (zs p (f (k + 1))) * dt d (ed f (k + 1)) ≤ 0 := Int.mul_nonpos_of_nonneg_of_nonpos (by omega) e2
  have m2 : 0 ≤ cr (ed f (k + 1)) (zs p (f (k + 1))) * dt d (ed f k) := Int.mul_nonneg (by omega) e1
  have le := le_of_mul t (by omega : cr (ed f k) (ed f (k + 1)) * dt d (zs p (f (k + 1))) ≤ 0)
  rw [dt_zs] at le
  omega
section IN
variable {n : Nat} {V : Nat → Z2} {T N : Z2 → Prop}
theorem in_strict (H : Hul n V T) (D : Dir V N) (p : Z2) : (∀ k, 0 < cr (ed V k) (zs p (V k))) ↔ ∀ c, N c → ∃ t, T t ∧ cr c t < cr c p := by
  constructor
  · intro h c hc
    obtain ⟨v, hv⟩ := H.1.inner h (nrm_ne (D.1 c hc))
    rw [dt_nrm, dt_nrm] at hv
    exact ⟨_, H.2.1 v, by omega⟩
  · intro h k
    obtain ⟨c, hc, hp⟩ := D.2 k
    obtain ⟨t, ht, lt⟩ := h c hc
    obtain ⟨m1, m2, m3⟩ := hp.mul
    have w := H.2.2 k t ht
    have m := m3 (zs p t)
    rw [cr_zs c] at m
    have q := Int.mul_pos m2 (by omega : 0 < cr c p - cr c t)
    rw [← m] at q
    have := pos_of_mul m1 q
    rw [cr_zs] at this w ⊢
    omega
theorem in_weak (H : Hul n V T) (D : Dir V N) (p : Z2) : (∀ k, 0 ≤ cr (ed V k) (zs p (V k))) ↔ ∀ c, N c → ∃ t, T t ∧ cr c t ≤ cr c p := by
  constructor
  · intro h c hc
    obtain ⟨v, hv⟩ := H.1.inner0 h (c.2, -c.1)
    rw [dt_nrm, dt_nrm] at hv
    exact ⟨_, H.2.1 v, by omega⟩
  · intro h k
    obtain ⟨c, hc, hp⟩ := D.2 k
    obtain ⟨t, ht, lt⟩ := h c hc
    obtain ⟨m1, m2, m3⟩ := hp.mul
    have w := H.2.2 k t ht
    have m := m3 (zs t p)
    rw [cr_zs c] at m
    have q := Int.mul_nonpos_of_nonneg_of_nonpos (Int.le_of_lt m2) (by omega : cr c t - cr c p ≤ 0)
    rw [← m] at q
    have := le_of_mul m1 q
    rw [cr_zs] at this w ⊢
    omega
end IN
