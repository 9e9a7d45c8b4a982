/-! a round of sorted edges with all points on its left is a strictly convex polygon -/
section RD
variable {l : Z2} {K : Nat} {V : Nat → Z2} {T : Z2 → Prop}
/-- what is asked of the round -/
def Rnd (l : Z2) (K : Nat) (V : Nat → Z2) (T : Z2 → Prop) : Prop := (2 ≤ K ∧ (∀ k, V (k + K) = V k) ∧ ∀ k, T (V k)) ∧ (∀ k t, T t → 0 ≤ cr (ed V k) (zs t (V k))) ∧ (∀ k, k + 1 < K → Blt l (ed V k) (ed V (k + 1))) ∧ (0 < dt l (ed V 0) ∧ dt l (ed V (K - 1)) < 0) ∧ ∀ c b : Z2, c ≠ (0, 0) → ∃ t, T t ∧ cr c (zs t b) ≠ 0
theorem Rnd.ed_per (H : Rnd l K V T) (k : Nat) : ed V (k + K) = ed V k := by
  unfold ed
  rw [show k + K + 1 = k + 1 + K by omega, H.1.2.1, H.1.2.1]
theorem Rnd.per (H : Rnd l K V T) : ∀ q k, V (k + K * q) = V k := fun q => by
  induction q with
  | zero => intro k; rfl
  | succ q ih => intro k; rw [Nat.mul_succ, ← Nat.add_assoc, H.1.2.1, ih]
theorem Rnd.mod (H : Rnd l K V T) (k : Nat) : V (k % K) = V k := by
  have h := H.per (k / K) (k % K)
  rw [Nat.mod_add_div] at h
  exact h.symm
theorem Rnd.ed_mod (H : Rnd l K V T) (k : Nat) : ed V (k % K) = ed V k := by
  have a := H.mod k
  have b : V (k % K + 1) = V (k + 1) := by
    have h := H.per (k / K) (k % K + 1)
    rw [show k % K + 1 + K * (k / K) = (k % K + K * (k / K)) + 1 by omega, Nat.mod_add_div] at h
    exact h.symm
  unfold ed; rw [a, b]
theorem Rnd.srt (H : Rnd l K V T) {k : Nat} : ∀ {v : Nat}, k < v → v < K → Blt l (ed V k) (ed V v) := fun {v} => by
  induction v with
  | zero => intro h; omega
  | succ v ih =>
    intro h1 h2
    by_cases c : k = v
    · subst c; exact H.2.2.1 k h2
    · exact (ih (by omega) (by omega)).lt (H.2.2.1 v h2)
theorem nz_of {w : Z2} (h : dt l w ≠ 0) : w ≠ (0, 0) := fun e => by rw [e] at h; exact h (by unfold dt; simp)
theorem opp_zero {e e' w : Z2} (h0 : cr e e' = 0) (hs : 0 < dt l e ∧ dt l e' < 0 ∨ dt l e < 0 ∧ 0 < dt l e') (x : 0 ≤ cr e w) (y : 0 ≤ cr e' w) : cr e w = 0 := by
  have p := pl3 e e' w l
  rw [h0, Int.mul_zero, cr_swap w e, Int.mul_neg] at p
  by_cases c : 0 < cr e w
  · exfalso
    rcases hs with hs | hs
    · have m1 := Int.mul_nonneg (Int.le_of_lt hs.1) y
      have m2 := Int.mul_neg_of_neg_of_pos hs.2 c
      omega
    · have m1 := Int.mul_nonpos_of_nonpos_of_nonneg (Int.le_of_lt hs.1) y
      have m2 := Int.mul_pos hs.2 c
      omega
  · omega
theorem Rnd.turn (H : Rnd l K V T) (k : Nat) : 0 < cr (ed V k) (ed V (k + 1)) := by
  have hK := H.1.1
  -- for a k below K
  have key : ∀ k, k < K → 0 < cr (ed V k) (ed V (k + 1)) := fun k hk => by
    have w : ∀ t, T t → 0 ≤ cr (ed V k) (zs t (V (k + 1))) := fun t ht => by
      have := H.2.1 k t ht
      have e : cr (ed V k) (zs t (V (k + 1))) = cr (ed V k) (zs t (V k)) := by unfold ed cr zs; grind
      omega
    have ge : 0 ≤ cr (ed V k) (ed V (k + 1)) := w _ (H.1.2.2 (k + 2))
    by_cases c : 0 < cr (ed V k) (ed V (k + 1))
    · exact c
    · exfalso
      have z : cr (ed V k) (ed V (k + 1)) = 0 := by omega
      have hs : 0 < dt l (ed V k) ∧ dt l (ed V (k + 1)) < 0 ∨ dt l (ed V k) < 0 ∧ 0 < dt l (ed V (k + 1)) := by
        by_cases ck : k + 1 < K
        · have := H.2.2.1 k ck
          unfold Blt at this; omega
        · have e : k + 1 = 0 + K := by omega
          rw [e, H.ed_per, show k = K - 1 by omega]
          exact Or.inr ⟨H.2.2.2.1.2, H.2.2.2.1.1⟩
      obtain ⟨t, ht, hne⟩ := H.2.2.2.2 (ed V k) (V (k + 1)) (nz_of (l := l) (by omega))
      exact hne (opp_zero z hs (w t ht) (H.2.1 (k + 1) t ht))
  have := key (k % K) (Nat.mod_lt _ (by omega))
  rw [H.ed_mod] at this
  have e : ed V (k % K + 1) = ed V (k + 1) := by
    rw [← H.ed_mod (k % K + 1), ← H.ed_mod (k + 1), Nat.mod_add_mod]
  rw [e] at this
  exact this
theorem Rnd.dir_ne (H : Rnd l K V T) {u v : Nat} (hne : u % K ≠ v % K) (hs : 0 < dt l (ed V u) ∧ 0 < dt l (ed V v) ∨ dt l (ed V u) < 0 ∧ dt l (ed V v) < 0) : cr (ed V u) (ed V v) ≠ 0 := by
  have hK := H.1.1
  have hu := Nat.mod_lt u (show K > 0 by omega)
  have hv := Nat.mod_lt v (show K > 0 by omega)
  rw [← H.ed_mod u, ← H.ed_mod v] at hs ⊢
  rcases Nat.lt_or_gt_of_ne hne with c | c
  · have := H.srt c hv
    unfold Blt at this; omega
  · have := H.srt c hu
    have sw := cr_swap (ed V (u % K)) (ed V (v % K))
    unfold Blt at this; omega
theorem Rnd.sgn (H : Rnd l K V T) (u : Nat) : dt l (ed V u) ≠ 0 := by
  have hK := H.1.1
  rw [← H.ed_mod u]
  have hu := Nat.mod_lt u (show K > 0 by omega)
  generalize u % K = k at *
  by_cases c : k + 1 < K
  · have := H.2.2.1 k c
    unfold Blt at this; omega
  · rw [show k = K - 1 by omega]
    have := H.2.2.2.1.2; omega
/-- the points of the round differ -/
theorem Rnd.inj (H : Rnd l K V T) {u v : Nat} (hne : u % K ≠ v % K) : V u ≠ V v := fun q => by
  have hK := H.1.1
  obtain ⟨v', e'⟩ : ∃ v', v + K = v' + 1 := ⟨v + K - 1, by omega⟩
  have pe : ∀ x, 0 ≤ cr (ed V v') (zs (V x) (V v)) := fun x => by
    have := H.2.1 v' (V x) (H.1.2.2 x)
    have e1 : V (v' + 1) = V v := by rw [← e', H.1.2.1]
    have e : cr (ed V v') (zs (V x) (V v)) = cr (ed V v') (zs (V x) (V v')) := by
      rw [← e1]; unfold ed cr zs; grind
    omega
  have t := H.turn v'
  have ev : ed V (v' + 1) = ed V v := by rw [← e', H.ed_per]
  rw [ev] at t
  have a : 0 ≤ cr (ed V v') (ed V u) := by
    have := pe (u + 1); rw [← q] at this; exact this
  have b : 0 ≤ cr (ed V v) (ed V u) := by
    have := H.2.1 v (V (u + 1)) (H.1.2.2 _); rw [← q] at this; exact this
  have c : 0 ≤ cr (ed V u) (ed V v) := by
    have := H.2.1 u (V (v + 1)) (H.1.2.2 _); rw [q] at this; exact this
  have sw := cr_swap (ed V u) (ed V v)
  have z : cr (ed V u) (ed V v) = 0 := by omega
  have su := H.sgn u
  have sv := H.sgn v
  have nd := H.dir_ne hne
  have p := pl3 (ed V u) (ed V v) (ed V v') l
  rw [z, Int.mul_zero, cr_swap (ed V v) (ed V v'), Int.mul_neg] at p
  rcases Int.lt_or_gt_of_ne su with x | x
  · have y : 0 < dt l (ed V v) := by
      rcases Int.lt_or_gt_of_ne sv with y | y
      · exact absurd z (nd (Or.inr ⟨x, y⟩))
      · exact y
    have m1 := Int.mul_neg_of_neg_of_pos x t
    have m2 := Int.mul_nonneg (Int.le_of_lt y) a
    omega
  · have y : dt l (ed V v) < 0 := by
      rcases Int.lt_or_gt_of_ne sv with y | y
      · exact y
      · exact absurd z (nd (Or.inl ⟨x, y⟩))
    have m1 := Int.mul_pos x t
    have m2 := Int.mul_nonpos_of_nonpos_of_nonneg (Int.le_of_lt y) a
    omega
end RD
