/-! the round is strictly convex -/
section RD2
variable {l : Z2} {K : Nat} {V : Nat → Z2} {T : Z2 → Prop}
theorem line_eq {p c w : Z2} (h : cr c w = 0) : (cr p c * w.1 = cr p w * c.1) ∧ cr p c * w.2 = cr p w * c.2 := by
  unfold cr at *
  constructor <;> grind
theorem Rnd.three (H : Rnd l K V T) : 3 ≤ K := by
  have hK := H.1.1
  by_cases c : K = 2
  · subst c
    exfalso
    have t := H.turn 0
    have e : V 2 = V 0 := H.1.2.1 0
    have : cr (ed V 0) (ed V 1) = 0 := by
      show cr (zs (V 1) (V 0)) (zs (V 2) (V 1)) = 0
      rw [e]; unfold cr zs; grind
    have t : 0 < cr (ed V 0) (ed V 1) := t
    omega
  · omega
theorem Rnd.cvx (H : Rnd l K V T) : Cvx K V := by
  have hK := H.three
  refine ⟨hK, H.1.2.1, fun e v h1 h2 => ?_⟩
  have w0 := H.2.1 e (V v) (H.1.2.2 v)
  by_cases pos : 0 < cr (ed V e) (zs (V v) (V e))
  · exact pos
  · exfalso
    have z : cr (ed V e) (zs (V v) (V e)) = 0 := by omega
    have ne1 : e % K ≠ v % K := fun q => by
      have := Nat.sub_mod_eq_zero_of_mod_eq q.symm
      have h3 := Nat.mod_eq_of_lt (show v - e < K by omega)
      omega
    have ne2 : (e + 1) % K ≠ v % K := fun q => by
      have := Nat.sub_mod_eq_zero_of_mod_eq q.symm
      have h3 := Nat.mod_eq_of_lt (show v - (e + 1) < K by omega)
      omega
    have i1 := H.inj ne1
    have i2 := H.inj ne2
    -- the edges before e and before v
    obtain ⟨e', he'⟩ : ∃ e', e + K = e' + 1 := ⟨e + K - 1, by omega⟩
    obtain ⟨v', hv'⟩ : ∃ v', v + K = v' + 1 := ⟨v + K - 1, by omega⟩
    have tp : 0 < cr (ed V e') (ed V e) := by
      have := H.turn e'
      rw [← he', H.ed_per] at this; exact this
    have tv : 0 < cr (ed V v') (ed V v) := by
      have := H.turn v'
      rw [← hv', H.ed_per] at this; exact this
    have ts := H.turn e
    have pe : 0 ≤ cr (ed V e') (zs (V v) (V e)) := by
      have := H.2.1 e' (V v) (H.1.2.2 v)
      have e1 : V (e' + 1) = V e := by rw [← he', H.1.2.1]
      have q : cr (ed V e') (zs (V v) (V e)) = cr (ed V e') (zs (V v) (V e')) := by
        rw [← e1]; unfold ed cr zs; grind
      omega
    have pv : ∀ x, 0 ≤ cr (ed V v') (zs (V x) (V v)) := fun x => by
      have := H.2.1 v' (V x) (H.1.2.2 x)
      have e1 : V (v' + 1) = V v := by rw [← hv', H.1.2.1]
      have q : cr (ed V v') (zs (V x) (V v)) = cr (ed V v') (zs (V x) (V v')) := by
        rw [← e1]; unfold ed cr zs; grind
      omega
    have cv : ∀ x, 0 ≤ cr (ed V v) (zs (V x) (V v)) := fun x => H.2.1 v (V x) (H.1.2.2 x)
    have ps : 0 ≤ cr (ed V (e + 1)) (zs (V v) (V (e + 1))) := H.2.1 (e + 1) (V v) (H.1.2.2 v)
    have w1 : zs (V v) (V (e + 1)) = zs (zs (V v) (V e)) (ed V e) := by unfold ed zs; apply Prod.ext <;> dsimp only <;> omega
    have w2 : zs (V e) (V v) = zs (0, 0) (zs (V v) (V e)) := by unfold zs; apply Prod.ext <;> dsimp only <;> omega
    have w3 : zs (V (e + 1)) (V v) = zs (ed V e) (zs (V v) (V e)) := by unfold ed zs; apply Prod.ext <;> dsimp only <;> omega
    have z0 : ∀ g : Z2, cr g (0, 0) = 0 := fun g => by unfold cr; simp
    have pv1 := pv e
    have pv2 := pv (e + 1)
    have cv1 := cv e
    have cv2 := cv (e + 1)
    rw [w2, cr_zs, z0] at pv1 cv1
    rw [w3, cr_zs] at pv2 cv2
    rw [w1, cr_zs] at ps
    have nw : zs (V v) (V e) ≠ (0, 0) := fun q => i1 (by
      have a := congrArg Prod.fst q
      have b := congrArg Prod.snd q
      unfold zs at a b
      dsimp only at a b
      exact Prod.ext (by omega) (by omega))
    have nc : zs (V v) (V e) ≠ ed V e := fun q => i2 (by
      have a := congrArg Prod.fst q
      have b := congrArg Prod.snd q
      unfold ed zs at a b
      dsimp only at a b
      exact Prod.ext (by omega) (by omega))
    generalize zs (V v) (V e) = w at *
    generalize ed V e = c at *
    generalize ed V e' = p at *
    generalize ed V (e + 1) = s at *
    generalize ed V v' = g1 at *
    generalize ed V v = g2 at *
    obtain ⟨l1, l2⟩ := line_eq (p := p) z
    -- D w = α c with D = cr p c, α = cr p w
    have mulg : ∀ g : Z2, cr p c * cr g w = cr p w * cr g c := fun g => by
      have : cr p c * cr g w = g.1 * (cr p c * w.2) - g.2 * (cr p c * w.1) := by
        unfold cr; grind
      rw [this, l1, l2]; unfold cr; grind
    have a0 : cr p w ≠ 0 := fun q => by
      rw [q, Int.zero_mul] at l1 l2
      have r1 := (Int.mul_eq_zero.mp l1).resolve_left (by omega)
      have r2 := (Int.mul_eq_zero.mp l2).resolve_left (by omega)
      exact nw (Prod.ext r1 r2)
    have ap : 0 < cr p w := by omega
    have g1c : cr g1 c ≤ 0 := by
      have m := mulg g1
      have n1 := Int.mul_nonpos_of_nonneg_of_nonpos (Int.le_of_lt tp) (by omega : cr g1 w ≤ 0)
      exact le_of_mul ap (by omega)
    have g2c : cr g2 c ≤ 0 := by
      have m := mulg g2
      have n1 := Int.mul_nonpos_of_nonneg_of_nonpos (Int.le_of_lt tp) (by omega : cr g2 w ≤ 0)
      exact le_of_mul ap (by omega)
    have sw := cr_swap c s
    have ale : cr p w ≤ cr p c := by
      have m := mulg s
      have n1 := Int.mul_le_mul_of_nonneg_left (show cr s c ≤ cr s w by omega) (Int.le_of_lt tp)
      have n2 : (cr p w - cr p c) * cr s c = cr p w * cr s c - cr p c * cr s c := Int.sub_mul ..
      by_cases q : cr p w ≤ cr p c
      · exact q
      · have n3 := Int.mul_neg_of_pos_of_neg (by omega : 0 < cr p w - cr p c) (by omega : cr s c < 0)
        omega
    have ane : cr p w ≠ cr p c := fun q => by
      rw [q] at l1 l2
      exact nc (Prod.ext (Int.eq_of_mul_eq_mul_left (by omega) l1) (Int.eq_of_mul_eq_mul_left (by omega) l2))
    have up : ∀ g : Z2, cr g w ≤ cr g c → 0 ≤ cr g c := fun g hg => by
      have m := mulg g
      have n1 := Int.mul_le_mul_of_nonneg_left hg (Int.le_of_lt tp)
      have n2 : (cr p c - cr p w) * cr g c = cr p c * cr g c - cr p w * cr g c := Int.sub_mul ..
      by_cases q : 0 ≤ cr g c
      · exact q
      · have n3 := Int.mul_neg_of_pos_of_neg (by omega : 0 < cr p c - cr p w) (by omega : cr g c < 0)
        omega
    have x1 := up g1 (by omega)
    have x2 := up g2 (by omega)
    have f1 : cr g1 c = 0 := by omega
    have f2 : cr g2 c = 0 := by omega
    have k := cone_cr g1 g2 c p
    rw [f1, f2, Int.zero_mul, Int.zero_mul] at k
    have := Int.mul_pos tv tp
    omega
theorem Rnd.low (H : Rnd l K V T) (hl : ∀ v, v % K ≠ 0 → dt l (V 0) < dt l (V v)) : Low l K V := ⟨H.cvx, hl, H.sgn⟩
end RD2
