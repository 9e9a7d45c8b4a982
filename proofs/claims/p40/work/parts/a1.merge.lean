/-! two convex polygons, their edges sorted by direction from the lowest point on -/
/-- the polygon starts at its lowest point, and no edge is level, in the direction l -/
def Low (l : Z2) (n : Nat) (f : Nat → Z2) : Prop := Cvx n f ∧ (∀ v, v % n ≠ 0 → dt l (f 0) < dt l (f v)) ∧ ∀ k, dt l (ed f k) ≠ 0
def Blt (l u v : Z2) : Prop := (0 < dt l u ∧ dt l v < 0) ∨ (0 < cr u v ∧ (0 < dt l u ∧ 0 < dt l v ∨ dt l u < 0 ∧ dt l v < 0))
def Ble (l u v : Z2) : Prop := (0 < dt l u ∧ dt l v < 0) ∨ (0 ≤ cr u v ∧ (0 < dt l u ∧ 0 < dt l v ∨ dt l u < 0 ∧ dt l v < 0))
theorem Blt.le {l u v : Z2} (h : Blt l u v) : Ble l u v := h.imp id fun w => ⟨Int.le_of_lt w.1, w.2⟩
section LW
variable {l : Z2} {n : Nat} {f : Nat → Z2}
theorem Low.first (H : Low l n f) : 0 < dt l (ed f 0) := by
  have hn := H.1.1
  have := H.2.1 1 (by rw [Nat.mod_eq_of_lt (by omega)]; omega)
  show 0 < dt l (zs (f 1) (f 0)); rw [dt_zs]; omega
theorem Low.last (H : Low l n f) : dt l (ed f (n - 1)) < 0 := by
  have hn := H.1.1
  have := H.2.1 (n - 1) (by rw [Nat.mod_eq_of_lt (by omega)]; omega)
  have e : f (n - 1 + 1) = f 0 := by rw [show n - 1 + 1 = 0 + n by omega]; exact H.1.2.1 0
  show dt l (zs (f (n - 1 + 1)) (f (n - 1))) < 0; rw [dt_zs, e]; omega
theorem Low.down (H : Low l n f) {k : Nat} (hk : k + 1 < n) (h : dt l (ed f k) < 0) : dt l (ed f (k + 1)) < 0 := by
  have h0 := H.2.2 (k + 1)
  by_cases c : dt l (ed f (k + 1)) < 0
  · exact c
  · exfalso
    have neg : ∀ w : Z2, dt (-l.1, -l.2) w = -dt l w := fun w => by unfold dt; grind
    have t := H.1.top (k := k) (d := (-l.1, -l.2)) (by rw [neg]; omega) (by rw [neg]; omega) 0
    rw [neg, neg] at t
    have := H.2.1 (k + 1) (by rw [Nat.mod_eq_of_lt hk]; omega)
    omega
theorem Low.sorted (H : Low l n f) {k : Nat} (hk : k + 1 < n) : Blt l (ed f k) (ed f (k + 1)) := by
  have t := H.1.turn k
  have h0 := H.2.2 k
  have h1 := H.2.2 (k + 1)
  have d := H.down hk
  unfold Blt
  omega
theorem Low.ed_per (H : Low l n f) (k : Nat) : ed f (k + n) = ed f k := by
  unfold ed
  rw [show k + n + 1 = k + 1 + n by omega, H.1.2.1, H.1.2.1]
theorem Low.wrap (H : Low l n f) : 0 < cr (ed f (n - 1)) (ed f 0) := by
  have hn := H.1.1
  have := H.1.turn (n - 1)
  rw [show n - 1 + 1 = 0 + n by omega, H.ed_per] at this
  exact this
/-- a direction between two neighbours of the sorted edges lies between them round the polygon too -/
theorem Low.between (H : Low l n f) {j : Nat} (hj : j ≤ n) {c : Z2} (h1 : 1 ≤ j → Ble l (ed f (j - 1)) c) (h2 : j < n → Ble l c (ed f j)) : 0 ≤ cr (ed f (j + n - 1)) c ∧ 0 ≤ cr c (ed f j) := by
  have hn := H.1.1
  have up := H.first
  have dn := H.last
  by_cases c0 : j = 0
  · subst c0
    have b := h2 (by omega)
    have e : ed f (0 + n - 1) = ed f (n - 1) := by rw [Nat.zero_add]
    rw [e]
    have w := H.wrap
    have p := pl3 c (ed f 0) (ed f (n - 1)) l
    have sw := cr_swap (ed f 0) (ed f (n - 1))
    unfold Ble at b
    have hc : 0 < dt l c ∧ 0 ≤ cr c (ed f 0) := by omega
    refine ⟨?_, hc.2⟩
    have m1 : 0 < dt l c * cr (ed f (n - 1)) (ed f 0) := Int.mul_pos hc.1 w
    have m2 : dt l (ed f (n - 1)) * cr c (ed f 0) ≤ 0 := Int.mul_nonpos_of_nonpos_of_nonneg (by omega) hc.2
    rw [sw, Int.mul_neg] at p
    by_cases q : 0 ≤ cr (ed f (n - 1)) c
    · exact q
    · have := Int.mul_neg_of_pos_of_neg up (by omega : cr (ed f (n - 1)) c < 0); omega
  · by_cases cn : j = n
    · subst cn
      have b := h1 (by omega)
      have e : ed f (j + j - 1) = ed f (j - 1) := by rw [show j + j - 1 = (j - 1) + j by omega]; exact H.ed_per _
      have e0 : ed f j = ed f 0 := by have := H.ed_per 0; rw [Nat.zero_add] at this; exact this
      rw [e, e0]
      have w := H.wrap
      have p := pl3 c (ed f 0) (ed f (j - 1)) l
      have sw := cr_swap (ed f 0) (ed f (j - 1))
      unfold Ble at b
      have hc : dt l c < 0 ∧ 0 ≤ cr (ed f (j - 1)) c := by omega
      refine ⟨hc.2, ?_⟩
      have m1 : dt l c * cr (ed f (j - 1)) (ed f 0) < 0 := Int.mul_neg_of_neg_of_pos hc.1 w
      have m2 : 0 ≤ dt l (ed f 0) * cr (ed f (j - 1)) c := Int.mul_nonneg (by omega) hc.2
      rw [sw, Int.mul_neg] at p
      by_cases q : 0 ≤ cr c (ed f 0)
      · exact q
      · have := Int.mul_pos_of_neg_of_neg dn (by omega : cr c (ed f 0) < 0); omega
    · have b1 := h1 (by omega)
      have b2 := h2 (by omega)
      have e : ed f (j + n - 1) = ed f (j - 1) := by rw [show j + n - 1 = (j - 1) + n by omega]; exact H.ed_per _
      rw [e]
      have t := H.1.turn (j - 1)
      rw [show j - 1 + 1 = j by omega] at t
      have p := pl3 c (ed f j) (ed f (j - 1)) l
      have sw := cr_swap (ed f j) (ed f (j - 1))
      rw [sw, Int.mul_neg] at p
      unfold Ble at b1 b2
      have x0 := H.2.2 j
      have x1 := H.2.2 (j - 1)
      by_cases q1 : 0 ≤ cr (ed f (j - 1)) c
      · refine ⟨q1, ?_⟩
        by_cases q2 : 0 ≤ cr c (ed f j)
        · exact q2
        · exfalso
          have hs : 0 < dt l c ∧ dt l (ed f j) < 0 ∧ 0 < dt l (ed f (j - 1)) := by omega
          have m1 := Int.mul_pos hs.1 t
          have m2 := Int.mul_nonpos_of_nonpos_of_nonneg (Int.le_of_lt hs.2.1) q1
          have m3 := Int.mul_neg_of_pos_of_neg hs.2.2 (by omega : cr c (ed f j) < 0)
          omega
      · exfalso
        have hs : 0 < dt l (ed f (j - 1)) ∧ dt l c < 0 ∧ dt l (ed f j) < 0 ∧ 0 ≤ cr c (ed f j) := by omega
        have m1 := Int.mul_neg_of_neg_of_pos hs.2.1 t
        have m2 := Int.mul_pos_of_neg_of_neg hs.2.2.1 (by omega : cr (ed f (j - 1)) c < 0)
        have m3 := Int.mul_nonneg (Int.le_of_lt hs.1) hs.2.2.2
        omega
theorem Cvx.left_of (H : Cvx n f) {k : Nat} {c : Z2} (h1 : 0 ≤ cr (ed f k) c) (h2 : 0 ≤ cr c (ed f (k + 1))) (v : Nat) : 0 ≤ cr c (zs (f v) (f (k + 1))) := by
  have e : ∀ w : Z2, dt (c.2, -c.1) w = -cr c w := fun w => by unfold dt cr; grind
  have sw := cr_swap (ed f k) c
  have t := H.top (k := k) (d := (c.2, -c.1)) (by rw [e]; omega) (by rw [e]; omega) v
  rw [e, e] at t
  rw [cr_zs]; omega
/-- every point of the polygon lies weakly left of such a direction through the corner -/
theorem Low.left_of (H : Low l n f) {j : Nat} (hj : j ≤ n) {c : Z2} (h1 : 1 ≤ j → Ble l (ed f (j - 1)) c) (h2 : j < n → Ble l c (ed f j)) (v : Nat) : 0 ≤ cr c (zs (f v) (f j)) := by
  have hn := H.1.1
  have b := H.between hj h1 h2
  have e1 : ed f (j + n - 1 + 1) = ed f j := by rw [show j + n - 1 + 1 = j + n by omega]; exact H.ed_per _
  have t := H.1.left_of (k := j + n - 1) b.1 (by rw [e1]; exact b.2) v
  rw [show j + n - 1 + 1 = j + n by omega, H.1.2.1] at t
  exact t
end LW
