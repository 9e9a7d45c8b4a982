/-! the merge of two sorted rounds of edges -/
theorem Ble.refl' {l u : Z2} (h : dt l u ≠ 0) : Ble l u u := by
  have := cr_self u
  unfold Ble; omega
theorem pos_of_mul {a b : Int} (ha : 0 < a) (h : 0 < a * b) : 0 < b := by
  by_cases c : 0 < b
  · exact c
  · have := Int.mul_nonpos_of_nonneg_of_nonpos (Int.le_of_lt ha) (by omega : b ≤ 0); omega
theorem pos_of_mul' {a b : Int} (ha : a < 0) (h : a * b < 0) : 0 < b := by
  by_cases c : 0 < b
  · exact c
  · have := Int.mul_nonneg_of_nonpos_of_nonpos (Int.le_of_lt ha) (by omega : b ≤ 0); omega
theorem Ble.lt {l u v w : Z2} (h1 : Ble l u v) (h2 : Blt l v w) : Blt l u w := by
  have p := pl3 u v w l
  have sw := cr_swap w u
  rw [sw, Int.mul_neg] at p
  unfold Ble at h1
  unfold Blt at h2 ⊢
  rcases h1 with h1 | ⟨h1, h1s | h1s⟩
  · rcases h2 with h2 | ⟨h2, h2s⟩
    · omega
    · omega
  · rcases h2 with h2 | ⟨h2, h2s | h2s⟩
    · omega
    · have m1 := Int.mul_pos h1s.1 h2
      have m2 := Int.mul_nonneg (Int.le_of_lt h2s.2) h1
      have := pos_of_mul (a := dt l v) (b := cr u w) h1s.2 (by omega)
      omega
    · omega
  · rcases h2 with h2 | ⟨h2, h2s | h2s⟩
    · omega
    · omega
    · have m1 := Int.mul_neg_of_neg_of_pos h1s.1 h2
      have m2 := Int.mul_nonpos_of_nonpos_of_nonneg (Int.le_of_lt h2s.2) h1
      have := pos_of_mul' (a := dt l v) (b := cr u w) h1s.2 (by omega)
      omega
theorem Blt.lt {l u v w : Z2} (h1 : Blt l u v) (h2 : Blt l v w) : Blt l u w := h1.le.lt h2
theorem Ble.add {l u v w : Z2} (h1 : Ble l u v) (h2 : Ble l u w) (s : 0 < dt l v ∧ 0 < dt l w ∨ dt l v < 0 ∧ dt l w < 0) : Ble l u (za v w) := by
  unfold Ble at *
  rw [dt_za, cr_za]
  omega
theorem Ble.add' {l u v w : Z2} (h1 : Ble l v u) (h2 : Ble l w u) (s : 0 < dt l v ∧ 0 < dt l w ∨ dt l v < 0 ∧ dt l w < 0) : Ble l (za v w) u := by
  have e : cr (za v w) u = cr v u + cr w u := by unfold cr za; grind
  unfold Ble at *
  rw [dt_za, e]
  omega
section MG
variable {l : Z2} {n m : Nat} {f g : Nat → Z2}
/-- the merge's turn and its next state -/
def mT (n m : Nat) (f g : Nat → Z2) (s : Nat × Nat) : Int := if s.1 < n then (if s.2 < m then cr (ed f s.1) (ed g s.2) else 1) else -1
def mNx (n m : Nat) (f g : Nat → Z2) (s : Nat × Nat) : Nat × Nat := (if mT n m f g s < 0 then s.1 else s.1 + 1, if 0 < mT n m f g s then s.2 else s.2 + 1)
def MI (l : Z2) (n m : Nat) (f g : Nat → Z2) (s : Nat × Nat) : Prop := s.1 ≤ n ∧ s.2 ≤ m ∧ (s.1 < n → 1 ≤ s.2 → Blt l (ed g (s.2 - 1)) (ed f s.1)) ∧ (s.2 < m → 1 ≤ s.1 → Blt l (ed f (s.1 - 1)) (ed g s.2))
theorem choice_up (F : Low l n f) (G : Low l m g) {i j : Nat} (M : MI l n m f g (i, j)) (hi : i < n) (hj : j < m) (h1 : 0 < dt l (ed f i)) (h2 : dt l (ed g j) < 0) : 0 < cr (ed f i) (ed g j) := by
  have up := G.first
  have j1 : 1 ≤ j := by
    by_cases c : j = 0
    · subst c; omega
    · omega
  have b := M.2.2.1 hi j1
  have t := G.1.turn (j - 1)
  rw [show j - 1 + 1 = j by omega] at t
  have p := pl3 (ed f i) (ed g j) (ed g (j - 1)) l
  have sw := cr_swap (ed g j) (ed g (j - 1))
  rw [sw, Int.mul_neg] at p
  unfold Blt at b
  dsimp only at b
  have hs : 0 < dt l (ed g (j - 1)) ∧ 0 < cr (ed g (j - 1)) (ed f i) := by omega
  have m1 := Int.mul_pos h1 t
  have m2 := Int.mul_neg_of_neg_of_pos h2 hs.2
  exact pos_of_mul hs.1 (by omega)
theorem MI.symm {s : Nat × Nat} (M : MI l n m f g s) : MI l m n g f (s.2, s.1) := ⟨M.2.1, M.1, M.2.2.2, M.2.2.1⟩
theorem choice_dn (F : Low l n f) (G : Low l m g) {i j : Nat} (M : MI l n m f g (i, j)) (hi : i < n) (hj : j < m) (h1 : dt l (ed f i) < 0) (h2 : 0 < dt l (ed g j)) : cr (ed f i) (ed g j) < 0 := by
  have this : 0 < cr (ed g j) (ed f i) := choice_up G F M.symm hj hi h2 h1
  have sw := cr_swap (ed f i) (ed g j)
  omega
theorem choice_gt (F : Low l n f) (G : Low l m g) {i j : Nat} (M : MI l n m f g (i, j)) (hi : i < n) (hj : j < m) (h : 0 < cr (ed f i) (ed g j)) : Blt l (ed f i) (ed g j) := by
  have a := F.2.2 i
  have b := G.2.2 j
  have c := choice_dn F G M hi hj
  unfold Blt; omega
theorem choice_lt (F : Low l n f) (G : Low l m g) {i j : Nat} (M : MI l n m f g (i, j)) (hi : i < n) (hj : j < m) (h : cr (ed f i) (ed g j) < 0) : Blt l (ed g j) (ed f i) := by
  have sw := cr_swap (ed f i) (ed g j)
  exact choice_gt G F M.symm hj hi (by omega)
theorem choice_eq (F : Low l n f) (G : Low l m g) {i j : Nat} (M : MI l n m f g (i, j)) (hi : i < n) (hj : j < m) (h : cr (ed f i) (ed g j) = 0) : 0 < dt l (ed f i) ∧ 0 < dt l (ed g j) ∨ dt l (ed f i) < 0 ∧ dt l (ed g j) < 0 := by
  have a := F.2.2 i
  have b := G.2.2 j
  have c := choice_dn F G M hi hj
  have d := choice_up F G M hi hj
  omega
theorem MI.start : MI l n m f g (0, 0) := ⟨Nat.zero_le _, Nat.zero_le _, fun _ h => absurd h (by decide), fun _ h => absurd h (by decide)⟩
theorem MI.next (F : Low l n f) (G : Low l m g) {i j : Nat} (M : MI l n m f g (i, j)) (hd : i < n ∨ j < m) : MI l n m f g (mNx n m f g (i, j)) := by
  have hi' : i ≤ n := M.1
  have hj' : j ≤ m := M.2.1
  unfold mNx mT
  dsimp only
  by_cases hi : i < n
  · by_cases hj : j < m
    · rw [if_pos hi, if_pos hj]
      have sw := cr_swap (ed f i) (ed g j)
      by_cases c1 : cr (ed f i) (ed g j) < 0
      · rw [if_pos c1, if_neg (by omega)]
        have b := choice_lt F G M hi hj c1
        exact ⟨hi', by show j + 1 ≤ m; omega, fun _ _ => b, fun h1 h2 => (M.2.2.2 hj h2).lt (G.sorted h1)⟩
      · rw [if_neg c1]
        by_cases c2 : 0 < cr (ed f i) (ed g j)
        · rw [if_pos c2]
          have b := choice_gt F G M hi hj c2
          exact ⟨by show i + 1 ≤ n; omega, hj', fun h1 h2 => (M.2.2.1 hi h2).lt (F.sorted h1), fun _ _ => b⟩
        · rw [if_neg c2]
          have s := choice_eq F G M hi hj (by omega)
          exact ⟨by show i + 1 ≤ n; omega, by show j + 1 ≤ m; omega, fun h1 _ => by
            show Blt l (ed g (j + 1 - 1)) (ed f (i + 1))
            rw [Nat.add_sub_cancel]
            exact Ble.lt (v := ed f i) (Or.inr ⟨by omega, by omega⟩) (F.sorted h1), fun h1 _ => by
            show Blt l (ed f (i + 1 - 1)) (ed g (j + 1))
            rw [Nat.add_sub_cancel]
            exact Ble.lt (v := ed g j) (Or.inr ⟨by omega, by omega⟩) (G.sorted h1)⟩
    · have e : j = m := by omega
      rw [if_pos hi, if_neg hj, if_neg (by decide), if_pos (by decide)]
      exact ⟨by show i + 1 ≤ n; omega, hj', fun h1 h2 => (M.2.2.1 hi h2).lt (F.sorted h1), fun h1 _ => absurd h1 hj⟩
  · have hj : j < m := by omega
    rw [if_neg hi, if_pos (by decide), if_neg (by decide)]
    exact ⟨hi', by show j + 1 ≤ m; omega, fun h1 _ => absurd h1 hi, fun h1 h2 => (M.2.2.2 hj h2).lt (G.sorted h1)⟩
/-- the edge that a state lays -/
def mE (n m : Nat) (f g : Nat → Z2) (s : Nat × Nat) : Z2 := zs (za (f (mNx n m f g s).1) (g (mNx n m f g s).2)) (za (f s.1) (g s.2))
theorem mE_pos (F : Low l n f) (G : Low l m g) {i j : Nat} (M : MI l n m f g (i, j)) (hd : i < n ∨ j < m) : (1 ≤ i → Ble l (ed f (i - 1)) (mE n m f g (i, j))) ∧ (i < n → Ble l (mE n m f g (i, j)) (ed f i)) ∧ (1 ≤ j → Ble l (ed g (j - 1)) (mE n m f g (i, j))) ∧ (j < m → Ble l (mE n m f g (i, j)) (ed g j)) := by
  have hi' : i ≤ n := M.1
  have hj' : j ≤ m := M.2.1
  have sf : i < n → 1 ≤ i → Blt l (ed f (i - 1)) (ed f i) := fun h1 h2 => by
    have := F.sorted (k := i - 1) (by omega); rw [show i - 1 + 1 = i by omega] at this; exact this
  have sg : j < m → 1 ≤ j → Blt l (ed g (j - 1)) (ed g j) := fun h1 h2 => by
    have := G.sorted (k := j - 1) (by omega); rw [show j - 1 + 1 = j by omega] at this; exact this
  have ea : zs (za (f (i + 1)) (g j)) (za (f i) (g j)) = ed f i := by unfold ed zs za; apply Prod.ext <;> dsimp only <;> omega
  have eb : zs (za (f i) (g (j + 1))) (za (f i) (g j)) = ed g j := by unfold ed zs za; apply Prod.ext <;> dsimp only <;> omega
  have ec : zs (za (f (i + 1)) (g (j + 1))) (za (f i) (g j)) = za (ed f i) (ed g j) := by unfold ed zs za; apply Prod.ext <;> dsimp only <;> omega
  unfold mE mNx mT
  dsimp only
  by_cases hi : i < n
  · by_cases hj : j < m
    · rw [if_pos hi, if_pos hj]
      have sw := cr_swap (ed f i) (ed g j)
      by_cases c1 : cr (ed f i) (ed g j) < 0
      · rw [if_pos c1, if_neg (by omega), eb]
        have b := choice_lt F G M hi hj c1
        exact ⟨fun h => (M.2.2.2 hj h).le, fun _ => b.le, fun h => (sg hj h).le, fun _ => Ble.refl' (G.2.2 j)⟩
      · rw [if_neg c1]
        by_cases c2 : 0 < cr (ed f i) (ed g j)
        · rw [if_pos c2, ea]
          have b := choice_gt F G M hi hj c2
          exact ⟨fun h => (sf hi h).le, fun _ => Ble.refl' (F.2.2 i), fun h => (M.2.2.1 hi h).le, fun _ => b.le⟩
        · rw [if_neg c2, ec]
          have s := choice_eq F G M hi hj (by omega)
          have b1 : Ble l (ed f i) (ed g j) := Or.inr ⟨by omega, by omega⟩
          have b2 : Ble l (ed g j) (ed f i) := Or.inr ⟨by omega, by omega⟩
          exact ⟨fun h => (sf hi h).le.add (M.2.2.2 hj h).le s, fun _ => Ble.add' (Ble.refl' (F.2.2 i)) b2 s, fun h => (M.2.2.1 hi h).le.add (sg hj h).le s, fun _ => Ble.add' b1 (Ble.refl' (G.2.2 j)) s⟩
    · rw [if_pos hi, if_neg hj, if_neg (by decide), if_pos (by decide), ea]
      exact ⟨fun h => (sf hi h).le, fun _ => Ble.refl' (F.2.2 i), fun h => (M.2.2.1 hi h).le, fun h => absurd h hj⟩
  · have hj : j < m := by omega
    rw [if_neg hi, if_pos (by decide), if_neg (by decide), eb]
    exact ⟨fun h => (M.2.2.2 hj h).le, fun h => absurd h hi, fun h => (sg hj h).le, fun _ => Ble.refl' (G.2.2 j)⟩
/-- all sums lie weakly left of each edge laid -/
theorem mE_left (F : Low l n f) (G : Low l m g) {i j : Nat} (M : MI l n m f g (i, j)) (hd : i < n ∨ j < m) (p q : Nat) : 0 ≤ cr (mE n m f g (i, j)) (zs (za (f p) (g q)) (za (f i) (g j))) := by
  obtain ⟨a1, a2, b1, b2⟩ := mE_pos F G M hd
  have x : 0 ≤ cr (mE n m f g (i, j)) (zs (f p) (f i)) := F.left_of M.1 a1 a2 p
  have y : 0 ≤ cr (mE n m f g (i, j)) (zs (g q) (g j)) := G.left_of M.2.1 b1 b2 q
  have e : cr (mE n m f g (i, j)) (zs (za (f p) (g q)) (za (f i) (g j))) = cr (mE n m f g (i, j)) (zs (f p) (f i)) + cr (mE n m f g (i, j)) (zs (g q) (g j)) := by
    rw [cr_zs, cr_zs, cr_zs, cr_za, cr_za]; omega
  omega
end MG
