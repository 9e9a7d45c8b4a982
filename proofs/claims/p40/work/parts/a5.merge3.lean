/-! the merge of two polygons is a strictly convex polygon -/
section M3
variable {l : Z2} {n m : Nat} {f g : Nat → Z2}
def mSt (n m : Nat) (f g : Nat → Z2) : Nat → Nat × Nat
  | 0 => (0, 0)
  | k + 1 => mNx n m f g (mSt n m f g k)
def mGo (n m : Nat) (s : Nat × Nat) : Prop := s.1 < n ∨ s.2 < m
theorem st_MI (F : Low l n f) (G : Low l m g) : ∀ k, (∀ j, j < k → mGo n m (mSt n m f g j)) → MI l n m f g (mSt n m f g k) := fun k => by
  induction k with
  | zero => intro _; exact MI.start
  | succ k ih =>
    intro h
    exact (ih fun j hj => h j (by omega)).next F G (h k (by omega))
theorem nx_sum {s : Nat × Nat} : s.1 + s.2 + 1 ≤ (mNx n m f g s).1 + (mNx n m f g s).2 := by
  unfold mNx
  dsimp only
  split <;> split <;> omega
theorem nx_one {s : Nat × Nat} : (mNx n m f g s).1 ≤ s.1 + 1 := by
  unfold mNx
  dsimp only
  split <;> omega
theorem st_end (F : Low l n f) (G : Low l m g) : ∃ K, mSt n m f g K = (n, m) ∧ ∀ k, k < K → mGo n m (mSt n m f g k) := by
  have go : ∀ d k, (∀ j, j < k → mGo n m (mSt n m f g j)) → n + m - ((mSt n m f g k).1 + (mSt n m f g k).2) ≤ d → ∃ K, mSt n m f g K = (n, m) ∧ ∀ k, k < K → mGo n m (mSt n m f g k) := fun d => by
    induction d with
    | zero =>
      intro k h hd
      have M := st_MI F G k h
      have a := M.1
      have b := M.2.1
      exact ⟨k, Prod.ext (show (mSt n m f g k).1 = n by omega) (show (mSt n m f g k).2 = m by omega), h⟩
    | succ d ih =>
      intro k h hd
      by_cases c : mGo n m (mSt n m f g k)
      · refine ih (k + 1) (fun j hj => ?_) ?_
        · by_cases q : j = k
          · subst q; exact c
          · exact h j (by omega)
        · have := nx_sum (n := n) (m := m) (f := f) (g := g) (s := mSt n m f g k)
          show n + m - ((mNx n m f g (mSt n m f g k)).1 + (mNx n m f g (mSt n m f g k)).2) ≤ d
          omega
      · have M := st_MI F G k h
        have a := M.1
        have b := M.2.1
        unfold mGo at c
        exact ⟨k, Prod.ext (show (mSt n m f g k).1 = n by omega) (show (mSt n m f g k).2 = m by omega), h⟩
  exact go (n + m) 0 (fun j hj => by omega) (by omega)
theorem Blt.add {u v w : Z2} (h1 : Blt l u v) (h2 : Blt l u w) (s : 0 < dt l v ∧ 0 < dt l w ∨ dt l v < 0 ∧ dt l w < 0) : Blt l u (za v w) := by
  unfold Blt at *
  rw [dt_za, cr_za]
  omega
theorem Blt.add' {u v w : Z2} (h1 : Blt l v u) (h2 : Blt l w u) (s : 0 < dt l v ∧ 0 < dt l w ∨ dt l v < 0 ∧ dt l w < 0) : Blt l (za v w) u := by
  have e : cr (za v w) u = cr v u + cr w u := by unfold cr za; grind
  unfold Blt at *
  rw [dt_za, e]
  omega
/-- which edge a state lays -/
theorem mE_is (F : Low l n f) (G : Low l m g) {i j : Nat} (M : MI l n m f g (i, j)) (hd : i < n ∨ j < m) : (i < n ∧ mE n m f g (i, j) = ed f i ∧ mNx n m f g (i, j) = (i + 1, j) ∧ (j < m → Blt l (ed f i) (ed g j))) ∨ (j < m ∧ mE n m f g (i, j) = ed g j ∧ mNx n m f g (i, j) = (i, j + 1) ∧ (i < n → Blt l (ed g j) (ed f i))) ∨ (i < n ∧ j < m ∧ mE n m f g (i, j) = za (ed f i) (ed g j) ∧ mNx n m f g (i, j) = (i + 1, j + 1) ∧ cr (ed f i) (ed g j) = 0 ∧ (0 < dt l (ed f i) ∧ 0 < dt l (ed g j) ∨ dt l (ed f i) < 0 ∧ dt l (ed g j) < 0)) := by
  have ea : zs (za (f (i + 1)) (g j)) (za (f i) (g j)) = ed f i := by unfold ed zs za; apply Prod.ext <;> dsimp only <;> omega
  have eb : zs (za (f i) (g (j + 1))) (za (f i) (g j)) = ed g j := by unfold ed zs za; apply Prod.ext <;> dsimp only <;> omega
  have ec : zs (za (f (i + 1)) (g (j + 1))) (za (f i) (g j)) = za (ed f i) (ed g j) := by unfold ed zs za; apply Prod.ext <;> dsimp only <;> omega
  unfold mE mNx mT
  dsimp only
  by_cases hi : i < n
  · by_cases hj : j < m
    · rw [if_pos hi, if_pos hj]
      by_cases c1 : cr (ed f i) (ed g j) < 0
      · rw [if_pos c1, if_neg (by omega), eb]
        exact Or.inr (Or.inl ⟨hj, rfl, rfl, fun _ => choice_lt F G M hi hj c1⟩)
      · rw [if_neg c1]
        by_cases c2 : 0 < cr (ed f i) (ed g j)
        · rw [if_pos c2, ea]
          exact Or.inl ⟨hi, rfl, rfl, fun _ => choice_gt F G M hi hj c2⟩
        · rw [if_neg c2, ec]
          exact Or.inr (Or.inr ⟨hi, hj, rfl, rfl, by omega, choice_eq F G M hi hj (by omega)⟩)
    · rw [if_pos hi, if_neg hj, if_neg (by decide), if_pos (by decide), ea]
      exact Or.inl ⟨hi, rfl, rfl, fun h => absurd h hj⟩
  · have hj : j < m := by omega
    rw [if_neg hi, if_pos (by decide), if_neg (by decide), eb]
    exact Or.inr (Or.inl ⟨hj, rfl, rfl, fun h => absurd h hi⟩)
/-- the edges before a state lie strictly before the edge that it lays -/
theorem mE_after (F : Low l n f) (G : Low l m g) {i j : Nat} (M : MI l n m f g (i, j)) (hd : i < n ∨ j < m) : (1 ≤ i → Blt l (ed f (i - 1)) (mE n m f g (i, j))) ∧ (1 ≤ j → Blt l (ed g (j - 1)) (mE n m f g (i, j))) := by
  have hi' : i ≤ n := M.1
  have hj' : j ≤ m := M.2.1
  have sf : i < n → 1 ≤ i → Blt l (ed f (i - 1)) (ed f i) := fun h1 h2 => by
    have := F.sorted (k := i - 1) (by omega); rw [show i - 1 + 1 = i by omega] at this; exact this
  have sg : j < m → 1 ≤ j → Blt l (ed g (j - 1)) (ed g j) := fun h1 h2 => by
    have := G.sorted (k := j - 1) (by omega); rw [show j - 1 + 1 = j by omega] at this; exact this
  rcases mE_is F G M hd with ⟨hi, e, -, -⟩ | ⟨hj, e, -, -⟩ | ⟨hi, hj, e, -, -, s⟩
  · rw [e]; exact ⟨fun h => sf hi h, fun h => M.2.2.1 hi h⟩
  · rw [e]; exact ⟨fun h => M.2.2.2 hj h, fun h => sg hj h⟩
  · rw [e]; exact ⟨fun h => (sf hi h).add (M.2.2.2 hj h) s, fun h => (M.2.2.1 hi h).add (sg hj h) s⟩
theorem mE_sorted (F : Low l n f) (G : Low l m g) {i j : Nat} (M : MI l n m f g (i, j)) (hd : i < n ∨ j < m) (hd2 : mGo n m (mNx n m f g (i, j))) : Blt l (mE n m f g (i, j)) (mE n m f g (mNx n m f g (i, j))) := by
  have M2 := M.next F G hd
  rcases mE_is F G M hd with ⟨hi, e, en, -⟩ | ⟨hj, e, en, -⟩ | ⟨hi, hj, e, en, -, s⟩
  · rw [en] at M2 hd2 ⊢
    have a := (mE_after F G M2 hd2).1 (by omega)
    rw [e]; rw [Nat.add_sub_cancel] at a; exact a
  · rw [en] at M2 hd2 ⊢
    have a := (mE_after F G M2 hd2).2 (by omega)
    rw [e]; rw [Nat.add_sub_cancel] at a; exact a
  · rw [en] at M2 hd2 ⊢
    have a := (mE_after F G M2 hd2).1 (by omega)
    have b := (mE_after F G M2 hd2).2 (by omega)
    rw [Nat.add_sub_cancel] at a b
    rw [e]; exact Blt.add' a b s
end M3
