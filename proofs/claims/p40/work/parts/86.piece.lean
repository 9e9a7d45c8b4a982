/-! a piece goes round once: the class's test and the reference's -/
theorem bmod_id {x : Int} (h1 : -2147483648 ≤ x) (h2 : x < 2147483648) : x.bmod 4294967296 = x := by
  have e : ((4294967296 : Nat) : Int) = 4294967296 := rfl
  simp only [Int.bmod, e]; omega
theorem i32_subE {x y : Int32} (hx : -1000000 ≤ x.toInt) (hx2 : x.toInt ≤ 1000000) (hy : -1000000 ≤ y.toInt) (hy2 : y.toInt ≤ 1000000) : (x - y).toInt = x.toInt - y.toInt := by
  rw [Int32.toInt_sub]; exact bmod_id (by omega) (by omega)
theorem i32_addE {x y : Int32} (hx : -1000000 ≤ x.toInt) (hx2 : x.toInt ≤ 1000000) (hy : -1000000 ≤ y.toInt) (hy2 : y.toInt ≤ 1000000) : (x + y).toInt = x.toInt + y.toInt := by
  rw [Int32.toInt_add]; exact bmod_id (by omega) (by omega)
theorem mul_bd {a b A B : Int} (h1 : -A ≤ a) (h2 : a ≤ A) (h3 : -B ≤ b) (h4 : b ≤ B) : -(A * B) ≤ a * b ∧ a * b ≤ A * B := by
  have p1 : 0 ≤ (A - a) * (B + b) := Int.mul_nonneg (by omega) (by omega)
  have p2 : 0 ≤ (A + a) * (B - b) := Int.mul_nonneg (by omega) (by omega)
  have p3 : 0 ≤ (A - a) * (B - b) := Int.mul_nonneg (by omega) (by omega)
  have p4 : 0 ≤ (A + a) * (B + b) := Int.mul_nonneg (by omega) (by omega)
  have e1 : (A - a) * (B + b) = A * B + A * b - a * B - a * b := by grind
  have e2 : (A + a) * (B - b) = A * B - A * b + a * B - a * b := by grind
  have e3 : (A - a) * (B - b) = A * B - A * b - a * B + a * b := by grind
  have e4 : (A + a) * (B + b) = A * B + A * b + a * B + a * b := by grind
  rw [e1] at p1; rw [e2] at p2; rw [e3] at p3; rw [e4] at p4
  constructor <;> omega
theorem i32_mulE {x y : Int32} (hx : -1000 ≤ x.toInt) (hx2 : x.toInt ≤ 1000) (hy : -1000 ≤ y.toInt) (hy2 : y.toInt ≤ 1000) : (x * y).toInt = x.toInt * y.toInt ∧ -1000000 ≤ x.toInt * y.toInt ∧ x.toInt * y.toInt ≤ 1000000 := by
  have b := mul_bd hx hx2 hy hy2
  rw [Int32.toInt_mul]
  exact ⟨bmod_id (by omega) (by omega), by omega, by omega⟩
theorem i32_subpos {x y : Int32} (hx : -1000000 ≤ x.toInt) (hx2 : x.toInt ≤ 1000000) (hy : -1000000 ≤ y.toInt) (hy2 : y.toInt ≤ 1000000) : 0 < x - y ↔ y < x := by
  rw [Int32.lt_iff_toInt_lt, Int32.lt_iff_toInt_lt, i32_subE hx hx2 hy hy2]
  have : (0 : Int32).toInt = 0 := by decide
  omega
def B9 (v : PT) : Prop := -9 ≤ v.1.toInt ∧ v.1.toInt ≤ 9 ∧ -9 ≤ v.2.toInt ∧ v.2.toInt ≤ 9
def SmV (V : List PT) : Prop := ∀ v, v ∈ V → B9 v
theorem SmV.get {V : List PT} (h : SmV V) (j : Nat) : B9 (V.getD j (0, 0)) := by
  by_cases c : j < V.length
  · exact h _ (getD_mem (0, 0) c)
  · rw [List.getD_eq_getElem?_getD, List.getElem?_eq_none (by omega)]
    exact ⟨by decide, by decide, by decide, by decide⟩
def pieceR (V : List PT) : Prop := ∀ e, e < V.length → ∀ v, e + 2 ≤ v → v < e + V.length → ((vR V (e + 1)).2 - (vR V e).2) * ((vR V v).1 - (vR V e).1) < ((vR V (e + 1)).1 - (vR V e).1) * ((vR V v).2 - (vR V e).2)
theorem vAt_vR {V : List PT} (hne : V ≠ []) {k : Nat} (hk : k ≤ V.length) : vAt V k = vR V (low V + k) := by
  have hl := (pfold_low V hne).1
  unfold vAt vR
  congr 1
  split
  · rename_i c; rw [Nat.mod_eq_of_lt c]
  · rename_i c
    rw [Nat.mod_eq_sub_mod (by omega), Nat.mod_eq_of_lt (by omega)]
theorem vR_congr {V : List PT} {a b : Nat} (h : a % V.length = b % V.length) : vR V a = vR V b := by unfold vR; rw [h]
theorem side_pos {V : List PT} (h : SmV V) (a b c : Nat) : 0 < ((vR V a).1 - (vR V b).1) * ((vR V c).2 - (vR V b).2) - ((vR V a).2 - (vR V b).2) * ((vR V c).1 - (vR V b).1) ↔ ((vR V a).2 - (vR V b).2) * ((vR V c).1 - (vR V b).1) < ((vR V a).1 - (vR V b).1) * ((vR V c).2 - (vR V b).2) := by
  obtain ⟨a1, a2, a3, a4⟩ : B9 (vR V a) := h.get _
  obtain ⟨b1, b2, b3, b4⟩ : B9 (vR V b) := h.get _
  obtain ⟨c1, c2, c3, c4⟩ : B9 (vR V c) := h.get _
  have e1 := i32_subE (x := (vR V a).1) (y := (vR V b).1) (by omega) (by omega) (by omega) (by omega)
  have e2 := i32_subE (x := (vR V c).2) (y := (vR V b).2) (by omega) (by omega) (by omega) (by omega)
  have e3 := i32_subE (x := (vR V a).2) (y := (vR V b).2) (by omega) (by omega) (by omega) (by omega)
  have e4 := i32_subE (x := (vR V c).1) (y := (vR V b).1) (by omega) (by omega) (by omega) (by omega)
  have m1 := i32_mulE (x := (vR V a).1 - (vR V b).1) (y := (vR V c).2 - (vR V b).2) (by omega) (by omega) (by omega) (by omega)
  have m2 := i32_mulE (x := (vR V a).2 - (vR V b).2) (y := (vR V c).1 - (vR V b).1) (by omega) (by omega) (by omega) (by omega)
  exact i32_subpos (by rw [m1.1]; exact m1.2.1) (by rw [m1.1]; exact m1.2.2) (by rw [m2.1]; exact m2.2.1) (by rw [m2.1]; exact m2.2.2)
theorem side_vR {V : List PT} (hne : V ≠ []) {e k : Nat} (he : e < V.length) (hk : k < V.length) : sideP V e (vAt V k).1 (vAt V k).2 = ((vR V (low V + e + 1)).1 - (vR V (low V + e)).1) * ((vR V (low V + k)).2 - (vR V (low V + e)).2) - ((vR V (low V + e + 1)).2 - (vR V (low V + e)).2) * ((vR V (low V + k)).1 - (vR V (low V + e)).1) := by
  unfold sideP
  rw [vAt_vR hne (by omega : e ≤ V.length), vAt_vR hne (by omega : e + 1 ≤ V.length), vAt_vR hne (by omega : k ≤ V.length), ← Nat.add_assoc]
theorem convex_iff {V : List PT} (h : SmV V) (h6 : V.length ≤ 6) : convexP V ↔ 2 < V.length ∧ pieceR V := by
  constructor
  · intro c
    have h3 : 3 ≤ V.length := c.2
    have hne : V ≠ [] := fun q => by rw [q] at h3; simp at h3
    have hl := (pfold_low V hne).1
    refine ⟨by omega, fun e he v h1 h2 => ?_⟩
    have key : ∀ e' k', e' < V.length → k' < V.length → k' ≠ e' → k' ≠ (if e' + 1 < V.length then e' + 1 else 0) → (low V + e') % V.length = e % V.length → (low V + e' + 1) % V.length = (e + 1) % V.length → (low V + k') % V.length = v % V.length → ((vR V (e + 1)).2 - (vR V e).2) * ((vR V v).1 - (vR V e).1) < ((vR V (e + 1)).1 - (vR V e).1) * ((vR V v).2 - (vR V e).2) := fun e' k' q1 q2 q3 q4 q5 q6 q7 => by
      have s := c.1 e' q1 k' q2 q3 q4
      rw [side_vR hne q1 q2, vR_congr q5, vR_congr q6, vR_congr q7] at s
      exact (side_pos h _ _ _).mp s
    generalize hL : low V = L at *
    generalize hn : V.length = n at *
    have hcase : n = 3 ∨ n = 4 ∨ n = 5 ∨ n = 6 := by omega
    refine key ((e + n - L) % n) ((v + n - L) % n) (Nat.mod_lt _ (by omega)) (Nat.mod_lt _ (by omega)) ?_ ?_ ?_ ?_ ?_ <;> rcases hcase with rfl | rfl | rfl | rfl <;> (try split) <;> omega
  · rintro ⟨h3, c⟩
    have hne : V ≠ [] := fun q => by rw [q] at h3; simp at h3
    have hl := (pfold_low V hne).1
    refine ⟨fun e he k hk k1 k2 => ?_, by omega⟩
    rw [side_vR hne he hk]
    refine (side_pos h _ _ _).mpr ?_
    have key : ∀ e' v', e' < V.length → e' + 2 ≤ v' → v' < e' + V.length → e' % V.length = (low V + e) % V.length → (e' + 1) % V.length = (low V + e + 1) % V.length → v' % V.length = (low V + k) % V.length → ((vR V (low V + e + 1)).2 - (vR V (low V + e)).2) * ((vR V (low V + k)).1 - (vR V (low V + e)).1) < ((vR V (low V + e + 1)).1 - (vR V (low V + e)).1) * ((vR V (low V + k)).2 - (vR V (low V + e)).2) := fun e' v' q1 q2 q3 q5 q6 q7 => by
      have s := c e' q1 v' q2 q3
      rwa [vR_congr q5, vR_congr q6, vR_congr q7] at s
    generalize hL : low V = L at *
    generalize hn : V.length = n at *
    have hcase : n = 3 ∨ n = 4 ∨ n = 5 ∨ n = 6 := by omega
    refine key ((L + e) % n) ((L + e) % n + (k + n - e) % n) (Nat.mod_lt _ (by omega)) ?_ ?_ ?_ ?_ ?_ <;> rcases hcase with rfl | rfl | rfl | rfl <;> (try split at k2) <;> omega
theorem nmV_b {cs : List Int32} {p : Nat} (h : dgB cs (nmQ cs p) = true) : -9 ≤ (nmV cs p).toInt ∧ (nmV cs p).toInt ≤ 9 := by
  obtain ⟨h1, h2⟩ := dg_range h
  rw [Int32.le_iff_toInt_le] at h1 h2
  have e0 : (0 : Int32).toInt = 0 := by decide
  have e9 : (9 : Int32).toInt = 9 := by decide
  rw [e0] at h1; rw [e9] at h2
  unfold nmV sgnP
  split
  · have := i32_mulE (x := -1) (y := dgV cs (nmQ cs p)) (by decide) (by decide) (by omega) (by omega)
    have em : (-1 : Int32).toInt = -1 := by decide
    rw [this.1, em]; omega
  · rw [Int32.one_mul]; omega
